/-! the class: what is kept, what passes, deeds -/
theorem Fr.tI {P : Nat → Prop} {d e : sk_D} {a k : Nat} {v : Int32} (h : Fr P d e) (ha : P a) : Fr P d (sk_uI e a k v) := h.trans (Fr.uI _ ha)
theorem Fr.tJ {P : Nat → Prop} {d e : sk_D} {a k : Nat} {v : Int64} (h : Fr P d e) (ha : P a) : Fr P d (sk_uJ e a k v) := h.trans (Fr.uJ _ ha)
theorem f_bc : ∀ j, j < 1024 → ∀ (S : sk_S) (d : sk_D), fJ6_bitCount_0f7a4 S d (nI j) = some (pc (nI j)) := by
  intro j hj S d
  exact congrArg some ((by decide +kernel : ∀ j, j < 1024 → (match fJ6_bitCount_0f7a4 (((0, 0), fun _ => (0, 0), fun _ _ => 0) : sk_S) ((fun _ _ => 0, fun _ _ => 0) : sk_D) (nI j) with
    | some x => x
    | none => 0) = pc (nI j)) j hj)
theorem Fr.scr20 {d e : sk_D} (h : Fr (fun b => b = 20) d e) : Fr scr d e := h.mono (fun b hb => by unfold scr; omega)
theorem c_give {S : sk_S} {d : sk_D} {L : LF} (hS : Sh S) (hk : okL L) (hc : cL d 3 L) {j l : Nat} (hj : j < lf_n L) (hl : l < 256) (slip : Int32) :
    ∃ d', fX9_give S d 2 (nI j) (nI l) slip = some d' ∧ Fr (fun b => b = 20) d d' ∧ ∀ i, i < 6 → d'.1 20 i = gv L j (nI l) slip i := by
  have hn := hk.1
  have v0 := hc.2.2.2.2.1 0 j (by omega) hj
  have v1 := hc.2.2.2.2.1 1 j (by omega) hj
  have hR : ∀ e, Fr (fun b => b = 20) d e → fX2_roomLeft S e 3 (nI l) = some (rl L (nI l)) := fun e he => c_room hS hk (hc.fr he.scr20) _
  unfold fX9_give
  rw [show (0 : Int32) = nI 0 from rfl, show (1 : Int32) = nI 1 from rfl, show (2 : Int32) = nI 2 from rfl, show (3 : Int32) = nI 3 from rfl, show (4 : Int32) = nI 4 from rfl, show (5 : Int32) = nI 5 from rfl]
  simp (disch := omega) only [Option.bind_some, ↓reduceIte, nI_leI, nI_ltI, nI_eq, nI_1, kd2 hS, gi2 hS, pi2 hS, gr2_0 hS, gr2_1 hS, gr2_2 hS, gr2_3 hS, kd3 hS, gi3 hS, pi3 hS, gr3_5 hS, gr3_6 hS, gr3_7 hS, gr3_8 hS, gr3_9 hS, gr3_10 hS, gr3_11 hS, gr3_12 hS, gr3_13 hS, gr3_14 hS, kd4 hS, al4 hS, li4 hS, si4 hS, kd5 hS, al5 hS, li5 hS, si5 hS, kd20 hS, al20 hS, li20 hS, si20 hS, f_bc l]
  rw [hR]
  · simp (disch := omega) only [Option.bind_some, ↓reduceIte, nI_leI, nI_ltI, nI_eq, nI_1, kd2 hS, gi2 hS, pi2 hS, gr2_0 hS, gr2_1 hS, gr2_2 hS, gr2_3 hS, kd3 hS, gi3 hS, pi3 hS, gr3_5 hS, gr3_6 hS, gr3_7 hS, gr3_8 hS, gr3_9 hS, gr3_10 hS, gr3_11 hS, gr3_12 hS, gr3_13 hS, gr3_14 hS, kd20 hS, al20 hS, li20 hS, si20 hS]
    refine ⟨_, rfl, ?_, ?_⟩
    · exact Fr.tI (Fr.tI (Fr.tI (Fr.tI (Fr.tI (Fr.tI (Fr.refl _ _) rfl) rfl) rfl) rfl) rfl) rfl
    · intro i hi
      rw [show (3 + 1 + 0 : Nat) = 4 from rfl] at v0
      rw [show (3 + 1 + 1 : Nat) = 5 from rfl] at v1
      have e1 : ∀ (x : sk_D) (k : Nat) (v : Int32), (sk_uI x 20 k v).1 4 = x.1 4 := fun x k v => uI_a _ _ _ _ _ (by decide)
      have e2 : ∀ (x : sk_D) (k : Nat) (v : Int32), (sk_uI x 20 k v).1 5 = x.1 5 := fun x k v => uI_a _ _ _ _ _ (by decide)
      rcases (by omega : i = 0 ∨ i = 1 ∨ i = 2 ∨ i = 3 ∨ i = 4 ∨ i = 5) with rfl | rfl | rfl | rfl | rfl | rfl <;> simp [sk_uI, gv, v0, v1]
  · exact Fr.tI (Fr.tI (Fr.tI (Fr.tI (Fr.refl _ _) rfl) rfl) rfl) rfl
theorem ix_256 (j l : Nat) : nI j * (256 : Int32) + nI l = nI (256 * j + l) := by
  rw [show (256 : Int32) = nI 256 from rfl, pk_mul, nI_add, Nat.mul_comm]
theorem cK.fr {d e : sk_D} {L : LF} (h : cK d L) (h1 : e.1 18 = d.1 18) (h2 : e.1 19 = d.1 19) : cK e L := by
  unfold cK
  rw [h1, h2]
  exact h
theorem told_eq {S : sk_S} {d : sk_D} {L : LF} (hS : Sh S) (hk : okL L) (hc : cL d 3 L) : fX1_told S d 12 = some (!(lf_w L 0).isEmpty) ∧ fX1_told S d 15 = some (!(lf_w L 1).isEmpty) := by
  have key : ∀ (w : List Int32), w.length ≤ 900 → (if nI w.length ≤ 0 then some false else some true : Option Bool) = some (!w.isEmpty) := by
    intro w hw
    cases w with
    | nil => rfl
    | cons x r =>
      rw [if_neg (nI_nle (by simp) (by simp at hw ⊢; omega))]
      rfl
  constructor
  · unfold fX1_told
    simp (disch := omega) only [Option.bind_some, ↓reduceIte, nI_leI, nI_ltI, nI_eq, nI_1, kd12 hS, gi12 hS, pi12 hS, gr12_0 hS, gr12_1 hS]
    rw [hc.2.2.2.2.2.2.1.1]
    exact key _ hk.2.2.2.2.2.1.1
  · unfold fX1_told
    simp (disch := omega) only [Option.bind_some, ↓reduceIte, nI_leI, nI_ltI, nI_eq, nI_1, kd15 hS, gi15 hS, pi15 hS, gr15_0 hS, gr15_1 hS]
    rw [hc.2.2.2.2.2.2.2.1]
    exact key _ hk.2.2.2.2.2.2.1
theorem c_keeps {S : sk_S} {d : sk_D} {L : LF} (h : CI S d L) {j l : Nat} (hj : j < lf_n L) (hl : l < 256) :
    ∃ d', fX9_keepsStub S d 2 (nI j) (nI l) = some (keeps L j (nI l), d') ∧ CI S d' L ∧ Fr scr d d' := by
  obtain ⟨hS, hk, hc, hK⟩ := h
  have hn := hk.1
  have fin : ∀ (e : sk_D) (b : Bool), b = keeps L j (nI l) → cL e 3 L → Fr scr d e → e.1 18 = d.1 18 → e.1 19 = d.1 19 → ∃ d', fX9_keepsStub_J94 S 2 (nI (256 * j + l)) (if b = true then 1 else 0) e = some (keeps L j (nI l), d') ∧ CI S d' L ∧ Fr scr d d' := by
    intro e b hb ce fe k1 k2
    unfold fX9_keepsStub_J94
    have step : ∀ x : Int32, x = (if keeps L j (nI l) = true then 2 else 1) → CI S (sk_uI e 18 (256 * j + l) x) L ∧ Fr scr d (sk_uI e 18 (256 * j + l) x) := by
      intro x hx
      have f2 : Fr scr e (sk_uI e 18 (256 * j + l) x) := Fr.uI _ (by unfold scr; omega)
      refine ⟨⟨hS, hk, ce.fr f2, ?_, ?_⟩, fe.trans f2⟩
      · intro j2 l2 hj2 hl2
        by_cases q : 256 * j2 + l2 = 256 * j + l
        · have : j2 = j ∧ l2 = l := by omega
          obtain ⟨rfl, rfl⟩ := this
          rw [uI_s, hx]
          right; rfl
        · rw [uI_k _ _ _ _ _ q, k1]
          exact hK.1 j2 l2 hj2 hl2
      · intro j2 l2 s hj2 hl2 hs
        rw [uI_a _ _ _ 19 _ (by decide), k2]
        exact hK.2 j2 l2 s hj2 hl2 hs
    cases b with
    | false =>
      simp (disch := omega) only [Bool.false_eq_true, kd2 hS, gi2 hS, pi2 hS, gr2_0 hS, gr2_1 hS, gr2_2 hS, gr2_3 hS, kd18 hS, al18 hS, li18 hS, si18 hS, Option.bind_some, ↓reduceIte, nI_leI, nI_ltI, nI_eq, nI_1]
      obtain ⟨a1, a2⟩ := step (vp_nar .byte ((1 : Int32).toInt8.toInt32)) (by rw [← hb]; rfl)
      rw [uI_s]
      exact ⟨_, by rw [← hb]; rfl, a1, a2⟩
    | true =>
      have n1 : ¬ (1 : Int32) = 0 := by decide
      simp (disch := omega) only [kd2 hS, gi2 hS, pi2 hS, gr2_0 hS, gr2_1 hS, gr2_2 hS, gr2_3 hS, kd18 hS, al18 hS, li18 hS, si18 hS, Option.bind_some, ↓reduceIte, nI_leI, nI_ltI, nI_eq, nI_1, n1]
      obtain ⟨a1, a2⟩ := step (vp_nar .byte ((2 : Int32).toInt8.toInt32)) (by rw [← hb]; rfl)
      rw [uI_s]
      exact ⟨_, by rw [← hb]; rfl, a1, a2⟩
  unfold fX9_keepsStub
  rw [ix_256]
  have b1 : ¬ nI (256 * j + l) < 0 := nI_pos (by omega)
  have b2 : 256 * j + l < 2048 := by omega
  simp (disch := omega) only [Option.bind_some, ↓reduceIte, nI_leI, nI_ltI, nI_eq, nI_1, b1, b2, kd2 hS, gi2 hS, pi2 hS, gr2_0 hS, gr2_1 hS, gr2_2 hS, gr2_3 hS, kd3 hS, gi3 hS, pi3 hS, gr3_5 hS, gr3_6 hS, gr3_7 hS, gr3_8 hS, gr3_9 hS, gr3_10 hS, gr3_11 hS, gr3_12 hS, gr3_13 hS, gr3_14 hS, kd4 hS, al4 hS, li4 hS, si4 hS, kd18 hS, al18 hS, li18 hS, si18 hS]
  by_cases z : d.1 18 (256 * j + l) = 0
  · rw [if_pos z]
    obtain ⟨d1, g1, g2, g3⟩ := c_give hS hk hc hj hl 0
    have c1 := hc.fr g2.scr20
    have q18 : d1.1 18 = d.1 18 := g2.i (by decide)
    have q19 : d1.1 19 = d.1 19 := g2.i (by decide)
    have v0 := c1.2.2.2.2.1 0 j (by omega) hj
    rw [show (3 + 1 + 0 : Nat) = 4 from rfl] at v0
    have tl := (told_eq hS hk c1).1
    simp (disch := omega) only [Option.bind_some, ↓reduceIte, nI_leI, nI_ltI, nI_eq, nI_1, g1, c_room hS hk c1, kd2 hS, gi2 hS, pi2 hS, gr2_0 hS, gr2_1 hS, gr2_2 hS, gr2_3 hS, kd3 hS, gi3 hS, pi3 hS, gr3_5 hS, gr3_6 hS, gr3_7 hS, gr3_8 hS, gr3_9 hS, gr3_10 hS, gr3_11 hS, gr3_12 hS, gr3_13 hS, gr3_14 hS, kd4 hS, al4 hS, li4 hS, si4 hS, kd12 hS, gi12 hS, pi12 hS, gr12_0 hS, gr12_1 hS, v0, tl]
    by_cases lt : rl L (nI l) < lf_v L 0 j
    · rw [if_pos lt]
      unfold fX9_keepsStub_J93
      refine fin d1 false ?_ c1 g2.scr20 q18 q19
      unfold keeps
      rw [decide_eq_false (by rw [Int32.not_le]; exact lt)]
      rfl
    · rw [if_neg lt]
      have le : lf_v L 0 j ≤ rl L (nI l) := by rw [← Int32.not_lt]; exact lt
      by_cases em : (lf_w L 0).isEmpty = true
      · simp only [em, Bool.not_true, Bool.false_eq_true, ↓reduceIte]
        unfold fX9_keepsStub_J89
        refine fin d1 true ?_ c1 g2.scr20 q18 q19
        unfold keeps
        rw [decide_eq_true le, em]
        rfl
      · have em2 : (lf_w L 0).isEmpty = false := by simpa using em
        simp only [em2, Bool.not_false, ↓reduceIte]
        obtain ⟨d2, a1, a2⟩ := c_holds hS (Or.inl rfl) c1.2.2.2.2.2.2.1 hk.2.2.2.2.2.1 (by intro q; rw [q] at em; exact em rfl) g3
        have f2 : Fr scr d1 d2 := a2.mono (fun b hb => by unfold scr; omega)
        simp (disch := omega) only [Option.bind_some, ↓reduceIte, nI_leI, nI_ltI, nI_eq, nI_1, a1, kd2 hS, gi2 hS, pi2 hS, gr2_0 hS, gr2_1 hS, gr2_2 hS, gr2_3 hS, kd3 hS, gi3 hS, pi3 hS, gr3_5 hS, gr3_6 hS, gr3_7 hS, gr3_8 hS, gr3_9 hS, gr3_10 hS, gr3_11 hS, gr3_12 hS, gr3_13 hS, gr3_14 hS, kd12 hS, gi12 hS, pi12 hS, gr12_0 hS, gr12_1 hS]
        have p18 : d2.1 18 = d.1 18 := (a2.i (by decide)).trans q18
        have p19 : d2.1 19 = d.1 19 := (a2.i (by decide)).trans q19
        have kk : ev (gv L j (nI l) 0) (lf_w L 0) = keeps L j (nI l) := by
          unfold keeps
          rw [decide_eq_true le, em2]
          simp
        cases hev : ev (gv L j (nI l) 0) (lf_w L 0) with
        | false =>
          simp only [Bool.false_eq_true, ↓reduceIte]
          unfold fX9_keepsStub_J93
          exact fin d2 false (by rw [← kk, hev]) (c1.fr f2) (g2.scr20.trans f2) p18 p19
        | true =>
          simp only [↓reduceIte]
          unfold fX9_keepsStub_J89
          exact fin d2 true (by rw [← kk, hev]) (c1.fr f2) (g2.scr20.trans f2) p18 p19
  · rw [if_neg z]
    rcases hK.1 j l hj hl with q | q
    · exact absurd q z
    · rw [q]
      cases keeps L j (nI l) with
      | false => exact ⟨d, rfl, ⟨hS, hk, hc, hK⟩, Fr.refl _ _⟩
      | true => exact ⟨d, rfl, ⟨hS, hk, hc, hK⟩, Fr.refl _ _⟩
theorem c_passes {S : sk_S} {d : sk_D} {L : LF} (h : CI S d L) {j l z : Nat} (hj : j < lf_n L) (hl : l < 256) (hz : z < 10) :
    ∃ d', fX9_passesStub S d 2 (nI j) (nI l) (nI z) = some (passes L j (nI l) (nI z), d') ∧ CI S d' L ∧ Fr scr d d' := by
  obtain ⟨hS, hk, hc, hK⟩ := h
  have hn := hk.1
  unfold fX9_passesStub
  rw [ix_256]
  have b1 : ¬ nI (256 * j + l) < 0 := nI_pos (by omega)
  have b2 : ¬ 2048 ≤ 256 * j + l := by omega
  have tl := (told_eq hS hk hc).2
  simp (disch := omega) only [Option.bind_some, ↓reduceIte, nI_leI, nI_ltI, nI_eq, nI_1, b1, b2, kd2 hS, gi2 hS, pi2 hS, gr2_0 hS, gr2_1 hS, gr2_2 hS, gr2_3 hS, kd3 hS, gi3 hS, pi3 hS, gr3_5 hS, gr3_6 hS, gr3_7 hS, gr3_8 hS, gr3_9 hS, gr3_10 hS, gr3_11 hS, gr3_12 hS, gr3_13 hS, gr3_14 hS, kd15 hS, gi15 hS, pi15 hS, gr15_0 hS, gr15_1 hS, kd19 hS, al19 hS, li19 hS, si19 hS, tl]
  by_cases em : (lf_w L 1).isEmpty = true
  · simp only [em, Bool.not_true, Bool.false_eq_true, ↓reduceIte]
    refine ⟨d, ?_, ⟨hS, hk, hc, hK⟩, Fr.refl _ _⟩
    unfold passes
    rw [em]
    rfl
  · have em2 : (lf_w L 1).isEmpty = false := by simpa using em
    simp only [em2, Bool.not_false, ↓reduceIte]
    have z16 : nI z + (16 : Int32) = nI (z + 16) := by rw [show (16 : Int32) = nI 16 from rfl, nI_add]
    have fin : ∀ (e : sk_D), CI S e L → Fr scr d e → bt (e.1 19 (256 * j + l)) (z + 16) = passes L j (nI l) (nI z) → ∃ d', fX9_passesStub_J95 S 2 (nI z) (nI (256 * j + l)) e = some (passes L j (nI l) (nI z), d') ∧ CI S d' L ∧ Fr scr d d' := by
      intro e he fe hb
      unfold fX9_passesStub_J95
      rw [z16]
      simp (disch := omega) only [Option.bind_some, ↓reduceIte, nI_leI, nI_ltI, nI_eq, nI_1, kd2 hS, gi2 hS, pi2 hS, gr2_0 hS, gr2_1 hS, gr2_2 hS, gr2_3 hS, kd19 hS, al19 hS, li19 hS, si19 hS, t_1, hb]
      cases passes L j (nI l) (nI z) with
      | false => exact ⟨e, rfl, he, fe⟩
      | true => exact ⟨e, rfl, he, fe⟩
    simp (disch := omega) only [t_0]
    cases hb : bt (d.1 19 (256 * j + l)) z with
    | true =>
      simp only [Bool.true_eq_false, ↓reduceIte]
      exact fin d ⟨hS, hk, hc, hK⟩ (Fr.refl _ _) (by rw [hK.2 j l z hj hl hz, hb]; rfl)
    | false =>
      simp only [↓reduceIte]
      obtain ⟨d1, g1, g2, g3⟩ := c_give hS hk hc hj hl (nI z)
      have c1 := hc.fr g2.scr20
      have q18 : d1.1 18 = d.1 18 := g2.i (by decide)
      have q19 : d1.1 19 = d.1 19 := g2.i (by decide)
      have ne : lf_w L 1 ≠ [] := by intro q; rw [q] at em; exact em rfl
      obtain ⟨d2, a1, a2⟩ := c_holds hS (Or.inr rfl) c1.2.2.2.2.2.2.2 hk.2.2.2.2.2.2 ne g3
      have f2 : Fr scr d1 d2 := a2.mono (fun b hb => by unfold scr; omega)
      have p18 : d2.1 18 = d.1 18 := (a2.i (by decide)).trans q18
      have p19 : d2.1 19 = d.1 19 := (a2.i (by decide)).trans q19
      have ps : passes L j (nI l) (nI z) = ev (gv L j (nI l) (nI z)) (lf_w L 1) := by
        unfold passes
        rw [em2]
        rfl
      simp (disch := omega) only [Option.bind_some, ↓reduceIte, nI_leI, nI_ltI, nI_eq, nI_1, g1, a1, kd2 hS, gi2 hS, pi2 hS, gr2_0 hS, gr2_1 hS, gr2_2 hS, gr2_3 hS, kd3 hS, gi3 hS, pi3 hS, gr3_5 hS, gr3_6 hS, gr3_7 hS, gr3_8 hS, gr3_9 hS, gr3_10 hS, gr3_11 hS, gr3_12 hS, gr3_13 hS, gr3_14 hS, kd15 hS, gi15 hS, pi15 hS, gr15_0 hS, gr15_1 hS, kd19 hS, al19 hS, li19 hS, si19 hS, q19]
      have st : ∀ x : Int32, (∀ i, i < 16 → bt x i = decide (i = 0)) → (∀ i, i < 16 → bt x (i + 16) = (decide (i = 0) && passes L j (nI l) (nI z))) →
          ∃ d', fX9_passesStub_J91 S 2 (nI z) (nI (256 * j + l)) 19 (nI (256 * j + l)) (d.1 19 (256 * j + l)) x d2 = some (passes L j (nI l) (nI z), d') ∧ CI S d' L ∧ Fr scr d d' := by
        intro x hx1 hx2
        unfold fX9_passesStub_J91
        simp (disch := omega) only [Option.bind_some, ↓reduceIte, nI_leI, nI_ltI, nI_eq, nI_1, kd19 hS, al19 hS, li19 hS, si19 hS]
        have f3 : Fr scr d2 (sk_uI d2 19 (256 * j + l) (d.1 19 (256 * j + l) ||| x <<< (nI z &&& 31))) := Fr.uI _ (by unfold scr; omega)
        have hbits : ∀ s, s < 10 → bt (d.1 19 (256 * j + l) ||| x <<< (nI z &&& 31)) s = (bt (d.1 19 (256 * j + l)) s || decide (s = z)) ∧
            bt (d.1 19 (256 * j + l) ||| x <<< (nI z &&& 31)) (s + 16) = (bt (d.1 19 (256 * j + l)) (s + 16) || (decide (s = z) && passes L j (nI l) (nI z))) := by
          intro s hs
          rw [b_or, b_or, b_shl z (by omega) x (by omega), b_shl z (by omega) x (by omega)]
          constructor
          · by_cases q : z ≤ s
            · rw [hx1 (s - z) (by omega)]
              by_cases q2 : s = z
              · subst q2; simp
              · simp [q2, show ¬ s - z = 0 by omega]
            · simp [q, show ¬ s = z by omega]
          · by_cases q : s < z
            · rw [hx1 (s + 16 - z) (by omega)]
              simp [show ¬ s = z by omega, show ¬ s + 16 - z = 0 by omega]
            · rw [show s + 16 - z = (s - z) + 16 by omega, hx2 (s - z) (by omega)]
              by_cases q2 : s = z
              · subst q2; simp
              · simp [q2, show ¬ s - z = 0 by omega]
        refine fin _ ⟨hS, hk, (c1.fr f2).fr f3, ?_, ?_⟩ ((g2.scr20.trans f2).trans f3) ?_
        · intro j2 l2 hj2 hl2
          rw [uI_a _ _ _ 18 _ (by decide), p18]
          exact hK.1 j2 l2 hj2 hl2
        · intro j2 l2 s hj2 hl2 hs
          by_cases q : 256 * j2 + l2 = 256 * j + l
          · have : j2 = j ∧ l2 = l := by omega
            obtain ⟨rfl, rfl⟩ := this
            rw [uI_s, (hbits s hs).1, (hbits s hs).2, hK.2 _ _ s hj2 hl2 hs]
            by_cases q2 : s = z
            · subst q2
              rw [hb]
              simp
            · simp [q2]
          · rw [uI_k _ _ _ _ _ q, p19]
            exact hK.2 j2 l2 s hj2 hl2 hs
        · rw [uI_s, (hbits z hz).2, hK.2 _ _ z hj hl hz, hb]
          simp
      cases hev : ev (gv L j (nI l) (nI z)) (lf_w L 1) with
      | false =>
        simp only [Bool.false_eq_true, ↓reduceIte]
        rw [hev] at ps
        refine st 1 (fun i hi => b_1 i) (fun i hi => ?_)
        rw [b_1, ps]
        simp
      | true =>
        simp only [↓reduceIte]
        rw [hev] at ps
        rw [ps] at st
        rw [ps]
        refine st 65537 (by decide +kernel) (by decide +kernel)
