/-! trays -/
theorem rT52 : ∀ j, j < 4 → rT 52 j = 56 + 2 * j := by decide
theorem tkd {S : sk_S} (hS : Sh S) {j : Nat} (hj : j < 4) : S.2.1 (56 + 2 * j) = (6, 0) := by
  rcases (by omega : j = 0 ∨ j = 1 ∨ j = 2 ∨ j = 3) with rfl | rfl | rfl | rfl
  · exact kd56 hS
  · exact kd58 hS
  · exact kd60 hS
  · exact kd62 hS
theorem tka {S : sk_S} (hS : Sh S) {j : Nat} (hj : j < 4) : S.2.1 (57 + 2 * j) = (21, 40) := by
  rcases (by omega : j = 0 ∨ j = 1 ∨ j = 2 ∨ j = 3) with rfl | rfl | rfl | rfl
  · exact kd57 hS
  · exact kd59 hS
  · exact kd61 hS
  · exact kd63 hS
theorem tgi {S : sk_S} (hS : Sh S) {j : Nat} (hj : j < 4) (d : sk_D) (k : Nat) : sk_gI S d (56 + 2 * j) 6 k = some (d.1 (56 + 2 * j) k) := if_pos (tkd hS hj)
theorem tpi {S : sk_S} (hS : Sh S) {j : Nat} (hj : j < 4) (d : sk_D) (k : Nat) (v : Int32) : sk_pI S d (56 + 2 * j) 6 k v = some (sk_uI d (56 + 2 * j) k v) := if_pos (tkd hS hj)
theorem tgr {S : sk_S} (hS : Sh S) {j : Nat} (hj : j < 4) : sk_gR S (56 + 2 * j) 6 0 = some (57 + 2 * j) := by
  rcases (by omega : j = 0 ∨ j = 1 ∨ j = 2 ∨ j = 3) with rfl | rfl | rfl | rfl
  · exact gr56_0 hS
  · exact gr58_0 hS
  · exact gr60_0 hS
  · exact gr62_0 hS
theorem tal {S : sk_S} (hS : Sh S) {j : Nat} (hj : j < 4) : sk_al S (57 + 2 * j) 21 = some (nI 40) := by unfold sk_al; rw [tka hS hj]; rfl
theorem tlj {S : sk_S} (hS : Sh S) {j : Nat} (hj : j < 4) (d : sk_D) {i : Nat} (hi : i < 40) : sk_lJ S d (57 + 2 * j) (nI i) = some (d.2 (57 + 2 * j) i) := by
  unfold sk_lJ; rw [tka hS hj, if_pos ⟨rfl, nI_in hi (by decide)⟩, nI_clamp (by omega)]
theorem tsj {S : sk_S} (hS : Sh S) {j : Nat} (hj : j < 4) (d : sk_D) (v : Int64) {i : Nat} (hi : i < 40) : sk_sJ S d (57 + 2 * j) (nI i) v = some (sk_uJ d (57 + 2 * j) i v) := by
  unfold sk_sJ; rw [tka hS hj, if_pos ⟨rfl, nI_in hi (by decide)⟩, nI_clamp (by omega)]
def updT (tr : Nat → Option (Int32 × List Int64)) (j : Nat) (o : Option (Int32 × List Int64)) : Nat → Option (Int32 × List Int64) := fun i => if i = j then o else tr i
def aTR (A : AS) (tr : Nat → Option (Int32 × List Int64)) : AS := (A.1, A.2.1, A.2.2.1, A.2.2.2.1, A.2.2.2.2.1, tr, A.2.2.2.2.2.2)
theorem RC.tray {S : sk_S} {d e : sk_D} {A : AS} {j : Nat} (hj : j < 4) {o : Option (Int32 × List Int64)} (h : RC S d A) (f : Fr (fun b => b = 56 + 2 * j ∨ b = 57 + 2 * j) d e) (ho : cTr e (56 + 2 * j) o) : RC S e (aTR A (updT (as_tr A) j o)) := by
  have fi : ∀ b, ¬ (b = 56 + 2 * j ∨ b = 57 + 2 * j) → e.1 b = d.1 b := fun b hb => f.i hb
  have fj : ∀ b, ¬ (b = 56 + 2 * j ∨ b = 57 + 2 * j) → e.2 b = d.2 b := fun b hb => f.j hb
  obtain ⟨⟨hS, hk, hc, hK⟩, hp, ht, hf, hr, hi, hw⟩ := h
  refine ⟨⟨hS, hk, hc.same (fun b _ _ _ => fi b (by omega)), hK.fr (fi 18 (by omega)) (fi 19 (by omega))⟩, ?_, ?_, ?_, ?_, ?_, ?_⟩
  · show rcP e (as_m A) (as_ps A)
    unfold rcP; rw [fi 50 (by omega), fi 51 (by omega)]; exact hp
  · show rcT e (as_tp A)
    unfold rcT; rw [fi 1 (by omega), fi 55 (by omega)]; exact ht
  · rw [fi 21 (by omega)]; exact hf
  · intro t h4
    show cTr e (56 + 2 * t) (updT (as_tr A) j o t)
    unfold updT
    by_cases c : t = j
    · subst c; rw [if_pos rfl]; exact ho
    · rw [if_neg c]; exact (hr t h4).same (fi _ (by omega)) (fj _ (by omega))
  · intro i h2; exact (hi i h2).same h2 (fun b _ => fi b (by omega))
  · exact hw.same (fun b hb => fi b (by omega))
def x_noTray (A : AS) (p : Int32) : Int32 := if inN 4 p then (if (as_tr A p.toNatClampNeg).isNone = true then -6 else 0) else -2
theorem x_noTray_j (A : AS) {j : Nat} (hj : j < 4) : x_noTray A (nI j) = if (as_tr A j).isNone = true then -6 else 0 := by
  unfold x_noTray
  rw [if_pos (inN_nI hj (by omega)), nI_clamp (by omega)]
theorem x_noTray_0 {A : AS} {p : Int32} (h : x_noTray A p = 0) : ∃ j x, j < 4 ∧ p = nI j ∧ as_tr A j = some x := by
  unfold x_noTray at h
  by_cases q : inN 4 p
  · obtain ⟨j, hj, rfl⟩ := inN_of q
    rw [if_pos q, nI_clamp (by omega)] at h
    cases hx : as_tr A j with
    | none => rw [hx] at h; exact absurd h (by decide)
    | some x => exact ⟨j, x, hj, rfl, hx⟩
  · rw [if_neg q] at h; exact absurd h (by decide)
theorem c_noTray {S : sk_S} {d : sk_D} {A : AS} (h : RC S d A) (p : Int32) : fX10_noTray S d 1 p = some (x_noTray A p) := by
  have hS := h.1.1
  unfold fX10_noTray
  by_cases q : inN 4 p
  · obtain ⟨j, hj, rfl⟩ := inN_of q
    rw [x_noTray_j A hj]
    have h0 : ¬ nI j < 0 := nI_pos (by omega)
    have h4 : nI j < 4 := nI_lt (b := 4) hj (by omega)
    have ht := h.2.2.2.2.1 j hj
    simp (disch := omega) only [Option.bind_some, ↓reduceIte, h0, h4, kd1 hS, gi1 hS, pi1 hS, gr1_0 hS, gr1_1 hS, gr1_2 hS, gr1_3 hS, gr1_4 hS, gr1_5 hS, gr1_6 hS, gr1_7 hS, gr1_8 hS, gr1_9 hS, kd52 hS, lr52 hS, rT52, tgi hS hj]
    unfold cTr at ht
    cases hx : as_tr A j with
    | none => rw [hx] at ht; simp only [ht, Option.isNone_none, ↓reduceIte]
    | some x =>
      rw [hx] at ht
      have n1 : ¬ (1 : Int32) = 0 := by decide
      simp only [ht.1, n1, Option.isNone_some, Bool.false_eq_true, ↓reduceIte]
  · unfold x_noTray
    rw [if_neg q]
    by_cases h0 : p < 0
    · rw [if_pos h0]
    · rw [if_neg h0, if_neg]
      rw [fa_lt, show (0 : Int32).toInt = 0 from rfl] at h0
      rw [fa_lt, show (4 : Int32).toInt = 4 from rfl]
      simp only [inN] at q
      omega
theorem w_in {p : Int32} (n : Nat) (b : Int64) (hb : b.toInt = (n : Int) - 1) : (0 ≤ p.toInt64 ∧ p.toInt64 ≤ b) ↔ inN n p := by
  rw [fa_le64, fa_le64, Int32.toInt_toInt64, hb, show (0 : Int64).toInt = 0 from rfl]
  simp only [inN]
  omega
theorem m_noTray {S : sk_S} {d : sk_D} {A : AS} (h : RM S d A) (hA : okA A) (p : Int32) : fX11_noTray S d 94 p = some (x_noTray A p) := by
  have hS := h.1.1
  unfold fX11_noTray
  rw [f_within, Option.bind_some]
  have e := w_in (p := p) 4 3 rfl
  by_cases q : inN 4 p
  · rw [decide_eq_true (e.mpr q), if_pos rfl]
    obtain ⟨j, hj, rfl⟩ := inN_of q
    rw [x_noTray_j A hj]
    have ht := h.2.2.2.2.1 j hj
    simp (disch := omega) only [Option.bind_some, ↓reduceIte, kd94 hS, gi94 hS, pi94 hS, gr94_1 hS, gr94_2 hS, gr94_3 hS, gr94_4 hS, gr94_16 hS, gr94_17 hS, gr94_18 hS, gr94_21 hS, gr94_22 hS, gr94_23 hS, gr94_24 hS, gr94_26 hS, gr94_27 hS, gr94_28 hS, gr94_29 hS, gr94_30 hS, gr94_31 hS, gr94_33 hS, gr94_34 hS, gr94_35 hS, gr94_36 hS, li113 hS]
    unfold mTr at ht
    cases hx : as_tr A j with
    | none => rw [hx] at ht; simp only [ht, Option.isNone_none, ↓reduceIte]
    | some x =>
      rw [hx] at ht
      obtain ⟨-, z, hz, ez⟩ := hA.2.2.2.2.2.2.1 j x hx
      have n1 : ¬ nI z = -1 := by
        intro a
        rw [fa_eq, nI_toInt (by omega), show (-1 : Int32).toInt = -1 from rfl] at a
        omega
      simp only [ht.1, ez, n1, Option.isNone_some, Bool.false_eq_true, ↓reduceIte]
  · rw [decide_eq_false (fun a => q (e.mp a)), if_neg (by decide)]
    unfold x_noTray
    rw [if_neg q]
/-- an array of longs, all one number -/
theorem c_fillJ {S : sk_S} {d : sk_D} (hS : Sh S) {j : Nat} (hj : j < 4) (v : Int64) : ∃ d', fJ7_fill_d0a16 S d (57 + 2 * j) v = some d' ∧ Fr (fun b => b = 57 + 2 * j) d d' ∧ d'.1 = d.1 ∧ ∀ i, i < 40 → d'.2 (57 + 2 * j) i = v := by
  unfold fJ7_fill_d0a16
  rw [tal hS hj, Option.bind_some]
  have loop := it_for (body := fJ7_fill_d0a16_L6 S (57 + 2 * j) v (nI 40)) (fun k s => s.1 = nI k ∧ Fr (fun b => b = 57 + 2 * j) d s.2 ∧ s.2.1 = d.1 ∧ ∀ i, i < k → s.2.2 (57 + 2 * j) i = v) 40
    (fun e => Fr (fun b => b = 57 + 2 * j) d e ∧ e.1 = d.1 ∧ ∀ i, i < 40 → e.2 (57 + 2 * j) i = v) ?_ ?_ (s := ((0 : Int32), d)) ⟨rfl, Fr.refl _ _, rfl, fun i hi => by omega⟩
  · obtain ⟨e, he, q⟩ := loop
    exact ⟨e, by rw [he]; rfl, q⟩
  · intro k s hk ⟨i1, i2, i3, i4⟩
    left
    unfold fJ7_fill_d0a16_L6
    rw [i1]
    have hx : ¬ 40 ≤ k := by omega
    simp (disch := omega) only [Option.bind_some, ↓reduceIte, nI_leI, nI_ltI, nI_eq, nI_1, hx, tsj hS hj]
    refine ⟨_, rfl, rfl, i2.tJ rfl, i3, ?_⟩
    intro i hi
    by_cases c : i = k
    · subst c; rw [uJ_s]
    · rw [uJ_k _ _ _ _ _ c]; exact i4 i (by omega)
  · intro s ⟨i1, i2, i3, i4⟩
    unfold fJ7_fill_d0a16_L6
    rw [i1, if_pos (nI_le (Nat.le_refl _) (by omega))]
    exact ⟨_, rfl, i2, i3, i4⟩
theorem getD_rep (n i : Nat) : (List.replicate n (0 : Int64)).getD i 0 = 0 := by
  rw [List.getD_eq_getElem?_getD, List.getElem?_replicate]
  split <;> rfl
def x_numbers (A : AS) (t s n : Int32) : Int32 × AS := if ¬ inN 4 t ∨ ¬ inN 4 s then (-2, A) else if ¬ inN 41 n then (-3, A) else (0, aTR A (updT (as_tr A) t.toNatClampNeg (some (s, List.replicate n.toNatClampNeg 0))))
theorem in_lt {p : Int32} {n : Nat} (hn : n < 2 ^ 31) (M : Int32) (hM : M.toInt = n) : (inN n p → ¬ p < 0 ∧ ¬ M ≤ p ∧ p < M) ∧ (¬ inN n p → ¬ p < 0 → M ≤ p ∧ ¬ p < M) := by
  rw [fa_lt, fa_le, fa_lt, hM, show (0 : Int32).toInt = 0 from rfl]
  simp only [inN]
  omega
theorem in_le {p : Int32} {n : Nat} (M : Int32) (hM : M.toInt = (n : Int) - 1) : (inN n p → ¬ p < 0 ∧ p ≤ M) ∧ (¬ inN n p → ¬ p < 0 → ¬ p ≤ M) := by
  rw [fa_lt, fa_le, hM, show (0 : Int32).toInt = 0 from rfl]
  simp only [inN]
  omega
theorem c_numbers {S : sk_S} {d : sk_D} {A : AS} (h : RC S d A) (t s n : Int32) : ∃ d', fX10_numbers S d 1 t s n = some ((x_numbers A t s n).1, d') ∧ RC S d' (x_numbers A t s n).2 ∧ Fr cls d d' := by
  have hS := h.1.1
  have it := in_lt (p := t) (n := 4) (by omega) 4 rfl
  have is := in_le (p := s) (n := 4) 3 rfl
  have im := in_le (p := n) (n := 41) 40 rfl
  have same : ∀ (v : Int32), ∃ d', (some (v, d) : Option (Int32 × sk_D)) = some (v, d') ∧ RC S d' A ∧ Fr cls d d' := fun v => ⟨d, rfl, h, Fr.refl _ _⟩
  unfold fX10_numbers x_numbers
  by_cases t0 : t < 0
  · have : ¬ inN 4 t := fun a => (it.1 a).1 t0
    rw [if_pos t0, if_pos (Or.inl this)]; exact same _
  · rw [if_neg t0]
    by_cases t4 : 4 ≤ t
    · have : ¬ inN 4 t := fun a => (it.1 a).2.1 t4
      rw [if_pos t4, if_pos (Or.inl this)]; exact same _
    · rw [if_neg t4]
      have ht : inN 4 t := Decidable.not_not.mp (fun a => t4 (it.2 a t0).1)
      by_cases s0 : s < 0
      · have : ¬ inN 4 s := fun a => (is.1 a).1 s0
        rw [if_pos s0, if_pos (Or.inr this)]; exact same _
      · rw [if_neg s0]
        by_cases s3 : s ≤ 3
        · have hs : inN 4 s := Decidable.not_not.mp (fun a => is.2 a s0 s3)
          have hts : ¬ (¬ inN 4 t ∨ ¬ inN 4 s) := by
            intro a
            rcases a with a | a
            · exact a ht
            · exact a hs
          rw [if_pos s3, if_neg hts]
          by_cases n0 : n < 0
          · have : ¬ inN 41 n := fun a => (im.1 a).1 n0
            rw [if_pos n0, if_pos this]; exact same _
          · rw [if_neg n0]
            by_cases n4 : n ≤ 40
            · have hn : inN 41 n := Decidable.not_not.mp (fun a => im.2 a n0 n4)
              rw [if_pos n4, if_neg (fun a => a hn)]
              obtain ⟨j, hj, rfl⟩ := inN_of ht
              obtain ⟨k, hk, rfl⟩ := inN_of hn
              obtain ⟨d1, a1, a2, a3, a4⟩ := c_fillJ (d := d) hS hj 0
              unfold fX6_begin
              simp (disch := omega) only [Option.bind_some, ↓reduceIte, kd1 hS, gi1 hS, pi1 hS, gr1_0 hS, gr1_1 hS, gr1_2 hS, gr1_3 hS, gr1_4 hS, gr1_5 hS, gr1_6 hS, gr1_7 hS, gr1_8 hS, gr1_9 hS, kd52 hS, lr52 hS, rT52, tkd hS hj, tgr hS hj, a1, tpi hS hj]
              rw [nI_clamp (by omega), nI_clamp (by omega)]
              have f : Fr (fun b => b = 56 + 2 * j ∨ b = 57 + 2 * j) d (sk_uI (sk_uI (sk_uI d1 (56 + 2 * j) 1 s) (56 + 2 * j) 2 (nI k)) (56 + 2 * j) 3 1) := Fr.tI (Fr.tI (Fr.tI (a2.mono (fun b hb => Or.inr hb)) (Or.inl rfl)) (Or.inl rfl)) (Or.inl rfl)
              refine ⟨_, rfl, RC.tray hj h f ⟨?_, ?_, ?_, ?_⟩, f.mono (fun b hb => by unfold cls; omega)⟩
              · rw [uI_s]
              · rw [uI_k _ _ _ _ _ (by decide), uI_k _ _ _ _ _ (by decide), uI_s]
              · rw [uI_k _ _ _ _ _ (by decide), uI_s]; simp
              · intro i hi
                simp at hi
                show d1.2 (56 + 2 * j + 1) i = _
                rw [show 56 + 2 * j + 1 = 57 + 2 * j by omega, a4 i (by omega)]
                rw [getD_rep]
            · have : ¬ inN 41 n := fun a => n4 (im.1 a).2
              rw [if_neg n4, if_pos this]; exact same _
        · have : ¬ inN 4 s := fun a => s3 (is.1 a).2
          rw [if_neg s3, if_pos (Or.inr this)]; exact same _
