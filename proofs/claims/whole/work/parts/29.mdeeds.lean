/-! the reference: what deeds do to a stand -/
def MI (S : sk_S) (d : sk_D) (L : LF) : Prop := Sh S ∧ okL L ∧ mL (d.1 95) L
theorem MI.fr {S : sk_S} {d e : sk_D} {L : LF} (h : MI S d L) (f : e.1 95 = d.1 95) : MI S e L := ⟨h.1, h.2.1, by rw [f]; exact h.2.2⟩
theorem scm95 {d e : sk_D} (h : Fr scm d e) : e.1 95 = d.1 95 := h.i (by unfold scm; omega)
theorem and1 (x : Int32) {k : Nat} (hk : k < 32) : ((x >>> (nI k &&& 31)) &&& 1) = if bt x k = true then 1 else 0 := by
  by_cases h : bt x k = true
  · rw [if_pos h]; exact (t_1 x hk).mpr h
  · rw [if_neg h]; exact (t_0 x hk).mpr (by simpa using h)
theorem m_bits (S : sk_S) (d : sk_D) (x : Int32) : fX11_bitsOf S d x = some (pc x) := by
  unfold fX11_bitsOf
  have e := it_eq (body := fX11_bitsOf_L4 x) (fun k => (s3 (fun i => if bt x i = true then 1 else 0) k, nI k)) 10 (pc x) ?_ ?_
  · rw [show ((0 : Int32), (0 : Int32)) = (s3 (fun i => if bt x i = true then 1 else 0) 0, nI 0) from rfl, e]; rfl
  · intro k hk
    unfold fX11_bitsOf_L4
    have hx : ¬ (10 : Int32) ≤ nI k := nI_ge (b := 10) hk (by omega)
    simp (disch := omega) only [hx, ↓reduceIte, nI_1, and1, s3]
  · rfl
theorem rn_cong {g g2 : Nat → Int32} {lim : Nat} : ∀ (w st : List Int32), (∀ c ∈ w, c ≠ (-6 : Int32)) → (∀ i, i < 5 → g i = g2 i) → rn g lim w st = rn g2 lim w st
  | [], st, _, _ => rfl
  | c :: w, st, hw, hg => by
    have e : rs g lim st c = rs g2 lim st c := by
      unfold rs
      by_cases c0 : 0 ≤ c
      · rw [if_pos c0, if_pos c0]
      · rw [if_neg c0, if_neg c0]
        by_cases c6 : (-6 : Int32) ≤ c
        · rw [if_pos c6, if_pos c6]
          obtain ⟨i, hi, ei⟩ := i_neg6 c0 c6
          have i5 : i ≠ 5 := by
            intro q
            apply hw c (by simp)
            subst q
            have e2 : c = (-1 : Int32) - ((-1 : Int32) - c) := by
              rw [Int32.sub_eq_add_neg (-1) c, ← Int32.sub_sub, Int32.sub_self, Int32.sub_eq_add_neg, Int32.zero_add, Int32.neg_neg]
            rw [e2, ei]
            decide
          rw [ei, nI_clamp (by omega), hg i (by omega)]
        · rw [if_neg c6, if_neg c6]
    rw [rn, rn, e]
    congr 1
    funext st2
    exact rn_cong w st2 (fun c hc => hw c (by simp [hc])) hg
theorem m_reckons {S : sk_S} {d : sk_D} {L : LF} (h : MI S d L) {t : Nat} (ht : t < 2) (hne : lf_w L t ≠ []) {m : Int32} (hz : zM L m) {j : Nat} (hj : j < lf_n L) (slip : Int32) :
    ∃ d', fX11_reckons S d 94 (nI t) (stnd m) (nI j) slip = some (ev (gv L j (ln m) slip) (lf_w L t), d') ∧ Fr scm d d' := by
  obtain ⟨hS, hk, hm⟩ := h
  have hn := hk.1
  have v0 := hm.2.2.2.2.1 0 j (by omega) hj
  have v1 := hm.2.2.2.2.1 1 j (by omega) hj
  rw [show 10 + 8 * 0 + j = 10 + j by omega] at v0
  rw [show 10 + 8 * 1 + j = 18 + j by omega] at v1
  have u95 : ∀ (x : sk_D) (k : Nat) (v : Int32), (sk_uI x 100 k v).1 95 = x.1 95 := fun x k v => uI_a _ _ _ _ _ (by decide)
  have a3 : fX11_stubsIn S (sk_uI (sk_uI (sk_uI d 100 0 (nI j)) 100 1 (lf_v L 0 j)) 100 2 (lf_v L 1 j)) 94 (stnd m) = some (ln m) := m_stubs hS hk (by rw [u95, u95, u95]; exact hm) hz
  have a4 : fX11_leftIn S (sk_uI (sk_uI (sk_uI (sk_uI d 100 0 (nI j)) 100 1 (lf_v L 0 j)) 100 2 (lf_v L 1 j)) 100 3 (pc (ln m))) 94 (stnd m) = some (rl L (ln m)) := m_left hS hk (by rw [u95, u95, u95, u95]; exact hm) hz
  have hg : ∀ i, i < 6 → (sk_uI (sk_uI (sk_uI (sk_uI (sk_uI (sk_uI d 100 0 (nI j)) 100 1 (lf_v L 0 j)) 100 2 (lf_v L 1 j)) 100 3 (pc (ln m))) 100 4 (rl L (ln m))) 100 5 slip).1 100 i = gv L j (ln m) slip i := by
    intro i hi
    rcases (by omega : i = 0 ∨ i = 1 ∨ i = 2 ∨ i = 3 ∨ i = 4 ∨ i = 5) with rfl | rfl | rfl | rfl | rfl | rfl <;> simp [sk_uI, gv]
  have hw : mW ((sk_uI (sk_uI (sk_uI (sk_uI (sk_uI (sk_uI d 100 0 (nI j)) 100 1 (lf_v L 0 j)) 100 2 (lf_v L 1 j)) 100 3 (pc (ln m))) 100 4 (rl L (ln m))) 100 5 slip).1 95) t (lf_w L t) := by
    rw [u95, u95, u95, u95, u95, u95]
    rcases (by omega : t = 0 ∨ t = 1) with rfl | rfl
    · exact hm.2.2.2.2.2.2.1
    · exact hm.2.2.2.2.2.2.2
  have hok : okW t (lf_w L t) := by
    rcases (by omega : t = 0 ∨ t = 1) with rfl | rfl
    · exact hk.2.2.2.2.2.1
    · exact hk.2.2.2.2.2.2
  obtain ⟨d', r1, r2, r3⟩ := m_run hS ht hw hok hne hg
  unfold fX11_reckons
  have s0 : ∀ (x : sk_D) (v : Int32), sk_sI S x 100 20 (0 : Int32) v = some (sk_uI x 100 0 v) := fun x v => si100 hS x v (j := 0) (by decide)
  have s1 : ∀ (x : sk_D) (v : Int32), sk_sI S x 100 20 (1 : Int32) v = some (sk_uI x 100 1 v) := fun x v => si100 hS x v (j := 1) (by decide)
  have s2 : ∀ (x : sk_D) (v : Int32), sk_sI S x 100 20 (2 : Int32) v = some (sk_uI x 100 2 v) := fun x v => si100 hS x v (j := 2) (by decide)
  have s3' : ∀ (x : sk_D) (v : Int32), sk_sI S x 100 20 (3 : Int32) v = some (sk_uI x 100 3 v) := fun x v => si100 hS x v (j := 3) (by decide)
  have s4 : ∀ (x : sk_D) (v : Int32), sk_sI S x 100 20 (4 : Int32) v = some (sk_uI x 100 4 v) := fun x v => si100 hS x v (j := 4) (by decide)
  have s5 : ∀ (x : sk_D) (v : Int32), sk_sI S x 100 20 (5 : Int32) v = some (sk_uI x 100 5 v) := fun x v => si100 hS x v (j := 5) (by decide)
  have l0 : ∀ (x : sk_D), sk_lI S x 99 20 (0 : Int32) = some (x.1 99 0) := fun x => li99 hS x (j := 0) (by decide)
  simp (disch := omega) only [Option.bind_some, ↓reduceIte, nI_leI, nI_ltI, nI_eq, nI_1, kd94 hS, gi94 hS, pi94 hS, gr94_1 hS, gr94_2 hS, gr94_3 hS, gr94_4 hS, gr94_16 hS, gr94_17 hS, gr94_18 hS, gr94_21 hS, gr94_22 hS, gr94_23 hS, gr94_24 hS, gr94_26 hS, gr94_27 hS, gr94_28 hS, gr94_29 hS, gr94_30 hS, gr94_31 hS, gr94_33 hS, gr94_34 hS, gr94_35 hS, gr94_36 hS, s0, s1, s2, s3', s4, s5, l0, p10, p18, li95 hS, u95, v0, v1, a3, m_bits, a4, r1]
  have f0 : Fr scm d (sk_uI (sk_uI (sk_uI (sk_uI (sk_uI (sk_uI d 100 0 (nI j)) 100 1 (lf_v L 0 j)) 100 2 (lf_v L 1 j)) 100 3 (pc (ln m))) 100 4 (rl L (ln m))) 100 5 slip) := by
    have q : scm 100 := Or.inr rfl
    exact Fr.tI (Fr.tI (Fr.tI (Fr.tI (Fr.tI (Fr.tI (Fr.refl _ _) q) q) q) q) q) q
  refine ⟨d', ?_, f0.trans (r2.mono (fun b hb => Or.inl hb))⟩
  by_cases q : d'.1 99 0 = 1
  · rw [if_pos q, r3.mp q]
  · rw [if_neg q]
    cases hev : ev (gv L j (ln m) slip) (lf_w L t)
    · rfl
    · exact absurd (r3.mpr hev) q
/-- bits of what deeds bring -/
theorem bt_b1 {j i : Nat} (hj : j < 24) (hi : i < 32) : bt (b1 j) i = decide (i = j) := b_one (by omega) hi
theorem bt_b8 {j i : Nat} (hj : j < 24) (hi : i < 32) : bt (b8 j) i = decide (i = j + 8) := b_256s hj hi
def gone (m : Int32) (j : Nat) : Int32 := (m &&& (b8 j ^^^ (-1))) ||| b1 j
def dto (L : LF) (m : Int32) (j : Nat) : Int32 := if keeps L j (ln (gone m j)) = true then gone m j ||| b8 j else gone m j
theorem bt_gone (m : Int32) {j i : Nat} (hj : j < 8) (hi : i < 32) : bt (gone m j) i = ((bt m i && !decide (i = j + 8)) || decide (i = j)) := by
  unfold gone
  rw [b_or, b_and, b_not _ hi, bt_b8 (by omega) hi, bt_b1 (by omega) hi]
theorem mood_of {m m2 : Int32} {e : Nat} (h1 : bt m e = bt m2 e) (h2 : bt m (e + 8) = bt m2 (e + 8)) : mood m e = mood m2 e := by unfold mood; rw [h1, h2]
theorem m_doneTo {S : sk_S} {d : sk_D} {L : LF} (h : MI S d L) {m : Int32} (hz : zM L m) {j : Nat} (hj : j < lf_n L) :
    ∃ d', fX11_doneTo S d 94 (stnd m) (nI j) = some (stnd (dto L m j), d') ∧ Fr scm d d' := by
  have hS := h.1
  have hk := h.2.1
  have hm := h.2.2
  have hn := hk.1
  have v0 := hm.2.2.2.2.1 0 j (by omega) hj
  rw [show 10 + 8 * 0 + j = 10 + j by omega] at v0
  have w0 := hm.2.2.2.2.2.2.1.1
  rw [show 4 + 0 = 4 from rfl] at w0
  -- the stand with the doing open
  have hb : ∀ i, i < 32 → bt (m &&& ((b1 j ||| b8 j) ^^^ (-1))) i = (bt m i && (!decide (i = j) && !decide (i = j + 8))) := by
    intro i hi
    rw [b_and, b_not _ hi, b_or, bt_b1 (by omega) hi, bt_b8 (by omega) hi]
    simp
  have ho : fX11_withHow S d (stnd m) (nI j) (0 : Int32) = some (stnd (m &&& ((b1 j ||| b8 j) ^^^ (-1)))) := by
    refine f_with S d m _ 0 (by omega) ?_ ?_
    · symm
      rw [(mood_c _ _).2.2.2, hb j (by omega), hb (j + 8) (by omega)]
      simp
    · intro e he hne
      apply mood_of
      · rw [hb e (by omega)]; simp [hne]; intro; omega
      · rw [hb (e + 8) (by omega)]; simp [hne]; intro; omega
  have hz2 : zM L (m &&& ((b1 j ||| b8 j) ^^^ (-1))) := by
    intro i h1 h2
    rw [hb i (by omega), hb (i + 8) (by omega), (hz i h1 h2).1, (hz i h1 h2).2]
    simp
  have hl : ln (m &&& ((b1 j ||| b8 j) ^^^ (-1))) = ln (gone m j) := by
    apply b_ext
    intro i hi
    rw [bt_ln _ hi, bt_ln _ hi]
    by_cases q : i < 8
    · rw [hb (i + 8) (by omega), bt_gone m (by omega) (by omega)]
      simp [show ¬ i + 8 = j by omega]
    · simp [q]
  have fin : ∀ (e : sk_D) (b : Bool), b = keeps L j (ln (gone m j)) → Fr scm d e → ∃ d', fX11_doneTo_J55 S (nI j) (stnd (m &&& ((b1 j ||| b8 j) ^^^ (-1)))) (if b = true then 1 else 0) e = some (stnd (dto L m j), d') ∧ Fr scm d d' := by
    intro e b hbk fe
    unfold fX11_doneTo_J55 fX11_doneTo_J69 dto
    rw [← hbk]
    cases b with
    | true =>
      rw [if_neg (by decide)]
      rw [f_with S e _ (gone m j ||| b8 j) 1 (by omega) ?_ ?_]
      · exact ⟨e, rfl, fe⟩
      · symm
        rw [(mood_c _ _).1, b_or, b_or, bt_gone m (by omega) (by omega), bt_gone m (by omega) (by omega), bt_b8 (by omega) (by omega), bt_b8 (by omega) (by omega)]
        simp
      · intro i hi hne
        apply mood_of
        · rw [b_or, bt_gone m (by omega) (by omega), bt_b8 (by omega) (by omega), hb i (by omega)]
          simp [hne, show ¬ i = j + 8 by omega]
        · rw [b_or, bt_gone m (by omega) (by omega), bt_b8 (by omega) (by omega), hb (i + 8) (by omega)]
          simp [hne, show ¬ i + 8 = j by omega]
    | false =>
      simp only [Bool.false_eq_true, ↓reduceIte]
      rw [f_with S e _ (gone m j) 2 (by omega) ?_ ?_]
      · exact ⟨e, rfl, fe⟩
      · symm
        rw [(mood_c _ _).2.1, bt_gone m (by omega) (by omega), bt_gone m (by omega) (by omega)]
        simp
      · intro i hi hne
        apply mood_of
        · rw [bt_gone m (by omega) (by omega), hb i (by omega)]
          simp [hne, show ¬ i = j + 8 by omega]
        · rw [bt_gone m (by omega) (by omega), hb (i + 8) (by omega)]
          simp [hne, show ¬ i + 8 = j by omega]
  unfold fX11_doneTo
  simp (disch := omega) only [Option.bind_some, ↓reduceIte, nI_leI, nI_ltI, nI_eq, nI_1, ho, kd94 hS, gi94 hS, pi94 hS, gr94_1 hS, gr94_2 hS, gr94_3 hS, gr94_4 hS, gr94_16 hS, gr94_17 hS, gr94_18 hS, gr94_21 hS, gr94_22 hS, gr94_23 hS, gr94_24 hS, gr94_26 hS, gr94_27 hS, gr94_28 hS, gr94_29 hS, gr94_30 hS, gr94_31 hS, gr94_33 hS, gr94_34 hS, gr94_35 hS, gr94_36 hS, p10, li95 hS, v0, m_left hS hk hm hz2, l95_4 hS, l95_82 hS, w0, hl]
  by_cases lt : rl L (ln (gone m j)) < lf_v L 0 j
  · rw [if_pos lt]
    unfold fX11_doneTo_J54
    refine fin d false ?_ (Fr.refl _ _)
    unfold keeps
    rw [decide_eq_false (by rw [Int32.not_le]; exact lt)]
    rfl
  · rw [if_neg lt]
    have le : lf_v L 0 j ≤ rl L (ln (gone m j)) := by rw [← Int32.not_lt]; exact lt
    by_cases em : (lf_w L 0).isEmpty = true
    · simp only [em, ↓reduceIte]
      unfold fX11_doneTo_J50
      refine fin d true ?_ (Fr.refl _ _)
      unfold keeps
      rw [decide_eq_true le, em]
      rfl
    · have em2 : (lf_w L 0).isEmpty = false := by simpa using em
      have ne : lf_w L 0 ≠ [] := by intro q; rw [q] at em; exact em rfl
      have n1 : ¬ (1 : Int32) = 0 := by decide
      obtain ⟨d', a1, a2⟩ := m_reckons h (t := 0) (by omega) ne hz2 hj (d.1 95 82)
      rw [show nI 0 = (0 : Int32) from rfl] at a1
      simp only [em2, Bool.false_eq_true, n1, ↓reduceIte, a1, Option.bind_some]
      have kk : ev (gv L j (ln (m &&& ((b1 j ||| b8 j) ^^^ (-1)))) (d.1 95 82)) (lf_w L 0) = keeps L j (ln (gone m j)) := by
        unfold keeps
        rw [decide_eq_true le, em2, hl]
        simp only [Bool.false_or, Bool.true_and]
        unfold ev
        rw [rn_cong (g2 := gv L j (ln (gone m j)) 0) (lf_w L 0) [] (hk.2.2.2.2.2.1.2.2 rfl) (fun i hi => ?_)]
        rcases (by omega : i = 0 ∨ i = 1 ∨ i = 2 ∨ i = 3 ∨ i = 4) with rfl | rfl | rfl | rfl | rfl <;> rfl
      cases hev : ev (gv L j (ln (m &&& ((b1 j ||| b8 j) ^^^ (-1)))) (d.1 95 82)) (lf_w L 0) with
      | false =>
        simp only [Bool.false_eq_true, ↓reduceIte]
        unfold fX11_doneTo_J54
        exact fin d' false (by rw [← kk, hev]) a2
      | true =>
        simp only [↓reduceIte]
        unfold fX11_doneTo_J50
        exact fin d' true (by rw [← kk, hev]) a2
