/-! the reference: laws and deeds -/
theorem cl6_eq (v : Int64) : fX11_between_J116 v = some (cl6 v) := by
  unfold fX11_between_J116 cl6
  have e1 : (1000000 : Int64).toInt = 1000000 := rfl
  have e2 : (-1000000 : Int64).toInt = -1000000 := rfl
  by_cases h1 : v < 1000000
  · have h2 : v ≤ 1000000 := by rw [fa_le64]; rw [fa_lt64] at h1; omega
    rw [if_pos h2, if_pos h1]
    by_cases h3 : (-1000000 : Int64) ≤ v
    · rw [if_pos h3, if_neg (by rw [Int64.not_lt]; exact h3)]
    · rw [if_neg h3, if_pos (by rw [← Int64.not_le]; exact h3)]
  · rw [if_neg h1, if_neg (by decide : ¬ (1000000 : Int64) < -1000000)]
    by_cases h2 : v ≤ 1000000
    · have : v = 1000000 := by
        rw [fa_eq64]; rw [fa_le64] at h2; rw [fa_lt64] at h1; omega
      subst this
      rfl
    · rw [if_neg h2]
theorem c_op {c : Int32} (h6 : ¬ (-6 : Int32) ≤ c) (h15 : ¬ c = (-15 : Int32)) (h14 : (-14 : Int32) ≤ c) : c = -14 ∨ c = -13 ∨ c = -12 ∨ c = -11 ∨ c = -10 ∨ c = -9 ∨ c = -8 ∨ c = -7 := by
  simp only [fa_le, fa_eq] at *
  have a1 : (-6 : Int32).toInt = -6 := rfl
  have a2 : (-14 : Int32).toInt = -14 := rfl
  have a3 : (-13 : Int32).toInt = -13 := rfl
  have a4 : (-12 : Int32).toInt = -12 := rfl
  have a5 : (-11 : Int32).toInt = -11 := rfl
  have a6 : (-10 : Int32).toInt = -10 := rfl
  have a7 : (-9 : Int32).toInt = -9 := rfl
  have a8 : (-8 : Int32).toInt = -8 := rfl
  have a9 : (-7 : Int32).toInt = -7 := rfl
  omega
theorem f_between (S : sk_S) (d : sk_D) (a b : Int32) {c : Int32} (hc : c = -14 ∨ c = -13 ∨ c = -12 ∨ c = -11 ∨ c = -10 ∨ c = -9 ∨ c = -8 ∨ c = -7) : fX11_between S d (cod c) a b = some (bo c a b) := by
  unfold fX11_between
  simp only [cl6_eq]
  rcases hc with rfl | rfl | rfl | rfl | rfl | rfl | rfl | rfl
  · rfl
  · rfl
  · show (if a ≤ b then some (0 : Int32) else some 1) = some (if a ≤ b then 0 else 1)
    split <;> rfl
  · show (if b ≤ a then some (0 : Int32) else some 1) = some (if b ≤ a then 0 else 1)
    split <;> rfl
  · show (if a = b then some (1 : Int32) else some 0) = some (if a = b then 1 else 0)
    split <;> rfl
  · rfl
  · rfl
  · rfl
theorem cod_op {c : Int32} (hc : c = -14 ∨ c = -13 ∨ c = -12 ∨ c = -11 ∨ c = -10 ∨ c = -9 ∨ c = -8 ∨ c = -7) : (3000 : Int32) ≤ cod c ∧ ¬ cod c = 3006 := by
  rcases hc with rfl | rfl | rfl | rfl | rfl | rfl | rfl | rfl <;> decide
theorem cod_w {c : Int32} (h0 : ¬ 0 ≤ c) (h6 : (-6 : Int32) ≤ c) : ∃ i, i < 6 ∧ (-1 : Int32) - c = nI i ∧ cod c = nI (1000 + i) := by
  obtain ⟨i, hi, e⟩ := i_neg6 h0 h6
  refine ⟨i, hi, e, ?_⟩
  unfold cod
  rw [if_neg h0, if_pos h6]
  have e2 : (999 : Int32) - c = 1000 + ((-1 : Int32) - c) := by
    rw [Int32.sub_eq_add_neg, Int32.sub_eq_add_neg (-1), ← Int32.add_assoc]
    rfl
  rw [e2, e]
  exact nI_add 1000 i
set_option maxHeartbeats 1000000 in
theorem m_run {S : sk_S} {d : sk_D} {t : Nat} (hS : Sh S) (ht : t < 2) {w : List Int32} (hw : mW (d.1 95) t w) (hok : okW t w) (hne : w ≠ []) {g : Nat → Int32} (hg : ∀ i, i < 6 → d.1 100 i = g i) :
    ∃ d', sk_itr (fX11_reckons_L76 S 94 (nI t)) ((0 : Int32), (0 : Int32), d) = some d' ∧ Fr (fun b => b = 99) d d' ∧ (d'.1 99 0 = 1 ↔ ev g w = true) := by
  obtain ⟨v, hv01, hv⟩ := hok.2.1 hne g
  have hlen := hok.1
  obtain ⟨fr, f1, f2, f3, f4⟩ := hw.2 hne
  have loop := it_for (body := fX11_reckons_L76 S 94 (nI t)) (fun k s => ∃ st, rn g 64 (w.drop k) st = some [v] ∧ s.1 = nI st.length ∧ s.2.1 = nI k ∧ Fr (fun b => b = 99) d s.2.2 ∧ PL (s.2.2.1 99) st ∧ st.length ≤ 64) w.length
    (fun e => Fr (fun b => b = 99) d e ∧ e.1 99 0 = v) ?_ ?_ (s := ((0 : Int32), (0 : Int32), d)) ⟨[], by simpa using hv, rfl, rfl, Fr.refl _ _, True.intro, by simp⟩
  · obtain ⟨e, he, e2, e3⟩ := loop
    refine ⟨e, he, e2, ?_⟩
    rw [e3]
    unfold ev
    rw [hv]
    rcases hv01 with rfl | rfl
    · decide
    · decide
  · intro k s hk ⟨st, i1, i2, i3, i4, i5, i6⟩
    have hd : w.drop k = w.getD k 0 :: w.drop (k + 1) := by
      rw [List.drop_eq_getElem_cons hk, List.getD_eq_getElem?_getD, List.getElem?_eq_getElem hk]; rfl
    rw [hd, rn] at i1
    obtain ⟨st2, r1, r2⟩ := sk_ob i1
    have q95 : s.2.2.1 95 = d.1 95 := i4.i (by omega)
    have q100 : s.2.2.1 100 = d.1 100 := i4.i (by omega)
    have e1 := f4 k hk
    have hx : ¬ w.length ≤ k := by omega
    left
    generalize w.getD k 0 = c at r1 e1
    unfold fX11_reckons_L76
    rw [i3]
    have ix : (175 : Int32) + nI fr + nI k = nI (175 + fr + k) := by rw [p175, nI_add]
    simp (disch := omega) only [Option.bind_some, ↓reduceIte, nI_leI, nI_ltI, nI_eq, nI_1, kd94 hS, gi94 hS, pi94 hS, gr94_1 hS, gr94_2 hS, gr94_3 hS, gr94_4 hS, gr94_16 hS, gr94_17 hS, gr94_18 hS, gr94_21 hS, gr94_22 hS, gr94_23 hS, gr94_24 hS, gr94_26 hS, gr94_27 hS, gr94_28 hS, gr94_29 hS, gr94_30 hS, gr94_31 hS, gr94_33 hS, gr94_34 hS, gr94_35 hS, gr94_36 hS, p8, p6, li95 hS, q95, f1, f2, hx, ix, e1]
    unfold rs at r1
    by_cases c0 : 0 ≤ c
    · rw [if_pos c0] at r1
      obtain ⟨⟨q1, q2⟩, r1⟩ := sk_ib r1
      cases r1
      have ec : cod c = c := by unfold cod; rw [if_pos c0]
      have n3 : ¬ (3000 : Int32) ≤ c := by
        rw [fa_le]; rw [fa_lt] at q1
        have a1 : (1000 : Int32).toInt = 1000 := rfl
        have a2 : (3000 : Int32).toInt = 3000 := rfl
        omega
      have n1 : ¬ (1000 : Int32) ≤ c := by rw [Int32.not_le]; exact q1
      rw [ec]
      simp (disch := omega) only [n3, n1, ↓reduceIte, i2, si99 hS, Option.bind_some]
      refine ⟨_, rfl, c :: st, r2, by rw [nI_1]; rfl, by rw [nI_1], i4.tI rfl, ⟨uI_s _ _ _ _, PL.up (fun i hi => uI_k _ _ _ _ _ (by omega)) i5⟩, by simp; omega⟩
    · rw [if_neg c0] at r1
      by_cases c6 : (-6 : Int32) ≤ c
      · rw [if_pos c6] at r1
        obtain ⟨q2, r1⟩ := sk_ib r1
        cases r1
        obtain ⟨i, hi, ei, ec⟩ := cod_w c0 c6
        have n3 : ¬ (3000 : Int32) ≤ nI (1000 + i) := nI_ge (b := 3000) (by omega) (by omega)
        have n1 : (1000 : Int32) ≤ nI (1000 + i) := nI_le (a := 1000) (by omega) (by omega)
        have ew : nI (1000 + i) - (1000 : Int32) = nI i := by
          rw [show (1000 : Int32) = nI 1000 from rfl, pk_sub (by omega), Nat.add_sub_cancel_left]
        rw [ec]
        simp (disch := omega) only [n3, n1, ↓reduceIte, ew, li100 hS, q100, hg i hi, i2, si99 hS, Option.bind_some]
        refine ⟨_, rfl, g i :: st, ?_, by rw [nI_1]; rfl, by rw [nI_1], i4.tI rfl, ⟨uI_s _ _ _ _, PL.up (fun i hi => uI_k _ _ _ _ _ (by omega)) i5⟩, by simp; omega⟩
        rw [ei, nI_clamp (by omega)] at r2
        exact r2
      · rw [if_neg c6] at r1
        by_cases c15 : c = (-15 : Int32)
        · rw [if_pos c15] at r1
          subst c15
          have ec : cod (-15) = 3006 := by decide
          have n3 : (3000 : Int32) ≤ 3006 := by decide
          rw [ec]
          cases st with
          | nil => cases r1
          | cons x r =>
            cases r1
            have hl : r.length + 1 ≤ 64 := by simpa using i6
            have es : nI (r.length + 1) - 1 = nI r.length := nI_pred _
            rw [i2, List.length_cons]
            simp (disch := omega) only [n3, ↓reduceIte, es, li99 hS, si99 hS, Option.bind_some, i5.1]
            refine ⟨_, rfl, (1 - x) :: r, r2, rfl, rfl, i4.tI rfl, ⟨uI_s _ _ _ _, PL.up (fun i hi => uI_k _ _ _ _ _ (by omega)) i5.2⟩, by simp; omega⟩
        · rw [if_neg c15] at r1
          obtain ⟨c14, r1⟩ := sk_ib r1
          have hop := c_op c6 c15 c14
          obtain ⟨n3, n6⟩ := cod_op hop
          cases st with
          | nil => cases r1
          | cons b r =>
            cases r with
            | nil => cases r1
            | cons x r =>
              cases r1
              have hl : r.length + 2 ≤ 64 := by simpa using i6
              have es : nI (r.length + 1 + 1) - 1 = nI (r.length + 1) := nI_pred _
              have es2 : nI (r.length + 1) - 1 = nI r.length := nI_pred _
              have p1 := i5.1
              have p2 := i5.2.1
              rw [List.length_cons] at p1
              rw [i2, List.length_cons, List.length_cons]
              simp (disch := omega) only [n3, n6, ↓reduceIte, es, es2, li99 hS, Option.bind_some, p1, p2, f_between S _ _ _ hop, si99 hS]
              refine ⟨_, rfl, bo c x b :: r, r2, rfl, rfl, i4.tI rfl, ⟨uI_s _ _ _ _, PL.up (fun i hi => uI_k _ _ _ _ _ (by omega)) i5.2.2⟩, by simp; omega⟩
  · intro s ⟨st, i1, i2, i3, i4, i5, i6⟩
    have q95 : s.2.2.1 95 = d.1 95 := i4.i (by omega)
    rw [List.drop_length] at i1
    cases i1
    unfold fX11_reckons_L76
    rw [i3]
    simp (disch := omega) only [Option.bind_some, ↓reduceIte, nI_leI, nI_ltI, nI_eq, nI_1, kd94 hS, gi94 hS, pi94 hS, gr94_1 hS, gr94_2 hS, gr94_3 hS, gr94_4 hS, gr94_16 hS, gr94_17 hS, gr94_18 hS, gr94_21 hS, gr94_22 hS, gr94_23 hS, gr94_24 hS, gr94_26 hS, gr94_27 hS, gr94_28 hS, gr94_29 hS, gr94_30 hS, gr94_31 hS, gr94_33 hS, gr94_34 hS, gr94_35 hS, gr94_36 hS, p8, li95 hS, q95, f2, Nat.le_refl]
    exact ⟨_, rfl, i4, i5.1⟩
