theorem x_en_bad {A : AS} {k : Nat} {p : Int32} (h : p < 0 ∨ ¬ p ≤ 9) : x_en A k p = (-1, A) := by unfold x_en; rw [if_pos h]
theorem x_en_j {A : AS} {k j : Nat} (hj : j < 10) : x_en A k (nI j) = if kdd (as_L A) (as_m A) k j < 0 then (kdd (as_L A) (as_m A) k j, A) else (0, goto A (kdd (as_L A) (as_m A) k j)) := by
  unfold x_en
  have h0 : ¬ nI j < 0 := nI_pos (by omega)
  have h9 : nI j ≤ 9 := nI_le (b := 9) (by omega) (by omega)
  rw [if_neg (by simp [h0, h9]), nI_clamp (by omega)]
theorem p_split (p : Int32) : (p < 0 ∨ ¬ p ≤ 9) ∨ ∃ j, j < 10 ∧ p = nI j := by
  by_cases h0 : p < 0
  · exact Or.inl (Or.inl h0)
  · by_cases h9 : p ≤ 9
    · exact Or.inr (p_9 h0 h9)
    · exact Or.inl (Or.inr h9)
theorem m_does {S : sk_S} {d : sk_D} {A : AS} (h : RM S d A) (hA : okA A) (p : Int32) : ∃ d', fX11_does S d 94 p = some ((x_does A p).1, d') ∧ RM S d' (x_does A p).2 ∧ Fr mdl d d' := by
  have hS := h.1.1
  have h0 := h.m0 0
  have hn := hA.1.1
  unfold fX11_does x_does
  rcases p_split p with q | ⟨j, hj, rfl⟩
  · rw [x_en_bad q]
    have e : fX11_whyDo S (sk_uI d 94 0 0) 94 p.toInt64 = some 1 := by
      unfold fX11_whyDo
      simp (disch := omega) only [Option.bind_some, ↓reduceIte, nI_leI, nI_ltI, nI_eq, nI_1, kd94 hS, gi94 hS, pi94 hS, gr94_1 hS, gr94_2 hS, gr94_3 hS, gr94_4 hS, gr94_16 hS, gr94_17 hS, gr94_18 hS, gr94_21 hS, gr94_22 hS, gr94_23 hS, gr94_24 hS, gr94_26 hS, gr94_27 hS, gr94_28 hS, gr94_29 hS, gr94_30 hS, gr94_31 hS, gr94_33 hS, gr94_34 hS, gr94_35 hS, gr94_36 hS, m_isDoingO h0.1 q, Bool.false_eq_true]
    have n1 : ¬ (1 : Int32) = 0 := by decide
    simp (disch := omega) only [Option.bind_some, ↓reduceIte, nI_leI, nI_ltI, nI_eq, nI_1, kd94 hS, gi94 hS, pi94 hS, gr94_1 hS, gr94_2 hS, gr94_3 hS, gr94_4 hS, gr94_16 hS, gr94_17 hS, gr94_18 hS, gr94_21 hS, gr94_22 hS, gr94_23 hS, gr94_24 hS, gr94_26 hS, gr94_27 hS, gr94_28 hS, gr94_29 hS, gr94_30 hS, gr94_31 hS, gr94_33 hS, gr94_34 hS, gr94_35 hS, gr94_36 hS, e, n1]
    rw [if_pos (by decide : (-1 : Int32) < 0)]
    exact ⟨_, rfl, h0, (mfr0 d 0).2.2.2.2⟩
  · rw [x_en_j hj, nI_l (by omega)]
    have ek : kdd (as_L A) (as_m A) 0 j = tdo (as_L A) (as_m A) j := rfl
    rw [ek]
    rcases m_whyDo h0.1 h0.2.1.1 hA.2.1.z (j := j) (by omega) with ⟨a1, a2⟩ | ⟨a1, a2, a3, a4⟩
    · obtain ⟨b1, b2, b3⟩ := wy_neg a2
      simp (disch := omega) only [Option.bind_some, ↓reduceIte, nI_leI, nI_ltI, nI_eq, nI_1, kd94 hS, gi94 hS, pi94 hS, gr94_1 hS, gr94_2 hS, gr94_3 hS, gr94_4 hS, gr94_16 hS, gr94_17 hS, gr94_18 hS, gr94_21 hS, gr94_22 hS, gr94_23 hS, gr94_24 hS, gr94_26 hS, gr94_27 hS, gr94_28 hS, gr94_29 hS, gr94_30 hS, gr94_31 hS, gr94_33 hS, gr94_34 hS, gr94_35 hS, gr94_36 hS, a1, b1, b2, b3]
      exact ⟨_, rfl, h0, (mfr0 d 0).2.2.2.2⟩
    · obtain ⟨d1, g1, g2, g3, g4, g5, g6⟩ := m_beg h
      have okn := ok_do hA.1 hA.2.1 a2 a4
      rw [a3]
      obtain ⟨d2, c1, c2⟩ := m_doneTo g5 hA.2.1.z a2
      obtain ⟨d3, e1, e2, e3, e4⟩ := m_isStand (d := d2) hS (dto (as_L A) (as_m A) j)
      have f2 : mfr d d2 := g2.trans (mfr.scm c2)
      have e95 : d2.1 95 = d.1 95 := (scm95 c2).trans g3
      have e101 : d2.1 101 = d1.1 101 := c2.i (by unfold scm; omega)
      have f3 : mfr d d3 := f2.trans (mfr.h95 e2 (fun k hk => e3 k (by omega)))
      obtain ⟨d4, k1, k2, k3, k4, k5⟩ := m_fin (m := dto (as_L A) (as_m A) j) h hA f3 (fun k h1 h2 => by rw [e3 k (by omega), e95]) ⟨e4, by
        show d3.1 95 (74 + 8) = _
        rw [e3 82 (by omega), e95, sp_dto _ _ (by omega)]; exact h.2.1.1.2⟩ (by rw [e2.i (b := 101) (by omega), e101]; exact g4)
      have np : ¬ dto (as_L A) (as_m A) j < 0 := okn.pos
      have z0 : ¬ (0 : Int32) < 0 := by decide
      simp (disch := omega) only [Option.bind_some, ↓reduceIte, nI_leI, nI_ltI, nI_eq, nI_1, kd94 hS, gi94 hS, pi94 hS, gr94_1 hS, gr94_2 hS, gr94_3 hS, gr94_4 hS, gr94_16 hS, gr94_17 hS, gr94_18 hS, gr94_21 hS, gr94_22 hS, gr94_23 hS, gr94_24 hS, gr94_26 hS, gr94_27 hS, gr94_28 hS, gr94_29 hS, gr94_30 hS, gr94_31 hS, gr94_33 hS, gr94_34 hS, gr94_35 hS, gr94_36 hS, a1, g1, m_stand hS g6.1, c1, e1, k1, np, z0, p74, li95 hS]
      rw [k5 _ (by omega) (by omega), e4 j (by omega), nI_clamp (by omega)]
      exact ⟨d4, rfl, k2, k3⟩
theorem m_drop {S : sk_S} {d : sk_D} {A : AS} (h : RM S d A) (hA : okA A) (p : Int32) : ∃ d', fX11_drop S d 94 p = some ((x_drop A p).1, d') ∧ RM S d' (x_drop A p).2 ∧ Fr mdl d d' := by
  have hS := h.1.1
  have h0 := h.m0 0
  have hn := hA.1.1
  unfold fX11_drop x_drop
  rcases p_split p with q | ⟨j, hj, rfl⟩
  · rw [x_en_bad q]
    have e : fX11_whyDrop S (sk_uI d 94 0 0) 94 p.toInt64 = some 1 := by
      unfold fX11_whyDrop
      simp (disch := omega) only [Option.bind_some, ↓reduceIte, nI_leI, nI_ltI, nI_eq, nI_1, kd94 hS, gi94 hS, pi94 hS, gr94_1 hS, gr94_2 hS, gr94_3 hS, gr94_4 hS, gr94_16 hS, gr94_17 hS, gr94_18 hS, gr94_21 hS, gr94_22 hS, gr94_23 hS, gr94_24 hS, gr94_26 hS, gr94_27 hS, gr94_28 hS, gr94_29 hS, gr94_30 hS, gr94_31 hS, gr94_33 hS, gr94_34 hS, gr94_35 hS, gr94_36 hS, m_isDoingO h0.1 q, Bool.false_eq_true]
    have n1 : ¬ (1 : Int32) = 0 := by decide
    simp (disch := omega) only [Option.bind_some, ↓reduceIte, nI_leI, nI_ltI, nI_eq, nI_1, kd94 hS, gi94 hS, pi94 hS, gr94_1 hS, gr94_2 hS, gr94_3 hS, gr94_4 hS, gr94_16 hS, gr94_17 hS, gr94_18 hS, gr94_21 hS, gr94_22 hS, gr94_23 hS, gr94_24 hS, gr94_26 hS, gr94_27 hS, gr94_28 hS, gr94_29 hS, gr94_30 hS, gr94_31 hS, gr94_33 hS, gr94_34 hS, gr94_35 hS, gr94_36 hS, e, n1]
    rw [if_pos (by decide : (-1 : Int32) < 0)]
    exact ⟨_, rfl, h0, (mfr0 d 0).2.2.2.2⟩
  · rw [x_en_j hj, nI_l (by omega)]
    have ek : kdd (as_L A) (as_m A) 1 j = tdr (as_L A) (as_m A) j := rfl
    rw [ek]
    rcases m_whyDrop h0.1 h0.2.1.1 (j := j) (by omega) with ⟨a1, a2⟩ | ⟨a1, a2, a3, a4⟩
    · obtain ⟨b1, b2, b3⟩ := wy_neg a2
      simp (disch := omega) only [Option.bind_some, ↓reduceIte, nI_leI, nI_ltI, nI_eq, nI_1, kd94 hS, gi94 hS, pi94 hS, gr94_1 hS, gr94_2 hS, gr94_3 hS, gr94_4 hS, gr94_16 hS, gr94_17 hS, gr94_18 hS, gr94_21 hS, gr94_22 hS, gr94_23 hS, gr94_24 hS, gr94_26 hS, gr94_27 hS, gr94_28 hS, gr94_29 hS, gr94_30 hS, gr94_31 hS, gr94_33 hS, gr94_34 hS, gr94_35 hS, gr94_36 hS, a1, b1, b2, b3]
      exact ⟨_, rfl, h0, (mfr0 d 0).2.2.2.2⟩
    · obtain ⟨d1, g1, g2, g3, g4, g5, g6⟩ := m_beg h
      have okn := ok_drop hA.1 hA.2.1 a2
      rw [a4]
      have c1 := m_dropped S d1 (as_m A) (j := j) (by omega) a3
      obtain ⟨d3, e1, e2, e3, e4⟩ := m_isStand (d := d1) hS (as_m A &&& (b8 j ^^^ (-1)))
      have f3 : mfr d d3 := g2.trans (mfr.h95 e2 (fun k hk => e3 k (by omega)))
      obtain ⟨d4, k1, k2, k3, k4, k5⟩ := m_fin (m := as_m A &&& (b8 j ^^^ (-1))) h hA f3 (fun k h1 h2 => by rw [e3 k (by omega), g3]) ⟨e4, by
        show d3.1 95 (74 + 8) = _
        rw [e3 82 (by omega), g3, sp_drop _ (by omega)]; exact h.2.1.1.2⟩ (by rw [e2.i (b := 101) (by omega)]; exact g4)
      have np : ¬ as_m A &&& (b8 j ^^^ (-1)) < 0 := okn.pos
      have z0 : ¬ (0 : Int32) < 0 := by decide
      have hz2 : zM (as_L A) (as_m A &&& (b8 j ^^^ (-1))) := okn.z
      have s1 : fX11_standNow S d4 94 = some (stnd (as_m A &&& (b8 j ^^^ (-1)))) := m_stand hS k2.2.1.1.1
      have s2 : fX11_stubsIn S d4 94 (stnd (as_m A &&& (b8 j ^^^ (-1)))) = some (ln (as_m A &&& (b8 j ^^^ (-1)))) := m_stubs hS hA.1 k2.1.2.2 hz2
      simp (disch := omega) only [Option.bind_some, ↓reduceIte, nI_leI, nI_ltI, nI_eq, nI_1, kd94 hS, gi94 hS, pi94 hS, gr94_1 hS, gr94_2 hS, gr94_3 hS, gr94_4 hS, gr94_16 hS, gr94_17 hS, gr94_18 hS, gr94_21 hS, gr94_22 hS, gr94_23 hS, gr94_24 hS, gr94_26 hS, gr94_27 hS, gr94_28 hS, gr94_29 hS, gr94_30 hS, gr94_31 hS, gr94_33 hS, gr94_34 hS, gr94_35 hS, gr94_36 hS, a1, g1, m_stand hS g6.1, c1, e1, k1, np, z0, s1, s2, m_bits]
      exact ⟨d4, rfl, k2, k3⟩
theorem m_forge {S : sk_S} {d : sk_D} {A : AS} (h : RM S d A) (hA : okA A) (p : Int32) : ∃ d', fX11_forge S d 94 p = some ((x_forge A p).1, d') ∧ RM S d' (x_forge A p).2 ∧ Fr mdl d d' := by
  have hS := h.1.1
  have h0 := h.m0 0
  have hn := hA.1.1
  unfold fX11_forge x_forge
  rcases p_split p with q | ⟨j, hj, rfl⟩
  · rw [x_en_bad q]
    have e : fX11_whyForge S (sk_uI d 94 0 0) 94 p.toInt64 = some 1 := by
      unfold fX11_whyForge
      simp (disch := omega) only [Option.bind_some, ↓reduceIte, nI_leI, nI_ltI, nI_eq, nI_1, kd94 hS, gi94 hS, pi94 hS, gr94_1 hS, gr94_2 hS, gr94_3 hS, gr94_4 hS, gr94_16 hS, gr94_17 hS, gr94_18 hS, gr94_21 hS, gr94_22 hS, gr94_23 hS, gr94_24 hS, gr94_26 hS, gr94_27 hS, gr94_28 hS, gr94_29 hS, gr94_30 hS, gr94_31 hS, gr94_33 hS, gr94_34 hS, gr94_35 hS, gr94_36 hS, m_isDoingO h0.1 q, Bool.false_eq_true]
    have n1 : ¬ (1 : Int32) = 0 := by decide
    simp (disch := omega) only [Option.bind_some, ↓reduceIte, nI_leI, nI_ltI, nI_eq, nI_1, kd94 hS, gi94 hS, pi94 hS, gr94_1 hS, gr94_2 hS, gr94_3 hS, gr94_4 hS, gr94_16 hS, gr94_17 hS, gr94_18 hS, gr94_21 hS, gr94_22 hS, gr94_23 hS, gr94_24 hS, gr94_26 hS, gr94_27 hS, gr94_28 hS, gr94_29 hS, gr94_30 hS, gr94_31 hS, gr94_33 hS, gr94_34 hS, gr94_35 hS, gr94_36 hS, e, n1]
    rw [if_pos (by decide : (-1 : Int32) < 0)]
    exact ⟨_, rfl, h0, (mfr0 d 0).2.2.2.2⟩
  · rw [x_en_j hj, nI_l (by omega)]
    have ek : kdd (as_L A) (as_m A) 2 j = tfo (as_L A) (as_m A) j := rfl
    rw [ek]
    rcases m_whyForge h0.1 h0.2.1.1 hA.2.1.z (j := j) (by omega) with ⟨a1, a2⟩ | ⟨a1, a2, a3, a4⟩
    · obtain ⟨b1, b2, b3⟩ := wy_neg a2
      simp (disch := omega) only [Option.bind_some, ↓reduceIte, nI_leI, nI_ltI, nI_eq, nI_1, kd94 hS, gi94 hS, pi94 hS, gr94_1 hS, gr94_2 hS, gr94_3 hS, gr94_4 hS, gr94_16 hS, gr94_17 hS, gr94_18 hS, gr94_21 hS, gr94_22 hS, gr94_23 hS, gr94_24 hS, gr94_26 hS, gr94_27 hS, gr94_28 hS, gr94_29 hS, gr94_30 hS, gr94_31 hS, gr94_33 hS, gr94_34 hS, gr94_35 hS, gr94_36 hS, a1, b1, b2, b3]
      exact ⟨_, rfl, h0, (mfr0 d 0).2.2.2.2⟩
    · obtain ⟨d1, g1, g2, g3, g4, g5, g6⟩ := m_beg h
      have okn := ok_forge hA.1 hA.2.1 a2
      rw [a4]
      have qb := (mood_c _ _).2.2.2.mp a3
      have e2 : Fr (fun b => b = 95) d1 (sk_uI d1 95 (74 + j) 3) := Fr.uI _ rfl
      have f3 : mfr d (sk_uI d1 95 (74 + j) 3) := g2.trans (mfr.h95 e2 (fun k hk => uI_k _ _ _ _ _ (by omega)))
      have hmn : mM (fun k => (sk_uI d1 95 (74 + j) 3).1 95 (74 + k)) (as_m A ||| b8 j) := by
        refine ⟨fun i hi => ?_, ?_⟩
        · show (sk_uI d1 95 (74 + j) 3).1 95 (74 + i) = _
          by_cases c : i = j
          · subst c
            rw [uI_s]
            symm
            rw [(mood_c _ _).2.2.1, b_or, b_or, bt_b8 (by omega) (by omega), bt_b8 (by omega) (by omega), qb.1]
            simp
          · rw [uI_k _ _ _ _ _ (by omega), show d1.1 95 (74 + i) = mood (as_m A) i from g6.1 i hi]
            apply mood_of
            · rw [b_or, bt_b8 (by omega) (by omega)]; simp [show ¬ i = j + 8 by omega]
            · rw [b_or, bt_b8 (by omega) (by omega)]; simp [c]
        · show (sk_uI d1 95 (74 + j) 3).1 95 (74 + 8) = _
          rw [uI_k _ _ _ _ _ (by omega), sp_forge _ (by omega)]
          exact g6.2
      obtain ⟨d4, k1, k2, k3, k4, k5⟩ := m_fin (m := as_m A ||| b8 j) h hA f3 (fun k h1 h2 => by rw [uI_k _ _ _ _ _ (by omega), g3]) hmn (by rw [uI_a _ _ _ 101 _ (by decide)]; exact g4)
      have np : ¬ as_m A ||| b8 j < 0 := okn.pos
      have z0 : ¬ (0 : Int32) < 0 := by decide
      have s1 : fX11_standNow S d4 94 = some (stnd (as_m A ||| b8 j)) := m_stand hS k2.2.1.1.1
      have s2 : fX11_leftIn S d4 94 (stnd (as_m A ||| b8 j)) = some (rl (as_L A) (ln (as_m A ||| b8 j))) := m_left hS hA.1 k2.1.2.2 okn.z
      simp (disch := omega) only [Option.bind_some, ↓reduceIte, nI_leI, nI_ltI, nI_eq, nI_1, kd94 hS, gi94 hS, pi94 hS, gr94_1 hS, gr94_2 hS, gr94_3 hS, gr94_4 hS, gr94_16 hS, gr94_17 hS, gr94_18 hS, gr94_21 hS, gr94_22 hS, gr94_23 hS, gr94_24 hS, gr94_26 hS, gr94_27 hS, gr94_28 hS, gr94_29 hS, gr94_30 hS, gr94_31 hS, gr94_33 hS, gr94_34 hS, gr94_35 hS, gr94_36 hS, a1, g1, p74, si95 hS, k1, np, z0, s1, s2]
      exact ⟨d4, rfl, k2, k3⟩
theorem no_pb (m set : Int32) (h : ∀ i, 8 ≤ i → i < 32 → bt set i = false) (hs : ∀ i, i < 8 → bt set i = true → bt m i = true ∨ bt m (i + 8) = true) : no m &&& (no (pb m set) ^^^ (-1)) = set := by
  apply b_ext
  intro i hi
  rw [b_and, b_not _ hi, bt_no _ hi, bt_no _ hi]
  by_cases q : i < 8
  · have e := (bt_pb m set h i).1 q
    rw [e.1, e.2]
    have := hs i q
    cases h1 : bt set i <;> cases h2 : bt m i <;> cases h3 : bt m (i + 8) <;> simp_all
  · rw [h i (by omega) hi]; simp [q]
theorem aso_no {L : LF} (hk : okL L) (m : Int32) {j : Nat} (hj : j < lf_n L) : ∀ i, i < 8 → bt (aso L m j) i = true → bt m i = true ∨ bt m (i + 8) = true := by
  intro i hi hb
  unfold aso at hb
  split at hb
  · rw [b_0] at hb; exact absurd hb (by decide)
  · next q =>
    rcases nd_sub L hk hj _ i (by omega) hb with c | c
    · subst c
      have : ¬ mood m i = 0 := fun a => q (Or.inl a)
      rw [(mood_c m i).2.2.2] at this
      cases h1 : bt m i <;> cases h2 : bt m (i + 8) <;> simp_all
    · left
      have := c.2.2
      rw [bt_dn] at this
      simp at this
      exact this.1
theorem m_ask {S : sk_S} {d : sk_D} {A : AS} (h : RM S d A) (hA : okA A) (p : Int32) : ∃ d', fX11_ask S d 94 p = some ((x_ask A p).1, d') ∧ RM S d' (x_ask A p).2 ∧ Fr mdl d d' := by
  have hS := h.1.1
  have h0 := h.m0 0
  have hn := hA.1.1
  unfold fX11_ask x_ask
  rcases p_split p with q | ⟨j, hj, rfl⟩
  · rw [x_en_bad q]
    simp (disch := omega) only [Option.bind_some, ↓reduceIte, nI_leI, nI_ltI, nI_eq, nI_1, kd94 hS, gi94 hS, pi94 hS, gr94_1 hS, gr94_2 hS, gr94_3 hS, gr94_4 hS, gr94_16 hS, gr94_17 hS, gr94_18 hS, gr94_21 hS, gr94_22 hS, gr94_23 hS, gr94_24 hS, gr94_26 hS, gr94_27 hS, gr94_28 hS, gr94_29 hS, gr94_30 hS, gr94_31 hS, gr94_33 hS, gr94_34 hS, gr94_35 hS, gr94_36 hS, m_isDoingO h0.1 q, Bool.false_eq_true]
    rw [if_pos (by decide : (-1 : Int32) < 0)]
    exact ⟨_, rfl, h0, (mfr0 d 0).2.2.2.2⟩
  · rw [x_en_j hj, nI_l (by omega)]
    have ek : kdd (as_L A) (as_m A) 3 j = tas (as_L A) (as_m A) j := rfl
    rw [ek]
    by_cases a2 : j < lf_n (as_L A)
    · obtain ⟨d1, g1, g2, g3, g4, g5, g6⟩ := m_beg h
      have okn := ok_ask hA.1 hA.2.1 a2
      rw [tas_aso _ hA.1 _ a2]
      obtain ⟨d2, c1, c2⟩ := m_asked g5 hA.2.1.z a2 g6.2
      have e95 : d2.1 95 = d1.1 95 := scm95 c2
      have s1 : fX11_standNow S d2 94 = some (stnd (as_m A)) := m_stand hS (by rw [e95]; exact g6.1)
      have o1 := m_opened S d2 (as_m A) (aso (as_L A) (as_m A) j) (aso_8 _ hA.1 _ a2)
      obtain ⟨d3, e1, e2, e3, e4⟩ := m_isStand (d := d2) hS (pb (as_m A) (aso (as_L A) (as_m A) j))
      have f3 : mfr d d3 := (g2.trans (mfr.scm c2)).trans (mfr.h95 e2 (fun k hk => e3 k (by omega)))
      have e101 : d2.1 101 = d1.1 101 := c2.i (by unfold scm; omega)
      obtain ⟨d4, k1, k2, k3, k4, k5⟩ := m_fin (m := pb (as_m A) (aso (as_L A) (as_m A) j)) h hA f3 (fun k h1 h2 => by rw [e3 k (by omega), e95, g3]) ⟨e4, by
        show d3.1 95 (74 + 8) = _
        rw [e3 82 (by omega), e95, sp_pb _ _ (aso_8 _ hA.1 _ a2)]; exact g6.2⟩ (by rw [e2.i (b := 101) (by omega), e101]; exact g4)
      have np : ¬ pb (as_m A) (aso (as_L A) (as_m A) j) < 0 := okn.pos
      have z0 : ¬ (0 : Int32) < 0 := by decide
      have na : no (as_m A) &&& (no (as_m (goto A (pb (as_m A) (aso (as_L A) (as_m A) j)))) ^^^ (-1)) = aso (as_L A) (as_m A) j := no_pb _ _ (aso_8 _ hA.1 _ a2) (aso_no hA.1 _ a2)
      simp (disch := omega) only [Option.bind_some, ↓reduceIte, nI_leI, nI_ltI, nI_eq, nI_1, kd94 hS, gi94 hS, pi94 hS, gr94_1 hS, gr94_2 hS, gr94_3 hS, gr94_4 hS, gr94_16 hS, gr94_17 hS, gr94_18 hS, gr94_21 hS, gr94_22 hS, gr94_23 hS, gr94_24 hS, gr94_26 hS, gr94_27 hS, gr94_28 hS, gr94_29 hS, gr94_30 hS, gr94_31 hS, gr94_33 hS, gr94_34 hS, gr94_35 hS, gr94_36 hS, m_isDoingN h0.1, a2, decide_true, g1, m_stand hS g6.1, c1, s1, o1, e1, k1, np, z0, na]
      exact ⟨d4, rfl, k2, k3⟩
    · have e : tas (as_L A) (as_m A) j = -1 := by unfold tas; rw [if_pos a2]
      rw [e]
      have n1 : (-1 : Int32) < 0 := by decide
      simp (disch := omega) only [Option.bind_some, ↓reduceIte, nI_leI, nI_ltI, nI_eq, nI_1, kd94 hS, gi94 hS, pi94 hS, gr94_1 hS, gr94_2 hS, gr94_3 hS, gr94_4 hS, gr94_16 hS, gr94_17 hS, gr94_18 hS, gr94_21 hS, gr94_22 hS, gr94_23 hS, gr94_24 hS, gr94_26 hS, gr94_27 hS, gr94_28 hS, gr94_29 hS, gr94_30 hS, gr94_31 hS, gr94_33 hS, gr94_34 hS, gr94_35 hS, gr94_36 hS, m_isDoingN h0.1, a2, decide_false, Bool.false_eq_true, n1]
      exact ⟨_, rfl, h0, (mfr0 d 0).2.2.2.2⟩
theorem mood_slip (m : Int32) (z : Nat) {j : Nat} (hj : j < 8) : mood ((m &&& 65535) ||| (nI z <<< ((16 : Int32) &&& 31))) j = mood m j := by
  apply mood_of
  · rw [b_or, b_and, b_65535, b_shl16 _ (by omega)]; simp [show j < 16 by omega, show ¬ 16 ≤ j by omega]
  · rw [b_or, b_and, b_65535, b_shl16 _ (by omega)]; simp [show j + 8 < 16 by omega, show ¬ 16 ≤ j + 8 by omega]
theorem m_slip {S : sk_S} {d : sk_D} {A : AS} (h : RM S d A) (hA : okA A) (p : Int32) : ∃ d', fX11_slip S d 94 p = some ((x_slip A p).1, d') ∧ RM S d' (x_slip A p).2 ∧ Fr mdl d d' := by
  have hS := h.1.1
  have h0 := h.m0 0
  unfold fX11_slip x_slip
  have z64 : (0 : Int64).toInt = 0 := rfl
  have n64 : (9 : Int64).toInt = 9 := rfl
  rcases p_split p with q | ⟨j, hj, rfl⟩
  · rw [x_en_bad q]
    have e : ¬ (0 ≤ p.toInt64 ∧ p.toInt64 ≤ 9) := by
      rw [fa_le64, fa_le64, Int32.toInt_toInt64, z64, n64]
      rw [fa_lt, fa_le, show (0 : Int32).toInt = 0 from rfl, show (9 : Int32).toInt = 9 from rfl] at q
      omega
    simp (disch := omega) only [Option.bind_some, ↓reduceIte, nI_leI, nI_ltI, nI_eq, nI_1, kd94 hS, gi94 hS, pi94 hS, gr94_1 hS, gr94_2 hS, gr94_3 hS, gr94_4 hS, gr94_16 hS, gr94_17 hS, gr94_18 hS, gr94_21 hS, gr94_22 hS, gr94_23 hS, gr94_24 hS, gr94_26 hS, gr94_27 hS, gr94_28 hS, gr94_29 hS, gr94_30 hS, gr94_31 hS, gr94_33 hS, gr94_34 hS, gr94_35 hS, gr94_36 hS, f_within, e, decide_false, Bool.false_eq_true]
    rw [if_pos (by decide : (-1 : Int32) < 0)]
    exact ⟨_, rfl, h0, (mfr0 d 0).2.2.2.2⟩
  · rw [x_en_j hj]
    have ek : kdd (as_L A) (as_m A) 4 j = (as_m A &&& 65535) ||| (nI j <<< ((16 : Int32) &&& 31)) := rfl
    rw [ek]
    have e : (0 ≤ (nI j).toInt64 ∧ (nI j).toInt64 ≤ 9) := by
      rw [fa_le64, fa_le64, Int32.toInt_toInt64, z64, n64, nI_toInt (by omega)]
      omega
    obtain ⟨d1, g1, g2, g3, g4, g5, g6⟩ := m_beg h
    obtain ⟨okn, hsp⟩ := ok_slip hA.2.1 hj
    have e2 : Fr (fun b => b = 95) d1 (sk_uI d1 95 82 (nI j)) := Fr.uI _ rfl
    have f3 : mfr d (sk_uI d1 95 82 (nI j)) := g2.trans (mfr.h95 e2 (fun k hk => uI_k _ _ _ _ _ (by omega)))
    have hmn : mM (fun k => (sk_uI d1 95 82 (nI j)).1 95 (74 + k)) ((as_m A &&& 65535) ||| (nI j <<< ((16 : Int32) &&& 31))) := by
      refine ⟨fun i hi => ?_, ?_⟩
      · show (sk_uI d1 95 82 (nI j)).1 95 (74 + i) = _
        rw [uI_k _ _ _ _ _ (by omega), show d1.1 95 (74 + i) = mood (as_m A) i from g6.1 i hi, mood_slip _ _ hi]
      · show (sk_uI d1 95 82 (nI j)).1 95 (74 + 8) = _
        rw [uI_s, hsp]
    obtain ⟨d4, k1, k2, k3, k4, k5⟩ := m_fin (m := (as_m A &&& 65535) ||| (nI j <<< ((16 : Int32) &&& 31))) h hA f3 (fun k h1 h2 => by rw [uI_k _ _ _ _ _ (by omega), g3]) hmn (by rw [uI_a _ _ _ 101 _ (by decide)]; exact g4)
    have np : ¬ (as_m A &&& 65535) ||| (nI j <<< ((16 : Int32) &&& 31)) < 0 := okn.pos
    have z0 : ¬ (0 : Int32) < 0 := by decide
    have s82 : ∀ (x : sk_D) (v : Int32), sk_sI S x 95 20 (82 : Int32) v = some (sk_uI x 95 82 v) := fun x v => si95 hS x v (j := 82) (by decide)
    have l8 : ∀ (x : sk_D), sk_lI S x 101 20 (8 : Int32) = some (x.1 101 8) := fun x => li101 hS x (j := 8) (by decide)
    simp (disch := omega) only [Option.bind_some, ↓reduceIte, nI_leI, nI_ltI, nI_eq, nI_1, kd94 hS, gi94 hS, pi94 hS, gr94_1 hS, gr94_2 hS, gr94_3 hS, gr94_4 hS, gr94_16 hS, gr94_17 hS, gr94_18 hS, gr94_21 hS, gr94_22 hS, gr94_23 hS, gr94_24 hS, gr94_26 hS, gr94_27 hS, gr94_28 hS, gr94_29 hS, gr94_30 hS, gr94_31 hS, gr94_33 hS, gr94_34 hS, gr94_35 hS, gr94_36 hS, f_within, e, decide_true, g1, s82, k1, np, z0, l8, and_self]
    refine ⟨d4, ?_, k2, k3⟩
    rw [k4.i (b := 101) (by omega), uI_a _ _ _ 101 _ (by decide), g4.2]
