/-! the class: what deeds do -/
theorem bt_dn (m : Int32) (i : Nat) : bt (dn m) i = (bt m i && decide (i < 8)) := by unfold dn; rw [b_and, b_255]
theorem bt_ln (m : Int32) {i : Nat} (hi : i < 32) : bt (ln m) i = (decide (i < 8) && bt m (i + 8)) := by
  unfold ln
  rw [b_and, b_255, b_sshr8 m hi]
  by_cases h : i < 8
  · rw [if_pos (by omega), Nat.add_comm 8 i]; simp [h]
  · simp [h]
theorem bt_sw (m : Int32) {i : Nat} (hi : i < 32) : bt (sw m) i = (decide (i < 8) && (bt m i && bt m (i + 8))) := by
  unfold sw
  rw [b_and, b_and, b_255, b_sshr8 m hi]
  by_cases h : i < 8
  · rw [if_pos (by omega), Nat.add_comm 8 i]; simp [h]
  · simp [h]
theorem bt_no (m : Int32) {i : Nat} (hi : i < 32) : bt (no m) i = (decide (i < 8) && (bt m i || bt m (i + 8))) := by
  unfold no
  rw [b_and, b_or, b_255, b_sshr8 m hi]
  by_cases h : i < 8
  · rw [if_pos (by omega), Nat.add_comm 8 i]; simp [h]
  · simp [h]
theorem and255 (x : Int32) : ∃ l, l < 256 ∧ x &&& 255 = nI l := b_low (n := 8) (by omega) (fun i h1 h2 => by rw [b_and, b_255]; simp; omega)
theorem ln_nI (m : Int32) : ∃ l, l < 256 ∧ ln m = nI l := and255 _
theorem dn_nI (m : Int32) : ∃ l, l < 256 ∧ dn m = nI l := and255 _
theorem sw_nI (m : Int32) : ∃ l, l < 256 ∧ sw m = nI l := and255 _
theorem no_nI (m : Int32) : ∃ l, l < 256 ∧ no m = nI l := and255 _
theorem f_dn (S : sk_S) (d : sk_D) (m : Int32) : fX10_doneIn S d m = some (dn m) := rfl
theorem f_ln (S : sk_S) (d : sk_D) (m : Int32) : fX10_liningIn S d m = some (ln m) := rfl
theorem f_sw (S : sk_S) (d : sk_D) (m : Int32) : fX10_shownIn S d m = some (sw m) := rfl
theorem f_no (S : sk_S) (d : sk_D) (m : Int32) : fX10_notOpenIn S d m = some (no m) := rfl
theorem f_sp (S : sk_S) (d : sk_D) (m : Int32) : fX10_slipIn S d m = some (sp m) := rfl
theorem f_mood (S : sk_S) (d : sk_D) (m : Int32) {j : Nat} (hj : j < 8) : fX10_moodOf S d m (nI j) = some (mood m j) := by
  unfold fX10_moodOf fX10_moodOf_J17 mood
  rw [show nI j + (8 : Int32) = nI (j + 8) by rw [show (8 : Int32) = nI 8 from rfl, nI_add]]
  simp (disch := omega) only [t_1]
  have h1 : ¬ (1 : Int32) = 0 := by decide
  have h0 : (0 : Int32) = 0 := rfl
  simp only [h1, h0, ↓reduceIte]
  cases bt m (j + 8) <;> cases bt m j <;> rfl
theorem c_tdo {S : sk_S} {d : sk_D} {L : LF} (h : CI S d L) (m : Int32) {j : Nat} (hj : j < 2 ^ 31) :
    ∃ d', fX9_tryDo S d 2 m (nI j) = some (tdo L m j, d') ∧ CI S d' L ∧ Fr scr d d' := by
  have hS := h.1
  have hk := h.2.1
  have hc := h.2.2.1
  have hn := hk.1
  unfold fX9_tryDo tdo
  simp (disch := omega) only [Option.bind_some, ↓reduceIte, nI_leI, nI_ltI, nI_eq, nI_1, kd2 hS, gi2 hS, pi2 hS, gr2_0 hS, gr2_1 hS, gr2_2 hS, gr2_3 hS, kd3 hS, gi3 hS, pi3 hS, gr3_5 hS, gr3_6 hS, gr3_7 hS, gr3_8 hS, gr3_9 hS, gr3_10 hS, gr3_11 hS, gr3_12 hS, gr3_13 hS, gr3_14 hS, c_has hS hk hc hj, f_dn]
  by_cases hjn : j < lf_n L
  · have h5 := hc.2.2.2.2.1 5 j (by omega) hjn
    rw [show (3 + 1 + 5 : Nat) = 9 from rfl] at h5
    have hb8 : decide (j < 8) = true := decide_eq_true (by omega)
    simp (disch := omega) only [hjn, decide_true, not_true, Option.bind_some, ↓reduceIte, nI_leI, nI_ltI, nI_eq, nI_1, t_1, bt_dn, hb8, Bool.and_true, li9 hS, h5]
    by_cases hb : bt m j = true
    · simp (disch := omega) only [hb, ↓reduceIte]
      exact ⟨d, rfl, h, Fr.refl _ _⟩
    · simp (disch := omega) only [hb, ↓reduceIte]
      by_cases hz : (lf_v L 5 j &&& (dn m ^^^ (-1))) = 0
      · simp (disch := omega) only [hz, not_true, Option.bind_some, ↓reduceIte, nI_leI, nI_ltI, nI_eq, nI_1, f_ln]
        obtain ⟨l, hl, el⟩ := ln_nI ((m &&& (((256 : Int32) <<< (nI j &&& 31)) ^^^ (-1))) ||| ((1 : Int32) <<< (nI j &&& 31)))
        obtain ⟨d', a1, a2, a3⟩ := c_keeps h hjn hl
        unfold b8 b1
        rw [el, a1, Option.bind_some]
        cases keeps L j (nI l) with
        | true => exact ⟨d', rfl, a2, a3⟩
        | false => exact ⟨d', rfl, a2, a3⟩
      · simp (disch := omega) only [hz, not_false_eq_true, Option.bind_some, ↓reduceIte, nI_leI, nI_ltI, nI_eq, nI_1]
        exact ⟨d, rfl, h, Fr.refl _ _⟩
  · simp (disch := omega) only [hjn, decide_false, Bool.false_eq_true, not_false_eq_true, Option.bind_some, ↓reduceIte, nI_leI, nI_ltI, nI_eq, nI_1]
    exact ⟨d, rfl, h, Fr.refl _ _⟩
theorem c_tdr {S : sk_S} {d : sk_D} {L : LF} (h : CI S d L) (m : Int32) {j : Nat} (hj : j < 2 ^ 31) : fX9_tryDrop S d 2 m (nI j) = some (tdr L m j) := by
  have hS := h.1
  have hk := h.2.1
  have hc := h.2.2.1
  have hn := hk.1
  unfold fX9_tryDrop tdr b8
  simp (disch := omega) only [Option.bind_some, ↓reduceIte, nI_leI, nI_ltI, nI_eq, nI_1, kd2 hS, gi2 hS, pi2 hS, gr2_0 hS, gr2_1 hS, gr2_2 hS, gr2_3 hS, kd3 hS, gi3 hS, pi3 hS, gr3_5 hS, gr3_6 hS, gr3_7 hS, gr3_8 hS, gr3_9 hS, gr3_10 hS, gr3_11 hS, gr3_12 hS, gr3_13 hS, gr3_14 hS, c_has hS hk hc hj, f_ln]
  by_cases hjn : j < lf_n L
  · have hb8 : decide (j < 8) = true := decide_eq_true (by omega)
    simp (disch := omega) only [hjn, decide_true, not_true, Option.bind_some, ↓reduceIte, nI_leI, nI_ltI, nI_eq, nI_1, t_0, bt_ln, hb8, Bool.true_and]
    cases bt m (j + 8) <;> rfl
  · simp (disch := omega) only [hjn, decide_false, Bool.false_eq_true, not_false_eq_true, Option.bind_some, ↓reduceIte, nI_leI, nI_ltI, nI_eq, nI_1]
theorem c_tfo {S : sk_S} {d : sk_D} {L : LF} (h : CI S d L) (m : Int32) {j : Nat} (hj : j < 2 ^ 31) : fX9_tryForge S d 2 m (nI j) = some (tfo L m j) := by
  have hS := h.1
  have hk := h.2.1
  have hc := h.2.2.1
  have hn := hk.1
  unfold fX9_tryForge tfo b8
  simp (disch := omega) only [Option.bind_some, ↓reduceIte, nI_leI, nI_ltI, nI_eq, nI_1, kd2 hS, gi2 hS, pi2 hS, gr2_0 hS, gr2_1 hS, gr2_2 hS, gr2_3 hS, kd3 hS, gi3 hS, pi3 hS, gr3_5 hS, gr3_6 hS, gr3_7 hS, gr3_8 hS, gr3_9 hS, gr3_10 hS, gr3_11 hS, gr3_12 hS, gr3_13 hS, gr3_14 hS, c_has hS hk hc hj, f_ln, f_no]
  by_cases hjn : j < lf_n L
  · have hb8 : decide (j < 8) = true := decide_eq_true (by omega)
    have h0 := hc.2.2.2.2.1 0 j (by omega) hjn
    rw [show (3 + 1 + 0 : Nat) = 4 from rfl] at h0
    simp (disch := omega) only [hjn, decide_true, not_true, Option.bind_some, ↓reduceIte, nI_leI, nI_ltI, nI_eq, nI_1, t_1, bt_no, hb8, Bool.true_and, c_room hS hk hc, kd3 hS, gi3 hS, pi3 hS, gr3_5 hS, gr3_6 hS, gr3_7 hS, gr3_8 hS, gr3_9 hS, gr3_10 hS, gr3_11 hS, gr3_12 hS, gr3_13 hS, gr3_14 hS, li4 hS, h0, Bool.or_eq_true]
    split
    · rfl
    · split <;> rfl
  · simp (disch := omega) only [hjn, decide_false, Bool.false_eq_true, not_false_eq_true, Option.bind_some, ↓reduceIte, nI_leI, nI_ltI, nI_eq, nI_1]
theorem c_tas {S : sk_S} {d : sk_D} {L : LF} (h : CI S d L) (m : Int32) {j : Nat} (hj : j < 2 ^ 31) (hs : ∃ s, s < 10 ∧ sp m = nI s) :
    ∃ d', fX9_tryAsk S d 2 m (nI j) = some (tas L m j, d') ∧ CI S d' L ∧ Fr scr d d' := by
  have hS := h.1
  have hk := h.2.1
  have hc := h.2.2.1
  have hn := hk.1
  unfold fX9_tryAsk tas
  simp (disch := omega) only [Option.bind_some, ↓reduceIte, nI_leI, nI_ltI, nI_eq, nI_1, kd2 hS, gi2 hS, pi2 hS, gr2_0 hS, gr2_1 hS, gr2_2 hS, gr2_3 hS, kd3 hS, gi3 hS, pi3 hS, gr3_5 hS, gr3_6 hS, gr3_7 hS, gr3_8 hS, gr3_9 hS, gr3_10 hS, gr3_11 hS, gr3_12 hS, gr3_13 hS, gr3_14 hS, c_has hS hk hc hj]
  by_cases hjn : j < lf_n L
  · have back : ∀ e, CI S e L → Fr scr d e → ∃ d', fX9_tryAsk_J53 S 2 m (nI j) e = some (m &&& ((nd L j (dn m) ||| (nd L j (dn m) <<< ((8 : Int32) &&& 31))) ^^^ (-1)), d') ∧ CI S d' L ∧ Fr scr d d' := by
      intro e he fe
      unfold fX9_tryAsk_J53
      simp (disch := omega) only [Option.bind_some, ↓reduceIte, nI_leI, nI_ltI, nI_eq, nI_1, kd2 hS, gi2 hS, pi2 hS, gr2_0 hS, gr2_1 hS, gr2_2 hS, gr2_3 hS, kd3 hS, gi3 hS, pi3 hS, gr3_5 hS, gr3_6 hS, gr3_7 hS, gr3_8 hS, gr3_9 hS, gr3_10 hS, gr3_11 hS, gr3_12 hS, gr3_13 hS, gr3_14 hS, f_dn, c_needing hS hk he.2.2.1 _ hjn]
      exact ⟨e, rfl, he, fe⟩
    simp (disch := omega) only [hjn, decide_true, not_true, Option.bind_some, ↓reduceIte, nI_leI, nI_ltI, nI_eq, nI_1, f_mood, f_ln, f_sp]
    by_cases q0 : mood m j = 0
    · simp (disch := omega) only [q0, true_or, ↓reduceIte]
      exact ⟨d, rfl, h, Fr.refl _ _⟩
    · by_cases q1 : mood m j = 1
      · simp (disch := omega) only [q0, q1, true_or, or_true, ↓reduceIte]
        exact ⟨d, rfl, h, Fr.refl _ _⟩
      · by_cases q3 : mood m j = 3
        · obtain ⟨l, hl, el⟩ := ln_nI m
          obtain ⟨s, hs, es⟩ := hs
          obtain ⟨d', a1, a2, a3⟩ := c_passes h hjn hl hs
          have n0 : ¬ (3 : Int32) = 0 := by decide
          have n1 : ¬ (3 : Int32) = 1 := by decide
          simp (disch := omega) only [q3, n0, n1, false_or, true_and, ↓reduceIte, el, es, a1, Option.bind_some]
          cases passes L j (nI l) (nI s) with
          | true => exact ⟨d', rfl, a2, a3⟩
          | false =>
            simp only [Bool.false_eq_true, ↓reduceIte]
            exact back d' a2 a3
        · simp (disch := omega) only [q0, q1, q3, false_or, false_and, ↓reduceIte]
          exact back d h (Fr.refl _ _)
  · simp (disch := omega) only [hjn, decide_false, Bool.false_eq_true, not_false_eq_true, Option.bind_some, ↓reduceIte, nI_leI, nI_ltI, nI_eq, nI_1]
    exact ⟨d, rfl, h, Fr.refl _ _⟩
theorem v_49 {v : Int64} (h0 : ¬ v < 0) (h1 : v ≤ 49) : ∃ a, a < 50 ∧ v = lN a := by
  obtain ⟨k, hk, rfl⟩ := pk_lOf h0
  refine ⟨k, ?_, rfl⟩
  have := (pk_lLE (b := 49) hk (by decide)).mp h1
  omega
theorem c_tde {S : sk_S} {d : sk_D} {L : LF} (h : CI S d L) (m : Int32) (v : Int64) (hs : ∃ s, s < 10 ∧ sp m = nI s) :
    ∃ d', fX9_tryDeed S d 2 m v = some (tde L m v, d') ∧ CI S d' L ∧ Fr scr d d' := by
  have hS := h.1
  unfold fX9_tryDeed tde
  by_cases h0 : v < 0
  · simp (disch := omega) only [h0, true_or, ↓reduceIte]
    exact ⟨d, rfl, h, Fr.refl _ _⟩
  · by_cases h1 : v ≤ 49
    · simp (disch := omega) only [h0, h1, not_true, or_self, ↓reduceIte]
      obtain ⟨a, ha, rfl⟩ := v_49 h0 h1
      rw [lN_i, show (10 : Int32) = nI 10 from rfl, pk_div (by omega) (by omega) (by omega), pk_mul, pk_sub (by omega), show a - a / 10 * 10 = a % 10 by omega, nI_clamp (by omega)]
      by_cases q0 : nI (a / 10) = 0
      · obtain ⟨d', a1, a2, a3⟩ := c_tdo h m (j := a % 10) (by omega)
        simp (disch := omega) only [q0, ↓reduceIte, kd2 hS, gi2 hS, pi2 hS, gr2_0 hS, gr2_1 hS, gr2_2 hS, gr2_3 hS, a1, Option.bind_some]
        exact ⟨d', rfl, a2, a3⟩
      · by_cases q1 : nI (a / 10) = 1
        · have n0 : ¬ (1 : Int32) = 0 := by decide
          simp (disch := omega) only [q1, n0, ↓reduceIte, kd2 hS, gi2 hS, pi2 hS, gr2_0 hS, gr2_1 hS, gr2_2 hS, gr2_3 hS, c_tdr h, Option.bind_some]
          exact ⟨d, rfl, h, Fr.refl _ _⟩
        · by_cases q2 : nI (a / 10) = 2
          · have n0 : ¬ (2 : Int32) = 0 := by decide
            have n1 : ¬ (2 : Int32) = 1 := by decide
            simp (disch := omega) only [q2, n0, n1, ↓reduceIte, kd2 hS, gi2 hS, pi2 hS, gr2_0 hS, gr2_1 hS, gr2_2 hS, gr2_3 hS, c_tfo h, Option.bind_some]
            exact ⟨d, rfl, h, Fr.refl _ _⟩
          · by_cases q3 : nI (a / 10) = 3
            · have n0 : ¬ (3 : Int32) = 0 := by decide
              have n1 : ¬ (3 : Int32) = 1 := by decide
              have n2 : ¬ (3 : Int32) = 2 := by decide
              obtain ⟨d', a1, a2, a3⟩ := c_tas h m (j := a % 10) (by omega) hs
              simp (disch := omega) only [q3, n0, n1, n2, ↓reduceIte, kd2 hS, gi2 hS, pi2 hS, gr2_0 hS, gr2_1 hS, gr2_2 hS, gr2_3 hS, a1, Option.bind_some]
              exact ⟨d', rfl, a2, a3⟩
            · simp (disch := omega) only [q0, q1, q2, q3, ↓reduceIte]
              exact ⟨d, rfl, h, Fr.refl _ _⟩
    · simp (disch := omega) only [h0, h1, not_false_eq_true, or_true, ↓reduceIte]
      exact ⟨d, rfl, h, Fr.refl _ _⟩
