/-! what is asked of the life and the moment -/
abbrev inN (n : Nat) (p : Int32) : Prop := 0 ≤ p.toInt ∧ p.toInt < (n : Int)
theorem inN_nI {n j : Nat} (hj : j < n) (hn : n < 2 ^ 31) : inN n (nI j) := by unfold inN; rw [nI_toInt (by omega)]; omega
theorem inN_of {n : Nat} {p : Int32} (h : inN n p) : ∃ j, j < n ∧ p = nI j := by
  unfold inN at h
  refine ⟨p.toInt.toNat, by omega, ?_⟩
  have := fb_rng p
  rw [fa_eq, nI_toInt (by omega)]
  omega
theorem c_hasP {S : sk_S} {d : sk_D} {L : LF} (hS : Sh S) (hk : okL L) (hc : cL d 3 L) (p : Int32) : (inN (lf_n L) p → fX2_has S d 3 p = some true) ∧ (¬ inN (lf_n L) p → fX2_has S d 3 p = some false) := by
  have hn := hk.1
  constructor
  · intro h
    obtain ⟨j, hj, rfl⟩ := inN_of h
    rw [c_has hS hk hc (by omega), decide_eq_true hj]
  · intro h
    unfold inN at h
    unfold fX2_has
    by_cases h0 : p < 0
    · rw [if_pos h0]
    · rw [if_neg h0]
      simp (disch := omega) only [Option.bind_some, ↓reduceIte, nI_leI, nI_ltI, nI_eq, nI_1, kd3 hS, gi3 hS, pi3 hS, gr3_5 hS, gr3_6 hS, gr3_7 hS, gr3_8 hS, gr3_9 hS, gr3_10 hS, gr3_11 hS, gr3_12 hS, gr3_13 hS, gr3_14 hS, hc.2.1]
      rw [if_pos]
      rw [fa_lt, show (0 : Int32).toInt = 0 from rfl] at h0
      rw [fa_le, nI_toInt (by omega)]
      omega
theorem m_isDoingP {S : sk_S} {d : sk_D} {L : LF} (h : MI S d L) (p : Int32) : (inN (lf_n L) p → fX11_isDoing S d 94 p.toInt64 = some true) ∧ (¬ inN (lf_n L) p → fX11_isDoing S d 94 p.toInt64 = some false) := by
  rw [m_isDoing h, Int32.toInt_toInt64]
  exact ⟨fun q => by rw [decide_eq_true q], fun q => by rw [decide_eq_false q]⟩
def dv (A : AS) (j : Nat) (w : Int32) : Int32 := if w = 0 then mood (as_m A) j else if w = 1 then lf_v (as_L A) 0 j else if w = 2 then lf_v (as_L A) 1 j else if w = 3 then lf_v (as_L A) 2 j else if w = 4 then lf_v (as_L A) 3 j
  else if w = 5 then lf_v (as_L A) 4 j else if w = 6 then lf_v (as_L A) 5 j else if w = 7 then lf_v (as_L A) 6 j else -2
def x_doing (A : AS) (p w : Int32) : Int32 := if inN (lf_n (as_L A)) p then dv A p.toNatClampNeg w else -2
theorem cv {d : sk_D} {L : LF} (hc : cL d 3 L) {j : Nat} (hj : j < lf_n L) : d.1 4 j = lf_v L 0 j ∧ d.1 5 j = lf_v L 1 j ∧ d.1 6 j = lf_v L 2 j ∧ d.1 7 j = lf_v L 3 j ∧ d.1 8 j = lf_v L 4 j ∧ d.1 9 j = lf_v L 5 j ∧ d.1 10 j = lf_v L 6 j := by
  have hv := hc.2.2.2.2.1
  exact ⟨hv 0 j (by omega) hj, hv 1 j (by omega) hj, hv 2 j (by omega) hj, hv 3 j (by omega) hj, hv 4 j (by omega) hj, hv 5 j (by omega) hj, hv 6 j (by omega) hj⟩
theorem mv {f : Nat → Int32} {L : LF} (hm : mL f L) {j : Nat} (hj : j < lf_n L) : f (10 + j) = lf_v L 0 j ∧ f (18 + j) = lf_v L 1 j ∧ f (26 + j) = lf_v L 2 j ∧ f (34 + j) = lf_v L 3 j ∧ f (42 + j) = lf_v L 4 j ∧ f (50 + j) = lf_v L 5 j ∧ f (58 + j) = lf_v L 6 j := by
  have hv := hm.2.2.2.2.1
  exact ⟨hv 0 j (by omega) hj, hv 1 j (by omega) hj, hv 2 j (by omega) hj, hv 3 j (by omega) hj, hv 4 j (by omega) hj, hv 5 j (by omega) hj, hv 6 j (by omega) hj⟩
theorem c_doing {S : sk_S} {d : sk_D} {A : AS} (h : RC S d A) (hA : okA A) (p w : Int32) : fX10_doing S d 1 p w = some (x_doing A p w) := by
  have hS := h.1.1
  have hc := h.1.2.2.1
  have hn := hA.1.1
  unfold fX10_doing x_doing
  by_cases q : inN (lf_n (as_L A)) p
  · rw [if_pos q]
    have hh := (c_hasP hS hA.1 hc p).1 q
    obtain ⟨j, hj, rfl⟩ := inN_of q
    obtain ⟨v0, v1, v2, v3, v4, v5, v6⟩ := cv hc hj
    simp only [Option.bind_some, ↓reduceIte, gr1_0 hS, gr2_0 hS, kd3 hS, hh]
    rw [nI_clamp (by omega)]
    unfold dv
    by_cases q0 : w = 0
    · rw [if_pos q0, if_pos q0]
      simp (disch := omega) only [Option.bind_some, kd1 hS, gi1 hS, pi1 hS, gr1_0 hS, gr1_1 hS, gr1_2 hS, gr1_3 hS, gr1_4 hS, gr1_5 hS, gr1_6 hS, gr1_7 hS, gr1_8 hS, gr1_9 hS, kd50 hS, gi50 hS, pi50 hS, gr50_0 hS, h.2.1.1, f_mood]
    · rw [if_neg q0, if_neg q0]
      by_cases q1 : w = 1
      · rw [if_pos q1, if_pos q1]
        simp (disch := omega) only [Option.bind_some, kd3 hS, gi3 hS, pi3 hS, gr3_5 hS, gr3_6 hS, gr3_7 hS, gr3_8 hS, gr3_9 hS, gr3_10 hS, gr3_11 hS, gr3_12 hS, gr3_13 hS, gr3_14 hS, kd4 hS, al4 hS, li4 hS, si4 hS, v0]
      · rw [if_neg q1, if_neg q1]
        by_cases q2 : w = 2
        · rw [if_pos q2, if_pos q2]
          simp (disch := omega) only [Option.bind_some, kd3 hS, gi3 hS, pi3 hS, gr3_5 hS, gr3_6 hS, gr3_7 hS, gr3_8 hS, gr3_9 hS, gr3_10 hS, gr3_11 hS, gr3_12 hS, gr3_13 hS, gr3_14 hS, kd5 hS, al5 hS, li5 hS, si5 hS, v1]
        · rw [if_neg q2, if_neg q2]
          by_cases q3 : w = 3
          · rw [if_pos q3, if_pos q3]
            simp (disch := omega) only [Option.bind_some, kd3 hS, gi3 hS, pi3 hS, gr3_5 hS, gr3_6 hS, gr3_7 hS, gr3_8 hS, gr3_9 hS, gr3_10 hS, gr3_11 hS, gr3_12 hS, gr3_13 hS, gr3_14 hS, kd6 hS, al6 hS, li6 hS, si6 hS, v2]
          · rw [if_neg q3, if_neg q3]
            by_cases q4 : w = 4
            · rw [if_pos q4, if_pos q4]
              simp (disch := omega) only [Option.bind_some, kd3 hS, gi3 hS, pi3 hS, gr3_5 hS, gr3_6 hS, gr3_7 hS, gr3_8 hS, gr3_9 hS, gr3_10 hS, gr3_11 hS, gr3_12 hS, gr3_13 hS, gr3_14 hS, kd7 hS, al7 hS, li7 hS, si7 hS, v3]
            · rw [if_neg q4, if_neg q4]
              by_cases q5 : w = 5
              · rw [if_pos q5, if_pos q5]
                simp (disch := omega) only [Option.bind_some, kd3 hS, gi3 hS, pi3 hS, gr3_5 hS, gr3_6 hS, gr3_7 hS, gr3_8 hS, gr3_9 hS, gr3_10 hS, gr3_11 hS, gr3_12 hS, gr3_13 hS, gr3_14 hS, kd8 hS, al8 hS, li8 hS, si8 hS, v4]
              · rw [if_neg q5, if_neg q5]
                by_cases q6 : w = 6
                · rw [if_pos q6, if_pos q6]
                  simp (disch := omega) only [Option.bind_some, kd3 hS, gi3 hS, pi3 hS, gr3_5 hS, gr3_6 hS, gr3_7 hS, gr3_8 hS, gr3_9 hS, gr3_10 hS, gr3_11 hS, gr3_12 hS, gr3_13 hS, gr3_14 hS, kd9 hS, al9 hS, li9 hS, si9 hS, v5]
                · rw [if_neg q6, if_neg q6]
                  by_cases q7 : w = 7
                  · rw [if_pos q7, if_pos q7]
                    simp (disch := omega) only [Option.bind_some, kd3 hS, gi3 hS, pi3 hS, gr3_5 hS, gr3_6 hS, gr3_7 hS, gr3_8 hS, gr3_9 hS, gr3_10 hS, gr3_11 hS, gr3_12 hS, gr3_13 hS, gr3_14 hS, kd10 hS, al10 hS, li10 hS, si10 hS, v6]
                  · rw [if_neg q7, if_neg q7]
  · rw [if_neg q]
    have hh := (c_hasP hS hA.1 hc p).2 q
    simp only [Option.bind_some, ↓reduceIte, gr1_0 hS, gr2_0 hS, kd3 hS, hh, Bool.false_eq_true]
theorem m_doing {S : sk_S} {d : sk_D} {A : AS} (h : RM S d A) (hA : okA A) (p w : Int32) : fX11_doing S d 94 p w = some (x_doing A p w, sk_uI d 94 0 0) := by
  have hS := h.1.1
  have h0 := h.m0 0
  have hn := hA.1.1
  unfold fX11_doing x_doing
  by_cases q : inN (lf_n (as_L A)) p
  · rw [if_pos q]
    have hh := (m_isDoingP h0.1 p).1 q
    obtain ⟨j, hj, rfl⟩ := inN_of q
    obtain ⟨v0, v1, v2, v3, v4, v5, v6⟩ := mv h0.1.2.2 hj
    have vm : (sk_uI d 94 0 0).1 95 (74 + j) = mood (as_m A) j := h0.2.1.1.1 j (by omega)
    simp only [Option.bind_some, ↓reduceIte, pi94 hS, kd94 hS, hh]
    rw [nI_clamp (by omega)]
    unfold dv
    by_cases q0 : w = 0
    · rw [if_pos q0, if_pos q0]
      simp (disch := omega) only [Option.bind_some, kd94 hS, gi94 hS, pi94 hS, gr94_1 hS, gr94_2 hS, gr94_3 hS, gr94_4 hS, gr94_16 hS, gr94_17 hS, gr94_18 hS, gr94_21 hS, gr94_22 hS, gr94_23 hS, gr94_24 hS, gr94_26 hS, gr94_27 hS, gr94_28 hS, gr94_29 hS, gr94_30 hS, gr94_31 hS, gr94_33 hS, gr94_34 hS, gr94_35 hS, gr94_36 hS, p74, li95 hS, vm]
    · rw [if_neg q0, if_neg q0]
      by_cases q1 : w = 1
      · rw [if_pos q1, if_pos q1]
        simp (disch := omega) only [Option.bind_some, kd94 hS, gi94 hS, pi94 hS, gr94_1 hS, gr94_2 hS, gr94_3 hS, gr94_4 hS, gr94_16 hS, gr94_17 hS, gr94_18 hS, gr94_21 hS, gr94_22 hS, gr94_23 hS, gr94_24 hS, gr94_26 hS, gr94_27 hS, gr94_28 hS, gr94_29 hS, gr94_30 hS, gr94_31 hS, gr94_33 hS, gr94_34 hS, gr94_35 hS, gr94_36 hS, p10, li95 hS, v0]
      · rw [if_neg q1, if_neg q1]
        by_cases q2 : w = 2
        · rw [if_pos q2, if_pos q2]
          simp (disch := omega) only [Option.bind_some, kd94 hS, gi94 hS, pi94 hS, gr94_1 hS, gr94_2 hS, gr94_3 hS, gr94_4 hS, gr94_16 hS, gr94_17 hS, gr94_18 hS, gr94_21 hS, gr94_22 hS, gr94_23 hS, gr94_24 hS, gr94_26 hS, gr94_27 hS, gr94_28 hS, gr94_29 hS, gr94_30 hS, gr94_31 hS, gr94_33 hS, gr94_34 hS, gr94_35 hS, gr94_36 hS, p18, li95 hS, v1]
        · rw [if_neg q2, if_neg q2]
          by_cases q3 : w = 3
          · rw [if_pos q3, if_pos q3]
            simp (disch := omega) only [Option.bind_some, kd94 hS, gi94 hS, pi94 hS, gr94_1 hS, gr94_2 hS, gr94_3 hS, gr94_4 hS, gr94_16 hS, gr94_17 hS, gr94_18 hS, gr94_21 hS, gr94_22 hS, gr94_23 hS, gr94_24 hS, gr94_26 hS, gr94_27 hS, gr94_28 hS, gr94_29 hS, gr94_30 hS, gr94_31 hS, gr94_33 hS, gr94_34 hS, gr94_35 hS, gr94_36 hS, p26, li95 hS, v2]
          · rw [if_neg q3, if_neg q3]
            by_cases q4 : w = 4
            · rw [if_pos q4, if_pos q4]
              simp (disch := omega) only [Option.bind_some, kd94 hS, gi94 hS, pi94 hS, gr94_1 hS, gr94_2 hS, gr94_3 hS, gr94_4 hS, gr94_16 hS, gr94_17 hS, gr94_18 hS, gr94_21 hS, gr94_22 hS, gr94_23 hS, gr94_24 hS, gr94_26 hS, gr94_27 hS, gr94_28 hS, gr94_29 hS, gr94_30 hS, gr94_31 hS, gr94_33 hS, gr94_34 hS, gr94_35 hS, gr94_36 hS, p34, li95 hS, v3]
            · rw [if_neg q4, if_neg q4]
              by_cases q5 : w = 5
              · rw [if_pos q5, if_pos q5]
                simp (disch := omega) only [Option.bind_some, kd94 hS, gi94 hS, pi94 hS, gr94_1 hS, gr94_2 hS, gr94_3 hS, gr94_4 hS, gr94_16 hS, gr94_17 hS, gr94_18 hS, gr94_21 hS, gr94_22 hS, gr94_23 hS, gr94_24 hS, gr94_26 hS, gr94_27 hS, gr94_28 hS, gr94_29 hS, gr94_30 hS, gr94_31 hS, gr94_33 hS, gr94_34 hS, gr94_35 hS, gr94_36 hS, p42, li95 hS, v4]
              · rw [if_neg q5, if_neg q5]
                by_cases q6 : w = 6
                · rw [if_pos q6, if_pos q6]
                  simp (disch := omega) only [Option.bind_some, kd94 hS, gi94 hS, pi94 hS, gr94_1 hS, gr94_2 hS, gr94_3 hS, gr94_4 hS, gr94_16 hS, gr94_17 hS, gr94_18 hS, gr94_21 hS, gr94_22 hS, gr94_23 hS, gr94_24 hS, gr94_26 hS, gr94_27 hS, gr94_28 hS, gr94_29 hS, gr94_30 hS, gr94_31 hS, gr94_33 hS, gr94_34 hS, gr94_35 hS, gr94_36 hS, p50, li95 hS, v5]
                · rw [if_neg q6, if_neg q6]
                  by_cases q7 : w = 7
                  · rw [if_pos q7, if_pos q7]
                    simp (disch := omega) only [Option.bind_some, kd94 hS, gi94 hS, pi94 hS, gr94_1 hS, gr94_2 hS, gr94_3 hS, gr94_4 hS, gr94_16 hS, gr94_17 hS, gr94_18 hS, gr94_21 hS, gr94_22 hS, gr94_23 hS, gr94_24 hS, gr94_26 hS, gr94_27 hS, gr94_28 hS, gr94_29 hS, gr94_30 hS, gr94_31 hS, gr94_33 hS, gr94_34 hS, gr94_35 hS, gr94_36 hS, p58, li95 hS, v6]
                  · rw [if_neg q7, if_neg q7]
  · rw [if_neg q]
    have hh := (m_isDoingP h0.1 p).2 q
    simp only [Option.bind_some, ↓reduceIte, pi94 hS, kd94 hS, hh, Bool.false_eq_true]
def x_door (A : AS) (p : Int32) : Int32 := if inN (lf_k (as_L A)) p then lf_v (as_L A) 7 p.toNatClampNeg else -2
theorem c_door {S : sk_S} {d : sk_D} {A : AS} (h : RC S d A) (hA : okA A) (p : Int32) : fX10_door S d 1 p = some (x_door A p) := by
  have hS := h.1.1
  have hc := h.1.2.2.1
  have hn := hA.1.2.1
  unfold fX10_door x_door
  by_cases q : inN (lf_k (as_L A)) p
  · rw [if_pos q]
    obtain ⟨j, hj, rfl⟩ := inN_of q
    have h0 : ¬ nI j < 0 := nI_pos (by omega)
    have hd := hc.2.2.2.2.2.1 j hj
    rw [show 3 + 8 = 11 from rfl] at hd
    simp (disch := omega) only [Option.bind_some, ↓reduceIte, nI_leI, nI_ltI, nI_eq, nI_1, h0, kd1 hS, gi1 hS, pi1 hS, gr1_0 hS, gr1_1 hS, gr1_2 hS, gr1_3 hS, gr1_4 hS, gr1_5 hS, gr1_6 hS, gr1_7 hS, gr1_8 hS, gr1_9 hS, kd2 hS, gi2 hS, pi2 hS, gr2_0 hS, gr2_1 hS, gr2_2 hS, gr2_3 hS, kd3 hS, gi3 hS, pi3 hS, gr3_5 hS, gr3_6 hS, gr3_7 hS, gr3_8 hS, gr3_9 hS, gr3_10 hS, gr3_11 hS, gr3_12 hS, gr3_13 hS, gr3_14 hS, kd11 hS, al11 hS, li11 hS, si11 hS, hc.2.2.1, hj, hd]
    rw [nI_clamp (by omega)]
  · rw [if_neg q]
    by_cases h0 : p < 0
    · rw [if_pos h0]
    · rw [if_neg h0]
      have h1 : ¬ p < nI (lf_k (as_L A)) := by
        unfold inN at q
        rw [fa_lt, show (0 : Int32).toInt = 0 from rfl] at h0
        rw [fa_lt, nI_toInt (by omega)]
        omega
      simp (disch := omega) only [Option.bind_some, ↓reduceIte, nI_leI, nI_ltI, nI_eq, nI_1, kd1 hS, gi1 hS, pi1 hS, gr1_0 hS, gr1_1 hS, gr1_2 hS, gr1_3 hS, gr1_4 hS, gr1_5 hS, gr1_6 hS, gr1_7 hS, gr1_8 hS, gr1_9 hS, kd2 hS, gi2 hS, pi2 hS, gr2_0 hS, gr2_1 hS, gr2_2 hS, gr2_3 hS, kd3 hS, gi3 hS, pi3 hS, gr3_5 hS, gr3_6 hS, gr3_7 hS, gr3_8 hS, gr3_9 hS, gr3_10 hS, gr3_11 hS, gr3_12 hS, gr3_13 hS, gr3_14 hS, hc.2.2.1, h1]
theorem m_door {S : sk_S} {d : sk_D} {A : AS} (h : RM S d A) (hA : okA A) (p : Int32) : fX11_door S d 94 p = some (x_door A p, sk_uI d 94 0 0) := by
  have hS := h.1.1
  have h0 := h.m0 0
  have hn := hA.1.2.1
  have hk := h0.1.2.2.2.2.1
  have e : (0 ≤ p.toInt64 ∧ p.toInt64 ≤ (nI (lf_k (as_L A)) - 1).toInt64) ↔ inN (lf_k (as_L A)) p := by
    unfold inN
    rw [fa_le64, fa_le64, Int32.toInt_toInt64, Int32.toInt_toInt64, show (1 : Int32) = nI 1 from rfl, pk_sub_toInt (by omega) (by omega), show (0 : Int64).toInt = 0 from rfl]
    omega
  unfold fX11_door x_door
  simp (disch := omega) only [Option.bind_some, ↓reduceIte, nI_leI, nI_ltI, nI_eq, nI_1, kd94 hS, gi94 hS, pi94 hS, gr94_1 hS, gr94_2 hS, gr94_3 hS, gr94_4 hS, gr94_16 hS, gr94_17 hS, gr94_18 hS, gr94_21 hS, gr94_22 hS, gr94_23 hS, gr94_24 hS, gr94_26 hS, gr94_27 hS, gr94_28 hS, gr94_29 hS, gr94_30 hS, gr94_31 hS, gr94_33 hS, gr94_34 hS, gr94_35 hS, gr94_36 hS, l95_2 hS, hk, f_within]
  by_cases q : inN (lf_k (as_L A)) p
  · rw [if_pos q, decide_eq_true (e.mpr q)]
    obtain ⟨j, hj, rfl⟩ := inN_of q
    have hd := h0.1.2.2.2.2.2.2.2.1 j hj
    simp (disch := omega) only [Option.bind_some, ↓reduceIte, nI_leI, nI_ltI, nI_eq, nI_1, kd94 hS, gi94 hS, pi94 hS, gr94_1 hS, gr94_2 hS, gr94_3 hS, gr94_4 hS, gr94_16 hS, gr94_17 hS, gr94_18 hS, gr94_21 hS, gr94_22 hS, gr94_23 hS, gr94_24 hS, gr94_26 hS, gr94_27 hS, gr94_28 hS, gr94_29 hS, gr94_30 hS, gr94_31 hS, gr94_33 hS, gr94_34 hS, gr94_35 hS, gr94_36 hS, p66, li95 hS, hd]
    rw [nI_clamp (by omega)]
  · rw [if_neg q, decide_eq_false (fun a => q (e.mp a))]
    rfl
def x_nd (A : AS) (p : Int32) : Int32 := if inN (lf_n (as_L A)) p then (if bt (as_m A) p.toNatClampNeg = true then 0 else -5) else -2
theorem x_nd_j (A : AS) {j : Nat} (hj : j < lf_n (as_L A)) (hn : lf_n (as_L A) ≤ 8) : x_nd A (nI j) = if bt (as_m A) j = true then 0 else -5 := by
  unfold x_nd
  rw [if_pos (inN_nI hj (by omega)), nI_clamp (by omega)]
theorem c_nd {S : sk_S} {d : sk_D} {A : AS} (h : RC S d A) (hA : okA A) (p : Int32) : fX10_notDone S d 1 p = some (x_nd A p) := by
  have hS := h.1.1
  have hc := h.1.2.2.1
  have hn := hA.1.1
  unfold fX10_notDone
  by_cases q : inN (lf_n (as_L A)) p
  · have hh := (c_hasP hS hA.1 hc p).1 q
    obtain ⟨j, hj, rfl⟩ := inN_of q
    rw [x_nd_j A hj hn]
    have hb8 : decide (j < 8) = true := decide_eq_true (by omega)
    simp (disch := omega) only [Option.bind_some, ↓reduceIte, nI_leI, nI_ltI, nI_eq, nI_1, kd1 hS, gi1 hS, pi1 hS, gr1_0 hS, gr1_1 hS, gr1_2 hS, gr1_3 hS, gr1_4 hS, gr1_5 hS, gr1_6 hS, gr1_7 hS, gr1_8 hS, gr1_9 hS, kd2 hS, gi2 hS, pi2 hS, gr2_0 hS, gr2_1 hS, gr2_2 hS, gr2_3 hS, kd3 hS, gi3 hS, pi3 hS, gr3_5 hS, gr3_6 hS, gr3_7 hS, gr3_8 hS, gr3_9 hS, gr3_10 hS, gr3_11 hS, gr3_12 hS, gr3_13 hS, gr3_14 hS, kd50 hS, gi50 hS, pi50 hS, gr50_0 hS, hh, h.2.1.1, f_dn, t_0, bt_dn, hb8, Bool.and_true]
    cases bt (as_m A) j <;> rfl
  · have hh := (c_hasP hS hA.1 hc p).2 q
    unfold x_nd
    rw [if_neg q]
    simp (disch := omega) only [Option.bind_some, ↓reduceIte, nI_leI, nI_ltI, nI_eq, nI_1, kd1 hS, gi1 hS, pi1 hS, gr1_0 hS, gr1_1 hS, gr1_2 hS, gr1_3 hS, gr1_4 hS, gr1_5 hS, gr1_6 hS, gr1_7 hS, gr1_8 hS, gr1_9 hS, kd2 hS, gi2 hS, pi2 hS, gr2_0 hS, gr2_1 hS, gr2_2 hS, gr2_3 hS, kd3 hS, gi3 hS, pi3 hS, gr3_5 hS, gr3_6 hS, gr3_7 hS, gr3_8 hS, gr3_9 hS, gr3_10 hS, gr3_11 hS, gr3_12 hS, gr3_13 hS, gr3_14 hS, hh, Bool.false_eq_true]
def x_putBack (A : AS) (p : Int32) : Int32 := if x_nd A p = 0 then nd (as_L A) p.toNatClampNeg (dn (as_m A)) else x_nd A p
theorem x_nd0 {A : AS} {p : Int32} (h : x_nd A p = 0) : ∃ j, j < lf_n (as_L A) ∧ p = nI j := by
  unfold x_nd at h
  by_cases q : inN (lf_n (as_L A)) p
  · exact inN_of q
  · rw [if_neg q] at h; exact absurd h (by decide)
theorem c_putBack {S : sk_S} {d : sk_D} {A : AS} (h : RC S d A) (hA : okA A) (p : Int32) : fX10_putBack S d 1 p = some (x_putBack A p) := by
  have hS := h.1.1
  have hn := hA.1.1
  unfold fX10_putBack x_putBack
  simp (disch := omega) only [Option.bind_some, ↓reduceIte, nI_leI, nI_ltI, nI_eq, nI_1, kd1 hS, gi1 hS, pi1 hS, gr1_0 hS, gr1_1 hS, gr1_2 hS, gr1_3 hS, gr1_4 hS, gr1_5 hS, gr1_6 hS, gr1_7 hS, gr1_8 hS, gr1_9 hS, c_nd h hA]
  by_cases q : x_nd A p = 0
  · rw [if_pos q, if_pos q]
    obtain ⟨j, hj, rfl⟩ := x_nd0 q
    simp (disch := omega) only [Option.bind_some, ↓reduceIte, nI_leI, nI_ltI, nI_eq, nI_1, kd2 hS, gi2 hS, pi2 hS, gr2_0 hS, gr2_1 hS, gr2_2 hS, gr2_3 hS, kd3 hS, gi3 hS, pi3 hS, gr3_5 hS, gr3_6 hS, gr3_7 hS, gr3_8 hS, gr3_9 hS, gr3_10 hS, gr3_11 hS, gr3_12 hS, gr3_13 hS, gr3_14 hS, kd50 hS, gi50 hS, pi50 hS, gr50_0 hS, h.2.1.1, f_dn, c_needing hS hA.1 h.1.2.2.1 _ hj]
    rw [nI_clamp (by omega)]
  · rw [if_neg q, if_neg q]
theorem m_putBack {S : sk_S} {d : sk_D} {A : AS} (h : RM S d A) (hA : okA A) (p : Int32) : fX11_putBack S d 94 p = some (x_putBack A p, sk_uI d 94 0 0) := by
  have hS := h.1.1
  have h0 := h.m0 0
  have hn := hA.1.1
  unfold fX11_putBack x_putBack
  by_cases q : inN (lf_n (as_L A)) p
  · have hh := (m_isDoingP h0.1 p).1 q
    obtain ⟨j, hj, rfl⟩ := inN_of q
    rw [x_nd_j A hj hn]
    simp (disch := omega) only [Option.bind_some, ↓reduceIte, nI_leI, nI_ltI, nI_eq, nI_1, kd94 hS, gi94 hS, pi94 hS, gr94_1 hS, gr94_2 hS, gr94_3 hS, gr94_4 hS, gr94_16 hS, gr94_17 hS, gr94_18 hS, gr94_21 hS, gr94_22 hS, gr94_23 hS, gr94_24 hS, gr94_26 hS, gr94_27 hS, gr94_28 hS, gr94_29 hS, gr94_30 hS, gr94_31 hS, gr94_33 hS, gr94_34 hS, gr94_35 hS, gr94_36 hS, hh, m_stand hS h0.2.1.1.1, f_isDone, m_back h0.1 _ hj]
    rw [nI_clamp (by omega)]
    cases bt (as_m A) j <;> rfl
  · have hh := (m_isDoingP h0.1 p).2 q
    have e : x_nd A p = -2 := by unfold x_nd; rw [if_neg q]
    rw [e]
    simp (disch := omega) only [Option.bind_some, ↓reduceIte, nI_leI, nI_ltI, nI_eq, nI_1, kd94 hS, gi94 hS, pi94 hS, gr94_1 hS, gr94_2 hS, gr94_3 hS, gr94_4 hS, gr94_16 hS, gr94_17 hS, gr94_18 hS, gr94_21 hS, gr94_22 hS, gr94_23 hS, gr94_24 hS, gr94_26 hS, gr94_27 hS, gr94_28 hS, gr94_29 hS, gr94_30 hS, gr94_31 hS, gr94_33 hS, gr94_34 hS, gr94_35 hS, gr94_36 hS, hh, Bool.false_eq_true]
    rfl
def x_open (A : AS) : Int32 := gs (fun j => !bt (as_m A) j && decide ((lf_v (as_L A) 5 j &&& (dn (as_m A) ^^^ (-1))) = 0)) (lf_n (as_L A))
theorem c_open {S : sk_S} {d : sk_D} {A : AS} (h : RC S d A) (hA : okA A) : fX10_open S d 1 = some (x_open A) := by
  have hS := h.1.1
  have hc := h.1.2.2.1
  have hn := hA.1.1
  unfold fX10_open
  simp (disch := omega) only [Option.bind_some, ↓reduceIte, nI_leI, nI_ltI, nI_eq, nI_1, kd1 hS, gi1 hS, pi1 hS, gr1_0 hS, gr1_1 hS, gr1_2 hS, gr1_3 hS, gr1_4 hS, gr1_5 hS, gr1_6 hS, gr1_7 hS, gr1_8 hS, gr1_9 hS, kd2 hS, gi2 hS, pi2 hS, gr2_0 hS, gr2_1 hS, gr2_2 hS, gr2_3 hS, kd3 hS, gi3 hS, pi3 hS, gr3_5 hS, gr3_6 hS, gr3_7 hS, gr3_8 hS, gr3_9 hS, gr3_10 hS, gr3_11 hS, gr3_12 hS, gr3_13 hS, gr3_14 hS, kd50 hS, gi50 hS, pi50 hS, gr50_0 hS, h.2.1.1, f_dn]
  have e := it_eq (body := fX10_open_L24 S d 3 (dn (as_m A))) (fun k => (gs (fun j => !bt (as_m A) j && decide ((lf_v (as_L A) 5 j &&& (dn (as_m A) ^^^ (-1))) = 0)) k, nI k)) (lf_n (as_L A)) (x_open A) ?_ ?_
  · rw [show ((0 : Int32), (0 : Int32)) = (gs (fun j => !bt (as_m A) j && decide ((lf_v (as_L A) 5 j &&& (dn (as_m A) ^^^ (-1))) = 0)) 0, nI 0) from rfl, e]; rfl
  · intro k hk
    obtain ⟨v0, v1, v2, v3, v4, v5, v6⟩ := cv hc hk
    have hx : ¬ lf_n (as_L A) ≤ k := by omega
    have hb8 : decide (k < 8) = true := decide_eq_true (by omega)
    unfold fX10_open_L24
    dsimp only
    simp (disch := omega) only [Option.bind_some, ↓reduceIte, nI_leI, nI_ltI, nI_eq, nI_1, kd3 hS, gi3 hS, pi3 hS, gr3_5 hS, gr3_6 hS, gr3_7 hS, gr3_8 hS, gr3_9 hS, gr3_10 hS, gr3_11 hS, gr3_12 hS, gr3_13 hS, gr3_14 hS, kd9 hS, al9 hS, li9 hS, si9 hS, hc.2.1, hx, t_0, bt_dn, hb8, Bool.and_true, v5, gs]
    rcases Bool.eq_false_or_eq_true (bt (as_m A) k) with hb | hb
    · simp only [hb, Bool.not_true, Bool.false_and, Bool.false_eq_true, Bool.true_eq_false, ↓reduceIte]
    · by_cases z : (lf_v (as_L A) 5 k &&& (dn (as_m A) ^^^ (-1))) = 0
      · simp only [hb, z, decide_true, Bool.not_false, Bool.and_self, Bool.false_eq_true, ↓reduceIte]
      · simp only [hb, z, decide_false, Bool.and_false, Bool.false_eq_true, ↓reduceIte]
  · unfold fX10_open_L24
    dsimp only
    simp (disch := omega) only [Option.bind_some, ↓reduceIte, nI_leI, nI_ltI, nI_eq, nI_1, kd3 hS, gi3 hS, pi3 hS, gr3_5 hS, gr3_6 hS, gr3_7 hS, gr3_8 hS, gr3_9 hS, gr3_10 hS, gr3_11 hS, gr3_12 hS, gr3_13 hS, gr3_14 hS, hc.2.1, Nat.le_refl]
    rfl
theorem m_open {S : sk_S} {d : sk_D} {A : AS} (h : RM S d A) (hA : okA A) : fX11_open S d 94 = some (x_open A, sk_uI d 94 0 0) := by
  have hS := h.1.1
  have h0 := h.m0 0
  have hn := hA.1.1
  unfold fX11_open
  simp (disch := omega) only [Option.bind_some, ↓reduceIte, nI_leI, nI_ltI, nI_eq, nI_1, kd94 hS, gi94 hS, pi94 hS, gr94_1 hS, gr94_2 hS, gr94_3 hS, gr94_4 hS, gr94_16 hS, gr94_17 hS, gr94_18 hS, gr94_21 hS, gr94_22 hS, gr94_23 hS, gr94_24 hS, gr94_26 hS, gr94_27 hS, gr94_28 hS, gr94_29 hS, gr94_30 hS, gr94_31 hS, gr94_33 hS, gr94_34 hS, gr94_35 hS, gr94_36 hS]
  have e := it_eq (body := fX11_open_L9 S 94 (sk_uI d 94 0 0)) (fun k => (gs (fun j => !bt (as_m A) j && decide ((lf_v (as_L A) 5 j &&& (dn (as_m A) ^^^ (-1))) = 0)) k, nI k)) (lf_n (as_L A)) (x_open A, sk_uI d 94 0 0) ?_ ?_
  · rw [show ((0 : Int32), (0 : Int32)) = (gs (fun j => !bt (as_m A) j && decide ((lf_v (as_L A) 5 j &&& (dn (as_m A) ^^^ (-1))) = 0)) 0, nI 0) from rfl, e]; rfl
  · intro k hk
    have hx : ¬ lf_n (as_L A) ≤ k := by omega
    unfold fX11_open_L9
    dsimp only
    simp (disch := omega) only [Option.bind_some, ↓reduceIte, nI_leI, nI_ltI, nI_eq, nI_1, kd94 hS, gi94 hS, pi94 hS, gr94_1 hS, gr94_2 hS, gr94_3 hS, gr94_4 hS, gr94_16 hS, gr94_17 hS, gr94_18 hS, gr94_21 hS, gr94_22 hS, gr94_23 hS, gr94_24 hS, gr94_26 hS, gr94_27 hS, gr94_28 hS, gr94_29 hS, gr94_30 hS, gr94_31 hS, gr94_33 hS, gr94_34 hS, gr94_35 hS, gr94_36 hS, l95_1 hS, h0.1.2.2.2.1, hx, m_stand hS h0.2.1.1.1, f_isDone, m_needs h0.1 hA.2.1.z hk, or0, gs]
    rcases Bool.eq_false_or_eq_true (bt (as_m A) k) with hb | hb
    · simp only [hb, Bool.not_true, Bool.false_and, Bool.false_eq_true, Bool.true_eq_false, ↓reduceIte]
    · by_cases z : (lf_v (as_L A) 5 k &&& (dn (as_m A) ^^^ (-1))) = 0
      · simp only [hb, z, decide_true, Bool.not_false, Bool.and_self, Bool.false_eq_true, ↓reduceIte]
      · simp only [hb, z, decide_false, Bool.and_false, Bool.false_eq_true, ↓reduceIte]
  · unfold fX11_open_L9
    dsimp only
    simp (disch := omega) only [Option.bind_some, ↓reduceIte, nI_leI, nI_ltI, nI_eq, nI_1, kd94 hS, gi94 hS, pi94 hS, gr94_1 hS, gr94_2 hS, gr94_3 hS, gr94_4 hS, gr94_16 hS, gr94_17 hS, gr94_18 hS, gr94_21 hS, gr94_22 hS, gr94_23 hS, gr94_24 hS, gr94_26 hS, gr94_27 hS, gr94_28 hS, gr94_29 hS, gr94_30 hS, gr94_31 hS, gr94_33 hS, gr94_34 hS, gr94_35 hS, gr94_36 hS, l95_1 hS, h0.1.2.2.2.1, Nat.le_refl]
    rfl
