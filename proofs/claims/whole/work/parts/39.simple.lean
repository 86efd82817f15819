/-! gains, counts, faults, undoing -/
def gn (L : LF) (j : Nat) (done : Int32) : Int32 := lf_v L 2 j * s3 (fun e => if bt (nd L j done) e = true then lf_v L 4 e else 0) (lf_n L)
theorem c_gainOf {S : sk_S} {d : sk_D} {L : LF} (hS : Sh S) (hk : okL L) (hc : cL d 3 L) (done : Int32) {j : Nat} (hj : j < lf_n L) : fX2_gainOf S d 3 (nI j) done = some (gn L j done) := by
  have hn := hk.1
  unfold fX2_gainOf
  obtain ⟨-, -, v2, -⟩ := cv hc hj
  have e := it_eq (body := fX2_gainOf_L13 S d 3 (nI j) (nd L j done)) (fun k => (s3 (fun e => if bt (nd L j done) e = true then lf_v L 4 e else 0) k, nI k)) (lf_n L) (gn L j done) ?_ ?_
  · simp (disch := omega) only [Option.bind_some, ↓reduceIte, nI_leI, nI_ltI, nI_eq, nI_1, kd3 hS, gi3 hS, pi3 hS, gr3_5 hS, gr3_6 hS, gr3_7 hS, gr3_8 hS, gr3_9 hS, gr3_10 hS, gr3_11 hS, gr3_12 hS, gr3_13 hS, gr3_14 hS, c_needing hS hk hc done hj]
    rw [show ((0 : Int32), (0 : Int32)) = (s3 (fun e => if bt (nd L j done) e = true then lf_v L 4 e else 0) 0, nI 0) from rfl, e]; rfl
  · intro k hkn
    obtain ⟨-, -, -, -, v4, -⟩ := cv hc hkn
    have hx : ¬ lf_n L ≤ k := by omega
    unfold fX2_gainOf_L13
    dsimp only
    simp (disch := omega) only [Option.bind_some, ↓reduceIte, nI_leI, nI_ltI, nI_eq, nI_1, kd3 hS, gi3 hS, pi3 hS, gr3_5 hS, gr3_6 hS, gr3_7 hS, gr3_8 hS, gr3_9 hS, gr3_10 hS, gr3_11 hS, gr3_12 hS, gr3_13 hS, gr3_14 hS, hc.2.1, hx, t_1, li8 hS, v4, s3]
    by_cases hb : bt (nd L j done) k = true
    · simp only [hb, ↓reduceIte]
    · simp only [hb, Bool.false_eq_true, ↓reduceIte, Int32.add_zero]
  · unfold fX2_gainOf_L13
    dsimp only
    simp (disch := omega) only [Option.bind_some, ↓reduceIte, nI_leI, nI_ltI, nI_eq, nI_1, kd3 hS, gi3 hS, pi3 hS, gr3_5 hS, gr3_6 hS, gr3_7 hS, gr3_8 hS, gr3_9 hS, gr3_10 hS, gr3_11 hS, gr3_12 hS, gr3_13 hS, gr3_14 hS, hc.2.1, Nat.le_refl, li6 hS, v2]
    rfl
theorem m_gainOf {S : sk_S} {d : sk_D} {L : LF} (h : MI S d L) {m : Int32} (hm : mM (fun k => d.1 95 (74 + k)) m) {j : Nat} (hj : j < lf_n L) : fX11_gainOf S d 94 (nI j) = some (gn L j (dn m)) := by
  have hS := h.1
  have hn := h.2.1.1
  unfold fX11_gainOf
  obtain ⟨-, -, v2, -⟩ := mv h.2.2 hj
  have e := it_eq (body := fX11_gainOf_L15 S d 94 (nI j) (nd L j (dn m))) (fun k => (s3 (fun e => if bt (nd L j (dn m)) e = true then lf_v L 4 e else 0) k, nI k)) (lf_n L) (gn L j (dn m)) ?_ ?_
  · simp (disch := omega) only [Option.bind_some, ↓reduceIte, nI_leI, nI_ltI, nI_eq, nI_1, kd94 hS, gi94 hS, pi94 hS, gr94_1 hS, gr94_2 hS, gr94_3 hS, gr94_4 hS, gr94_16 hS, gr94_17 hS, gr94_18 hS, gr94_21 hS, gr94_22 hS, gr94_23 hS, gr94_24 hS, gr94_26 hS, gr94_27 hS, gr94_28 hS, gr94_29 hS, gr94_30 hS, gr94_31 hS, gr94_33 hS, gr94_34 hS, gr94_35 hS, gr94_36 hS, m_stand hS hm.1, m_back h m hj]
    rw [show ((0 : Int32), (0 : Int32)) = (s3 (fun e => if bt (nd L j (dn m)) e = true then lf_v L 4 e else 0) 0, nI 0) from rfl, e]; rfl
  · intro k hkn
    obtain ⟨-, -, -, -, v4, -⟩ := mv h.2.2 hkn
    have hx : ¬ lf_n L ≤ k := by omega
    unfold fX11_gainOf_L15
    dsimp only
    simp (disch := omega) only [Option.bind_some, ↓reduceIte, nI_leI, nI_ltI, nI_eq, nI_1, kd94 hS, gi94 hS, pi94 hS, gr94_1 hS, gr94_2 hS, gr94_3 hS, gr94_4 hS, gr94_16 hS, gr94_17 hS, gr94_18 hS, gr94_21 hS, gr94_22 hS, gr94_23 hS, gr94_24 hS, gr94_26 hS, gr94_27 hS, gr94_28 hS, gr94_29 hS, gr94_30 hS, gr94_31 hS, gr94_33 hS, gr94_34 hS, gr94_35 hS, gr94_36 hS, l95_1 hS, h.2.2.2.1, hx, f_isIn, p42, li95 hS, v4, s3]
    by_cases hb : bt (nd L j (dn m)) k = true
    · simp only [hb, ↓reduceIte]
    · simp only [hb, Bool.false_eq_true, ↓reduceIte]
  · unfold fX11_gainOf_L15
    dsimp only
    simp (disch := omega) only [Option.bind_some, ↓reduceIte, nI_leI, nI_ltI, nI_eq, nI_1, kd94 hS, gi94 hS, pi94 hS, gr94_1 hS, gr94_2 hS, gr94_3 hS, gr94_4 hS, gr94_16 hS, gr94_17 hS, gr94_18 hS, gr94_21 hS, gr94_22 hS, gr94_23 hS, gr94_24 hS, gr94_26 hS, gr94_27 hS, gr94_28 hS, gr94_29 hS, gr94_30 hS, gr94_31 hS, gr94_33 hS, gr94_34 hS, gr94_35 hS, gr94_36 hS, l95_1 hS, h.2.2.2.1, Nat.le_refl, p26, li95 hS, v2]
    rfl
def x_gain (A : AS) (p : Int32) : Int32 := if x_nd A p = 0 then gn (as_L A) p.toNatClampNeg (dn (as_m A)) else x_nd A p
theorem c_gain {S : sk_S} {d : sk_D} {A : AS} (h : RC S d A) (hA : okA A) (p : Int32) : fX10_gain S d 1 p = some (x_gain A p) := by
  have hS := h.1.1
  have hn := hA.1.1
  unfold fX10_gain x_gain
  simp (disch := omega) only [Option.bind_some, ↓reduceIte, nI_leI, nI_ltI, nI_eq, nI_1, kd1 hS, gi1 hS, pi1 hS, gr1_0 hS, gr1_1 hS, gr1_2 hS, gr1_3 hS, gr1_4 hS, gr1_5 hS, gr1_6 hS, gr1_7 hS, gr1_8 hS, gr1_9 hS, c_nd h hA]
  by_cases q : x_nd A p = 0
  · rw [if_pos q, if_pos q]
    obtain ⟨j, hj, rfl⟩ := x_nd0 q
    simp (disch := omega) only [Option.bind_some, ↓reduceIte, nI_leI, nI_ltI, nI_eq, nI_1, kd2 hS, gi2 hS, pi2 hS, gr2_0 hS, gr2_1 hS, gr2_2 hS, gr2_3 hS, kd3 hS, gi3 hS, pi3 hS, gr3_5 hS, gr3_6 hS, gr3_7 hS, gr3_8 hS, gr3_9 hS, gr3_10 hS, gr3_11 hS, gr3_12 hS, gr3_13 hS, gr3_14 hS, kd50 hS, gi50 hS, pi50 hS, gr50_0 hS, h.2.1.1, f_dn, c_gainOf hS hA.1 h.1.2.2.1 _ hj]
    rw [nI_clamp (by omega)]
  · rw [if_neg q, if_neg q]
theorem m_gain {S : sk_S} {d : sk_D} {A : AS} (h : RM S d A) (hA : okA A) (p : Int32) : fX11_gain S d 94 p = some (x_gain A p, sk_uI d 94 0 0) := by
  have hS := h.1.1
  have h0 := h.m0 0
  have hn := hA.1.1
  unfold fX11_gain x_gain
  by_cases q : inN (lf_n (as_L A)) p
  · have hh := (m_isDoingP h0.1 p).1 q
    obtain ⟨j, hj, rfl⟩ := inN_of q
    rw [x_nd_j A hj hn]
    simp (disch := omega) only [Option.bind_some, ↓reduceIte, nI_leI, nI_ltI, nI_eq, nI_1, kd94 hS, gi94 hS, pi94 hS, gr94_1 hS, gr94_2 hS, gr94_3 hS, gr94_4 hS, gr94_16 hS, gr94_17 hS, gr94_18 hS, gr94_21 hS, gr94_22 hS, gr94_23 hS, gr94_24 hS, gr94_26 hS, gr94_27 hS, gr94_28 hS, gr94_29 hS, gr94_30 hS, gr94_31 hS, gr94_33 hS, gr94_34 hS, gr94_35 hS, gr94_36 hS, hh, m_stand hS h0.2.1.1.1, f_isDone, m_gainOf h0.1 h0.2.1.1 hj]
    rw [nI_clamp (by omega)]
    cases bt (as_m A) j <;> rfl
  · have hh := (m_isDoingP h0.1 p).2 q
    have e : x_nd A p = -2 := by unfold x_nd; rw [if_neg q]
    rw [e]
    simp (disch := omega) only [Option.bind_some, ↓reduceIte, nI_leI, nI_ltI, nI_eq, nI_1, kd94 hS, gi94 hS, pi94 hS, gr94_1 hS, gr94_2 hS, gr94_3 hS, gr94_4 hS, gr94_16 hS, gr94_17 hS, gr94_18 hS, gr94_21 hS, gr94_22 hS, gr94_23 hS, gr94_24 hS, gr94_26 hS, gr94_27 hS, gr94_28 hS, gr94_29 hS, gr94_30 hS, gr94_31 hS, gr94_33 hS, gr94_34 hS, gr94_35 hS, gr94_36 hS, hh, Bool.false_eq_true]
    rfl
def x_fault (A : AS) (w : Int32) : Int32 := if w = 0 then as_fk A else if w = 1 then as_fp A else -1
theorem c_fault {S : sk_S} {d : sk_D} {A : AS} (h : RC S d A) (w : Int32) : fX10_fault S d 1 w = some (x_fault A w) := by
  have hS := h.1.1
  unfold fX10_fault x_fault
  simp (disch := omega) only [Option.bind_some, ↓reduceIte, nI_leI, nI_ltI, nI_eq, nI_1, kd1 hS, gi1 hS, pi1 hS, gr1_0 hS, gr1_1 hS, gr1_2 hS, gr1_3 hS, gr1_4 hS, gr1_5 hS, gr1_6 hS, gr1_7 hS, gr1_8 hS, gr1_9 hS, kd21 hS, gi21 hS, pi21 hS, gr21_0 hS, gr21_3 hS, gr21_4 hS, gr21_5 hS, h.2.2.2.1.1, h.2.2.2.1.2]
  split
  · rfl
  · split <;> rfl
theorem m_fault {S : sk_S} {d : sk_D} {A : AS} (h : RM S d A) (w : Int32) : fX11_fault S d 94 w = some (x_fault A w, sk_uI d 94 0 0) := by
  have hS := h.1.1
  have h0 := h.m0 0
  unfold fX11_fault x_fault
  simp (disch := omega) only [Option.bind_some, ↓reduceIte, nI_leI, nI_ltI, nI_eq, nI_1, kd94 hS, gi94 hS, pi94 hS, gr94_1 hS, gr94_2 hS, gr94_3 hS, gr94_4 hS, gr94_16 hS, gr94_17 hS, gr94_18 hS, gr94_21 hS, gr94_22 hS, gr94_23 hS, gr94_24 hS, gr94_26 hS, gr94_27 hS, gr94_28 hS, gr94_29 hS, gr94_30 hS, gr94_31 hS, gr94_33 hS, gr94_34 hS, gr94_35 hS, gr94_36 hS, h0.2.2.2.1.1, h0.2.2.2.1.2]
  split
  · rfl
  · split <;> rfl
def x_count (A : AS) (w : Int32) : Int32 := if w = 0 then nI (lf_n (as_L A)) else if w = 1 then nI (lf_k (as_L A)) else if w = 2 then lf_room (as_L A) else if w = 3 then rl (as_L A) (ln (as_m A)) else if w = 4 then dn (as_m A) else if w = 5 then ln (as_m A)
  else if w = 6 then ln (as_m A) &&& (dn (as_m A) ^^^ (-1)) else if w = 7 then sp (as_m A) else if w = 8 then nI (as_ps A).length else if w = 9 then nI (as_tp A).length else if w = 10 then lf_lines (as_L A) else -1
theorem c_count {S : sk_S} {d : sk_D} {A : AS} (h : RC S d A) (hA : okA A) (w : Int32) : fX10_count S d 1 w = some (x_count A w) := by
  have hS := h.1.1
  have hc := h.1.2.2.1
  unfold fX10_count x_count
  by_cases q0 : w = 0
  · rw [if_pos q0, if_pos q0]
    simp (disch := omega) only [Option.bind_some, ↓reduceIte, kd1 hS, gi1 hS, pi1 hS, gr1_0 hS, gr1_1 hS, gr1_2 hS, gr1_3 hS, gr1_4 hS, gr1_5 hS, gr1_6 hS, gr1_7 hS, gr1_8 hS, gr1_9 hS, kd2 hS, gi2 hS, pi2 hS, gr2_0 hS, gr2_1 hS, gr2_2 hS, gr2_3 hS, kd3 hS, gi3 hS, pi3 hS, gr3_5 hS, gr3_6 hS, gr3_7 hS, gr3_8 hS, gr3_9 hS, gr3_10 hS, gr3_11 hS, gr3_12 hS, gr3_13 hS, gr3_14 hS, kd50 hS, gi50 hS, pi50 hS, gr50_0 hS, hc.2.1]
  · rw [if_neg q0, if_neg q0]
    by_cases q1 : w = 1
    · rw [if_pos q1, if_pos q1]
      simp (disch := omega) only [Option.bind_some, ↓reduceIte, kd1 hS, gi1 hS, pi1 hS, gr1_0 hS, gr1_1 hS, gr1_2 hS, gr1_3 hS, gr1_4 hS, gr1_5 hS, gr1_6 hS, gr1_7 hS, gr1_8 hS, gr1_9 hS, kd2 hS, gi2 hS, pi2 hS, gr2_0 hS, gr2_1 hS, gr2_2 hS, gr2_3 hS, kd3 hS, gi3 hS, pi3 hS, gr3_5 hS, gr3_6 hS, gr3_7 hS, gr3_8 hS, gr3_9 hS, gr3_10 hS, gr3_11 hS, gr3_12 hS, gr3_13 hS, gr3_14 hS, kd50 hS, gi50 hS, pi50 hS, gr50_0 hS, hc.2.2.1]
    · rw [if_neg q1, if_neg q1]
      by_cases q2 : w = 2
      · rw [if_pos q2, if_pos q2]
        simp (disch := omega) only [Option.bind_some, ↓reduceIte, kd1 hS, gi1 hS, pi1 hS, gr1_0 hS, gr1_1 hS, gr1_2 hS, gr1_3 hS, gr1_4 hS, gr1_5 hS, gr1_6 hS, gr1_7 hS, gr1_8 hS, gr1_9 hS, kd2 hS, gi2 hS, pi2 hS, gr2_0 hS, gr2_1 hS, gr2_2 hS, gr2_3 hS, kd3 hS, gi3 hS, pi3 hS, gr3_5 hS, gr3_6 hS, gr3_7 hS, gr3_8 hS, gr3_9 hS, gr3_10 hS, gr3_11 hS, gr3_12 hS, gr3_13 hS, gr3_14 hS, kd50 hS, gi50 hS, pi50 hS, gr50_0 hS, hc.1]
      · rw [if_neg q2, if_neg q2]
        by_cases q3 : w = 3
        · rw [if_pos q3, if_pos q3]
          simp (disch := omega) only [Option.bind_some, ↓reduceIte, kd1 hS, gi1 hS, pi1 hS, gr1_0 hS, gr1_1 hS, gr1_2 hS, gr1_3 hS, gr1_4 hS, gr1_5 hS, gr1_6 hS, gr1_7 hS, gr1_8 hS, gr1_9 hS, kd2 hS, gi2 hS, pi2 hS, gr2_0 hS, gr2_1 hS, gr2_2 hS, gr2_3 hS, kd3 hS, gi3 hS, pi3 hS, gr3_5 hS, gr3_6 hS, gr3_7 hS, gr3_8 hS, gr3_9 hS, gr3_10 hS, gr3_11 hS, gr3_12 hS, gr3_13 hS, gr3_14 hS, kd50 hS, gi50 hS, pi50 hS, gr50_0 hS, h.2.1.1, f_ln, c_room hS hA.1 hc]
        · rw [if_neg q3, if_neg q3]
          by_cases q4 : w = 4
          · rw [if_pos q4, if_pos q4]
            simp (disch := omega) only [Option.bind_some, ↓reduceIte, kd1 hS, gi1 hS, pi1 hS, gr1_0 hS, gr1_1 hS, gr1_2 hS, gr1_3 hS, gr1_4 hS, gr1_5 hS, gr1_6 hS, gr1_7 hS, gr1_8 hS, gr1_9 hS, kd2 hS, gi2 hS, pi2 hS, gr2_0 hS, gr2_1 hS, gr2_2 hS, gr2_3 hS, kd3 hS, gi3 hS, pi3 hS, gr3_5 hS, gr3_6 hS, gr3_7 hS, gr3_8 hS, gr3_9 hS, gr3_10 hS, gr3_11 hS, gr3_12 hS, gr3_13 hS, gr3_14 hS, kd50 hS, gi50 hS, pi50 hS, gr50_0 hS, h.2.1.1, f_dn]
          · rw [if_neg q4, if_neg q4]
            by_cases q5 : w = 5
            · rw [if_pos q5, if_pos q5]
              simp (disch := omega) only [Option.bind_some, ↓reduceIte, kd1 hS, gi1 hS, pi1 hS, gr1_0 hS, gr1_1 hS, gr1_2 hS, gr1_3 hS, gr1_4 hS, gr1_5 hS, gr1_6 hS, gr1_7 hS, gr1_8 hS, gr1_9 hS, kd2 hS, gi2 hS, pi2 hS, gr2_0 hS, gr2_1 hS, gr2_2 hS, gr2_3 hS, kd3 hS, gi3 hS, pi3 hS, gr3_5 hS, gr3_6 hS, gr3_7 hS, gr3_8 hS, gr3_9 hS, gr3_10 hS, gr3_11 hS, gr3_12 hS, gr3_13 hS, gr3_14 hS, kd50 hS, gi50 hS, pi50 hS, gr50_0 hS, h.2.1.1, f_ln]
            · rw [if_neg q5, if_neg q5]
              by_cases q6 : w = 6
              · rw [if_pos q6, if_pos q6]
                simp (disch := omega) only [Option.bind_some, ↓reduceIte, kd1 hS, gi1 hS, pi1 hS, gr1_0 hS, gr1_1 hS, gr1_2 hS, gr1_3 hS, gr1_4 hS, gr1_5 hS, gr1_6 hS, gr1_7 hS, gr1_8 hS, gr1_9 hS, kd2 hS, gi2 hS, pi2 hS, gr2_0 hS, gr2_1 hS, gr2_2 hS, gr2_3 hS, kd3 hS, gi3 hS, pi3 hS, gr3_5 hS, gr3_6 hS, gr3_7 hS, gr3_8 hS, gr3_9 hS, gr3_10 hS, gr3_11 hS, gr3_12 hS, gr3_13 hS, gr3_14 hS, kd50 hS, gi50 hS, pi50 hS, gr50_0 hS, h.2.1.1, f_ln, f_dn]
              · rw [if_neg q6, if_neg q6]
                by_cases q7 : w = 7
                · rw [if_pos q7, if_pos q7]
                  simp (disch := omega) only [Option.bind_some, ↓reduceIte, kd1 hS, gi1 hS, pi1 hS, gr1_0 hS, gr1_1 hS, gr1_2 hS, gr1_3 hS, gr1_4 hS, gr1_5 hS, gr1_6 hS, gr1_7 hS, gr1_8 hS, gr1_9 hS, kd2 hS, gi2 hS, pi2 hS, gr2_0 hS, gr2_1 hS, gr2_2 hS, gr2_3 hS, kd3 hS, gi3 hS, pi3 hS, gr3_5 hS, gr3_6 hS, gr3_7 hS, gr3_8 hS, gr3_9 hS, gr3_10 hS, gr3_11 hS, gr3_12 hS, gr3_13 hS, gr3_14 hS, kd50 hS, gi50 hS, pi50 hS, gr50_0 hS, h.2.1.1, f_sp]
                · rw [if_neg q7, if_neg q7]
                  by_cases q8 : w = 8
                  · rw [if_pos q8, if_pos q8]
                    simp (disch := omega) only [Option.bind_some, ↓reduceIte, kd1 hS, gi1 hS, pi1 hS, gr1_0 hS, gr1_1 hS, gr1_2 hS, gr1_3 hS, gr1_4 hS, gr1_5 hS, gr1_6 hS, gr1_7 hS, gr1_8 hS, gr1_9 hS, kd2 hS, gi2 hS, pi2 hS, gr2_0 hS, gr2_1 hS, gr2_2 hS, gr2_3 hS, kd3 hS, gi3 hS, pi3 hS, gr3_5 hS, gr3_6 hS, gr3_7 hS, gr3_8 hS, gr3_9 hS, gr3_10 hS, gr3_11 hS, gr3_12 hS, gr3_13 hS, gr3_14 hS, kd50 hS, gi50 hS, pi50 hS, gr50_0 hS, h.2.1.2.1]
                  · rw [if_neg q8, if_neg q8]
                    by_cases q9 : w = 9
                    · rw [if_pos q9, if_pos q9]
                      simp (disch := omega) only [Option.bind_some, ↓reduceIte, kd1 hS, gi1 hS, pi1 hS, gr1_0 hS, gr1_1 hS, gr1_2 hS, gr1_3 hS, gr1_4 hS, gr1_5 hS, gr1_6 hS, gr1_7 hS, gr1_8 hS, gr1_9 hS, kd2 hS, gi2 hS, pi2 hS, gr2_0 hS, gr2_1 hS, gr2_2 hS, gr2_3 hS, kd3 hS, gi3 hS, pi3 hS, gr3_5 hS, gr3_6 hS, gr3_7 hS, gr3_8 hS, gr3_9 hS, gr3_10 hS, gr3_11 hS, gr3_12 hS, gr3_13 hS, gr3_14 hS, kd50 hS, gi50 hS, pi50 hS, gr50_0 hS, h.2.2.1.1]
                    · rw [if_neg q9, if_neg q9]
                      by_cases q10 : w = 10
                      · rw [if_pos q10, if_pos q10]
                        simp (disch := omega) only [Option.bind_some, ↓reduceIte, kd1 hS, gi1 hS, pi1 hS, gr1_0 hS, gr1_1 hS, gr1_2 hS, gr1_3 hS, gr1_4 hS, gr1_5 hS, gr1_6 hS, gr1_7 hS, gr1_8 hS, gr1_9 hS, kd2 hS, gi2 hS, pi2 hS, gr2_0 hS, gr2_1 hS, gr2_2 hS, gr2_3 hS, kd3 hS, gi3 hS, pi3 hS, gr3_5 hS, gr3_6 hS, gr3_7 hS, gr3_8 hS, gr3_9 hS, gr3_10 hS, gr3_11 hS, gr3_12 hS, gr3_13 hS, gr3_14 hS, kd50 hS, gi50 hS, pi50 hS, gr50_0 hS, hc.2.2.2.1]
                      · rw [if_neg q10, if_neg q10]
theorem m_those3 {S : sk_S} {d : sk_D} {L : LF} (hS : Sh S) (hk : okL L) (hm : mL (d.1 95) L) {m : Int32} (hz : zM L m) : fX11_thoseIn S d 94 (stnd m) 3 = some (ln m &&& (dn m ^^^ (-1))) := by
  have hn := hk.1
  rw [m_those hS hk hm]
  congr 1
  apply b_ext
  intro i hi
  rw [gs_bt _ _ (by omega) i hi, b_and, b_not _ hi, bt_ln _ hi, bt_dn]
  by_cases h : i < lf_n L
  · simp only [(mood_c m i).2.2.1]
    cases bt m i <;> cases bt m (i + 8) <;> simp [h] <;> omega
  · by_cases h8 : i < 8
    · rw [(hz i (by omega) h8).2]; simp [h]
    · simp [h, h8]
theorem m_count {S : sk_S} {d : sk_D} {A : AS} (h : RM S d A) (hA : okA A) (w : Int32) : fX11_count S d 94 w = some (x_count A w, sk_uI d 94 0 0) := by
  have hS := h.1.1
  have h0 := h.m0 0
  have hm := h0.1.2.2
  have hs := m_stand hS h0.2.1.1.1
  have hz := hA.2.1.z
  have h82 : (sk_uI d 94 0 0).1 95 82 = sp (as_m A) := h0.2.1.1.2
  unfold fX11_count x_count
  rw [pi94 hS, Option.bind_some]
  by_cases q0 : w = 0
  · rw [if_pos q0, if_pos q0]
    simp (disch := omega) only [Option.bind_some, ↓reduceIte, kd94 hS, gi94 hS, pi94 hS, gr94_1 hS, gr94_2 hS, gr94_3 hS, gr94_4 hS, gr94_16 hS, gr94_17 hS, gr94_18 hS, gr94_21 hS, gr94_22 hS, gr94_23 hS, gr94_24 hS, gr94_26 hS, gr94_27 hS, gr94_28 hS, gr94_29 hS, gr94_30 hS, gr94_31 hS, gr94_33 hS, gr94_34 hS, gr94_35 hS, gr94_36 hS, l95_0 hS, l95_1 hS, l95_2 hS, l95_3 hS, l95_82 hS, l95_83 hS, hm.2.1]
  · rw [if_neg q0, if_neg q0]
    by_cases q1 : w = 1
    · rw [if_pos q1, if_pos q1]
      simp (disch := omega) only [Option.bind_some, ↓reduceIte, kd94 hS, gi94 hS, pi94 hS, gr94_1 hS, gr94_2 hS, gr94_3 hS, gr94_4 hS, gr94_16 hS, gr94_17 hS, gr94_18 hS, gr94_21 hS, gr94_22 hS, gr94_23 hS, gr94_24 hS, gr94_26 hS, gr94_27 hS, gr94_28 hS, gr94_29 hS, gr94_30 hS, gr94_31 hS, gr94_33 hS, gr94_34 hS, gr94_35 hS, gr94_36 hS, l95_0 hS, l95_1 hS, l95_2 hS, l95_3 hS, l95_82 hS, l95_83 hS, hm.2.2.1]
    · rw [if_neg q1, if_neg q1]
      by_cases q2 : w = 2
      · rw [if_pos q2, if_pos q2]
        simp (disch := omega) only [Option.bind_some, ↓reduceIte, kd94 hS, gi94 hS, pi94 hS, gr94_1 hS, gr94_2 hS, gr94_3 hS, gr94_4 hS, gr94_16 hS, gr94_17 hS, gr94_18 hS, gr94_21 hS, gr94_22 hS, gr94_23 hS, gr94_24 hS, gr94_26 hS, gr94_27 hS, gr94_28 hS, gr94_29 hS, gr94_30 hS, gr94_31 hS, gr94_33 hS, gr94_34 hS, gr94_35 hS, gr94_36 hS, l95_0 hS, l95_1 hS, l95_2 hS, l95_3 hS, l95_82 hS, l95_83 hS, hm.2.2.2.1]
      · rw [if_neg q2, if_neg q2]
        by_cases q3 : w = 3
        · rw [if_pos q3, if_pos q3]
          simp (disch := omega) only [Option.bind_some, ↓reduceIte, kd94 hS, gi94 hS, pi94 hS, gr94_1 hS, gr94_2 hS, gr94_3 hS, gr94_4 hS, gr94_16 hS, gr94_17 hS, gr94_18 hS, gr94_21 hS, gr94_22 hS, gr94_23 hS, gr94_24 hS, gr94_26 hS, gr94_27 hS, gr94_28 hS, gr94_29 hS, gr94_30 hS, gr94_31 hS, gr94_33 hS, gr94_34 hS, gr94_35 hS, gr94_36 hS, l95_0 hS, l95_1 hS, l95_2 hS, l95_3 hS, l95_82 hS, l95_83 hS, hs, m_left hS hA.1 hm hz]
        · rw [if_neg q3, if_neg q3]
          by_cases q4 : w = 4
          · rw [if_pos q4, if_pos q4]
            simp (disch := omega) only [Option.bind_some, ↓reduceIte, kd94 hS, gi94 hS, pi94 hS, gr94_1 hS, gr94_2 hS, gr94_3 hS, gr94_4 hS, gr94_16 hS, gr94_17 hS, gr94_18 hS, gr94_21 hS, gr94_22 hS, gr94_23 hS, gr94_24 hS, gr94_26 hS, gr94_27 hS, gr94_28 hS, gr94_29 hS, gr94_30 hS, gr94_31 hS, gr94_33 hS, gr94_34 hS, gr94_35 hS, gr94_36 hS, l95_0 hS, l95_1 hS, l95_2 hS, l95_3 hS, l95_82 hS, l95_83 hS, hs, m_done hS hA.1 hm hz]
          · rw [if_neg q4, if_neg q4]
            by_cases q5 : w = 5
            · rw [if_pos q5, if_pos q5]
              simp (disch := omega) only [Option.bind_some, ↓reduceIte, kd94 hS, gi94 hS, pi94 hS, gr94_1 hS, gr94_2 hS, gr94_3 hS, gr94_4 hS, gr94_16 hS, gr94_17 hS, gr94_18 hS, gr94_21 hS, gr94_22 hS, gr94_23 hS, gr94_24 hS, gr94_26 hS, gr94_27 hS, gr94_28 hS, gr94_29 hS, gr94_30 hS, gr94_31 hS, gr94_33 hS, gr94_34 hS, gr94_35 hS, gr94_36 hS, l95_0 hS, l95_1 hS, l95_2 hS, l95_3 hS, l95_82 hS, l95_83 hS, hs, m_stubs hS hA.1 hm hz]
            · rw [if_neg q5, if_neg q5]
              by_cases q6 : w = 6
              · rw [if_pos q6, if_pos q6]
                simp (disch := omega) only [Option.bind_some, ↓reduceIte, kd94 hS, gi94 hS, pi94 hS, gr94_1 hS, gr94_2 hS, gr94_3 hS, gr94_4 hS, gr94_16 hS, gr94_17 hS, gr94_18 hS, gr94_21 hS, gr94_22 hS, gr94_23 hS, gr94_24 hS, gr94_26 hS, gr94_27 hS, gr94_28 hS, gr94_29 hS, gr94_30 hS, gr94_31 hS, gr94_33 hS, gr94_34 hS, gr94_35 hS, gr94_36 hS, l95_0 hS, l95_1 hS, l95_2 hS, l95_3 hS, l95_82 hS, l95_83 hS, hs, m_those3 hS hA.1 hm hz]
              · rw [if_neg q6, if_neg q6]
                by_cases q7 : w = 7
                · rw [if_pos q7, if_pos q7]
                  simp (disch := omega) only [Option.bind_some, ↓reduceIte, kd94 hS, gi94 hS, pi94 hS, gr94_1 hS, gr94_2 hS, gr94_3 hS, gr94_4 hS, gr94_16 hS, gr94_17 hS, gr94_18 hS, gr94_21 hS, gr94_22 hS, gr94_23 hS, gr94_24 hS, gr94_26 hS, gr94_27 hS, gr94_28 hS, gr94_29 hS, gr94_30 hS, gr94_31 hS, gr94_33 hS, gr94_34 hS, gr94_35 hS, gr94_36 hS, l95_0 hS, l95_1 hS, l95_2 hS, l95_3 hS, l95_82 hS, l95_83 hS, h82]
                · rw [if_neg q7, if_neg q7]
                  by_cases q8 : w = 8
                  · rw [if_pos q8, if_pos q8]
                    simp (disch := omega) only [Option.bind_some, ↓reduceIte, kd94 hS, gi94 hS, pi94 hS, gr94_1 hS, gr94_2 hS, gr94_3 hS, gr94_4 hS, gr94_16 hS, gr94_17 hS, gr94_18 hS, gr94_21 hS, gr94_22 hS, gr94_23 hS, gr94_24 hS, gr94_26 hS, gr94_27 hS, gr94_28 hS, gr94_29 hS, gr94_30 hS, gr94_31 hS, gr94_33 hS, gr94_34 hS, gr94_35 hS, gr94_36 hS, l95_0 hS, l95_1 hS, l95_2 hS, l95_3 hS, l95_82 hS, l95_83 hS, h0.2.1.2.1]
                  · rw [if_neg q8, if_neg q8]
                    by_cases q9 : w = 9
                    · rw [if_pos q9, if_pos q9]
                      simp (disch := omega) only [Option.bind_some, ↓reduceIte, kd94 hS, gi94 hS, pi94 hS, gr94_1 hS, gr94_2 hS, gr94_3 hS, gr94_4 hS, gr94_16 hS, gr94_17 hS, gr94_18 hS, gr94_21 hS, gr94_22 hS, gr94_23 hS, gr94_24 hS, gr94_26 hS, gr94_27 hS, gr94_28 hS, gr94_29 hS, gr94_30 hS, gr94_31 hS, gr94_33 hS, gr94_34 hS, gr94_35 hS, gr94_36 hS, l95_0 hS, l95_1 hS, l95_2 hS, l95_3 hS, l95_82 hS, l95_83 hS, h0.2.2.1.1]
                    · rw [if_neg q9, if_neg q9]
                      by_cases q10 : w = 10
                      · rw [if_pos q10, if_pos q10]
                        simp (disch := omega) only [Option.bind_some, ↓reduceIte, kd94 hS, gi94 hS, pi94 hS, gr94_1 hS, gr94_2 hS, gr94_3 hS, gr94_4 hS, gr94_16 hS, gr94_17 hS, gr94_18 hS, gr94_21 hS, gr94_22 hS, gr94_23 hS, gr94_24 hS, gr94_26 hS, gr94_27 hS, gr94_28 hS, gr94_29 hS, gr94_30 hS, gr94_31 hS, gr94_33 hS, gr94_34 hS, gr94_35 hS, gr94_36 hS, l95_0 hS, l95_1 hS, l95_2 hS, l95_3 hS, l95_82 hS, l95_83 hS, hm.1]
                      · rw [if_neg q10, if_neg q10]
theorem m_undo {S : sk_S} {d : sk_D} {A : AS} (h : RM S d A) (hA : okA A) (p : Int32) : ∃ d', fX11_undo S d 94 p = some ((x_undo A p).1, d') ∧ RM S d' (x_undo A p).2 ∧ Fr mdl d d' := by
  have hS := h.1.1
  have h0 := h.m0 0
  have hl := hA.2.2.2.1
  have h83 := h0.2.1.2.1
  have e1 : (1 : Int64).toInt = 1 := rfl
  have e10 : (10 : Int64).toInt = 10 := rfl
  unfold fX11_undo x_undo
  by_cases q : p < 1 ∨ ¬ p ≤ nI (as_ps A).length
  · rw [if_pos q]
    refine ⟨sk_uI d 94 0 0, ?_, h0, (mfr0 d 0).2.2.2.2⟩
    simp (disch := omega) only [Option.bind_some, ↓reduceIte, nI_leI, nI_ltI, nI_eq, nI_1, kd94 hS, gi94 hS, pi94 hS, gr94_1 hS, gr94_2 hS, gr94_3 hS, gr94_4 hS, gr94_16 hS, gr94_17 hS, gr94_18 hS, gr94_21 hS, gr94_22 hS, gr94_23 hS, gr94_24 hS, gr94_26 hS, gr94_27 hS, gr94_28 hS, gr94_29 hS, gr94_30 hS, gr94_31 hS, gr94_33 hS, gr94_34 hS, gr94_35 hS, gr94_36 hS, f_within, l95_83 hS, h83]
    by_cases c : (1 ≤ p.toInt64 ∧ p.toInt64 ≤ 10)
    · rw [decide_eq_true c, if_pos rfl]
      have : ¬ p ≤ nI (as_ps A).length := by
        rcases q with a | a
        · exfalso
          have c1 := c.1
          rw [fa_le64, Int32.toInt_toInt64, e1] at c1
          rw [fa_lt, show (1 : Int32).toInt = 1 from rfl] at a
          omega
        · exact a
      rw [if_neg this]
    · rw [decide_eq_false c]; rfl
  · rw [if_neg q]
    obtain ⟨j, hj1, hj2, rfl⟩ := p_un hl q
    have q2 : nI j ≤ nI (as_ps A).length := Decidable.not_not.mp (fun a => q (Or.inr a))
    have c : (1 ≤ (nI j).toInt64 ∧ (nI j).toInt64 ≤ 10) := by
      rw [fa_le64, fa_le64, Int32.toInt_toInt64, e1, e10, nI_toInt (by omega)]; omega
    have es : nI (as_ps A).length - nI j = nI ((as_ps A).length - j) := pk_sub hj2
    rw [nI_clamp (by omega)]
    simp (disch := omega) only [Option.bind_some, ↓reduceIte, kd94 hS, gi94 hS, pi94 hS, gr94_1 hS, gr94_2 hS, gr94_3 hS, gr94_4 hS, gr94_16 hS, gr94_17 hS, gr94_18 hS, gr94_21 hS, gr94_22 hS, gr94_23 hS, gr94_24 hS, gr94_26 hS, gr94_27 hS, gr94_28 hS, gr94_29 hS, gr94_30 hS, gr94_31 hS, gr94_33 hS, gr94_34 hS, gr94_35 hS, gr94_36 hS, f_within, l95_83 hS, h83, c, decide_true, q2, es, s95_83 hS, and_self]
    have p3 := h0.2.1.2.2 ((as_ps A).length - j) (by omega)
    have loop := it_for (body := fX11_undo_L44 S 94) (fun k s => s.1 = nI k ∧ Fr (fun b => b = 95) (sk_uI d 94 0 0) s.2 ∧ ∀ i, s.2.1 95 i = if i = 83 then nI ((as_ps A).length - j) else if 74 ≤ i ∧ i < 74 + k then (sk_uI d 94 0 0).1 95 (84 + 9 * ((as_ps A).length - j) + (i - 74)) else (sk_uI d 94 0 0).1 95 i) 9
      (fun e => e.1 = nI ((as_ps A).length - j) ∧ Fr (fun b => b = 95) (sk_uI d 94 0 0) e.2 ∧ ∀ i, e.2.1 95 i = if i = 83 then nI ((as_ps A).length - j) else if 74 ≤ i ∧ i < 74 + 9 then (sk_uI d 94 0 0).1 95 (84 + 9 * ((as_ps A).length - j) + (i - 74)) else (sk_uI d 94 0 0).1 95 i) ?_ ?_ (s := ((0 : Int32), sk_uI (sk_uI d 94 0 0) 95 83 (nI ((as_ps A).length - j)))) ⟨rfl, Fr.uI _ rfl, fun i => ?_⟩
    · obtain ⟨e, he, f1, f2, f3⟩ := loop
      rw [he, Option.bind_some]
      have mf : mfr d e.2 := (mfr0 d 0).trans (mfr.h95 f2 (fun k hk => by rw [f3, if_neg (by omega), if_neg (by omega)]))
      refine ⟨e.2, by rw [← f1], RM.upd h mf ⟨⟨fun i hi => ?_, ?_⟩, ?_, ?_⟩, mf.2.2.2.2⟩
      · show e.2.1 95 (74 + i) = _
        rw [f3, if_neg (by omega), if_pos (by omega), Nat.add_sub_cancel_left]
        exact p3.1 i hi
      · show e.2.1 95 (74 + 8) = _
        rw [f3, if_neg (by omega), if_pos (by omega), Nat.add_sub_cancel_left]
        exact p3.2
      · rw [f3, if_pos rfl, List.length_take, Nat.min_eq_left (by omega)]
      · intro i hi
        rw [List.length_take] at hi
        have p4 := h0.2.1.2.2 i (by omega)
        have eg : ((as_ps A).take ((as_ps A).length - j)).getD i 0 = (as_ps A).getD i 0 := by
          simp only [List.getD_eq_getElem?_getD]
          rw [List.getElem?_take_of_lt (by omega)]
        rw [eg]
        exact p4.same (fun k hk => by show e.2.1 95 (84 + 9 * i + k) = _; rw [f3, if_neg (by omega), if_neg (by omega)])
    · intro k s hk ⟨i1, i2, i3⟩
      left
      unfold fX11_undo_L44
      rw [i1]
      have hx : ¬ (9 : Int32) ≤ nI k := nI_ge (b := 9) (by omega) (by omega)
      have e83 : s.2.1 95 83 = nI ((as_ps A).length - j) := by rw [i3, if_pos rfl]
      simp (disch := omega) only [hx, Option.bind_some, ↓reduceIte, nI_leI, nI_ltI, nI_eq, nI_1, kd94 hS, gi94 hS, pi94 hS, gr94_1 hS, gr94_2 hS, gr94_3 hS, gr94_4 hS, gr94_16 hS, gr94_17 hS, gr94_18 hS, gr94_21 hS, gr94_22 hS, gr94_23 hS, gr94_24 hS, gr94_26 hS, gr94_27 hS, gr94_28 hS, gr94_29 hS, gr94_30 hS, gr94_31 hS, gr94_33 hS, gr94_34 hS, gr94_35 hS, gr94_36 hS, l95_83 hS, e83, p84, li95 hS, p74, si95 hS]
      refine ⟨_, rfl, rfl, i2.tI rfl, ?_⟩
      intro i
      by_cases c : i = 74 + k
      · subst c
        rw [uI_s, i3, if_neg (by omega), if_neg (by omega), if_neg (by omega), if_pos (by omega), Nat.add_sub_cancel_left]
      · rw [uI_k _ _ _ _ _ c, i3]
        by_cases c2 : i = 83
        · rw [if_pos c2, if_pos c2]
        · rw [if_neg c2, if_neg c2]
          by_cases c3 : 74 ≤ i ∧ i < 74 + k
          · rw [if_pos c3, if_pos (by omega)]
          · rw [if_neg c3, if_neg (by omega)]
    · intro s ⟨i1, i2, i3⟩
      unfold fX11_undo_L44
      rw [i1]
      have hx : (9 : Int32) ≤ nI 9 := by decide
      have e83 : s.2.1 95 83 = nI ((as_ps A).length - j) := by rw [i3, if_pos rfl]
      simp (disch := omega) only [hx, Option.bind_some, ↓reduceIte, nI_leI, nI_ltI, nI_eq, nI_1, kd94 hS, gi94 hS, pi94 hS, gr94_1 hS, gr94_2 hS, gr94_3 hS, gr94_4 hS, gr94_16 hS, gr94_17 hS, gr94_18 hS, gr94_21 hS, gr94_22 hS, gr94_23 hS, gr94_24 hS, gr94_26 hS, gr94_27 hS, gr94_28 hS, gr94_29 hS, gr94_30 hS, gr94_31 hS, gr94_33 hS, gr94_34 hS, gr94_35 hS, gr94_36 hS, l95_83 hS, e83]
      exact ⟨_, rfl, rfl, i2, i3⟩
    · by_cases c2 : i = 83
      · subst c2; rw [uI_s, if_pos rfl]
      · rw [uI_k _ _ _ _ _ c2, if_neg c2, if_neg (by omega)]
