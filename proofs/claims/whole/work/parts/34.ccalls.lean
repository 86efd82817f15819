/-! the class: deeds as calls, and what they answer -/
def x_does (A : AS) (p : Int32) : Int32 × AS := if (x_en A 0 p).1 < 0 then (-10 + (x_en A 0 p).1, (x_en A 0 p).2) else (mood (as_m (x_en A 0 p).2) p.toNatClampNeg, (x_en A 0 p).2)
def x_drop (A : AS) (p : Int32) : Int32 × AS := if (x_en A 1 p).1 < 0 then (-10 + (x_en A 1 p).1, (x_en A 1 p).2) else (pc (ln (as_m (x_en A 1 p).2)), (x_en A 1 p).2)
def x_forge (A : AS) (p : Int32) : Int32 × AS := if (x_en A 2 p).1 < 0 then (-10 + (x_en A 2 p).1, (x_en A 2 p).2) else (rl (as_L A) (ln (as_m (x_en A 2 p).2)), (x_en A 2 p).2)
def x_ask (A : AS) (p : Int32) : Int32 × AS := if (x_en A 3 p).1 < 0 then (-10 + (x_en A 3 p).1, (x_en A 3 p).2) else (no (as_m A) &&& (no (as_m (x_en A 3 p).2) ^^^ (-1)), (x_en A 3 p).2)
def x_slip (A : AS) (p : Int32) : Int32 × AS := if (x_en A 4 p).1 < 0 then (-10 + (x_en A 4 p).1, (x_en A 4 p).2) else (sp (as_m A), (x_en A 4 p).2)
theorem x_en_L (A : AS) (k : Nat) (p : Int32) : as_L (x_en A k p).2 = as_L A := by
  unfold x_en
  split
  · rfl
  · split <;> rfl
theorem x_en_0 {A : AS} {k : Nat} {p : Int32} (h : ¬ (x_en A k p).1 < 0) : ¬ p < 0 ∧ p ≤ 9 := by
  unfold x_en at h
  by_cases q : p < 0 ∨ ¬ p ≤ 9
  · rw [if_pos q] at h; exact absurd (show (-1 : Int32) < 0 by decide) h
  · exact ⟨fun a => q (Or.inl a), Decidable.not_not.mp (fun a => q (Or.inr a))⟩
/-- a deed that was done was of a doing -/
theorem x_en_n {A : AS} {k : Nat} (hk : k < 4) {p : Int32} (h : ¬ (x_en A k p).1 < 0) : ∃ j, j < lf_n (as_L A) ∧ p = nI j := by
  obtain ⟨h0, h9⟩ := x_en_0 h
  obtain ⟨j, hj, rfl⟩ := p_9 h0 h9
  refine ⟨j, ?_, rfl⟩
  rcases Nat.lt_or_ge j (lf_n (as_L A)) with q | q
  · exact q
  · exfalso
    apply h
    have hx : ¬ j < lf_n (as_L A) := by omega
    have e : kdd (as_L A) (as_m A) k j = -1 := by
      unfold kdd
      rcases (by omega : k = 0 ∨ k = 1 ∨ k = 2 ∨ k = 3) with rfl | rfl | rfl | rfl
      · simp only [↓reduceIte]; unfold tdo; rw [if_pos hx]
      · simp; unfold tdr; rw [if_pos hx]
      · simp; unfold tfo; rw [if_pos hx]
      · simp; unfold tas; rw [if_pos hx]
    unfold x_en
    rw [if_neg (by simp [h0, h9]), nI_clamp (by omega), e, if_pos (by decide : (-1 : Int32) < 0)]
    exact (by decide : (-1 : Int32) < 0)
theorem c_does {S : sk_S} {d : sk_D} {A : AS} (h : RC S d A) (hA : okA A) (p : Int32) : ∃ d', fX10_does S d 1 p = some ((x_does A p).1, d') ∧ RC S d' (x_does A p).2 ∧ Fr cls d d' := by
  have hS := h.1.1
  obtain ⟨d1, a1, a2, a3⟩ := c_enact h hA (k := 0) (by omega) p
  rw [show nI 0 = (0 : Int32) from rfl] at a1
  unfold fX10_does x_does
  simp (disch := omega) only [Option.bind_some, ↓reduceIte, nI_leI, nI_ltI, nI_eq, nI_1, kd1 hS, gi1 hS, pi1 hS, gr1_0 hS, gr1_1 hS, gr1_2 hS, gr1_3 hS, gr1_4 hS, gr1_5 hS, gr1_6 hS, gr1_7 hS, gr1_8 hS, gr1_9 hS, a1]
  by_cases q : (x_en A 0 p).1 < 0
  · rw [if_neg (by rw [Int32.not_le]; exact q), if_pos q]
    exact ⟨d1, rfl, a2, a3⟩
  · rw [if_pos (by rw [← Int32.not_lt]; exact q), if_neg q]
    obtain ⟨j, hj, rfl⟩ := x_en_n (by omega) q
    have hn := hA.1.1
    simp (disch := omega) only [Option.bind_some, ↓reduceIte, nI_leI, nI_ltI, nI_eq, nI_1, kd50 hS, gi50 hS, pi50 hS, gr50_0 hS, a2.2.1.1, f_mood]
    rw [nI_clamp (by omega)]
    exact ⟨d1, rfl, a2, a3⟩
theorem c_drop {S : sk_S} {d : sk_D} {A : AS} (h : RC S d A) (hA : okA A) (p : Int32) : ∃ d', fX10_drop S d 1 p = some ((x_drop A p).1, d') ∧ RC S d' (x_drop A p).2 ∧ Fr cls d d' := by
  have hS := h.1.1
  obtain ⟨d1, a1, a2, a3⟩ := c_enact h hA (k := 1) (by omega) p
  rw [show nI 1 = (1 : Int32) from rfl] at a1
  unfold fX10_drop x_drop
  simp (disch := omega) only [Option.bind_some, ↓reduceIte, nI_leI, nI_ltI, nI_eq, nI_1, kd1 hS, gi1 hS, pi1 hS, gr1_0 hS, gr1_1 hS, gr1_2 hS, gr1_3 hS, gr1_4 hS, gr1_5 hS, gr1_6 hS, gr1_7 hS, gr1_8 hS, gr1_9 hS, a1]
  by_cases q : (x_en A 1 p).1 < 0
  · rw [if_neg (by rw [Int32.not_le]; exact q), if_pos q]
    exact ⟨d1, rfl, a2, a3⟩
  · rw [if_pos (by rw [← Int32.not_lt]; exact q), if_neg q]
    obtain ⟨l, hl, el⟩ := ln_nI (as_m (x_en A 1 p).2)
    simp (disch := omega) only [Option.bind_some, ↓reduceIte, nI_leI, nI_ltI, nI_eq, nI_1, kd50 hS, gi50 hS, pi50 hS, gr50_0 hS, a2.2.1.1, f_ln, el, f_bc l]
    exact ⟨d1, rfl, a2, a3⟩
theorem c_forge {S : sk_S} {d : sk_D} {A : AS} (h : RC S d A) (hA : okA A) (p : Int32) : ∃ d', fX10_forge S d 1 p = some ((x_forge A p).1, d') ∧ RC S d' (x_forge A p).2 ∧ Fr cls d d' := by
  have hS := h.1.1
  obtain ⟨d1, a1, a2, a3⟩ := c_enact h hA (k := 2) (by omega) p
  rw [show nI 2 = (2 : Int32) from rfl] at a1
  unfold fX10_forge x_forge
  simp (disch := omega) only [Option.bind_some, ↓reduceIte, nI_leI, nI_ltI, nI_eq, nI_1, kd1 hS, gi1 hS, pi1 hS, gr1_0 hS, gr1_1 hS, gr1_2 hS, gr1_3 hS, gr1_4 hS, gr1_5 hS, gr1_6 hS, gr1_7 hS, gr1_8 hS, gr1_9 hS, a1]
  by_cases q : (x_en A 2 p).1 < 0
  · rw [if_neg (by rw [Int32.not_le]; exact q), if_pos q]
    exact ⟨d1, rfl, a2, a3⟩
  · rw [if_pos (by rw [← Int32.not_lt]; exact q), if_neg q]
    have cr := c_room hS a2.1.2.1 a2.1.2.2.1
    rw [x_en_L] at cr
    simp (disch := omega) only [Option.bind_some, ↓reduceIte, nI_leI, nI_ltI, nI_eq, nI_1, kd2 hS, gi2 hS, pi2 hS, gr2_0 hS, gr2_1 hS, gr2_2 hS, gr2_3 hS, kd3 hS, gi3 hS, pi3 hS, gr3_5 hS, gr3_6 hS, gr3_7 hS, gr3_8 hS, gr3_9 hS, gr3_10 hS, gr3_11 hS, gr3_12 hS, gr3_13 hS, gr3_14 hS, kd50 hS, gi50 hS, pi50 hS, gr50_0 hS, a2.2.1.1, f_ln, cr]
    exact ⟨d1, rfl, a2, a3⟩
theorem c_ask {S : sk_S} {d : sk_D} {A : AS} (h : RC S d A) (hA : okA A) (p : Int32) : ∃ d', fX10_ask S d 1 p = some ((x_ask A p).1, d') ∧ RC S d' (x_ask A p).2 ∧ Fr cls d d' := by
  have hS := h.1.1
  obtain ⟨d1, a1, a2, a3⟩ := c_enact h hA (k := 3) (by omega) p
  rw [show nI 3 = (3 : Int32) from rfl] at a1
  unfold fX10_ask x_ask
  simp (disch := omega) only [Option.bind_some, ↓reduceIte, nI_leI, nI_ltI, nI_eq, nI_1, kd1 hS, gi1 hS, pi1 hS, gr1_0 hS, gr1_1 hS, gr1_2 hS, gr1_3 hS, gr1_4 hS, gr1_5 hS, gr1_6 hS, gr1_7 hS, gr1_8 hS, gr1_9 hS, kd50 hS, gi50 hS, pi50 hS, gr50_0 hS, h.2.1.1, a1]
  by_cases q : (x_en A 3 p).1 < 0
  · rw [if_neg (by rw [Int32.not_le]; exact q), if_pos q]
    exact ⟨d1, rfl, a2, a3⟩
  · rw [if_pos (by rw [← Int32.not_lt]; exact q), if_neg q]
    simp (disch := omega) only [Option.bind_some, ↓reduceIte, nI_leI, nI_ltI, nI_eq, nI_1, kd50 hS, gi50 hS, pi50 hS, gr50_0 hS, a2.2.1.1, f_no]
    exact ⟨d1, rfl, a2, a3⟩
theorem c_slip {S : sk_S} {d : sk_D} {A : AS} (h : RC S d A) (hA : okA A) (p : Int32) : ∃ d', fX10_slip S d 1 p = some ((x_slip A p).1, d') ∧ RC S d' (x_slip A p).2 ∧ Fr cls d d' := by
  have hS := h.1.1
  obtain ⟨d1, a1, a2, a3⟩ := c_enact h hA (k := 4) (by omega) p
  rw [show nI 4 = (4 : Int32) from rfl] at a1
  unfold fX10_slip x_slip
  simp (disch := omega) only [Option.bind_some, ↓reduceIte, nI_leI, nI_ltI, nI_eq, nI_1, kd1 hS, gi1 hS, pi1 hS, gr1_0 hS, gr1_1 hS, gr1_2 hS, gr1_3 hS, gr1_4 hS, gr1_5 hS, gr1_6 hS, gr1_7 hS, gr1_8 hS, gr1_9 hS, kd50 hS, gi50 hS, pi50 hS, gr50_0 hS, h.2.1.1, f_sp, a1]
  by_cases q : (x_en A 4 p).1 < 0
  · rw [if_neg (by rw [Int32.not_le]; exact q), if_pos q]
    exact ⟨d1, rfl, a2, a3⟩
  · rw [if_pos (by rw [← Int32.not_lt]; exact q), if_neg q]
    exact ⟨d1, rfl, a2, a3⟩
def x_undo (A : AS) (p : Int32) : Int32 × AS := if p < 1 ∨ ¬ p ≤ nI (as_ps A).length then (-3, A) else
  (nI ((as_ps A).length - p.toNatClampNeg), aMP A ((as_ps A).getD ((as_ps A).length - p.toNatClampNeg) 0) ((as_ps A).take ((as_ps A).length - p.toNatClampNeg)))
theorem p_un {p : Int32} {n : Nat} (hn : n ≤ 10) (h : ¬ (p < 1 ∨ ¬ p ≤ nI n)) : ∃ j, 1 ≤ j ∧ j ≤ n ∧ p = nI j := by
  have h1 : ¬ p < 1 := fun q => h (Or.inl q)
  have h2 : p ≤ nI n := Decidable.not_not.mp (fun q => h (Or.inr q))
  have h0 : ¬ p < 0 := by
    intro q
    apply h1
    rw [fa_lt] at q ⊢
    have e0 : (0 : Int32).toInt = 0 := rfl
    have e1 : (1 : Int32).toInt = 1 := rfl
    omega
  obtain ⟨j, hj, rfl⟩ := nI_of2 (M := nI n) (n := n) (nI_toInt (by omega)) h0 h2
  refine ⟨j, ?_, hj, rfl⟩
  rcases Nat.lt_or_ge j 1 with q | q
  · exact absurd (nI_lt (b := 1) q (by omega)) h1
  · exact q
theorem c_undo {S : sk_S} {d : sk_D} {A : AS} (h : RC S d A) (hA : okA A) (p : Int32) : ∃ d', fX10_undo S d 1 p = some ((x_undo A p).1, d') ∧ RC S d' (x_undo A p).2 ∧ Fr cls d d' := by
  have hS := h.1.1
  obtain ⟨p1, p2, p3⟩ := h.2.1
  have hl := hA.2.2.2.1
  unfold fX10_undo x_undo
  by_cases q : p < 1 ∨ ¬ p ≤ nI (as_ps A).length
  · rw [if_pos q]
    refine ⟨d, ?_, h, Fr.refl _ _⟩
    by_cases q1 : p < 1
    · rw [if_pos q1]
    · have q2 : ¬ p ≤ nI (as_ps A).length := by rcases q with a | a; exact absurd a q1; exact a
      rw [if_neg q1]
      simp (disch := omega) only [Option.bind_some, ↓reduceIte, nI_leI, nI_ltI, nI_eq, nI_1, kd1 hS, gi1 hS, pi1 hS, gr1_0 hS, gr1_1 hS, gr1_2 hS, gr1_3 hS, gr1_4 hS, gr1_5 hS, gr1_6 hS, gr1_7 hS, gr1_8 hS, gr1_9 hS, kd50 hS, gi50 hS, pi50 hS, gr50_0 hS, p2, q2]
  · rw [if_neg q]
    obtain ⟨j, hj1, hj2, rfl⟩ := p_un hl q
    have q1 : ¬ nI j < 1 := fun a => q (Or.inl a)
    have q2 : nI j ≤ nI (as_ps A).length := Decidable.not_not.mp (fun a => q (Or.inr a))
    have q3 : ¬ nI j ≤ 0 := nI_nle (by omega) (by omega)
    have q4 : ¬ nI (as_ps A).length < nI j := by rw [Int32.not_lt]; exact q2
    unfold fX4_goBack
    have e1 : nI (as_ps A).length - nI j = nI ((as_ps A).length - j) := pk_sub hj2
    simp (disch := omega) only [q1, q2, q3, q4, Option.bind_some, ↓reduceIte, kd1 hS, gi1 hS, pi1 hS, gr1_0 hS, gr1_1 hS, gr1_2 hS, gr1_3 hS, gr1_4 hS, gr1_5 hS, gr1_6 hS, gr1_7 hS, gr1_8 hS, gr1_9 hS, kd50 hS, gi50 hS, pi50 hS, gr50_0 hS, p2, e1, uI_s, li51 hS]
    rw [nI_clamp (by omega)]
    have f : Fr (fun b => b = 50 ∨ b = 51) d (sk_uI (sk_uI d 50 2 (nI ((as_ps A).length - j))) 50 1 ((sk_uI d 50 2 (nI ((as_ps A).length - j))).1 51 ((as_ps A).length - j))) := Fr.tI (Fr.tI (Fr.refl _ _) (Or.inl rfl)) (Or.inl rfl)
    have z : ∀ (x : sk_D) (k : Nat) (v : Int32), (sk_uI x 50 k v).1 51 = x.1 51 := fun x k v => uI_a _ _ _ _ _ (by decide)
    refine ⟨_, ?_, RC.past h f ⟨?_, ?_, ?_⟩, f.mono (fun b hb => by unfold cls; omega)⟩
    · rw [uI_k _ _ _ _ _ (by decide), uI_s]
    · rw [uI_s, z]
      exact p3 _ (by omega)
    · rw [uI_k _ _ _ _ _ (by decide), uI_s, List.length_take, Nat.min_eq_left (by omega)]
    · intro i hi
      rw [List.length_take] at hi
      rw [z, z, p3 i (by omega)]
      simp only [List.getD_eq_getElem?_getD]
      rw [List.getElem?_take_of_lt (by omega)]
theorem x_undo_ok {A : AS} (hA : okA A) (p : Int32) : okA (x_undo A p).2 := by
  unfold x_undo
  by_cases q : p < 1 ∨ ¬ p ≤ nI (as_ps A).length
  · rw [if_pos q]; exact hA
  · rw [if_neg q]
    obtain ⟨a1, a2, a3, a4, a5, a6, a7, a8⟩ := hA
    obtain ⟨j, hj1, hj2, rfl⟩ := p_un a4 q
    rw [nI_clamp (by omega)]
    refine ⟨a1, ?_, ?_, ?_, a5, a6, a7, a8⟩
    · show okM (as_L A) ((as_ps A).getD ((as_ps A).length - j) 0)
      apply a3
      rw [List.getD_eq_getElem?_getD, List.getElem?_eq_getElem (by omega)]
      exact List.getElem_mem _
    · intro x hx
      exact a3 x (List.mem_of_mem_take hx)
    · show ((as_ps A).take ((as_ps A).length - j)).length ≤ 10
      rw [List.length_take]; omega
