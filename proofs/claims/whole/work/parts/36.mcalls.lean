/-! the reference: deeds as calls -/
def wy (r : Int32) : Int32 := if r < 0 then -r else 0
theorem f_within (S : sk_S) (d : sk_D) (p a b : Int64) : fX11_within S d p a b = some (decide (a ≤ p ∧ p ≤ b)) := by
  unfold fX11_within
  by_cases h1 : p < a
  · rw [if_pos h1, decide_eq_false (fun q => by rw [fa_lt64] at h1; rw [fa_le64] at q; omega)]
  · rw [if_neg h1]
    by_cases h2 : b < p
    · rw [if_pos h2, decide_eq_false (fun q => by rw [fa_lt64] at h2; rw [fa_le64 p b] at q; omega)]
    · rw [if_neg h2, decide_eq_true ⟨by rw [← Int64.not_lt]; exact h1, by rw [← Int64.not_lt]; exact h2⟩]
theorem m_isDoing {S : sk_S} {d : sk_D} {L : LF} (h : MI S d L) (p : Int64) : fX11_isDoing S d 94 p = some (decide (0 ≤ p.toInt ∧ p.toInt < lf_n L)) := by
  obtain ⟨hS, hk, hm⟩ := h
  have hn := hk.1
  unfold fX11_isDoing
  simp (disch := omega) only [Option.bind_some, ↓reduceIte, nI_leI, nI_ltI, nI_eq, nI_1, kd94 hS, gi94 hS, pi94 hS, gr94_1 hS, gr94_2 hS, gr94_3 hS, gr94_4 hS, gr94_16 hS, gr94_17 hS, gr94_18 hS, gr94_21 hS, gr94_22 hS, gr94_23 hS, gr94_24 hS, gr94_26 hS, gr94_27 hS, gr94_28 hS, gr94_29 hS, gr94_30 hS, gr94_31 hS, gr94_33 hS, gr94_34 hS, gr94_35 hS, gr94_36 hS, l95_1 hS, hm.2.1, f_within]
  congr 1
  rw [decide_eq_decide, fa_le64, fa_le64, Int32.toInt_toInt64, show (1 : Int32) = nI 1 from rfl, pk_sub_toInt (by omega) (by omega), show (0 : Int64).toInt = 0 from rfl]
  omega
theorem m_isDoingN {S : sk_S} {d : sk_D} {L : LF} (h : MI S d L) {j : Nat} (hj : j < 2 ^ 31) : fX11_isDoing S d 94 (lN j) = some (decide (j < lf_n L)) := by
  rw [m_isDoing h, lN_toInt hj]
  congr 1
  rw [decide_eq_decide]
  omega
theorem m_isDoingO {S : sk_S} {d : sk_D} {L : LF} (h : MI S d L) {p : Int32} (hp : p < 0 ∨ ¬ p ≤ 9) : fX11_isDoing S d 94 p.toInt64 = some false := by
  rw [m_isDoing h, Int32.toInt_toInt64, decide_eq_false]
  have hn := h.2.1.1
  rw [fa_lt, fa_le, show (0 : Int32).toInt = 0 from rfl, show (9 : Int32).toInt = 9 from rfl] at hp
  omega
def ng4 (r : Int32) : Prop := r = -1 ∨ r = -2 ∨ r = -3 ∨ r = -4
theorem m_whyDo {S : sk_S} {d : sk_D} {L : LF} (h : MI S d L) {m : Int32} (hm : mM (fun k => d.1 95 (74 + k)) m) (hz : zM L m) {j : Nat} (hj : j < 2 ^ 31) :
    (fX11_whyDo S d 94 (lN j) = some (wy (tdo L m j)) ∧ ng4 (tdo L m j)) ∨ (fX11_whyDo S d 94 (lN j) = some 0 ∧ j < lf_n L ∧ tdo L m j = dto L m j ∧ (lf_v L 5 j &&& (dn m ^^^ (-1))) = 0) := by
  have hS := h.1
  have hn := h.2.1.1
  unfold fX11_whyDo
  rw [m_isDoingN h hj, m_stand hS hm.1, lN_i]
  simp (disch := omega) only [Option.bind_some, ↓reduceIte, nI_leI, nI_ltI, nI_eq, nI_1, kd94 hS, gi94 hS, pi94 hS, gr94_1 hS, gr94_2 hS, gr94_3 hS, gr94_4 hS, gr94_16 hS, gr94_17 hS, gr94_18 hS, gr94_21 hS, gr94_22 hS, gr94_23 hS, gr94_24 hS, gr94_26 hS, gr94_27 hS, gr94_28 hS, gr94_29 hS, gr94_30 hS, gr94_31 hS, gr94_33 hS, gr94_34 hS, gr94_35 hS, gr94_36 hS]
  by_cases q : j < lf_n L
  · rw [f_isDone S d m (by omega), m_needs h hz q]
    simp only [q, decide_true, ↓reduceIte, Option.bind_some]
    cases hb : bt m j with
    | true =>
      left
      have e : tdo L m j = -2 := by unfold tdo; rw [if_neg (show ¬ ¬ j < lf_n L by simpa using q), if_pos hb]
      rw [e]
      exact ⟨rfl, Or.inr (Or.inl rfl)⟩
    | false =>
      by_cases q3 : (lf_v L 5 j &&& (dn m ^^^ (-1))) = 0
      · right
        refine ⟨by simp only [Bool.false_eq_true, ↓reduceIte, q3, decide_true], trivial, ?_, q3⟩
        unfold tdo
        rw [if_neg (show ¬ ¬ j < lf_n L by simpa using q), if_neg (show ¬ bt m j = true by simp [hb]), if_neg (by simpa using q3)]
        rfl
      · left
        have e : tdo L m j = -3 := by unfold tdo; rw [if_neg (show ¬ ¬ j < lf_n L by simpa using q), if_neg (show ¬ bt m j = true by simp [hb]), if_pos q3]
        rw [e]
        exact ⟨by simp only [Bool.false_eq_true, ↓reduceIte, q3, decide_false]; rfl, Or.inr (Or.inr (Or.inl rfl))⟩
  · left
    have e : tdo L m j = -1 := by unfold tdo; rw [if_pos q]
    simp only [q, decide_false, Bool.false_eq_true, ↓reduceIte, e]
    exact ⟨rfl, Or.inl rfl⟩
theorem m_whyDrop {S : sk_S} {d : sk_D} {L : LF} (h : MI S d L) {m : Int32} (hm : mM (fun k => d.1 95 (74 + k)) m) {j : Nat} (hj : j < 2 ^ 31) :
    (fX11_whyDrop S d 94 (lN j) = some (wy (tdr L m j)) ∧ ng4 (tdr L m j)) ∨ (fX11_whyDrop S d 94 (lN j) = some 0 ∧ j < lf_n L ∧ bt m (j + 8) = true ∧ tdr L m j = m &&& (b8 j ^^^ (-1))) := by
  have hS := h.1
  have hn := h.2.1.1
  unfold fX11_whyDrop
  rw [m_isDoingN h hj, lN_i]
  by_cases q : j < lf_n L
  · have hmj : d.1 95 (74 + j) = mood m j := hm.1 j (by omega)
    simp (disch := omega) only [Option.bind_some, ↓reduceIte, nI_leI, nI_ltI, nI_eq, nI_1, q, decide_true, kd94 hS, gi94 hS, pi94 hS, gr94_1 hS, gr94_2 hS, gr94_3 hS, gr94_4 hS, gr94_16 hS, gr94_17 hS, gr94_18 hS, gr94_21 hS, gr94_22 hS, gr94_23 hS, gr94_24 hS, gr94_26 hS, gr94_27 hS, gr94_28 hS, gr94_29 hS, gr94_30 hS, gr94_31 hS, gr94_33 hS, gr94_34 hS, gr94_35 hS, gr94_36 hS, p74, li95 hS, hmj]
    simp only [(mood_c m j).2.2.2, (mood_c m j).2.1]
    cases hb : bt m (j + 8) with
    | true =>
      right
      refine ⟨by simp, trivial, rfl, ?_⟩
      unfold tdr
      rw [if_neg (show ¬ ¬ j < lf_n L by simpa using q), if_neg (by simp [hb])]
    | false =>
      left
      have e : tdr L m j = -2 := by unfold tdr; rw [if_neg (show ¬ ¬ j < lf_n L by simpa using q), if_pos hb]
      rw [e]
      refine ⟨?_, Or.inr (Or.inl rfl)⟩
      cases bt m j <;> rfl
  · left
    have e : tdr L m j = -1 := by unfold tdr; rw [if_pos q]
    simp (disch := omega) only [Option.bind_some, ↓reduceIte, nI_leI, nI_ltI, nI_eq, nI_1, q, decide_false, Bool.false_eq_true, kd94 hS, gi94 hS, pi94 hS, gr94_1 hS, gr94_2 hS, gr94_3 hS, gr94_4 hS, gr94_16 hS, gr94_17 hS, gr94_18 hS, gr94_21 hS, gr94_22 hS, gr94_23 hS, gr94_24 hS, gr94_26 hS, gr94_27 hS, gr94_28 hS, gr94_29 hS, gr94_30 hS, gr94_31 hS, gr94_33 hS, gr94_34 hS, gr94_35 hS, gr94_36 hS, e]
    exact ⟨rfl, Or.inl rfl⟩
theorem m_whyForge {S : sk_S} {d : sk_D} {L : LF} (h : MI S d L) {m : Int32} (hm : mM (fun k => d.1 95 (74 + k)) m) (hz : zM L m) {j : Nat} (hj : j < 2 ^ 31) :
    (fX11_whyForge S d 94 (lN j) = some (wy (tfo L m j)) ∧ ng4 (tfo L m j)) ∨ (fX11_whyForge S d 94 (lN j) = some 0 ∧ j < lf_n L ∧ mood m j = 0 ∧ tfo L m j = m ||| b8 j) := by
  have hS := h.1
  have hn := h.2.1.1
  unfold fX11_whyForge
  rw [m_isDoingN h hj, lN_i]
  by_cases q : j < lf_n L
  · have hmj : d.1 95 (74 + j) = mood m j := hm.1 j (by omega)
    have v0 := h.2.2.2.2.2.2.1 0 j (by omega) q
    rw [show 10 + 8 * 0 + j = 10 + j by omega] at v0
    simp (disch := omega) only [Option.bind_some, ↓reduceIte, nI_leI, nI_ltI, nI_eq, nI_1, q, decide_true, kd94 hS, gi94 hS, pi94 hS, gr94_1 hS, gr94_2 hS, gr94_3 hS, gr94_4 hS, gr94_16 hS, gr94_17 hS, gr94_18 hS, gr94_21 hS, gr94_22 hS, gr94_23 hS, gr94_24 hS, gr94_26 hS, gr94_27 hS, gr94_28 hS, gr94_29 hS, gr94_30 hS, gr94_31 hS, gr94_33 hS, gr94_34 hS, gr94_35 hS, gr94_36 hS, p74, p10, li95 hS, hmj, v0, m_stand hS hm.1, m_left hS h.2.1 h.2.2 hz]
    by_cases q0 : mood m j = 0
    · have qb := (mood_c m j).2.2.2.mp q0
      by_cases q4 : lf_v L 0 j ≤ rl L (ln m)
      · right
        refine ⟨by simp [q0, q4], trivial, q0, ?_⟩
        unfold tfo
        rw [if_neg (show ¬ ¬ j < lf_n L by simpa using q), if_neg (by simp [qb.1, qb.2]), if_pos q4]
      · left
        have e : tfo L m j = -4 := by unfold tfo; rw [if_neg (show ¬ ¬ j < lf_n L by simpa using q), if_neg (by simp [qb.1, qb.2]), if_neg q4]
        rw [e, if_pos q0, if_neg q4]
        exact ⟨rfl, Or.inr (Or.inr (Or.inr rfl))⟩
    · left
      have qb : bt m j = true ∨ bt m (j + 8) = true := by
        rw [(mood_c m j).2.2.2] at q0
        cases h1 : bt m j <;> cases h2 : bt m (j + 8) <;> simp_all
      have e : tfo L m j = -2 := by unfold tfo; rw [if_neg (show ¬ ¬ j < lf_n L by simpa using q), if_pos qb]
      rw [e, if_neg q0]
      exact ⟨rfl, Or.inr (Or.inl rfl)⟩
  · left
    have e : tfo L m j = -1 := by unfold tfo; rw [if_pos q]
    simp (disch := omega) only [Option.bind_some, ↓reduceIte, nI_leI, nI_ltI, nI_eq, nI_1, q, decide_false, Bool.false_eq_true, kd94 hS, gi94 hS, pi94 hS, gr94_1 hS, gr94_2 hS, gr94_3 hS, gr94_4 hS, gr94_16 hS, gr94_17 hS, gr94_18 hS, gr94_21 hS, gr94_22 hS, gr94_23 hS, gr94_24 hS, gr94_26 hS, gr94_27 hS, gr94_28 hS, gr94_29 hS, gr94_30 hS, gr94_31 hS, gr94_33 hS, gr94_34 hS, gr94_35 hS, gr94_36 hS, e]
    exact ⟨rfl, Or.inl rfl⟩
/-- the end of a call that did something -/
theorem m_fin {S : sk_S} {d e : sk_D} {A : AS} {m : Int32} (h : RM S d A) (hA : okA A) (f : mfr d e) (hk : ∀ k, 83 ≤ k → k < 174 → e.1 95 k = d.1 95 k) (hm : mM (fun k => e.1 95 (74 + k)) m) (hw : mM (e.1 101) (as_m A)) :
    ∃ d', fX11_notes S e 94 = some d' ∧ RM S d' (goto A m) ∧ Fr mdl d d' ∧ Fr (fun b => b = 95) e d' ∧ ∀ k, 74 ≤ k → k < 83 → d'.1 95 k = e.1 95 k := by
  obtain ⟨p1, p2, p3⟩ := h.2.1
  have hq : ∀ i, i < (as_ps A).length → mM (fun k => e.1 95 (84 + 9 * i + k)) ((as_ps A).getD i 0) := by
    intro i hi
    have := p3 i hi
    have hl := hA.2.2.2.1
    refine ⟨fun j hj => ?_, ?_⟩
    · show e.1 95 (84 + 9 * i + j) = _
      rw [hk _ (by omega) (by omega)]; exact this.1 j hj
    · show e.1 95 (84 + 9 * i + 8) = _
      rw [hk _ (by omega) (by omega)]; exact this.2
  obtain ⟨d', a1, a2, a3, a4, a5⟩ := m_notes h.1.1 hA.2.2.2.1 (by rw [hk 83 (by omega) (by omega)]; exact p2) hq hw
  have f2 : mfr e d' := mfr.h95 a2 (fun k hk => a3 k (by omega))
  refine ⟨d', a1, RM.upd h (f.trans f2) ⟨⟨fun j hj => ?_, ?_⟩, a4, a5⟩, (f.trans f2).2.2.2.2, a2, fun k h1 h2 => a3 k (by omega)⟩
  · show d'.1 95 (74 + j) = _
    rw [a3 _ (by omega)]; exact hm.1 j hj
  · show d'.1 95 (74 + 8) = _
    rw [a3 _ (by omega)]; exact hm.2
theorem mM.same {f g : Nat → Int32} {m : Int32} (h : mM f m) (e : ∀ k, k < 9 → g k = f k) : mM g m := ⟨fun j hj => by rw [e j (by omega)]; exact h.1 j hj, by rw [e 8 (by omega)]; exact h.2⟩
/-- the beginning of a call that does something -/
theorem m_beg {S : sk_S} {d : sk_D} {A : AS} (h : RM S d A) : ∃ d1, fX11_keeps S (sk_uI d 94 0 0) 94 = some d1 ∧ mfr d d1 ∧ d1.1 95 = d.1 95 ∧ mM (d1.1 101) (as_m A) ∧ MI S d1 (as_L A) ∧ mM (fun k => d1.1 95 (74 + k)) (as_m A) := by
  have hS := h.1.1
  obtain ⟨d1, a1, a2, a3⟩ := m_keeps (d := sk_uI d 94 0 0) hS
  have e95 : d1.1 95 = d.1 95 := by rw [a2.i (by omega), uI_a _ _ _ 95 _ (by decide)]
  have f : mfr d d1 := (mfr.f94 d (by omega)).trans (mfr.of (a2.mono (fun b hb => by unfold mfree; omega)))
  refine ⟨d1, a1, f, e95, ?_, h.1.mfr f, by rw [e95]; exact h.2.1.1⟩
  exact h.2.1.1.same (fun k hk => by rw [a3 k hk, uI_a _ _ _ 95 _ (by decide)])
theorem mfr0 (d : sk_D) (v : Int32) : mfr d (sk_uI d 94 0 v) := mfr.f94 d (by omega)
theorem RM.m0 {S : sk_S} {d : sk_D} {A : AS} (h : RM S d A) (v : Int32) : RM S (sk_uI d 94 0 v) A := RM.upd h (mfr0 d v) (by rw [uI_a _ _ _ 95 _ (by decide)]; exact h.2.1)
theorem wy_neg {r : Int32} (h : r = -1 ∨ r = -2 ∨ r = -3 ∨ r = -4) : r < 0 ∧ ¬ wy r = 0 ∧ (-10 : Int32) - wy r = -10 + r := by
  rcases h with rfl | rfl | rfl | rfl <;> decide
theorem sp_dto (L : LF) (m : Int32) {j : Nat} (hj : j < 8) : sp (dto L m j) = sp m := by
  apply sp_cong
  intro i h1 h2
  unfold dto
  split
  · rw [b_or, bt_gone m hj h2, bt_b8 (by omega) h2]; simp [show ¬ i = j by omega, show ¬ i = j + 8 by omega]
  · rw [bt_gone m hj h2]; simp [show ¬ i = j by omega, show ¬ i = j + 8 by omega]
theorem sp_drop (m : Int32) {j : Nat} (hj : j < 8) : sp (m &&& (b8 j ^^^ (-1))) = sp m := by
  apply sp_cong
  intro i h1 h2
  rw [bt_drop m hj h2]; simp [show ¬ i = j + 8 by omega]
theorem sp_forge (m : Int32) {j : Nat} (hj : j < 8) : sp (m ||| b8 j) = sp m := by
  apply sp_cong
  intro i h1 h2
  rw [b_or, bt_b8 (by omega) h2]; simp [show ¬ i = j + 8 by omega]
theorem sp_pb (m set : Int32) (h : ∀ i, 8 ≤ i → i < 32 → bt set i = false) : sp (pb m set) = sp m := by
  apply sp_cong
  intro i h1 h2
  exact (bt_pb m set h i).2 h1 h2
