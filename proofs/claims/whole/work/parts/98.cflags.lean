/-! the class reads lines -/
section
variable {S : sk_S} {d : sk_D} {T : TKS} {z i : Nat} {D : DFT}
theorem sv_r {d : sk_D} {t j : Nat} (ht : t < 8) (x : Int32) : Fr (fun b => 22 ≤ b ∧ b ≤ 36) d (sk_uI d (22 + 1 + t) j x) := Fr.uI _ (by omega)
theorem CG.v (h : CG T z d i D) {t j : Nat} (ht : t < 7) (x : Int32) : CG T z (sk_uI d (22 + 1 + t) j x) i (sV D.1 t j x, D.2) := by
  obtain ⟨g, c, s, o⟩ := h
  exact ⟨g.r (sv_r (by omega) x), c.v ht x, by rw [uI_a _ _ _ _ _ (by omega)]; exact s, o⟩
theorem c_has22 (hS : Sh S) (hc : cL d 22 D.1) {j : Nat} (hj : j < lf_n D.1) (hn : lf_n D.1 ≤ 8) : fX2_has S d 22 (nI j) = some true := by
  unfold fX2_has
  rw [if_neg (nI_pos (by omega)), gi22 hS, Option.bind_some, hc.2.1, if_neg (nI_ge hj (by omega)), if_neg (show ¬ (8 : Int32) ≤ nI j from nI_ge (b := 8) (by omega) (by omega))]
def FC (T : TKS) (z : Nat) (d : sk_D) (d' : sk_D) (i : Nat) (D : DFT) (j : Nat) : Prop := Fr rdr d d' ∧
  (T.1 i = 11 → (∀ x, tnu T 0 (nI j - 1) (i + 1) = .inl x → Fdx d' x) ∧ ∀ u, tnu T 0 (nI j - 1) (i + 1) = .inr u → CG T z d' (i + 2) (sV D.1 5 j (lf_v D.1 5 j ||| ((1 : Int32) <<< (u &&& 31))), D.2)) ∧
  (T.1 i ≠ 11 → ftt (T.1 i) ≠ 0 → (∀ x, tnu T 0 (fhi (T.1 i)) (i + 1) = .inl x → Fdx d' x) ∧ ∀ u, tnu T 0 (fhi (T.1 i)) (i + 1) = .inr u → CG T z d' (i + 2) (sV D.1 (ftt (T.1 i)) j u, D.2)) ∧
  (T.1 i ≠ 11 → ftt (T.1 i) = 0 → Fdx d' (tfl T i 2))
theorem c_flag (hS : Sh S) (hT : okT2 T z) (h : CG T z d i D) {j : Nat} (hj : j < lf_n D.1) : ∃ d', fX5_flag S d 21 (nI j) = some d' ∧ FC T z d d' i D j := by
  have hn := h.2.2.2.1
  have hz := h.1.2.2.2
  unfold fX5_flag FC
  rw [if_pos (kd21 hS), c_kindG hS h.1, Option.bind_some]
  have no : T.1 i ≠ 11 → ftt (T.1 i) = 0 → ∃ d', fX5_flag_J39 S 21 d = some d' ∧ FC T z d d' i D j := by
    intro c1 c2
    obtain ⟨d1, a1, a2, a3⟩ := h.fail hS (y := 2) (by decide)
    unfold fX5_flag_J39
    rw [if_pos (kd21 hS), a1]
    exact ⟨d1, rfl, f21_r a3, fun a => absurd a c1, fun _ a => absurd c2 a, fun _ _ => a2⟩
  have st : (T.1 i = 11 ∨ ftt (T.1 i) ≠ 0) → ∃ d', fX5_flag_J28 S 21 (nI j) (T.1 i) d = some d' ∧ FC T z d d' i D j := by
    intro hk
    have hiz : i < z := tk_lt hT hz.1 (fun e => by rw [e] at hk; revert hk; decide)
    obtain ⟨d1, a1, a2, a3⟩ := h.next hS hiz
    unfold fX5_flag_J28
    rw [gr21_0 hS, Option.bind_some, if_pos (kd22 hS), c_has22 hS h.2.1 hj hn, Option.bind_some, if_pos rfl, if_pos (kd21 hS), a1, Option.bind_some]
    by_cases k4 : T.1 i = 4
    · obtain ⟨v, d2, b1, b2, b3, b4⟩ := a2.num hS hT 0 9
      have ft : ftt (T.1 i) = 1 := by rw [k4]; rfl
      have fh : fhi (T.1 i) = 9 := by rw [k4]; rfl
      rw [if_pos k4, Option.bind_some, gr22_6 hS, Option.bind_some, if_pos (kd21 hS), b1, Option.bind_some, si24 hS _ _ (show j < 8 by omega), Option.bind_some]
      refine ⟨_, rfl, ((f21_r a3).trans (f21_r b2)).trans (in_r (sv_r (t := 1) (by omega) v)), fun a => absurd a (by rw [k4]; decide), fun _ _ => ?_, fun _ a => absurd a (by rw [ft]; decide)⟩
      rw [ft, fh]
      refine ⟨fun x e => (b3 x e).1.r (sv_r (t := 1) (by omega) v), fun u e => ?_⟩
      obtain ⟨e1, e2⟩ := b4 u e
      rw [← e1]
      exact e2.v (t := 1) (by omega) v
    by_cases k8 : T.1 i = 8
    · obtain ⟨v, d2, b1, b2, b3, b4⟩ := a2.num hS hT 0 10
      have ft : ftt (T.1 i) = 2 := by rw [k8]; rfl
      have fh : fhi (T.1 i) = 10 := by rw [k8]; rfl
      rw [if_neg k4, if_neg (by rw [k8]; decide), if_neg (by rw [k8]; decide), if_neg (by rw [k8]; decide), if_pos k8, Option.bind_some, gr22_7 hS, Option.bind_some, if_pos (kd21 hS), b1, Option.bind_some, si25 hS _ _ (show j < 8 by omega), Option.bind_some]
      refine ⟨_, rfl, ((f21_r a3).trans (f21_r b2)).trans (in_r (sv_r (t := 2) (by omega) v)), fun a => absurd a (by rw [k8]; decide), fun _ _ => ?_, fun _ a => absurd a (by rw [ft]; decide)⟩
      rw [ft, fh]
      refine ⟨fun x e => (b3 x e).1.r (sv_r (t := 2) (by omega) v), fun u e => ?_⟩
      obtain ⟨e1, e2⟩ := b4 u e
      rw [← e1]
      exact e2.v (t := 2) (by omega) v
    by_cases k9 : T.1 i = 9
    · obtain ⟨v, d2, b1, b2, b3, b4⟩ := a2.num hS hT 0 10
      have ft : ftt (T.1 i) = 3 := by rw [k9]; rfl
      have fh : fhi (T.1 i) = 10 := by rw [k9]; rfl
      rw [if_neg k4, if_neg (by rw [k9]; decide), if_neg (by rw [k9]; decide), if_neg (by rw [k9]; decide), if_neg k8, if_pos k9, Option.bind_some, gr22_8 hS, Option.bind_some, if_pos (kd21 hS), b1, Option.bind_some, si26 hS _ _ (show j < 8 by omega), Option.bind_some]
      refine ⟨_, rfl, ((f21_r a3).trans (f21_r b2)).trans (in_r (sv_r (t := 3) (by omega) v)), fun a => absurd a (by rw [k9]; decide), fun _ _ => ?_, fun _ a => absurd a (by rw [ft]; decide)⟩
      rw [ft, fh]
      refine ⟨fun x e => (b3 x e).1.r (sv_r (t := 3) (by omega) v), fun u e => ?_⟩
      obtain ⟨e1, e2⟩ := b4 u e
      rw [← e1]
      exact e2.v (t := 3) (by omega) v
    by_cases k10 : T.1 i = 10
    · obtain ⟨v, d2, b1, b2, b3, b4⟩ := a2.num hS hT 0 9
      have ft : ftt (T.1 i) = 4 := by rw [k10]; rfl
      have fh : fhi (T.1 i) = 9 := by rw [k10]; rfl
      rw [if_neg k4, if_neg (by rw [k10]; decide), if_neg (by rw [k10]; decide), if_neg (by rw [k10]; decide), if_neg k8, if_neg k9, if_pos k10, Option.bind_some, gr22_9 hS, Option.bind_some, if_pos (kd21 hS), b1, Option.bind_some, si27 hS _ _ (show j < 8 by omega), Option.bind_some]
      refine ⟨_, rfl, ((f21_r a3).trans (f21_r b2)).trans (in_r (sv_r (t := 4) (by omega) v)), fun a => absurd a (by rw [k10]; decide), fun _ _ => ?_, fun _ a => absurd a (by rw [ft]; decide)⟩
      rw [ft, fh]
      refine ⟨fun x e => (b3 x e).1.r (sv_r (t := 4) (by omega) v), fun u e => ?_⟩
      obtain ⟨e1, e2⟩ := b4 u e
      rw [← e1]
      exact e2.v (t := 4) (by omega) v
    · have k11 : T.1 i = 11 := by
        rcases hk with hk | hk
        · exact hk
        · exact absurd (by unfold ftt; rw [if_neg k4, if_neg k8, if_neg k9, if_neg k10]) hk
      obtain ⟨v, d2, b1, b2, b3, b4⟩ := a2.num hS hT 0 (nI j - 1)
      have c5 : d1.1 28 j = lf_v D.1 5 j := a2.2.1.2.2.2.2.1 5 j (by omega) hj
      rw [if_neg k4, if_neg (by rw [k11]; decide), if_neg (by rw [k11]; decide), if_neg (by rw [k11]; decide), if_neg k8, if_neg k9, if_neg k10, Option.bind_some, gr22_10 hS, Option.bind_some, li28 hS _ (show j < 8 by omega), Option.bind_some, c5, if_pos (kd21 hS), b1, Option.bind_some, si28 hS _ _ (show j < 8 by omega), Option.bind_some]
      refine ⟨_, rfl, ((f21_r a3).trans (f21_r b2)).trans (in_r (sv_r (t := 5) (by omega) _)), fun _ => ?_, fun a => absurd k11 a, fun a => absurd k11 a⟩
      refine ⟨fun x e => (b3 x e).1.r (sv_r (t := 5) (by omega) _), fun u e => ?_⟩
      obtain ⟨e1, e2⟩ := b4 u e
      rw [← e1]
      exact e2.v (t := 5) (by omega) _
  by_cases k4 : T.1 i = 4
  · rw [if_pos k4]; exact st (Or.inr (by rw [k4]; decide))
  · rw [if_neg k4]
    by_cases k11 : T.1 i = 11
    · rw [if_pos k11]; exact st (Or.inl k11)
    · rw [if_neg k11]
      by_cases q1 : T.1 i < 8
      · rw [if_pos q1]
        exact no k11 (by
          unfold ftt
          rw [if_neg k4, if_neg (fun e => by rw [e] at q1; revert q1; decide), if_neg (fun e => by rw [e] at q1; revert q1; decide), if_neg (fun e => by rw [e] at q1; revert q1; decide)])
      · rw [if_neg q1]
        by_cases q2 : (10 : Int32) < T.1 i
        · rw [if_pos q2]
          exact no k11 (by
            unfold ftt
            rw [if_neg k4, if_neg (fun e => by rw [e] at q2; revert q2; decide), if_neg (fun e => by rw [e] at q2; revert q2; decide), if_neg (fun e => by rw [e] at q2; revert q2; decide)])
        · rw [if_neg q2]
          refine st (Or.inr ?_)
          have : T.1 i = 8 ∨ T.1 i = 9 ∨ T.1 i = 10 := by
            rw [Int32.lt_iff_toInt_lt] at q1 q2
            have e8 : (8 : Int32).toInt = 8 := rfl
            have e9 : (9 : Int32).toInt = 9 := rfl
            have e10 : (10 : Int32).toInt = 10 := rfl
            rw [← Int32.toInt_inj, ← Int32.toInt_inj, ← Int32.toInt_inj, e9, e8, e10]
            omega
          rcases this with e | e | e <;> (rw [e]; decide)
end
