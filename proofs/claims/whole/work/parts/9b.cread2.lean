/-! the class reads a life -/
theorem LA31 {S : sk_S} (hS : Sh S) : LA1 S 31 := ⟨kd31 hS, gr31_0 hS, kd32 hS, by omega, by omega⟩
theorem LA34 {S : sk_S} (hS : Sh S) : LA1 S 34 := ⟨kd34 hS, gr34_0 hS, kd35 hS, by omega, by omega⟩
section
variable {S : sk_S} {d : sk_D} {T : TKS} {z i : Nat} {D : DFT}
theorem c_lawLine (hS : Sh S) (hT : okT2 T z) {t a : Nat} (ht : t = 0 ∧ a = 31 ∨ t = 1 ∧ a = 34) (h : CG T z d i D) (hi : i < z) : LC T z (fun d => (fX5_lawBegins S d 21 a (decide (t = 1))).bind fun d90 => fX5_truth S d90 21 a 0) d (wSl (gLaw T t i D.1) D.2) := by
  have ha : LA1 S a := by
    rcases ht with ⟨-, rfl⟩ | ⟨-, rfl⟩
    · exact LA31 hS
    · exact LA34 hS
  have a2 := ha.2.2.2
  have f1 : Fr f21 d (sk_uI d 21 8 (sk_b (decide (t = 1)))) := Fr.uI _ rfl
  have g1 : Gdx T z (sk_uI d 21 8 (sk_b (decide (t = 1)))) i := by
    obtain ⟨x1, x2, x3, x4, x5, x6⟩ := h.1
    exact ⟨x1.u (by omega) _, by rw [uI_k _ _ _ _ _ (by omega)]; exact x2, by rw [uI_k _ _ _ _ _ (by omega)]; exact x3, x4, x5, by rw [uI_k _ _ _ _ _ (by omega)]; exact x6⟩
  have G1 := h.u (Nat.le_refl _) g1 f1
  obtain ⟨n1, n2⟩ := c_nextG hS g1 hi
  have f2 : Fr f21 (sk_uI d 21 8 (sk_b (decide (t = 1)))) (sk_uI (sk_uI d 21 8 (sk_b (decide (t = 1)))) 21 7 (nI (i + 1))) := Fr.uI _ rfl
  have G2 := G1.u (by omega) n2 f2
  obtain ⟨d3, b1, b2, b3, b4⟩ := c_expG hS n2 hT (k := 58) (by decide)
  have cl : fX1_clear S d3 a = some (sk_uI d3 a 2 0) := by
    unfold fX1_clear
    rw [show sk_pI S d3 a 1 2 0 = some (sk_uI d3 a 2 0) from if_pos ha.1]
    rfl
  have f4 : Fr (rdf a) d3 (sk_uI d3 a 2 0) := Fr.uI _ (Or.inr (Or.inl rfl))
  have r4 : Fr (fun b => 22 ≤ b ∧ b ≤ 36) d3 (sk_uI d3 a 2 0) := Fr.uI _ (by omega)
  have rr : ∀ {e e' : sk_D}, Fr (rdf a) e e' → Fr rdr e e' := fun x => x.mono (fun b hb => by unfold rdf at hb; unfold rdr; omega)
  have fr4 : Fr rdr d (sk_uI d3 a 2 0) := (((f21_r f1).trans (f21_r f2)).trans (f21_r b2)).trans (in_r r4)
  have tr := c_gTruth (sl := decide (t = 1)) hS hT ha
  unfold LC fX5_lawBegins gLaw wSl
  dsimp only
  rw [pi21 hS, Option.bind_some, if_pos (kd21 hS), n1, Option.bind_some, if_pos (kd21 hS), b1, Option.bind_some, if_pos ha.1, cl, Option.bind_some, Option.bind_some]
  by_cases k58 : T.1 (i + 1) = 58
  · obtain ⟨e1, e2⟩ := b3 k58
    have G3 := G2.u (by omega) e2 b2
    have GG : GS T z a (decide (t = 1)) (sk_uI d3 a 2 0) (i + 1 + 1) [] := ⟨e2.r r4, ⟨uI_s _ _ _ _, fun j hj => absurd hj (by simp)⟩, by simp, by rw [uI_a _ _ _ 21 _ (by omega), e1, uI_k _ _ _ _ _ (by omega), uI_k _ _ _ _ _ (by omega), uI_s]⟩
    obtain ⟨d5, c1, c2, c3, c4⟩ := tr.2 _ _ _ GG
    dsimp only at c1
    rw [if_pos k58, c1]
    refine ⟨d5, rfl, fr4.trans (rr c2), fun x e => ?_, fun y e => ?_⟩
    · cases g : gTruth T (decide (t = 1)) 6 (i + 2) with
      | inl u => rw [g] at e; rw [← Sum.inl.inj e]; exact (c3 u g).1
      | inr u => rw [g] at e; exact absurd e (by simp)
    · cases g : gTruth T (decide (t = 1)) 6 (i + 2) with
      | inl u => rw [g] at e; exact absurd e (by simp)
      | inr u =>
        rw [g] at e
        rw [← Sum.inr.inj e]
        left
        obtain ⟨s1, s2, s3, s4⟩ := c4 u g
        rw [List.nil_append] at s2 s3
        have l := truth_len hT (decide (t = 1)) 6 (i + 2) e2.2.2.2.1 u g
        have f5 : Fr (rdf a) d3 d5 := f4.trans c2
        have i5 : ∀ b, 22 ≤ b → b ≠ a → b ≠ a + 1 → d5.1 b = d3.1 b := fun b h1 h2 h3 => f5.i (by unfold rdf; omega)
        obtain ⟨h0, h1, h2, h4, hv, hdo, hw0, hw1⟩ := G3.2.1
        have o := G3.2.2.2
        refine ⟨s1, ⟨?_, ?_, ?_, ?_, fun t' j ht' hj => ?_, fun j hj => ?_, ?_, ?_⟩, ?_, ?_⟩
        · rw [i5 22 (by omega) (by omega) (by omega)]; exact h0
        · rw [i5 22 (by omega) (by omega) (by omega)]; exact h1
        · rw [i5 22 (by omega) (by omega) (by omega)]; exact h2
        · rw [i5 22 (by omega) (by omega) (by omega)]; exact h4
        · rw [i5 _ (by omega) (by omega) (by omega)]; exact hv t' j ht' hj
        · rw [i5 _ (by omega) (by omega) (by omega)]; exact hdo j hj
        · rcases ht with ⟨rfl, rfl⟩ | ⟨rfl, rfl⟩
          · exact s2
          · unfold cW; rw [i5 31 (by omega) (by omega) (by omega), i5 32 (by omega) (by omega) (by omega)]; exact hw0
        · rcases ht with ⟨rfl, rfl⟩ | ⟨rfl, rfl⟩
          · unfold cW; rw [i5 34 (by omega) (by omega) (by omega), i5 35 (by omega) (by omega) (by omega)]; exact hw1
          · exact s2
        · rw [i5 22 (by omega) (by omega) (by omega)]; exact G3.2.2.1
        · refine ⟨o.1, o.2.1, ?_, ?_⟩
          · rcases ht with ⟨rfl, rfl⟩ | ⟨rfl, rfl⟩
            · exact s3
            · have := o.2.2.1; show (lf_w D.1 0).length ≤ u.1; omega
          · rcases ht with ⟨rfl, rfl⟩ | ⟨rfl, rfl⟩
            · have := o.2.2.2; show (lf_w D.1 1).length ≤ u.1; omega
            · exact s3
  · have F4 : FS a (sk_uI d3 a 2 0) (tfl T (i + 1) 2) := ⟨(b4 k58).r r4, 0, by omega, uI_s _ _ _ _⟩
    obtain ⟨d5, c1, c2, c3⟩ := tr.1 _ _ F4
    dsimp only at c1
    rw [if_neg k58, c1]
    exact ⟨d5, rfl, fr4.trans (rr c3), fun x e => by rw [← Sum.inl.inj e]; exact c2.1, fun y e => absurd e (by simp)⟩
theorem LC.fin (hS : Sh S) (hT : okT2 T z) {fn : sk_D → Option sk_D} {X : LR} (h : LC T z fn d X) : ∃ d', ((fn d).bind fun d13 => fX5_line_J181 S 21 d13) = some d' ∧ Fr rdr d d' ∧ (∀ x, gEnd T X = .inl x → Fdx d' x) ∧ ∀ y, gEnd T X = .inr y → CG T z d' y.1 y.2 := by
  obtain ⟨d1, a1, a2, a3, a4⟩ := h
  unfold fX5_line_J181
  rw [a1, Option.bind_some, if_pos (kd21 hS)]
  cases X with
  | inl v =>
    obtain ⟨d2, b1, b2, b3⟩ := c_endLineF hS (a3 v rfl)
    rw [b1]
    exact ⟨d2, rfl, a2.trans b2, fun x e => by rw [← Sum.inl.inj e]; exact b3, fun y e => absurd e (by simp [gEnd])⟩
  | inr v =>
    obtain ⟨d2, b1, b2, b3, b4⟩ := c_endLine hS hT (a4 v rfl)
    rw [b1]
    exact ⟨d2, rfl, a2.trans b2, b3, b4⟩
theorem c_line (hS : Sh S) (hT : okT2 T z) (h : CG T z d i D) : ∃ d', fX5_line S d 21 = some d' ∧ Fr rdr d d' ∧ (∀ x, gEnd T (gLine T i D) = .inl x → Fdx d' x) ∧ ∀ y, gEnd T (gLine T i D) = .inr y → CG T z d' y.1 y.2 := by
  have hz := h.1.2.2.2.1
  have kd := kd21 hS
  unfold fX5_line gLine
  rw [if_pos kd, c_kindG hS h.1, Option.bind_some]
  by_cases k2 : T.1 i = 2
  · rw [if_pos k2, if_pos k2, if_pos kd]
    exact (c_doingLine hS hT h k2).fin hS hT
  by_cases k12 : T.1 i = 12
  · rw [if_neg k2, if_neg k2, if_neg (by rw [k12]; decide), if_neg (by rw [k12]; decide), if_neg (by rw [k12]; decide), if_neg (by rw [k12]; decide), if_neg (by rw [k12]; decide), if_neg (by rw [k12]; decide), if_neg (by rw [k12]; decide), if_neg (by rw [k12]; decide), if_neg (by rw [k12]; decide), if_pos k12, if_pos k12, if_pos kd]
    exact (c_doorLine hS hT h k12).fin hS hT
  by_cases k13 : T.1 i = 13
  · obtain ⟨d1, a1, a2, a3⟩ := h.next hS (tk_lt hT hz (by rw [k13]; decide))
    have := (c_clashPair hS hT a2).fin hS hT
    rw [if_neg k2, if_neg k2, if_neg (by rw [k13]; decide), if_neg (by rw [k13]; decide), if_neg (by rw [k13]; decide), if_neg (by rw [k13]; decide), if_neg (by rw [k13]; decide), if_neg (by rw [k13]; decide), if_neg (by rw [k13]; decide), if_neg (by rw [k13]; decide), if_neg (by rw [k13]; decide), if_neg k12, if_neg k12, if_pos k13, if_pos k13, if_pos kd, a1, Option.bind_some, if_pos kd]
    obtain ⟨d2, b1, b2, b3⟩ := this
    exact ⟨d2, b1, (f21_r a3).trans b2, b3⟩
  by_cases k7 : T.1 i = 7
  · obtain ⟨d1, a1, a2, a3⟩ := h.next hS (tk_lt hT hz (by rw [k7]; decide))
    obtain ⟨v, d2, n1, n2, n3, n4⟩ := a2.num hS hT 0 9
    have r3 : Fr (fun b => 22 ≤ b ∧ b ≤ 36) d2 (sk_uI d2 22 3 v) := Fr.uI _ (by omega)
    have lc : LC T z (fun _ => some (sk_uI d2 22 3 v)) d (match tnu T 0 9 (i + 1) with | .inl x => .inl x | .inr u => .inr (i + 2, (D.1, u))) := by
      refine ⟨_, rfl, ((f21_r a3).trans (f21_r n2)).trans (in_r r3), fun x e => ?_, fun y e => ?_⟩
      · cases g : tnu T 0 9 (i + 1) with
        | inl u => rw [g] at e; rw [← Sum.inl.inj e]; exact (n3 u g).1.r r3
        | inr u => rw [g] at e; exact absurd e (by simp)
      · cases g : tnu T 0 9 (i + 1) with
        | inl u => rw [g] at e; exact absurd e (by simp)
        | inr u =>
          rw [g] at e
          rw [← Sum.inr.inj e]
          obtain ⟨ev, G⟩ := n4 u g
          refine Or.inl ⟨G.1.r r3, ?_, by rw [uI_s]; exact ev, G.2.2.2⟩
          obtain ⟨h0, h1, h2, h4, hv, hdo, hw0, hw1⟩ := G.2.1
          refine ⟨by rw [uI_k _ _ _ _ _ (by omega)]; exact h0, by rw [uI_k _ _ _ _ _ (by omega)]; exact h1, by rw [uI_k _ _ _ _ _ (by omega)]; exact h2, by rw [uI_k _ _ _ _ _ (by omega)]; exact h4, fun t j ht hj => ?_, fun j hj => ?_, ?_, ?_⟩
          · rw [uI_a _ _ _ _ _ (by omega)]; exact hv t j ht hj
          · rw [uI_a _ _ _ _ _ (by omega)]; exact hdo j hj
          · unfold cW; rw [uI_a _ _ _ _ _ (by omega), uI_a _ _ _ _ _ (by omega)]; exact hw0
          · unfold cW; rw [uI_a _ _ _ _ _ (by omega), uI_a _ _ _ _ _ (by omega)]; exact hw1
    have := lc.fin hS hT
    rw [if_neg k2, if_neg k2, if_neg (by rw [k7]; decide), if_neg (by rw [k7]; decide), if_neg (by rw [k7]; decide), if_neg (by rw [k7]; decide), if_pos k7, if_neg k12, if_neg k13, if_pos k7, if_pos kd, a1, Option.bind_some, gr21_0 hS, Option.bind_some, if_pos kd, n1, Option.bind_some, pi22 hS, Option.bind_some]
    exact this
  by_cases k14 : T.1 i = 14
  · have := (c_lawLine hS hT (t := 0) (a := 31) (Or.inl ⟨rfl, rfl⟩) h (tk_lt hT hz (by rw [k14]; decide))).fin hS hT
    rw [Option.bind_assoc] at this
    rw [if_neg k2, if_neg k2, if_neg (by rw [k14]; decide), if_neg (by rw [k14]; decide), if_neg (by rw [k14]; decide), if_neg (by rw [k14]; decide), if_neg k7, if_neg (by rw [k14]; decide), if_neg (by rw [k14]; decide), if_neg (by rw [k14]; decide), if_neg (by rw [k14]; decide), if_neg k12, if_neg k12, if_neg k13, if_neg k13, if_neg k7, if_pos k14, if_pos k14]
    simp only [gr21_0 hS, gr22_13 hS, Option.bind_some, if_pos kd]
    exact this
  by_cases k15 : T.1 i = 15
  · have := (c_lawLine hS hT (t := 1) (a := 34) (Or.inr ⟨rfl, rfl⟩) h (tk_lt hT hz (by rw [k15]; decide))).fin hS hT
    rw [Option.bind_assoc] at this
    rw [if_neg k2, if_neg k2, if_neg (by rw [k15]; decide), if_neg (by rw [k15]; decide), if_neg (by rw [k15]; decide), if_neg (by rw [k15]; decide), if_neg k7, if_neg (by rw [k15]; decide), if_neg (by rw [k15]; decide), if_neg (by rw [k15]; decide), if_neg (by rw [k15]; decide), if_neg k12, if_neg k12, if_neg k13, if_neg k13, if_neg k7, if_neg k14, if_neg k14, if_pos k15, if_pos k15]
    simp only [gr21_0 hS, gr22_14 hS, Option.bind_some, if_pos kd]
    exact this
  obtain ⟨d1, a1, a2, a3⟩ := h.fail hS (y := 2) (by decide)
  have lc : LC T z (fun _ => some d1) d (.inl (tfl T i 2)) := ⟨d1, rfl, f21_r a3, fun x e => by rw [← Sum.inl.inj e]; exact a2, fun y e => absurd e (by simp)⟩
  have fin := lc.fin hS hT
  rw [if_neg k2, if_neg k2, if_neg k12, if_neg k13, if_neg k7, if_neg k14, if_neg k15, if_neg k7, if_neg k12, if_neg k13, if_neg k14, if_neg k15, if_pos kd, a1]
  simp only [ite_self]
  exact fin
end
