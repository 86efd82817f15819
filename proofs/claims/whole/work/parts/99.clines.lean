/-! the class reads lines, 2 -/
section
variable {S : sk_S} {d : sk_D} {T : TKS} {z i : Nat} {D : DFT}
theorem c_flagsF (hS : Sh S) {f : FLT} (h : Fdx d f) (v : Int32) (n : Nat) : fX5_doingLine_L60 S 21 v (nI n, d) = some (.inr d) := by
  unfold fX5_doingLine_L60
  dsimp only
  by_cases q : (900 : Int32) ≤ nI n
  · rw [if_pos q]
  · rw [if_neg q, gi21 hS, Option.bind_some, h.1, if_neg h.2.1]
theorem c_flags (hS : Sh S) (hT : okT2 T z) {j : Nat} : ∀ f n d i (D : DFT), f + n = 901 → n ≤ i → CG T z d i D → j < lf_n D.1 → ∃ d', sk_itr (fX5_doingLine_L60 S 21 (nI j)) (nI n, d) = some d' ∧ Fr rdr d d' ∧ (∀ x, gFlags T j f i D.1 = .inl x → Fdx d' x) ∧ ∀ y, gFlags T j f i D.1 = .inr y → WG T z d' y.1 (y.2, D.2)
  | 0, n, d, i, D, hf, hn, h, hj => by have := h.1.2.2.2; omega
  | f + 1, n, d, i, D, hf, hn, h, hj => by
    have hz := h.1.2.2.2
    obtain ⟨d1, a1, a2, a3, a4, a5⟩ := c_flag hS hT h hj
    have body : n < 900 → T.1 i ≠ 59 → fX5_doingLine_L60 S 21 (nI j) (nI n, d) = some (.inl (nI (n + 1), d1)) := by
      intro q k59
      unfold fX5_doingLine_L60
      dsimp only
      rw [if_neg (show ¬ (900 : Int32) ≤ nI n from nI_ge (b := 900) q (by omega)), gi21 hS, Option.bind_some, h.1.2.1, if_pos rfl, if_pos (kd21 hS), c_kindG hS h.1, Option.bind_some, if_neg k59, if_pos (kd21 hS), a1, Option.bind_some, nI_1]
    have bad : ∀ {x : FLT}, n < 900 → T.1 i ≠ 59 → Fdx d1 x → sk_itr (fX5_doingLine_L60 S 21 (nI j)) (nI n, d) = some d1 := by
      intro x q k59 F
      rw [sk_itr_step (body q k59)]
      exact sk_itr_exit (c_flagsF hS F _ _)
    unfold gFlags
    by_cases k11 : T.1 i = 11
    · have hiz := tk_lt hT hz.1 (by rw [k11]; decide)
      have k59 : T.1 i ≠ 59 := by rw [k11]; decide
      obtain ⟨b1, b2⟩ := a3 k11
      rw [if_pos k11]
      cases x : tnu T 0 (nI j - 1) (i + 1) with
      | inl v => exact ⟨d1, bad (by omega) k59 (b1 v x), a2, fun y e => by rw [← Sum.inl.inj e]; exact b1 v x, fun y e => absurd e (by simp)⟩
      | inr v =>
        obtain ⟨d2, c1, c2, c3⟩ := c_flags hS hT f (n + 1) d1 (i + 2) _ (by omega) (by omega) (b2 v x) hj
        exact ⟨d2, by rw [sk_itr_step (body (by omega) k59)]; exact c1, a2.trans c2, c3⟩
    · rw [if_neg k11]
      by_cases k0 : ftt (T.1 i) = 0
      · rw [if_pos k0]
        by_cases n9 : n < 900
        · by_cases k59 : T.1 i = 59
          · refine ⟨d, sk_itr_exit ?_, Fr.refl _ _, fun x e => absurd e (by simp), fun y e => by rw [← Sum.inr.inj e]; exact Or.inl h⟩
            unfold fX5_doingLine_L60
            dsimp only
            rw [if_neg (show ¬ (900 : Int32) ≤ nI n from nI_ge (b := 900) n9 (by omega)), gi21 hS, Option.bind_some, h.1.2.1, if_pos rfl, if_pos (kd21 hS), c_kindG hS h.1, Option.bind_some, if_pos k59]
          · have F := a5 k11 k0
            exact ⟨d1, bad n9 k59 F, a2, fun x e => absurd e (by simp), fun y e => by rw [← Sum.inr.inj e]; exact Or.inr ⟨k59, F⟩⟩
        · refine ⟨d, sk_itr_exit ?_, Fr.refl _ _, fun x e => absurd e (by simp), fun y e => by rw [← Sum.inr.inj e]; exact Or.inl h⟩
          unfold fX5_doingLine_L60
          dsimp only
          rw [if_pos (by rw [show n = 900 by omega]; decide)]
      · rw [if_neg k0]
        have hiz := tk_lt hT hz.1 (fun e => k0 (by rw [e]; rfl))
        have k59 : T.1 i ≠ 59 := fun e => k0 (by rw [e]; rfl)
        obtain ⟨b1, b2⟩ := a4 k11 k0
        cases x : tnu T 0 (fhi (T.1 i)) (i + 1) with
        | inl v => exact ⟨d1, bad (by omega) k59 (b1 v x), a2, fun y e => by rw [← Sum.inl.inj e]; exact b1 v x, fun y e => absurd e (by simp)⟩
        | inr v =>
          obtain ⟨d2, c1, c2, c3⟩ := c_flags hS hT f (n + 1) d1 (i + 2) _ (by omega) (by omega) (b2 v x) hj
          exact ⟨d2, by rw [sk_itr_step (body (by omega) k59)]; exact c1, a2.trans c2, c3⟩
theorem c_addDoing (hS : Sh S) {L : LF} (hc : cL d 22 L) (hn : lf_n L < 8) : ∃ d', fX2_addDoing S d 22 = some d' ∧ cL d' 22 (addD L 1) ∧ Fr (fun b => 22 ≤ b ∧ b ≤ 36) d d' ∧ d'.1 22 3 = d.1 22 3 := by
  obtain ⟨h0, h1, h2, h4, hv, hdo, hw0, hw1⟩ := hc
  have n8 : ¬ (8 : Int32) ≤ nI (lf_n L) := nI_ge (b := 8) hn (by omega)
  unfold fX2_addDoing
  rw [gi22 hS, Option.bind_some, h1, if_neg n8]
  simp (disch := omega) only [gi22 hS, gr22_5 hS, gr22_6 hS, gr22_7 hS, gr22_8 hS, gr22_9 hS, gr22_10 hS, gr22_11 hS, Option.bind_some, h1, uI_a, si23 hS, si24 hS, si25 hS, si26 hS, si27 hS, si28 hS, si29 hS, pi22 hS, hn, nI_1]
  refine ⟨_, rfl, ⟨?_, ?_, ?_, ?_, fun t j ht hj => ?_, fun j hj => ?_, ?_, ?_⟩, ?_, ?_⟩
  · rw [uI_k _ _ _ _ _ (by omega)]; simp (disch := omega) only [uI_a]; exact h0
  · rw [uI_s]; rfl
  · rw [uI_k _ _ _ _ _ (by omega)]; simp (disch := omega) only [uI_a]; exact h2
  · rw [uI_k _ _ _ _ _ (by omega)]; simp (disch := omega) only [uI_a]; exact h4
  · have hj' : j < lf_n L + 1 := hj
    show _ = (if j = lf_n L ∧ t < 7 then (if t = 0 then (1 : Int32) else if t = 2 then 5 else if t = 4 then 1 else 0) else L.2.1 t j)
    have ht7 : t = 0 ∨ t = 1 ∨ t = 2 ∨ t = 3 ∨ t = 4 ∨ t = 5 ∨ t = 6 := by omega
    by_cases e : j = lf_n L
    · rw [if_pos ⟨e, ht⟩, e]
      rcases ht7 with rfl | rfl | rfl | rfl | rfl | rfl | rfl <;> (simp (disch := omega) only [uI_a]; rw [uI_s]; rfl)
    · rw [if_neg (fun a => e a.1)]
      have o := hv t j ht (by omega)
      rcases ht7 with rfl | rfl | rfl | rfl | rfl | rfl | rfl <;> (simp (disch := omega) only [uI_a]; rw [uI_k _ _ _ _ _ e]; (try simp (disch := omega) only [uI_a]); exact o)
  · show _ = (if j = lf_n L ∧ 7 < 7 then _ else L.2.1 7 j)
    rw [if_neg (fun a => by omega)]
    simp (disch := omega) only [uI_a]
    exact hdo j hj
  · unfold cW; simp (disch := omega) only [uI_a]; exact hw0
  · unfold cW; simp (disch := omega) only [uI_a]; exact hw1
  · intro b hb
    refine ⟨?_, rfl⟩
    simp (disch := omega) only [uI_a]
  · rw [uI_k _ _ _ _ _ (by omega)]; simp (disch := omega) only [uI_a]
theorem addD_eq (L : LF) (u : Int32) : sV (addD L 1) 0 (lf_n L) u = addD L u := by
  unfold sV addD
  congr 1
  congr 1
  funext t j
  by_cases a : t = 0 ∧ j = lf_n L
  · rw [if_pos a, if_pos ⟨a.2, by omega⟩, if_pos a.1]
  · rw [if_neg a]
    dsimp only
    by_cases b : j = lf_n L ∧ t < 7
    · rw [if_pos b, if_pos b, if_neg (fun c => a ⟨c, b.1⟩), if_neg (fun c => a ⟨c, b.1⟩)]
    · rw [if_neg b, if_neg b]
theorem c_doingLine (hS : Sh S) (hT : okT2 T z) (h : CG T z d i D) (k2 : T.1 i = 2) : LC T z (fun d => fX5_doingLine S d 21) d (wSl (gDoing T i D.1) D.2) := by
  have hz := h.1.2.2.2
  have hiz := tk_lt hT hz.1 (by rw [k2]; decide)
  have hn := h.2.2.2.1
  unfold LC fX5_doingLine gDoing wSl
  dsimp only
  rw [gr21_0 hS, Option.bind_some, gi22 hS, Option.bind_some, h.2.1.2.1]
  by_cases q : 8 ≤ lf_n D.1
  · obtain ⟨d1, a1, a2, a3⟩ := h.fail hS (y := 4) (by decide)
    rw [if_pos q, if_neg (show ¬ nI (lf_n D.1) < (8 : Int32) by rw [show lf_n D.1 = 8 by omega]; decide), if_pos (kd21 hS), a1]
    exact ⟨d1, rfl, f21_r a3, fun x e => by rw [← Sum.inl.inj e]; exact a2, fun y e => absurd e (by simp)⟩
  · obtain ⟨d1, a1, a2, a3⟩ := h.next hS hiz
    obtain ⟨d2, b1, b2, b3, b4⟩ := a2.exp hS hT (k := 3) (by decide)
    have c2 : cL d2 22 D.1 := (a2.2.1.u21 b2).1
    obtain ⟨d3, e1, e2, e3, e4⟩ := c_addDoing hS c2 (by omega)
    rw [if_neg q, if_pos (show nI (lf_n D.1) < (8 : Int32) from (nI_ltI (b := 8) (by omega) (by omega)).mpr (by omega)), if_pos (kd21 hS), a1, Option.bind_some, if_pos (kd21 hS), b1, Option.bind_some, Option.bind_some, gi22 hS, Option.bind_some, c2.2.1, Option.bind_some, if_pos (kd22 hS), e1, Option.bind_some, Option.bind_some, gr22_5 hS, Option.bind_some, if_pos (kd21 hS)]
    have fr3 := ((f21_r a3).trans (f21_r b2)).trans (in_r e3)
    by_cases k3 : T.1 (i + 1) = 3
    · have G2 := b3 k3
      have G3 : CG T z d3 (i + 1 + 1) (addD D.1 1, D.2) := ⟨G2.1.r e3, e2, by rw [e4]; exact G2.2.2.1, by show lf_n D.1 + 1 ≤ 8; omega, G2.2.2.2.2.1, G2.2.2.2.2.2⟩
      obtain ⟨v, d4, n1, n2, n3, n4⟩ := G3.num hS hT 1 9
      rw [if_pos k3, n1, Option.bind_some, si23 hS _ _ (show lf_n D.1 < 8 by omega), Option.bind_some]
      have fr5 := (fr3.trans (f21_r n2)).trans (in_r (sv_r (t := 0) (j := lf_n D.1) (by omega) v))
      cases x : tnu T 1 9 (i + 2) with
      | inl u =>
        have F := (n3 u x).1.r (sv_r (t := 0) (j := lf_n D.1) (by omega) v)
        refine ⟨_, ?_, fr5, fun y e => by rw [← Sum.inl.inj e]; exact F, fun y e => absurd e (by simp)⟩
        rw [show (0 : Int32) = nI 0 from rfl, sk_itr_exit (c_flagsF hS F _ _)]
        rfl
      | inr u =>
        obtain ⟨ev, G4⟩ := n4 u x
        have G5 := G4.v (t := 0) (j := lf_n D.1) (by omega) v
        rw [ev] at G5
        dsimp only at G5
        rw [addD_eq] at G5
        obtain ⟨d6, r1, r2, r3, r4⟩ := c_flags hS hT (j := lf_n D.1) 901 0 _ (i + 1 + 1 + 1) _ (by omega) (by omega) G5 (by show lf_n D.1 < lf_n D.1 + 1; omega)
        rw [ev] at fr5 ⊢
        refine ⟨d6, ?_, fr5.trans r2, fun y e => ?_, fun y e => ?_⟩
        · rw [show (0 : Int32) = nI 0 from rfl]
          show (sk_itr (fX5_doingLine_L60 S 21 (nI (lf_n D.1))) (nI 0, sk_uI d4 (22 + 1 + 0) (lf_n D.1) u)).bind _ = _
          rw [r1]
          rfl
        · dsimp only at e r3
          cases g : gFlags T (lf_n D.1) 901 (i + 3) (addD D.1 u) with
          | inl v => rw [g] at e; rw [← Sum.inl.inj e]; exact r3 v g
          | inr v => rw [g] at e; exact absurd e (by simp)
        · dsimp only at e r4
          cases g : gFlags T (lf_n D.1) 901 (i + 3) (addD D.1 u) with
          | inl v => rw [g] at e; exact absurd e (by simp)
          | inr v => rw [g] at e; rw [← Sum.inr.inj e]; exact r4 v g
    · have F := (b4 k3).r e3
      rw [if_neg k3, c_numF hS F, Option.bind_some, si23 hS _ _ (show lf_n D.1 < 8 by omega), Option.bind_some]
      have F5 := F.r (sv_r (t := 0) (j := lf_n D.1) (by omega) 1)
      refine ⟨sk_uI d3 (22 + 1 + 0) (lf_n D.1) 1, ?_, fr3.trans (in_r (sv_r (t := 0) (j := lf_n D.1) (by omega) 1)), fun y e => by rw [← Sum.inl.inj e]; exact F5, fun y e => absurd e (by simp)⟩
      rw [show (0 : Int32) = nI 0 from rfl]
      show (sk_itr (fX5_doingLine_L60 S 21 (nI (lf_n D.1))) (nI 0, sk_uI d3 (22 + 1 + 0) (lf_n D.1) 1)).bind _ = _
      rw [sk_itr_exit (c_flagsF hS F5 _ _)]
      rfl
end
