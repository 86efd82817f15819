/-! the class reads lines, 3 -/
section
variable {S : sk_S} {d : sk_D} {T : TKS} {z i : Nat} {D : DFT}
theorem c_addDoor (hS : Sh S) {L : LF} (hc : cL d 22 L) (hn : lf_k L < 8) (u : Int32) : ∃ d', fX2_addDoor S d 22 u = some d' ∧ cL d' 22 (addK L u) ∧ Fr (fun b => 22 ≤ b ∧ b ≤ 36) d d' ∧ d'.1 22 3 = d.1 22 3 := by
  obtain ⟨h0, h1, h2, h4, hv, hdo, hw0, hw1⟩ := hc
  have n8 : ¬ (8 : Int32) ≤ nI (lf_k L) := nI_ge (b := 8) hn (by omega)
  unfold fX2_addDoor
  rw [gi22 hS, Option.bind_some, h2, if_neg n8]
  simp (disch := omega) only [gi22 hS, gr22_12 hS, Option.bind_some, h2, uI_a, si30 hS, pi22 hS, hn, nI_1]
  refine ⟨_, rfl, ⟨?_, ?_, ?_, ?_, fun t j ht hj => ?_, fun j hj => ?_, ?_, ?_⟩, ?_, ?_⟩
  · rw [uI_k _ _ _ _ _ (by omega)]; simp (disch := omega) only [uI_a]; exact h0
  · rw [uI_k _ _ _ _ _ (by omega)]; simp (disch := omega) only [uI_a]; exact h1
  · rw [uI_s]; rfl
  · rw [uI_k _ _ _ _ _ (by omega)]; simp (disch := omega) only [uI_a]; exact h4
  · show _ = (if t = 7 ∧ j = lf_k L then u else L.2.1 t j)
    rw [if_neg (fun a => by omega), uI_a _ _ _ _ _ (by omega), uI_a _ _ _ _ _ (by omega)]
    exact hv t j ht hj
  · have hj' : j < lf_k L + 1 := hj
    show _ = (if 7 = 7 ∧ j = lf_k L then u else L.2.1 7 j)
    by_cases e : j = lf_k L
    · rw [if_pos ⟨rfl, e⟩, e]; simp (disch := omega) only [uI_a]; rw [uI_s]
    · rw [if_neg (fun a => e a.2)]; simp (disch := omega) only [uI_a]; rw [uI_k _ _ _ _ _ e]; exact hdo j (by omega)
  · unfold cW; simp (disch := omega) only [uI_a]; exact hw0
  · unfold cW; simp (disch := omega) only [uI_a]; exact hw1
  · intro b hb
    refine ⟨?_, rfl⟩
    simp (disch := omega) only [uI_a]
  · rw [uI_k _ _ _ _ _ (by omega)]; simp (disch := omega) only [uI_a]
theorem c_doorLine (hS : Sh S) (hT : okT2 T z) (h : CG T z d i D) (k12 : T.1 i = 12) : LC T z (fun d => fX5_doorLine S d 21) d (wSl (gDoor T i D.1) D.2) := by
  have hz := h.1.2.2.2
  have hiz := tk_lt hT hz.1 (by rw [k12]; decide)
  have hk := h.2.2.2.2.1
  unfold LC fX5_doorLine gDoor wSl
  dsimp only
  rw [gr21_0 hS, Option.bind_some, gi22 hS, Option.bind_some, h.2.1.2.2.1]
  by_cases q : 8 ≤ lf_k D.1
  · obtain ⟨d1, a1, a2, a3⟩ := h.fail hS (y := 4) (by decide)
    rw [if_pos q, if_neg (show ¬ nI (lf_k D.1) < (8 : Int32) by rw [show lf_k D.1 = 8 by omega]; decide), if_pos (kd21 hS), a1]
    exact ⟨d1, rfl, f21_r a3, fun x e => by rw [← Sum.inl.inj e]; exact a2, fun y e => absurd e (by simp)⟩
  · obtain ⟨d1, a1, a2, a3⟩ := h.next hS hiz
    obtain ⟨v, d2, n1, n2, n3, n4⟩ := a2.num hS hT 0 9
    have c2 : cL d2 22 D.1 := (a2.2.1.u21 n2).1
    obtain ⟨d3, e1, e2, e3, e4⟩ := c_addDoor hS c2 (by omega) v
    rw [if_neg q, if_pos (show nI (lf_k D.1) < (8 : Int32) from (nI_ltI (b := 8) (by omega) (by omega)).mpr (by omega)), if_pos (kd21 hS), a1, Option.bind_some, Option.bind_some, if_pos (kd21 hS), n1, Option.bind_some, if_pos (kd22 hS), e1]
    have fr3 := ((f21_r a3).trans (f21_r n2)).trans (in_r e3)
    cases x : tnu T 0 9 (i + 1) with
    | inl u =>
      exact ⟨d3, rfl, fr3, fun y e => by rw [← Sum.inl.inj e]; exact (n3 u x).1.r e3, fun y e => absurd e (by simp)⟩
    | inr u =>
      obtain ⟨ev, G⟩ := n4 u x
      refine ⟨d3, rfl, fr3, fun y e => absurd e (by simp), fun y e => ?_⟩
      rw [← Sum.inr.inj e]
      rw [ev] at e2
      exact Or.inl ⟨G.1.r e3, e2, by rw [e4]; exact G.2.2.1, G.2.2.2.1, by show lf_k D.1 + 1 ≤ 8; omega, G.2.2.2.2.2⟩
theorem c_has22g (hS : Sh S) {L : LF} (hc : cL d 22 L) (hn : lf_n L ≤ 8) (p : Int32) : (inN (lf_n L) p → fX2_has S d 22 p = some true) ∧ (¬ inN (lf_n L) p → fX2_has S d 22 p = some false) := by
  unfold fX2_has
  constructor
  · intro h
    obtain ⟨j, hj, rfl⟩ := inN_of h
    rw [if_neg (nI_pos (by omega)), gi22 hS, Option.bind_some, hc.2.1, if_neg (nI_ge hj (by omega)), if_neg (show ¬ (8 : Int32) ≤ nI j from nI_ge (b := 8) (by omega) (by omega))]
  · intro h
    by_cases q : p < 0
    · rw [if_pos q]
    · rw [if_neg q, gi22 hS, Option.bind_some, hc.2.1, if_pos]
      unfold inN at h
      rw [Int32.lt_iff_toInt_lt] at q
      have : (0 : Int32).toInt = 0 := rfl
      rw [Int32.le_iff_toInt_le, nI_toInt (by omega)]
      omega
theorem c_addClash (hS : Sh S) {L : LF} (hc : cL d 22 L) (hn : lf_n L ≤ 8) (p q : Int32) : ∃ d', fX2_addClash S d 22 p q = some d' ∧ Fr (fun b => 22 ≤ b ∧ b ≤ 36) d d' ∧ d'.1 22 3 = d.1 22 3 ∧ ∀ a b, a < lf_n L → b < lf_n L → p = nI a → q = nI b → cL d' 22 (clsh L a b) := by
  have hp := c_has22g hS hc hn p
  have hq := c_has22g hS hc hn q
  unfold fX2_addClash
  rw [if_pos (kd22 hS)]
  by_cases ip : inN (lf_n L) p
  · rw [hp.1 ip, Option.bind_some, if_pos rfl, if_pos (kd22 hS)]
    by_cases iq : inN (lf_n L) q
    · obtain ⟨a, ha, rfl⟩ := inN_of ip
      obtain ⟨b, hb, rfl⟩ := inN_of iq
      have ca : d.1 29 a = lf_v L 6 a := hc.2.2.2.2.1 6 a (by omega) ha
      have c1 : cL (sk_uI d (22 + 1 + 6) a (lf_v L 6 a ||| b1 b)) 22 (sV L 6 a (lf_v L 6 a ||| b1 b)) := hc.v (by omega) _
      have cb : (sk_uI d (22 + 1 + 6) a (lf_v L 6 a ||| b1 b)).1 29 b = lf_v (sV L 6 a (lf_v L 6 a ||| b1 b)) 6 b := c1.2.2.2.2.1 6 b (by omega) hb
      have c2 := c1.v (t := 6) (j := b) (by omega) (lf_v (sV L 6 a (lf_v L 6 a ||| b1 b)) 6 b ||| b1 a)
      rw [hq.1 iq, Option.bind_some, if_pos rfl, gr22_11 hS, Option.bind_some, li29 hS _ (show a < 8 by omega), Option.bind_some, ca, si29 hS _ _ (show a < 8 by omega), Option.bind_some, Option.bind_some, li29 hS _ (show b < 8 by omega), Option.bind_some]
      show ∃ d', ((sk_sI S (sk_uI d (22 + 1 + 6) a (lf_v L 6 a ||| b1 b)) 29 20 (nI b) ((sk_uI d (22 + 1 + 6) a (lf_v L 6 a ||| b1 b)).1 29 b ||| b1 a)).bind fun d21 => some d21) = some d' ∧ _
      rw [cb, si29 hS _ _ (show b < 8 by omega)]
      refine ⟨_, rfl, (sv_r (t := 6) (by omega) _).trans (sv_r (t := 6) (by omega) _), ?_, fun a' b' h1 h2 e1 e2 => ?_⟩
      · rw [uI_a _ _ _ 22 _ (by omega), uI_a _ _ _ 22 _ (by omega)]
      · rw [nI_eq (by omega) (by omega)] at e1 e2
        subst e1
        subst e2
        exact c2
    · rw [hq.2 iq, Option.bind_some, if_neg (by decide)]
      exact ⟨d, rfl, Fr.refl _ _, rfl, fun a b _ h2 _ e => absurd (by rw [e]; exact inN_nI h2 (by omega)) iq⟩
  · rw [hp.2 ip, Option.bind_some, if_neg (by decide)]
    exact ⟨d, rfl, Fr.refl _ _, rfl, fun a b h1 _ e _ => absurd (by rw [e]; exact inN_nI h1 (by omega)) ip⟩
theorem tnu_n {T : TKS} {z i n : Nat} (hT : okT2 T z) (hi : i ≤ z) (hn : n ≤ 8) {u : Int32} (h : tnu T 0 (nI n - 1) i = .inr u) : ∃ a, a < n ∧ u = nI a := by
  obtain ⟨a1, a2, a3, a4, a5⟩ := tnu_lt hT hi h
  obtain ⟨v, hv, ev⟩ := hT.2.2.2 i hi a2
  have eu : u = nI v := by rw [← a3]; exact ev
  refine ⟨v, ?_, eu⟩
  rw [eu] at a5
  cases n with
  | zero => exact absurd a5 (fun c => by
      rw [Int32.le_iff_toInt_le, nI_toInt (by omega), show (nI 0 - 1).toInt = -1 from rfl] at c
      omega)
  | succ n => rw [nI_pred, nI_leI (by omega) (by omega)] at a5; omega
theorem c_clashJ (hS : Sh S) {L : LF} (hc : cL d 22 L) (hn : lf_n L ≤ 8) {f : FLT} (h : Fdx d f) (v : Int32) : ∃ d', fX5_clashPair_J43 S 21 v d = some d' ∧ Fr rdr d d' ∧ Fdx d' f := by
  obtain ⟨d1, a1, a2, -, -⟩ := c_addClash hS hc hn v 0
  unfold fX5_clashPair_J43
  rw [gr21_0 hS, Option.bind_some, Option.bind_some, gi22 hS, Option.bind_some, if_pos (kd21 hS), c_numF hS h, Option.bind_some, if_pos (kd22 hS), a1]
  exact ⟨d1, rfl, in_r a2, h.r a2⟩
theorem c_clashPair (hS : Sh S) (hT : okT2 T z) (h : CG T z d (i + 1) D) : LC T z (fun d => fX5_clashPair S d 21) d (wSl (gClash T i D.1) D.2) := by
  have hz := h.1.2.2.2
  have hn := h.2.2.2.1
  obtain ⟨v, d2, n1, n2, n3, n4⟩ := h.num hS hT 0 (nI (lf_n D.1) - 1)
  have c2 : cL d2 22 D.1 := (h.2.1.u21 n2).1
  unfold LC fX5_clashPair gClash wSl
  dsimp only
  rw [gr21_0 hS, Option.bind_some, gi22 hS, Option.bind_some, h.2.1.2.1, if_pos (kd21 hS), n1, Option.bind_some, if_pos (kd21 hS)]
  cases x : tnu T 0 (nI (lf_n D.1) - 1) (i + 1) with
  | inl u =>
    have F := (n3 u x).1
    obtain ⟨d3, a1, a2, a3⟩ := c_clashJ hS c2 hn F v
    rw [c_kindF hS F, Option.bind_some, if_neg (by decide), a1]
    exact ⟨d3, rfl, (f21_r n2).trans a2, fun y e => by rw [← Sum.inl.inj e]; exact a3, fun y e => absurd e (by simp)⟩
  | inr u =>
    obtain ⟨ev, G⟩ := n4 u x
    obtain ⟨a, ha, ea⟩ := tnu_n hT hz.1 hn x
    have hz2 := G.1.2.2.2
    have j43 : ¬ (T.1 (i + 2) = 200 ∧ T.2.2 (i + 2) = u) → ∃ d', fX5_clashPair_J43 S 21 v d2 = some d' ∧ Fr rdr d d' ∧ (∀ y, (match (match tnu T 0 (nI (lf_n D.1) - 1) (i + 2) with | .inl x => .inl x | .inr v => .inr (i + 3, clsh D.1 u.toNatClampNeg v.toNatClampNeg) : FLT ⊕ (Nat × LF)) with | .inl x => .inl x | .inr y => .inr (y.1, (y.2, D.2)) : LR) = .inl y → Fdx d' y) ∧ ∀ y, (match (match tnu T 0 (nI (lf_n D.1) - 1) (i + 2) with | .inl x => .inl x | .inr v => .inr (i + 3, clsh D.1 u.toNatClampNeg v.toNatClampNeg) : FLT ⊕ (Nat × LF)) with | .inl x => .inl x | .inr y => .inr (y.1, (y.2, D.2)) : LR) = .inr y → WG T z d' y.1 y.2 := by
      intro _
      obtain ⟨v2, d4, m1, m2, m3, m4⟩ := G.num hS hT 0 (nI (lf_n D.1) - 1)
      have c4 : cL d4 22 D.1 := (c2.u21 m2).1
      obtain ⟨d5, e1, e2, e3, e4⟩ := c_addClash hS c4 hn v v2
      have fr := ((f21_r n2).trans (f21_r m2)).trans (in_r e2)
      unfold fX5_clashPair_J43
      rw [gr21_0 hS, Option.bind_some, Option.bind_some, gi22 hS, Option.bind_some, c2.2.1, if_pos (kd21 hS), m1, Option.bind_some, if_pos (kd22 hS), e1]
      cases x2 : tnu T 0 (nI (lf_n D.1) - 1) (i + 2) with
      | inl u2 => exact ⟨d5, rfl, fr, fun y e => by rw [← Sum.inl.inj e]; exact (m3 u2 x2).1.r e2, fun y e => absurd e (by simp)⟩
      | inr u2 =>
        obtain ⟨ev2, G4⟩ := m4 u2 x2
        obtain ⟨b, hb, eb⟩ := tnu_n hT hz2.1 hn x2
        have cc := e4 a b ha hb (by rw [ev]; exact ea) (by rw [ev2]; exact eb)
        refine ⟨d5, rfl, fr, fun y e => absurd e (by simp), fun y e => ?_⟩
        rw [← Sum.inr.inj e, ea, eb, nI_clamp (by omega), nI_clamp (by omega)]
        exact Or.inl ⟨G4.1.r e2, cc, by rw [e3]; exact G4.2.2.1, G4.2.2.2⟩
    rw [c_kindG hS G.1, Option.bind_some]
    dsimp only
    by_cases k200 : T.1 (i + 2) = 200
    · rw [if_pos (show T.1 (i + 1 + 1) = 200 from k200), gr21_5 hS, Option.bind_some, gi21 hS, Option.bind_some, G.1.2.2.1, li39 hS _ (show i + 1 + 1 < 901 by omega), Option.bind_some, (G.1.1.2 (i + 1 + 1) hz2.1).2.2, ev]
      by_cases eu : T.2.2 (i + 2) = u
      · obtain ⟨d3, a1, a2, a3⟩ := G.fail hS (y := 3) (by decide)
        have c3 : cL d3 22 D.1 := (c2.u21 a3).1
        obtain ⟨d4, f1, f2, f3⟩ := c_clashJ hS c3 hn a2 u
        rw [if_pos (show T.2.2 (i + 1 + 1) = u from eu), if_pos (kd21 hS), a1, Option.bind_some, f1, if_pos (show T.1 (i + 2) = 200 ∧ T.2.2 (i + 2) = u from ⟨k200, eu⟩)]
        exact ⟨d4, rfl, ((f21_r n2).trans (f21_r a3)).trans f2, fun y e => by rw [← Sum.inl.inj e]; exact f3, fun y e => absurd e (by simp)⟩
      · rw [if_neg (show ¬ T.2.2 (i + 1 + 1) = u from eu), if_neg (fun a => eu a.2), ← ev]
        rw [ev]
        have := j43 (fun a => eu a.2)
        rw [ev] at this
        exact this
    · rw [if_neg (show ¬ T.1 (i + 1 + 1) = 200 from k200), if_neg (fun a => k200 a.1)]
      exact j43 (fun a => k200 a.1)
end
