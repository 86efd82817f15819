/-! the class reads all lines -/
theorem flags_ge (T : TKS) (j : Nat) : ∀ f i L y, gFlags T j f i L = .inr y → i ≤ y.1
  | 0, i, L, y, e => by obtain rfl := Sum.inr.inj e; exact Nat.le_refl _
  | f + 1, i, L, y, e => by
    unfold gFlags at e
    split at e
    · cases g : tnu T 0 (nI j - 1) (i + 1) with
      | inl u => rw [g] at e; exact absurd e (by simp)
      | inr u => rw [g] at e; have := flags_ge T j f _ _ y e; omega
    · split at e
      · obtain rfl := Sum.inr.inj e; exact Nat.le_refl _
      · cases g : tnu T 0 (fhi (T.1 i)) (i + 1) with
        | inl u => rw [g] at e; exact absurd e (by simp)
        | inr u => rw [g] at e; have := flags_ge T j f _ _ y e; omega
theorem wSl_inr {r : FLT ⊕ (Nat × LF)} {s : Int32} {y : Nat × DFT} (h : wSl r s = .inr y) : ∃ v, r = .inr v ∧ y = (v.1, (v.2, s)) := by
  cases r with
  | inl x => exact absurd h (by simp [wSl])
  | inr v => exact ⟨v, rfl, (Sum.inr.inj h).symm⟩
theorem line_ge {T : TKS} {z : Nat} (hT : okT2 T z) {i : Nat} (hi : i ≤ z) {D : DFT} {y : Nat × DFT} (e : gLine T i D = .inr y) : i ≤ y.1 := by
  unfold gLine at e
  by_cases k2 : T.1 i = 2
  · rw [if_pos k2] at e
    obtain ⟨v, ev, rfl⟩ := wSl_inr e
    unfold gDoing at ev
    split at ev
    · exact absurd ev (by simp)
    · split at ev
      · cases g : tnu T 1 9 (i + 2) with
        | inl u => rw [g] at ev; exact absurd ev (by simp)
        | inr u => rw [g] at ev; have := flags_ge T _ _ _ _ v ev; show i ≤ v.1; omega
      · exact absurd ev (by simp)
  rw [if_neg k2] at e
  by_cases k12 : T.1 i = 12
  · rw [if_pos k12] at e
    obtain ⟨v, ev, rfl⟩ := wSl_inr e
    unfold gDoor at ev
    split at ev
    · exact absurd ev (by simp)
    · cases g : tnu T 0 9 (i + 1) with
      | inl u => rw [g] at ev; exact absurd ev (by simp)
      | inr u => rw [g] at ev; obtain rfl := Sum.inr.inj ev; show i ≤ i + 2; omega
  rw [if_neg k12] at e
  by_cases k13 : T.1 i = 13
  · rw [if_pos k13] at e
    obtain ⟨v, ev, rfl⟩ := wSl_inr e
    unfold gClash at ev
    cases g : tnu T 0 (nI (lf_n D.1) - 1) (i + 1) with
    | inl u => rw [g] at ev; exact absurd ev (by simp)
    | inr u =>
      rw [g] at ev
      dsimp only at ev
      split at ev
      · exact absurd ev (by simp)
      · cases g2 : tnu T 0 (nI (lf_n D.1) - 1) (i + 2) with
        | inl u => rw [g2] at ev; exact absurd ev (by simp)
        | inr u => rw [g2] at ev; obtain rfl := Sum.inr.inj ev; show i ≤ i + 3; omega
  rw [if_neg k13] at e
  by_cases k7 : T.1 i = 7
  · rw [if_pos k7] at e
    cases g : tnu T 0 9 (i + 1) with
    | inl u => rw [g] at e; exact absurd e (by simp)
    | inr u => rw [g] at e; obtain rfl := Sum.inr.inj e; show i ≤ i + 2; omega
  rw [if_neg k7] at e
  have law : ∀ t v, i < z → gLaw T t i D.1 = .inr v → i ≤ v.1 := by
    intro t v hz ev
    unfold gLaw at ev
    split at ev
    · next k58 =>
      have := tk_lt hT (show i + 1 ≤ z by omega) (by rw [k58]; decide)
      cases g : gTruth T (decide (t = 1)) 6 (i + 2) with
      | inl u => rw [g] at ev; exact absurd ev (by simp)
      | inr u =>
        rw [g] at ev
        obtain rfl := Sum.inr.inj ev
        have := (truth_len hT _ 6 (i + 2) (by omega) u g).2.1
        show i ≤ u.1
        omega
    · exact absurd ev (by simp)
  by_cases k14 : T.1 i = 14
  · rw [if_pos k14] at e
    obtain ⟨v, ev, rfl⟩ := wSl_inr e
    exact law 0 v (tk_lt hT hi (by rw [k14]; decide)) ev
  rw [if_neg k14] at e
  by_cases k15 : T.1 i = 15
  · rw [if_pos k15] at e
    obtain ⟨v, ev, rfl⟩ := wSl_inr e
    exact law 1 v (tk_lt hT hi (by rw [k15]; decide)) ev
  rw [if_neg k15] at e
  exact absurd e (by simp)
theorem end_gt {T : TKS} {z : Nat} (hT : okT2 T z) {i : Nat} (hi : i ≤ z) {D : DFT} {y : Nat × DFT} (e : gEnd T (gLine T i D) = .inr y) : i < y.1 := by
  unfold gEnd at e
  cases g : gLine T i D with
  | inl x => rw [g] at e; exact absurd e (by simp)
  | inr v =>
    have := line_ge hT hi g
    rw [g] at e
    dsimp only at e
    split at e
    · obtain rfl := Sum.inr.inj e; show i < v.1 + 1; omega
    · exact absurd e (by simp)
section
variable {S : sk_S} {T : TKS} {z : Nat}
theorem c_readF (hS : Sh S) {d : sk_D} {f : FLT} (h : Fdx d f) (n : Nat) : fX5_read_L39 S 21 (nI n, d) = some (.inr d) := by
  unfold fX5_read_L39
  dsimp only
  by_cases q : (900 : Int32) ≤ nI n
  · rw [if_pos q]
  · rw [if_neg q, gi21 hS, Option.bind_some, h.1, if_neg h.2.1]
theorem c_lines (hS : Sh S) (hT : okT2 T z) : ∀ f n d i (D : DFT), f + n = 901 → n ≤ i → CG T z d i D → ∃ d', sk_itr (fX5_read_L39 S 21) (nI n, d) = some d' ∧ Fr rdr d d' ∧ (∀ x, gLines T f i D = .inl x → Fdx d' x) ∧ ∀ y, gLines T f i D = .inr y → ∃ i', CG T z d' i' y
  | 0, n, d, i, D, hf, hn, h => by have := h.1.2.2.2; omega
  | f + 1, n, d, i, D, hf, hn, h => by
    have hz := h.1.2.2.2
    unfold gLines
    by_cases k : T.1 i = 202
    · rw [if_pos k]
      refine ⟨d, sk_itr_exit ?_, Fr.refl _ _, fun x e => absurd e (by simp), fun y e => ⟨i, by rw [← Sum.inr.inj e]; exact h⟩⟩
      unfold fX5_read_L39
      dsimp only
      by_cases q : (900 : Int32) ≤ nI n
      · rw [if_pos q]
      · rw [if_neg q, gi21 hS, Option.bind_some, h.1.2.1, if_pos rfl, if_pos (kd21 hS), c_kindG hS h.1, Option.bind_some, if_pos k]
    · have hiz := tk_lt hT hz.1 k
      obtain ⟨d1, a1, a2, a3, a4⟩ := c_line hS hT h
      have body : fX5_read_L39 S 21 (nI n, d) = some (.inl (nI (n + 1), d1)) := by
        unfold fX5_read_L39
        dsimp only
        rw [if_neg (show ¬ (900 : Int32) ≤ nI n from nI_ge (b := 900) (by omega) (by omega)), gi21 hS, Option.bind_some, h.1.2.1, if_pos rfl, if_pos (kd21 hS), c_kindG hS h.1, Option.bind_some, if_neg k, if_pos (kd21 hS), a1, Option.bind_some, nI_1]
      rw [if_neg k, sk_itr_step body]
      cases g : gEnd T (gLine T i D) with
      | inl v => exact ⟨d1, sk_itr_exit (c_readF hS (a3 v g) _), a2, fun x e => by rw [← Sum.inl.inj e]; exact a3 v g, fun y e => absurd e (by simp)⟩
      | inr v =>
        have := end_gt hT hz.1 g
        obtain ⟨d2, c1, c2, c3⟩ := c_lines hS hT f (n + 1) d1 v.1 v.2 (by omega) (by omega) (a4 v g)
        exact ⟨d2, c1, a2.trans c2, c3⟩
theorem c_lifeLine (hS : Sh S) (hT : okT2 T z) {d : sk_D} (h : CG T z d 0 dft0) : ∃ d', fX5_lifeLine S d 21 = some d' ∧ Fr rdr d d' ∧ (∀ x, gFirst T = .inl x → Fdx d' x) ∧ ∀ y, gFirst T = .inr y → CG T z d' y.1 y.2 := by
  have kd := kd21 hS
  have room : ∀ {e : sk_D} (v : Int32), Fr (fun b => 22 ≤ b ∧ b ≤ 36) e (sk_uI e 22 0 v) := fun v => Fr.uI _ (by omega)
  obtain ⟨d1, a1, a2, a3, a4⟩ := h.exp hS hT (k := 0) (by decide)
  unfold fX5_lifeLine gFirst
  rw [if_pos kd, a1, Option.bind_some, if_pos kd]
  have bad : ∀ {e : sk_D} {f : FLT}, Fr rdr d e → Fdx e f → ∃ d', ((sk_gR S 21 5 0).bind fun v9 => if S.2.1 21 = (5, 0) then ((fX5_number S e 21 (0 : Int32) (40 : Int32)).bind fun b15 => (sk_pI S b15.2 v9 2 0 b15.1).bind fun d16 => if S.2.1 21 = (5, 0) then ((fX5_endLine S d16 21).bind fun d20 => some d20) else none) else none) = some d' ∧ Fr rdr d d' ∧ Fdx d' f := by
    intro e f fr F
    obtain ⟨d2, b1, b2, b3⟩ := c_endLineF hS (F.r (room 0))
    rw [gr21_0 hS, Option.bind_some, if_pos kd, c_numF hS F, Option.bind_some, pi22 hS, Option.bind_some, if_pos kd, b1]
    exact ⟨d2, rfl, (fr.trans (in_r (room 0))).trans b2, b3⟩
  by_cases k0 : T.1 0 = 0
  · have G1 := a3 k0
    obtain ⟨d2, b1, b2, b3, b4⟩ := G1.exp hS hT (k := 1) (by decide)
    have fr2 : Fr rdr d d2 := (f21_r a2).trans (f21_r b2)
    rw [if_pos k0, b1, Option.bind_some]
    by_cases k1 : T.1 1 = 1
    · have G2 := b3 k1
      obtain ⟨v, d3, n1, n2, n3, n4⟩ := G2.num hS hT 0 40
      have fr3 := fr2.trans (f21_r n2)
      rw [if_pos k1, gr21_0 hS, Option.bind_some, if_pos kd, n1, Option.bind_some, pi22 hS, Option.bind_some, if_pos kd]
      cases g : tnu T 0 40 2 with
      | inl u =>
        obtain ⟨d4, c1, c2, c3⟩ := c_endLineF hS ((n3 u g).1.r (room v))
        rw [c1]
        exact ⟨d4, rfl, (fr3.trans (in_r (room v))).trans c2, fun x e => by rw [← Sum.inl.inj e]; exact c3, fun y e => absurd e (by simp)⟩
      | inr u =>
        obtain ⟨ev, G3⟩ := n4 u g
        have G4 : CG T z (sk_uI d3 22 0 v) 3 (((0, 0, u, 0), (fun _ _ => 0), fun _ => []), 0) := by
          obtain ⟨g1, ⟨h0, h1, h2, h4, hv, hdo, hw0, hw1⟩, s, o⟩ := G3
          refine ⟨g1.r (room v), ⟨by rw [uI_s]; exact ev, by rw [uI_k _ _ _ _ _ (by omega)]; exact h1, by rw [uI_k _ _ _ _ _ (by omega)]; exact h2, by rw [uI_k _ _ _ _ _ (by omega)]; exact h4, fun t j ht hj => absurd hj (Nat.not_lt_zero _), fun j hj => absurd hj (Nat.not_lt_zero _), ?_, ?_⟩, by rw [uI_k _ _ _ _ _ (by omega)]; exact s, o⟩
          · unfold cW; rw [uI_a _ _ _ _ _ (by omega), uI_a _ _ _ _ _ (by omega)]; exact hw0
          · unfold cW; rw [uI_a _ _ _ _ _ (by omega), uI_a _ _ _ _ _ (by omega)]; exact hw1
        obtain ⟨d5, c1, c2, c3, c4⟩ := c_endLine hS hT (y := (3, (((0, 0, u, 0), (fun _ _ => 0), fun _ => []), 0))) (Or.inl G4)
        rw [c1]
        exact ⟨d5, rfl, (fr3.trans (in_r (room v))).trans c2, c3, c4⟩
    · obtain ⟨d4, c1, c2, c3⟩ := bad fr2 (b4 k1)
      rw [if_neg k1, c1]
      exact ⟨d4, rfl, c2, fun x e => by rw [← Sum.inl.inj e]; exact c3, fun y e => absurd e (by simp)⟩
  · have F := a4 k0
    obtain ⟨d4, c1, c2, c3⟩ := bad (f21_r a2) F
    rw [if_neg k0, c_expF hS F (by decide), Option.bind_some, c1]
    exact ⟨d4, rfl, c2, fun x e => by rw [← Sum.inl.inj e]; exact c3, fun y e => absurd e (by simp)⟩
theorem c_clear22 (hS : Sh S) (d : sk_D) : ∃ d', fX2_clear S d 22 = some d' ∧ Fr (fun b => 22 ≤ b ∧ b ≤ 36) d d' ∧ cL d' 22 dft0.1 ∧ d'.1 22 3 = 0 := by
  have p31 : ∀ (e : sk_D) (v : Int32), sk_pI S e 31 1 2 v = some (sk_uI e 31 2 v) := fun e v => if_pos (kd31 hS)
  have p34 : ∀ (e : sk_D) (v : Int32), sk_pI S e 34 1 2 v = some (sk_uI e 34 2 v) := fun e v => if_pos (kd34 hS)
  unfold fX2_clear fX1_clear
  rw [pi22 hS, Option.bind_some, pi22 hS, Option.bind_some, pi22 hS, Option.bind_some, pi22 hS, Option.bind_some, pi22 hS, Option.bind_some, gr22_13 hS, Option.bind_some, if_pos (kd31 hS), p31, Option.bind_some, Option.bind_some, gr22_14 hS, Option.bind_some, if_pos (kd34 hS), p34, Option.bind_some]
  have rd : ∀ k v, (sk_uI (sk_uI (sk_uI (sk_uI (sk_uI (sk_uI (sk_uI d 22 0 0) 22 1 0) 22 2 0) 22 3 0) 22 4 0) 31 2 0) 34 2 0).1 22 k = v ↔ (sk_uI (sk_uI (sk_uI (sk_uI (sk_uI d 22 0 0) 22 1 0) 22 2 0) 22 3 0) 22 4 0).1 22 k = v := fun k v => by rw [uI_a _ _ _ 22 _ (by omega), uI_a _ _ _ 22 _ (by omega)]
  refine ⟨_, rfl, ?_, ⟨?_, ?_, ?_, ?_, fun t j ht hj => absurd hj (Nat.not_lt_zero _), fun j hj => absurd hj (Nat.not_lt_zero _), ⟨?_, fun j hj => absurd hj (Nat.not_lt_zero _)⟩, ⟨?_, fun j hj => absurd hj (Nat.not_lt_zero _)⟩⟩, ?_⟩
  · intro b hb
    refine ⟨?_, rfl⟩
    simp (disch := omega) only [uI_a]
  · rw [rd, uI_k _ _ _ _ _ (by omega), uI_k _ _ _ _ _ (by omega), uI_k _ _ _ _ _ (by omega), uI_k _ _ _ _ _ (by omega), uI_s]; rfl
  · rw [rd, uI_k _ _ _ _ _ (by omega), uI_k _ _ _ _ _ (by omega), uI_k _ _ _ _ _ (by omega), uI_s]; rfl
  · rw [rd, uI_k _ _ _ _ _ (by omega), uI_k _ _ _ _ _ (by omega), uI_s]; rfl
  · rw [rd, uI_s]; rfl
  · rw [uI_a _ _ _ _ _ (by omega), uI_s]; rfl
  · rw [uI_s]; rfl
  · rw [rd, uI_k _ _ _ _ _ (by omega), uI_s]
theorem c_read {d d7 : sk_D} (hS : Sh S) (hT : okT2 T z) {n : Nat} (hn : n ≤ 900) (hs : fX5_scan S d 21 55 (nI n) = some d7) (hk : TOK T z d7) :
    ∃ d', fX5_read S d 21 55 (nI n) = some d' ∧ Fr rdr d7 d' ∧ (∀ x, gRead T = .inl x → Fdx d' x) ∧ ∀ D, gRead T = .inr D → d'.1 21 1 = 0 ∧ d'.1 21 2 = -1 ∧ cL d' 22 D.1 ∧ d'.1 22 3 = D.2 := by
  obtain ⟨d8, a1, a2, a3, a4⟩ := c_clear22 hS d7
  have mn : (if nI 900 < nI n then nI 900 else nI n) = nI n := if_neg (fun a => by rw [nI_ltI (by omega) (by omega)] at a; omega)
  have hz := hT.2.2.1
  have f9 : Fr f21 d8 (sk_uI (sk_uI (sk_uI d8 21 1 0) 21 2 (-1)) 21 7 0) := ((Fr.uI (P := f21) _ rfl).trans (Fr.uI (P := f21) _ rfl)).trans (Fr.uI (P := f21) _ rfl)
  have G : CG T z (sk_uI (sk_uI (sk_uI d8 21 1 0) 21 2 (-1)) 21 7 0) 0 dft0 := by
    obtain ⟨b1, b2⟩ := a3.u21 f9
    have t8 : TOK T z d8 := hk.fr (a2.mono (fun b hb => by omega))
    exact ⟨⟨((t8.u (by omega) _).u (by omega) _).u (by omega) _, by rw [uI_k _ _ _ _ _ (by omega), uI_k _ _ _ _ _ (by omega), uI_s], by rw [uI_s]; rfl, by omega, hz, by rw [uI_k _ _ _ _ _ (by omega), uI_s]⟩, b1, by rw [b2]; exact a4, by decide, by decide, by decide, by decide⟩
  obtain ⟨d10, b1, b2, b3, b4⟩ := c_lifeLine hS hT G
  have fr10 : Fr rdr d7 d10 := ((in_r a2).trans (f21_r f9)).trans b2
  unfold fX5_read gRead
  rw [al55 hS, Option.bind_some, if_pos (kd21 hS), mn, hs, Option.bind_some, gr21_0 hS, Option.bind_some, if_pos (kd22 hS), a1, Option.bind_some, pi21 hS, Option.bind_some, pi21 hS, Option.bind_some, pi21 hS, Option.bind_some, if_pos (kd21 hS), b1, Option.bind_some, show (0 : Int32) = nI 0 from rfl]
  cases g : gFirst T with
  | inl v =>
    rw [sk_itr_exit (c_readF hS (b3 v g) _)]
    exact ⟨d10, rfl, fr10, fun x e => by rw [← Sum.inl.inj e]; exact b3 v g, fun y e => absurd e (by simp)⟩
  | inr v =>
    obtain ⟨d11, c1, c2, c3, c4⟩ := c_lines hS hT 901 0 d10 v.1 v.2 (by omega) (by omega) (b4 v g)
    rw [c1]
    refine ⟨d11, rfl, fr10.trans c2, c3, fun D e => ?_⟩
    obtain ⟨i', G'⟩ := c4 D e
    exact ⟨G'.1.2.1, G'.1.2.2.2.2.2, G'.2.1, G'.2.2.1⟩
end
