/-! the reference reads lines, 2 -/
theorem flags_n (T : TKS) (j : Nat) : ∀ f i L y, gFlags T j f i L = .inr y → lf_n y.2 = lf_n L
  | 0, i, L, y, e => by obtain rfl := Sum.inr.inj e; rfl
  | f + 1, i, L, y, e => by
    unfold gFlags at e
    split at e
    · cases g : tnu T 0 (nI j - 1) (i + 1) with
      | inl u => rw [g] at e; exact absurd e (by simp)
      | inr u => rw [g] at e; exact flags_n T j f (i + 2) (sV L 5 j _) y e
    · split at e
      · obtain rfl := Sum.inr.inj e; rfl
      · cases g : tnu T 0 (fhi (T.1 i)) (i + 1) with
        | inl u => rw [g] at e; exact absurd e (by simp)
        | inr u => rw [g] at e; exact flags_n T j f (i + 2) (sV L (ftt (T.1 i)) j u) y e
section
variable {S : sk_S} {T : TKS} {z : Nat} {B : Nat → Nat} {n : Nat} {c : Nat → Int32}
theorem m_flagsF (hS : Sh S) {d : sk_D} {f : FLT} (h : MFd d f) (v : Int32) : fX11_readDoing_L79 S 94 v d = some (.inr d) := by
  unfold fX11_readDoing_L79
  rw [gi94 hS, Option.bind_some, h.1, if_neg h.2.1]
theorem m_flags (hS : Sh S) (hT : okT2 T z) (hN : NXT S T z B n c) {j nn : Nat} {W : List Int32} : ∀ f k d i (D : DFT), f + k = 901 → k ≤ i → MLx T z B n c d i nn D W → j < lf_n D.1 → ∃ d', sk_itr (fX11_readDoing_L79 S 94 (nI j)) d = some d' ∧ mrf d d' ∧ (∀ x, gFlags T j f i D.1 = .inl x → MFd d' x) ∧ ∀ y, gFlags T j f i D.1 = .inr y → MLx T z B n c d' y.1 nn (y.2, D.2) W
  | 0, k, d, i, D, hf, hk, h, hj => by have := h.1.2.2.2.2; omega
  | f + 1, k, d, i, D, hf, hk, h, hj => by
    have hz := h.1.2.2.2.2
    obtain ⟨b, d1, a1, a2, a3, a4, a5⟩ := m_flag hS hT hN h hj
    have body : fX11_readDoing_L79 S 94 (nI j) d = if b = true then some (.inl d1) else some (.inr d1) := by
      unfold fX11_readDoing_L79
      rw [gi94 hS, Option.bind_some, h.1.1, if_pos rfl, if_pos (kd94 hS), a1, Option.bind_some]
    unfold gFlags
    by_cases k11 : T.1 i = 11
    · have hiz := tk_lt hT hz.1 (by rw [k11]; decide)
      obtain ⟨b1, b2⟩ := a3 k11
      rw [if_pos k11]
      cases x : tnu T 0 (nI j - 1) (i + 1) with
      | inl v =>
        obtain ⟨e1, e2⟩ := b1 v x
        rw [e1, if_neg Bool.false_ne_true] at body
        exact ⟨d1, sk_itr_exit body, a2, fun y e => by rw [← Sum.inl.inj e]; exact e2, fun y e => absurd e (by simp)⟩
      | inr v =>
        obtain ⟨e1, e2⟩ := b2 v x
        rw [e1, if_pos rfl] at body
        obtain ⟨d2, c1, c2, c3⟩ := m_flags hS hT hN f (k + 1) d1 (i + 2) _ (by omega) (by omega) e2 hj
        exact ⟨d2, by rw [sk_itr_step body]; exact c1, a2.trans c2, c3⟩
    · rw [if_neg k11]
      by_cases k0 : ftt (T.1 i) = 0
      · obtain ⟨e1, e2⟩ := a5 k11 k0
        rw [e1, if_neg Bool.false_ne_true, e2] at body
        rw [if_pos k0]
        exact ⟨d, sk_itr_exit body, mrf.refl _, fun x e => absurd e (by simp), fun y e => by rw [← Sum.inr.inj e]; exact h⟩
      · have hiz := tk_lt hT hz.1 (fun e => k0 (by rw [e]; rfl))
        obtain ⟨b1, b2⟩ := a4 k11 k0
        rw [if_neg k0]
        cases x : tnu T 0 (fhi (T.1 i)) (i + 1) with
        | inl v =>
          obtain ⟨e1, e2⟩ := b1 v x
          rw [e1, if_neg Bool.false_ne_true] at body
          exact ⟨d1, sk_itr_exit body, a2, fun y e => by rw [← Sum.inl.inj e]; exact e2, fun y e => absurd e (by simp)⟩
        | inr v =>
          obtain ⟨e1, e2⟩ := b2 v x
          rw [e1, if_pos rfl] at body
          obtain ⟨d2, c1, c2, c3⟩ := m_flags hS hT hN f (k + 1) d1 (i + 2) _ (by omega) (by omega) e2 hj
          exact ⟨d2, by rw [sk_itr_step body]; exact c1, a2.trans c2, c3⟩
variable {d : sk_D} {i : Nat} {D : DFT} {W : List Int32}
def LM (T : TKS) (z : Nat) (B : Nat → Nat) (n : Nat) (c : Nat → Int32) (d : sk_D) (o : Option sk_D) (X : LR) : Prop := ∃ d', o = some d' ∧ mrf d d' ∧ (∀ x, X = .inl x → MFd d' x) ∧ ∀ y, X = .inr y → ∃ W', MLx T z B n c d' y.1 (lf_n y.2.1) y.2 W'
theorem m_doing2 (hS : Sh S) (hT : okT2 T z) (hN : NXT S T z B n c) (h : MLx T z B n c d i (lf_n D.1) D W) (k2 : T.1 i = 2) : LM T z B n c d (fX11_readDoing S d 94) (wSl (gDoing T i D.1) D.2) := by
  have hz := h.1.2.2.2.2
  have hiz := tk_lt hT hz.1 (by rw [k2]; decide)
  have hn := h.2.1.2.2.2.2.2.2.2.1
  have l1 : ∀ {e : sk_D}, sk_lI S e 98 20 1 = some (e.1 98 1) := fun {e} => li98 hS e (j := 1) (by omega)
  unfold LM fX11_readDoing gDoing wSl
  rw [gr94_4 hS, Option.bind_some, l1, Option.bind_some, h.2.1.1.2.1]
  by_cases q : 8 ≤ lf_n D.1
  · obtain ⟨d1, a1, a2, a3⟩ := m_failG hS h.1 (y := 4) (by decide)
    rw [if_pos q, if_pos (by rw [show lf_n D.1 = 8 by omega]; rfl), if_pos (kd94 hS), a1, Option.bind_some]
    unfold fX11_readDoing_J18
    rw [gi94 hS, Option.bind_some, a2.1, if_neg a2.2.1]
    exact ⟨d1, rfl, a3.1, fun x e => by rw [← Sum.inl.inj e]; exact a2, fun y e => absurd e (by simp)⟩
  · have n8 : lf_n D.1 < 8 := by omega
    obtain ⟨d1, a1, a2, a3⟩ := h.next hN hiz
    rw [if_neg q, if_neg (by rw [show (8 : Int32) = nI 8 from rfl, nI_eq (by omega) (by omega)]; omega)]
    unfold fX11_readDoing_J18
    rw [gi94 hS, Option.bind_some, h.1.1, if_pos rfl, if_pos (kd94 hS), a1, Option.bind_some, if_pos (kd94 hS)]
    have ea := a2.eats hS hT hN (a := 3) (r := 3) (by decide) (by decide)
    have setF : ∀ {e : sk_D} {f : FLT} (v : Int32), MFd e f → MFd (sk_uI (sk_uI (sk_uI e 98 (10 + lf_n D.1) v) 98 (26 + lf_n D.1) 5) 98 (42 + lf_n D.1) 1) f := fun v h => ((h.w _ _).w _ _).w _ _
    have st : ∀ (e : sk_D) (v : Int32), mrf e (sk_uI (sk_uI (sk_uI e 98 (10 + lf_n D.1) v) 98 (26 + lf_n D.1) 5) 98 (42 + lf_n D.1) 1) := fun e v => ((u98 _ _ _).trans (u98 _ _ _)).trans (u98 _ _ _)
    have j43F : ∀ {e : sk_D} {f : FLT}, MFd e f → ∃ d', fX11_readDoing_J43 S 94 (nI (lf_n D.1)) e = some d' ∧ mrf e d' ∧ MFd d' f := by
      intro e f F
      obtain ⟨v, hv⟩ := m_takesF hS F 1 9
      have F3 := setF v F
      unfold fX11_readDoing_J43
      rw [gr94_4 hS, Option.bind_some, if_pos (kd94 hS), hv, Option.bind_some, p10, si98 hS _ _ (show 10 + lf_n D.1 < 1075 by omega), Option.bind_some, Option.bind_some, p26, si98 hS _ _ (show 26 + lf_n D.1 < 1075 by omega), Option.bind_some, Option.bind_some, p42, si98 hS _ _ (show 42 + lf_n D.1 < 1075 by omega), Option.bind_some, sk_itr_exit (m_flagsF hS F3 _), Option.bind_some, gi94 hS, Option.bind_some, F3.1, if_neg F3.2.1]
      exact ⟨_, rfl, st e v, F3⟩
    by_cases k3 : T.1 (i + 1) = 3
    · obtain ⟨d2, b1, b2, b3⟩ := ea.1 k3
      obtain ⟨v, d3, t1, t2, t3, t4⟩ := b2.takes hS hT hN 1 9
      rw [b1, Option.bind_some, if_pos rfl, if_pos k3]
      dsimp only
      unfold fX11_readDoing_J43
      rw [gr94_4 hS, Option.bind_some, if_pos (kd94 hS), t1, Option.bind_some, p10, si98 hS _ _ (show 10 + lf_n D.1 < 1075 by omega), Option.bind_some, Option.bind_some, p26, si98 hS _ _ (show 26 + lf_n D.1 < 1075 by omega), Option.bind_some, Option.bind_some, p42, si98 hS _ _ (show 42 + lf_n D.1 < 1075 by omega), Option.bind_some]
      have fr := ((a3.trans b3).trans t2).trans (st d3 v)
      cases x : tnu T 1 9 (i + 2) with
      | inl u =>
        have F := setF v (t3 u x)
        rw [sk_itr_exit (m_flagsF hS F _), Option.bind_some, gi94 hS, Option.bind_some, F.1, if_neg F.2.1]
        exact ⟨_, rfl, fr, fun y e => by rw [← Sum.inl.inj e]; exact F, fun y e => absurd e (by simp)⟩
      | inr u =>
        obtain ⟨ev, G3⟩ := t4 u x
        rw [ev] at fr ⊢
        have m4 := G3.2.1.add n8 u
        have G4 : MLx T z B n c (sk_uI (sk_uI (sk_uI d3 98 (10 + lf_n D.1) u) 98 (26 + lf_n D.1) 5) 98 (42 + lf_n D.1) 1) (i + 1 + 1 + 1) (lf_n D.1) (addD D.1 u, D.2) W := by
          obtain ⟨g1, g2, g3, g4⟩ := G3
          refine ⟨((g1.eq (uI_a _ _ _ 94 _ (by omega)) (uI_a _ _ _ 97 _ (by omega))).eq (uI_a _ _ _ 94 _ (by omega)) (uI_a _ _ _ 97 _ (by omega))).eq (uI_a _ _ _ 94 _ (by omega)) (uI_a _ _ _ 97 _ (by omega)), m4, ⟨?_, fun k hk => ?_⟩, g4⟩
          · rw [uI_k _ _ _ _ _ (by omega), uI_k _ _ _ _ _ (by omega), uI_k _ _ _ _ _ (by omega)]; exact g3.1
          · rw [uI_k _ _ _ _ _ (by omega), uI_k _ _ _ _ _ (by omega), uI_k _ _ _ _ _ (by omega)]; exact g3.2 k hk
        obtain ⟨d5, r1, r2, r3, r4⟩ := m_flags hS hT hN (j := lf_n D.1) 901 0 _ (i + 1 + 1 + 1) _ (by omega) (by omega) G4 (by show lf_n D.1 < lf_n D.1 + 1; omega)
        rw [r1, Option.bind_some, gi94 hS, Option.bind_some]
        dsimp only at r3 r4 ⊢
        cases g : gFlags T (lf_n D.1) 901 (i + 3) (addD D.1 u) with
        | inl w =>
          have F := r3 w g
          rw [F.1, if_neg F.2.1]
          exact ⟨d5, rfl, fr.trans r2, fun y e => by rw [← Sum.inl.inj e]; exact F, fun y e => absurd e (by simp)⟩
        | inr w =>
          have G5 := r4 w g
          have en : lf_n w.2 = lf_n D.1 + 1 := flags_n T _ _ _ _ w g
          rw [G5.1.1, if_pos rfl, Option.bind_some, l1, Option.bind_some, G5.2.1.1.2.1, nI_1, show (1 : Int32) = nI 1 from rfl, si98 hS _ _ (show 1 < 1075 by omega), Option.bind_some]
          refine ⟨_, rfl, (fr.trans r2).trans (u98 _ _ _), fun y e => absurd e (by simp), fun y e => ⟨W, ?_⟩⟩
          rw [← Sum.inr.inj e]
          have := G5.w (k := 1) (by omega) (G5.2.1.one (lf_n D.1 + 1))
          show MLx T z B n c _ w.1 (lf_n w.2) (w.2, D.2) W
          rw [en]
          exact this
    · obtain ⟨d3, f1, f2, f3⟩ := m_failG hS a2.1 (y := 2) (by decide)
      obtain ⟨d4, g1, g2, g3⟩ := j43F f2
      rw [ea.2 k3, Option.bind_some, if_neg (show ¬ (false, d1).1 = true from Bool.false_ne_true), if_pos (kd94 hS), f1, Option.bind_some, g1, if_neg k3]
      exact ⟨d4, rfl, (a3.trans f3.1).trans g2, fun x e => by rw [← Sum.inl.inj e]; exact g3, fun y e => absurd e (by simp)⟩
theorem m_door2 (hS : Sh S) (hT : okT2 T z) (hN : NXT S T z B n c) (h : MLx T z B n c d i (lf_n D.1) D W) (k12 : T.1 i = 12) : LM T z B n c d (fX11_readDoor S d 94) (wSl (gDoor T i D.1) D.2) := by
  have hz := h.1.2.2.2.2
  have hiz := tk_lt hT hz.1 (by rw [k12]; decide)
  have hk := h.2.1.2.2.2.2.2.2.2.2
  have l2 : ∀ {e : sk_D}, sk_lI S e 98 20 2 = some (e.1 98 2) := fun {e} => li98 hS e (j := 2) (by omega)
  unfold LM fX11_readDoor gDoor wSl
  rw [gr94_4 hS, Option.bind_some, l2, Option.bind_some, h.2.1.1.2.2.1]
  by_cases q : 8 ≤ lf_k D.1
  · obtain ⟨d1, a1, a2, a3⟩ := m_failG hS h.1 (y := 4) (by decide)
    rw [if_pos q, if_pos (by rw [show lf_k D.1 = 8 by omega]; rfl), if_pos (kd94 hS), a1, Option.bind_some]
    unfold fX11_readDoor_J18
    rw [gi94 hS, Option.bind_some, a2.1, if_neg a2.2.1]
    exact ⟨d1, rfl, a3.1, fun x e => by rw [← Sum.inl.inj e]; exact a2, fun y e => absurd e (by simp)⟩
  · obtain ⟨d1, a1, a2, a3⟩ := h.next hN hiz
    obtain ⟨v, d3, t1, t2, t3, t4⟩ := a2.takes hS hT hN 0 9
    rw [if_neg q, if_neg (by rw [show (8 : Int32) = nI 8 from rfl, nI_eq (by omega) (by omega)]; omega)]
    unfold fX11_readDoor_J18
    rw [gi94 hS, Option.bind_some, h.1.1, if_pos rfl, if_pos (kd94 hS), a1, Option.bind_some, gr94_4 hS, Option.bind_some, if_pos (kd94 hS), t1, Option.bind_some, p66, si98 hS _ _ (show 66 + lf_k D.1 < 1075 by omega), Option.bind_some, gi94 hS, Option.bind_some]
    have fr := (a3.trans t2).trans (u98 d3 (66 + lf_k D.1) v)
    cases x : tnu T 0 9 (i + 1) with
    | inl u =>
      have F := (t3 u x).w (66 + lf_k D.1) v
      rw [F.1, if_neg F.2.1]
      exact ⟨_, rfl, fr, fun y e => by rw [← Sum.inl.inj e]; exact F, fun y e => absurd e (by simp)⟩
    | inr u =>
      obtain ⟨ev, G3⟩ := t4 u x
      rw [ev] at fr ⊢
      have e11 : (sk_uI d3 98 (66 + lf_k D.1) u).1 94 11 = 0 := by rw [uI_a _ _ _ 94 _ (by omega)]; exact G3.1.1
      have e2 : (sk_uI d3 98 (66 + lf_k D.1) u).1 98 2 = nI (lf_k D.1) := by rw [uI_k _ _ _ _ _ (by omega)]; exact G3.2.1.1.2.2.1
      have m4 := G3.2.1.door (show lf_k D.1 < 8 by omega) u
      rw [e11, if_pos rfl, Option.bind_some, l2, Option.bind_some, e2, nI_1, show (2 : Int32) = nI 2 from rfl, si98 hS _ _ (show 2 < 1075 by omega), Option.bind_some]
      refine ⟨_, rfl, fr.trans (u98 _ _ _), fun y e => absurd e (by simp), fun y e => ⟨W, ?_⟩⟩
      rw [← Sum.inr.inj e]
      obtain ⟨g1, g2, g3, g4⟩ := G3
      refine ⟨(g1.eq (uI_a _ _ _ 94 _ (by omega)) (uI_a _ _ _ 97 _ (by omega))).eq (uI_a _ _ _ 94 _ (by omega)) (uI_a _ _ _ 97 _ (by omega)), m4, ⟨?_, fun k hk => ?_⟩, g4⟩
      · rw [uI_k _ _ _ _ _ (by omega), uI_k _ _ _ _ _ (by omega)]; exact g3.1
      · rw [uI_k _ _ _ _ _ (by omega), uI_k _ _ _ _ _ (by omega)]; exact g3.2 k hk
end
