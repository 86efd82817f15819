/-! the reference reads lines, 3 -/
theorem chn_ne {T : TKS} {X : Nat → PR} {op : Int32 → Int32} : ∀ f i w, w ≠ [] → ∀ y, chn T X op f i w = .inr y → y.2 ≠ []
  | 0, i, w, hw, y, e => by rw [← Sum.inr.inj e]; exact hw
  | f + 1, i, w, hw, y, e => by
    unfold chn at e
    split at e
    · rw [← Sum.inr.inj e]; exact hw
    · cases x : X (i + 1) with
      | inl u => rw [x] at e; exact absurd e (by simp)
      | inr u => rw [x] at e; exact chn_ne f u.1 (w ++ u.2 ++ [op (T.1 i)]) (by simp) y e
theorem chain_ne {T : TKS} {X : Nat → PR} {op : Int32 → Int32} (hX : ∀ i y, X i = .inr y → y.2 ≠ []) : ∀ i y, chain T X op i = .inr y → y.2 ≠ [] := by
  intro i y e
  unfold chain at e
  cases x : X i with
  | inl u => rw [x] at e; exact absurd e (by simp)
  | inr u => rw [x] at e; exact chn_ne _ _ _ (hX i u x) y e
theorem comp_ne {T : TKS} {s : Nat → PR} : ∀ i y, gComp T s i = .inr y → y.2 ≠ [] := by
  intro i y e
  unfold gComp at e
  cases x : s i with
  | inl u => rw [x] at e; exact absurd e (by simp)
  | inr u =>
    rw [x] at e
    dsimp only at e
    split at e
    · exact absurd e (by simp)
    · cases x2 : s (u.1 + 1) with
      | inl v => rw [x2] at e; exact absurd e (by simp)
      | inr v => rw [x2] at e; rw [← Sum.inr.inj e]; simp
theorem unit_ne {T : TKS} {s : Nat → PR} {o : Option (Nat → PR)} (ho : ∀ u, o = some u → ∀ i y, u i = .inr y → y.2 ≠ []) : ∀ i y, gUnitB T s o i = .inr y → y.2 ≠ [] := by
  intro i y e
  unfold gUnitB at e
  split at e
  · cases o with
    | none => exact absurd e (by simp)
    | some u =>
      dsimp only at e
      cases x : u (i + 1) with
      | inl v => rw [x] at e; exact absurd e (by simp)
      | inr v => rw [x] at e; rw [← Sum.inr.inj e]; simp
  · split at e
    · cases o with
      | none => exact absurd e (by simp)
      | some u =>
        dsimp only at e
        unfold closeB at e
        cases x : chain T (chain T u oAnd) oOr (i + 1) with
        | inl v => rw [x] at e; exact absurd e (by simp)
        | inr v =>
          rw [x] at e
          dsimp only at e
          split at e
          · have := chain_ne (chain_ne (ho u rfl)) _ _ x
            rw [← Sum.inr.inj e]; exact this
          · exact absurd e (by simp)
    · exact comp_ne i y e
theorem gUnit_ne {T : TKS} (sl : Bool) : ∀ r i y, gUnit T sl r i = .inr y → y.2 ≠ []
  | 0 => unit_ne (fun u e => absurd e (by simp))
  | r + 1 => unit_ne (fun u e => by obtain rfl := Option.some.inj e; exact gUnit_ne sl r)
theorem truth_ne {T : TKS} (sl : Bool) (r : Nat) : ∀ i y, gTruth T sl r i = .inr y → y.2 ≠ [] := chain_ne (chain_ne (gUnit_ne sl r))
section
variable {S : sk_S} {T : TKS} {z : Nat} {B : Nat → Nat} {n : Nat} {c : Nat → Int32} {d : sk_D} {i : Nat} {D : DFT} {W : List Int32}
theorem LM.bad {o : Option sk_D} {X : LR} {d' : sk_D} {x : FLT} (hX : X = .inl x) (h1 : o = some d') (h2 : mrf d d') (h3 : MFd d' x) : LM T z B n c d o X :=
  ⟨d', h1, h2, fun y e => by rw [hX] at e; rw [← Sum.inl.inj e]; exact h3, fun y e => by rw [hX] at e; exact absurd e (by simp)⟩
theorem LM.good {o : Option sk_D} {X : LR} {d' : sk_D} {y : Nat × DFT} {W' : List Int32} (hX : X = .inr y) (h1 : o = some d') (h2 : mrf d d') (h3 : MLx T z B n c d' y.1 (lf_n y.2.1) y.2 W') : LM T z B n c d o X :=
  ⟨d', h1, h2, fun x e => by rw [hX] at e; exact absurd e (by simp), fun v e => by rw [hX] at e; rw [← Sum.inr.inj e]; exact ⟨W', h3⟩⟩
theorem m_clashF (hS : Sh S) {e : sk_D} {f : FLT} (F : MFd e f) (v : Int32) : fX11_readClash_J40 S 94 v e = some e := by
  obtain ⟨w, hw⟩ := m_takesF hS F 0 (e.1 98 1 - 1)
  unfold fX11_readClash_J40
  rw [gr94_4 hS, Option.bind_some, show (1 : Int32) = nI 1 from rfl, li98 hS e (j := 1) (by omega), Option.bind_some, if_pos (kd94 hS), show nI 1 = (1 : Int32) from rfl, hw, Option.bind_some, gi94 hS, Option.bind_some, F.1, if_neg F.2.1]
theorem m_clash2 (hS : Sh S) (hT : okT2 T z) (hN : NXT S T z B n c) (h : MLx T z B n c d i (lf_n D.1) D W) (k13 : T.1 i = 13) : LM T z B n c d (fX11_readClash S d 94) (wSl (gClash T i D.1) D.2) := by
  have hz := h.1.2.2.2.2
  have hiz := tk_lt hT hz.1 (by rw [k13]; decide)
  have hn := h.2.1.2.2.2.2.2.2.2.1
  have l1 : ∀ {e : sk_D}, sk_lI S e 98 20 1 = some (e.1 98 1) := fun {e} => li98 hS e (j := 1) (by omega)
  obtain ⟨d1, a1, a2, a3⟩ := h.next hN hiz
  obtain ⟨v, d2, x1, b2, b3, b4⟩ := a2.takes hS hT hN 0 (nI (lf_n D.1) - 1)
  unfold fX11_readClash gClash wSl
  rw [if_pos (kd94 hS), a1, Option.bind_some, gr94_4 hS, Option.bind_some, l1, Option.bind_some, a2.2.1.1.2.1, if_pos (kd94 hS), x1, Option.bind_some, if_pos (kd94 hS)]
  cases x : tnu T 0 (nI (lf_n D.1) - 1) (i + 1) with
  | inl u =>
    have F := b3 u x
    rw [m_isF hS F, Option.bind_some, if_neg Bool.false_ne_true, m_clashF hS F]
    exact LM.bad rfl rfl (a3.trans b2) F
  | inr u =>
    obtain ⟨ev, G⟩ := b4 u x
    obtain ⟨a, ha, ea⟩ := tnu_n hT (by omega) hn x
    have hz2 := G.1.2.2.2.2
    have j40 : LM T z B n c d (fX11_readClash_J40 S 94 v d2) (match (match tnu T 0 (nI (lf_n D.1) - 1) (i + 2) with | .inl x => .inl x | .inr v => .inr (i + 3, clsh D.1 u.toNatClampNeg v.toNatClampNeg) : FLT ⊕ (Nat × LF)) with | .inl x => .inl x | .inr y => .inr (y.1, (y.2, D.2)) : LR) := by
      obtain ⟨v2, d3, c1, c2, c3, c4⟩ := G.takes hS hT hN 0 (nI (lf_n D.1) - 1)
      unfold fX11_readClash_J40
      rw [gr94_4 hS, Option.bind_some, l1, Option.bind_some, G.2.1.1.2.1, if_pos (kd94 hS), c1, Option.bind_some, gi94 hS, Option.bind_some]
      cases x2 : tnu T 0 (nI (lf_n D.1) - 1) (i + 2) with
      | inl w =>
        have F := c3 w x2
        rw [F.1, if_neg F.2.1]
        exact LM.bad rfl rfl ((a3.trans b2).trans c2) F
      | inr w =>
        obtain ⟨ew, G3⟩ := c4 w x2
        obtain ⟨b, hb, eb⟩ := tnu_n hT hz2.1 hn x2
        rw [G3.1.1, if_pos rfl, ev, ew, ea, eb]
        dsimp only
        have q1 := G3.2.1.v (t := 6) (j := a) (by omega) ha (lf_v D.1 6 a ||| b1 b)
        have q2 := G3.w (k := 10 + 8 * 6 + a) (by omega) q1
        have q3 := q2.2.1.v (t := 6) (j := b) (by omega) (show b < lf_n D.1 from hb) (lf_v (sV D.1 6 a (lf_v D.1 6 a ||| b1 b)) 6 b ||| b1 a)
        have q4 := q2.w (k := 10 + 8 * 6 + b) (by omega) q3
        have r1 := G3.2.1.2.1 6 a (by omega) ha
        have r2 := q2.2.1.2.1 6 b (by omega) (show b < lf_n D.1 from hb)
        rw [Option.bind_some, p58, li98 hS _ (j := 58 + a) (by omega), Option.bind_some, show 58 + a = 10 + 8 * 6 + a by omega, r1, si98 hS _ _ (show 10 + 8 * 6 + a < 1075 by omega), Option.bind_some, Option.bind_some, p58, show 58 + b = 10 + 8 * 6 + b by omega, li98 hS _ (j := 10 + 8 * 6 + b) (by omega), Option.bind_some]
        dsimp only at r2
        unfold b1 at r2 q4
        rw [r2, si98 hS _ _ (show 10 + 8 * 6 + b < 1075 by omega), Option.bind_some]
        refine LM.good rfl rfl ((((a3.trans b2).trans c2).trans (u98 _ _ _)).trans (u98 _ _ _)) (W' := W) ?_
        rw [nI_clamp (by omega), nI_clamp (by omega)]
        exact q4
    by_cases q : T.1 (i + 2) = 200
    · rw [m_isG hS G.1 (a := 200) (r := 23) (by decide), Option.bind_some, decide_eq_true q, if_pos rfl, gi94 hS, Option.bind_some, G.1.2.2.2.1 q, ev]
      by_cases q2 : T.2.2 (i + 2) = u
      · obtain ⟨d4, f1, f2, f3⟩ := m_failG hS G.1 (y := 3) (by decide)
        rw [if_pos q2, if_pos (kd94 hS), f1, Option.bind_some, m_clashF hS f2]
        dsimp only
        rw [if_pos ⟨q, q2⟩]
        exact LM.bad rfl rfl ((a3.trans b2).trans f3.1) f2
      · rw [if_neg q2]
        dsimp only
        rw [if_neg (fun a => q2 a.2)]
        rw [ev] at j40
        exact j40
    · rw [m_isG hS G.1 (a := 200) (r := 23) (by decide), Option.bind_some, decide_eq_false q, if_neg Bool.false_ne_true]
      dsimp only
      rw [if_neg (fun a => q a.1)]
      exact j40
end
