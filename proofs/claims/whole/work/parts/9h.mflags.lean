/-! the reference reads lines -/
theorem MFd.w {d : sk_D} {f : FLT} (h : MFd d f) (k : Nat) (v : Int32) : MFd (sk_uI d 98 k v) f := by
  unfold MFd
  rw [uI_a _ _ _ 94 _ (by omega)]
  exact h
theorem u98 (d : sk_D) (k : Nat) (v : Int32) : mrf d (sk_uI d 98 k v) := ⟨fun b _ h2 => uI_a _ _ _ _ _ h2, rfl, fun j _ _ => by rw [uI_a _ _ _ 94 _ (by omega)]⟩
section
variable {S : sk_S} {d : sk_D} {T : TKS} {z i : Nat} {B : Nat → Nat} {n : Nat} {c : Nat → Int32} {nn : Nat} {D : DFT} {W : List Int32}
def MLx (T : TKS) (z : Nat) (B : Nat → Nat) (n : Nat) (c : Nat → Int32) (d : sk_D) (i nn : Nat) (D : DFT) (W : List Int32) : Prop := MGd T z B n c d i ∧ MD (d.1 98) nn D W ∧ cdw d W ∧ W.length ≤ i
theorem MLx.nf {d' : sk_D} {i' : Nat} (h : MLx T z B n c d i nn D W) (hi : i ≤ i') (g : MGd T z B n c d' i') (x : nf d d') : MLx T z B n c d' i' nn D W := by
  have e98 := x.1 98 (by omega)
  exact ⟨g, by rw [e98]; exact h.2.1, by unfold cdw; rw [e98]; exact h.2.2.1, by have := h.2.2.2; omega⟩
theorem MLx.w {nn' : Nat} {D' : DFT} (h : MLx T z B n c d i nn D W) {k : Nat} (hk : k < 174) {v : Int32} (hm : MD ((sk_uI d 98 k v).1 98) nn' D' W) : MLx T z B n c (sk_uI d 98 k v) i nn' D' W :=
  ⟨h.1.eq (uI_a _ _ _ 94 _ (by omega)) (uI_a _ _ _ 97 _ (by omega)), hm, ⟨by rw [uI_k _ _ _ _ _ (by omega)]; exact h.2.2.1.1, fun j hj => by rw [uI_k _ _ _ _ _ (by omega)]; exact h.2.2.1.2 j hj⟩, h.2.2.2⟩
theorem MLx.takes (hS : Sh S) (hT : okT2 T z) (hN : NXT S T z B n c) (h : MLx T z B n c d i nn D W) (lo hi : Int32) : ∃ v d', fX11_takes S d 94 lo hi = some (v, d') ∧ mrf d d' ∧ (∀ x, tnu T lo hi i = .inl x → MFd d' x) ∧ (∀ u, tnu T lo hi i = .inr u → v = u ∧ MLx T z B n c d' (i + 1) nn D W) := by
  obtain ⟨v, d', a1, a2, a3, a4⟩ := m_takesG hS hT hN h.1 lo hi
  exact ⟨v, d', a1, a2.1, a3, fun u e => ⟨(a4 u e).1, h.nf (by omega) (a4 u e).2.1 (a4 u e).2.2⟩⟩
theorem MLx.eats (hS : Sh S) (hT : okT2 T z) (hN : NXT S T z B n c) (h : MLx T z B n c d i nn D W) {a r : Int32} (hx : (a, r) ∈ rhl) (ha : a ≠ 202) : (T.1 i = a → ∃ d', fX11_eats S d 94 r = some (true, d') ∧ MLx T z B n c d' (i + 1) nn D W ∧ mrf d d') ∧ (T.1 i ≠ a → fX11_eats S d 94 r = some (false, d)) := by
  obtain ⟨h1, h2⟩ := m_eatsG hS hT hN h.1 hx ha
  refine ⟨fun e => ?_, h2⟩
  obtain ⟨d', a1, a2, a3⟩ := h1 e
  exact ⟨d', a1, h.nf (by omega) a2 a3, a3.l.1⟩
theorem MLx.next (hN : NXT S T z B n c) (h : MLx T z B n c d i nn D W) (hi : i < z) : ∃ d', fX11_next S d 94 = some d' ∧ MLx T z B n c d' (i + 1) nn D W ∧ mrf d d' := by
  obtain ⟨d', a1, a2, a3⟩ := m_nextG hN h.1 hi
  exact ⟨d', a1, h.nf (by omega) a2 a3, a3.l.1⟩
/-- what a flag gives -/
def MFC (T : TKS) (z : Nat) (B : Nat → Nat) (n : Nat) (c : Nat → Int32) (d : sk_D) (i nn : Nat) (D : DFT) (W : List Int32) (j : Nat) (b : Bool) (d' : sk_D) : Prop := mrf d d' ∧
  (T.1 i = 11 → (∀ x, tnu T 0 (nI j - 1) (i + 1) = .inl x → b = false ∧ MFd d' x) ∧ ∀ u, tnu T 0 (nI j - 1) (i + 1) = .inr u → b = true ∧ MLx T z B n c d' (i + 2) nn (sV D.1 5 j (lf_v D.1 5 j ||| ((1 : Int32) <<< (u &&& 31))), D.2) W) ∧
  (T.1 i ≠ 11 → ftt (T.1 i) ≠ 0 → (∀ x, tnu T 0 (fhi (T.1 i)) (i + 1) = .inl x → b = false ∧ MFd d' x) ∧ ∀ u, tnu T 0 (fhi (T.1 i)) (i + 1) = .inr u → b = true ∧ MLx T z B n c d' (i + 2) nn (sV D.1 (ftt (T.1 i)) j u, D.2) W) ∧
  (T.1 i ≠ 11 → ftt (T.1 i) = 0 → b = false ∧ d' = d)
theorem m_flagEnd (hS : Sh S) {e : sk_D} {X : FLT ⊕ Int32} {i' : Nat} {D' : Int32 → DFT} (h1 : ∀ x, X = .inl x → MFd e x) (h2 : ∀ u, X = .inr u → MLx T z B n c e i' nn (D' u) W) : ∃ b, ((sk_gI S e 94 10 11).bind fun v99 => if v99 = 0 then (some (true, e)) else (some (false, e))) = some (b, e) ∧ (∀ x, X = .inl x → b = false ∧ MFd e x) ∧ ∀ u, X = .inr u → b = true ∧ MLx T z B n c e i' nn (D' u) W := by
  rw [gi94 hS, Option.bind_some]
  cases X with
  | inl x =>
    have F := h1 x rfl
    rw [F.1, if_neg F.2.1]
    exact ⟨false, rfl, fun y e => ⟨rfl, by rw [← Sum.inl.inj e]; exact F⟩, fun u e => absurd e (by simp)⟩
  | inr u =>
    have G := h2 u rfl
    rw [G.1.1, if_pos rfl]
    exact ⟨true, rfl, fun y e => absurd e (by simp), fun v e => ⟨rfl, by rw [← Sum.inr.inj e]; exact G⟩⟩
theorem m_flag (hS : Sh S) (hT : okT2 T z) (hN : NXT S T z B n c) (h : MLx T z B n c d i nn D W) {j : Nat} (hj : j < lf_n D.1) : ∃ b d', fX11_readFlag S d 94 (nI j) = some (b, d') ∧ MFC T z B n c d i nn D W j b d' := by
  have j8 : j < 8 := by have := h.2.1.2.2.2.2.2.2.2.1; omega
  have ff : ∀ {e : sk_D}, ¬ (false, e).1 = true := Bool.false_ne_true
  unfold fX11_readFlag MFC
  rw [if_pos (kd94 hS)]
  by_cases k4 : T.1 i = 4
  · obtain ⟨d1, a1, a2, a3⟩ := (h.eats hS hT hN (a := 4) (r := 4) (by decide) (by decide)).1 k4
    obtain ⟨v, d2, b1, b2, b3, b4⟩ := a2.takes hS hT hN 0 9
    have ft : ftt (T.1 i) = 1 := by rw [k4]; rfl
    have fh : fhi (T.1 i) = 9 := by rw [k4]; rfl
    have fin := m_flagEnd (T := T) (z := z) (B := B) (n := n) (c := c) (nn := nn) (W := W) hS (e := sk_uI d2 98 (18 + j) v) (X := tnu T 0 9 (i + 1)) (i' := i + 2) (D' := fun u => (sV D.1 1 j u, D.2)) (fun x e => (b3 x e).w _ _) (fun u e => by
      obtain ⟨e1, e2⟩ := b4 u e
      have := e2.w (k := 10 + 8 * 1 + j) (by omega) (e2.2.1.v (t := 1) (by omega) hj v)
      rw [e1] at this
      rw [e1, show 18 + j = 10 + 8 * 1 + j by omega]
      exact this)
    obtain ⟨b, f1, f2, f3⟩ := fin
    rw [a1, Option.bind_some, if_pos rfl, gr94_4 hS, Option.bind_some, if_pos (kd94 hS), b1, Option.bind_some, p18, si98 hS _ _ (show 18 + j < 1075 by omega), Option.bind_some, f1]
    refine ⟨b, _, rfl, (a3.trans b2).trans (u98 _ _ _), fun a => absurd a (by rw [k4]; decide), fun _ _ => ?_, fun _ a => absurd a (by rw [ft]; decide)⟩
    rw [ft, fh]
    exact ⟨f2, f3⟩
  have n4 := (h.eats hS hT hN (a := 4) (r := 4) (by decide) (by decide)).2 k4
  by_cases k8 : T.1 i = 8
  · obtain ⟨d1, a1, a2, a3⟩ := (h.eats hS hT hN (a := 8) (r := 5) (by decide) (by decide)).1 k8
    obtain ⟨v, d2, b1, b2, b3, b4⟩ := a2.takes hS hT hN 0 10
    have ft : ftt (T.1 i) = 2 := by rw [k8]; rfl
    have fh : fhi (T.1 i) = 10 := by rw [k8]; rfl
    have fin := m_flagEnd (T := T) (z := z) (B := B) (n := n) (c := c) (nn := nn) (W := W) hS (e := sk_uI d2 98 (26 + j) v) (X := tnu T 0 10 (i + 1)) (i' := i + 2) (D' := fun u => (sV D.1 2 j u, D.2)) (fun x e => (b3 x e).w _ _) (fun u e => by
      obtain ⟨e1, e2⟩ := b4 u e
      have := e2.w (k := 10 + 8 * 2 + j) (by omega) (e2.2.1.v (t := 2) (by omega) hj v)
      rw [e1] at this
      rw [e1, show 26 + j = 10 + 8 * 2 + j by omega]
      exact this)
    obtain ⟨b, f1, f2, f3⟩ := fin
    rw [n4, Option.bind_some, if_neg ff, if_pos (kd94 hS), a1, Option.bind_some, if_pos rfl, gr94_4 hS, Option.bind_some, if_pos (kd94 hS), b1, Option.bind_some, p26, si98 hS _ _ (show 26 + j < 1075 by omega), Option.bind_some, f1]
    refine ⟨b, _, rfl, (a3.trans b2).trans (u98 _ _ _), fun a => absurd a (by rw [k8]; decide), fun _ _ => ?_, fun _ a => absurd a (by rw [ft]; decide)⟩
    rw [ft, fh]
    exact ⟨f2, f3⟩
  have n8 := (h.eats hS hT hN (a := 8) (r := 5) (by decide) (by decide)).2 k8
  by_cases k9 : T.1 i = 9
  · obtain ⟨d1, a1, a2, a3⟩ := (h.eats hS hT hN (a := 9) (r := 6) (by decide) (by decide)).1 k9
    obtain ⟨v, d2, b1, b2, b3, b4⟩ := a2.takes hS hT hN 0 10
    have ft : ftt (T.1 i) = 3 := by rw [k9]; rfl
    have fh : fhi (T.1 i) = 10 := by rw [k9]; rfl
    have fin := m_flagEnd (T := T) (z := z) (B := B) (n := n) (c := c) (nn := nn) (W := W) hS (e := sk_uI d2 98 (34 + j) v) (X := tnu T 0 10 (i + 1)) (i' := i + 2) (D' := fun u => (sV D.1 3 j u, D.2)) (fun x e => (b3 x e).w _ _) (fun u e => by
      obtain ⟨e1, e2⟩ := b4 u e
      have := e2.w (k := 10 + 8 * 3 + j) (by omega) (e2.2.1.v (t := 3) (by omega) hj v)
      rw [e1] at this
      rw [e1, show 34 + j = 10 + 8 * 3 + j by omega]
      exact this)
    obtain ⟨b, f1, f2, f3⟩ := fin
    rw [n4, Option.bind_some, if_neg ff, if_pos (kd94 hS), n8, Option.bind_some, if_neg ff, if_pos (kd94 hS), a1, Option.bind_some, if_pos rfl, gr94_4 hS, Option.bind_some, if_pos (kd94 hS), b1, Option.bind_some, p34, si98 hS _ _ (show 34 + j < 1075 by omega), Option.bind_some, f1]
    refine ⟨b, _, rfl, (a3.trans b2).trans (u98 _ _ _), fun a => absurd a (by rw [k9]; decide), fun _ _ => ?_, fun _ a => absurd a (by rw [ft]; decide)⟩
    rw [ft, fh]
    exact ⟨f2, f3⟩
  have n9 := (h.eats hS hT hN (a := 9) (r := 6) (by decide) (by decide)).2 k9
  by_cases k10 : T.1 i = 10
  · obtain ⟨d1, a1, a2, a3⟩ := (h.eats hS hT hN (a := 10) (r := 7) (by decide) (by decide)).1 k10
    obtain ⟨v, d2, b1, b2, b3, b4⟩ := a2.takes hS hT hN 0 9
    have ft : ftt (T.1 i) = 4 := by rw [k10]; rfl
    have fh : fhi (T.1 i) = 9 := by rw [k10]; rfl
    have fin := m_flagEnd (T := T) (z := z) (B := B) (n := n) (c := c) (nn := nn) (W := W) hS (e := sk_uI d2 98 (42 + j) v) (X := tnu T 0 9 (i + 1)) (i' := i + 2) (D' := fun u => (sV D.1 4 j u, D.2)) (fun x e => (b3 x e).w _ _) (fun u e => by
      obtain ⟨e1, e2⟩ := b4 u e
      have := e2.w (k := 10 + 8 * 4 + j) (by omega) (e2.2.1.v (t := 4) (by omega) hj v)
      rw [e1] at this
      rw [e1, show 42 + j = 10 + 8 * 4 + j by omega]
      exact this)
    obtain ⟨b, f1, f2, f3⟩ := fin
    rw [n4, Option.bind_some, if_neg ff, if_pos (kd94 hS), n8, Option.bind_some, if_neg ff, if_pos (kd94 hS), n9, Option.bind_some, if_neg ff, if_pos (kd94 hS), a1, Option.bind_some, if_pos rfl, gr94_4 hS, Option.bind_some, if_pos (kd94 hS), b1, Option.bind_some, p42, si98 hS _ _ (show 42 + j < 1075 by omega), Option.bind_some, f1]
    refine ⟨b, _, rfl, (a3.trans b2).trans (u98 _ _ _), fun a => absurd a (by rw [k10]; decide), fun _ _ => ?_, fun _ a => absurd a (by rw [ft]; decide)⟩
    rw [ft, fh]
    exact ⟨f2, f3⟩
  have n10 := (h.eats hS hT hN (a := 10) (r := 7) (by decide) (by decide)).2 k10
  rw [n4, Option.bind_some, if_neg ff, if_pos (kd94 hS), n8, Option.bind_some, if_neg ff, if_pos (kd94 hS), n9, Option.bind_some, if_neg ff, if_pos (kd94 hS), n10, Option.bind_some, if_neg ff, if_pos (kd94 hS)]
  by_cases k11 : T.1 i = 11
  · obtain ⟨d1, a1, a2, a3⟩ := (h.eats hS hT hN (a := 11) (r := 8) (by decide) (by decide)).1 k11
    obtain ⟨v, d2, b1, b2, b3, b4⟩ := a2.takes hS hT hN 0 (nI j - 1)
    have c5 : d1.1 98 (50 + j) = lf_v D.1 5 j := a2.2.1.2.1 5 j (by omega) hj
    have fin := m_flagEnd (T := T) (z := z) (B := B) (n := n) (c := c) (nn := nn) (W := W) hS (e := sk_uI d2 98 (50 + j) (lf_v D.1 5 j ||| ((1 : Int32) <<< (v &&& 31)))) (X := tnu T 0 (nI j - 1) (i + 1)) (i' := i + 2) (D' := fun u => (sV D.1 5 j (lf_v D.1 5 j ||| ((1 : Int32) <<< (u &&& 31))), D.2)) (fun x e => (b3 x e).w _ _) (fun u e => by
      obtain ⟨e1, e2⟩ := b4 u e
      have := e2.w (k := 10 + 8 * 5 + j) (by omega) (e2.2.1.v (t := 5) (by omega) hj (lf_v D.1 5 j ||| ((1 : Int32) <<< (v &&& 31))))
      rw [e1] at this
      rw [e1, show 50 + j = 10 + 8 * 5 + j by omega]
      exact this)
    obtain ⟨b, f1, f2, f3⟩ := fin
    rw [a1, Option.bind_some, if_pos rfl, gr94_4 hS, Option.bind_some, p50, li98 hS _ (show 50 + j < 1075 by omega), Option.bind_some, c5, if_pos (kd94 hS), b1, Option.bind_some, si98 hS _ _ (show 50 + j < 1075 by omega), Option.bind_some, f1]
    exact ⟨b, _, rfl, (a3.trans b2).trans (u98 _ _ _), fun _ => ⟨f2, f3⟩, fun a => absurd k11 a, fun a => absurd k11 a⟩
  have n11 := (h.eats hS hT hN (a := 11) (r := 8) (by decide) (by decide)).2 k11
  rw [n11, Option.bind_some, if_neg ff]
  exact ⟨false, d, rfl, mrf.refl _, fun a => absurd a k11, fun _ a => absurd (by unfold ftt; rw [if_neg k4, if_neg k8, if_neg k9, if_neg k10]) a, fun _ _ => ⟨rfl, rfl⟩⟩
end
