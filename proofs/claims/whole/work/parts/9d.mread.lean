/-! the reference reads: states of its reader -/
def rhl : List (Int32 × Int32) := [(0, 0), (1, 1), (2, 2), (3, 3), (4, 4), (8, 5), (9, 6), (10, 7), (11, 8), (12, 9), (13, 10), (7, 11), (14, 12), (15, 13), (5, 14), (6, 15), (17, 16), (16, 17), (18, 18), (200, 23), (202, 24), (203, 25), (59, 30), (58, 31), (43, 32), (45, 33), (42, 34), (40, 35), (41, 36), (91, 37), (93, 38), (61, 39), (60, 40), (62, 41)]
def rho (k : Int32) : Int32 := match rhl.find? (fun x => x.1 == k) with
  | some x => x.2
  | none => 22
theorem rhl_inj : ∀ x ∈ rhl, ∀ y ∈ rhl, x.2 = y.2 → x.1 = y.1 := by decide +kernel
theorem rhl_self : ∀ x ∈ rhl, rho x.1 = x.2 := by decide +kernel
theorem rhl_22 : ∀ x ∈ rhl, x.2 ≠ 22 := by decide +kernel
theorem rho_iff {x : Int32 × Int32} (hx : x ∈ rhl) (k : Int32) : rho k = x.2 ↔ k = x.1 := by
  constructor
  · intro h
    unfold rho at h
    cases e : rhl.find? (fun x => x.1 == k) with
    | none => rw [e] at h; exact absurd h.symm (rhl_22 x hx)
    | some y =>
      rw [e] at h
      have h1 := List.find?_some e
      have h2 := List.mem_of_find?_eq_some e
      have := rhl_inj y h2 x hx h
      rw [← this]
      exact (eq_of_beq h1).symm
  · intro h; rw [h]; exact rhl_self x hx
theorem rho_if {a r : Int32} (hx : (a, r) ∈ rhl) (k : Int32) : rho k = r ↔ k = a := rho_iff hx k
def NB (B : Nat → Nat) (n : Nat) (c : Nat → Int32) (d : sk_D) (i : Nat) : Prop := d.1 94 7 = nI (B i) ∧ d.1 94 8 = nI n ∧ ∀ j, j < n → d.1 97 j = c j
def nf (d e : sk_D) : Prop := (∀ b, b ≠ 94 → e.1 b = d.1 b) ∧ e.2 = d.2 ∧ ∀ k, k ≠ 6 → k ≠ 7 → k ≠ 9 → k ≠ 10 → e.1 94 k = d.1 94 k
def NXT (S : sk_S) (T : TKS) (z : Nat) (B : Nat → Nat) (n : Nat) (c : Nat → Int32) : Prop := ∀ d i, i < z → NB B n c d i → ∃ d', fX11_next S d 94 = some d' ∧ nf d d' ∧ d'.1 94 9 = rho (T.1 (i + 1)) ∧ d'.1 94 6 = T.2.1 (i + 1) ∧ (T.1 (i + 1) = 200 → d'.1 94 10 = T.2.2 (i + 1)) ∧ NB B n c d' (i + 1)
def MGd (T : TKS) (z : Nat) (B : Nat → Nat) (n : Nat) (c : Nat → Int32) (d : sk_D) (i : Nat) : Prop := d.1 94 11 = 0 ∧ d.1 94 9 = rho (T.1 i) ∧ d.1 94 6 = T.2.1 i ∧ (T.1 i = 200 → d.1 94 10 = T.2.2 i) ∧ i ≤ z ∧ z ≤ 900 ∧ NB B n c d i
def MFd (d : sk_D) (f : FLT) : Prop := d.1 94 11 = f.1 ∧ f.1 ≠ 0 ∧ d.1 94 12 = f.2
/-- what reading may change: the reader's own fields, and the draft -/
def mrf (d e : sk_D) : Prop := (∀ b, b ≠ 94 → b ≠ 98 → e.1 b = d.1 b) ∧ e.2 = d.2 ∧ ∀ k, (k < 6 ∨ k = 8 ∨ 12 < k) → k ≠ 15 → e.1 94 k = d.1 94 k
def mlf (d e : sk_D) : Prop := mrf d e ∧ (∀ k, k < 174 → e.1 98 k = d.1 98 k) ∧ e.1 94 15 = d.1 94 15
theorem mrf.refl (d : sk_D) : mrf d d := ⟨fun _ _ _ => rfl, rfl, fun _ _ _ => rfl⟩
theorem mrf.trans {d e f : sk_D} (h : mrf d e) (g : mrf e f) : mrf d f := ⟨fun b h1 h2 => (g.1 b h1 h2).trans (h.1 b h1 h2), g.2.1.trans h.2.1, fun k h1 h2 => (g.2.2 k h1 h2).trans (h.2.2 k h1 h2)⟩
theorem mlf.refl (d : sk_D) : mlf d d := ⟨mrf.refl d, fun _ _ => rfl, rfl⟩
theorem mlf.trans {d e f : sk_D} (h : mlf d e) (g : mlf e f) : mlf d f := ⟨h.1.trans g.1, fun k hk => (g.2.1 k hk).trans (h.2.1 k hk), g.2.2.trans h.2.2⟩
theorem nf.l {d e : sk_D} (h : nf d e) : mlf d e := ⟨⟨fun b h1 _ => h.1 b h1, h.2.1, fun k h1 h2 => h.2.2 k (by omega) (by omega) (by omega) (by omega)⟩, fun k _ => by rw [h.1 98 (by omega)], h.2.2 15 (by omega) (by omega) (by omega) (by omega)⟩
theorem u94_l {d : sk_D} {k : Nat} (hk : k = 11 ∨ k = 12) (v : Int32) : mlf d (sk_uI d 94 k v) := ⟨⟨fun b h1 _ => uI_a _ _ _ _ _ h1, rfl, fun j h1 h2 => uI_k _ _ _ _ _ (by omega)⟩, fun j _ => by rw [uI_a _ _ _ 98 _ (by omega)], uI_k _ _ _ _ _ (by omega)⟩
theorem NB.fr {B : Nat → Nat} {n : Nat} {c : Nat → Int32} {d e : sk_D} {i : Nat} (h : NB B n c d i) (h7 : e.1 94 7 = d.1 94 7) (h8 : e.1 94 8 = d.1 94 8) (h97 : e.1 97 = d.1 97) : NB B n c e i := ⟨by rw [h7]; exact h.1, by rw [h8]; exact h.2.1, fun j hj => by rw [h97]; exact h.2.2 j hj⟩
section
variable {S : sk_S} {d : sk_D} {T : TKS} {z i : Nat} {B : Nat → Nat} {n : Nat} {c : Nat → Int32} {f : FLT}
theorem m_isG (hS : Sh S) (h : MGd T z B n c d i) {a r : Int32} (hx : (a, r) ∈ rhl) : fX11_is S d 94 r = some (decide (T.1 i = a)) := by
  unfold fX11_is
  rw [gi94 hS, Option.bind_some, h.1, if_pos rfl, gi94 hS, Option.bind_some, h.2.1]
  by_cases q : T.1 i = a
  · rw [if_pos ((rho_if hx _).mpr q), decide_eq_true q]
  · rw [if_neg (fun e => q ((rho_if hx _).mp e)), decide_eq_false q]
theorem m_isF (hS : Sh S) (h : MFd d f) (r : Int32) : fX11_is S d 94 r = some false := by
  unfold fX11_is
  rw [gi94 hS, Option.bind_some, h.1, if_neg h.2.1]
theorem m_failG (hS : Sh S) (h : MGd T z B n c d i) {y : Int32} (hy : y ≠ 0) : ∃ d', fX11_fails S d 94 y = some d' ∧ MFd d' (tfl T i y) ∧ mlf d d' := by
  have c6 : ∀ v, (sk_uI d 94 11 v).1 94 6 = T.2.1 i := fun v => by rw [uI_k _ _ _ _ _ (by omega)]; exact h.2.2.1
  have fr : ∀ v, mlf d (sk_uI (sk_uI d 94 11 v) 94 12 (T.2.1 i)) := fun v => (u94_l (Or.inl rfl) v).trans (u94_l (Or.inr rfl) _)
  have e25 := rho_if (a := 203) (r := 25) (by decide) (T.1 i)
  unfold fX11_fails tfl
  rw [gi94 hS, Option.bind_some, h.1, if_pos rfl, gi94 hS, Option.bind_some, h.2.1]
  by_cases q : T.1 i = 203
  · rw [if_pos (e25.mpr q), if_pos q, pi94 hS, Option.bind_some, gi94 hS, Option.bind_some, c6, pi94 hS, Option.bind_some]
    exact ⟨_, rfl, ⟨by rw [uI_k _ _ _ _ _ (by omega), uI_s], by show (1 : Int32) ≠ 0; decide, uI_s _ _ _ _⟩, fr 1⟩
  · rw [if_neg (fun e => q (e25.mp e)), if_neg q, pi94 hS, Option.bind_some, gi94 hS, Option.bind_some, c6, pi94 hS, Option.bind_some]
    exact ⟨_, rfl, ⟨by rw [uI_k _ _ _ _ _ (by omega), uI_s], hy, uI_s _ _ _ _⟩, fr y⟩
theorem m_failF (hS : Sh S) (h : MFd d f) (y : Int32) : fX11_fails S d 94 y = some d := by
  unfold fX11_fails
  rw [gi94 hS, Option.bind_some, h.1, if_neg h.2.1]
theorem m_nextG (hN : NXT S T z B n c) (h : MGd T z B n c d i) (hi : i < z) : ∃ d', fX11_next S d 94 = some d' ∧ MGd T z B n c d' (i + 1) ∧ nf d d' := by
  obtain ⟨d', a1, a2, a3, a4, a5, a6⟩ := hN d i hi h.2.2.2.2.2.2
  exact ⟨d', a1, ⟨by rw [a2.2.2 11 (by omega) (by omega) (by omega) (by omega)]; exact h.1, a3, a4, a5, by omega, h.2.2.2.2.2.1, a6⟩, a2⟩
theorem m_eatsF (hS : Sh S) (h : MFd d f) (r : Int32) : fX11_eats S d 94 r = some (false, d) := by
  unfold fX11_eats
  rw [if_pos (kd94 hS), m_isF hS h, Option.bind_some, if_neg (by decide)]
theorem m_eatsG (hS : Sh S) (hT : okT2 T z) (hN : NXT S T z B n c) (h : MGd T z B n c d i) {a r : Int32} (hx : (a, r) ∈ rhl) (ha : a ≠ 202) : (T.1 i = a → ∃ d', fX11_eats S d 94 r = some (true, d') ∧ MGd T z B n c d' (i + 1) ∧ nf d d') ∧ (T.1 i ≠ a → fX11_eats S d 94 r = some (false, d)) := by
  unfold fX11_eats
  rw [if_pos (kd94 hS), m_isG hS h hx, Option.bind_some]
  constructor
  · intro e
    obtain ⟨d', a1, a2, a3⟩ := m_nextG hN h (tk_lt hT h.2.2.2.2.1 (by rw [e]; exact ha))
    rw [decide_eq_true e, if_pos rfl, if_pos (kd94 hS), a1]
    exact ⟨d', rfl, a2, a3⟩
  · intro e
    rw [decide_eq_false e, if_neg (by decide)]
theorem m_takesF (hS : Sh S) (h : MFd d f) (lo hi : Int32) : ∃ v, fX11_takes S d 94 lo hi = some (v, d) := by
  unfold fX11_takes fX11_takes_J37
  rw [if_pos (kd94 hS), m_isF hS h, Option.bind_some, if_neg (by decide), if_pos (kd94 hS), m_failF hS h, Option.bind_some, gi94 hS, Option.bind_some, gi94 hS, Option.bind_some, h.1, if_neg h.2.1]
  exact ⟨_, rfl⟩
theorem m_takesG (hS : Sh S) (hT : okT2 T z) (hN : NXT S T z B n c) (h : MGd T z B n c d i) (lo hi : Int32) : ∃ v d', fX11_takes S d 94 lo hi = some (v, d') ∧ mlf d d' ∧ (∀ x, tnu T lo hi i = .inl x → MFd d' x) ∧ (∀ u, tnu T lo hi i = .inr u → v = u ∧ MGd T z B n c d' (i + 1) ∧ nf d d') := by
  have jf : ∀ {e : sk_D} {g : FLT}, MFd e g → ∃ v, fX11_takes_J37 S 94 e = some (v, e) := by
    intro e g h
    unfold fX11_takes_J37
    rw [gi94 hS, Option.bind_some, gi94 hS, Option.bind_some, h.1, if_neg h.2.1]
    exact ⟨_, rfl⟩
  unfold fX11_takes tnu
  rw [if_pos (kd94 hS), m_isG hS h (a := 200) (r := 23) (by decide), Option.bind_some]
  by_cases q : T.1 i = 200
  · have w : (lo.toInt64 ≤ (T.2.2 i).toInt64 ∧ (T.2.2 i).toInt64 ≤ hi.toInt64) ↔ ¬ (T.2.2 i < lo ∨ ¬ T.2.2 i ≤ hi) := by
      rw [fa_le64, fa_le64, Int32.toInt_toInt64, Int32.toInt_toInt64, Int32.toInt_toInt64, Int32.lt_iff_toInt_lt, Int32.le_iff_toInt_le]
      omega
    rw [decide_eq_true q, if_pos rfl, gi94 hS, Option.bind_some, h.2.2.2.1 q, f_within, Option.bind_some, if_pos q]
    by_cases b : T.2.2 i < lo ∨ ¬ T.2.2 i ≤ hi
    · obtain ⟨d', a1, a2, a3⟩ := m_failG hS h (y := 3) (by decide)
      obtain ⟨v, hv⟩ := jf a2
      rw [decide_eq_false (fun a => w.mp a b), if_neg (by decide), if_pos (kd94 hS), a1, Option.bind_some, hv, if_pos b]
      exact ⟨v, d', rfl, a3, fun x e => by rw [← Sum.inl.inj e]; exact a2, fun u e => absurd e (by simp)⟩
    · obtain ⟨d', a1, a2, a3⟩ := m_nextG hN h (tk_lt hT h.2.2.2.2.1 (by rw [q]; decide))
      rw [decide_eq_true (w.mpr b), if_pos rfl, if_neg b]
      unfold fX11_takes_J37
      rw [gi94 hS, Option.bind_some, gi94 hS, Option.bind_some, h.1, if_pos rfl, if_pos (kd94 hS), a1]
      exact ⟨_, d', rfl, a3.l, fun x e => absurd e (by simp), fun u e => ⟨by rw [h.2.2.2.1 q]; exact Sum.inr.inj e, a2, a3⟩⟩
  · obtain ⟨d', a1, a2, a3⟩ := m_failG hS h (y := 2) (by decide)
    obtain ⟨v, hv⟩ := jf a2
    rw [decide_eq_false q, if_neg (by decide), if_pos (kd94 hS), a1, Option.bind_some, hv, if_neg q]
    exact ⟨v, d', rfl, a3, fun x e => by rw [← Sum.inl.inj e]; exact a2, fun u e => absurd e (by simp)⟩
/-! codes of laws, one behind another -/
def cdw (d : sk_D) (W : List Int32) : Prop := d.1 98 174 = nI W.length ∧ ∀ j, j < W.length → d.1 98 (175 + j) = W.getD j 0
theorem m_codes (hS : Sh S) (h1 : d.1 94 11 = 0) {W : List Int32} (hw : cdw d W) (hn : W.length < 900) (v : Int32) : ∃ d', fX11_codes S d 94 v = some d' ∧ cdw d' (W ++ [v]) ∧ mlf d d' ∧ d'.1 94 = d.1 94 := by
  unfold fX11_codes
  have c1 : (sk_uI d 98 (175 + W.length) v).1 98 174 = nI W.length := by rw [uI_k _ _ _ _ _ (by omega)]; exact hw.1
  rw [gi94 hS, Option.bind_some, h1, if_pos rfl, gr94_4 hS, Option.bind_some, Option.bind_some, show (174 : Int32) = nI 174 from rfl, li98 hS _ (show 174 < 1075 by omega), Option.bind_some, hw.1, show (175 : Int32) = nI 175 from rfl, nI_add, si98 hS _ _ (show 175 + W.length < 1075 by omega), Option.bind_some, Option.bind_some, li98 hS _ (show 174 < 1075 by omega), Option.bind_some, c1, si98 hS _ _ (show 174 < 1075 by omega), Option.bind_some]
  refine ⟨_, rfl, ⟨by rw [uI_s, nI_1, List.length_append]; rfl, fun j hj => ?_⟩, ⟨⟨fun b h1 h2 => by rw [uI_a _ _ _ _ _ h2, uI_a _ _ _ _ _ h2], rfl, fun k _ _ => by rw [uI_a _ _ _ 94 _ (by omega), uI_a _ _ _ 94 _ (by omega)]⟩, fun k hk => by rw [uI_k _ _ _ _ _ (by omega), uI_k _ _ _ _ _ (by omega)], by rw [uI_a _ _ _ 94 _ (by omega), uI_a _ _ _ 94 _ (by omega)]⟩, by rw [uI_a _ _ _ 94 _ (by omega), uI_a _ _ _ 94 _ (by omega)]⟩
  rw [uI_k _ _ _ _ _ (by omega)]
  by_cases q : j = W.length
  · rw [q, uI_s, List.getD_eq_getElem?_getD, List.getElem?_append_right (Nat.le_refl _), Nat.sub_self]; rfl
  · have : j < W.length := by rw [List.length_append] at hj; simp at hj; omega
    rw [uI_k _ _ _ _ _ (by omega), hw.2 j this, List.getD_eq_getElem?_getD, List.getD_eq_getElem?_getD, List.getElem?_append_left this]
theorem m_codesF (hS : Sh S) (h : MFd d f) (v : Int32) : fX11_codes S d 94 v = some d := by
  unfold fX11_codes
  rw [gi94 hS, Option.bind_some, h.1, if_neg h.2.1]
def MGS (T : TKS) (z : Nat) (B : Nat → Nat) (n : Nat) (c : Nat → Int32) (sl : Bool) (d : sk_D) (i : Nat) (W : List Int32) : Prop := MGd T z B n c d i ∧ cdw d W ∧ W.length ≤ i ∧ d.1 94 15 = sk_b sl
def MC (T : TKS) (z : Nat) (B : Nat → Nat) (n : Nat) (c : Nat → Int32) (sl : Bool) (fn : sk_D → Option sk_D) (X : Nat → PR) : Prop :=
  (∀ d f, MFd d f → ∃ d', fn d = some d' ∧ MFd d' f ∧ mlf d d') ∧
  (∀ d i W, MGS T z B n c sl d i W → ∃ d', fn d = some d' ∧ mlf d d' ∧ (∀ x, X i = .inl x → MFd d' x) ∧ ∀ y, X i = .inr y → MGS T z B n c sl d' y.1 (W ++ y.2.map cod))
theorem MGd.eq {e : sk_D} (h : MGd T z B n c d i) (h94 : e.1 94 = d.1 94) (h97 : e.1 97 = d.1 97) : MGd T z B n c e i := by
  obtain ⟨a1, a2, a3, a4, a5, a6, a7⟩ := h
  exact ⟨by rw [h94]; exact a1, by rw [h94]; exact a2, by rw [h94]; exact a3, fun q => by rw [h94]; exact a4 q, a5, a6, a7.fr (by rw [h94]) (by rw [h94]) h97⟩
theorem MGS.next {W : List Int32} {sl : Bool} (hN : NXT S T z B n c) (h : MGS T z B n c sl d i W) (hi : i < z) : ∃ d', fX11_next S d 94 = some d' ∧ MGS T z B n c sl d' (i + 1) W ∧ mlf d d' := by
  obtain ⟨d', a1, a2, a3⟩ := m_nextG hN h.1 hi
  have e98 := a3.1 98 (by omega)
  exact ⟨d', a1, ⟨a2, by unfold cdw; rw [e98]; exact h.2.1, by have := h.2.2.1; omega, by rw [a3.l.2.2]; exact h.2.2.2⟩, a3.l⟩
theorem MGS.code {W : List Int32} {sl : Bool} (hS : Sh S) (h : MGS T z B n c sl d i W) (hw : W.length < i) (v : Int32) : ∃ d', fX11_codes S d 94 v = some d' ∧ MGS T z B n c sl d' i (W ++ [v]) ∧ mlf d d' := by
  have hz := h.1.2.2.2.2
  obtain ⟨d', a1, a2, a3, a4⟩ := m_codes hS h.1.1 h.2.1 (by omega) v
  exact ⟨d', a1, ⟨h.1.eq a4 (a3.1.1 97 (by omega) (by omega)), a2, by rw [List.length_append]; simp; omega, by rw [a4]; exact h.2.2.2⟩, a3⟩
theorem MGS.eats {W : List Int32} {sl : Bool} (hS : Sh S) (hT : okT2 T z) (hN : NXT S T z B n c) (h : MGS T z B n c sl d i W) {a r : Int32} (hx : (a, r) ∈ rhl) (ha : a ≠ 202) : (T.1 i = a → ∃ d', fX11_eats S d 94 r = some (true, d') ∧ MGS T z B n c sl d' (i + 1) W ∧ mlf d d') ∧ (T.1 i ≠ a → fX11_eats S d 94 r = some (false, d)) := by
  obtain ⟨h1, h2⟩ := m_eatsG hS hT hN h.1 hx ha
  refine ⟨fun e => ?_, h2⟩
  obtain ⟨d', a1, a2, a3⟩ := h1 e
  have e98 := a3.1 98 (by omega)
  exact ⟨d', a1, ⟨a2, by unfold cdw; rw [e98]; exact h.2.1, by have := h.2.2.1; omega, by rw [a3.l.2.2]; exact h.2.2.2⟩, a3.l⟩
end
