/-! the reference reads a law -/
section
variable {S : sk_S} {T : TKS} {z : Nat} {B : Nat → Nat} {n : Nat} {c : Nat → Int32} {sl : Bool}
theorem MGS.fail {d : sk_D} {i : Nat} {W : List Int32} (hS : Sh S) (h : MGS T z B n c sl d i W) {y : Int32} (hy : y ≠ 0) : ∃ d', fX11_fails S d 94 y = some d' ∧ MFd d' (tfl T i y) ∧ mlf d d' := m_failG hS h.1 hy
theorem chain_ML (hT : okT2 T z) {X : Nat → PR} (hX : LENP z T X) {op : Int32 → Int32} (h2 : op 202 = 0) {body : sk_D → Option (sk_D ⊕ sk_D)}
    (b1 : ∀ d f, MFd d f → body d = some (.inr d))
    (b2 : ∀ d i W, MGS T z B n c sl d i W → op (T.1 i) = 0 → body d = some (.inr d))
    (b3 : ∀ d i W, MGS T z B n c sl d i W → op (T.1 i) ≠ 0 → ∃ d', body d = some (.inl d') ∧ mlf d d' ∧ (∀ x, X (i + 1) = .inl x → MFd d' x) ∧ ∀ y, X (i + 1) = .inr y → MGS T z B n c sl d' y.1 (W ++ y.2.map cod ++ [cod (op (T.1 i))])) :
    ∀ f k d i W w, f + k = 901 → k ≤ i → MGS T z B n c sl d i (W ++ w.map cod) → ∃ d', sk_itr body d = some d' ∧ mlf d d' ∧ (∀ x, chn T X op f i w = .inl x → MFd d' x) ∧ ∀ y, chn T X op f i w = .inr y → MGS T z B n c sl d' y.1 (W ++ y.2.map cod)
  | 0, k, d, i, W, w, hf, hk, h => by have := h.1.2.2.2.2; omega
  | f + 1, k, d, i, W, w, hf, hk, h => by
    have hz := h.1.2.2.2.2
    unfold chn
    by_cases q : op (T.1 i) = 0
    · rw [if_pos q]
      refine ⟨d, sk_itr_exit (b2 d i _ h q), mlf.refl _, fun x a => absurd a (by simp), fun y a => ?_⟩
      rw [← Sum.inr.inj a]; exact h
    · have hiz := op_lt hT hz.1 h2 q
      obtain ⟨d1, a1, a2, a3, a4⟩ := b3 d i _ h q
      rw [if_neg q, sk_itr_step a1]
      cases x : X (i + 1) with
      | inl v =>
        have F := a3 v x
        refine ⟨d1, sk_itr_exit (b1 d1 v F), a2, fun x a => ?_, fun y a => absurd a (by simp)⟩
        rw [← Sum.inl.inj a]; exact F
      | inr v =>
        have G := a4 v x
        have l := hX (i + 1) (by omega) v x
        have e : W ++ w.map cod ++ v.2.map cod ++ [cod (op (T.1 i))] = W ++ (w ++ v.2 ++ [op (T.1 i)]).map cod := by simp only [List.map_append, List.map_cons, List.map_nil, List.append_assoc]
        rw [e] at G
        obtain ⟨d2, c1, c2, c3⟩ := chain_ML hT hX h2 b1 b2 b3 f (k + 1) d1 v.1 W _ (by omega) (by omega) G
        exact ⟨d2, c1, a2.trans c2, c3⟩
theorem chain_M (hT : okT2 T z) {X : Nat → PR} (hX : LENP z T X) {op : Int32 → Int32} (h2 : op 202 = 0) {fn0 fn : sk_D → Option sk_D} {body : sk_D → Option (sk_D ⊕ sk_D)} (h0 : MC T z B n c sl fn0 X)
    (hfn : ∀ d, fn d = (fn0 d).bind fun d3 => (sk_itr body d3).bind fun x1 => some x1)
    (b1 : ∀ d f, MFd d f → body d = some (.inr d))
    (b2 : ∀ d i W, MGS T z B n c sl d i W → op (T.1 i) = 0 → body d = some (.inr d))
    (b3 : ∀ d i W, MGS T z B n c sl d i W → op (T.1 i) ≠ 0 → ∃ d', body d = some (.inl d') ∧ mlf d d' ∧ (∀ x, X (i + 1) = .inl x → MFd d' x) ∧ ∀ y, X (i + 1) = .inr y → MGS T z B n c sl d' y.1 (W ++ y.2.map cod ++ [cod (op (T.1 i))])) : MC T z B n c sl fn (chain T X op) := by
  refine ⟨fun d f h => ?_, fun d i W h => ?_⟩
  · obtain ⟨d1, a1, a2, a3⟩ := h0.1 d f h
    refine ⟨d1, ?_, a2, a3⟩
    rw [hfn, a1, Option.bind_some, sk_itr_exit (b1 d1 f a2)]
    rfl
  · obtain ⟨d1, a1, a2, a3, a4⟩ := h0.2 d i W h
    unfold chain
    cases x : X i with
    | inl v =>
      have F := a3 v x
      refine ⟨d1, ?_, a2, fun x a => by rw [← Sum.inl.inj a]; exact F, fun y a => absurd a (by simp)⟩
      rw [hfn, a1, Option.bind_some, sk_itr_exit (b1 d1 v F)]
      rfl
    | inr v =>
      obtain ⟨d2, c1, c2, c3, c4⟩ := chain_ML hT hX h2 b1 b2 b3 901 0 d1 v.1 W v.2 (by omega) (by omega) (a4 v x)
      refine ⟨d2, ?_, a2.trans c2, c3, c4⟩
      rw [hfn, a1, Option.bind_some, c1]
      rfl
/-- one more part, and its code -/
theorem more_M (hS : Sh S) {fn : sk_D → Option sk_D} {X : Nat → PR} (h0 : MC T z B n c sl fn X) (hX : LENP z T X) (v : Int32) {d : sk_D} {i : Nat} {W : List Int32} (hw : W.length ≤ i) (h : MGS T z B n c sl d (i + 1) W) :
    ∃ d2 d3, fn d = some d2 ∧ fX11_codes S d2 94 v = some d3 ∧ mlf d d3 ∧ (∀ x, X (i + 1) = .inl x → MFd d3 x) ∧ ∀ y, X (i + 1) = .inr y → MGS T z B n c sl d3 y.1 (W ++ y.2.map cod ++ [v]) := by
  obtain ⟨d2, b1, b2, b3, b4⟩ := h0.2 d (i + 1) W h
  cases x : X (i + 1) with
  | inl u =>
    have F := b3 u x
    exact ⟨d2, d2, b1, m_codesF hS F v, b2, fun x a => by rw [← Sum.inl.inj a]; exact F, fun y a => absurd a (by simp)⟩
  | inr u =>
    have l := hX (i + 1) h.1.2.2.2.2.1 u x
    obtain ⟨d3, c1, c2, c3⟩ := (b4 u x).code hS (by rw [List.length_append, List.length_map]; omega) v
    exact ⟨d2, d3, b1, c1, b2.trans c3, fun x a => absurd a (by simp), fun y a => by rw [← Sum.inr.inj a]; exact c2⟩
theorem m_readTerm (hS : Sh S) (hT : okT2 T z) (hN : NXT S T z B n c) {f : Nat} {dp : Int32} {X : Nat → PR} (h0 : MC T z B n c sl (fun d => gX11r S f 5 d 94 dp) X) (hX : LENP z T X) : MC T z B n c sl (fun d => gX11r S (f + 1) 4 d 94 dp) (chain T X oStar) := by
  refine chain_M (fn0 := fun d => gX11r S f 5 d 94 dp) (body := fX11_readTerm_L5 (gX11r S f) S 94 dp) hT hX (by decide) h0 (fun d => ?_) (fun d x h => ?_) (fun d i W h q => ?_) (fun d i W h q => ?_)
  · show fX11_readTerm_o (gX11r S f) S d 94 dp = _
    unfold fX11_readTerm_o
    rw [if_pos (kd94 hS)]
  · unfold fX11_readTerm_L5
    rw [if_pos (kd94 hS), m_eatsF hS h, Option.bind_some, if_neg (show ¬ (false, d).1 = true from Bool.false_ne_true)]
  · unfold fX11_readTerm_L5
    rw [if_pos (kd94 hS), (h.eats hS hT hN (a := 42) (r := 34) (by decide) (by decide)).2 (fun e => by rw [e] at q; exact absurd q (by decide)), Option.bind_some, if_neg (show ¬ (false, d).1 = true from Bool.false_ne_true)]
  · have e : T.1 i = 42 := by
      apply Classical.byContradiction
      intro w
      exact q (by unfold oStar; rw [if_neg w])
    have eo : cod (oStar (T.1 i)) = 3002 := by rw [e]; decide
    obtain ⟨d1, a1, a2, a3⟩ := (h.eats hS hT hN (a := 42) (r := 34) (by decide) (by decide)).1 e
    obtain ⟨d2, d3, b1, b2, b3, b4, b5⟩ := more_M hS h0 hX 3002 h.2.2.1 a2
    unfold fX11_readTerm_L5
    rw [if_pos (kd94 hS), a1, Option.bind_some, if_pos rfl, if_pos (kd94 hS), b1, Option.bind_some, if_pos (kd94 hS), b2, Option.bind_some, eo]
    exact ⟨d3, rfl, a3.trans b3, b4, b5⟩
theorem m_readBoth (hS : Sh S) (hT : okT2 T z) (hN : NXT S T z B n c) {f : Nat} {dp : Int32} {X : Nat → PR} (h0 : MC T z B n c sl (fun d => gX11r S f 2 d 94 dp) X) (hX : LENP z T X) : MC T z B n c sl (fun d => gX11r S (f + 1) 1 d 94 dp) (chain T X oAnd) := by
  refine chain_M (fn0 := fun d => gX11r S f 2 d 94 dp) (body := fX11_readBoth_L5 (gX11r S f) S 94 dp) hT hX (by decide) h0 (fun d => ?_) (fun d x h => ?_) (fun d i W h q => ?_) (fun d i W h q => ?_)
  · show fX11_readBoth_o (gX11r S f) S d 94 dp = _
    unfold fX11_readBoth_o
    rw [if_pos (kd94 hS)]
  · unfold fX11_readBoth_L5
    rw [if_pos (kd94 hS), m_eatsF hS h, Option.bind_some, if_neg (show ¬ (false, d).1 = true from Bool.false_ne_true)]
  · unfold fX11_readBoth_L5
    rw [if_pos (kd94 hS), (h.eats hS hT hN (a := 17) (r := 16) (by decide) (by decide)).2 (fun e => by rw [e] at q; exact absurd q (by decide)), Option.bind_some, if_neg (show ¬ (false, d).1 = true from Bool.false_ne_true)]
  · have e : T.1 i = 17 := by
      apply Classical.byContradiction
      intro w
      exact q (by unfold oAnd; rw [if_neg w])
    have eo : cod (oAnd (T.1 i)) = 3007 := by rw [e]; decide
    obtain ⟨d1, a1, a2, a3⟩ := (h.eats hS hT hN (a := 17) (r := 16) (by decide) (by decide)).1 e
    obtain ⟨d2, d3, b1, b2, b3, b4, b5⟩ := more_M hS h0 hX 3007 h.2.2.1 a2
    unfold fX11_readBoth_L5
    rw [if_pos (kd94 hS), a1, Option.bind_some, if_pos rfl, if_pos (kd94 hS), b1, Option.bind_some, if_pos (kd94 hS), b2, Option.bind_some, eo]
    exact ⟨d3, rfl, a3.trans b3, b4, b5⟩
theorem m_readTruth (hS : Sh S) (hT : okT2 T z) (hN : NXT S T z B n c) {f : Nat} {dp : Int32} {X : Nat → PR} (h0 : MC T z B n c sl (fun d => gX11r S f 1 d 94 dp) X) (hX : LENP z T X) : MC T z B n c sl (fun d => gX11r S (f + 1) 0 d 94 dp) (chain T X oOr) := by
  refine chain_M (fn0 := fun d => gX11r S f 1 d 94 dp) (body := fX11_readTruth_L5 (gX11r S f) S 94 dp) hT hX (by decide) h0 (fun d => ?_) (fun d x h => ?_) (fun d i W h q => ?_) (fun d i W h q => ?_)
  · show fX11_readTruth_o (gX11r S f) S d 94 dp = _
    unfold fX11_readTruth_o
    rw [if_pos (kd94 hS)]
  · unfold fX11_readTruth_L5
    rw [if_pos (kd94 hS), m_eatsF hS h, Option.bind_some, if_neg (show ¬ (false, d).1 = true from Bool.false_ne_true)]
  · unfold fX11_readTruth_L5
    rw [if_pos (kd94 hS), (h.eats hS hT hN (a := 16) (r := 17) (by decide) (by decide)).2 (fun e => by rw [e] at q; exact absurd q (by decide)), Option.bind_some, if_neg (show ¬ (false, d).1 = true from Bool.false_ne_true)]
  · have e : T.1 i = 16 := by
      apply Classical.byContradiction
      intro w
      exact q (by unfold oOr; rw [if_neg w])
    have eo : cod (oOr (T.1 i)) = 3008 := by rw [e]; decide
    obtain ⟨d1, a1, a2, a3⟩ := (h.eats hS hT hN (a := 16) (r := 17) (by decide) (by decide)).1 e
    obtain ⟨d2, d3, b1, b2, b3, b4, b5⟩ := more_M hS h0 hX 3008 h.2.2.1 a2
    unfold fX11_readTruth_L5
    rw [if_pos (kd94 hS), a1, Option.bind_some, if_pos rfl, if_pos (kd94 hS), b1, Option.bind_some, if_pos (kd94 hS), b2, Option.bind_some, eo]
    exact ⟨d3, rfl, a3.trans b3, b4, b5⟩
theorem m_readSum (hS : Sh S) (hT : okT2 T z) (hN : NXT S T z B n c) {f : Nat} {dp : Int32} {X : Nat → PR} (h0 : MC T z B n c sl (fun d => gX11r S f 4 d 94 dp) X) (hX : LENP z T X) : MC T z B n c sl (fun d => gX11r S (f + 1) 3 d 94 dp) (chain T X oPlus) := by
  refine chain_M (fn0 := fun d => gX11r S f 4 d 94 dp) (body := fX11_readSum_L5 (gX11r S f) S 94 dp) hT hX (by decide) h0 (fun d => ?_) (fun d x h => ?_) (fun d i W h q => ?_) (fun d i W h q => ?_)
  · show fX11_readSum_o (gX11r S f) S d 94 dp = _
    unfold fX11_readSum_o
    rw [if_pos (kd94 hS)]
  · unfold fX11_readSum_L5
    rw [if_pos (kd94 hS), m_isF hS h, Option.bind_some, if_neg (by decide), if_pos (kd94 hS), m_isF hS h, Option.bind_some, if_neg (by decide)]
  · unfold fX11_readSum_L5
    rw [if_pos (kd94 hS), m_isG hS h.1 (a := 43) (r := 32) (by decide), Option.bind_some, decide_eq_false (fun e => by rw [e] at q; exact absurd q (by decide)), if_neg (by decide), if_pos (kd94 hS), m_isG hS h.1 (a := 45) (r := 33) (by decide), Option.bind_some, decide_eq_false (fun e => by rw [e] at q; exact absurd q (by decide)), if_neg (by decide)]
  · have e : T.1 i = 43 ∨ T.1 i = 45 := by
      apply Classical.byContradiction
      intro w
      exact q (by unfold oPlus; rw [if_neg (fun a => w (Or.inl a)), if_neg (fun a => w (Or.inr a))])
    obtain ⟨d1, a1, a2, a3⟩ := h.next hN (op_lt hT h.1.2.2.2.2.1 (by decide) q)
    obtain ⟨d2, d3, b1, b2, b3, b4, b5⟩ := more_M hS h0 hX (cod (oPlus (T.1 i))) h.2.2.1 a2
    have j23 : fX11_readSum_J23i5 (gX11r S f) S 94 dp d = some (.inl d3) := by
      unfold fX11_readSum_J23i5 fX11_readSum_J41i5
      rw [gi94 hS, Option.bind_some, h.1.2.1]
      rcases e with e | e
      · have : cod (oPlus (T.1 i)) = 3000 := by rw [e]; decide
        rw [this] at b2
        rw [if_pos (by rw [e]; decide), if_pos (kd94 hS), a1, Option.bind_some, if_pos (kd94 hS), b1, Option.bind_some, if_pos (kd94 hS), b2, Option.bind_some]
      · have : cod (oPlus (T.1 i)) = 3001 := by rw [e]; decide
        rw [this] at b2
        rw [if_neg (by rw [e]; decide), if_pos (kd94 hS), a1, Option.bind_some, if_pos (kd94 hS), b1, Option.bind_some, if_pos (kd94 hS), b2, Option.bind_some]
    unfold fX11_readSum_L5
    rw [if_pos (kd94 hS), m_isG hS h.1 (a := 43) (r := 32) (by decide), Option.bind_some]
    rcases e with e | e
    · rw [decide_eq_true e, if_pos rfl, j23]
      exact ⟨d3, rfl, a3.trans b3, b4, b5⟩
    · rw [decide_eq_false (by rw [e]; decide), if_neg (by decide), if_pos (kd94 hS), m_isG hS h.1 (a := 45) (r := 33) (by decide), Option.bind_some, decide_eq_true e, if_pos rfl, j23]
      exact ⟨d3, rfl, a3.trans b3, b4, b5⟩
theorem m_goes0 {d : sk_D} {i : Nat} {W : List Int32} (hS : Sh S) (h : MGS T z B n c sl d i W) : ∃ d', fX11_goesIn S d 94 (nI 6) = some (false, d') ∧ MFd d' (tfl T i 4) ∧ mlf d d' := by
  obtain ⟨d1, a1, a2, a3⟩ := h.fail hS (y := 4) (by decide)
  unfold fX11_goesIn fX11_goesIn_J11
  rw [if_pos (by decide), if_pos (kd94 hS), a1, Option.bind_some, gi94 hS, Option.bind_some, a2.1, if_neg a2.2.1, Option.bind_some, if_neg a2.2.1]
  exact ⟨d1, rfl, a2, a3⟩
theorem m_goes {d : sk_D} {i r : Nat} {W : List Int32} (hS : Sh S) (hN : NXT S T z B n c) (h : MGS T z B n c sl d i W) (hi : i < z) (h1 : 1 ≤ r) (h2 : r ≤ 6) : ∃ d', fX11_goesIn S d 94 (nI (6 - r)) = some (true, d') ∧ MGS T z B n c sl d' (i + 1) W ∧ mlf d d' := by
  obtain ⟨d1, a1, a2, a3⟩ := h.next hN hi
  unfold fX11_goesIn fX11_goesIn_J11
  rw [if_neg (by rw [show (6 : Int32) = nI 6 from rfl, nI_eq (by omega) (by omega)]; omega), gi94 hS, Option.bind_some, h.1.1, if_pos rfl, if_pos (kd94 hS), a1, Option.bind_some, gi94 hS, Option.bind_some, a2.1.1, if_pos rfl]
  exact ⟨d1, rfl, a2, a3⟩
theorem close_M (hS : Sh S) (hT : okT2 T z) (hN : NXT S T z B n c) {fn : sk_D → Option sk_D} {X : Nat → PR} (h0 : MC T z B n c sl fn X) {k r : Int32} (hx : (k, r) ∈ rhl) (hk : k ≠ 202) {d : sk_D} {i : Nat} {W : List Int32} (h : MGS T z B n c sl d i W) :
    ∃ d', ((fn d).bind fun d19 => if S.2.1 94 = (10, 0) then ((fX11_eats S d19 94 r).bind fun b25 => if b25.1 = true then (some b25.2) else (if S.2.1 94 = (10, 0) then ((fX11_fails S b25.2 94 (2 : Int32)).bind fun d30 => some d30) else none)) else none) = some d' ∧ mlf d d' ∧ (∀ x, closeB T k (X i) = .inl x → MFd d' x) ∧ ∀ y, closeB T k (X i) = .inr y → MGS T z B n c sl d' y.1 (W ++ y.2.map cod) := by
  obtain ⟨d1, a1, a2, a3, a4⟩ := h0.2 d i W h
  unfold closeB
  rw [a1, Option.bind_some, if_pos (kd94 hS)]
  cases x : X i with
  | inl v =>
    have F := a3 v x
    rw [m_eatsF hS F, Option.bind_some, if_neg (show ¬ (false, d1).1 = true from Bool.false_ne_true), if_pos (kd94 hS), m_failF hS F]
    exact ⟨d1, rfl, a2, fun x a => by rw [← Sum.inl.inj a]; exact F, fun y a => absurd a (by simp)⟩
  | inr v =>
    have G := a4 v x
    have ea := G.eats hS hT hN hx hk
    dsimp only
    by_cases q : T.1 v.1 = k
    · obtain ⟨d2, b1, b2, b3⟩ := ea.1 q
      rw [b1, Option.bind_some, if_pos rfl, if_pos q]
      exact ⟨d2, rfl, a2.trans b3, fun x a => absurd a (by simp), fun y a => by rw [← Sum.inr.inj a]; exact b2⟩
    · obtain ⟨d2, b1, b2, b3⟩ := G.fail hS (y := 2) (by decide)
      rw [ea.2 q, Option.bind_some, if_neg (show ¬ (false, d1).1 = true from Bool.false_ne_true), if_pos (kd94 hS), b1, if_neg q]
      exact ⟨d2, rfl, a2.trans b3, fun x a => by rw [← Sum.inl.inj a]; exact b2, fun y a => absurd a (by simp)⟩
theorem m_wordOf (hS : Sh S) {d : sk_D} (h15 : d.1 94 15 = sk_b sl) (k : Int32) : fX11_wordOf S d 94 (rho k) = some (if stp sl k = 0 then -1 else cod (stp sl k) - 1000) := by
  unfold fX11_wordOf
  have r2 := rho_if (a := 2) (r := 2) (by decide) k
  have r3 := rho_if (a := 3) (r := 3) (by decide) k
  have r4 := rho_if (a := 4) (r := 4) (by decide) k
  have r11 := rho_if (a := 7) (r := 11) (by decide) k
  have r14 := rho_if (a := 5) (r := 14) (by decide) k
  have r15 := rho_if (a := 6) (r := 15) (by decide) k
  by_cases k2 : k = 2
  · rw [if_pos (r2.mpr k2), k2]; cases sl <;> decide
  by_cases k3 : k = 3
  · rw [if_neg (fun e => k2 (r2.mp e)), if_pos (r3.mpr k3), k3]; cases sl <;> decide
  by_cases k4 : k = 4
  · rw [if_neg (fun e => k2 (r2.mp e)), if_neg (fun e => k3 (r3.mp e)), if_pos (r4.mpr k4), k4]; cases sl <;> decide
  by_cases k7 : k = 7
  · rw [gi94 hS, Option.bind_some, h15, k7]; cases sl <;> decide
  by_cases k5 : k = 5
  · rw [k5, show rho 5 = 14 by decide]; cases sl <;> rfl
  by_cases k6 : k = 6
  · rw [k6, show rho 6 = 15 by decide]; cases sl <;> rfl
  have s0 : stp sl k = 0 := by unfold stp; rw [if_neg k2, if_neg k3, if_neg k4, if_neg k5, if_neg k6, if_neg k7]
  rw [if_neg (fun e => k2 (r2.mp e)), if_neg (fun e => k3 (r3.mp e)), if_neg (fun e => k4 (r4.mp e)), if_pos s0]
  simp only [show ¬ rho k = 11 from fun e => k7 (r11.mp e), show ¬ rho k = 14 from fun e => k5 (r14.mp e), show ¬ rho k = 15 from fun e => k6 (r15.mp e), if_false, ite_self]
theorem stp_cod (sl : Bool) (k : Int32) (h : stp sl k ≠ 0) : cod (stp sl k) - 1000 ≠ -1 ∧ (1000 : Int32) + (cod (stp sl k) - 1000) = cod (stp sl k) := by
  revert h
  unfold stp
  cases sl <;> (repeat' split) <;> decide
theorem m_readAtom (hS : Sh S) (hT : okT2 T z) (hN : NXT S T z B n c) {r f : Nat} (hr : r ≤ 6) {o : Option (Nat → PR)} (ho : (r = 0 ∧ o = none) ∨ (∃ X, o = some X ∧ 1 ≤ r ∧ MC T z B n c sl (fun d => gX11r S f 3 d 94 (nI (6 - r + 1))) X)) : MC T z B n c sl (fun d => gX11r S (f + 1) 5 d 94 (nI (6 - r))) (gAtom T sl o) := by
  refine ⟨fun d x h => ?_, fun d i W h => ?_⟩
  · refine ⟨d, ?_, h, mlf.refl _⟩
    show fX11_readAtom_o (gX11r S f) S d 94 (nI (6 - r)) = some d
    unfold fX11_readAtom_o fX11_readAtom_J66
    rw [if_pos (kd94 hS), m_isF hS h, Option.bind_some, if_neg (by decide), gi94 hS, Option.bind_some, h.1, if_neg h.2.1, if_pos (kd94 hS), m_isF hS h, Option.bind_some, if_neg (by decide), if_pos (kd94 hS), m_failF hS h]
    rfl
  · have hz := h.1.2.2.2.2
    have hl := h.2.2.1
    have put : ∀ v : Int32, i < z → ∃ d1 d2, fX11_codes S d 94 v = some d1 ∧ fX11_next S d1 94 = some d2 ∧ mlf d d2 ∧ MGS T z B n c sl d2 (i + 1) (W ++ [v]) := by
      intro v hiz
      obtain ⟨d1, a1, a2, a3, a4⟩ := m_codes hS h.1.1 h.2.1 (by omega) v
      have g1 := h.1.eq a4 (a3.1.1 97 (by omega) (by omega))
      obtain ⟨d2, b1, b2, b3⟩ := m_nextG hN g1 hiz
      have e98 := b3.1 98 (by omega)
      exact ⟨d1, d2, a1, b1, a3.trans b3.l, b2, by unfold cdw; rw [e98]; exact a2, by rw [List.length_append]; simp; omega, by rw [b3.l.2.2, a3.2.2]; exact h.2.2.2⟩
    show ∃ d', fX11_readAtom_o (gX11r S f) S d 94 (nI (6 - r)) = some d' ∧ _
    unfold fX11_readAtom_o gAtom
    rw [if_pos (kd94 hS), m_isG hS h.1 (a := 200) (r := 23) (by decide), Option.bind_some]
    by_cases k200 : T.1 i = 200
    · obtain ⟨v, hv, ev⟩ := hT.2.2.2 i hz.1 k200
      have cv0 : cod (T.2.2 i) = T.2.2 i := by
        unfold cod
        rw [ev, if_pos (by rw [show (0 : Int32) = nI 0 from rfl, nI_leI (by omega) (by omega)]; omega)]
      obtain ⟨d1, d2, a1, a2, a3, a4⟩ := put (T.2.2 i) (tk_lt hT hz.1 (by rw [k200]; decide))
      rw [decide_eq_true k200, if_pos rfl, gi94 hS, Option.bind_some, h.1.2.2.2.1 k200, if_pos (kd94 hS), a1, Option.bind_some, if_pos (kd94 hS), a2, if_pos k200]
      refine ⟨d2, rfl, a3, fun x a => absurd a (by simp), fun y a => ?_⟩
      rw [← Sum.inr.inj a]
      show MGS T z B n c sl d2 (i + 1) (W ++ [cod (T.2.2 i)])
      rw [cv0]
      exact a4
    · rw [decide_eq_false k200, if_neg (by decide), gi94 hS, Option.bind_some, h.1.1, if_pos rfl, gi94 hS, Option.bind_some, h.1.2.1, if_pos (kd94 hS), m_wordOf hS h.2.2.2, Option.bind_some, if_neg k200]
      by_cases k40 : T.1 i = 40
      · have hiz := tk_lt hT hz.1 (by rw [k40]; decide)
        have s0 : stp sl (T.1 i) = 0 := by rw [k40]; cases sl <;> rfl
        rw [if_pos (by rw [if_pos s0]), if_pos k40]
        unfold fX11_readAtom_J66
        rw [if_pos (kd94 hS), m_isG hS h.1 (a := 40) (r := 35) (by decide), Option.bind_some, decide_eq_true k40, if_pos rfl, if_pos (kd94 hS)]
        rcases ho with ⟨r0, rfl⟩ | ⟨X, rfl, r1, hX⟩
        · obtain ⟨d1, a1, a2, a3⟩ := m_goes0 hS h
          rw [r0, a1, Option.bind_some, if_neg (show ¬ (false, d1).1 = true from Bool.false_ne_true)]
          exact ⟨d1, rfl, a3, fun x a => by rw [← Sum.inl.inj a]; exact a2, fun y a => absurd a (by simp)⟩
        · obtain ⟨d1, a1, a2, a3⟩ := m_goes hS hN h hiz r1 hr
          obtain ⟨d2, b1, b2, b3, b4⟩ := close_M hS hT hN hX (k := 41) (r := 36) (by decide) (by decide) a2
          rw [a1, Option.bind_some, if_pos rfl, if_pos (kd94 hS), nI_1, b1]
          exact ⟨d2, rfl, a3.trans b2, b3, b4⟩
      · rw [if_neg k40]
        by_cases s0 : stp sl (T.1 i) = 0
        · obtain ⟨d1, a1, a2, a3⟩ := h.fail hS (y := 2) (by decide)
          rw [if_pos (by rw [if_pos s0]), if_pos s0]
          unfold fX11_readAtom_J66
          rw [if_pos (kd94 hS), m_isG hS h.1 (a := 40) (r := 35) (by decide), Option.bind_some, decide_eq_false k40, if_neg (by decide), if_pos (kd94 hS), a1]
          exact ⟨d1, rfl, a3, fun x a => by rw [← Sum.inl.inj a]; exact a2, fun y a => absurd a (by simp)⟩
        · obtain ⟨c1, c2⟩ := stp_cod sl (T.1 i) s0
          obtain ⟨d1, d2, a1, a2, a3, a4⟩ := put (cod (stp sl (T.1 i))) (tk_lt hT hz.1 (fun e => s0 (by rw [e]; exact stp_202 sl)))
          rw [if_neg (by rw [if_neg s0]; exact c1), if_neg s0, Option.bind_some, if_pos (kd94 hS), m_wordOf hS h.2.2.2, Option.bind_some, if_neg s0, c2, if_pos (kd94 hS), a1, Option.bind_some, if_pos (kd94 hS), a2]
          exact ⟨d2, rfl, a3, fun x a => absurd a (by simp), fun y a => by rw [← Sum.inr.inj a]; exact a4⟩
end
