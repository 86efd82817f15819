/-! the class reads a law: the parts in their order -/
section
variable {S : sk_S} {T : TKS} {z a : Nat} {sl : Bool}
theorem c_term (hS : Sh S) (hT : okT2 T z) (ha : LA1 S a) {f : Nat} {dp : Int32} {X : Nat → PR} (h0 : CC T z a sl (fun d => gX5 S f 6 d 21 a dp) X) (hX : LENP z T X) : CC T z a sl (fun d => gX5 S (f + 1) 5 d 21 a dp) (chain T X oStar) := by
  have n9 : ∀ n, n < 900 → ¬ (900 : Int32) ≤ nI n := fun n hn => nI_ge (b := 900) hn (by omega)
  refine chain_C (fn0 := fun d => gX5 S f 6 d 21 a dp) (body := fX5_term_L8 (gX5 S f) S 21 a dp) hT hX (by decide) h0 (fun d => ?_) (fun n d x hn h => ?_) (fun n d i w hn h c => ?_) (fun d => ?_) (fun n d i w hn h c => ?_)
  · show fX5_term_o (gX5 S f) S d 21 a dp = _
    unfold fX5_term_o
    rw [if_pos (kd21 hS)]
  · unfold fX5_term_L8
    dsimp only
    by_cases q : (900 : Int32) ≤ nI n
    · rw [if_pos q]
    · rw [if_neg q, if_pos (kd21 hS), c_kindF hS h.1, Option.bind_some, if_neg (by decide)]
  · unfold fX5_term_L8
    dsimp only
    rw [if_neg (n9 n hn), if_pos (kd21 hS), c_kindG hS h.1, Option.bind_some, if_neg (fun e => by rw [e] at c; exact absurd c (by decide))]
  · unfold fX5_term_L8
    dsimp only
    rw [if_pos (show (900 : Int32) ≤ nI 900 by decide)]
  · have e : T.1 i = 42 := by
      apply Classical.byContradiction
      intro q
      exact c (by unfold oStar; rw [if_neg q])
    have eo : oStar (T.1 i) = -9 := by rw [e]; rfl
    obtain ⟨d1, d2, d3, a1, a2, a3, a4, a5, a6⟩ := more_C hS hT ha h0 hX (-9) h (tk_lt hT h.1.2.2.2.1 (by rw [e]; decide))
    unfold fX5_term_L8
    dsimp only
    rw [if_neg (n9 n hn), if_pos (kd21 hS), c_kindG hS h.1, Option.bind_some, if_pos e, if_pos (kd21 hS), a1, Option.bind_some, if_pos (kd21 hS), a2, Option.bind_some, if_pos ha.1, a3, Option.bind_some, nI_1, eo]
    exact ⟨d3, rfl, a4, a5, a6⟩
theorem c_both (hS : Sh S) (hT : okT2 T z) (ha : LA1 S a) {f : Nat} {dp : Int32} {X : Nat → PR} (h0 : CC T z a sl (fun d => gX5 S f 2 d 21 a dp) X) (hX : LENP z T X) : CC T z a sl (fun d => gX5 S (f + 1) 1 d 21 a dp) (chain T X oAnd) := by
  have n9 : ∀ n, n < 900 → ¬ (900 : Int32) ≤ nI n := fun n hn => nI_ge (b := 900) hn (by omega)
  refine chain_C (fn0 := fun d => gX5 S f 2 d 21 a dp) (body := fX5_both_L8 (gX5 S f) S 21 a dp) hT hX (by decide) h0 (fun d => ?_) (fun n d x hn h => ?_) (fun n d i w hn h c => ?_) (fun d => ?_) (fun n d i w hn h c => ?_)
  · show fX5_both_o (gX5 S f) S d 21 a dp = _
    unfold fX5_both_o
    rw [if_pos (kd21 hS)]
  · unfold fX5_both_L8
    dsimp only
    by_cases q : (900 : Int32) ≤ nI n
    · rw [if_pos q]
    · rw [if_neg q, if_pos (kd21 hS), c_kindF hS h.1, Option.bind_some, if_neg (by decide)]
  · unfold fX5_both_L8
    dsimp only
    rw [if_neg (n9 n hn), if_pos (kd21 hS), c_kindG hS h.1, Option.bind_some, if_neg (fun e => by rw [e] at c; exact absurd c (by decide))]
  · unfold fX5_both_L8
    dsimp only
    rw [if_pos (show (900 : Int32) ≤ nI 900 by decide)]
  · have e : T.1 i = 17 := by
      apply Classical.byContradiction
      intro q
      exact c (by unfold oAnd; rw [if_neg q])
    have eo : oAnd (T.1 i) = -13 := by rw [e]; rfl
    obtain ⟨d1, d2, d3, a1, a2, a3, a4, a5, a6⟩ := more_C hS hT ha h0 hX (-13) h (tk_lt hT h.1.2.2.2.1 (by rw [e]; decide))
    unfold fX5_both_L8
    dsimp only
    rw [if_neg (n9 n hn), if_pos (kd21 hS), c_kindG hS h.1, Option.bind_some, if_pos e, if_pos (kd21 hS), a1, Option.bind_some, if_pos (kd21 hS), a2, Option.bind_some, if_pos ha.1, a3, Option.bind_some, nI_1, eo]
    exact ⟨d3, rfl, a4, a5, a6⟩
theorem c_truth (hS : Sh S) (hT : okT2 T z) (ha : LA1 S a) {f : Nat} {dp : Int32} {X : Nat → PR} (h0 : CC T z a sl (fun d => gX5 S f 1 d 21 a dp) X) (hX : LENP z T X) : CC T z a sl (fun d => gX5 S (f + 1) 0 d 21 a dp) (chain T X oOr) := by
  have n9 : ∀ n, n < 900 → ¬ (900 : Int32) ≤ nI n := fun n hn => nI_ge (b := 900) hn (by omega)
  refine chain_C (fn0 := fun d => gX5 S f 1 d 21 a dp) (body := fX5_truth_L8 (gX5 S f) S 21 a dp) hT hX (by decide) h0 (fun d => ?_) (fun n d x hn h => ?_) (fun n d i w hn h c => ?_) (fun d => ?_) (fun n d i w hn h c => ?_)
  · show fX5_truth_o (gX5 S f) S d 21 a dp = _
    unfold fX5_truth_o
    rw [if_pos (kd21 hS)]
  · unfold fX5_truth_L8
    dsimp only
    by_cases q : (900 : Int32) ≤ nI n
    · rw [if_pos q]
    · rw [if_neg q, if_pos (kd21 hS), c_kindF hS h.1, Option.bind_some, if_neg (by decide)]
  · unfold fX5_truth_L8
    dsimp only
    rw [if_neg (n9 n hn), if_pos (kd21 hS), c_kindG hS h.1, Option.bind_some, if_neg (fun e => by rw [e] at c; exact absurd c (by decide))]
  · unfold fX5_truth_L8
    dsimp only
    rw [if_pos (show (900 : Int32) ≤ nI 900 by decide)]
  · have e : T.1 i = 16 := by
      apply Classical.byContradiction
      intro q
      exact c (by unfold oOr; rw [if_neg q])
    have eo : oOr (T.1 i) = -14 := by rw [e]; rfl
    obtain ⟨d1, d2, d3, a1, a2, a3, a4, a5, a6⟩ := more_C hS hT ha h0 hX (-14) h (tk_lt hT h.1.2.2.2.1 (by rw [e]; decide))
    unfold fX5_truth_L8
    dsimp only
    rw [if_neg (n9 n hn), if_pos (kd21 hS), c_kindG hS h.1, Option.bind_some, if_pos e, if_pos (kd21 hS), a1, Option.bind_some, if_pos (kd21 hS), a2, Option.bind_some, if_pos ha.1, a3, Option.bind_some, nI_1, eo]
    exact ⟨d3, rfl, a4, a5, a6⟩
theorem c_sum (hS : Sh S) (hT : okT2 T z) (ha : LA1 S a) {f : Nat} {dp : Int32} {X : Nat → PR} (h0 : CC T z a sl (fun d => gX5 S f 5 d 21 a dp) X) (hX : LENP z T X) : CC T z a sl (fun d => gX5 S (f + 1) 4 d 21 a dp) (chain T X oPlus) := by
  have n9 : ∀ n, n < 900 → ¬ (900 : Int32) ≤ nI n := fun n hn => nI_ge (b := 900) hn (by omega)
  refine chain_C (fn0 := fun d => gX5 S f 5 d 21 a dp) (body := fX5_sum_L8 (gX5 S f) S 21 a dp) hT hX (by decide) h0 (fun d => ?_) (fun n d x hn h => ?_) (fun n d i w hn h c => ?_) (fun d => ?_) (fun n d i w hn h c => ?_)
  · show fX5_sum_o (gX5 S f) S d 21 a dp = _
    unfold fX5_sum_o
    rw [if_pos (kd21 hS)]
  · unfold fX5_sum_L8
    dsimp only
    by_cases q : (900 : Int32) ≤ nI n
    · rw [if_pos q]
    · rw [if_neg q, if_pos (kd21 hS), c_kindF hS h.1, Option.bind_some, if_neg (by decide), if_pos (kd21 hS), Option.bind_some, if_neg (by decide)]
  · unfold fX5_sum_L8
    dsimp only
    rw [if_neg (n9 n hn), if_pos (kd21 hS), c_kindG hS h.1, Option.bind_some, if_neg (fun e => by rw [e] at c; exact absurd c (by decide)), if_pos (kd21 hS), Option.bind_some, if_neg (fun e => by rw [e] at c; exact absurd c (by decide))]
  · unfold fX5_sum_L8
    dsimp only
    rw [if_pos (show (900 : Int32) ≤ nI 900 by decide)]
  · have e : T.1 i = 43 ∨ T.1 i = 45 := by
      apply Classical.byContradiction
      intro q
      exact c (by unfold oPlus; rw [if_neg (fun a => q (Or.inl a)), if_neg (fun a => q (Or.inr a))])
    obtain ⟨d1, d2, d3, a1, a2, a3, a4, a5, a6⟩ := more_C hS hT ha h0 hX (oPlus (T.1 i)) h (op_lt hT h.1.2.2.2.1 (by decide) c)
    have j49 : fX5_sum_J49i8 (gX5 S f) S 21 a dp (nI n) (oPlus (T.1 i)) d = some (.inl (nI (n + 1), d3)) := by
      unfold fX5_sum_J49i8
      rw [if_pos (kd21 hS), a1, Option.bind_some, if_pos (kd21 hS), a2, Option.bind_some, if_pos ha.1, a3, Option.bind_some, nI_1]
    have j33 : fX5_sum_J33i8 (gX5 S f) S 21 a dp (nI n) d = some (.inl (nI (n + 1), d3)) := by
      unfold fX5_sum_J33i8
      rw [if_pos (kd21 hS), c_kindG hS h.1, Option.bind_some]
      rcases e with e | e
      · rw [if_pos e]
        have : oPlus (T.1 i) = -7 := by rw [e]; rfl
        rw [this] at j49
        exact j49
      · rw [if_neg (by rw [e]; decide)]
        have : oPlus (T.1 i) = -8 := by rw [e]; rfl
        rw [this] at j49
        exact j49
    unfold fX5_sum_L8
    dsimp only
    rw [if_neg (n9 n hn), if_pos (kd21 hS), c_kindG hS h.1, Option.bind_some]
    rcases e with e | e
    · rw [if_pos e, j33]
      exact ⟨d3, rfl, a4, a5, a6⟩
    · rw [if_neg (by rw [e]; decide), if_pos (kd21 hS), Option.bind_some, if_pos e, j33]
      exact ⟨d3, rfl, a4, a5, a6⟩
theorem c_gSum (hS : Sh S) (hT : okT2 T z) (ha : LA1 S a) : ∀ r f, r ≤ 6 → 4 * r + 4 ≤ f → CC T z a sl (fun d => gX5 S f 4 d 21 a (nI (6 - r))) (gSum T sl r)
  | 0, f + 4, hr, hf => c_sum hS hT ha (c_term hS hT ha (c_atom (r := 0) hS hT ha hr (Or.inl ⟨rfl, rfl⟩)) (atom_len hT sl (fun s e => absurd e (by simp)))) (chain_len hT (atom_len hT sl (fun s e => absurd e (by simp))) (by decide))
  | r + 1, f + 4, hr, hf => by
    have ih := c_gSum hS hT ha r f (by omega) (by omega)
    have e : 6 - r = 6 - (r + 1) + 1 := by omega
    rw [e] at ih
    have ln : LENP z T (gAtom T sl (some (gSum T sl r))) := atom_len hT sl (fun s e => by obtain rfl := Option.some.inj e; exact sum_len hT sl r)
    exact c_sum hS hT ha (c_term hS hT ha (c_atom (r := r + 1) hS hT ha hr (Or.inr ⟨_, rfl, by omega, ih⟩)) ln) (chain_len hT ln (by decide))
  | 0, 0, hr, hf => by omega
  | 0, 1, hr, hf => by omega
  | 0, 2, hr, hf => by omega
  | 0, 3, hr, hf => by omega
  | r + 1, 0, hr, hf => by omega
  | r + 1, 1, hr, hf => by omega
  | r + 1, 2, hr, hf => by omega
  | r + 1, 3, hr, hf => by omega
theorem c_compared (hS : Sh S) (hT : okT2 T z) (ha : LA1 S a) {f : Nat} {dp : Int32} {X : Nat → PR} (h0 : CC T z a sl (fun d => gX5 S f 4 d 21 a dp) X) (hX : LENP z T X) : CC T z a sl (fun d => gX5 S (f + 1) 3 d 21 a dp) (gComp T X) := by
  refine ⟨fun d x h => ?_, fun d i w h => ?_⟩
  · obtain ⟨d1, a1, a2, a3⟩ := h0.1 d x h
    refine ⟨d1, ?_, a2, a3⟩
    show fX5_compared_o (gX5 S f) S d 21 a dp = some d1
    unfold fX5_compared_o
    dsimp only at a1
    rw [if_pos (kd21 hS), a1, Option.bind_some, if_pos (kd21 hS), c_kindF hS a2.1, Option.bind_some, if_neg (by decide), if_neg (by decide), if_neg (by decide), if_pos (kd21 hS), c_failF hS a2.1]
    rfl
  · obtain ⟨d1, a1, a2, a3, a4⟩ := h0.2 d i w h
    show ∃ d', fX5_compared_o (gX5 S f) S d 21 a dp = some d' ∧ _
    unfold fX5_compared_o gComp
    dsimp only at a1
    rw [if_pos (kd21 hS), a1, Option.bind_some, if_pos (kd21 hS)]
    cases x : X i with
    | inl v =>
      have F := a3 v x
      rw [c_kindF hS F.1, Option.bind_some, if_neg (by decide), if_neg (by decide), if_neg (by decide), if_pos (kd21 hS), c_failF hS F.1]
      exact ⟨d1, rfl, a2, fun x a => by rw [← Sum.inl.inj a]; exact F, fun y a => absurd a (by simp)⟩
    | inr v =>
      have G := a4 v x
      have l1 := hX i h.1.2.2.2.1 v x
      rw [c_kindG hS G.1, Option.bind_some]
      dsimp only
      by_cases c : oCmp (T.1 v.1) = 0
      · obtain ⟨d2, b1, b2, b3⟩ := G.fail hS ha (y := 2) (by decide)
        rw [if_pos c, if_neg (fun e => by rw [e] at c; exact absurd c (by decide)), if_neg (fun e => by rw [e] at c; exact absurd c (by decide)), if_neg (fun e => by rw [e] at c; exact absurd c (by decide)), if_pos (kd21 hS), b1]
        exact ⟨d2, rfl, a2.trans b3, fun x a => by rw [← Sum.inl.inj a]; exact b2, fun y a => absurd a (by simp)⟩
      · have e : T.1 v.1 = 61 ∨ T.1 v.1 = 60 ∨ T.1 v.1 = 62 := by
          apply Classical.byContradiction
          intro q
          exact c (by unfold oCmp; rw [if_neg (fun a => q (Or.inl a)), if_neg (fun a => q (Or.inr (Or.inl a))), if_neg (fun a => q (Or.inr (Or.inr a)))])
        obtain ⟨e1, e2, e3, b1, b2, b3, b4, b5, b6⟩ := more_C hS hT ha h0 hX (oCmp (T.1 v.1)) G (op_lt hT l1.2.2 (by decide) c)
        have j35 : fX5_compared_J35 (gX5 S f) S 21 a dp (T.1 v.1) d1 = some e3 := by
          unfold fX5_compared_J35 fX5_compared_J70
          rw [if_pos (kd21 hS), b1, Option.bind_some, if_pos (kd21 hS), b2, Option.bind_some]
          rcases e with e | e | e
          · have : oCmp (T.1 v.1) = -10 := by rw [e]; rfl
            rw [this] at b3
            rw [if_pos e, if_pos ha.1, b3]; rfl
          · have : oCmp (T.1 v.1) = -11 := by rw [e]; rfl
            rw [this] at b3
            rw [if_neg (by rw [e]; decide), if_pos e, if_pos ha.1, b3]; rfl
          · have : oCmp (T.1 v.1) = -12 := by rw [e]; rfl
            rw [this] at b3
            rw [if_neg (by rw [e]; decide), if_neg (by rw [e]; decide), if_pos ha.1, b3]; rfl
        rw [if_neg c, j35]
        have fin : ∀ r : Option sk_D, r = some e3 → ∃ d', r = some d' ∧ Fr (rdf a) d d' ∧ (∀ x, (match X (v.1 + 1) with | .inl x => .inl x | .inr u => .inr (u.1, v.2 ++ u.2 ++ [oCmp (T.1 v.1)]) : PR) = .inl x → FS a d' x) ∧ ∀ y, (match X (v.1 + 1) with | .inl x => .inl x | .inr u => .inr (u.1, v.2 ++ u.2 ++ [oCmp (T.1 v.1)]) : PR) = .inr y → GS T z a sl d' y.1 (w ++ y.2) := by
          intro r hr
          refine ⟨e3, hr, a2.trans b4, fun x a => ?_, fun y a => ?_⟩
          · cases x2 : X (v.1 + 1) with
            | inl u => rw [x2] at a; rw [← Sum.inl.inj a]; exact b5 u x2
            | inr u => rw [x2] at a; exact absurd a (by simp)
          · cases x2 : X (v.1 + 1) with
            | inl u => rw [x2] at a; exact absurd a (by simp)
            | inr u =>
              rw [x2] at a
              rw [← Sum.inr.inj a]
              have := b6 u x2
              simp only [List.append_assoc] at this ⊢
              exact this
        rcases e with e | e | e
        · rw [if_pos e]; exact fin _ rfl
        · rw [if_neg (by rw [e]; decide), if_pos e]; exact fin _ rfl
        · rw [if_neg (by rw [e]; decide), if_neg (by rw [e]; decide), if_pos e]; exact fin _ rfl
theorem c_unit (hS : Sh S) (hT : okT2 T z) (ha : LA1 S a) {r f : Nat} (hr : r ≤ 6) {s : Nat → PR} (hs : CC T z a sl (fun d => gX5 S (f + 1) 3 d 21 a (nI (6 - r))) (gComp T s)) {o : Option (Nat → PR)}
    (ho : (r = 0 ∧ o = none) ∨ (∃ X, o = some X ∧ 1 ≤ r ∧ LENP z T X ∧ CC T z a sl (fun d => gX5 S f 2 d 21 a (nI (6 - r + 1))) X ∧ CC T z a sl (fun d => gX5 S (f + 1) 0 d 21 a (nI (6 - r + 1))) (chain T (chain T X oAnd) oOr))) : CC T z a sl (fun d => gX5 S (f + 2) 2 d 21 a (nI (6 - r))) (gUnitB T s o) := by
  refine ⟨fun d x h => ?_, fun d i w h => ?_⟩
  · obtain ⟨d1, a1, a2, a3⟩ := hs.1 d x h
    refine ⟨d1, ?_, a2, a3⟩
    show fX5_unit_o (gX5 S (f + 1)) S d 21 a (nI (6 - r)) = some d1
    unfold fX5_unit_o
    dsimp only at a1
    rw [if_pos (kd21 hS), c_kindF hS h.1, Option.bind_some, if_neg (by decide), if_neg (by decide), if_pos (kd21 hS), a1]
    rfl
  · have hz := h.1.2.2.2
    show ∃ d', fX5_unit_o (gX5 S (f + 1)) S d 21 a (nI (6 - r)) = some d' ∧ _
    unfold fX5_unit_o gUnitB
    rw [if_pos (kd21 hS), c_kindG hS h.1, Option.bind_some]
    by_cases k18 : T.1 i = 18
    · have hiz := tk_lt hT hz.1 (by rw [k18]; decide)
      rw [if_pos k18, if_pos k18]
      unfold fX5_unit_J26
      rcases ho with ⟨r0, rfl⟩ | ⟨X, rfl, r1, ln, h2, h3⟩
      · obtain ⟨d1, a1, a2, a3⟩ := h.fail hS ha (y := 4) (by decide)
        rw [if_neg (show ¬ nI (6 - r) < (6 : Int32) by rw [r0]; decide), if_pos (kd21 hS), a1]
        exact ⟨d1, rfl, a3, fun x a => by rw [← Sum.inl.inj a]; exact a2, fun y a => absurd a (by simp)⟩
      · obtain ⟨d1, d2, d3, a1, a2, a3, a4, a5, a6⟩ := more_C hS hT ha h2 ln (-15) h hiz
        have neg : gX5 S (f + 1) 8 d 21 a (nI (6 - r)) = some d3 := by
          show fX5_negated_o (gX5 S f) S d 21 a (nI (6 - r)) = some d3
          unfold fX5_negated_o
          try dsimp only at a2
          rw [if_pos (kd21 hS), a1, Option.bind_some, if_pos (kd21 hS), nI_1, a2, Option.bind_some, if_pos ha.1, a3]
          rfl
        rw [if_pos (show nI (6 - r) < (6 : Int32) from (nI_ltI (b := 6) (by omega) (by omega)).mpr (by omega)), if_pos k18, if_pos (kd21 hS), neg]
        dsimp only
        refine ⟨d3, rfl, a4, fun x a => ?_, fun y a => ?_⟩
        · cases x2 : X (i + 1) with
          | inl u => rw [x2] at a; rw [← Sum.inl.inj a]; exact a5 u x2
          | inr u => rw [x2] at a; exact absurd a (by simp)
        · cases x2 : X (i + 1) with
          | inl u => rw [x2] at a; exact absurd a (by simp)
          | inr u =>
            rw [x2] at a
            rw [← Sum.inr.inj a]
            have := a6 u x2
            simp only [List.append_assoc] at this ⊢
            exact this
    · rw [if_neg k18, if_neg k18]
      by_cases k91 : T.1 i = 91
      · have hiz := tk_lt hT hz.1 (by rw [k91]; decide)
        rw [if_pos k91, if_pos k91]
        unfold fX5_unit_J26
        rcases ho with ⟨r0, rfl⟩ | ⟨X, rfl, r1, ln, h2, h3⟩
        · obtain ⟨d1, a1, a2, a3⟩ := h.fail hS ha (y := 4) (by decide)
          rw [if_neg (show ¬ nI (6 - r) < (6 : Int32) by rw [r0]; decide), if_pos (kd21 hS), a1]
          exact ⟨d1, rfl, a3, fun x a => by rw [← Sum.inl.inj a]; exact a2, fun y a => absurd a (by simp)⟩
        · obtain ⟨d1, a1, a2, a3⟩ := h.next hS ha hiz
          obtain ⟨d2, b1, b2, b3, b4⟩ := close_C hS hT ha h3 (k := 93) (by decide) (by decide) a2
          rw [if_pos (show nI (6 - r) < (6 : Int32) from (nI_ltI (b := 6) (by omega) (by omega)).mpr (by omega)), if_neg k18, if_pos (kd21 hS), a1, Option.bind_some, if_pos (kd21 hS), nI_1, b1]
          exact ⟨d2, rfl, a3.trans b2, b3, b4⟩
      · obtain ⟨d1, a1, a2, a3, a4⟩ := hs.2 d i w h
        dsimp only at a1
        rw [if_neg k91, if_neg k91, if_pos (kd21 hS), a1]
        exact ⟨d1, rfl, a2, a3, a4⟩
theorem c_gUnit (hS : Sh S) (hT : okT2 T z) (ha : LA1 S a) : ∀ r f, r ≤ 6 → 4 * r + 8 ≤ f → CC T z a sl (fun d => gX5 S f 2 d 21 a (nI (6 - r))) (gUnit T sl r)
  | 0, f + 2, hr, hf => c_unit (r := 0) hS hT ha hr (c_compared hS hT ha (c_gSum hS hT ha 0 f (by omega) (by omega)) (sum_len hT sl 0)) (Or.inl ⟨rfl, rfl⟩)
  | r + 1, f + 3, hr, hf => by
    have i2 := c_gUnit hS hT ha r (f + 1) (by omega) (by omega)
    have i0 := c_gUnit hS hT ha r f (by omega) (by omega)
    have e : 6 - r = 6 - (r + 1) + 1 := by omega
    rw [e] at i2 i0
    have ln := gUnit_len hT sl r
    have h0 := c_truth hS hT ha (c_both hS hT ha i0 ln) (chain_len hT ln (by decide))
    exact c_unit (r := r + 1) hS hT ha hr (c_compared hS hT ha (c_gSum hS hT ha (r + 1) (f + 1) (by omega) (by omega)) (sum_len hT sl (r + 1))) (Or.inr ⟨_, rfl, by omega, ln, i2, h0⟩)
  | 0, 0, hr, hf => by omega
  | 0, 1, hr, hf => by omega
  | r + 1, 0, hr, hf => by omega
  | r + 1, 1, hr, hf => by omega
  | r + 1, 2, hr, hf => by omega
theorem c_gTruth (hS : Sh S) (hT : okT2 T z) (ha : LA1 S a) : CC T z a sl (fun d => fX5_truth S d 21 a 0) (gTruth T sl 6) := by
  have h := c_gUnit (sl := sl) hS hT ha 6 98 (by omega) (by omega)
  exact c_truth hS hT ha (c_both hS hT ha h (gUnit_len hT sl 6)) (chain_len hT (gUnit_len hT sl 6) (by decide))
end
