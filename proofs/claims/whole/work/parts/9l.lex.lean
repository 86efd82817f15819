/-! words, numbers, signs of a tape -/
def cwl : List (List Int32) := [[108, 105, 102, 101], [114, 111, 111, 109], [100, 111, 105, 110, 103], [115, 105, 122, 101], [101, 100, 103, 101], [104, 101, 108, 100], [108, 101, 102, 116], [115, 108, 105, 112], [97, 115, 107, 101, 100], [98, 117, 114, 110, 115], [119, 111, 114, 116, 104], [110, 101, 101, 100, 115], [100, 111, 111, 114], [99, 108, 97, 115, 104], [107, 101, 101, 112, 115], [112, 97, 115, 115, 101, 115], [111, 114], [97, 110, 100], [110, 111, 116]]
def mwl : List (List Int32) := [cwl.getD 0 [], cwl.getD 1 [], cwl.getD 2 [], cwl.getD 3 [], cwl.getD 4 [], cwl.getD 8 [], cwl.getD 9 [], cwl.getD 10 [], cwl.getD 11 [], cwl.getD 12 [], cwl.getD 13 [], cwl.getD 7 [], cwl.getD 14 [], cwl.getD 15 [], cwl.getD 5 [], cwl.getD 6 [], cwl.getD 17 [], cwl.getD 16 [], cwl.getD 18 []]
def mst (k : Nat) : Nat := ([1, 6, 11, 17, 22, 27, 33, 39, 45, 51, 56, 62, 67, 73, 80, 85, 90, 94, 97, 101] : List Nat).getD k 101
def sgl : List Int32 := [59, 58, 43, 45, 42, 40, 41, 91, 93, 61, 60, 62]
theorem byt0 : sk_byt.getD 0 [] = (cwl.map (fun w => w ++ List.replicate (6 - w.length) (32 : Int32))).flatten := by decide +kernel
theorem byt1 : sk_byt.getD 1 [] = sgl := by decide +kernel
theorem byt2 : sk_byt.getD 2 [] = (32 : Int32) :: (mwl.map (fun w => w ++ [(32 : Int32)])).flatten := by decide +kernel
theorem cw_ch : ∀ k, k < 19 → ∀ j, j < 6 → sk_ch 0 (nI (6 * k + j)) = some ((cwl.getD k []).getD j 32) := by
  have h : ∀ k, k < 19 → ∀ j, j < 6 → (6 * k + j < 114) ∧ (sk_byt.getD 0 []).getD (6 * k + j) 0 = (cwl.getD k []).getD j 32 := by rw [byt0]; decide +kernel
  intro k hk j hj
  obtain ⟨h1, h2⟩ := h k hk j hj
  unfold sk_ch
  rw [nI_clamp (by omega), if_pos (fun a => a.elim (fun b => nI_pos (show 6 * k + j < 2147483648 by omega) b) (fun b => by have : (114 : Nat) ≤ 6 * k + j := b; omega)), h2]
theorem cw_len : ∀ k, k < 19 → (cwl.getD k []).length ≤ 6 ∧ 0 < (cwl.getD k []).length ∧ ∀ j, j < (cwl.getD k []).length → (cwl.getD k []).getD j 32 ≠ 32 := by decide +kernel
theorem mw_ch : ∀ k, k < 19 → (∀ j, j ≤ (mwl.getD k []).length → sk_ch 2 (nI (mst k + j)) = some ((mwl.getD k []).getD j 32)) ∧ mst (k + 1) = mst k + (mwl.getD k []).length + 1 ∧ mst k < 101 ∧ ∀ j, j < (mwl.getD k []).length → (mwl.getD k []).getD j 32 ≠ 32 := by
  have h : ∀ k, k < 19 → ((mwl.getD k []).length ≤ 6 ∧ ∀ j, j < 7 → j ≤ (mwl.getD k []).length → (mst k + j < 101) ∧ (sk_byt.getD 2 []).getD (mst k + j) 0 = (mwl.getD k []).getD j 32) ∧ mst (k + 1) = mst k + (mwl.getD k []).length + 1 ∧ mst k < 101 ∧ ∀ j, j < (mwl.getD k []).length → (mwl.getD k []).getD j 32 ≠ 32 := by rw [byt2]; decide +kernel
  intro k hk
  obtain ⟨⟨h0, h1⟩, h2, h3, h4⟩ := h k hk
  refine ⟨fun j hj => ?_, h2, h3, h4⟩
  obtain ⟨h5, h6⟩ := h1 j (by omega) hj
  unfold sk_ch
  rw [nI_clamp (by omega), if_pos (fun a => a.elim (fun b => nI_pos (show mst k + j < 2147483648 by omega) b) (fun b => by have : (101 : Nat) ≤ mst k + j := b; omega)), h6]
theorem sg_ch : ∀ j, j < 12 → sk_ch 1 (nI j) = some (sgl.getD j 0) := by
  intro j hj
  unfold sk_ch
  rw [nI_clamp (by omega), if_pos (fun a => a.elim (fun b => nI_pos (show j < 2147483648 by omega) b) (fun b => by have : (12 : Nat) ≤ j := b; omega)), byt1]
theorem sg_ix (x : Int32) : (0 ≤ sk_ix 1 x) ↔ x ∈ sgl := by
  unfold sk_ix
  rw [byt1]
  constructor
  · intro h
    cases e : sgl.findIdx? (fun b => b == x) with
    | none => rw [e] at h; exact absurd h (by decide)
    | some j =>
      have := List.findIdx?_eq_some_iff_findIdx_eq.mp e
      have h2 : sgl.findIdx (fun b => b == x) < sgl.length := by omega
      have h3 := List.findIdx_getElem (w := h2)
      rw [← eq_of_beq h3]
      exact List.getElem_mem _
  · intro h
    cases e : sgl.findIdx? (fun b => b == x) with
    | none =>
      have := List.findIdx?_eq_none_iff.mp e x h
      simp at this
    | some j =>
      have := List.findIdx?_eq_some_iff_findIdx_eq.mp e
      have hl : j < 12 := this.1
      show 0 ≤ nI j
      rw [← Int32.not_lt]
      exact nI_pos (by omega)
/-! the next piece from a place on -/
def lsp (c : Nat → Int32) (n : Nat) : Nat → Nat → Nat
  | 0, p => p
  | f + 1, p => if c p = 10 ∨ c p = 32 then lsp c n f (p + 1) else p
def lrn (c : Nat → Int32) (n : Nat) (lo hi : Int32) : Nat → Nat → Nat
  | 0, p => p
  | f + 1, p => if ¬ c p < lo ∧ ¬ hi < c p then lrn c n lo hi f (p + 1) else p
def lS (c : Nat → Int32) (n p : Nat) : Nat := lsp c n (n - p) p
def lR (c : Nat → Int32) (n : Nat) (lo hi : Int32) (p : Nat) : Nat := lrn c n lo hi (n - p) p
section
variable {c : Nat → Int32} {n : Nat}
theorem lS_s {p : Nat} (hp : p < n) (h : c p = 10 ∨ c p = 32) : lS c n p = lS c n (p + 1) := by
  unfold lS
  rw [show n - p = (n - (p + 1)) + 1 by omega]
  show (if _ then _ else _) = _
  rw [if_pos h]
theorem lS_e {p : Nat} (h : p < n → ¬ (c p = 10 ∨ c p = 32)) : lS c n p = p := by
  unfold lS
  cases e : n - p with
  | zero => rfl
  | succ f => unfold lsp; rw [if_neg (h (by omega))]
theorem lS_le (f : Nat) : ∀ p, p ≤ n → n - p = f → p ≤ lS c n p ∧ lS c n p ≤ n ∧ (lS c n p < n → ¬ (c (lS c n p) = 10 ∨ c (lS c n p) = 32)) := by
  induction f with
  | zero => intro p hp e; rw [lS_e (by omega)]; exact ⟨Nat.le_refl _, hp, by omega⟩
  | succ f ih =>
    intro p hp e
    by_cases q : c p = 10 ∨ c p = 32
    · rw [lS_s (by omega) q]
      obtain ⟨a, b⟩ := ih (p + 1) (by omega) (by omega)
      exact ⟨by omega, b⟩
    · rw [lS_e (fun _ => q)]; exact ⟨Nat.le_refl _, hp, fun _ => q⟩
theorem lS_ok {p : Nat} (hp : p ≤ n) : p ≤ lS c n p ∧ lS c n p ≤ n ∧ (lS c n p < n → ¬ (c (lS c n p) = 10 ∨ c (lS c n p) = 32)) := lS_le _ p hp rfl
theorem lR_s {lo hi : Int32} {p : Nat} (hp : p < n) (h : ¬ c p < lo ∧ ¬ hi < c p) : lR c n lo hi p = lR c n lo hi (p + 1) := by
  unfold lR
  rw [show n - p = (n - (p + 1)) + 1 by omega]
  show (if _ then _ else _) = _
  rw [if_pos h]
theorem lR_e {lo hi : Int32} {p : Nat} (h : p < n → ¬ (¬ c p < lo ∧ ¬ hi < c p)) : lR c n lo hi p = p := by
  unfold lR
  cases e : n - p with
  | zero => rfl
  | succ f =>
    show (if _ then _ else _) = _
    rw [if_neg (h (by omega))]
theorem lR_le {lo hi : Int32} (f : Nat) : ∀ p, p ≤ n → n - p = f → p ≤ lR c n lo hi p ∧ lR c n lo hi p ≤ n ∧ (∀ j, p ≤ j → j < lR c n lo hi p → ¬ c j < lo ∧ ¬ hi < c j) ∧ (lR c n lo hi p < n → ¬ (¬ c (lR c n lo hi p) < lo ∧ ¬ hi < c (lR c n lo hi p))) := by
  induction f with
  | zero => intro p hp e; rw [lR_e (by omega)]; exact ⟨Nat.le_refl _, hp, fun j a b => by omega, by omega⟩
  | succ f ih =>
    intro p hp e
    by_cases q : ¬ c p < lo ∧ ¬ hi < c p
    · rw [lR_s (by omega) q]
      obtain ⟨a, b, r, s⟩ := ih (p + 1) (by omega) (by omega)
      refine ⟨by omega, b, fun j h1 h2 => ?_, s⟩
      by_cases e : j = p
      · rw [e]; exact q
      · exact r j (by omega) h2
    · rw [lR_e (fun _ => q)]; exact ⟨Nat.le_refl _, hp, fun j a b => by omega, fun _ => q⟩
theorem lR_ok {lo hi : Int32} {p : Nat} (hp : p ≤ n) : p ≤ lR c n lo hi p ∧ lR c n lo hi p ≤ n ∧ (∀ j, p ≤ j → j < lR c n lo hi p → ¬ c j < lo ∧ ¬ hi < c j) ∧ (lR c n lo hi p < n → ¬ (¬ c (lR c n lo hi p) < lo ∧ ¬ hi < c (lR c n lo hi p))) := lR_le _ p hp rfl
end
abbrev mtc (c : Nat → Int32) (V : List Int32) (q e : Nat) : Prop := q + V.length = e ∧ ∀ j, j < V.length → c (q + j) = V.getD j 32
/-- the first word that it is, from the k-th on -/
def fwk (c : Nat → Int32) (Ws : List (List Int32)) (no : Int32) (q e : Nat) : Nat → Nat → Int32
  | 0, _ => no
  | f + 1, k => if mtc c (Ws.getD k []) q e then nI k else fwk c Ws no q e f (k + 1)
def nmb (c : Nat → Int32) (q : Nat) : Nat → Int32
  | 0 => 0
  | k + 1 => nmb c q k * 10 + c (q + k) - 48
/-- kind, place, value, behind of the piece at q -/
def lxq (c : Nat → Int32) (n q : Nat) : (Int32 × Int32 × Int32) × Nat :=
  if n ≤ q then ((202, nI q, 0), q) else if ¬ c q < 97 ∧ ¬ 122 < c q then ((fwk c cwl 201 q (lR c n 97 122 q) 19 0, nI q, 0), lR c n 97 122 q)
  else if ¬ c q < 48 ∧ ¬ 57 < c q then ((if lR c n 48 57 q ≤ q + 3 then 200 else 203, nI q, nmb c q (lR c n 48 57 q - q)), lR c n 48 57 q)
  else ((if c q ∈ sgl then c q else 203, nI q, 0), q + 1)
def lxp (c : Nat → Int32) (n p : Nat) : (Int32 × Int32 × Int32) × Nat := lxq c n (lS c n p)
def lxP (c : Nat → Int32) (n : Nat) : Nat → Nat
  | 0 => 0
  | i + 1 => (lxp c n (lxP c n i)).2
def lxT (c : Nat → Int32) (n : Nat) : TKS := (fun i => (lxp c n (lxP c n i)).1.1, fun i => (lxp c n (lxP c n i)).1.2.1, fun i => (lxp c n (lxP c n i)).1.2.2)
section
variable {c : Nat → Int32} {n : Nat}
theorem fwk_ne (Ws : List (List Int32)) (no : Int32) (q e : Nat) : ∀ f k, fwk c Ws no q e f k = no ∨ ∃ j, k ≤ j ∧ j < k + f ∧ fwk c Ws no q e f k = nI j ∧ mtc c (Ws.getD j []) q e
  | 0, k => Or.inl rfl
  | f + 1, k => by
    unfold fwk
    by_cases h : mtc c (Ws.getD k []) q e
    · rw [if_pos h]; exact Or.inr ⟨k, by omega, by omega, rfl, h⟩
    · rw [if_neg h]
      rcases fwk_ne Ws no q e f (k + 1) with a | ⟨j, a, b, r⟩
      · exact Or.inl a
      · exact Or.inr ⟨j, by omega, by omega, r⟩
theorem sgl_ne : ∀ x ∈ sgl, x ≠ 202 ∧ x ≠ 200 := by decide +kernel
theorem lxq_ok {q : Nat} (hq : q ≤ n) : ((lxq c n q).1.1 = 202 ↔ q = n) ∧ (q < n → q < (lxq c n q).2) ∧ (lxq c n q).2 ≤ n ∧ ((lxq c n q).1.1 = 200 → ∃ v, v ≤ 999 ∧ (lxq c n q).1.2.2 = nI v) := by
  unfold lxq
  by_cases h0 : n ≤ q
  · rw [if_pos h0]
    exact ⟨⟨fun _ => by omega, fun _ => rfl⟩, by omega, hq, fun a => absurd a (show ¬ (202 : Int32) = 200 by decide)⟩
  · rw [if_neg h0]
    by_cases h1 : ¬ c q < 97 ∧ ¬ 122 < c q
    · obtain ⟨a1, a2, a3, a4⟩ := lR_ok (c := c) (lo := 97) (hi := 122) (show q + 1 ≤ n by omega)
      rw [if_pos h1, lR_s (by omega) h1]
      have k : ∀ e, fwk c cwl 201 q e 19 0 ≠ 202 ∧ fwk c cwl 201 q e 19 0 ≠ 200 := by
        intro e
        rcases fwk_ne (c := c) cwl 201 q e 19 0 with r | ⟨j, _, b, r, _⟩
        · rw [r]; decide
        · rw [r]
          exact ⟨fun x => by rw [show (202 : Int32) = nI 202 from rfl, nI_eq (by omega) (by omega)] at x; omega, fun x => by rw [show (200 : Int32) = nI 200 from rfl, nI_eq (by omega) (by omega)] at x; omega⟩
      exact ⟨⟨fun x => absurd x (k _).1, fun x => by omega⟩, fun _ => by dsimp only; omega, a2, fun x => absurd x (k _).2⟩
    · rw [if_neg h1]
      by_cases h2 : ¬ c q < 48 ∧ ¬ 57 < c q
      · obtain ⟨a1, a2, a3, a4⟩ := lR_ok (c := c) (lo := 48) (hi := 57) (show q + 1 ≤ n by omega)
        rw [if_pos h2]
        have dig : ∀ j, q ≤ j → j < lR c n 48 57 (q + 1) → ∃ k, k ≤ 9 ∧ c j = nI (48 + k) := by
          intro j h3 h4
          have h5 : ¬ c j < 48 ∧ ¬ 57 < c j := by
            by_cases e : j = q
            · rw [e]; exact h2
            · exact a3 j (by omega) h4
          rw [Int32.not_lt, Int32.not_lt, Int32.le_iff_toInt_le, Int32.le_iff_toInt_le] at h5
          have x1 : (48 : Int32).toInt = 48 := rfl
          have x2 : (57 : Int32).toInt = 57 := rfl
          refine ⟨((c j).toInt - 48).toNat, by omega, ?_⟩
          apply Int32.toInt_inj.mp
          rw [nI_toInt (by omega)]
          omega
        rw [lR_s (by omega) h2]
        refine ⟨⟨fun x => ?_, fun x => by omega⟩, fun _ => by dsimp only; omega, a2, fun x => ?_⟩
        · dsimp only at x; split at x <;> exact absurd x (by decide)
        · dsimp only at x ⊢
          split at x
          · next h3 =>
            have nm : ∀ k, k ≤ lR c n 48 57 (q + 1) - q → ∃ v, v < 10 ^ k ∧ nmb c q k = nI v := by
              intro k
              induction k with
              | zero => intro _; exact ⟨0, by decide, rfl⟩
              | succ k ih =>
                intro hk
                obtain ⟨v, hv, ev⟩ := ih (by omega)
                obtain ⟨u, hu, eu⟩ := dig (q + k) (by omega) (by omega)
                refine ⟨10 * v + u, by rw [Nat.pow_succ]; omega, ?_⟩
                unfold nmb
                rw [ev, eu, ← nI_add, show nI 48 = (48 : Int32) from rfl, Int32.add_comm 48, ← Int32.add_assoc, Int32.add_sub_cancel, show (10 : Int32) = nI 10 from rfl, ← (show nI (v * 10) = nI v * nI 10 from Int32.ofNat_mul v 10), nI_add, Nat.mul_comm]
            obtain ⟨v, hv, ev⟩ := nm (lR c n 48 57 (q + 1) - q) (Nat.le_refl _)
            refine ⟨v, ?_, ev⟩
            have : 10 ^ (lR c n 48 57 (q + 1) - q) ≤ 10 ^ 3 := Nat.pow_le_pow_right (by omega) (by omega)
            omega
          · exact absurd x (by decide)
      · rw [if_neg h2]
        refine ⟨⟨fun x => ?_, fun x => by omega⟩, fun _ => by dsimp only; omega, by dsimp only; omega, fun x => ?_⟩
        · dsimp only at x
          split at x
          · next h3 => exact absurd x (sgl_ne _ h3).1
          · exact absurd x (by decide)
        · dsimp only at x
          split at x
          · next h3 => exact absurd x (sgl_ne _ h3).2
          · exact absurd x (by decide)
theorem lxp_ok {p : Nat} (hp : p ≤ n) : ((lxp c n p).1.1 ≠ 202 → p < (lxp c n p).2) ∧ (lxp c n p).2 ≤ n ∧ ((lxp c n p).1.1 = 200 → ∃ v, v ≤ 999 ∧ (lxp c n p).1.2.2 = nI v) := by
  obtain ⟨a1, a2, a3⟩ := lS_ok (c := c) hp
  obtain ⟨b1, b2, b3, b4⟩ := lxq_ok (c := c) a2
  refine ⟨fun x => ?_, b3, b4⟩
  have : lS c n p < n := by
    rcases Nat.lt_or_ge (lS c n p) n with h | h
    · exact h
    · exact absurd (b1.mpr (by omega)) x
  have := b2 this
  unfold lxp
  omega
theorem lxP_le : ∀ i, lxP c n i ≤ n
  | 0 => Nat.zero_le _
  | i + 1 => (lxp_ok (lxP_le i)).2.1
theorem lxT_z (hn : n ≤ 900) : ∃ z, okT2 (lxT c n) z := by
  have key : ∀ k, (∃ z, z < k ∧ (lxT c n).1 z = 202 ∧ ∀ i, i < z → (lxT c n).1 i ≠ 202) ∨ (k ≤ lxP c n k ∧ ∀ i, i < k → (lxT c n).1 i ≠ 202) := by
    intro k
    induction k with
    | zero => exact Or.inr ⟨Nat.zero_le _, fun i h => by omega⟩
    | succ k ih =>
      rcases ih with ⟨z, h1, h2⟩ | ⟨h1, h2⟩
      · exact Or.inl ⟨z, by omega, h2⟩
      · by_cases q : (lxT c n).1 k = 202
        · exact Or.inl ⟨k, by omega, q, h2⟩
        · refine Or.inr ⟨?_, fun i hi => ?_⟩
          · have : lxP c n k < lxP c n (k + 1) := (lxp_ok (lxP_le k)).1 q
            omega
          · by_cases e : i = k
            · rw [e]; exact q
            · exact h2 i (by omega)
  rcases key (n + 1) with ⟨z, h1, h2, h3⟩ | ⟨h1, _⟩
  · exact ⟨z, h2, h3, by omega, fun i _ h => (lxp_ok (lxP_le i)).2.2 h⟩
  · have := lxP_le (c := c) (n := n) (n + 1)
    omega
end
