theorem sk_narB (b : Bool) : narrow .boolean (.int (sk_b b)) = .int (sk_b b) ∧ fits .boolean (.int (sk_b b)) = true := by cases b <;> decide
theorem sk_tsout {x : Int32} (lo : Int) (n : Nat) (vs : List Int32) (hvs : vs = (List.range n).map (fun k => Int32.ofInt (lo + k))) (h : x ∉ vs) : x.toInt < lo ∨ lo + n - 1 < x.toInt := by
  rcases Int.lt_or_le x.toInt lo with h1 | h1
  · exact Or.inl h1
  · rcases Int.lt_or_le (lo + n - 1) x.toInt with h2 | h2
    · exact Or.inr h2
    · exfalso
      apply h
      rw [hvs]
      refine List.mem_map.mpr ⟨(x.toInt - lo).toNat, List.mem_range.mpr (by omega), ?_⟩
      rw [show lo + ((x.toInt - lo).toNat : Int) = x.toInt by omega]
      exact Int32.ofInt_toInt x
theorem sk_str_X5_91 {C : sk_C} (U : State) (h : sk_Str C U) : vk_R RX5 91 (sk_txt 0) (C.2.2.2.2.2 (0 : UInt32).toNat) U := h.1
theorem sk_str_X5_83 {C : sk_C} (U : State) (h : sk_Str C U) : vk_R RX5 83 (sk_txt 1) (C.2.2.2.2.2 (1 : UInt32).toNat) U := h.2.1
theorem sk_str_X11_94 {C : sk_C} (U : State) (h : sk_Str C U) : vk_R RX11 94 (sk_txt 2) (C.2.2.2.2.2 (2 : UInt32).toNat) U := h.2.2.1
theorem sk_str_X11_132 {C : sk_C} (U : State) (h : sk_Str C U) : vk_R RX11 132 (sk_txt 3) (C.2.2.2.2.2 (1 : UInt32).toNat) U := h.2.2.2.1
def sk_ch (k : Nat) (i : Int32) : Option Int32 := if ¬ (i < 0 ∨ sk_len.getD k 0 ≤ i.toNatClampNeg) then some ((sk_byt.getD k []).getD i.toNatClampNeg 0) else none
def sk_ix (k : Nat) (c : Int32) : Int32 := match (sk_byt.getD k []).findIdx? (fun b => b == c) with
  | some j => Int32.ofNat j
  | none => -1
