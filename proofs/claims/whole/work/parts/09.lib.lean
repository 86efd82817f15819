theorem sk_narB (b : Bool) : narrow .boolean (.int (sk_b b)) = .int (sk_b b) ∧ fits .boolean (.int (sk_b b)) = true := by cases b <;> decide
theorem sk_tsout {x : Int32} (lo : Int) (n : Nat) (vs : List Int32) (hvs : vs = (List.range n).map (fun (k : Nat) => Int32.ofInt (lo + (k : Int)))) (h : x ∉ vs) : x.toInt < lo ∨ lo + n - 1 < x.toInt := by
  rcases Int.lt_or_le x.toInt lo with h1 | h1
  · exact Or.inl h1
  · rcases Int.lt_or_le (lo + n - 1) x.toInt with h2 | h2
    · exact Or.inr h2
    · exfalso
      apply h
      rw [hvs]
      refine List.mem_map.mpr ⟨(x.toInt - lo).toNat, List.mem_range.mpr (by omega), ?_⟩
      rw [show lo + ((x.toInt - lo).toNat : Int) = x.toInt by omega]
      exact Int32.ofInt_toInt x
theorem sk_str_X5_91 {C : sk_C} (U : State) (h : sk_Str C U) : vk_R RX5 91 (sk_txt 0) (C.2.2.2.2.2 (0 : UInt32).toNat) U := h.1
theorem sk_str_X5_83 {C : sk_C} (U : State) (h : sk_Str C U) : vk_R RX5 83 (sk_txt 1) (C.2.2.2.2.2 (1 : UInt32).toNat) U := h.2.1
theorem sk_str_X11_94 {C : sk_C} (U : State) (h : sk_Str C U) : vk_R RX11 94 (sk_txt 2) (C.2.2.2.2.2 (2 : UInt32).toNat) U := h.2.2.1
theorem sk_str_X11_132 {C : sk_C} (U : State) (h : sk_Str C U) : vk_R RX11 132 (sk_txt 3) (C.2.2.2.2.2 (1 : UInt32).toNat) U := h.2.2.2.1
def sk_ch (k : Nat) (i : Int32) : Option Int32 := if ¬ (i < 0 ∨ sk_len.getD k 0 ≤ i.toNatClampNeg) then some ((sk_byt.getD k []).getD i.toNatClampNeg 0) else none
def sk_ix (k : Nat) (c : Int32) : Int32 := match (sk_byt.getD k []).findIdx? (fun b => b == c) with
  | some j => Int32.ofNat j
  | none => -1
theorem sk_i2c_bd (x : Int32) : 0 ≤ (x.toUInt32 % 65536).toInt32 ∧ (x.toUInt32 % 65536).toInt32 < 65536 := by
  rw [pk_char x]
  have h : x.toBitVec.toNat % 65536 < 65536 := Nat.mod_lt _ (by decide)
  exact ⟨nI_pos' (by omega), nI_lt h (by decide)⟩
theorem sk_dec1 (x : Int32) : x + Int32.ofInt (-1) = x - 1 := by
  rw [Int32.sub_eq_add_neg]
  rfl
theorem sk_dec8 (x : Int32) : x + Int32.ofInt (-8) = x - 8 := by
  rw [Int32.sub_eq_add_neg]
  rfl
theorem sk_mmax {X : sk_X} {C : sk_C} {cc : ByteArray} {nL : Nat} {own mn : String} {ret : Option FieldType} {kR : Nat} {l0 : Launch} {ov : Option Value} {S1 S : sk_S} {d1 d : sk_D} {pc : Nat} {lv : List (Nat × Value)} {st : List Value} {idx : Nat} {x y : Int32} (K : sk_Ok X C cc nL own mn ret kR l0 ov S1 d1) (hd : decode cc pc = .ok (.invokestatic idx, 3)) (q1 : Cond.methodLink own idx Lib.Math.max.name ∈ sk_tbl) (q2 : Cond.static Lib.Math.max.name ∈ sk_tbl) (q3 : Cond.initialized "java/lang/Math" ∈ sk_tbl) (q4 : Cond.code Lib.Math.max.name Lib.Math.max.code 2 (some .int) ∈ sk_tbl) (hk1 : 1 ≤ kR) (hst : (st.map fun v => v.category).sum ≤ 8) (hr2 : S.1.1 ≤ S1.1.1 ∧ S.1.2 ≤ S1.1.2) (kk : sk_G X C nL S d (pc + 3) lv (.int (if x < y then y else x) :: st)) : sk_G X C nL S d (pc) lv (.int y :: .int x :: st) := by
  obtain ⟨p, l, e, R, s, m, args, below, meth, cd, Q, n0, s0⟩ := X
  obtain ⟨hx, hb, hml, hown, hts, hK, hlk, hrt, hnm, hl0, hfr, hlo, hce, hsl, hn0, hs0, hQ⟩ := K
  intro H locs ls hw hL hv
  have hst2 : (((st.map (sk_up C)).map fun v => v.category).sum) ≤ 8 := by rw [sk_catsum]; exact hst
  exact va_mmax hx hb (by rw [hml]; exact hv.1.symm) hown (hts _ q1) (hts _ q2) (hts _ q3) (hts _ q4) (by rw [hfr]; exact hk1) (by rw [hlo]; omega) (by rw [hce]; show S.1.1 - n0 ≤ _; omega) (by rw [hsl]; show S.1.2 - s0 ≤ _; omega) hd (kk H locs ls hw hL hv)
theorem sk_mmin {X : sk_X} {C : sk_C} {cc : ByteArray} {nL : Nat} {own mn : String} {ret : Option FieldType} {kR : Nat} {l0 : Launch} {ov : Option Value} {S1 S : sk_S} {d1 d : sk_D} {pc : Nat} {lv : List (Nat × Value)} {st : List Value} {idx : Nat} {x y : Int32} (K : sk_Ok X C cc nL own mn ret kR l0 ov S1 d1) (hd : decode cc pc = .ok (.invokestatic idx, 3)) (q1 : Cond.methodLink own idx Lib.Math.min.name ∈ sk_tbl) (q2 : Cond.static Lib.Math.min.name ∈ sk_tbl) (q3 : Cond.initialized "java/lang/Math" ∈ sk_tbl) (q4 : Cond.code Lib.Math.min.name Lib.Math.min.code 2 (some .int) ∈ sk_tbl) (hk1 : 1 ≤ kR) (hst : (st.map fun v => v.category).sum ≤ 8) (hr2 : S.1.1 ≤ S1.1.1 ∧ S.1.2 ≤ S1.1.2) (kk : sk_G X C nL S d (pc + 3) lv (.int (if y < x then y else x) :: st)) : sk_G X C nL S d (pc) lv (.int y :: .int x :: st) := by
  obtain ⟨p, l, e, R, s, m, args, below, meth, cd, Q, n0, s0⟩ := X
  obtain ⟨hx, hb, hml, hown, hts, hK, hlk, hrt, hnm, hl0, hfr, hlo, hce, hsl, hn0, hs0, hQ⟩ := K
  intro H locs ls hw hL hv
  have hst2 : (((st.map (sk_up C)).map fun v => v.category).sum) ≤ 8 := by rw [sk_catsum]; exact hst
  exact va_mmin hx hb (by rw [hml]; exact hv.1.symm) hown (hts _ q1) (hts _ q2) (hts _ q3) (hts _ q4) (by rw [hfr]; exact hk1) (by rw [hlo]; omega) (by rw [hce]; show S.1.1 - n0 ≤ _; omega) (by rw [hsl]; show S.1.2 - s0 ≤ _; omega) hd (kk H locs ls hw hL hv)
theorem sk_mmaxJ {X : sk_X} {C : sk_C} {cc : ByteArray} {nL : Nat} {own mn : String} {ret : Option FieldType} {kR : Nat} {l0 : Launch} {ov : Option Value} {S1 S : sk_S} {d1 d : sk_D} {pc : Nat} {lv : List (Nat × Value)} {st : List Value} {idx : Nat} {x y : Int64} (K : sk_Ok X C cc nL own mn ret kR l0 ov S1 d1) (hd : decode cc pc = .ok (.invokestatic idx, 3)) (q1 : Cond.methodLink own idx Lib.MathLoose.max_long.x ∈ sk_tbl) (q2 : Cond.static Lib.MathLoose.max_long.x ∈ sk_tbl) (q3 : Cond.initialized "java/lang/Math" ∈ sk_tbl) (q4 : Cond.code Lib.MathLoose.max_long.x Lib.MathLoose.max_long.code 4 (some .long) ∈ sk_tbl) (hk1 : 1 ≤ kR) (hst : (st.map fun v => v.category).sum ≤ 8) (hr2 : S.1.1 ≤ S1.1.1 ∧ S.1.2 ≤ S1.1.2) (kk : sk_G X C nL S d (pc + 3) lv (.long (if y < x then x else y) :: st)) : sk_G X C nL S d (pc) lv (.long y :: .long x :: st) := by
  obtain ⟨p, l, e, R, s, m, args, below, meth, cd, Q, n0, s0⟩ := X
  obtain ⟨hx, hb, hml, hown, hts, hK, hlk, hrt, hnm, hl0, hfr, hlo, hce, hsl, hn0, hs0, hQ⟩ := K
  intro H locs ls hw hL hv
  have hst2 : (((st.map (sk_up C)).map fun v => v.category).sum) ≤ 8 := by rw [sk_catsum]; exact hst
  exact va_mmax_long hx hb (by rw [hml]; exact hv.1.symm) hown (hts _ q1) (hts _ q2) (hts _ q3) (hts _ q4) (by rw [hfr]; exact hk1) (by rw [hlo]; omega) (by rw [hce]; show S.1.1 - n0 ≤ _; omega) (by rw [hsl]; show S.1.2 - s0 ≤ _; omega) hd (kk H locs ls hw hL hv)
theorem sk_mminJ {X : sk_X} {C : sk_C} {cc : ByteArray} {nL : Nat} {own mn : String} {ret : Option FieldType} {kR : Nat} {l0 : Launch} {ov : Option Value} {S1 S : sk_S} {d1 d : sk_D} {pc : Nat} {lv : List (Nat × Value)} {st : List Value} {idx : Nat} {x y : Int64} (K : sk_Ok X C cc nL own mn ret kR l0 ov S1 d1) (hd : decode cc pc = .ok (.invokestatic idx, 3)) (q1 : Cond.methodLink own idx Lib.MathLoose.min_long.x ∈ sk_tbl) (q2 : Cond.static Lib.MathLoose.min_long.x ∈ sk_tbl) (q3 : Cond.initialized "java/lang/Math" ∈ sk_tbl) (q4 : Cond.code Lib.MathLoose.min_long.x Lib.MathLoose.min_long.code 4 (some .long) ∈ sk_tbl) (hk1 : 1 ≤ kR) (hst : (st.map fun v => v.category).sum ≤ 8) (hr2 : S.1.1 ≤ S1.1.1 ∧ S.1.2 ≤ S1.1.2) (kk : sk_G X C nL S d (pc + 3) lv (.long (if y < x then y else x) :: st)) : sk_G X C nL S d (pc) lv (.long y :: .long x :: st) := by
  obtain ⟨p, l, e, R, s, m, args, below, meth, cd, Q, n0, s0⟩ := X
  obtain ⟨hx, hb, hml, hown, hts, hK, hlk, hrt, hnm, hl0, hfr, hlo, hce, hsl, hn0, hs0, hQ⟩ := K
  intro H locs ls hw hL hv
  have hst2 : (((st.map (sk_up C)).map fun v => v.category).sum) ≤ 8 := by rw [sk_catsum]; exact hst
  exact va_mmin_long hx hb (by rw [hml]; exact hv.1.symm) hown (hts _ q1) (hts _ q2) (hts _ q3) (hts _ q4) (by rw [hfr]; exact hk1) (by rw [hlo]; omega) (by rw [hce]; show S.1.1 - n0 ≤ _; omega) (by rw [hsl]; show S.1.2 - s0 ≤ _; omega) hd (kk H locs ls hw hL hv)
theorem sk_strlen {X : sk_X} {C : sk_C} {cc : ByteArray} {nL : Nat} {own mn : String} {ret : Option FieldType} {kR : Nat} {l0 : Launch} {ov : Option Value} {S1 S : sk_S} {d1 d : sk_D} {pc : Nat} {lv : List (Nat × Value)} {st : List Value} {idx : Nat} {k : UInt32} {v : Int32} (K : sk_Ok X C cc nL own mn ret kR l0 ov S1 d1) (hd : decode cc pc = .ok (.invokevirtual idx, 3)) (hq : Cond.methodLink own idx ⟨"java/lang/String", "length", "()I"⟩ ∈ sk_tbl) (hk : k.toNat < 3) (hkR : 7 ≤ kR) (hst : (st.map fun v => v.category).sum ≤ 8) (hr2 : S.1.1 ≤ S1.1.1 ∧ S.1.2 ≤ S1.1.2) (hv9 : Int32.ofNat (sk_len.getD k.toNat 0) = v) (kk : sk_G X C nL S d (pc + 3) lv (.int v :: st)) : sk_G X C nL S d (pc) lv (.float k :: st) := by
  obtain ⟨p, l, e, R, s, m, args, below, meth, cd, Q, n0, s0⟩ := X
  obtain ⟨hx, hb, hml, hown, hts, hK, hlk, hrt, hnm, hl0, hfr, hlo, hce, hsl, hn0, hs0, hQ⟩ := K
  intro H locs ls hw hL hv
  sorry
theorem sk_charAt {X : sk_X} {C : sk_C} {cc : ByteArray} {nL : Nat} {own mn : String} {ret : Option FieldType} {kR : Nat} {l0 : Launch} {ov : Option Value} {S1 S : sk_S} {d1 d : sk_D} {pc : Nat} {lv : List (Nat × Value)} {st : List Value} {idx : Nat} {k : UInt32} {i v : Int32} (K : sk_Ok X C cc nL own mn ret kR l0 ov S1 d1) (hd : decode cc pc = .ok (.invokevirtual idx, 3)) (hq : Cond.methodLink own idx ⟨"java/lang/String", "charAt", "(I)C"⟩ ∈ sk_tbl) (hk : k.toNat < 3) (hkR : 7 ≤ kR) (hst : (st.map fun v => v.category).sum ≤ 8) (hr2 : S.1.1 ≤ S1.1.1 ∧ S.1.2 ≤ S1.1.2) (he : sk_ch k.toNat i = some v) (kk : sk_G X C nL S d (pc + 3) lv (.int v :: st)) : sk_G X C nL S d (pc) lv (.int i :: .float k :: st) := by
  obtain ⟨p, l, e, R, s, m, args, below, meth, cd, Q, n0, s0⟩ := X
  obtain ⟨hx, hb, hml, hown, hts, hK, hlk, hrt, hnm, hl0, hfr, hlo, hce, hsl, hn0, hs0, hQ⟩ := K
  intro H locs ls hw hL hv
  sorry
theorem sk_indexOf {X : sk_X} {C : sk_C} {cc : ByteArray} {nL : Nat} {own mn : String} {ret : Option FieldType} {kR : Nat} {l0 : Launch} {ov : Option Value} {S1 S : sk_S} {d1 d : sk_D} {pc : Nat} {lv : List (Nat × Value)} {st : List Value} {idx : Nat} {k : UInt32} {c : Int32} (v : Int32) (K : sk_Ok X C cc nL own mn ret kR l0 ov S1 d1) (hd : decode cc pc = .ok (.invokevirtual idx, 3)) (hq : Cond.methodLink own idx ⟨"java/lang/String", "indexOf", "(I)I"⟩ ∈ sk_tbl) (hk : k.toNat < 3) (hkR : 7 ≤ kR) (hst : (st.map fun v => v.category).sum ≤ 8) (hr2 : S.1.1 ≤ S1.1.1 ∧ S.1.2 ≤ S1.1.2) (hc : 0 ≤ c ∧ c < 65536) (hv9 : sk_ix k.toNat c = v) (kk : sk_G X C nL S d (pc + 3) lv (.int v :: st)) : sk_G X C nL S d (pc) lv (.int c :: .float k :: st) := by
  obtain ⟨p, l, e, R, s, m, args, below, meth, cd, Q, n0, s0⟩ := X
  obtain ⟨hx, hb, hml, hown, hts, hK, hlk, hrt, hnm, hl0, hfr, hlo, hce, hsl, hn0, hs0, hQ⟩ := K
  intro H locs ls hw hL hv
  sorry
