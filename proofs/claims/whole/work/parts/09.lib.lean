theorem sk_narB (b : Bool) : narrow .boolean (.int (sk_b b)) = .int (sk_b b) ∧ fits .boolean (.int (sk_b b)) = true := by cases b <;> decide
theorem sk_tsout {x : Int32} (lo : Int) (n : Nat) (vs : List Int32) (hvs : vs = (List.range n).map (fun (k : Nat) => Int32.ofInt (lo + (k : Int)))) (h : x ∉ vs) : x.toInt < lo ∨ lo + n - 1 < x.toInt := by
  rcases Int.lt_or_le x.toInt lo with h1 | h1
  · exact Or.inl h1
  · rcases Int.lt_or_le (lo + n - 1) x.toInt with h2 | h2
    · exact Or.inr h2
    · exfalso
      apply h
      rw [hvs]
      refine List.mem_map.mpr ⟨(x.toInt - lo).toNat, List.mem_range.mpr (by omega), ?_⟩
      rw [show lo + ((x.toInt - lo).toNat : Int) = x.toInt by omega]
      exact Int32.ofInt_toInt x
theorem sk_str_X5_91 {C : sk_C} (U : State) (h : sk_Str C U) : vk_R RX5 91 (sk_txt 0) (C.2.2.2.2.2 (0 : UInt32).toNat) U := h.1
theorem sk_str_X5_83 {C : sk_C} (U : State) (h : sk_Str C U) : vk_R RX5 83 (sk_txt 1) (C.2.2.2.2.2 (1 : UInt32).toNat) U := h.2.1
theorem sk_str_X11_94 {C : sk_C} (U : State) (h : sk_Str C U) : vk_R RX11 94 (sk_txt 2) (C.2.2.2.2.2 (2 : UInt32).toNat) U := h.2.2.1
theorem sk_str_X11_132 {C : sk_C} (U : State) (h : sk_Str C U) : vk_R RX11 132 (sk_txt 3) (C.2.2.2.2.2 (1 : UInt32).toNat) U := h.2.2.2.1
def sk_ch (k : Nat) (i : Int32) : Option Int32 := if ¬ (i < 0 ∨ sk_len.getD k 0 ≤ i.toNatClampNeg) then some ((sk_byt.getD k []).getD i.toNatClampNeg 0) else none
def sk_ix (k : Nat) (c : Int32) : Int32 := match (sk_byt.getD k []).findIdx? (fun b => b == c) with
  | some j => Int32.ofNat j
  | none => -1
theorem sk_i2c_bd (x : Int32) : 0 ≤ (x.toUInt32 % 65536).toInt32 ∧ (x.toUInt32 % 65536).toInt32 < 65536 := by
  rw [pk_char x]
  have h : x.toBitVec.toNat % 65536 < 65536 := Nat.mod_lt _ (by decide)
  exact ⟨nI_pos' (by omega), nI_lt h (by decide)⟩
theorem sk_dec1 (x : Int32) : x + Int32.ofInt (-1) = x - 1 := by
  rw [Int32.sub_eq_add_neg]
  rfl
theorem sk_dec8 (x : Int32) : x + Int32.ofInt (-8) = x - 8 := by
  rw [Int32.sub_eq_add_neg]
  rfl
def sk_Mo {α : Type} (n : Nat × Nat) (pr : α → Nat × Nat) (o : Option α) : Prop := ∀ a, o = some a → n.1 ≤ (pr a).1 ∧ n.2 ≤ (pr a).2
theorem mo_use {α : Type} {n : Nat × Nat} {pr : α → Nat × Nat} {o : Option α} {a : α} (hf : o = some a) (h : sk_Mo n pr o) : n.1 ≤ (pr a).1 ∧ n.2 ≤ (pr a).2 := h a hf
theorem mo_none {α : Type} {n : Nat × Nat} {pr : α → Nat × Nat} : sk_Mo n pr none := fun _ h => by cases h
theorem mo_some {α : Type} {n : Nat × Nat} {pr : α → Nat × Nat} {a : α} (h : n.1 ≤ (pr a).1 ∧ n.2 ≤ (pr a).2) : sk_Mo n pr (some a) := fun _ e => by cases e; exact h
theorem mo_bind {α β : Type} {n : Nat × Nat} {pr : α → Nat × Nat} {o : Option β} {k : β → Option α} (h : ∀ v, sk_Mo n pr (k v)) : sk_Mo n pr (o.bind k) := fun a e => by
  obtain ⟨v, -, h2⟩ := sk_ob e
  exact h v a h2
theorem mo_A {α β : Type} {n : Nat × Nat} {pr : α → Nat × Nat} {q : β → Nat × Nat} {o : Option β} {k : β → Option α} {S1 : sk_S} (h0 : n.1 ≤ S1.1.1 ∧ n.2 ≤ S1.1.2) (hA : sk_Mo S1.1 q o) (h : ∀ v, sk_Mo (q v) pr (k v)) : sk_Mo n pr (o.bind k) := fun a e => by
  obtain ⟨v, h1, h2⟩ := sk_ob e
  have a1 := hA v h1
  have a2 := h v a h2
  omega
theorem sk_pR_1 {S S2 : sk_S} {a c k r : Nat} (h : sk_pR S a c k r = some S2) : S2.1 = S.1 := by
  obtain ⟨-, h⟩ := sk_ib h
  cases h
  rfl
theorem sk_sR24_1 {S S2 : sk_S} {a : Nat} {i : Int32} {r : Nat} (h : sk_sR24 S a i r = some S2) : S2.1 = S.1 := by
  obtain ⟨-, h⟩ := sk_ib h
  cases h
  rfl
theorem sk_sR25_1 {S S2 : sk_S} {a : Nat} {i : Int32} {r : Nat} (h : sk_sR25 S a i r = some S2) : S2.1 = S.1 := by
  obtain ⟨-, h⟩ := sk_ib h
  cases h
  rfl
theorem sk_mk_1 {S : sk_S} {d : sk_D} {t : Nat} {n : Int32} {b : Nat × sk_S × sk_D} (h : sk_mk S d t n = some b) : S.1.1 ≤ b.2.1.1.1 ∧ S.1.2 ≤ b.2.1.1.2 := by
  obtain ⟨-, h⟩ := sk_ib h
  cases h
  exact ⟨Nat.le_succ _, Nat.le_add_right _ _⟩
theorem sk_nS_le (S : sk_S) (t l s : Nat) : S.1.1 ≤ (sk_nS S t l s).1.1 ∧ S.1.2 ≤ (sk_nS S t l s).1.2 := ⟨Nat.le_succ _, Nat.le_add_right _ _⟩
theorem sk_nS_le2 {n : Nat × Nat} {S : sk_S} {t l s : Nat} (h : n.1 ≤ S.1.1 ∧ n.2 ≤ S.1.2) : n.1 ≤ (sk_nS S t l s).1.1 ∧ n.2 ≤ (sk_nS S t l s).1.2 := ⟨Nat.le_trans h.1 (Nat.le_succ _), Nat.le_trans h.2 (Nat.le_add_right _ _)⟩
theorem mo_pR {α : Type} {S : sk_S} {a c kk r : Nat} {pr : α → Nat × Nat} {k : sk_S → Option α} (h : ∀ S2 : sk_S, sk_Mo S2.1 pr (k S2)) : sk_Mo S.1 pr ((sk_pR S a c kk r).bind k) := fun x e => by
  obtain ⟨v, h1, h2⟩ := sk_ob e
  have := h v x h2
  rw [sk_pR_1 h1] at this
  exact this
theorem mo_sR24 {α : Type} {S : sk_S} {a : Nat} {i : Int32} {r : Nat} {pr : α → Nat × Nat} {k : sk_S → Option α} (h : ∀ S2 : sk_S, sk_Mo S2.1 pr (k S2)) : sk_Mo S.1 pr ((sk_sR24 S a i r).bind k) := fun x e => by
  obtain ⟨v, h1, h2⟩ := sk_ob e
  have := h v x h2
  rw [sk_sR24_1 h1] at this
  exact this
theorem mo_sR25 {α : Type} {S : sk_S} {a : Nat} {i : Int32} {r : Nat} {pr : α → Nat × Nat} {k : sk_S → Option α} (h : ∀ S2 : sk_S, sk_Mo S2.1 pr (k S2)) : sk_Mo S.1 pr ((sk_sR25 S a i r).bind k) := fun x e => by
  obtain ⟨v, h1, h2⟩ := sk_ob e
  have := h v x h2
  rw [sk_sR25_1 h1] at this
  exact this
theorem mo_mk {α : Type} {S : sk_S} {d : sk_D} {t : Nat} {n : Int32} {pr : α → Nat × Nat} {k : Nat × sk_S × sk_D → Option α} (h : ∀ b : Nat × sk_S × sk_D, sk_Mo b.2.1.1 pr (k b)) : sk_Mo S.1 pr ((sk_mk S d t n).bind k) := fun x e => by
  obtain ⟨v, h1, h2⟩ := sk_ob e
  have a1 := h v x h2
  have a2 := sk_mk_1 h1
  omega
theorem mo_ite {α : Type} {n : Nat × Nat} {pr : α → Nat × Nat} {c : Prop} [Decidable c] {x y : Option α} (h1 : sk_Mo n pr x) (h2 : sk_Mo n pr y) : sk_Mo n pr (if c then x else y) := by
  by_cases h : c
  · rw [if_pos h]; exact h1
  · rw [if_neg h]; exact h2
theorem mo_itr {σ ε : Type} {body : σ → Option (σ ⊕ ε)} {μ : σ → Nat × Nat} {ν : ε → Nat × Nat} (h : ∀ s, sk_Mo (μ s) (Sum.elim μ ν) (body s)) (s0 : σ) : sk_Mo (μ s0) ν (sk_itr body s0) := fun e he => by
  obtain ⟨n, hn⟩ := sk_itr_iff.mp he
  clear he
  induction n generalizing s0 with
  | zero => cases hn
  | succ n ih =>
    unfold sk_itn at hn
    split at hn
    · next s1 hs =>
      have a1 := h s0 _ hs
      have a2 := ih _ hn
      simp only [Sum.elim_inl] at a1
      omega
    · next e1 hs =>
      cases hn
      exact h s0 _ hs
    · cases hn
theorem sk_loop2 {σ ε : Type} {body : σ → Option (σ ⊕ ε)} {e : ε} (Goal : σ → Prop) {s0 : σ} (h0 : sk_itr body s0 = some e) (step : ∀ s o, sk_itr body s = some e → body s = some o → (∀ s1, o = .inl s1 → Goal s1) → (∀ e1, o = .inr e1 → e1 = e) → Goal s) : Goal s0 := by
  obtain ⟨n, hn⟩ := sk_itr_iff.mp h0
  clear h0
  induction n generalizing s0 with
  | zero => cases hn
  | succ n ih =>
    have hi := sk_itr_iff.mpr ⟨n + 1, hn⟩
    unfold sk_itn at hn
    split at hn
    · next s1 hs => exact step s0 _ hi hs (fun s2 h => by cases h; exact ih hn) (fun e1 h => by cases h)
    · next e1 hs => exact step s0 _ hi hs (fun s2 h => by cases h) (fun e2 h => by cases h; exact Option.some.inj hn)
    · cases hn
theorem sk_le_eq {n : Nat × Nat} {S S2 : sk_S} (h : n.1 ≤ S.1.1 ∧ n.2 ≤ S.1.2) (e : S2.1 = S.1) : n.1 ≤ S2.1.1 ∧ n.2 ≤ S2.1.2 := by rw [e]; exact h
theorem sk_le_tr {n m k : Nat × Nat} (h : n.1 ≤ m.1 ∧ n.2 ≤ m.2) (e : m.1 ≤ k.1 ∧ m.2 ≤ k.2) : n.1 ≤ k.1 ∧ n.2 ≤ k.2 := ⟨Nat.le_trans h.1 e.1, Nat.le_trans h.2 e.2⟩
theorem sk_mmax {X : sk_X} {C : sk_C} {cc : ByteArray} {nL : Nat} {own mn : String} {ret : Option FieldType} {kR : Nat} {l0 : Launch} {ov : Option Value} {S1 S : sk_S} {d1 d : sk_D} {pc : Nat} {lv : List (Nat × Value)} {st : List Value} {idx : Nat} {x y : Int32} (K : sk_Ok X C cc nL own mn ret kR l0 ov S1 d1) (hd : decode cc pc = .ok (.invokestatic idx, 3)) (q1 : Cond.methodLink own idx Lib.Math.max.name ∈ sk_tbl) (q2 : Cond.static Lib.Math.max.name ∈ sk_tbl) (q3 : Cond.initialized "java/lang/Math" ∈ sk_tbl) (q4 : Cond.code Lib.Math.max.name Lib.Math.max.code 2 (some .int) ∈ sk_tbl) (hk1 : 1 ≤ kR) (hst : (st.map fun v => v.category).sum ≤ 8) (hr2 : S.1.1 ≤ S1.1.1 ∧ S.1.2 ≤ S1.1.2) (kk : sk_G X C nL S d (pc + 3) lv (.int (if x < y then y else x) :: st)) : sk_G X C nL S d (pc) lv (.int y :: .int x :: st) := by
  obtain ⟨p, l, e, R, s, m, args, below, meth, cd, Q, n0, s0⟩ := X
  obtain ⟨hx, hb, hml, hown, hts, hK, hlk, hrt, hnm, hl0, hfr, hlo, hce, hsl, hn0, hs0, hQ⟩ := K
  intro H locs ls hw hL hv
  have hst2 : (((st.map (sk_up C)).map fun v => v.category).sum) ≤ 8 := by rw [sk_catsum]; exact hst
  exact va_mmax hx hb (by rw [hml]; exact hv.1.symm) hown (hts _ q1) (hts _ q2) (hts _ q3) (hts _ q4) (Nat.le_trans hk1 hfr) (by omega) (by show S.1.1 - n0 ≤ R.cells; omega) (by show S.1.2 - s0 ≤ R.slots; omega) hd (kk H locs ls hw hL hv)
theorem sk_mmin {X : sk_X} {C : sk_C} {cc : ByteArray} {nL : Nat} {own mn : String} {ret : Option FieldType} {kR : Nat} {l0 : Launch} {ov : Option Value} {S1 S : sk_S} {d1 d : sk_D} {pc : Nat} {lv : List (Nat × Value)} {st : List Value} {idx : Nat} {x y : Int32} (K : sk_Ok X C cc nL own mn ret kR l0 ov S1 d1) (hd : decode cc pc = .ok (.invokestatic idx, 3)) (q1 : Cond.methodLink own idx Lib.Math.min.name ∈ sk_tbl) (q2 : Cond.static Lib.Math.min.name ∈ sk_tbl) (q3 : Cond.initialized "java/lang/Math" ∈ sk_tbl) (q4 : Cond.code Lib.Math.min.name Lib.Math.min.code 2 (some .int) ∈ sk_tbl) (hk1 : 1 ≤ kR) (hst : (st.map fun v => v.category).sum ≤ 8) (hr2 : S.1.1 ≤ S1.1.1 ∧ S.1.2 ≤ S1.1.2) (kk : sk_G X C nL S d (pc + 3) lv (.int (if y < x then y else x) :: st)) : sk_G X C nL S d (pc) lv (.int y :: .int x :: st) := by
  obtain ⟨p, l, e, R, s, m, args, below, meth, cd, Q, n0, s0⟩ := X
  obtain ⟨hx, hb, hml, hown, hts, hK, hlk, hrt, hnm, hl0, hfr, hlo, hce, hsl, hn0, hs0, hQ⟩ := K
  intro H locs ls hw hL hv
  have hst2 : (((st.map (sk_up C)).map fun v => v.category).sum) ≤ 8 := by rw [sk_catsum]; exact hst
  exact va_mmin hx hb (by rw [hml]; exact hv.1.symm) hown (hts _ q1) (hts _ q2) (hts _ q3) (hts _ q4) (Nat.le_trans hk1 hfr) (by omega) (by show S.1.1 - n0 ≤ R.cells; omega) (by show S.1.2 - s0 ≤ R.slots; omega) hd (kk H locs ls hw hL hv)
theorem sk_mmaxJ {X : sk_X} {C : sk_C} {cc : ByteArray} {nL : Nat} {own mn : String} {ret : Option FieldType} {kR : Nat} {l0 : Launch} {ov : Option Value} {S1 S : sk_S} {d1 d : sk_D} {pc : Nat} {lv : List (Nat × Value)} {st : List Value} {idx : Nat} {x y : Int64} (K : sk_Ok X C cc nL own mn ret kR l0 ov S1 d1) (hd : decode cc pc = .ok (.invokestatic idx, 3)) (q1 : Cond.methodLink own idx Lib.MathLoose.max_long.x ∈ sk_tbl) (q2 : Cond.static Lib.MathLoose.max_long.x ∈ sk_tbl) (q3 : Cond.initialized "java/lang/Math" ∈ sk_tbl) (q4 : Cond.code Lib.MathLoose.max_long.x Lib.MathLoose.max_long.code 4 (some .long) ∈ sk_tbl) (hk1 : 1 ≤ kR) (hst : (st.map fun v => v.category).sum ≤ 8) (hr2 : S.1.1 ≤ S1.1.1 ∧ S.1.2 ≤ S1.1.2) (kk : sk_G X C nL S d (pc + 3) lv (.long (if y < x then x else y) :: st)) : sk_G X C nL S d (pc) lv (.long y :: .long x :: st) := by
  obtain ⟨p, l, e, R, s, m, args, below, meth, cd, Q, n0, s0⟩ := X
  obtain ⟨hx, hb, hml, hown, hts, hK, hlk, hrt, hnm, hl0, hfr, hlo, hce, hsl, hn0, hs0, hQ⟩ := K
  intro H locs ls hw hL hv
  have hst2 : (((st.map (sk_up C)).map fun v => v.category).sum) ≤ 8 := by rw [sk_catsum]; exact hst
  exact va_mmax_long hx hb (by rw [hml]; exact hv.1.symm) hown (hts _ q1) (hts _ q2) (hts _ q3) (hts _ q4) (Nat.le_trans hk1 hfr) (by omega) (by show S.1.1 - n0 ≤ R.cells; omega) (by show S.1.2 - s0 ≤ R.slots; omega) hd (kk H locs ls hw hL hv)
theorem sk_mminJ {X : sk_X} {C : sk_C} {cc : ByteArray} {nL : Nat} {own mn : String} {ret : Option FieldType} {kR : Nat} {l0 : Launch} {ov : Option Value} {S1 S : sk_S} {d1 d : sk_D} {pc : Nat} {lv : List (Nat × Value)} {st : List Value} {idx : Nat} {x y : Int64} (K : sk_Ok X C cc nL own mn ret kR l0 ov S1 d1) (hd : decode cc pc = .ok (.invokestatic idx, 3)) (q1 : Cond.methodLink own idx Lib.MathLoose.min_long.x ∈ sk_tbl) (q2 : Cond.static Lib.MathLoose.min_long.x ∈ sk_tbl) (q3 : Cond.initialized "java/lang/Math" ∈ sk_tbl) (q4 : Cond.code Lib.MathLoose.min_long.x Lib.MathLoose.min_long.code 4 (some .long) ∈ sk_tbl) (hk1 : 1 ≤ kR) (hst : (st.map fun v => v.category).sum ≤ 8) (hr2 : S.1.1 ≤ S1.1.1 ∧ S.1.2 ≤ S1.1.2) (kk : sk_G X C nL S d (pc + 3) lv (.long (if y < x then y else x) :: st)) : sk_G X C nL S d (pc) lv (.long y :: .long x :: st) := by
  obtain ⟨p, l, e, R, s, m, args, below, meth, cd, Q, n0, s0⟩ := X
  obtain ⟨hx, hb, hml, hown, hts, hK, hlk, hrt, hnm, hl0, hfr, hlo, hce, hsl, hn0, hs0, hQ⟩ := K
  intro H locs ls hw hL hv
  have hst2 : (((st.map (sk_up C)).map fun v => v.category).sum) ≤ 8 := by rw [sk_catsum]; exact hst
  exact va_mmin_long hx hb (by rw [hml]; exact hv.1.symm) hown (hts _ q1) (hts _ q2) (hts _ q3) (hts _ q4) (Nat.le_trans hk1 hfr) (by omega) (by show S.1.1 - n0 ≤ R.cells; omega) (by show S.1.2 - s0 ≤ R.slots; omega) hd (kk H locs ls hw hL hv)
