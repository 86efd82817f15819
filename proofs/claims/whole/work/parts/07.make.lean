def sk_itn {σ ε : Type} (body : σ → Option (σ ⊕ ε)) : Nat → σ → Option ε
  | 0, _ => none
  | n + 1, s => match body s with
    | some (.inl s1) => sk_itn body n s1
    | some (.inr e) => some e
    | none => none
theorem sk_itn_mono {σ ε : Type} {body : σ → Option (σ ⊕ ε)} : ∀ (n k : Nat) (s : σ) (e : ε), sk_itn body n s = some e → sk_itn body (n + k) s = some e := by
  intro n
  induction n with
  | zero => intro k s e h; cases h
  | succ n ih =>
    intro k s e h
    rw [Nat.add_right_comm]
    unfold sk_itn at h ⊢
    split at h
    · exact ih k _ _ h
    · exact h
    · cases h
theorem sk_itn_one {σ ε : Type} {body : σ → Option (σ ⊕ ε)} {n k : Nat} {s : σ} {e f : ε} (h1 : sk_itn body n s = some e) (h2 : sk_itn body k s = some f) : e = f := by
  have a := sk_itn_mono n k s e h1
  have b := sk_itn_mono k n s f h2
  rw [Nat.add_comm] at b
  exact Option.some.inj (a.symm.trans b)
noncomputable def sk_itr {σ ε : Type} (body : σ → Option (σ ⊕ ε)) (s : σ) : Option ε :=
  @dite _ (∃ e n, sk_itn body n s = some e) (Classical.propDecidable _) (fun h => some (Classical.choose h)) (fun _ => none)
theorem sk_itr_iff {σ ε : Type} {body : σ → Option (σ ⊕ ε)} {s : σ} {e : ε} : sk_itr body s = some e ↔ ∃ n, sk_itn body n s = some e := by
  unfold sk_itr
  by_cases h : ∃ e n, sk_itn body n s = some e
  · rw [dif_pos h]
    constructor
    · intro h2
      cases h2
      exact Classical.choose_spec h
    · rintro ⟨n, hn⟩
      obtain ⟨k, hk⟩ := Classical.choose_spec h
      rw [sk_itn_one hk hn]
  · rw [dif_neg h]
    constructor
    · intro h2; cases h2
    · intro h2; exact absurd ⟨e, h2⟩ h
theorem sk_itr_exit {σ ε : Type} {body : σ → Option (σ ⊕ ε)} {s : σ} {e : ε} (h : body s = some (.inr e)) : sk_itr body s = some e :=
  sk_itr_iff.mpr ⟨1, by unfold sk_itn; rw [h]⟩
theorem sk_itr_step {σ ε : Type} {body : σ → Option (σ ⊕ ε)} {s s1 : σ} (h : body s = some (.inl s1)) : sk_itr body s = sk_itr body s1 := by
  cases h1 : sk_itr body s1 with
  | some e =>
    obtain ⟨n, hn⟩ := sk_itr_iff.mp h1
    exact sk_itr_iff.mpr ⟨n + 1, by unfold sk_itn; rw [h]; exact hn⟩
  | none =>
    cases h2 : sk_itr body s with
    | none => rfl
    | some e =>
      obtain ⟨n, hn⟩ := sk_itr_iff.mp h2
      cases n with
      | zero => cases hn
      | succ n =>
        unfold sk_itn at hn
        rw [h] at hn
        have := sk_itr_iff.mpr ⟨n, hn⟩
        rw [h1] at this
        cases this
theorem sk_loop {σ ε : Type} {body : σ → Option (σ ⊕ ε)} {e : ε} (Goal : σ → Prop) {s0 : σ} (h0 : sk_itr body s0 = some e) (step : ∀ s o, body s = some o → (∀ s1, o = .inl s1 → Goal s1) → (∀ e1, o = .inr e1 → e1 = e) → Goal s) : Goal s0 := by
  obtain ⟨n, hn⟩ := sk_itr_iff.mp h0
  clear h0
  induction n generalizing s0 with
  | zero => cases hn
  | succ n ih =>
    unfold sk_itn at hn
    split at hn
    · next s1 hs => exact step s0 _ hs (fun s2 h => by cases h; exact ih hn) (fun e1 h => by cases h)
    · next e1 hs => exact step s0 _ hs (fun s2 h => by cases h) (fun e2 h => by cases h; exact Option.some.inj hn)
    · cases hn
def sk_nS (S : sk_S) (t len sl : Nat) : sk_S := ((S.1.1 + 1, S.1.2 + sl), fun a => if a = S.1.1 + 1 then (t, len) else S.2.1 a, fun b j => if b = S.1.1 + 1 then 0 else S.2.2 b j)
def sk_nD (S : sk_S) (d : sk_D) : sk_D := (fun b j => if b = S.1.1 + 1 then 0 else d.1 b j, fun b j => if b = S.1.1 + 1 then 0 else d.2 b j)
def sk_mk (S : sk_S) (d : sk_D) (t : Nat) (n : Int32) : Option (Nat × sk_S × sk_D) := if ¬ n < 0 ∧ n.toNatClampNeg ≤ 67108864 then some (S.1.1 + 1, sk_nS S t n.toNatClampNeg n.toNatClampNeg, sk_nD S d) else none
theorem sk_wd.push {C : sk_C} {S : sk_S} {d : sk_D} {H H2 : Heap} {t len sl : Nat} (hw : sk_wd C S d H) (hz : H2.size = H.size + 1) (ho : ∀ q, q < H.size → H2[q]? = H[q]?) (hc : sk_cell C (sk_nS S t len sl) (sk_nD S d) (S.1.1 + 1) H2) : sk_wd C (sk_nS S t len sl) (sk_nD S d) H2 := by
  have h1 := hw.1
  refine ⟨by rw [hz, h1]; show _ = _ + (S.1.1 + 1); omega, fun q hq => by rw [ho q (by omega)]; exact hw.2.1 q hq, fun b hb1 hb2 => ?_, fun a ha => ?_⟩
  · by_cases hba : b = S.1.1 + 1
    · rw [hba]; exact hc
    · have hb3 : b ≤ S.1.1 := by
        have : b ≤ S.1.1 + 1 := hb2
        omega
      have h3 := hw.2.2.1 b hb1 hb3
      have e1 : (sk_nS S t len sl).2.1 b = S.2.1 b := if_neg hba
      have e2 : (sk_nS S t len sl).2.2 b = S.2.2 b := by funext j; exact if_neg hba
      have e3 : (sk_nD S d).1 b = d.1 b := by funext j; exact if_neg hba
      have e4 : (sk_nD S d).2 b = d.2 b := by funext j; exact if_neg hba
      unfold sk_cell at h3 ⊢
      rw [e1, e2, e3, e4]
      exact sk_cf_kept (ho _ (by omega)) h3
  · have ha2 : a = 0 ∨ S.1.1 + 1 < a := ha
    have e1 : (sk_nS S t len sl).2.1 a = S.2.1 a := if_neg (by omega)
    rw [e1]
    exact hw.2.2.2 a (by omega)
def sk_Cls (own : String) (idx c : Nat) : Prop := ∃ (Cn : String) (T : u_T) (N : Nat), sk_classes[c]? = some (Cn, T, N) ∧ (∀ w ∈ u_ws Cn T N, w ∈ sk_tbl) ∧ Cond.classLink own idx Cn ∈ sk_tbl ∧ Cond.instantiable Cn N ∈ sk_tbl ∧ Cond.initialized Cn ∈ sk_tbl ∧ (∀ j, j < N → parseFieldDescriptor (T j).2.2.1 = some (sk_ty c j)) ∧ sk_N c = N ∧ c < 11 ∧ ∀ k, k < N → defaultValue (sk_ty c k) = if sk_isR c k = true then .null else .int 0
theorem sk_new {X : sk_X} {C : sk_C} {cc : ByteArray} {nL : Nat} {own mn : String} {ret : Option FieldType} {kR : Nat} {l0 : Launch} {ov : Option Value} {S1 S : sk_S} {d1 d : sk_D} {pc : Nat} {lv : List (Nat × Value)} {st : List Value} {idx c : Nat} (K : sk_Ok X C cc nL own mn ret kR l0 ov S1 d1) (hd : decode cc pc = .ok (.new idx, 3)) (hC : sk_Cls own idx c) (hr1 : X.2.2.2.2.2.2.2.2.2.2.2.1 ≤ S.1.1 ∧ X.2.2.2.2.2.2.2.2.2.2.2.2 ≤ S.1.2) (hr2 : S.1.1 + 1 ≤ S1.1.1 ∧ S.1.2 + sk_N c ≤ S1.1.2) (kk : sk_G X C nL (sk_nS S c 0 (sk_N c)) (sk_nD S d) (pc + 3) lv (.ref (S.1.1 + 1) :: st)) : sk_G X C nL S d (pc) lv (st) := by
  obtain ⟨p, l, e, R, s, m, args, below, meth, cd, Q, n0, s0⟩ := X
  obtain ⟨hx, hb, hml, hown, hts, hK, hlk, hrt, hnm, hl0, hfr, hlo, hce, hsl, hn0, hs0, hQ⟩ := K
  intro H locs ls hw hL hv
  obtain ⟨Cn, T, N, hc, hin, q1, q2, q3, hty, hN, hc11, hdef⟩ := hC
  dsimp only at hr1
  have hKn := hK.1.1 c _ hc
  refine W.newcK hx hb hown (hts _ q1) (hts _ q2) (hts _ q3) rfl hd (by show S.1.1 - n0 + 1 ≤ R.cells; omega) (by rw [← hN]; show S.1.2 - s0 + _ ≤ R.slots; omega) hKn.2.1 rfl fun H1 kC hkC e1 z1 o1 => ?_
  have hsz := hw.1
  have ea : H.size = sk_zb C + (S.1.1 + 1) := by omega
  have ec : S.1.1 - n0 + 1 = (sk_nS S c 0 (sk_N c)).1.1 - n0 := by show _ = S.1.1 + 1 - n0; omega
  have es : S.1.2 - s0 + N = (sk_nS S c 0 (sk_N c)).1.2 - s0 := by show _ = S.1.2 + sk_N c - s0; omega
  rw [ec, es]
  have hb9 := u_born (sk_ty c) hts hin hKn hkC e1 hty
  have hcell : sk_cell C (sk_nS S c 0 (sk_N c)) (sk_nD S d) (S.1.1 + 1) H1 := by
    refine sk_cell_obj hc11 (if_pos rfl) ?_
    rw [← ea, hN]
    refine hb9.to (fun k hk => ?_)
    rw [hdef k hk]
    by_cases hr : sk_isR c k = true <;> simp [sk_fv, hr, sk_nS, sk_nD, sk_rv]
  have := kk H1 locs ls (hw.push (by rw [z1]) o1 hcell) hL hv
  unfold sk_F at this ⊢
  rw [show (List.map (sk_up C) (Value.ref (S.1.1 + 1) :: st)) = .ref H.size :: List.map (sk_up C) st from by rw [ea]; rfl] at this
  exact this
theorem sk_newa20 {X : sk_X} {C : sk_C} {cc : ByteArray} {nL : Nat} {own mn : String} {ret : Option FieldType} {kR : Nat} {l0 : Launch} {ov : Option Value} {S1 S : sk_S} {d1 d : sk_D} {pc : Nat} {lv : List (Nat × Value)} {st : List Value} {n : Int32} {a : Nat} {S2 : sk_S} {d2 : sk_D} (K : sk_Ok X C cc nL own mn ret kR l0 ov S1 d1) (hd : decode cc pc = .ok (.newarray .int, 2)) (hq : Cond.arrayClass .int ∈ sk_tbl) (he : sk_mk S d 20 n = some (a, S2, d2)) (hr1 : X.2.2.2.2.2.2.2.2.2.2.2.1 ≤ S.1.1 ∧ X.2.2.2.2.2.2.2.2.2.2.2.2 ≤ S.1.2) (hr2 : S2.1.1 ≤ S1.1.1 ∧ S2.1.2 ≤ S1.1.2) (kk : sk_G X C nL S2 d2 (pc + 2) lv (.ref a :: st)) : sk_G X C nL S d (pc) lv (.int n :: st) := by
  obtain ⟨p, l, e, R, s, m, args, below, meth, cd, Q, n0, s0⟩ := X
  obtain ⟨hx, hb, hml, hown, hts, hK, hlk, hrt, hnm, hl0, hfr, hlo, hce, hsl, hn0, hs0, hQ⟩ := K
  intro H locs ls hw hL hv
  obtain ⟨⟨hn1, hn2⟩, he⟩ := sk_ib he
  cases he
  dsimp only at hr1
  have hr2 : S.1.1 + 1 ≤ S1.1.1 ∧ S.1.2 + n.toNatClampNeg ≤ S1.1.2 := hr2
  refine va_newaK (atype := .int) hx hb (hts _ hq) rfl hd rfl hn1 rfl (Nat.le_trans (Nat.mul_le_mul_right _ hn2) (by decide)) (by show S.1.1 - n0 + 1 ≤ R.cells; omega) (by show S.1.2 - s0 + _ ≤ R.slots; omega) rfl fun H1 cA e1 z1 o1 hAr hNm => ?_
  have hsz := hw.1
  have ea : H.size = sk_zb C + (S.1.1 + 1) := by omega
  have ecA : cA = C.2.2.1 0 := Option.some.inj (hNm.symm.trans (hK.1.2 0 (C.2.2.1 0, .int) rfl).2)
  have ec : S.1.1 - n0 + 1 = (sk_nS S 20 n.toNatClampNeg n.toNatClampNeg).1.1 - n0 := by show _ = S.1.1 + 1 - n0; omega
  have es : S.1.2 - s0 + n.toNatClampNeg = (sk_nS S 20 n.toNatClampNeg n.toNatClampNeg).1.2 - s0 := by show _ = S.1.2 + n.toNatClampNeg - s0; omega
  rw [ec, es]
  have hcell : sk_cell C (sk_nS S 20 n.toNatClampNeg n.toNatClampNeg) (sk_nD S d) (S.1.1 + 1) H1 := by
    have hk : (sk_nS S 20 n.toNatClampNeg n.toNatClampNeg).2.1 (S.1.1 + 1) = (20, n.toNatClampNeg) := if_pos rfl
    refine sk_cell20 (by rw [hk]) ?_
    rw [hk, ← ea, e1, ecA]
    simp [sk_nD]
    rfl
  have := kk H1 locs ls (hw.push (by rw [z1]) o1 hcell) hL hv
  unfold sk_F at this ⊢
  rw [show (List.map (sk_up C) (Value.ref (S.1.1 + 1) :: st)) = .ref H.size :: List.map (sk_up C) st from by rw [ea]; rfl] at this
  exact this
theorem sk_newa21 {X : sk_X} {C : sk_C} {cc : ByteArray} {nL : Nat} {own mn : String} {ret : Option FieldType} {kR : Nat} {l0 : Launch} {ov : Option Value} {S1 S : sk_S} {d1 d : sk_D} {pc : Nat} {lv : List (Nat × Value)} {st : List Value} {n : Int32} {a : Nat} {S2 : sk_S} {d2 : sk_D} (K : sk_Ok X C cc nL own mn ret kR l0 ov S1 d1) (hd : decode cc pc = .ok (.newarray .long, 2)) (hq : Cond.arrayClass .long ∈ sk_tbl) (he : sk_mk S d 21 n = some (a, S2, d2)) (hr1 : X.2.2.2.2.2.2.2.2.2.2.2.1 ≤ S.1.1 ∧ X.2.2.2.2.2.2.2.2.2.2.2.2 ≤ S.1.2) (hr2 : S2.1.1 ≤ S1.1.1 ∧ S2.1.2 ≤ S1.1.2) (kk : sk_G X C nL S2 d2 (pc + 2) lv (.ref a :: st)) : sk_G X C nL S d (pc) lv (.int n :: st) := by
  obtain ⟨p, l, e, R, s, m, args, below, meth, cd, Q, n0, s0⟩ := X
  obtain ⟨hx, hb, hml, hown, hts, hK, hlk, hrt, hnm, hl0, hfr, hlo, hce, hsl, hn0, hs0, hQ⟩ := K
  intro H locs ls hw hL hv
  obtain ⟨⟨hn1, hn2⟩, he⟩ := sk_ib he
  cases he
  dsimp only at hr1
  have hr2 : S.1.1 + 1 ≤ S1.1.1 ∧ S.1.2 + n.toNatClampNeg ≤ S1.1.2 := hr2
  refine va_newaK (atype := .long) hx hb (hts _ hq) rfl hd rfl hn1 rfl (Nat.le_trans (Nat.mul_le_mul_right _ hn2) (by decide)) (by show S.1.1 - n0 + 1 ≤ R.cells; omega) (by show S.1.2 - s0 + _ ≤ R.slots; omega) rfl fun H1 cA e1 z1 o1 hAr hNm => ?_
  have hsz := hw.1
  have ea : H.size = sk_zb C + (S.1.1 + 1) := by omega
  have ecA : cA = C.2.2.1 1 := Option.some.inj (hNm.symm.trans (hK.1.2 1 (C.2.2.1 1, .long) rfl).2)
  have ec : S.1.1 - n0 + 1 = (sk_nS S 21 n.toNatClampNeg n.toNatClampNeg).1.1 - n0 := by show _ = S.1.1 + 1 - n0; omega
  have es : S.1.2 - s0 + n.toNatClampNeg = (sk_nS S 21 n.toNatClampNeg n.toNatClampNeg).1.2 - s0 := by show _ = S.1.2 + n.toNatClampNeg - s0; omega
  rw [ec, es]
  have hcell : sk_cell C (sk_nS S 21 n.toNatClampNeg n.toNatClampNeg) (sk_nD S d) (S.1.1 + 1) H1 := by
    have hk : (sk_nS S 21 n.toNatClampNeg n.toNatClampNeg).2.1 (S.1.1 + 1) = (21, n.toNatClampNeg) := if_pos rfl
    refine sk_cell21 (by rw [hk]) ?_
    rw [hk, ← ea, e1, ecA]
    simp [sk_nD]
    rfl
  have := kk H1 locs ls (hw.push (by rw [z1]) o1 hcell) hL hv
  unfold sk_F at this ⊢
  rw [show (List.map (sk_up C) (Value.ref (S.1.1 + 1) :: st)) = .ref H.size :: List.map (sk_up C) st from by rw [ea]; rfl] at this
  exact this
theorem sk_newa22 {X : sk_X} {C : sk_C} {cc : ByteArray} {nL : Nat} {own mn : String} {ret : Option FieldType} {kR : Nat} {l0 : Launch} {ov : Option Value} {S1 S : sk_S} {d1 d : sk_D} {pc : Nat} {lv : List (Nat × Value)} {st : List Value} {n : Int32} {a : Nat} {S2 : sk_S} {d2 : sk_D} (K : sk_Ok X C cc nL own mn ret kR l0 ov S1 d1) (hd : decode cc pc = .ok (.newarray .byte, 2)) (hq : Cond.arrayClass .byte ∈ sk_tbl) (he : sk_mk S d 22 n = some (a, S2, d2)) (hr1 : X.2.2.2.2.2.2.2.2.2.2.2.1 ≤ S.1.1 ∧ X.2.2.2.2.2.2.2.2.2.2.2.2 ≤ S.1.2) (hr2 : S2.1.1 ≤ S1.1.1 ∧ S2.1.2 ≤ S1.1.2) (kk : sk_G X C nL S2 d2 (pc + 2) lv (.ref a :: st)) : sk_G X C nL S d (pc) lv (.int n :: st) := by
  obtain ⟨p, l, e, R, s, m, args, below, meth, cd, Q, n0, s0⟩ := X
  obtain ⟨hx, hb, hml, hown, hts, hK, hlk, hrt, hnm, hl0, hfr, hlo, hce, hsl, hn0, hs0, hQ⟩ := K
  intro H locs ls hw hL hv
  obtain ⟨⟨hn1, hn2⟩, he⟩ := sk_ib he
  cases he
  dsimp only at hr1
  have hr2 : S.1.1 + 1 ≤ S1.1.1 ∧ S.1.2 + n.toNatClampNeg ≤ S1.1.2 := hr2
  refine va_newaK (atype := .byte) hx hb (hts _ hq) rfl hd rfl hn1 rfl (Nat.le_trans (Nat.mul_le_mul_right _ hn2) (by decide)) (by show S.1.1 - n0 + 1 ≤ R.cells; omega) (by show S.1.2 - s0 + _ ≤ R.slots; omega) rfl fun H1 cA e1 z1 o1 hAr hNm => ?_
  have hsz := hw.1
  have ea : H.size = sk_zb C + (S.1.1 + 1) := by omega
  have ecA : cA = C.2.2.1 2 := Option.some.inj (hNm.symm.trans (hK.1.2 2 (C.2.2.1 2, .byte) rfl).2)
  have ec : S.1.1 - n0 + 1 = (sk_nS S 22 n.toNatClampNeg n.toNatClampNeg).1.1 - n0 := by show _ = S.1.1 + 1 - n0; omega
  have es : S.1.2 - s0 + n.toNatClampNeg = (sk_nS S 22 n.toNatClampNeg n.toNatClampNeg).1.2 - s0 := by show _ = S.1.2 + n.toNatClampNeg - s0; omega
  rw [ec, es]
  have hcell : sk_cell C (sk_nS S 22 n.toNatClampNeg n.toNatClampNeg) (sk_nD S d) (S.1.1 + 1) H1 := by
    have hk : (sk_nS S 22 n.toNatClampNeg n.toNatClampNeg).2.1 (S.1.1 + 1) = (22, n.toNatClampNeg) := if_pos rfl
    refine sk_cell22 (by rw [hk]) ?_
    rw [hk, ← ea, e1, ecA]
    simp [sk_nD]
    rfl
  have := kk H1 locs ls (hw.push (by rw [z1]) o1 hcell) hL hv
  unfold sk_F at this ⊢
  rw [show (List.map (sk_up C) (Value.ref (S.1.1 + 1) :: st)) = .ref H.size :: List.map (sk_up C) st from by rw [ea]; rfl] at this
  exact this
theorem sk_newa23 {X : sk_X} {C : sk_C} {cc : ByteArray} {nL : Nat} {own mn : String} {ret : Option FieldType} {kR : Nat} {l0 : Launch} {ov : Option Value} {S1 S : sk_S} {d1 d : sk_D} {pc : Nat} {lv : List (Nat × Value)} {st : List Value} {n : Int32} {a : Nat} {S2 : sk_S} {d2 : sk_D} (K : sk_Ok X C cc nL own mn ret kR l0 ov S1 d1) (hd : decode cc pc = .ok (.newarray .boolean, 2)) (hq : Cond.arrayClass .boolean ∈ sk_tbl) (he : sk_mk S d 23 n = some (a, S2, d2)) (hr1 : X.2.2.2.2.2.2.2.2.2.2.2.1 ≤ S.1.1 ∧ X.2.2.2.2.2.2.2.2.2.2.2.2 ≤ S.1.2) (hr2 : S2.1.1 ≤ S1.1.1 ∧ S2.1.2 ≤ S1.1.2) (kk : sk_G X C nL S2 d2 (pc + 2) lv (.ref a :: st)) : sk_G X C nL S d (pc) lv (.int n :: st) := by
  obtain ⟨p, l, e, R, s, m, args, below, meth, cd, Q, n0, s0⟩ := X
  obtain ⟨hx, hb, hml, hown, hts, hK, hlk, hrt, hnm, hl0, hfr, hlo, hce, hsl, hn0, hs0, hQ⟩ := K
  intro H locs ls hw hL hv
  obtain ⟨⟨hn1, hn2⟩, he⟩ := sk_ib he
  cases he
  dsimp only at hr1
  have hr2 : S.1.1 + 1 ≤ S1.1.1 ∧ S.1.2 + n.toNatClampNeg ≤ S1.1.2 := hr2
  refine va_newaK (atype := .boolean) hx hb (hts _ hq) rfl hd rfl hn1 rfl (Nat.le_trans (Nat.mul_le_mul_right _ hn2) (by decide)) (by show S.1.1 - n0 + 1 ≤ R.cells; omega) (by show S.1.2 - s0 + _ ≤ R.slots; omega) rfl fun H1 cA e1 z1 o1 hAr hNm => ?_
  have hsz := hw.1
  have ea : H.size = sk_zb C + (S.1.1 + 1) := by omega
  have ecA : cA = C.2.2.1 3 := Option.some.inj (hNm.symm.trans (hK.1.2 3 (C.2.2.1 3, .boolean) rfl).2)
  have ec : S.1.1 - n0 + 1 = (sk_nS S 23 n.toNatClampNeg n.toNatClampNeg).1.1 - n0 := by show _ = S.1.1 + 1 - n0; omega
  have es : S.1.2 - s0 + n.toNatClampNeg = (sk_nS S 23 n.toNatClampNeg n.toNatClampNeg).1.2 - s0 := by show _ = S.1.2 + n.toNatClampNeg - s0; omega
  rw [ec, es]
  have hcell : sk_cell C (sk_nS S 23 n.toNatClampNeg n.toNatClampNeg) (sk_nD S d) (S.1.1 + 1) H1 := by
    have hk : (sk_nS S 23 n.toNatClampNeg n.toNatClampNeg).2.1 (S.1.1 + 1) = (23, n.toNatClampNeg) := if_pos rfl
    refine sk_cell23 (by rw [hk]) ?_
    rw [hk, ← ea, e1, ecA]
    simp [sk_nD]
    rfl
  have := kk H1 locs ls (hw.push (by rw [z1]) o1 hcell) hL hv
  unfold sk_F at this ⊢
  rw [show (List.map (sk_up C) (Value.ref (S.1.1 + 1) :: st)) = .ref H.size :: List.map (sk_up C) st from by rw [ea]; rfl] at this
  exact this
theorem sk_anew24 {X : sk_X} {C : sk_C} {cc : ByteArray} {nL : Nat} {own mn : String} {ret : Option FieldType} {kR : Nat} {l0 : Launch} {ov : Option Value} {S1 S : sk_S} {d1 d : sk_D} {pc : Nat} {lv : List (Nat × Value)} {st : List Value} {n : Int32} {a idx : Nat} {S2 : sk_S} {d2 : sk_D} (K : sk_Ok X C cc nL own mn ret kR l0 ov S1 d1) (hd : decode cc pc = .ok (.anewarray idx, 3)) (hq : Cond.classLink own idx "StubKeep$Tray" ∈ sk_tbl) (he : sk_mk S d 24 n = some (a, S2, d2)) (hr1 : X.2.2.2.2.2.2.2.2.2.2.2.1 ≤ S.1.1 ∧ X.2.2.2.2.2.2.2.2.2.2.2.2 ≤ S.1.2) (hr2 : S2.1.1 ≤ S1.1.1 ∧ S2.1.2 ≤ S1.1.2) (kk : sk_G X C nL S2 d2 (pc + 3) lv (.ref a :: st)) : sk_G X C nL S d (pc) lv (.int n :: st) := by
  obtain ⟨p, l, e, R, s, m, args, below, meth, cd, Q, n0, s0⟩ := X
  obtain ⟨hx, hb, hml, hown, hts, hK, hlk, hrt, hnm, hl0, hfr, hlo, hce, hsl, hn0, hs0, hQ⟩ := K
  intro H locs ls hw hL hv
  obtain ⟨⟨hn1, hn2⟩, he⟩ := sk_ib he
  cases he
  dsimp only at hr1
  have hr2 : S.1.1 + 1 ≤ S1.1.1 ∧ S.1.2 + n.toNatClampNeg ≤ S1.1.2 := hr2
  obtain ⟨-, -, -, -, -, -, hAO1, hAO2, -⟩ := hK.2.1
  refine W.anew hx hb hown (hts _ hq) (hAO1).use rfl hd rfl hn1 (by omega) (by show S.1.1 - n0 + 1 ≤ R.cells; omega) (by show S.1.2 - s0 + _ ≤ R.slots; omega) fun cA kA comp hNm h2 h3 h4 => ?_
  have hsz := hw.1
  have ea : H.size = sk_zb C + (S.1.1 + 1) := by omega
  have ecA : cA = C.2.2.1 4 := by
    obtain ⟨_, _, _, _, _, h9⟩ := (hK.1.2 4 (C.2.2.1 4, .object "StubKeep$Tray") rfl).2
    exact Option.some.inj (hNm.symm.trans h9)
  have ec : S.1.1 - n0 + 1 = (sk_nS S 24 n.toNatClampNeg n.toNatClampNeg).1.1 - n0 := by show _ = S.1.1 + 1 - n0; omega
  have es : S.1.2 - s0 + n.toNatClampNeg = (sk_nS S 24 n.toNatClampNeg n.toNatClampNeg).1.2 - s0 := by show _ = S.1.2 + n.toNatClampNeg - s0; omega
  rw [ec, es]
  have hcell : sk_cell C (sk_nS S 24 n.toNatClampNeg n.toNatClampNeg) (sk_nD S d) (S.1.1 + 1) (H.push { cls := cA, slots := Array.replicate n.toNatClampNeg .null, vm := .none }) := by
    have hk : (sk_nS S 24 n.toNatClampNeg n.toNatClampNeg).2.1 (S.1.1 + 1) = (24, n.toNatClampNeg) := if_pos rfl
    refine sk_cell24 (by rw [hk]) ?_
    rw [hk, ← ea, Array.getElem?_push_size, ecA]
    unfold arrV
    congr 2
    refine Array.ext (by simp) (fun i h1 h2 => ?_)
    simp [sk_nS, sk_rv]
  have := kk (H.push { cls := cA, slots := Array.replicate n.toNatClampNeg .null, vm := .none }) locs ls (hw.push (by simp) (fun q hq => by rw [Array.getElem?_push, if_neg (by omega)]) hcell) hL hv
  unfold sk_F at this ⊢
  rw [show (List.map (sk_up C) (Value.ref (S.1.1 + 1) :: st)) = .ref H.size :: List.map (sk_up C) st from by rw [ea]; rfl] at this
  exact this
def sk_sR24 (S : sk_S) (a : Nat) (i : Int32) (r : Nat) : Option sk_S := if (S.2.1 a).1 = 24 ∧ ¬ (i < 0 ∨ (S.2.1 a).2 ≤ i.toNatClampNeg) ∧ S.2.1 r = (6, 0) then some (sk_uR S a i.toNatClampNeg r) else none
theorem sk_ast24 {X : sk_X} {C : sk_C} {cc : ByteArray} {nL : Nat} {own mn : String} {ret : Option FieldType} {kR : Nat} {l0 : Launch} {ov : Option Value} {S1 S : sk_S} {d1 d : sk_D} {pc : Nat} {lv : List (Nat × Value)} {st : List Value} {a : Nat} {i : Int32} {r : Nat} (S2 : sk_S) (K : sk_Ok X C cc nL own mn ret kR l0 ov S1 d1) (hd : decode cc pc = .ok (.aastore, 1)) (he : sk_sR24 S a i r = some S2) (kk : sk_G X C nL S2 d (pc + 1) lv (st)) : sk_G X C nL S d (pc) lv (.ref r :: .int i :: .ref a :: st) := by
  obtain ⟨p, l, e, R, s, m, args, below, meth, cd, Q, n0, s0⟩ := X
  obtain ⟨hx, hb, hml, hown, hts, hK, hlk, hrt, hnm, hl0, hfr, hlo, hce, hsl, hn0, hs0, hQ⟩ := K
  intro H locs ls hw hL hv
  obtain ⟨⟨hk, hin, hkr⟩, he⟩ := sk_ib he
  cases he
  have hlt : i.toNatClampNeg < (S.2.1 a).2 := Nat.not_le.mp fun q => hin (Or.inr q)
  have h0 : ¬ i < 0 := fun q => hin (Or.inl q)
  have ha := (sk_arr24 hw hk).1
  have hrr := sk_in_n hw (a := r) (by rw [hkr]; intro h9; cases h9)
  obtain ⟨cellV, g1, g2, g3, -⟩ := sk_obj hw (c := 6) (by decide) hkr
  have hcls := (hK.1.1 6 _ rfl).2
  obtain ⟨kA, comp, k1, k2, k3, -⟩ := (hK.1.2 4 (C.2.2.1 4, .object "StubKeep$Tray") rfl).2
  have hcomp : comp = C.1 6 := Option.some.inj (k3.symm.trans hcls.1)
  subst hcomp
  obtain ⟨kC, hkC, -⟩ := id hcls.2
  refine W.aast hx hb (sk_arr24 hw hk).2 (fun q h => by cases h) (fun h => by cases h) k1 k2 rfl hkC ⟨h0, by rw [arrV_size]; exact hlt⟩ g1 (fun q h => by rw [g3] at h; cases h) (by rw [g2]; exact hkC) (by rw [g2]; exact va_assign hcls) rfl rfl hd fun H1 e1 e2 e3 => ?_
  refine kk H1 _ ls ?_ (fun q hq9 => ?_) hv
  · refine hw.put (a := a) (S2 := sk_uR S a i.toNatClampNeg r) (d2 := d) rfl rfl (by intro h; rw [h] at hk; cases hk) (fun b h => sk_uR_ne h) (fun b h => rfl) (fun b h => rfl) e2 e3 ?_
    refine sk_cell24 hk ?_
    rw [e1, arrV_store]
    congr 2
    funext q
    by_cases hq : q = i.toNatClampNeg
    · subst hq
      have : r ≠ 0 := by omega
      simp [updV, sk_uR, sk_rv, this]
    · simp [updV, sk_uR, hq]
  · rcases List.mem_append.mp hq9 with h9 | h9
    · exact hL q h9
    · cases (List.mem_singleton.mp h9)
      show sk_zb C + 1 ≤ sk_zb C + a
      omega
theorem sk_anew25 {X : sk_X} {C : sk_C} {cc : ByteArray} {nL : Nat} {own mn : String} {ret : Option FieldType} {kR : Nat} {l0 : Launch} {ov : Option Value} {S1 S : sk_S} {d1 d : sk_D} {pc : Nat} {lv : List (Nat × Value)} {st : List Value} {n : Int32} {a idx : Nat} {S2 : sk_S} {d2 : sk_D} (K : sk_Ok X C cc nL own mn ret kR l0 ov S1 d1) (hd : decode cc pc = .ok (.anewarray idx, 3)) (hq : Cond.classLink own idx "StubKeep$Life" ∈ sk_tbl) (he : sk_mk S d 25 n = some (a, S2, d2)) (hr1 : X.2.2.2.2.2.2.2.2.2.2.2.1 ≤ S.1.1 ∧ X.2.2.2.2.2.2.2.2.2.2.2.2 ≤ S.1.2) (hr2 : S2.1.1 ≤ S1.1.1 ∧ S2.1.2 ≤ S1.1.2) (kk : sk_G X C nL S2 d2 (pc + 3) lv (.ref a :: st)) : sk_G X C nL S d (pc) lv (.int n :: st) := by
  obtain ⟨p, l, e, R, s, m, args, below, meth, cd, Q, n0, s0⟩ := X
  obtain ⟨hx, hb, hml, hown, hts, hK, hlk, hrt, hnm, hl0, hfr, hlo, hce, hsl, hn0, hs0, hQ⟩ := K
  intro H locs ls hw hL hv
  obtain ⟨⟨hn1, hn2⟩, he⟩ := sk_ib he
  cases he
  dsimp only at hr1
  have hr2 : S.1.1 + 1 ≤ S1.1.1 ∧ S.1.2 + n.toNatClampNeg ≤ S1.1.2 := hr2
  obtain ⟨-, -, -, -, -, -, hAO1, hAO2, -⟩ := hK.2.1
  refine W.anew hx hb hown (hts _ hq) (hAO2).use rfl hd rfl hn1 (by omega) (by show S.1.1 - n0 + 1 ≤ R.cells; omega) (by show S.1.2 - s0 + _ ≤ R.slots; omega) fun cA kA comp hNm h2 h3 h4 => ?_
  have hsz := hw.1
  have ea : H.size = sk_zb C + (S.1.1 + 1) := by omega
  have ecA : cA = C.2.2.1 5 := by
    obtain ⟨_, _, _, _, _, h9⟩ := (hK.1.2 5 (C.2.2.1 5, .object "StubKeep$Life") rfl).2
    exact Option.some.inj (hNm.symm.trans h9)
  have ec : S.1.1 - n0 + 1 = (sk_nS S 25 n.toNatClampNeg n.toNatClampNeg).1.1 - n0 := by show _ = S.1.1 + 1 - n0; omega
  have es : S.1.2 - s0 + n.toNatClampNeg = (sk_nS S 25 n.toNatClampNeg n.toNatClampNeg).1.2 - s0 := by show _ = S.1.2 + n.toNatClampNeg - s0; omega
  rw [ec, es]
  have hcell : sk_cell C (sk_nS S 25 n.toNatClampNeg n.toNatClampNeg) (sk_nD S d) (S.1.1 + 1) (H.push { cls := cA, slots := Array.replicate n.toNatClampNeg .null, vm := .none }) := by
    have hk : (sk_nS S 25 n.toNatClampNeg n.toNatClampNeg).2.1 (S.1.1 + 1) = (25, n.toNatClampNeg) := if_pos rfl
    refine sk_cell25 (by rw [hk]) ?_
    rw [hk, ← ea, Array.getElem?_push_size, ecA]
    unfold arrV
    congr 2
    refine Array.ext (by simp) (fun i h1 h2 => ?_)
    simp [sk_nS, sk_rv]
  have := kk (H.push { cls := cA, slots := Array.replicate n.toNatClampNeg .null, vm := .none }) locs ls (hw.push (by simp) (fun q hq => by rw [Array.getElem?_push, if_neg (by omega)]) hcell) hL hv
  unfold sk_F at this ⊢
  rw [show (List.map (sk_up C) (Value.ref (S.1.1 + 1) :: st)) = .ref H.size :: List.map (sk_up C) st from by rw [ea]; rfl] at this
  exact this
def sk_sR25 (S : sk_S) (a : Nat) (i : Int32) (r : Nat) : Option sk_S := if (S.2.1 a).1 = 25 ∧ ¬ (i < 0 ∨ (S.2.1 a).2 ≤ i.toNatClampNeg) ∧ S.2.1 r = (2, 0) then some (sk_uR S a i.toNatClampNeg r) else none
theorem sk_ast25 {X : sk_X} {C : sk_C} {cc : ByteArray} {nL : Nat} {own mn : String} {ret : Option FieldType} {kR : Nat} {l0 : Launch} {ov : Option Value} {S1 S : sk_S} {d1 d : sk_D} {pc : Nat} {lv : List (Nat × Value)} {st : List Value} {a : Nat} {i : Int32} {r : Nat} (S2 : sk_S) (K : sk_Ok X C cc nL own mn ret kR l0 ov S1 d1) (hd : decode cc pc = .ok (.aastore, 1)) (he : sk_sR25 S a i r = some S2) (kk : sk_G X C nL S2 d (pc + 1) lv (st)) : sk_G X C nL S d (pc) lv (.ref r :: .int i :: .ref a :: st) := by
  obtain ⟨p, l, e, R, s, m, args, below, meth, cd, Q, n0, s0⟩ := X
  obtain ⟨hx, hb, hml, hown, hts, hK, hlk, hrt, hnm, hl0, hfr, hlo, hce, hsl, hn0, hs0, hQ⟩ := K
  intro H locs ls hw hL hv
  obtain ⟨⟨hk, hin, hkr⟩, he⟩ := sk_ib he
  cases he
  have hlt : i.toNatClampNeg < (S.2.1 a).2 := Nat.not_le.mp fun q => hin (Or.inr q)
  have h0 : ¬ i < 0 := fun q => hin (Or.inl q)
  have ha := (sk_arr25 hw hk).1
  have hrr := sk_in_n hw (a := r) (by rw [hkr]; intro h9; cases h9)
  obtain ⟨cellV, g1, g2, g3, -⟩ := sk_obj hw (c := 2) (by decide) hkr
  have hcls := (hK.1.1 2 _ rfl).2
  obtain ⟨kA, comp, k1, k2, k3, -⟩ := (hK.1.2 5 (C.2.2.1 5, .object "StubKeep$Life") rfl).2
  have hcomp : comp = C.1 2 := Option.some.inj (k3.symm.trans hcls.1)
  subst hcomp
  obtain ⟨kC, hkC, -⟩ := id hcls.2
  refine W.aast hx hb (sk_arr25 hw hk).2 (fun q h => by cases h) (fun h => by cases h) k1 k2 rfl hkC ⟨h0, by rw [arrV_size]; exact hlt⟩ g1 (fun q h => by rw [g3] at h; cases h) (by rw [g2]; exact hkC) (by rw [g2]; exact va_assign hcls) rfl rfl hd fun H1 e1 e2 e3 => ?_
  refine kk H1 _ ls ?_ (fun q hq9 => ?_) hv
  · refine hw.put (a := a) (S2 := sk_uR S a i.toNatClampNeg r) (d2 := d) rfl rfl (by intro h; rw [h] at hk; cases hk) (fun b h => sk_uR_ne h) (fun b h => rfl) (fun b h => rfl) e2 e3 ?_
    refine sk_cell25 hk ?_
    rw [e1, arrV_store]
    congr 2
    funext q
    by_cases hq : q = i.toNatClampNeg
    · subst hq
      have : r ≠ 0 := by omega
      simp [updV, sk_uR, sk_rv, this]
    · simp [updV, sk_uR, hq]
  · rcases List.mem_append.mp hq9 with h9 | h9
    · exact hL q h9
    · cases (List.mem_singleton.mp h9)
      show sk_zb C + 1 ≤ sk_zb C + a
      omega
theorem sk_objInit {X : sk_X} {C : sk_C} {cc : ByteArray} {nL : Nat} {own mn : String} {ret : Option FieldType} {kR : Nat} {l0 : Launch} {ov : Option Value} {S1 S : sk_S} {d1 d : sk_D} {pc : Nat} {lv : List (Nat × Value)} {st : List Value} {idx : Nat} {a : Nat} (K : sk_Ok X C cc nL own mn ret kR l0 ov S1 d1) (hd : decode cc pc = .ok (.invokespecial idx, 3)) (q1 : Cond.methodLink own idx Lib.objectInit ∈ sk_tbl) (q2 : Cond.instanceMethod Lib.objectInit ∈ sk_tbl) (q3 : Cond.code Lib.objectInit ⟨#[0xb1]⟩ 1 none ∈ sk_tbl) (hk1 : 1 ≤ kR) (hst : (st.map fun v => v.category).sum ≤ 8) (kk : sk_G X C nL S d (pc + 3) lv (st)) : sk_G X C nL S d (pc) lv (.ref a :: st) := by
  obtain ⟨p, l, e, R, s, m, args, below, meth, cd, Q, n0, s0⟩ := X
  obtain ⟨hx, hb, hml, hown, hts, hK, hlk, hrt, hnm, hl0, hfr, hlo, hce, hsl, hn0, hs0, hQ⟩ := K
  intro H locs ls hw hL hv
  have h5 := lv_room (m := m) (pc := pc) (ls := ls) (rest := []) (st := st.map (sk_up C)) (by rw [sk_catsum]; exact hst)
  exact W.objInit hx hb hown (hts _ q1) (hts _ q2) (hts _ q3) rfl (by rw [hml]; exact hv.1) rfl hd (Nat.le_trans hk1 hfr) (Nat.le_trans (Nat.add_le_add_right h5 12) (by omega)) (kk H locs ls hw hL hv)
theorem sk_ldcS {X : sk_X} {C : sk_C} {cc : ByteArray} {nL : Nat} {own mn : String} {ret : Option FieldType} {kR : Nat} {l0 : Launch} {ov : Option Value} {S1 S : sk_S} {d1 d : sk_D} {pc : Nat} {lv : List (Nat × Value)} {st : List Value} {idx : Nat} {tx : String} (k : UInt32) (K : sk_Ok X C cc nL own mn ret kR l0 ov S1 d1) (hd : decode cc pc = .ok (.ldc idx, 2)) (hz : ∀ U, sk_Str C U → vk_R own idx tx (C.2.2.2.2.2 k.toNat) U) (kk : sk_G X C nL S d (pc + 2) lv (.float k :: st)) : sk_G X C nL S d (pc) lv (st) := by
  obtain ⟨p, l, e, R, s, m, args, below, meth, cd, Q, n0, s0⟩ := X
  obtain ⟨hx, hb, hml, hown, hts, hK, hlk, hrt, hnm, hl0, hfr, hlo, hce, hsl, hn0, hs0, hQ⟩ := K
  intro H locs ls hw hL hv
  exact va_ldcS hx hb hown (hz s hK.2.1) hd (kk H locs ls hw hL hv)
def sk_cp (S : sk_S) (d : sk_D) (a0 : Nat) (sp : Int32) (a : Nat) (dp n : Int32) : Option sk_D := if (S.2.1 a0).1 = 20 ∧ (S.2.1 a).1 = 20 ∧ ¬ sp < 0 ∧ ¬ dp < 0 ∧ ¬ n < 0 ∧ sp.toNatClampNeg + n.toNatClampNeg ≤ (S.2.1 a0).2 ∧ dp.toNatClampNeg + n.toNatClampNeg ≤ (S.2.1 a).2 then some (fun b j => if b = a then va_cpy (d.1 a0) (d.1 a) sp.toNatClampNeg dp.toNatClampNeg n.toNatClampNeg j else d.1 b j, d.2) else none
theorem sk_copy {X : sk_X} {C : sk_C} {cc : ByteArray} {nL : Nat} {own mn : String} {ret : Option FieldType} {kR : Nat} {l0 : Launch} {ov : Option Value} {S1 S : sk_S} {d1 d : sk_D} {pc : Nat} {lv : List (Nat × Value)} {st : List Value} {idx : Nat} {a0 a : Nat} {sp dp n : Int32} (d2 : sk_D) (K : sk_Ok X C cc nL own mn ret kR l0 ov S1 d1) (hd : decode cc pc = .ok (.invokestatic idx, 3)) (q1 : Cond.methodLink own idx arraycopyName ∈ sk_tbl) (q2 : Cond.native arraycopyName ∈ sk_tbl) (q3 : Cond.static arraycopyName ∈ sk_tbl) (q4 : Cond.initialized "java/lang/System" ∈ sk_tbl) (hk1 : 1 ≤ kR) (hst : (st.map fun v => v.category).sum ≤ 8) (he : sk_cp S d a0 sp a dp n = some d2) (kk : sk_G X C nL S d2 (pc + 3) lv (st)) : sk_G X C nL S d (pc) lv (.int n :: .int dp :: .ref a :: .int sp :: .ref a0 :: st) := by
  obtain ⟨p, l, e, R, s, m, args, below, meth, cd, Q, n0, s0⟩ := X
  obtain ⟨hx, hb, hml, hown, hts, hK, hlk, hrt, hnm, hl0, hfr, hlo, hce, hsl, hn0, hs0, hQ⟩ := K
  intro H locs ls hw hL hv
  obtain ⟨⟨hk0, hk, h1, h2, h3, h4, h5⟩, he⟩ := sk_ib he
  cases he
  have ha := (sk_arr20 hw hk).1
  have hc0 := (sk_arr20 hw hk0).2
  have hc1 := (sk_arr20 hw hk).2
  have nn : ∀ z : Int32, ¬ z < 0 → z.toInt = (z.toNatClampNeg : Int) := by
    intro z hz
    have hz0 : (0 : Int) ≤ z.toInt := by
      have := Int32.not_lt.mp hz
      simpa using Int32.le_iff_toInt_le.mp this
    show z.toInt = ((z.toInt.toNat : Nat) : Int)
    omega
  intro T hT XX
  change T.heap = H at hT
  obtain ⟨-, kz0, hkz0, cm0, hkk0⟩ := (hK.1.2 0 (C.2.2.1 0, .int) rfl).1 (S.2.1 a0).2 (fun j => .int (d.1 a0 j))
  obtain ⟨-, kz1, hkz1, cm1, hkk1⟩ := (hK.1.2 0 (C.2.2.1 0, .int) rfl).1 (S.2.1 a).2 (fun j => .int (d.1 a j))
  have hst2 : (((st.map (sk_up C)).map fun v => v.category).sum) ≤ 8 := by rw [sk_catsum]; exact hst
  have e9 : nativeFrameWords "java/lang/System" "arraycopy" 5 ≤ 24 := by decide +kernel
  obtain ⟨vm9, X9, step⟩ := XX.arraycopy hx hown (hts _ q1) (hts _ q2) (hts _ q3) (hts _ q4) (src := sk_zb C + a0) (dst := sk_zb C + a) (srcPos := sp) (destPos := dp) (n := n) (by rw [hT]; exact hc0) (by rw [hT]; exact hc1)
    (fun _ h => by cases h) (fun _ h => by cases h) (fun h => by cases h) (fun h => by cases h) hkz0 hkz1 hkk0 hkk1 (by simp [refKind]) h1 h2 h3
    (by rw [nn sp h1, nn n h3, arrV_size]; omega)
    (by rw [nn dp h2, nn n h3, arrV_size]; omega)
    (fun vm₁ _ i hi => by
      have e : (arrV (C.2.2.1 0) (S.2.1 a0).2 (fun j => .int (d.1 a0 j))).slots.getD (sp.toNatClampNeg + i) .null = .int (d.1 a0 (sp.toNatClampNeg + i)) := by
        rw [Array.getD_eq_getD_getElem?, arrV_read _ _ (by omega)]
        rfl
      refine ⟨?_, ?_⟩
      · rw [e]
        rfl
      · rw [e]
        exact trivial)
    (g := F0 m pc ls (.int n :: .int dp :: .ref (sk_zb C + a) :: .int sp :: .ref (sk_zb C + a0) :: st.map (sk_up C))) rfl (by rw [hml]; exact hv.1) (rest := st.map (sk_up C)) rfl (by rw [hb]; exact hd) (Nat.le_trans hk1 hfr) (by show 2 * 0 + _ + _ ≤ R.locals; omega)
  have e1 : copied (arrV (C.2.2.1 0) (S.2.1 a0).2 (fun j => .int (d.1 a0 j))) (arrV (C.2.2.1 0) (S.2.1 a).2 (fun j => .int (d.1 a j))) sp dp n = arrV (C.2.2.1 0) (S.2.1 a).2 (fun j => .int (va_cpy (d.1 a0) (d.1 a) sp.toNatClampNeg dp.toNatClampNeg n.toNatClampNeg j)) := va_copied (fun z => .int z) _ _ _ _ h4
  rw [e1] at X9 step
  have hl : sk_zb C + a < H.size := (Array.getElem?_eq_some_iff.mp hc1).1
  have hwn : sk_wd C S (fun b j => if b = a then va_cpy (d.1 a0) (d.1 a) sp.toNatClampNeg dp.toNatClampNeg n.toNatClampNeg j else d.1 b j, d.2) (H.setIfInBounds (sk_zb C + a) (arrV (C.2.2.1 0) (S.2.1 a).2 (fun j => .int (va_cpy (d.1 a0) (d.1 a) sp.toNatClampNeg dp.toNatClampNeg n.toNatClampNeg j)))) := by
    refine hw.put (a := a) rfl rfl (by intro h; rw [h] at hk; cases hk) (fun b h => rfl) (fun b h => by funext j; exact if_neg h) (fun b h => rfl) (by simp) (fun q hq => by simp [Array.getElem?_setIfInBounds, Ne.symm hq]) ?_
    refine sk_cell20 hk ?_
    simp [Array.getElem?_setIfInBounds, hl]
  obtain ⟨t, a1, b1⟩ := kk _ _ ls hwn (fun q hq => by
    rcases List.mem_append.mp hq with h | h
    · exact hL q h
    · obtain ⟨z, -, hz⟩ := List.mem_map.mp h
      rw [← hz]
      show sk_zb C + 1 ≤ sk_zb C + a
      omega) hv _ (by rw [← hT]; rfl) X9
  exact ⟨t, step t a1, b1⟩
