def sk_scr (xs : Nat → Int32) (L0 : Nat) (i : Int32) : Option Int32 := if ¬ (i < 0 ∨ L0 ≤ i.toNatClampNeg) then some (xs i.toNatClampNeg) else none
def sk_Scr (X : sk_X) (C : sk_C) (L0 : Nat) (xs : Nat → Int32) : Prop := va_X (C.2.2.2.2.2 100) L0 xs X.2.2.2.2.1 C.2.2.2.2.1 ∧ C.2.2.2.2.2 100 < sk_zb C + 1
theorem sk_aload_nF {X : sk_X} {C : sk_C} {cc : ByteArray} {nL : Nat} {own mn : String} {ret : Option FieldType} {kR : Nat} {l0 : Launch} {ov : Option Value} {S1 S : sk_S} {d1 d : sk_D} {pc : Nat} {lv : List (Nat × Value)} {st : List Value} {j : Fin 4} {i : Nat} {x : UInt32} (K : sk_Ok X C cc nL own mn ret kR l0 ov S1 d1) (hd : decode cc pc = .ok (.aload_n j, 1)) (hi : (j : Nat) = i) (q : Nat) (hq : lv[q]? = some (i, .float x)) (k : sk_G X C nL S d (pc + 1) lv (.float x :: st)) : sk_G X C nL S d (pc) lv (st) := by
  obtain ⟨p, l, e, R, s, m, args, below, meth, cd, Q, n0, s0⟩ := X
  obtain ⟨hx, hb, hml, hown, hts, hK, hlk, hrt, hnm, hl0, hfr, hlo, hce, hsl, hn0, hs0, hQ⟩ := K
  intro H locs ls hw hL hv
  exact lv_aload_n hx hb hd hi (sk_lvat hv q hq) (k H locs ls hw hL hv)
theorem sk_sld {X : sk_X} {C : sk_C} {cc : ByteArray} {nL : Nat} {own mn : String} {ret : Option FieldType} {kR : Nat} {l0 : Launch} {ov : Option Value} {S1 S : sk_S} {d1 d : sk_D} {pc : Nat} {lv : List (Nat × Value)} {st : List Value} {i v : Int32} (K : sk_Ok X C cc nL own mn ret kR l0 ov S1 d1) {L0 : Nat} {xs : Nat → Int32} (hScr : sk_Scr X C L0 xs) (hd : decode cc pc = .ok (.iaload, 1)) (he : sk_scr xs L0 i = some v) (kk : sk_G X C nL S d (pc + 1) lv (.int v :: st)) : sk_G X C nL S d (pc) lv (.int i :: .float 100 :: st) := by
  obtain ⟨p, l, e, R, s, m, args, below, meth, cd, Q, n0, s0⟩ := X
  obtain ⟨hx, hb, hml, hown, hts, hK, hlk, hrt, hnm, hl0, hfr, hlo, hce, hsl, hn0, hs0, hQ⟩ := K
  intro H locs ls hw hL hv
  obtain ⟨hin, he⟩ := sk_ib he
  cases he
  obtain ⟨⟨scr, h1, h2, h3, h4, h5⟩, hlow⟩ := hScr
  have hlt : i.toNatClampNeg < L0 := Nat.not_le.mp fun q => hin (Or.inr q)
  have hc : H[C.2.2.2.2.2 100]? = some scr := by rw [hw.2.1 _ hlow]; exact h1
  exact W.iald (v := .int (xs i.toNatClampNeg)) hx hb hc h2 h3 (by rw [h4]; exact hin) (h5 _ hlt) rfl rfl hd (kk H locs ls hw hL hv)
theorem sk_slen {X : sk_X} {C : sk_C} {cc : ByteArray} {nL : Nat} {own mn : String} {ret : Option FieldType} {kR : Nat} {l0 : Launch} {ov : Option Value} {S1 S : sk_S} {d1 d : sk_D} {pc : Nat} {lv : List (Nat × Value)} {st : List Value}  (K : sk_Ok X C cc nL own mn ret kR l0 ov S1 d1) {L0 : Nat} {xs : Nat → Int32} (hScr : sk_Scr X C L0 xs) (hd : decode cc pc = .ok (.arraylength, 1)) (kk : sk_G X C nL S d (pc + 1) lv (.int (Int32.ofNat L0) :: st)) : sk_G X C nL S d (pc) lv (.float 100 :: st) := by
  obtain ⟨p, l, e, R, s, m, args, below, meth, cd, Q, n0, s0⟩ := X
  obtain ⟨hx, hb, hml, hown, hts, hK, hlk, hrt, hnm, hl0, hfr, hlo, hce, hsl, hn0, hs0, hQ⟩ := K
  intro H locs ls hw hL hv
  obtain ⟨⟨scr, h1, h2, h3, h4, h5⟩, hlow⟩ := hScr
  have hc : H[C.2.2.2.2.2 100]? = some scr := by rw [hw.2.1 _ hlow]; exact h1
  exact W.alen hx hb hc h2 (by rw [h4]) rfl rfl hd (kk H locs ls hw hL hv)
