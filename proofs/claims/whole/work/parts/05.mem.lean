def sk_uI (d : sk_D) (a k : Nat) (v : Int32) : sk_D := (fun b j => if b = a ∧ j = k then v else d.1 b j, d.2)
def sk_uJ (d : sk_D) (a k : Nat) (v : Int64) : sk_D := (d.1, fun b j => if b = a ∧ j = k then v else d.2 b j)
def sk_uR (S : sk_S) (a k r : Nat) : sk_S := (S.1, S.2.1, fun b j => if b = a ∧ j = k then r else S.2.2 b j)
def sk_gI (S : sk_S) (d : sk_D) (a c k : Nat) : Option Int32 := if S.2.1 a = (c, 0) then some (d.1 a k) else none
def sk_gR (S : sk_S) (a c k : Nat) : Option Nat := if S.2.1 a = (c, 0) ∧ S.2.2 a k ≠ 0 then some (S.2.2 a k) else none
def sk_pI (S : sk_S) (d : sk_D) (a c k : Nat) (v : Int32) : Option sk_D := if S.2.1 a = (c, 0) then some (sk_uI d a k v) else none
def sk_pR (S : sk_S) (a c k r : Nat) : Option sk_S := if S.2.1 a = (c, 0) ∧ r ≠ 0 then some (sk_uR S a k r) else none
def sk_al (S : sk_S) (a t : Nat) : Option Int32 := if (S.2.1 a).1 = t then some (Int32.ofNat (S.2.1 a).2) else none
def sk_lI (S : sk_S) (d : sk_D) (a t : Nat) (i : Int32) : Option Int32 := if (S.2.1 a).1 = t ∧ ¬ (i < 0 ∨ (S.2.1 a).2 ≤ i.toNatClampNeg) then some (d.1 a i.toNatClampNeg) else none
def sk_lJ (S : sk_S) (d : sk_D) (a : Nat) (i : Int32) : Option Int64 := if (S.2.1 a).1 = 21 ∧ ¬ (i < 0 ∨ (S.2.1 a).2 ≤ i.toNatClampNeg) then some (d.2 a i.toNatClampNeg) else none
def sk_lR (S : sk_S) (a t : Nat) (i : Int32) : Option Nat := if (S.2.1 a).1 = t ∧ ¬ (i < 0 ∨ (S.2.1 a).2 ≤ i.toNatClampNeg) ∧ S.2.2 a i.toNatClampNeg ≠ 0 then some (S.2.2 a i.toNatClampNeg) else none
def sk_sI (S : sk_S) (d : sk_D) (a t : Nat) (i v : Int32) : Option sk_D := if (S.2.1 a).1 = t ∧ ¬ (i < 0 ∨ (S.2.1 a).2 ≤ i.toNatClampNeg) then some (sk_uI d a i.toNatClampNeg v) else none
def sk_sJ (S : sk_S) (d : sk_D) (a : Nat) (i : Int32) (v : Int64) : Option sk_D := if (S.2.1 a).1 = 21 ∧ ¬ (i < 0 ∨ (S.2.1 a).2 ≤ i.toNatClampNeg) then some (sk_uJ d a i.toNatClampNeg v) else none
theorem sk_ob {α β : Type} {o : Option α} {f : α → Option β} {b : β} (h : o.bind f = some b) : ∃ a, o = some a ∧ f a = some b := Option.bind_eq_some_iff.mp h
theorem sk_ib {c : Prop} [Decidable c] {β : Type} {x : Option β} {b : β} (h : (if c then x else none) = some b) : c ∧ x = some b := by
  by_cases hc : c
  · rw [if_pos hc] at h
    exact ⟨hc, h⟩
  · rw [if_neg hc] at h
    cases h
def sk_Fld (own : String) (idx c k : Nat) (fin : Bool) : Prop := ∃ (Cn : String) (T : u_T) (N : Nat), sk_classes[c]? = some (Cn, T, N) ∧ (∀ w ∈ u_ws Cn T N, w ∈ sk_tbl) ∧ k < N ∧ Cond.fieldLink own idx (T k).1 (T k).2.1 (T k).2.2.1 ∈ sk_tbl ∧ (∀ j, j < N → parseFieldDescriptor (T j).2.2.1 = some (sk_ty c j)) ∧ (∀ a, a < N → ∀ b, b < N → a ≠ b → (T a).2.1 ≠ (T b).2.1) ∧ sk_N c = N ∧ c < 11 ∧ (T k).2.2.2 = fin ∧ (T k).1 = Cn
theorem sk_in_n {C : sk_C} {S : sk_S} {d : sk_D} {H : Heap} {a : Nat} (hw : sk_wd C S d H) (h : S.2.1 a ≠ (99, 0)) : 1 ≤ a ∧ a ≤ S.1.1 := by
  have h1 : ¬ (a = 0 ∨ S.1.1 < a) := fun h2 => h (hw.2.2.2 a h2)
  omega
theorem sk_obj {C : sk_C} {S : sk_S} {d : sk_D} {H : Heap} {a c : Nat} (hw : sk_wd C S d H) (hc : c < 11) (hk : S.2.1 a = (c, 0)) : t_OB (sk_zb C + a) (C.1 c) (sk_N c) (C.2.1 c) H (fun k => sk_fv C c (d.1 a) (S.2.2 a) k) := by
  have h1 := sk_in_n hw (by rw [hk]; intro h; cases h; omega)
  have h2 := hw.2.2.1 a h1.1 h1.2
  unfold sk_cell sk_cf at h2
  rw [hk] at h2
  rw [if_neg (by show ¬ c = 20; omega), if_neg (by show ¬ c = 21; omega), if_neg (by show ¬ c = 22; omega), if_neg (by show ¬ c = 23; omega), if_neg (by show ¬ c = 24; omega), if_neg (by show ¬ c = 25; omega)] at h2
  exact h2
theorem sk_cf_kept {C : sk_C} {t : Nat × Nat} {fi : Nat → Int32} {fj : Nat → Int64} {fr : Nat → Nat} {q : Nat} {H H2 : Heap} (h : H2[q]? = H[q]?) (g : sk_cf C t fi fj fr q H) : sk_cf C t fi fj fr q H2 := by
  unfold sk_cf at g ⊢
  by_cases h20 : t.1 = 20
  · rw [if_pos h20] at g ⊢
    rw [h]
    exact g
  · rw [if_neg h20] at g ⊢
    by_cases h21 : t.1 = 21
    · rw [if_pos h21] at g ⊢
      rw [h]
      exact g
    · rw [if_neg h21] at g ⊢
      by_cases h22 : t.1 = 22
      · rw [if_pos h22] at g ⊢
        rw [h]
        exact g
      · rw [if_neg h22] at g ⊢
        by_cases h23 : t.1 = 23
        · rw [if_pos h23] at g ⊢
          rw [h]
          exact g
        · rw [if_neg h23] at g ⊢
          by_cases h24 : t.1 = 24
          · rw [if_pos h24] at g ⊢
            rw [h]
            exact g
          · rw [if_neg h24] at g ⊢
            by_cases h25 : t.1 = 25
            · rw [if_pos h25] at g ⊢
              rw [h]
              exact g
            · rw [if_neg h25] at g ⊢
              exact g.kept h
theorem sk_wd.put {C : sk_C} {S S2 : sk_S} {d d2 : sk_D} {H H2 : Heap} {a : Nat} (hw : sk_wd C S d H) (hS1 : S2.1 = S.1) (hS2 : S2.2.1 = S.2.1) (ha : S.2.1 a ≠ (99, 0)) (hr : ∀ b, b ≠ a → S2.2.2 b = S.2.2 b) (hi : ∀ b, b ≠ a → d2.1 b = d.1 b) (hj : ∀ b, b ≠ a → d2.2 b = d.2 b)
    (hz : H2.size = H.size) (ho : ∀ q, q ≠ sk_zb C + a → H2[q]? = H[q]?) (hc : sk_cell C S2 d2 a H2) : sk_wd C S2 d2 H2 := by
  have h1 := sk_in_n hw ha
  refine ⟨by rw [hz, hS1]; exact hw.1, fun q hq => by rw [ho q (by omega)]; exact hw.2.1 q hq, fun b hb1 hb2 => ?_, by rw [hS1, hS2]; exact hw.2.2.2⟩
  by_cases hba : b = a
  · rw [hba]; exact hc
  · have h3 := hw.2.2.1 b hb1 (by rw [← hS1]; exact hb2)
    have h4 : H2[sk_zb C + b]? = H[sk_zb C + b]? := ho _ (by omega)
    unfold sk_cell at h3 ⊢
    rw [hS2, hi b hba, hj b hba, hr b hba]
    exact sk_cf_kept h4 h3
theorem sk_uI_ne {d : sk_D} {a k : Nat} {v : Int32} {b : Nat} (h : b ≠ a) : (sk_uI d a k v).1 b = d.1 b := by
  funext j
  simp [sk_uI, h]
theorem sk_uJ_ne {d : sk_D} {a k : Nat} {v : Int64} {b : Nat} (h : b ≠ a) : (sk_uJ d a k v).2 b = d.2 b := by
  funext j
  simp [sk_uJ, h]
theorem sk_uR_ne {S : sk_S} {a k r : Nat} {b : Nat} (h : b ≠ a) : (sk_uR S a k r).2.2 b = S.2.2 b := by
  funext j
  simp [sk_uR, h]
theorem sk_cell_obj {C : sk_C} {S : sk_S} {d : sk_D} {H : Heap} {a c : Nat} (hc : c < 11) (hk : S.2.1 a = (c, 0)) (h : t_OB (sk_zb C + a) (C.1 c) (sk_N c) (C.2.1 c) H (fun k => sk_fv C c (d.1 a) (S.2.2 a) k)) : sk_cell C S d a H := by
  unfold sk_cell sk_cf
  rw [hk]
  rw [if_neg (by show ¬ c = 20; omega), if_neg (by show ¬ c = 21; omega), if_neg (by show ¬ c = 22; omega), if_neg (by show ¬ c = 23; omega), if_neg (by show ¬ c = 24; omega), if_neg (by show ¬ c = 25; omega)]
  exact h
theorem sk_getI {X : sk_X} {C : sk_C} {cc : ByteArray} {nL : Nat} {own mn : String} {ret : Option FieldType} {kR : Nat} {l0 : Launch} {ov : Option Value} {S1 S : sk_S} {d1 d : sk_D} {pc : Nat} {lv : List (Nat × Value)} {st : List Value} {idx c k : Nat} {fin : Bool} {a : Nat} {v : Int32} (K : sk_Ok X C cc nL own mn ret kR l0 ov S1 d1) (hd : decode cc pc = .ok (.getfield idx, 3)) (hF : sk_Fld own idx c k fin) (hr : sk_isR c k = false) (he : sk_gI S d a c k = some v) (kk : sk_G X C nL S d (pc + 3) lv (.int v :: st)) : sk_G X C nL S d (pc) lv (.ref a :: st) := by
  obtain ⟨p, l, e, R, s, m, args, below, meth, cd, Q, n0, s0⟩ := X
  obtain ⟨hx, hb, hml, hown, hts, hK, hlk, hrt, hnm, hl0, hfr, hlo, hce, hsl, hn0, hs0, hQ⟩ := K
  intro H locs ls hw hL hv
  obtain ⟨Cn, T, N, hc, hin, hkN, hq, hty, hnmd, hN, hc11, hfi, hcn⟩ := hF
  obtain ⟨hkd, he⟩ := sk_ib he
  cases he
  obtain ⟨cell, q1, q2, q3, q4⟩ := sk_obj hw hc11 hkd
  obtain ⟨hSl, hfc, kC, hkC, hkind⟩ := hK.1.1 c _ hc
  obtain ⟨cf, kf, fi, f, hi, hsl2⟩ := hSl k hkN
  refine W.getf hx hb hown (hts _ hq) hi (u_facts hfc hkC (u_lays hts hin hkN) hi).1 q1 (by rw [q3]; exact fun h => by cases h) (v := .int (d.1 a k)) ?_ rfl rfl hd (kk H locs ls hw hL hv)
  rw [hsl2, q4 k (by rw [hN]; exact hkN)]
  simp [sk_fv, hr]
theorem sk_getR {X : sk_X} {C : sk_C} {cc : ByteArray} {nL : Nat} {own mn : String} {ret : Option FieldType} {kR : Nat} {l0 : Launch} {ov : Option Value} {S1 S : sk_S} {d1 d : sk_D} {pc : Nat} {lv : List (Nat × Value)} {st : List Value} {idx c k : Nat} {fin : Bool} {a b : Nat} (K : sk_Ok X C cc nL own mn ret kR l0 ov S1 d1) (hd : decode cc pc = .ok (.getfield idx, 3)) (hF : sk_Fld own idx c k fin) (hr : sk_isR c k = true) (he : sk_gR S a c k = some b) (kk : sk_G X C nL S d (pc + 3) lv (.ref b :: st)) : sk_G X C nL S d (pc) lv (.ref a :: st) := by
  obtain ⟨p, l, e, R, s, m, args, below, meth, cd, Q, n0, s0⟩ := X
  obtain ⟨hx, hb, hml, hown, hts, hK, hlk, hrt, hnm, hl0, hfr, hlo, hce, hsl, hn0, hs0, hQ⟩ := K
  intro H locs ls hw hL hv
  obtain ⟨Cn, T, N, hc, hin, hkN, hq, hty, hnmd, hN, hc11, hfi, hcn⟩ := hF
  obtain ⟨⟨hkd, hne⟩, he⟩ := sk_ib he
  cases he
  obtain ⟨cell, q1, q2, q3, q4⟩ := sk_obj hw hc11 hkd
  obtain ⟨hSl, hfc, kC, hkC, hkind⟩ := hK.1.1 c _ hc
  obtain ⟨cf, kf, fi, f, hi, hsl2⟩ := hSl k hkN
  refine W.getf hx hb hown (hts _ hq) hi (u_facts hfc hkC (u_lays hts hin hkN) hi).1 q1 (by rw [q3]; exact fun h => by cases h) (v := .ref (sk_zb C + S.2.2 a k)) ?_ rfl rfl hd (kk H locs ls hw hL hv)
  rw [hsl2, q4 k (by rw [hN]; exact hkN)]
  simp [sk_fv, hr, sk_rv, hne]
theorem sk_putI {X : sk_X} {C : sk_C} {cc : ByteArray} {nL : Nat} {own mn : String} {ret : Option FieldType} {kR : Nat} {l0 : Launch} {ov : Option Value} {S1 S : sk_S} {d1 d : sk_D} {pc : Nat} {lv : List (Nat × Value)} {st : List Value} {idx c k : Nat} {a : Nat} {v : Int32} (d2 : sk_D) (K : sk_Ok X C cc nL own mn ret kR l0 ov S1 d1) (hd : decode cc pc = .ok (.putfield idx, 3)) (hF : sk_Fld own idx c k false) (hr : sk_isR c k = false) (hn : narrow (sk_ty c k) (.int v) = .int v) (hfit : fits (sk_ty c k) (.int v) = true) (he : sk_pI S d a c k v = some d2) (kk : sk_G X C nL S d2 (pc + 3) lv (st)) : sk_G X C nL S d (pc) lv (.int v :: .ref a :: st) := by
  obtain ⟨p, l, e, R, s, m, args, below, meth, cd, Q, n0, s0⟩ := X
  obtain ⟨hx, hb, hml, hown, hts, hK, hlk, hrt, hnm, hl0, hfr, hlo, hce, hsl, hn0, hs0, hQ⟩ := K
  intro H locs ls hw hL hv
  obtain ⟨Cn, T, N, hc, hin, hkN, hq, hty, hnmd, hN, hc11, hfi, hcn⟩ := hF
  obtain ⟨hkd, he⟩ := sk_ib he
  cases he
  obtain ⟨cell, q1, q2, q3, q4⟩ := sk_obj hw hc11 hkd
  have hap := va_apart (own := own) hts hin (sk_ty c) hty hnmd hK.1 hc
  obtain ⟨hSl, hfc, kC, hkC, hkind⟩ := hK.1.1 c _ hc
  obtain ⟨cf, kf, fi, f, hi, hsl2⟩ := hSl k hkN
  have hlay := hts _ (hin _ (u_in_lay hkN))
  unfold u_lay at hlay
  rw [if_neg (by rw [hfi]; decide)] at hlay
  have hst := (u_facts hfc hkC (u_lays hts hin hkN) hi).1
  have h6 := u_store hfc hkC hkind hlay hi (hty k hkN) hn hfit
  refine W.putK hx hb (f := f) ⟨hown, hts _ hq, ⟨_, _, _, hi⟩, hst⟩ (by rw [q2]; exact h6) q1 q3 (by rw [hsl2]; exact k2_hasslot (q4 k (by rw [hN]; exact hkN))) rfl rfl hd fun H1 e1 e2 e3 => ?_
  rw [hsl2] at e1
  refine kk H1 _ ls ?_ (fun q hq9 => ?_) hv
  · refine hw.put (a := a) (S2 := S) (d2 := sk_uI d a k v) rfl rfl (by rw [hkd]; intro h9; cases h9; omega) (fun b h => rfl) (fun b h => sk_uI_ne h) (fun b h => rfl) e2 e3 ?_
    refine sk_cell_obj hc11 hkd ?_
    refine t_OB.to (V := updV (fun k => sk_fv C c (d.1 a) (S.2.2 a) k) k (.int v)) ⟨_, e1, q2, q3, t_set (N := sk_N c) q4 (by rw [hN]; exact hap) (by rw [hN]; exact hkN) _⟩ (fun j hj => ?_)
    by_cases hjk : j = k
    · subst hjk
      simp [updV, sk_fv, hr, sk_uI]
    · simp [updV, hjk, sk_fv, sk_uI]
  · rcases List.mem_append.mp hq9 with h9 | h9
    · exact hL q h9
    · cases (List.mem_singleton.mp h9)
      have := sk_in_n hw (a := a) (by rw [hkd]; intro h9; cases h9; omega)
      show sk_zb C + 1 ≤ sk_zb C + a
      omega
theorem sk_putR {X : sk_X} {C : sk_C} {cc : ByteArray} {nL : Nat} {own mn : String} {ret : Option FieldType} {kR : Nat} {l0 : Launch} {ov : Option Value} {S1 S : sk_S} {d1 d : sk_D} {pc : Nat} {lv : List (Nat × Value)} {st : List Value} {idx c k : Nat} {a r : Nat} (S2 : sk_S) (K : sk_Ok X C cc nL own mn ret kR l0 ov S1 d1) (hd : decode cc pc = .ok (.putfield idx, 3)) (hF : sk_Fld own idx c k false) (hr : sk_isR c k = true) (hn : narrow (sk_ty c k) (.ref (sk_zb C + r)) = .ref (sk_zb C + r)) (hfit : fits (sk_ty c k) (.ref (sk_zb C + r)) = true) (he : sk_pR S a c k r = some S2) (kk : sk_G X C nL S2 d (pc + 3) lv (st)) : sk_G X C nL S d (pc) lv (.ref r :: .ref a :: st) := by
  obtain ⟨p, l, e, R, s, m, args, below, meth, cd, Q, n0, s0⟩ := X
  obtain ⟨hx, hb, hml, hown, hts, hK, hlk, hrt, hnm, hl0, hfr, hlo, hce, hsl, hn0, hs0, hQ⟩ := K
  intro H locs ls hw hL hv
  obtain ⟨Cn, T, N, hc, hin, hkN, hq, hty, hnmd, hN, hc11, hfi, hcn⟩ := hF
  obtain ⟨⟨hkd, hne⟩, he⟩ := sk_ib he
  cases he
  obtain ⟨cell, q1, q2, q3, q4⟩ := sk_obj hw hc11 hkd
  have hap := va_apart (own := own) hts hin (sk_ty c) hty hnmd hK.1 hc
  obtain ⟨hSl, hfc, kC, hkC, hkind⟩ := hK.1.1 c _ hc
  obtain ⟨cf, kf, fi, f, hi, hsl2⟩ := hSl k hkN
  have hlay := hts _ (hin _ (u_in_lay hkN))
  unfold u_lay at hlay
  rw [if_neg (by rw [hfi]; decide)] at hlay
  have hst := (u_facts hfc hkC (u_lays hts hin hkN) hi).1
  have h6 := u_store hfc hkC hkind hlay hi (hty k hkN) hn hfit
  refine W.putK hx hb (f := f) ⟨hown, hts _ hq, ⟨_, _, _, hi⟩, hst⟩ (by rw [q2]; exact h6) q1 q3 (by rw [hsl2]; exact k2_hasslot (q4 k (by rw [hN]; exact hkN))) rfl rfl hd fun H1 e1 e2 e3 => ?_
  rw [hsl2] at e1
  refine kk H1 _ ls ?_ (fun q hq9 => ?_) hv
  · refine hw.put (a := a) (S2 := sk_uR S a k r) (d2 := d) rfl rfl (by rw [hkd]; intro h9; cases h9; omega) (fun b h => sk_uR_ne h) (fun b h => rfl) (fun b h => rfl) e2 e3 ?_
    refine sk_cell_obj hc11 hkd ?_
    refine t_OB.to (V := updV (fun k => sk_fv C c (d.1 a) (S.2.2 a) k) k (.ref (sk_zb C + r))) ⟨_, e1, q2, q3, t_set (N := sk_N c) q4 (by rw [hN]; exact hap) (by rw [hN]; exact hkN) _⟩ (fun j hj => ?_)
    by_cases hjk : j = k
    · subst hjk
      simp [updV, sk_fv, hr, sk_uR, sk_rv, hne]
    · simp [updV, hjk, sk_fv, sk_uR]
  · rcases List.mem_append.mp hq9 with h9 | h9
    · exact hL q h9
    · cases (List.mem_singleton.mp h9)
      have := sk_in_n hw (a := a) (by rw [hkd]; intro h9; cases h9; omega)
      show sk_zb C + 1 ≤ sk_zb C + a
      omega
theorem sk_putRF {X : sk_X} {C : sk_C} {cc : ByteArray} {nL : Nat} {own mn : String} {ret : Option FieldType} {kR : Nat} {l0 : Launch} {ov : Option Value} {S1 S : sk_S} {d1 d : sk_D} {pc : Nat} {lv : List (Nat × Value)} {st : List Value} {idx c k : Nat} {a r : Nat} (S2 : sk_S) (K : sk_Ok X C cc nL own mn ret kR l0 ov S1 d1) (hd : decode cc pc = .ok (.putfield idx, 3)) (hF : sk_Fld own idx c k true) (hco : ∀ Cn T N, sk_classes[c]? = some (Cn, T, N) → Cn = own) (hini : mn = "<init>") (hr : sk_isR c k = true) (hn : narrow (sk_ty c k) (.ref (sk_zb C + r)) = .ref (sk_zb C + r)) (hfit : fits (sk_ty c k) (.ref (sk_zb C + r)) = true) (he : sk_pR S a c k r = some S2) (kk : sk_G X C nL S2 d (pc + 3) lv (st)) : sk_G X C nL S d (pc) lv (.ref r :: .ref a :: st) := by
  obtain ⟨p, l, e, R, s, m, args, below, meth, cd, Q, n0, s0⟩ := X
  obtain ⟨hx, hb, hml, hown, hts, hK, hlk, hrt, hnm, hl0, hfr, hlo, hce, hsl, hn0, hs0, hQ⟩ := K
  intro H locs ls hw hL hv
  obtain ⟨Cn, T, N, hc, hin, hkN, hq, hty, hnmd, hN, hc11, hfi, hcn⟩ := hF
  obtain ⟨⟨hkd, hne⟩, he⟩ := sk_ib he
  cases he
  obtain ⟨cell, q1, q2, q3, q4⟩ := sk_obj hw hc11 hkd
  have hap := va_apart (own := own) hts hin (sk_ty c) hty hnmd hK.1 hc
  obtain ⟨hSl, hfc, kC, hkC, hkind⟩ := hK.1.1 c _ hc
  obtain ⟨cf, kf, fi, f, hi, hsl2⟩ := hSl k hkN
  have hlay := hts _ (hin _ (u_in_lay hkN))
  unfold u_lay at hlay
  rw [if_pos hfi] at hlay
  have hst := (u_facts hfc hkC (u_lays hts hin hkN) hi).1
  have hcf : m.cls = cf := by
    obtain ⟨_, _, c9, _, _, _, -, -, hf9, -, -, -, hown2, -⟩ := Cond.laysFinal_spec hlay
    have e1 : c9 = cf := by have := hi.symm.trans hf9; simp at this; exact this.1.symm
    rw [hcn, hco Cn T N hc] at hown2
    rw [← e1]; exact Option.some.inj (hown.symm.trans hown2)
  have h6 := u_fits hfc hkC hkind (Or.inr hlay) hi (hty k hkN) hn hfit
  refine W.putFinK hx hb hown (hts _ hq) hi hst hcf (hnm.trans hini) (by rw [q2]; exact h6) q1 q3 (by rw [hsl2]; exact k2_hasslot (q4 k (by rw [hN]; exact hkN))) rfl rfl hd fun H1 e1 e2 e3 => ?_
  rw [hsl2] at e1
  refine kk H1 _ ls ?_ (fun q hq9 => ?_) hv
  · refine hw.put (a := a) (S2 := sk_uR S a k r) (d2 := d) rfl rfl (by rw [hkd]; intro h9; cases h9; omega) (fun b h => sk_uR_ne h) (fun b h => rfl) (fun b h => rfl) e2 e3 ?_
    refine sk_cell_obj hc11 hkd ?_
    refine t_OB.to (V := updV (fun k => sk_fv C c (d.1 a) (S.2.2 a) k) k (.ref (sk_zb C + r))) ⟨_, e1, q2, q3, t_set (N := sk_N c) q4 (by rw [hN]; exact hap) (by rw [hN]; exact hkN) _⟩ (fun j hj => ?_)
    by_cases hjk : j = k
    · subst hjk
      simp [updV, sk_fv, hr, sk_uR, sk_rv, hne]
    · simp [updV, hjk, sk_fv, sk_uR]
  · rcases List.mem_append.mp hq9 with h9 | h9
    · exact hL q h9
    · cases (List.mem_singleton.mp h9)
      have := sk_in_n hw (a := a) (by rw [hkd]; intro h9; cases h9; omega)
      show sk_zb C + 1 ≤ sk_zb C + a
      omega
