theorem sk_arr20 {C : sk_C} {S : sk_S} {d : sk_D} {H : Heap} {a : Nat} (hw : sk_wd C S d H) (hk : (S.2.1 a).1 = 20) : (1 ≤ a ∧ a ≤ S.1.1) ∧ H[sk_zb C + a]? = some (arrV (C.2.2.1 0) (S.2.1 a).2 (fun j => .int (d.1 a j))) := by
  have h1 := sk_in_n hw (a := a) (by intro h; rw [h] at hk; cases hk)
  refine ⟨h1, ?_⟩
  have h2 := hw.2.2.1 a h1.1 h1.2
  unfold sk_cell sk_cf at h2
  rw [if_pos hk] at h2
  exact h2
theorem sk_cell20 {C : sk_C} {S : sk_S} {d : sk_D} {H : Heap} {a : Nat} (hk : (S.2.1 a).1 = 20) (h : H[sk_zb C + a]? = some (arrV (C.2.2.1 0) (S.2.1 a).2 (fun j => .int (d.1 a j)))) : sk_cell C S d a H := by
  unfold sk_cell sk_cf
  rw [if_pos hk]
  exact h
theorem sk_al20 {X : sk_X} {C : sk_C} {cc : ByteArray} {nL : Nat} {own mn : String} {ret : Option FieldType} {kR : Nat} {l0 : Launch} {ov : Option Value} {S1 S : sk_S} {d1 d : sk_D} {pc : Nat} {lv : List (Nat × Value)} {st : List Value} {a : Nat} {v : Int32} (K : sk_Ok X C cc nL own mn ret kR l0 ov S1 d1) (hd : decode cc pc = .ok (.arraylength, 1)) (he : sk_al S a 20 = some v) (kk : sk_G X C nL S d (pc + 1) lv (.int v :: st)) : sk_G X C nL S d (pc) lv (.ref a :: st) := by
  obtain ⟨p, l, e, R, s, m, args, below, meth, cd, Q, n0, s0⟩ := X
  obtain ⟨hx, hb, hml, hown, hts, hK, hlk, hrt, hnm, hl0, hfr, hlo, hce, hsl, hn0, hs0, hQ⟩ := K
  intro H locs ls hw hL hv
  obtain ⟨hk, he⟩ := sk_ib he
  cases he
  exact W.alen hx hb (sk_arr20 hw hk).2 ((hK.1.2 0 (C.2.2.1 0, .int) rfl).1 _ _) (by rw [arrV_size]) rfl rfl hd (kk H locs ls hw hL hv)
theorem sk_ald20 {X : sk_X} {C : sk_C} {cc : ByteArray} {nL : Nat} {own mn : String} {ret : Option FieldType} {kR : Nat} {l0 : Launch} {ov : Option Value} {S1 S : sk_S} {d1 d : sk_D} {pc : Nat} {lv : List (Nat × Value)} {st : List Value} {a : Nat} {i : Int32} {v : Int32} (K : sk_Ok X C cc nL own mn ret kR l0 ov S1 d1) (hd : decode cc pc = .ok (.iaload, 1)) (he : sk_lI S d a 20 i = some v) (kk : sk_G X C nL S d (pc + 1) lv (.int v :: st)) : sk_G X C nL S d (pc) lv (.int i :: .ref a :: st) := by
  obtain ⟨p, l, e, R, s, m, args, below, meth, cd, Q, n0, s0⟩ := X
  obtain ⟨hx, hb, hml, hown, hts, hK, hlk, hrt, hnm, hl0, hfr, hlo, hce, hsl, hn0, hs0, hQ⟩ := K
  intro H locs ls hw hL hv
  obtain ⟨⟨hk, hin⟩, he⟩ := sk_ib he
  cases he
  have hlt : i.toNatClampNeg < (S.2.1 a).2 := Nat.not_le.mp fun q => hin (Or.inr q)
  exact W.iald (v := .int (d.1 a i.toNatClampNeg)) hx hb (sk_arr20 hw hk).2 ((hK.1.2 0 (C.2.2.1 0, .int) rfl).1 _ _) (fun q => by cases q) (by rw [arrV_size]; exact hin) (by rw [arrV_read _ _ hlt]) rfl rfl hd (kk H locs ls hw hL hv)
theorem sk_ast20 {X : sk_X} {C : sk_C} {cc : ByteArray} {nL : Nat} {own mn : String} {ret : Option FieldType} {kR : Nat} {l0 : Launch} {ov : Option Value} {S1 S : sk_S} {d1 d : sk_D} {pc : Nat} {lv : List (Nat × Value)} {st : List Value} {a : Nat} {i : Int32} {x : Int32} (d2 : sk_D) (K : sk_Ok X C cc nL own mn ret kR l0 ov S1 d1) (hd : decode cc pc = .ok (.iastore, 1)) (he : sk_sI S d a 20 i (x) = some d2) (kk : sk_G X C nL S d2 (pc + 1) lv (st)) : sk_G X C nL S d (pc) lv (.int x :: .int i :: .ref a :: st) := by
  obtain ⟨p, l, e, R, s, m, args, below, meth, cd, Q, n0, s0⟩ := X
  obtain ⟨hx, hb, hml, hown, hts, hK, hlk, hrt, hnm, hl0, hfr, hlo, hce, hsl, hn0, hs0, hQ⟩ := K
  intro H locs ls hw hL hv
  obtain ⟨⟨hk, hin⟩, he⟩ := sk_ib he
  cases he
  have hlt : i.toNatClampNeg < (S.2.1 a).2 := Nat.not_le.mp fun q => hin (Or.inr q)
  have ha := (sk_arr20 hw hk).1
  refine W.iast hx hb (sk_arr20 hw hk).2 ((hK.1.2 0 (C.2.2.1 0, .int) rfl).1 _ _) (fun q => by cases q) (by rw [arrV_size]; exact hin) rfl rfl hd fun H1 e1 e2 e3 => ?_
  refine kk H1 _ ls ?_ (fun q hq9 => ?_) hv
  · refine hw.put (a := a) (S2 := S) (d2 := sk_uI d a i.toNatClampNeg (x)) rfl rfl (by intro h; rw [h] at hk; cases hk) (fun b h => rfl) (fun b h => sk_uI_ne h) (fun b h => rfl) e2 e3 ?_
    refine sk_cell20 hk ?_
    rw [e1, arrV_store]
    congr 2
    funext q
    by_cases hq : q = i.toNatClampNeg
    · subst hq
      simp [updV, sk_uI, vp_nar]
      try rfl
    · simp [updV, sk_uI, hq]
  · rcases List.mem_append.mp hq9 with h9 | h9
    · exact hL q h9
    · cases (List.mem_singleton.mp h9)
      show sk_zb C + 1 ≤ sk_zb C + a
      omega
theorem sk_arr21 {C : sk_C} {S : sk_S} {d : sk_D} {H : Heap} {a : Nat} (hw : sk_wd C S d H) (hk : (S.2.1 a).1 = 21) : (1 ≤ a ∧ a ≤ S.1.1) ∧ H[sk_zb C + a]? = some (arrV (C.2.2.1 1) (S.2.1 a).2 (fun j => .long (d.2 a j))) := by
  have h1 := sk_in_n hw (a := a) (by intro h; rw [h] at hk; cases hk)
  refine ⟨h1, ?_⟩
  have h2 := hw.2.2.1 a h1.1 h1.2
  unfold sk_cell sk_cf at h2
  rw [if_neg (by rw [hk]; decide)] at h2
  rw [if_pos hk] at h2
  exact h2
theorem sk_cell21 {C : sk_C} {S : sk_S} {d : sk_D} {H : Heap} {a : Nat} (hk : (S.2.1 a).1 = 21) (h : H[sk_zb C + a]? = some (arrV (C.2.2.1 1) (S.2.1 a).2 (fun j => .long (d.2 a j)))) : sk_cell C S d a H := by
  unfold sk_cell sk_cf
  rw [if_neg (by rw [hk]; decide)]
  rw [if_pos hk]
  exact h
theorem sk_al21 {X : sk_X} {C : sk_C} {cc : ByteArray} {nL : Nat} {own mn : String} {ret : Option FieldType} {kR : Nat} {l0 : Launch} {ov : Option Value} {S1 S : sk_S} {d1 d : sk_D} {pc : Nat} {lv : List (Nat × Value)} {st : List Value} {a : Nat} {v : Int32} (K : sk_Ok X C cc nL own mn ret kR l0 ov S1 d1) (hd : decode cc pc = .ok (.arraylength, 1)) (he : sk_al S a 21 = some v) (kk : sk_G X C nL S d (pc + 1) lv (.int v :: st)) : sk_G X C nL S d (pc) lv (.ref a :: st) := by
  obtain ⟨p, l, e, R, s, m, args, below, meth, cd, Q, n0, s0⟩ := X
  obtain ⟨hx, hb, hml, hown, hts, hK, hlk, hrt, hnm, hl0, hfr, hlo, hce, hsl, hn0, hs0, hQ⟩ := K
  intro H locs ls hw hL hv
  obtain ⟨hk, he⟩ := sk_ib he
  cases he
  exact W.alen hx hb (sk_arr21 hw hk).2 ((hK.1.2 1 (C.2.2.1 1, .long) rfl).1 _ _) (by rw [arrV_size]) rfl rfl hd (kk H locs ls hw hL hv)
theorem sk_ald21 {X : sk_X} {C : sk_C} {cc : ByteArray} {nL : Nat} {own mn : String} {ret : Option FieldType} {kR : Nat} {l0 : Launch} {ov : Option Value} {S1 S : sk_S} {d1 d : sk_D} {pc : Nat} {lv : List (Nat × Value)} {st : List Value} {a : Nat} {i : Int32} {v : Int64} (K : sk_Ok X C cc nL own mn ret kR l0 ov S1 d1) (hd : decode cc pc = .ok (.laload, 1)) (he : sk_lJ S d a i = some v) (kk : sk_G X C nL S d (pc + 1) lv (.long v :: st)) : sk_G X C nL S d (pc) lv (.int i :: .ref a :: st) := by
  obtain ⟨p, l, e, R, s, m, args, below, meth, cd, Q, n0, s0⟩ := X
  obtain ⟨hx, hb, hml, hown, hts, hK, hlk, hrt, hnm, hl0, hfr, hlo, hce, hsl, hn0, hs0, hQ⟩ := K
  intro H locs ls hw hL hv
  obtain ⟨⟨hk, hin⟩, he⟩ := sk_ib he
  cases he
  have hlt : i.toNatClampNeg < (S.2.1 a).2 := Nat.not_le.mp fun q => hin (Or.inr q)
  exact W.lald (v := .long (d.2 a i.toNatClampNeg)) hx hb (sk_arr21 hw hk).2 ((hK.1.2 1 (C.2.2.1 1, .long) rfl).1 _ _) (fun q => by cases q) (by rw [arrV_size]; exact hin) (by rw [arrV_read _ _ hlt]) rfl rfl hd (kk H locs ls hw hL hv)
theorem sk_ast21 {X : sk_X} {C : sk_C} {cc : ByteArray} {nL : Nat} {own mn : String} {ret : Option FieldType} {kR : Nat} {l0 : Launch} {ov : Option Value} {S1 S : sk_S} {d1 d : sk_D} {pc : Nat} {lv : List (Nat × Value)} {st : List Value} {a : Nat} {i : Int32} {x : Int64} (d2 : sk_D) (K : sk_Ok X C cc nL own mn ret kR l0 ov S1 d1) (hd : decode cc pc = .ok (.lastore, 1)) (he : sk_sJ S d a i x = some d2) (kk : sk_G X C nL S d2 (pc + 1) lv (st)) : sk_G X C nL S d (pc) lv (.long x :: .int i :: .ref a :: st) := by
  obtain ⟨p, l, e, R, s, m, args, below, meth, cd, Q, n0, s0⟩ := X
  obtain ⟨hx, hb, hml, hown, hts, hK, hlk, hrt, hnm, hl0, hfr, hlo, hce, hsl, hn0, hs0, hQ⟩ := K
  intro H locs ls hw hL hv
  obtain ⟨⟨hk, hin⟩, he⟩ := sk_ib he
  cases he
  have hlt : i.toNatClampNeg < (S.2.1 a).2 := Nat.not_le.mp fun q => hin (Or.inr q)
  have ha := (sk_arr21 hw hk).1
  refine W.last hx hb (sk_arr21 hw hk).2 ((hK.1.2 1 (C.2.2.1 1, .long) rfl).1 _ _) (fun q => by cases q) (by rw [arrV_size]; exact hin) rfl rfl hd fun H1 e1 e2 e3 => ?_
  refine kk H1 _ ls ?_ (fun q hq9 => ?_) hv
  · refine hw.put (a := a) (S2 := S) (d2 := sk_uJ d a i.toNatClampNeg (x)) rfl rfl (by intro h; rw [h] at hk; cases hk) (fun b h => rfl) (fun b h => rfl) (fun b h => sk_uJ_ne h) e2 e3 ?_
    refine sk_cell21 hk ?_
    rw [e1, arrV_store]
    congr 2
    funext q
    by_cases hq : q = i.toNatClampNeg
    · subst hq
      simp [updV, sk_uJ, vp_nar]
      try rfl
    · simp [updV, sk_uJ, hq]
  · rcases List.mem_append.mp hq9 with h9 | h9
    · exact hL q h9
    · cases (List.mem_singleton.mp h9)
      show sk_zb C + 1 ≤ sk_zb C + a
      omega
theorem sk_arr22 {C : sk_C} {S : sk_S} {d : sk_D} {H : Heap} {a : Nat} (hw : sk_wd C S d H) (hk : (S.2.1 a).1 = 22) : (1 ≤ a ∧ a ≤ S.1.1) ∧ H[sk_zb C + a]? = some (arrV (C.2.2.1 2) (S.2.1 a).2 (fun j => .int (d.1 a j))) := by
  have h1 := sk_in_n hw (a := a) (by intro h; rw [h] at hk; cases hk)
  refine ⟨h1, ?_⟩
  have h2 := hw.2.2.1 a h1.1 h1.2
  unfold sk_cell sk_cf at h2
  rw [if_neg (by rw [hk]; decide)] at h2
  rw [if_neg (by rw [hk]; decide)] at h2
  rw [if_pos hk] at h2
  exact h2
theorem sk_cell22 {C : sk_C} {S : sk_S} {d : sk_D} {H : Heap} {a : Nat} (hk : (S.2.1 a).1 = 22) (h : H[sk_zb C + a]? = some (arrV (C.2.2.1 2) (S.2.1 a).2 (fun j => .int (d.1 a j)))) : sk_cell C S d a H := by
  unfold sk_cell sk_cf
  rw [if_neg (by rw [hk]; decide)]
  rw [if_neg (by rw [hk]; decide)]
  rw [if_pos hk]
  exact h
theorem sk_al22 {X : sk_X} {C : sk_C} {cc : ByteArray} {nL : Nat} {own mn : String} {ret : Option FieldType} {kR : Nat} {l0 : Launch} {ov : Option Value} {S1 S : sk_S} {d1 d : sk_D} {pc : Nat} {lv : List (Nat × Value)} {st : List Value} {a : Nat} {v : Int32} (K : sk_Ok X C cc nL own mn ret kR l0 ov S1 d1) (hd : decode cc pc = .ok (.arraylength, 1)) (he : sk_al S a 22 = some v) (kk : sk_G X C nL S d (pc + 1) lv (.int v :: st)) : sk_G X C nL S d (pc) lv (.ref a :: st) := by
  obtain ⟨p, l, e, R, s, m, args, below, meth, cd, Q, n0, s0⟩ := X
  obtain ⟨hx, hb, hml, hown, hts, hK, hlk, hrt, hnm, hl0, hfr, hlo, hce, hsl, hn0, hs0, hQ⟩ := K
  intro H locs ls hw hL hv
  obtain ⟨hk, he⟩ := sk_ib he
  cases he
  exact W.alen hx hb (sk_arr22 hw hk).2 ((hK.1.2 2 (C.2.2.1 2, .byte) rfl).1 _ _) (by rw [arrV_size]) rfl rfl hd (kk H locs ls hw hL hv)
theorem sk_ald22 {X : sk_X} {C : sk_C} {cc : ByteArray} {nL : Nat} {own mn : String} {ret : Option FieldType} {kR : Nat} {l0 : Launch} {ov : Option Value} {S1 S : sk_S} {d1 d : sk_D} {pc : Nat} {lv : List (Nat × Value)} {st : List Value} {a : Nat} {i : Int32} {v : Int32} (K : sk_Ok X C cc nL own mn ret kR l0 ov S1 d1) (hd : decode cc pc = .ok (.baload, 1)) (he : sk_lI S d a 22 i = some v) (kk : sk_G X C nL S d (pc + 1) lv (.int v :: st)) : sk_G X C nL S d (pc) lv (.int i :: .ref a :: st) := by
  obtain ⟨p, l, e, R, s, m, args, below, meth, cd, Q, n0, s0⟩ := X
  obtain ⟨hx, hb, hml, hown, hts, hK, hlk, hrt, hnm, hl0, hfr, hlo, hce, hsl, hn0, hs0, hQ⟩ := K
  intro H locs ls hw hL hv
  obtain ⟨⟨hk, hin⟩, he⟩ := sk_ib he
  cases he
  have hlt : i.toNatClampNeg < (S.2.1 a).2 := Nat.not_le.mp fun q => hin (Or.inr q)
  exact W.bald (v := .int (d.1 a i.toNatClampNeg)) hx hb (sk_arr22 hw hk).2 ((hK.1.2 2 (C.2.2.1 2, .byte) rfl).1 _ _) (fun q => by cases q) (by rw [arrV_size]; exact hin) (by rw [arrV_read _ _ hlt]) rfl rfl hd (kk H locs ls hw hL hv)
theorem sk_ast22 {X : sk_X} {C : sk_C} {cc : ByteArray} {nL : Nat} {own mn : String} {ret : Option FieldType} {kR : Nat} {l0 : Launch} {ov : Option Value} {S1 S : sk_S} {d1 d : sk_D} {pc : Nat} {lv : List (Nat × Value)} {st : List Value} {a : Nat} {i : Int32} {x : Int32} (d2 : sk_D) (K : sk_Ok X C cc nL own mn ret kR l0 ov S1 d1) (hd : decode cc pc = .ok (.bastore, 1)) (he : sk_sI S d a 22 i (vp_nar .byte x) = some d2) (kk : sk_G X C nL S d2 (pc + 1) lv (st)) : sk_G X C nL S d (pc) lv (.int x :: .int i :: .ref a :: st) := by
  obtain ⟨p, l, e, R, s, m, args, below, meth, cd, Q, n0, s0⟩ := X
  obtain ⟨hx, hb, hml, hown, hts, hK, hlk, hrt, hnm, hl0, hfr, hlo, hce, hsl, hn0, hs0, hQ⟩ := K
  intro H locs ls hw hL hv
  obtain ⟨⟨hk, hin⟩, he⟩ := sk_ib he
  cases he
  have hlt : i.toNatClampNeg < (S.2.1 a).2 := Nat.not_le.mp fun q => hin (Or.inr q)
  have ha := (sk_arr22 hw hk).1
  refine W.bast hx hb (sk_arr22 hw hk).2 ((hK.1.2 2 (C.2.2.1 2, .byte) rfl).1 _ _) (fun q => by cases q) (by rw [arrV_size]; exact hin) rfl rfl hd fun H1 e1 e2 e3 => ?_
  refine kk H1 _ ls ?_ (fun q hq9 => ?_) hv
  · refine hw.put (a := a) (S2 := S) (d2 := sk_uI d a i.toNatClampNeg (vp_nar .byte x)) rfl rfl (by intro h; rw [h] at hk; cases hk) (fun b h => rfl) (fun b h => sk_uI_ne h) (fun b h => rfl) e2 e3 ?_
    refine sk_cell22 hk ?_
    rw [e1, arrV_store]
    congr 2
    funext q
    by_cases hq : q = i.toNatClampNeg
    · subst hq
      simp [updV, sk_uI, vp_nar]
      try rfl
    · simp [updV, sk_uI, hq]
  · rcases List.mem_append.mp hq9 with h9 | h9
    · exact hL q h9
    · cases (List.mem_singleton.mp h9)
      show sk_zb C + 1 ≤ sk_zb C + a
      omega
theorem sk_arr23 {C : sk_C} {S : sk_S} {d : sk_D} {H : Heap} {a : Nat} (hw : sk_wd C S d H) (hk : (S.2.1 a).1 = 23) : (1 ≤ a ∧ a ≤ S.1.1) ∧ H[sk_zb C + a]? = some (arrV (C.2.2.1 3) (S.2.1 a).2 (fun j => .int (d.1 a j))) := by
  have h1 := sk_in_n hw (a := a) (by intro h; rw [h] at hk; cases hk)
  refine ⟨h1, ?_⟩
  have h2 := hw.2.2.1 a h1.1 h1.2
  unfold sk_cell sk_cf at h2
  rw [if_neg (by rw [hk]; decide)] at h2
  rw [if_neg (by rw [hk]; decide)] at h2
  rw [if_neg (by rw [hk]; decide)] at h2
  rw [if_pos hk] at h2
  exact h2
theorem sk_cell23 {C : sk_C} {S : sk_S} {d : sk_D} {H : Heap} {a : Nat} (hk : (S.2.1 a).1 = 23) (h : H[sk_zb C + a]? = some (arrV (C.2.2.1 3) (S.2.1 a).2 (fun j => .int (d.1 a j)))) : sk_cell C S d a H := by
  unfold sk_cell sk_cf
  rw [if_neg (by rw [hk]; decide)]
  rw [if_neg (by rw [hk]; decide)]
  rw [if_neg (by rw [hk]; decide)]
  rw [if_pos hk]
  exact h
theorem sk_al23 {X : sk_X} {C : sk_C} {cc : ByteArray} {nL : Nat} {own mn : String} {ret : Option FieldType} {kR : Nat} {l0 : Launch} {ov : Option Value} {S1 S : sk_S} {d1 d : sk_D} {pc : Nat} {lv : List (Nat × Value)} {st : List Value} {a : Nat} {v : Int32} (K : sk_Ok X C cc nL own mn ret kR l0 ov S1 d1) (hd : decode cc pc = .ok (.arraylength, 1)) (he : sk_al S a 23 = some v) (kk : sk_G X C nL S d (pc + 1) lv (.int v :: st)) : sk_G X C nL S d (pc) lv (.ref a :: st) := by
  obtain ⟨p, l, e, R, s, m, args, below, meth, cd, Q, n0, s0⟩ := X
  obtain ⟨hx, hb, hml, hown, hts, hK, hlk, hrt, hnm, hl0, hfr, hlo, hce, hsl, hn0, hs0, hQ⟩ := K
  intro H locs ls hw hL hv
  obtain ⟨hk, he⟩ := sk_ib he
  cases he
  exact W.alen hx hb (sk_arr23 hw hk).2 ((hK.1.2 3 (C.2.2.1 3, .boolean) rfl).1 _ _) (by rw [arrV_size]) rfl rfl hd (kk H locs ls hw hL hv)
theorem sk_ald23 {X : sk_X} {C : sk_C} {cc : ByteArray} {nL : Nat} {own mn : String} {ret : Option FieldType} {kR : Nat} {l0 : Launch} {ov : Option Value} {S1 S : sk_S} {d1 d : sk_D} {pc : Nat} {lv : List (Nat × Value)} {st : List Value} {a : Nat} {i : Int32} {v : Int32} (K : sk_Ok X C cc nL own mn ret kR l0 ov S1 d1) (hd : decode cc pc = .ok (.baload, 1)) (he : sk_lI S d a 23 i = some v) (kk : sk_G X C nL S d (pc + 1) lv (.int v :: st)) : sk_G X C nL S d (pc) lv (.int i :: .ref a :: st) := by
  obtain ⟨p, l, e, R, s, m, args, below, meth, cd, Q, n0, s0⟩ := X
  obtain ⟨hx, hb, hml, hown, hts, hK, hlk, hrt, hnm, hl0, hfr, hlo, hce, hsl, hn0, hs0, hQ⟩ := K
  intro H locs ls hw hL hv
  obtain ⟨⟨hk, hin⟩, he⟩ := sk_ib he
  cases he
  have hlt : i.toNatClampNeg < (S.2.1 a).2 := Nat.not_le.mp fun q => hin (Or.inr q)
  exact W.zald (v := .int (d.1 a i.toNatClampNeg)) hx hb (sk_arr23 hw hk).2 ((hK.1.2 3 (C.2.2.1 3, .boolean) rfl).1 _ _) (fun q => by cases q) (by rw [arrV_size]; exact hin) (by rw [arrV_read _ _ hlt]) rfl rfl hd (kk H locs ls hw hL hv)
theorem sk_ast23 {X : sk_X} {C : sk_C} {cc : ByteArray} {nL : Nat} {own mn : String} {ret : Option FieldType} {kR : Nat} {l0 : Launch} {ov : Option Value} {S1 S : sk_S} {d1 d : sk_D} {pc : Nat} {lv : List (Nat × Value)} {st : List Value} {a : Nat} {i : Int32} {x : Int32} (d2 : sk_D) (K : sk_Ok X C cc nL own mn ret kR l0 ov S1 d1) (hd : decode cc pc = .ok (.bastore, 1)) (he : sk_sI S d a 23 i (vp_nar .boolean x) = some d2) (kk : sk_G X C nL S d2 (pc + 1) lv (st)) : sk_G X C nL S d (pc) lv (.int x :: .int i :: .ref a :: st) := by
  obtain ⟨p, l, e, R, s, m, args, below, meth, cd, Q, n0, s0⟩ := X
  obtain ⟨hx, hb, hml, hown, hts, hK, hlk, hrt, hnm, hl0, hfr, hlo, hce, hsl, hn0, hs0, hQ⟩ := K
  intro H locs ls hw hL hv
  obtain ⟨⟨hk, hin⟩, he⟩ := sk_ib he
  cases he
  have hlt : i.toNatClampNeg < (S.2.1 a).2 := Nat.not_le.mp fun q => hin (Or.inr q)
  have ha := (sk_arr23 hw hk).1
  refine W.zast hx hb (sk_arr23 hw hk).2 ((hK.1.2 3 (C.2.2.1 3, .boolean) rfl).1 _ _) (fun q => by cases q) (by rw [arrV_size]; exact hin) rfl rfl hd fun H1 e1 e2 e3 => ?_
  refine kk H1 _ ls ?_ (fun q hq9 => ?_) hv
  · refine hw.put (a := a) (S2 := S) (d2 := sk_uI d a i.toNatClampNeg (vp_nar .boolean x)) rfl rfl (by intro h; rw [h] at hk; cases hk) (fun b h => rfl) (fun b h => sk_uI_ne h) (fun b h => rfl) e2 e3 ?_
    refine sk_cell23 hk ?_
    rw [e1, arrV_store]
    congr 2
    funext q
    by_cases hq : q = i.toNatClampNeg
    · subst hq
      simp [updV, sk_uI, vp_nar]
      try rfl
    · simp [updV, sk_uI, hq]
  · rcases List.mem_append.mp hq9 with h9 | h9
    · exact hL q h9
    · cases (List.mem_singleton.mp h9)
      show sk_zb C + 1 ≤ sk_zb C + a
      omega
theorem sk_arr24 {C : sk_C} {S : sk_S} {d : sk_D} {H : Heap} {a : Nat} (hw : sk_wd C S d H) (hk : (S.2.1 a).1 = 24) : (1 ≤ a ∧ a ≤ S.1.1) ∧ H[sk_zb C + a]? = some (arrV (C.2.2.1 4) (S.2.1 a).2 (fun j => sk_rv C (S.2.2 a j))) := by
  have h1 := sk_in_n hw (a := a) (by intro h; rw [h] at hk; cases hk)
  refine ⟨h1, ?_⟩
  have h2 := hw.2.2.1 a h1.1 h1.2
  unfold sk_cell sk_cf at h2
  rw [if_neg (by rw [hk]; decide)] at h2
  rw [if_neg (by rw [hk]; decide)] at h2
  rw [if_neg (by rw [hk]; decide)] at h2
  rw [if_neg (by rw [hk]; decide)] at h2
  rw [if_pos hk] at h2
  exact h2
theorem sk_cell24 {C : sk_C} {S : sk_S} {d : sk_D} {H : Heap} {a : Nat} (hk : (S.2.1 a).1 = 24) (h : H[sk_zb C + a]? = some (arrV (C.2.2.1 4) (S.2.1 a).2 (fun j => sk_rv C (S.2.2 a j)))) : sk_cell C S d a H := by
  unfold sk_cell sk_cf
  rw [if_neg (by rw [hk]; decide)]
  rw [if_neg (by rw [hk]; decide)]
  rw [if_neg (by rw [hk]; decide)]
  rw [if_neg (by rw [hk]; decide)]
  rw [if_pos hk]
  exact h
theorem sk_al24 {X : sk_X} {C : sk_C} {cc : ByteArray} {nL : Nat} {own mn : String} {ret : Option FieldType} {kR : Nat} {l0 : Launch} {ov : Option Value} {S1 S : sk_S} {d1 d : sk_D} {pc : Nat} {lv : List (Nat × Value)} {st : List Value} {a : Nat} {v : Int32} (K : sk_Ok X C cc nL own mn ret kR l0 ov S1 d1) (hd : decode cc pc = .ok (.arraylength, 1)) (he : sk_al S a 24 = some v) (kk : sk_G X C nL S d (pc + 1) lv (.int v :: st)) : sk_G X C nL S d (pc) lv (.ref a :: st) := by
  obtain ⟨p, l, e, R, s, m, args, below, meth, cd, Q, n0, s0⟩ := X
  obtain ⟨hx, hb, hml, hown, hts, hK, hlk, hrt, hnm, hl0, hfr, hlo, hce, hsl, hn0, hs0, hQ⟩ := K
  intro H locs ls hw hL hv
  obtain ⟨hk, he⟩ := sk_ib he
  cases he
  exact W.alen hx hb (sk_arr24 hw hk).2 ((hK.1.2 4 (C.2.2.1 4, .object "StubKeep$Tray") rfl).1 _ _) (by rw [arrV_size]) rfl rfl hd (kk H locs ls hw hL hv)
theorem sk_ald24 {X : sk_X} {C : sk_C} {cc : ByteArray} {nL : Nat} {own mn : String} {ret : Option FieldType} {kR : Nat} {l0 : Launch} {ov : Option Value} {S1 S : sk_S} {d1 d : sk_D} {pc : Nat} {lv : List (Nat × Value)} {st : List Value} {a : Nat} {i : Int32} {b : Nat} (K : sk_Ok X C cc nL own mn ret kR l0 ov S1 d1) (hd : decode cc pc = .ok (.aaload, 1)) (he : sk_lR S a 24 i = some b) (kk : sk_G X C nL S d (pc + 1) lv (.ref b :: st)) : sk_G X C nL S d (pc) lv (.int i :: .ref a :: st) := by
  obtain ⟨p, l, e, R, s, m, args, below, meth, cd, Q, n0, s0⟩ := X
  obtain ⟨hx, hb, hml, hown, hts, hK, hlk, hrt, hnm, hl0, hfr, hlo, hce, hsl, hn0, hs0, hQ⟩ := K
  intro H locs ls hw hL hv
  obtain ⟨⟨hk, hin, hne⟩, he⟩ := sk_ib he
  cases he
  have hlt : i.toNatClampNeg < (S.2.1 a).2 := Nat.not_le.mp fun q => hin (Or.inr q)
  exact W.aald (ty := .object "StubKeep$Tray") (v := .ref (sk_zb C + S.2.2 a i.toNatClampNeg)) hx hb (sk_arr24 hw hk).2 ((hK.1.2 4 (C.2.2.1 4, .object "StubKeep$Tray") rfl).1 _ _) rfl (fun q => by cases q) (by rw [arrV_size]; exact hin) (by rw [arrV_read _ _ hlt]; simp [sk_rv, hne]) rfl rfl hd (kk H locs ls hw hL hv)
theorem sk_arr25 {C : sk_C} {S : sk_S} {d : sk_D} {H : Heap} {a : Nat} (hw : sk_wd C S d H) (hk : (S.2.1 a).1 = 25) : (1 ≤ a ∧ a ≤ S.1.1) ∧ H[sk_zb C + a]? = some (arrV (C.2.2.1 5) (S.2.1 a).2 (fun j => sk_rv C (S.2.2 a j))) := by
  have h1 := sk_in_n hw (a := a) (by intro h; rw [h] at hk; cases hk)
  refine ⟨h1, ?_⟩
  have h2 := hw.2.2.1 a h1.1 h1.2
  unfold sk_cell sk_cf at h2
  rw [if_neg (by rw [hk]; decide)] at h2
  rw [if_neg (by rw [hk]; decide)] at h2
  rw [if_neg (by rw [hk]; decide)] at h2
  rw [if_neg (by rw [hk]; decide)] at h2
  rw [if_neg (by rw [hk]; decide)] at h2
  rw [if_pos hk] at h2
  exact h2
theorem sk_cell25 {C : sk_C} {S : sk_S} {d : sk_D} {H : Heap} {a : Nat} (hk : (S.2.1 a).1 = 25) (h : H[sk_zb C + a]? = some (arrV (C.2.2.1 5) (S.2.1 a).2 (fun j => sk_rv C (S.2.2 a j)))) : sk_cell C S d a H := by
  unfold sk_cell sk_cf
  rw [if_neg (by rw [hk]; decide)]
  rw [if_neg (by rw [hk]; decide)]
  rw [if_neg (by rw [hk]; decide)]
  rw [if_neg (by rw [hk]; decide)]
  rw [if_neg (by rw [hk]; decide)]
  rw [if_pos hk]
  exact h
theorem sk_al25 {X : sk_X} {C : sk_C} {cc : ByteArray} {nL : Nat} {own mn : String} {ret : Option FieldType} {kR : Nat} {l0 : Launch} {ov : Option Value} {S1 S : sk_S} {d1 d : sk_D} {pc : Nat} {lv : List (Nat × Value)} {st : List Value} {a : Nat} {v : Int32} (K : sk_Ok X C cc nL own mn ret kR l0 ov S1 d1) (hd : decode cc pc = .ok (.arraylength, 1)) (he : sk_al S a 25 = some v) (kk : sk_G X C nL S d (pc + 1) lv (.int v :: st)) : sk_G X C nL S d (pc) lv (.ref a :: st) := by
  obtain ⟨p, l, e, R, s, m, args, below, meth, cd, Q, n0, s0⟩ := X
  obtain ⟨hx, hb, hml, hown, hts, hK, hlk, hrt, hnm, hl0, hfr, hlo, hce, hsl, hn0, hs0, hQ⟩ := K
  intro H locs ls hw hL hv
  obtain ⟨hk, he⟩ := sk_ib he
  cases he
  exact W.alen hx hb (sk_arr25 hw hk).2 ((hK.1.2 5 (C.2.2.1 5, .object "StubKeep$Life") rfl).1 _ _) (by rw [arrV_size]) rfl rfl hd (kk H locs ls hw hL hv)
theorem sk_ald25 {X : sk_X} {C : sk_C} {cc : ByteArray} {nL : Nat} {own mn : String} {ret : Option FieldType} {kR : Nat} {l0 : Launch} {ov : Option Value} {S1 S : sk_S} {d1 d : sk_D} {pc : Nat} {lv : List (Nat × Value)} {st : List Value} {a : Nat} {i : Int32} {b : Nat} (K : sk_Ok X C cc nL own mn ret kR l0 ov S1 d1) (hd : decode cc pc = .ok (.aaload, 1)) (he : sk_lR S a 25 i = some b) (kk : sk_G X C nL S d (pc + 1) lv (.ref b :: st)) : sk_G X C nL S d (pc) lv (.int i :: .ref a :: st) := by
  obtain ⟨p, l, e, R, s, m, args, below, meth, cd, Q, n0, s0⟩ := X
  obtain ⟨hx, hb, hml, hown, hts, hK, hlk, hrt, hnm, hl0, hfr, hlo, hce, hsl, hn0, hs0, hQ⟩ := K
  intro H locs ls hw hL hv
  obtain ⟨⟨hk, hin, hne⟩, he⟩ := sk_ib he
  cases he
  have hlt : i.toNatClampNeg < (S.2.1 a).2 := Nat.not_le.mp fun q => hin (Or.inr q)
  exact W.aald (ty := .object "StubKeep$Life") (v := .ref (sk_zb C + S.2.2 a i.toNatClampNeg)) hx hb (sk_arr25 hw hk).2 ((hK.1.2 5 (C.2.2.1 5, .object "StubKeep$Life") rfl).1 _ _) rfl (fun q => by cases q) (by rw [arrV_size]; exact hin) (by rw [arrV_read _ _ hlt]; simp [sk_rv, hne]) rfl rfl hd (kk H locs ls hw hL hv)
theorem sk_iret {X : sk_X} {C : sk_C} {cc : ByteArray} {nL : Nat} {own mn : String} {ret : Option FieldType} {kR : Nat} {l0 : Launch} {ov : Option Value} {S1 S : sk_S} {d1 d : sk_D} {pc : Nat} {lv : List (Nat × Value)} {x v : Int32} (K : sk_Ok X C cc nL own mn ret kR l0 ov S1 d1) (hd : decode cc pc = .ok (.ireturn, 1)) (hr : ret = some .int) (ho : ov = some (.int v)) (e1 : x = v) (e2 : S = S1) (e3 : d = d1) : sk_G X C nL S d (pc) lv ([.int x]) := by
  obtain ⟨p, l, e, R, s, m, args, below, meth, cd, Q, n0, s0⟩ := X
  obtain ⟨hx, hb, hml, hown, hts, hK, hlk, hrt, hnm, hl0, hfr, hlo, hce, hsl, hn0, hs0, hQ⟩ := K
  intro H locs ls hw hL hv
  subst e1; subst e2; subst e3; subst ho; subst hQ
  exact W.iret (v := x) hx hb (hrt.trans hr) (fun t ht hW => ⟨rfl, by rw [ht]; exact hw⟩) hL hd
theorem sk_lret {X : sk_X} {C : sk_C} {cc : ByteArray} {nL : Nat} {own mn : String} {ret : Option FieldType} {kR : Nat} {l0 : Launch} {ov : Option Value} {S1 S : sk_S} {d1 d : sk_D} {pc : Nat} {lv : List (Nat × Value)} {x v : Int64} (K : sk_Ok X C cc nL own mn ret kR l0 ov S1 d1) (hd : decode cc pc = .ok (.lreturn, 1)) (hr : ret = some .long) (ho : ov = some (.long v)) (e1 : x = v) (e2 : S = S1) (e3 : d = d1) : sk_G X C nL S d (pc) lv ([.long x]) := by
  obtain ⟨p, l, e, R, s, m, args, below, meth, cd, Q, n0, s0⟩ := X
  obtain ⟨hx, hb, hml, hown, hts, hK, hlk, hrt, hnm, hl0, hfr, hlo, hce, hsl, hn0, hs0, hQ⟩ := K
  intro H locs ls hw hL hv
  subst e1; subst e2; subst e3; subst ho; subst hQ
  exact W.lret (v := x) hx hb (hrt.trans hr) (fun t ht hW => ⟨rfl, by rw [ht]; exact hw⟩) hL hd
theorem sk_zret {X : sk_X} {C : sk_C} {cc : ByteArray} {nL : Nat} {own mn : String} {ret : Option FieldType} {kR : Nat} {l0 : Launch} {ov : Option Value} {S1 S : sk_S} {d1 d : sk_D} {pc : Nat} {lv : List (Nat × Value)} {x v : Bool} (K : sk_Ok X C cc nL own mn ret kR l0 ov S1 d1) (hd : decode cc pc = .ok (.ireturn, 1)) (hr : ret = some .boolean) (ho : ov = some (.int (sk_b v))) (e1 : x = v) (e2 : S = S1) (e3 : d = d1) : sk_G X C nL S d (pc) lv ([.int (sk_b x)]) := by
  obtain ⟨p, l, e, R, s, m, args, below, meth, cd, Q, n0, s0⟩ := X
  obtain ⟨hx, hb, hml, hown, hts, hK, hlk, hrt, hnm, hl0, hfr, hlo, hce, hsl, hn0, hs0, hQ⟩ := K
  intro H locs ls hw hL hv
  subst e1; subst e2; subst e3; subst ho; subst hQ
  exact W.zret (v := sk_b x) (ty := .boolean) hx hb (hrt.trans hr) (by cases x <;> rfl) (fun t ht hW => ⟨rfl, by rw [ht]; exact hw⟩) hL hd
theorem sk_cret {X : sk_X} {C : sk_C} {cc : ByteArray} {nL : Nat} {own mn : String} {ret : Option FieldType} {kR : Nat} {l0 : Launch} {ov : Option Value} {S1 S : sk_S} {d1 d : sk_D} {pc : Nat} {lv : List (Nat × Value)} {x v : Int32} (ty : FieldType) (K : sk_Ok X C cc nL own mn ret kR l0 ov S1 d1) (hd : decode cc pc = .ok (.ireturn, 1)) (hr : ret = some ty) (hn : narrow ty (.int x) = .int x) (ho : ov = some (.int v)) (e1 : x = v) (e2 : S = S1) (e3 : d = d1) : sk_G X C nL S d (pc) lv ([.int x]) := by
  obtain ⟨p, l, e, R, s, m, args, below, meth, cd, Q, n0, s0⟩ := X
  obtain ⟨hx, hb, hml, hown, hts, hK, hlk, hrt, hnm, hl0, hfr, hlo, hce, hsl, hn0, hs0, hQ⟩ := K
  intro H locs ls hw hL hv
  subst e1; subst e2; subst e3; subst ho; subst hQ
  exact W.zret (v := x) (ty := ty) hx hb (hrt.trans hr) hn (fun t ht hW => ⟨rfl, by rw [ht]; exact hw⟩) hL hd
theorem sk_vret {X : sk_X} {C : sk_C} {cc : ByteArray} {nL : Nat} {own mn : String} {ret : Option FieldType} {kR : Nat} {l0 : Launch} {ov : Option Value} {S1 S : sk_S} {d1 d : sk_D} {pc : Nat} {lv : List (Nat × Value)}  (K : sk_Ok X C cc nL own mn ret kR l0 ov S1 d1) (hd : decode cc pc = .ok (.return_, 1)) (hr : ret = none) (ho : ov = none) (e2 : S = S1) (e3 : d = d1) : sk_G X C nL S d (pc) lv ([]) := by
  obtain ⟨p, l, e, R, s, m, args, below, meth, cd, Q, n0, s0⟩ := X
  obtain ⟨hx, hb, hml, hown, hts, hK, hlk, hrt, hnm, hl0, hfr, hlo, hce, hsl, hn0, hs0, hQ⟩ := K
  intro H locs ls hw hL hv
  subst e2; subst e3; subst ho; subst hQ
  exact W.vret hx hb (hrt.trans hr) (fun t ht hW => ⟨rfl, by rw [ht]; exact hw⟩) hL hd
theorem sk_blind {C : sk_C} {As : List Value} {S : sk_S} {d : sk_D} : FrameBlind (sk_Pre C As S d) := fun a U g mk q => ⟨q.1, sk_K.same (u := U) rfl q.2.1, q.2.2⟩
theorem sk_gd {w : Cond} (h : w ∈ sk_tbl) : w ∈ sk_tbl ∧ ((w.onTables && w.keeps) = true ∨ ∃ ty, w = .arrayClass ty) := ⟨h, good_of_word (sk_good h)⟩
theorem sk_goodC {y : MethodName} {cc : ByteArray} {nL : Nat} {ret : Option FieldType} (h : Cond.code y cc nL ret ∈ sk_tbl) : GoodIn sk_tbl (sk_code y cc nL ret) := fun w hw => by
  rcases List.mem_cons.mp hw with e | e
  · rw [e]; exact sk_gd h
  · exact sk_gd e
def sk_plain (y : MethodName) (n nL : Nat) : Prop := y.cls ≠ "java/lang/invoke/MethodHandle" ∧ y.cls ≠ "java/lang/invoke/VarHandle" ∧ (parseMethodDescriptor y.desc).map (fun d => d.parameters.length) = some n ∧ nL + 19 ≤ 64
/-- a call of an instance method -/
def sk_CV (own : String) (idx : Nat) (y : MethodName) (cc : ByteArray) (nL : Nat) (ret : Option FieldType) (n c : Nat) : Prop := Cond.methodLink own idx y ∈ sk_tbl ∧ Cond.instanceMethod y ∈ sk_tbl ∧ Cond.selects y.cls y y ∈ sk_tbl ∧ Cond.initialized y.cls ∈ sk_tbl ∧ Cond.code y cc nL ret ∈ sk_tbl ∧ sk_plain y n nL ∧ c < 11 ∧ ∃ T N, sk_classes[c]? = some (y.cls, T, N)
def sk_CS (own : String) (idx : Nat) (y : MethodName) (cc : ByteArray) (nL : Nat) (ret : Option FieldType) (n : Nat) : Prop := Cond.methodLink own idx y ∈ sk_tbl ∧ Cond.static y ∈ sk_tbl ∧ Cond.initialized y.cls ∈ sk_tbl ∧ Cond.code y cc nL ret ∈ sk_tbl ∧ sk_plain y n nL
def sk_CN (own : String) (idx : Nat) (y : MethodName) (host : String) (cc : ByteArray) (nL : Nat) (ret : Option FieldType) (n : Nat) : Prop := Cond.methodLinkNest own idx y host ∈ lw_tbl ∧ Cond.static y ∈ sk_tbl ∧ Cond.initialized y.cls ∈ sk_tbl ∧ Cond.code y cc nL ret ∈ sk_tbl ∧ sk_plain y n nL
def sk_CI (own : String) (idx : Nat) (y : MethodName) (host : String) (cc : ByteArray) (nL : Nat) (n : Nat) : Prop := Cond.methodLinkNest own idx y host ∈ lw_tbl ∧ Cond.instanceMethod y ∈ sk_tbl ∧ Cond.initialized y.cls ∈ sk_tbl ∧ Cond.code y cc nL none ∈ sk_tbl ∧ sk_plain y n nL ∧ y.name = "<init>"
def sk_CJ (own : String) (idx : Nat) (y : MethodName) (cc : ByteArray) (nL : Nat) (n : Nat) : Prop := Cond.methodLink own idx y ∈ sk_tbl ∧ Cond.instanceMethod y ∈ sk_tbl ∧ Cond.initialized y.cls ∈ sk_tbl ∧ Cond.code y cc nL none ∈ sk_tbl ∧ sk_plain y n nL ∧ y.name = "<init>"
theorem sk_callV {X : sk_X} {C : sk_C} {cc : ByteArray} {nL : Nat} {own mn : String} {ret : Option FieldType} {kR : Nat} {l0 : Launch} {ov : Option Value} {S1 S : sk_S} {d1 d : sk_D} {pc : Nat} {lv : List (Nat × Value)} {st : List Value} {y : MethodName} {cc2 : ByteArray} {nL2 idx n k2 : Nat} {ret2 : Option FieldType} {As : List Value} {ov2 : Option Value} {S2 : sk_S} {d2 : sk_D} {st0 : List Value} {a c : Nat} (K : sk_Ok X C cc nL own mn ret kR l0 ov S1 d1) (hd : decode cc pc = .ok (.invokevirtual idx, 3)) (hc : sk_CV own idx y cc2 nL2 ret2 n c) (hkd : S.2.1 a = (c, 0)) (hM : sk_Met C l0 k2 y cc2 nL2 ret2 (.ref a :: As) S d ov2 S2 d2) (hk2 : k2 + 1 ≤ kR) (hn : As.length = n) (hs : st0 = As.reverse ++ .ref a :: st) (hst : (st.map fun v => v.category).sum ≤ 8) (hr1 : X.2.2.2.2.2.2.2.2.2.2.2.1 ≤ S.1.1 ∧ X.2.2.2.2.2.2.2.2.2.2.2.2 ≤ S.1.2) (hr2 : S2.1.1 ≤ S1.1.1 ∧ S2.1.2 ≤ S1.1.2) (kk : sk_G X C nL S2 d2 (pc + 3) lv (ov2.toList ++ st)) : sk_G X C nL S d pc lv st0 := by
  obtain ⟨p, l, e, R, s, m, args, below, meth, cd, Q, n0, s0⟩ := X
  obtain ⟨hx, hb, hml, hown, hts, hK, hlk, hrt, hnm, hl0, hfr, hlo, hce, hsl, hn0, hs0, hQ⟩ := K
  intro H locs ls hw hL hv
  obtain ⟨hm1, hm2, hM⟩ := hM
  obtain ⟨w1, w2, w3, w4, w5, hpl, hc11, T0, N0, hcl⟩ := hc
  have hgood : GoodIn sk_tbl (wsV own idx y.cls y (sk_code y cc2 nL2 ret2)) := fun w hw9 => by
    rcases List.mem_append.mp hw9 with h | h
    · simp only [List.mem_cons, List.not_mem_nil, or_false] at h
      rcases h with h | h | h | h
      · rw [h]; exact sk_gd w1
      · rw [h]; exact sk_gd w2
      · rw [h]; exact sk_gd w3
      · rw [h]; exact sk_gd w4
    · exact sk_goodC w5 w h
  have hrec : ∃ cellB : Cell, H[sk_zb C + a]? = some cellB ∧ cellB.vm.isStatics = false ∧ s.vm.findClass y.cls = some cellB.cls := by
    obtain ⟨cell, q1, q2, q3, q4⟩ := sk_obj hw hc11 hkd
    exact ⟨cell, q1, by rw [q3]; rfl, by rw [q2]; exact (hK.1.1 c _ hcl).2.1⟩
  obtain ⟨hp1, hp2, hp3, hp4⟩ := hpl
  dsimp only at hr1
  have hR : (sk_rm k2 (S2.1.1 - S.1.1) (S2.1.2 - S.1.2)).frames + 1 ≤ R.frames ∧ 8 + (nL2 + 11) + (sk_rm k2 (S2.1.1 - S.1.1) (S2.1.2 - S.1.2)).locals ≤ R.locals := by
    exact ⟨Nat.le_trans hk2 hfr, by show 8 + (nL2 + 11) + 64 * k2 ≤ R.locals; omega⟩
  subst hl0
  have run := va_runV (b := sk_zb C + a) (C := y.cls) (p := p) (l := l) (e := e) (R := R) (s := s) (m := m) (args := args) (below := below) (meth := meth) (c := cd) (H := H) (locs := locs) (cells := S.1.1 - n0) (slots := S.1.2 - s0) (g := F0 m pc ls (st0.map (sk_up C))) (rest := st.map (sk_up C)) (As := As.map (sk_up C)) ⟨hx, hb, hml, hown, hts⟩ hM (cwV n hts hgood rfl rfl rfl ⟨rfl, hp1, hp2, hp3⟩ hR) ⟨sk_blind, hrec, (fun U hU hW => ⟨rfl, sk_K.warm hW hK, by rw [hU]; exact hw⟩)⟩ rfl (by rw [List.length_map]; exact hn) hv.1 (by rw [hs]; simp [List.map_append, List.map_reverse, sk_up]) (lv_room (by rw [sk_catsum]; exact hst)) hd ⟨by omega, by omega⟩
  intro T hT XX
  obtain ⟨v, st9, t, T9, L, h0, X9, hL9, e1, e2, ⟨hv1, hw2⟩, go⟩ := run T hT XX
  cases hv1
  have ec : S.1.1 - n0 + (S2.1.1 - S.1.1) = S2.1.1 - n0 := by omega
  have es : S.1.2 - s0 + (S2.1.2 - S.1.2) = S2.1.2 - s0 := by omega
  rw [ec, es] at X9
  rw [← e1] at hw2
  obtain ⟨t2, a1, b1⟩ := kk T9.heap (locs ++ L) ls hw2 (fun q hq => by
    rcases List.mem_append.mp hq with h | h
    · exact hL q h
    · exact hL9 q h) hv T9 rfl X9
  refine ⟨t2, go t2 ?_, b1⟩
  have ef : sk_F (p, l, e, R, s, m, args, below, meth, cd, Q, n0, s0) (pc + 3) ls ((ov2.toList ++ st).map (sk_up C)) = { F0 m pc ls (st0.map (sk_up C)) with pc := pc + 3, stack := (ov2.map (sk_up C)).toList ++ st.map (sk_up C) } := by
    cases ov2 <;> rfl
  rw [← ef]
  exact a1
theorem sk_callS {X : sk_X} {C : sk_C} {cc : ByteArray} {nL : Nat} {own mn : String} {ret : Option FieldType} {kR : Nat} {l0 : Launch} {ov : Option Value} {S1 S : sk_S} {d1 d : sk_D} {pc : Nat} {lv : List (Nat × Value)} {st : List Value} {y : MethodName} {cc2 : ByteArray} {nL2 idx n k2 : Nat} {ret2 : Option FieldType} {As : List Value} {ov2 : Option Value} {S2 : sk_S} {d2 : sk_D} {st0 : List Value}  (K : sk_Ok X C cc nL own mn ret kR l0 ov S1 d1) (hd : decode cc pc = .ok (.invokestatic idx, 3)) (hc : sk_CS own idx y cc2 nL2 ret2 n) (hM : sk_Met C l0 k2 y cc2 nL2 ret2 As S d ov2 S2 d2) (hk2 : k2 + 1 ≤ kR) (hn : As.length = n) (hs : st0 = As.reverse ++ st) (hst : (st.map fun v => v.category).sum ≤ 8) (hr1 : X.2.2.2.2.2.2.2.2.2.2.2.1 ≤ S.1.1 ∧ X.2.2.2.2.2.2.2.2.2.2.2.2 ≤ S.1.2) (hr2 : S2.1.1 ≤ S1.1.1 ∧ S2.1.2 ≤ S1.1.2) (kk : sk_G X C nL S2 d2 (pc + 3) lv (ov2.toList ++ st)) : sk_G X C nL S d pc lv st0 := by
  obtain ⟨p, l, e, R, s, m, args, below, meth, cd, Q, n0, s0⟩ := X
  obtain ⟨hx, hb, hml, hown, hts, hK, hlk, hrt, hnm, hl0, hfr, hlo, hce, hsl, hn0, hs0, hQ⟩ := K
  intro H locs ls hw hL hv
  obtain ⟨hm1, hm2, hM⟩ := hM
  obtain ⟨w1, w2, w4, w5, hpl⟩ := hc
  have hgood : GoodIn sk_tbl (va_wsS own idx y (sk_code y cc2 nL2 ret2)) := fun w hw9 => by
    rcases List.mem_append.mp hw9 with h | h
    · simp only [List.mem_cons, List.not_mem_nil, or_false] at h
      rcases h with h | h | h
      · rw [h]; exact sk_gd w1
      · rw [h]; exact sk_gd w2
      · rw [h]; exact sk_gd w4
    · exact sk_goodC w5 w h
  obtain ⟨hp1, hp2, hp3, hp4⟩ := hpl
  dsimp only at hr1
  have hR : (sk_rm k2 (S2.1.1 - S.1.1) (S2.1.2 - S.1.2)).frames + 1 ≤ R.frames ∧ 8 + (nL2 + 11) + (sk_rm k2 (S2.1.1 - S.1.1) (S2.1.2 - S.1.2)).locals ≤ R.locals := by
    exact ⟨Nat.le_trans hk2 hfr, by show 8 + (nL2 + 11) + 64 * k2 ≤ R.locals; omega⟩
  subst hl0
  have run := va_runS (p := p) (l := l) (e := e) (R := R) (s := s) (m := m) (args := args) (below := below) (meth := meth) (c := cd) (H := H) (locs := locs) (cells := S.1.1 - n0) (slots := S.1.2 - s0) (g := F0 m pc ls (st0.map (sk_up C))) (rest := st.map (sk_up C)) (As := As.map (sk_up C)) ⟨hx, hb, hml, hown, hts⟩ hM (va_cwS n hts hgood rfl rfl rfl ⟨hp1, hp2, hp3⟩ hR) ⟨sk_blind, (fun U hU hW => ⟨rfl, sk_K.warm hW hK, by rw [hU]; exact hw⟩)⟩ rfl (by rw [List.length_map]; exact hn) hv.1 (by rw [hs]; simp [List.map_append, List.map_reverse, sk_up]) (lv_room (by rw [sk_catsum]; exact hst)) hd ⟨by omega, by omega⟩
  intro T hT XX
  obtain ⟨v, st9, t, T9, L, h0, X9, hL9, e1, e2, ⟨hv1, hw2⟩, go⟩ := run T hT XX
  cases hv1
  have ec : S.1.1 - n0 + (S2.1.1 - S.1.1) = S2.1.1 - n0 := by omega
  have es : S.1.2 - s0 + (S2.1.2 - S.1.2) = S2.1.2 - s0 := by omega
  rw [ec, es] at X9
  rw [← e1] at hw2
  obtain ⟨t2, a1, b1⟩ := kk T9.heap (locs ++ L) ls hw2 (fun q hq => by
    rcases List.mem_append.mp hq with h | h
    · exact hL q h
    · exact hL9 q h) hv T9 rfl X9
  refine ⟨t2, go t2 ?_, b1⟩
  have ef : sk_F (p, l, e, R, s, m, args, below, meth, cd, Q, n0, s0) (pc + 3) ls ((ov2.toList ++ st).map (sk_up C)) = { F0 m pc ls (st0.map (sk_up C)) with pc := pc + 3, stack := (ov2.map (sk_up C)).toList ++ st.map (sk_up C) } := by
    cases ov2 <;> rfl
  rw [← ef]
  exact a1
theorem sk_callN {X : sk_X} {C : sk_C} {cc : ByteArray} {nL : Nat} {own mn : String} {ret : Option FieldType} {kR : Nat} {l0 : Launch} {ov : Option Value} {S1 S : sk_S} {d1 d : sk_D} {pc : Nat} {lv : List (Nat × Value)} {st : List Value} {y : MethodName} {cc2 : ByteArray} {nL2 idx n k2 : Nat} {ret2 : Option FieldType} {As : List Value} {ov2 : Option Value} {S2 : sk_S} {d2 : sk_D} {st0 : List Value} {host : String} (K : sk_Ok X C cc nL own mn ret kR l0 ov S1 d1) (hd : decode cc pc = .ok (.invokestatic idx, 3)) (hc : sk_CN own idx y host cc2 nL2 ret2 n) (hM : sk_Met C l0 k2 y cc2 nL2 ret2 As S d ov2 S2 d2) (hk2 : k2 + 1 ≤ kR) (hn : As.length = n) (hs : st0 = As.reverse ++ st) (hst : (st.map fun v => v.category).sum ≤ 8) (hr1 : X.2.2.2.2.2.2.2.2.2.2.2.1 ≤ S.1.1 ∧ X.2.2.2.2.2.2.2.2.2.2.2.2 ≤ S.1.2) (hr2 : S2.1.1 ≤ S1.1.1 ∧ S2.1.2 ≤ S1.1.2) (kk : sk_G X C nL S2 d2 (pc + 3) lv (ov2.toList ++ st)) : sk_G X C nL S d pc lv st0 := by
  obtain ⟨p, l, e, R, s, m, args, below, meth, cd, Q, n0, s0⟩ := X
  obtain ⟨hx, hb, hml, hown, hts, hK, hlk, hrt, hnm, hl0, hfr, hlo, hce, hsl, hn0, hs0, hQ⟩ := K
  intro H locs ls hw hL hv
  obtain ⟨hm1, hm2, hM⟩ := hM
  obtain ⟨w1, w2, w4, w5, hpl⟩ := hc
  obtain ⟨hp1, hp2, hp3, hp4⟩ := hpl
  dsimp only at hr1
  have hR : (sk_rm k2 (S2.1.1 - S.1.1) (S2.1.2 - S.1.2)).frames + 1 ≤ R.frames ∧ 8 + (nL2 + 11) + (sk_rm k2 (S2.1.1 - S.1.1) (S2.1.2 - S.1.2)).locals ≤ R.locals := by
    exact ⟨Nat.le_trans hk2 hfr, by show 8 + (nL2 + 11) + 64 * k2 ≤ R.locals; omega⟩
  subst hl0
  have run := va_runSN (host := host) (p := p) (l := l) (e := e) (R := R) (s := s) (m := m) (args := args) (below := below) (meth := meth) (c := cd) (H := H) (locs := locs) (cells := S.1.1 - n0) (slots := S.1.2 - s0) (g := F0 m pc ls (st0.map (sk_up C))) (rest := st.map (sk_up C)) (As := As.map (sk_up C)) ⟨hx, hb, hml, hown, hts⟩ hM (⟨va_cnB n hts (sk_goodC w5) rfl rfl rfl (hK.2.1.2.2.2.2.2.2.2.2 _ _ _ _ w1) (hts _ w4) ⟨hp1, hp2, hp3⟩ hR, hts _ w2, trivial⟩) ⟨sk_blind, (fun U hU hW => ⟨rfl, sk_K.warm hW hK, by rw [hU]; exact hw⟩)⟩ rfl (by rw [List.length_map]; exact hn) hv.1 (by rw [hs]; simp [List.map_append, List.map_reverse, sk_up]) (lv_room (by rw [sk_catsum]; exact hst)) hd ⟨by omega, by omega⟩
  intro T hT XX
  obtain ⟨v, st9, t, T9, L, h0, X9, hL9, e1, e2, ⟨hv1, hw2⟩, go⟩ := run T hT XX
  cases hv1
  have ec : S.1.1 - n0 + (S2.1.1 - S.1.1) = S2.1.1 - n0 := by omega
  have es : S.1.2 - s0 + (S2.1.2 - S.1.2) = S2.1.2 - s0 := by omega
  rw [ec, es] at X9
  rw [← e1] at hw2
  obtain ⟨t2, a1, b1⟩ := kk T9.heap (locs ++ L) ls hw2 (fun q hq => by
    rcases List.mem_append.mp hq with h | h
    · exact hL q h
    · exact hL9 q h) hv T9 rfl X9
  refine ⟨t2, go t2 ?_, b1⟩
  have ef : sk_F (p, l, e, R, s, m, args, below, meth, cd, Q, n0, s0) (pc + 3) ls ((ov2.toList ++ st).map (sk_up C)) = { F0 m pc ls (st0.map (sk_up C)) with pc := pc + 3, stack := (ov2.map (sk_up C)).toList ++ st.map (sk_up C) } := by
    cases ov2 <;> rfl
  rw [← ef]
  exact a1
theorem sk_callI {X : sk_X} {C : sk_C} {cc : ByteArray} {nL : Nat} {own mn : String} {ret : Option FieldType} {kR : Nat} {l0 : Launch} {ov : Option Value} {S1 S : sk_S} {d1 d : sk_D} {pc : Nat} {lv : List (Nat × Value)} {st : List Value} {y : MethodName} {cc2 : ByteArray} {nL2 idx n k2 : Nat} {ret2 : Option FieldType} {As : List Value} {ov2 : Option Value} {S2 : sk_S} {d2 : sk_D} {st0 : List Value} {host : String} {a : Nat} (K : sk_Ok X C cc nL own mn ret kR l0 ov S1 d1) (hd : decode cc pc = .ok (.invokespecial idx, 3)) (hc : sk_CI own idx y host cc2 nL2 n) (hrt2 : ret2 = none) (hM : sk_Met C l0 k2 y cc2 nL2 ret2 (.ref a :: As) S d ov2 S2 d2) (hk2 : k2 + 1 ≤ kR) (hn : As.length = n) (hs : st0 = As.reverse ++ .ref a :: st) (hst : (st.map fun v => v.category).sum ≤ 8) (hr1 : X.2.2.2.2.2.2.2.2.2.2.2.1 ≤ S.1.1 ∧ X.2.2.2.2.2.2.2.2.2.2.2.2 ≤ S.1.2) (hr2 : S2.1.1 ≤ S1.1.1 ∧ S2.1.2 ≤ S1.1.2) (kk : sk_G X C nL S2 d2 (pc + 3) lv (ov2.toList ++ st)) : sk_G X C nL S d pc lv st0 := by
  obtain ⟨p, l, e, R, s, m, args, below, meth, cd, Q, n0, s0⟩ := X
  obtain ⟨hx, hb, hml, hown, hts, hK, hlk, hrt, hnm, hl0, hfr, hlo, hce, hsl, hn0, hs0, hQ⟩ := K
  intro H locs ls hw hL hv
  obtain ⟨hm1, hm2, hM⟩ := hM
  subst hrt2
  obtain ⟨w1, w2, w4, w5, hpl, w6⟩ := hc
  obtain ⟨hp1, hp2, hp3, hp4⟩ := hpl
  dsimp only at hr1
  have hR : (sk_rm k2 (S2.1.1 - S.1.1) (S2.1.2 - S.1.2)).frames + 1 ≤ R.frames ∧ 8 + (nL2 + 11) + (sk_rm k2 (S2.1.1 - S.1.1) (S2.1.2 - S.1.2)).locals ≤ R.locals := by
    exact ⟨Nat.le_trans hk2 hfr, by show 8 + (nL2 + 11) + 64 * k2 ≤ R.locals; omega⟩
  subst hl0
  have run := va_runIN (host := host) (b := sk_zb C + a) (p := p) (l := l) (e := e) (R := R) (s := s) (m := m) (args := args) (below := below) (meth := meth) (c := cd) (H := H) (locs := locs) (cells := S.1.1 - n0) (slots := S.1.2 - s0) (g := F0 m pc ls (st0.map (sk_up C))) (rest := st.map (sk_up C)) (As := As.map (sk_up C)) ⟨hx, hb, hml, hown, hts⟩ hM (⟨va_cnB n hts (sk_goodC w5) rfl rfl rfl (hK.2.1.2.2.2.2.2.2.2.2 _ _ _ _ w1) (hts _ w4) ⟨hp1, hp2, hp3⟩ hR, w6, hts _ w2⟩) ⟨sk_blind, (fun U hU hW => ⟨rfl, sk_K.warm hW hK, by rw [hU]; exact hw⟩)⟩ rfl (by rw [List.length_map]; exact hn) hv.1 (by rw [hs]; simp [List.map_append, List.map_reverse, sk_up]) (lv_room (by rw [sk_catsum]; exact hst)) hd ⟨by omega, by omega⟩
  intro T hT XX
  obtain ⟨v, st9, t, T9, L, h0, X9, hL9, e1, e2, ⟨hv1, hw2⟩, go⟩ := run T hT XX
  cases hv1
  have ec : S.1.1 - n0 + (S2.1.1 - S.1.1) = S2.1.1 - n0 := by omega
  have es : S.1.2 - s0 + (S2.1.2 - S.1.2) = S2.1.2 - s0 := by omega
  rw [ec, es] at X9
  rw [← e1] at hw2
  obtain ⟨t2, a1, b1⟩ := kk T9.heap (locs ++ L) ls hw2 (fun q hq => by
    rcases List.mem_append.mp hq with h | h
    · exact hL q h
    · exact hL9 q h) hv T9 rfl X9
  refine ⟨t2, go t2 ?_, b1⟩
  have ef : sk_F (p, l, e, R, s, m, args, below, meth, cd, Q, n0, s0) (pc + 3) ls ((ov2.toList ++ st).map (sk_up C)) = { F0 m pc ls (st0.map (sk_up C)) with pc := pc + 3, stack := (ov2.map (sk_up C)).toList ++ st.map (sk_up C) } := by
    cases ov2 <;> rfl
  rw [← ef]
  exact a1
theorem sk_callJ {X : sk_X} {C : sk_C} {cc : ByteArray} {nL : Nat} {own mn : String} {ret : Option FieldType} {kR : Nat} {l0 : Launch} {ov : Option Value} {S1 S : sk_S} {d1 d : sk_D} {pc : Nat} {lv : List (Nat × Value)} {st : List Value} {y : MethodName} {cc2 : ByteArray} {nL2 idx n k2 : Nat} {ret2 : Option FieldType} {As : List Value} {ov2 : Option Value} {S2 : sk_S} {d2 : sk_D} {st0 : List Value} {a : Nat} (K : sk_Ok X C cc nL own mn ret kR l0 ov S1 d1) (hd : decode cc pc = .ok (.invokespecial idx, 3)) (hc : sk_CJ own idx y cc2 nL2 n) (hrt2 : ret2 = none) (hM : sk_Met C l0 k2 y cc2 nL2 ret2 (.ref a :: As) S d ov2 S2 d2) (hk2 : k2 + 1 ≤ kR) (hn : As.length = n) (hs : st0 = As.reverse ++ .ref a :: st) (hst : (st.map fun v => v.category).sum ≤ 8) (hr1 : X.2.2.2.2.2.2.2.2.2.2.2.1 ≤ S.1.1 ∧ X.2.2.2.2.2.2.2.2.2.2.2.2 ≤ S.1.2) (hr2 : S2.1.1 ≤ S1.1.1 ∧ S2.1.2 ≤ S1.1.2) (kk : sk_G X C nL S2 d2 (pc + 3) lv (ov2.toList ++ st)) : sk_G X C nL S d pc lv st0 := by
  obtain ⟨p, l, e, R, s, m, args, below, meth, cd, Q, n0, s0⟩ := X
  obtain ⟨hx, hb, hml, hown, hts, hK, hlk, hrt, hnm, hl0, hfr, hlo, hce, hsl, hn0, hs0, hQ⟩ := K
  intro H locs ls hw hL hv
  obtain ⟨hm1, hm2, hM⟩ := hM
  subst hrt2
  obtain ⟨w1, w2, w4, w5, hpl, w6⟩ := hc
  obtain ⟨hp1, hp2, hp3, hp4⟩ := hpl
  dsimp only at hr1
  have hR : (sk_rm k2 (S2.1.1 - S.1.1) (S2.1.2 - S.1.2)).frames + 1 ≤ R.frames ∧ 8 + (nL2 + 11) + (sk_rm k2 (S2.1.1 - S.1.1) (S2.1.2 - S.1.2)).locals ≤ R.locals := by
    exact ⟨Nat.le_trans hk2 hfr, by show 8 + (nL2 + 11) + 64 * k2 ≤ R.locals; omega⟩
  subst hl0
  have run := va_runI (b := sk_zb C + a) (p := p) (l := l) (e := e) (R := R) (s := s) (m := m) (args := args) (below := below) (meth := meth) (c := cd) (H := H) (locs := locs) (cells := S.1.1 - n0) (slots := S.1.2 - s0) (g := F0 m pc ls (st0.map (sk_up C))) (rest := st.map (sk_up C)) (As := As.map (sk_up C)) ⟨hx, hb, hml, hown, hts⟩ hM (cwI n hts (sk_goodC w5) rfl rfl rfl (hts _ w4) (hts _ w1) (hts _ w2) w6 ⟨hp1, hp2, hp3⟩ hR) ⟨sk_blind, (fun U hU hW => ⟨rfl, sk_K.warm hW hK, by rw [hU]; exact hw⟩)⟩ rfl (by rw [List.length_map]; exact hn) hv.1 (by rw [hs]; simp [List.map_append, List.map_reverse, sk_up]) (lv_room (by rw [sk_catsum]; exact hst)) hd ⟨by omega, by omega⟩
  intro T hT XX
  obtain ⟨v, st9, t, T9, L, h0, X9, hL9, e1, e2, ⟨hv1, hw2⟩, go⟩ := run T hT XX
  cases hv1
  have ec : S.1.1 - n0 + (S2.1.1 - S.1.1) = S2.1.1 - n0 := by omega
  have es : S.1.2 - s0 + (S2.1.2 - S.1.2) = S2.1.2 - s0 := by omega
  rw [ec, es] at X9
  rw [← e1] at hw2
  obtain ⟨t2, a1, b1⟩ := kk T9.heap (locs ++ L) ls hw2 (fun q hq => by
    rcases List.mem_append.mp hq with h | h
    · exact hL q h
    · exact hL9 q h) hv T9 rfl X9
  refine ⟨t2, go t2 ?_, b1⟩
  have ef : sk_F (p, l, e, R, s, m, args, below, meth, cd, Q, n0, s0) (pc + 3) ls ((ov2.toList ++ st).map (sk_up C)) = { F0 m pc ls (st0.map (sk_up C)) with pc := pc + 3, stack := (ov2.map (sk_up C)).toList ++ st.map (sk_up C) } := by
    cases ov2 <;> rfl
  rw [← ef]
  exact a1
