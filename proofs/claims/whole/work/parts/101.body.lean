noncomputable def fX2_gainOf_L13 (S : sk_S) (d : sk_D) (p0 : Nat) (p1 : Int32) (v1 : Int32) (s1 : Int32 × Int32) : Option ((Int32 × Int32) ⊕ (Int32)) :=
  (sk_gI S d p0 2 1).bind fun v4 => if v4 ≤ s1.2 then ((sk_gR S p0 2 7).bind fun v7 => (sk_lI S d v7 20 p1).bind fun v9 => some (.inr (v9 * s1.1))) else (if ((v1 >>> (s1.2 &&& 31)) &&& (1 : Int32)) = (1 : Int32) then ((sk_gR S p0 2 9).bind fun v13 => (sk_lI S d v13 20 s1.2).bind fun v15 => some (.inl (s1.1 + v15, s1.2 + 1))) else (some (.inl (s1.1, s1.2 + 1))))
noncomputable def fX2_gainOf (S : sk_S) (d : sk_D) (p0 : Nat) (p1 : Int32) (p2 : Int32) : Option (Int32) :=
  if S.2.1 p0 = (2, 0) then ((fX2_needing S d p0 p1 p2).bind fun v1 => (sk_itr (fX2_gainOf_L13 S d p0 p1 v1) ((0 : Int32), (0 : Int32))).bind fun x1 => some x1) else none
set_option maxRecDepth 100000 in
set_option maxHeartbeats 4000000 in
theorem sX2_gainOf (C : sk_C) (l : Launch) {S : sk_S} {d : sk_D} {p0 : Nat} {p1 : Int32} {p2 : Int32} {rr : Int32} (hf : fX2_gainOf S d p0 p1 p2 = some rr) : sk_Met C l 1 yX2_gainOf cX2_gainOf 6 (some .int) [.ref p0, .int p1, .int p2] S d (some (.int rr)) S d := by
  refine sk_Met.of (by decide) (Nat.le_of_ble_eq_true rfl) (Nat.le_refl _) (Nat.le_refl _) (fun X K0 hX => ?_)
  have K : sk_Ok X C cX2_gainOf 6 RX2 "gainOf" (some .int) 1 l (some (.int rr)) S d := K0
  have R1 : X.2.2.2.2.2.2.2.2.2.2.2.1 ≤ S.1.1 ∧ X.2.2.2.2.2.2.2.2.2.2.2.2 ≤ S.1.2 := by rw [hX]; exact ⟨Nat.le_refl _, Nat.le_refl _⟩
  have R2 : S.1.1 ≤ S.1.1 ∧ S.1.2 ≤ S.1.2 := ⟨Nat.le_refl _, Nat.le_refl _⟩
  show sk_G X C 6 S d 0 [(0, .ref p0), (1, .int p1), (2, .int p2)] []
  unfold fX2_gainOf at hf
  refine sk_aload_n K dX2_gainOf_0 rfl 0 rfl ?_
  refine sk_iload_n K dX2_gainOf_1 rfl 1 rfl ?_
  refine sk_iload_n K dX2_gainOf_2 rfl 2 rfl ?_
  obtain ⟨h3, hf⟩ := sk_ib hf
  obtain ⟨v1, e2, hf⟩ := sk_ob hf
  refine sk_callV (As := [.int p1, .int p2]) (st := []) K dX2_gainOf_3 cl_X2_79 h3 (sX2_needing C l e2) (by decide) rfl rfl (Nat.le_of_ble_eq_true rfl) R1 R2 ?_
  refine sk_istore_n [(3, .int v1), (0, .ref p0), (1, .int p1), (2, .int p2)] K dX2_gainOf_6 rfl (by decide) rfl ?_
  refine sk_iconst (0 : Int32) K dX2_gainOf_7 (by decide) ?_
  refine sk_istore [(4, .int (0 : Int32)), (3, .int v1), (0, .ref p0), (1, .int p1), (2, .int p2)] K dX2_gainOf_8 (by decide) rfl ?_
  refine sk_iconst (0 : Int32) K dX2_gainOf_10 (by decide) ?_
  refine sk_istore [(5, .int (0 : Int32)), (4, .int (0 : Int32)), (3, .int v1), (0, .ref p0), (1, .int p1), (2, .int p2)] K dX2_gainOf_11 (by decide) rfl ?_
  obtain ⟨x1, he1, hf⟩ := sk_ob hf
  have hret1 : ∀ r, r = x1 → r = rr := by
    intro r hr
    subst hr
    exact Option.some.inj hf
  refine sk_sub [(0, .ref p0), (1, .int p1), (3, .int v1), (4, .int (0 : Int32)), (5, .int (0 : Int32))] [3, 4, 2, 1, 0] rfl ?_
  refine sk_loop (fun s1 => sk_G X C 6 S d 13 [(0, .ref p0), (1, .int p1), (3, .int v1), (4, .int s1.1), (5, .int s1.2)] []) he1 (fun s1 o1 hf ih1 hx1 => ?_)
  unfold fX2_gainOf_L13 at hf
  refine sk_iload K dX2_gainOf_13 4 rfl ?_
  refine sk_aload_n K dX2_gainOf_15 rfl 0 rfl ?_
  obtain ⟨v4, e5, hf⟩ := sk_ob hf
  refine sk_getI K dX2_gainOf_16 fl_X2_15 rfl e5 ?_
  refine sk_icmp_ge 50 K dX2_gainOf_19 (by decide) (fun h6 => ?_) (fun h6 => ?_)
  · rw [if_pos h6] at hf
    refine sk_aload_n K dX2_gainOf_50 rfl 0 rfl ?_
    obtain ⟨v7, e8, hf⟩ := sk_ob hf
    refine sk_getR K dX2_gainOf_51 fl_X2_34 rfl e8 ?_
    refine sk_iload_n K dX2_gainOf_54 rfl 1 rfl ?_
    obtain ⟨v9, e10, hf⟩ := sk_ob hf
    refine sk_ald20 K dX2_gainOf_55 e10 ?_
    refine sk_iload K dX2_gainOf_56 3 rfl ?_
    refine sk_imul K dX2_gainOf_58 ?_
    have hR11 : (v9 * s1.1) = rr := hret1 _ (hx1 _ (Option.some.inj hf).symm)
    exact sk_iret K dX2_gainOf_59 rfl rfl hR11 rfl rfl
  · rw [if_neg h6] at hf
    refine sk_iload_n K dX2_gainOf_22 rfl 2 rfl ?_
    refine sk_iload K dX2_gainOf_23 4 rfl ?_
    refine sk_ishr K dX2_gainOf_25 ?_
    refine sk_iconst (1 : Int32) K dX2_gainOf_26 (by decide) ?_
    refine sk_iand K dX2_gainOf_27 ?_
    refine sk_iconst (1 : Int32) K dX2_gainOf_28 (by decide) ?_
    refine sk_icmp_ne 44 K dX2_gainOf_29 (by decide) (fun h12 => ?_) (fun h12 => ?_)
    · rw [if_neg h12] at hf
      refine sk_iinc (s1.2 + 1) [(5, .int (s1.2 + 1)), (0, .ref p0), (1, .int p1), (3, .int v1), (4, .int s1.1)] K dX2_gainOf_44 4 rfl rfl (by decide) rfl ?_
      refine sk_goto 13 K dX2_gainOf_47 (by decide) ?_
      refine sk_sub [(0, .ref p0), (1, .int p1), (3, .int v1), (4, .int s1.1), (5, .int (s1.2 + 1))] [1, 2, 3, 4, 0] rfl ?_
      have h9 := ih1 _ (Option.some.inj hf).symm
      exact h9
    · rw [if_pos h12] at hf
      refine sk_iload K dX2_gainOf_32 3 rfl ?_
      refine sk_aload_n K dX2_gainOf_34 rfl 0 rfl ?_
      obtain ⟨v13, e14, hf⟩ := sk_ob hf
      refine sk_getR K dX2_gainOf_35 fl_X2_40 rfl e14 ?_
      refine sk_iload K dX2_gainOf_38 4 rfl ?_
      obtain ⟨v15, e16, hf⟩ := sk_ob hf
      refine sk_ald20 K dX2_gainOf_40 e16 ?_
      refine sk_iadd K dX2_gainOf_41 ?_
      refine sk_istore [(4, .int (s1.1 + v15)), (0, .ref p0), (1, .int p1), (3, .int v1), (5, .int s1.2)] K dX2_gainOf_42 (by decide) rfl ?_
      refine sk_iinc (s1.2 + 1) [(5, .int (s1.2 + 1)), (4, .int (s1.1 + v15)), (0, .ref p0), (1, .int p1), (3, .int v1)] K dX2_gainOf_44 4 rfl rfl (by decide) rfl ?_
      refine sk_goto 13 K dX2_gainOf_47 (by decide) ?_
      refine sk_sub [(0, .ref p0), (1, .int p1), (3, .int v1), (4, .int (s1.1 + v15)), (5, .int (s1.2 + 1))] [2, 3, 4, 1, 0] rfl ?_
      have h9 := ih1 _ (Option.some.inj hf).symm
      exact h9
noncomputable def fX2_gainsOf_L5 (S : sk_S) (d : sk_D) (p0 : Nat) (p1 : Int32) (p2 : Int32) (s1 : Int32 × Int32) : Option ((Int32 × Int32) ⊕ (Int32)) :=
  (sk_gI S d p0 2 1).bind fun v1 => if v1 ≤ s1.2 then (some (.inr s1.1)) else (if ((p1 >>> (s1.2 &&& 31)) &&& (1 : Int32)) = (1 : Int32) then (if S.2.1 p0 = (2, 0) then ((fX2_gainOf S d p0 s1.2 p2).bind fun v6 => some (.inl (s1.1 + v6, s1.2 + 1))) else none) else (some (.inl (s1.1, s1.2 + 1))))
noncomputable def fX2_gainsOf (S : sk_S) (d : sk_D) (p0 : Nat) (p1 : Int32) (p2 : Int32) : Option (Int32) :=
  (sk_itr (fX2_gainsOf_L5 S d p0 p1 p2) ((0 : Int32), (0 : Int32))).bind fun x1 => some x1
set_option maxRecDepth 100000 in
set_option maxHeartbeats 4000000 in
theorem sX2_gainsOf (C : sk_C) (l : Launch) {S : sk_S} {d : sk_D} {p0 : Nat} {p1 : Int32} {p2 : Int32} {rr : Int32} (hf : fX2_gainsOf S d p0 p1 p2 = some rr) : sk_Met C l 2 yX2_gainsOf cX2_gainsOf 5 (some .int) [.ref p0, .int p1, .int p2] S d (some (.int rr)) S d := by
  refine sk_Met.of (by decide) (Nat.le_of_ble_eq_true rfl) (Nat.le_refl _) (Nat.le_refl _) (fun X K0 hX => ?_)
  have K : sk_Ok X C cX2_gainsOf 5 RX2 "gainsOf" (some .int) 2 l (some (.int rr)) S d := K0
  have R1 : X.2.2.2.2.2.2.2.2.2.2.2.1 ≤ S.1.1 ∧ X.2.2.2.2.2.2.2.2.2.2.2.2 ≤ S.1.2 := by rw [hX]; exact ⟨Nat.le_refl _, Nat.le_refl _⟩
  have R2 : S.1.1 ≤ S.1.1 ∧ S.1.2 ≤ S.1.2 := ⟨Nat.le_refl _, Nat.le_refl _⟩
  show sk_G X C 5 S d 0 [(0, .ref p0), (1, .int p1), (2, .int p2)] []
  unfold fX2_gainsOf at hf
  refine sk_iconst (0 : Int32) K dX2_gainsOf_0 (by decide) ?_
  refine sk_istore_n [(3, .int (0 : Int32)), (0, .ref p0), (1, .int p1), (2, .int p2)] K dX2_gainsOf_1 rfl (by decide) rfl ?_
  refine sk_iconst (0 : Int32) K dX2_gainsOf_2 (by decide) ?_
  refine sk_istore [(4, .int (0 : Int32)), (3, .int (0 : Int32)), (0, .ref p0), (1, .int p1), (2, .int p2)] K dX2_gainsOf_3 (by decide) rfl ?_
  obtain ⟨x1, he1, hf⟩ := sk_ob hf
  have hret1 : ∀ r, r = x1 → r = rr := by
    intro r hr
    subst hr
    exact Option.some.inj hf
  refine sk_sub [(0, .ref p0), (1, .int p1), (2, .int p2), (3, .int (0 : Int32)), (4, .int (0 : Int32))] [2, 3, 4, 1, 0] rfl ?_
  refine sk_loop (fun s1 => sk_G X C 5 S d 5 [(0, .ref p0), (1, .int p1), (2, .int p2), (3, .int s1.1), (4, .int s1.2)] []) he1 (fun s1 o1 hf ih1 hx1 => ?_)
  unfold fX2_gainsOf_L5 at hf
  refine sk_iload K dX2_gainsOf_5 4 rfl ?_
  refine sk_aload_n K dX2_gainsOf_7 rfl 0 rfl ?_
  obtain ⟨v1, e2, hf⟩ := sk_ob hf
  refine sk_getI K dX2_gainsOf_8 fl_X2_15 rfl e2 ?_
  refine sk_icmp_ge 40 K dX2_gainsOf_11 (by decide) (fun h3 => ?_) (fun h3 => ?_)
  · rw [if_pos h3] at hf
    refine sk_iload_n K dX2_gainsOf_40 rfl 3 rfl ?_
    have hR4 : s1.1 = rr := hret1 _ (hx1 _ (Option.some.inj hf).symm)
    exact sk_iret K dX2_gainsOf_41 rfl rfl hR4 rfl rfl
  · rw [if_neg h3] at hf
    refine sk_iload_n K dX2_gainsOf_14 rfl 1 rfl ?_
    refine sk_iload K dX2_gainsOf_15 4 rfl ?_
    refine sk_ishr K dX2_gainsOf_17 ?_
    refine sk_iconst (1 : Int32) K dX2_gainsOf_18 (by decide) ?_
    refine sk_iand K dX2_gainsOf_19 ?_
    refine sk_iconst (1 : Int32) K dX2_gainsOf_20 (by decide) ?_
    refine sk_icmp_ne 34 K dX2_gainsOf_21 (by decide) (fun h5 => ?_) (fun h5 => ?_)
    · rw [if_neg h5] at hf
      refine sk_iinc (s1.2 + 1) [(4, .int (s1.2 + 1)), (0, .ref p0), (1, .int p1), (2, .int p2), (3, .int s1.1)] K dX2_gainsOf_34 4 rfl rfl (by decide) rfl ?_
      refine sk_goto 5 K dX2_gainsOf_37 (by decide) ?_
      refine sk_sub [(0, .ref p0), (1, .int p1), (2, .int p2), (3, .int s1.1), (4, .int (s1.2 + 1))] [1, 2, 3, 4, 0] rfl ?_
      have h9 := ih1 _ (Option.some.inj hf).symm
      exact h9
    · rw [if_pos h5] at hf
      refine sk_iload_n K dX2_gainsOf_24 rfl 3 rfl ?_
      refine sk_aload_n K dX2_gainsOf_25 rfl 0 rfl ?_
      refine sk_iload K dX2_gainsOf_26 4 rfl ?_
      refine sk_iload_n K dX2_gainsOf_28 rfl 2 rfl ?_
      obtain ⟨h8, hf⟩ := sk_ib hf
      obtain ⟨v6, e7, hf⟩ := sk_ob hf
      refine sk_callV (As := [.int s1.2, .int p2]) (st := [.int s1.1]) K dX2_gainsOf_29 cl_X2_83 h8 (sX2_gainOf C l e7) (by decide) rfl rfl (Nat.le_of_ble_eq_true rfl) R1 R2 ?_
      refine sk_iadd K dX2_gainsOf_32 ?_
      refine sk_istore_n [(3, .int (s1.1 + v6)), (0, .ref p0), (1, .int p1), (2, .int p2), (4, .int s1.2)] K dX2_gainsOf_33 rfl (by decide) rfl ?_
      refine sk_iinc (s1.2 + 1) [(4, .int (s1.2 + 1)), (3, .int (s1.1 + v6)), (0, .ref p0), (1, .int p1), (2, .int p2)] K dX2_gainsOf_34 4 rfl rfl (by decide) rfl ?_
      refine sk_goto 5 K dX2_gainsOf_37 (by decide) ?_
      refine sk_sub [(0, .ref p0), (1, .int p1), (2, .int p2), (3, .int (s1.1 + v6)), (4, .int (s1.2 + 1))] [2, 3, 4, 1, 0] rfl ?_
      have h9 := ih1 _ (Option.some.inj hf).symm
      exact h9
noncomputable def fX2_bestPacked_L7 (S : sk_S) (d : sk_D) (p0 : Nat) (p1 : Int32) (s1 : Int32 × Int32 × Int32) : Option ((Int32 × Int32 × Int32) ⊕ (Int32)) :=
  if (256 : Int32) ≤ s1.2.2 then (some (.inr s1.1)) else (if (s1.2.2 &&& (p1 ^^^ (-1 : Int32))) = 0 then (if S.2.1 p0 = (2, 0) then ((fX2_roomLeft S d p0 s1.2.2).bind fun v4 => if v4 < 0 then (some (.inl (s1.1, s1.2.1, s1.2.2 + 1))) else (if S.2.1 p0 = (2, 0) then ((fX2_gainsOf S d p0 s1.2.2 p1).bind fun v8 => if v8 ≤ s1.2.1 then (some (.inl (s1.1, s1.2.1, s1.2.2 + 1))) else (some (.inl (s1.2.2, v8, s1.2.2 + 1)))) else none)) else none) else (some (.inl (s1.1, s1.2.1, s1.2.2 + 1))))
noncomputable def fX2_bestPacked (S : sk_S) (d : sk_D) (p0 : Nat) (p1 : Int32) : Option (Int32) :=
  (sk_itr (fX2_bestPacked_L7 S d p0 p1) ((0 : Int32), (0 : Int32), (1 : Int32))).bind fun x1 => some x1
set_option maxRecDepth 100000 in
set_option maxHeartbeats 4000000 in
theorem sX2_bestPacked (C : sk_C) (l : Launch) {S : sk_S} {d : sk_D} {p0 : Nat} {p1 : Int32} {rr : Int32} (hf : fX2_bestPacked S d p0 p1 = some rr) : sk_Met C l 3 yX2_bestPacked cX2_bestPacked 6 (some .int) [.ref p0, .int p1] S d (some (.int rr)) S d := by
  refine sk_Met.of (by decide) (Nat.le_of_ble_eq_true rfl) (Nat.le_refl _) (Nat.le_refl _) (fun X K0 hX => ?_)
  have K : sk_Ok X C cX2_bestPacked 6 RX2 "bestPacked" (some .int) 3 l (some (.int rr)) S d := K0
  have R1 : X.2.2.2.2.2.2.2.2.2.2.2.1 ≤ S.1.1 ∧ X.2.2.2.2.2.2.2.2.2.2.2.2 ≤ S.1.2 := by rw [hX]; exact ⟨Nat.le_refl _, Nat.le_refl _⟩
  have R2 : S.1.1 ≤ S.1.1 ∧ S.1.2 ≤ S.1.2 := ⟨Nat.le_refl _, Nat.le_refl _⟩
  show sk_G X C 6 S d 0 [(0, .ref p0), (1, .int p1)] []
  unfold fX2_bestPacked at hf
  refine sk_iconst (0 : Int32) K dX2_bestPacked_0 (by decide) ?_
  refine sk_istore_n [(2, .int (0 : Int32)), (0, .ref p0), (1, .int p1)] K dX2_bestPacked_1 rfl (by decide) rfl ?_
  refine sk_iconst (0 : Int32) K dX2_bestPacked_2 (by decide) ?_
  refine sk_istore_n [(3, .int (0 : Int32)), (2, .int (0 : Int32)), (0, .ref p0), (1, .int p1)] K dX2_bestPacked_3 rfl (by decide) rfl ?_
  refine sk_iconst (1 : Int32) K dX2_bestPacked_4 (by decide) ?_
  refine sk_istore [(4, .int (1 : Int32)), (3, .int (0 : Int32)), (2, .int (0 : Int32)), (0, .ref p0), (1, .int p1)] K dX2_bestPacked_5 (by decide) rfl ?_
  obtain ⟨x1, he1, hf⟩ := sk_ob hf
  have hret1 : ∀ r, r = x1 → r = rr := by
    intro r hr
    subst hr
    exact Option.some.inj hf
  refine sk_sub [(0, .ref p0), (1, .int p1), (2, .int (0 : Int32)), (3, .int (0 : Int32)), (4, .int (1 : Int32))] [3, 4, 2, 1, 0] rfl ?_
  refine sk_loop (fun s1 => sk_G X C 6 S d 7 [(0, .ref p0), (1, .int p1), (2, .int s1.1), (3, .int s1.2.1), (4, .int s1.2.2)] []) he1 (fun s1 o1 hf ih1 hx1 => ?_)
  unfold fX2_bestPacked_L7 at hf
  refine sk_iload K dX2_bestPacked_7 4 rfl ?_
  refine sk_sipush (256 : Int32) K dX2_bestPacked_9 (by decide) ?_
  refine sk_icmp_ge 60 K dX2_bestPacked_12 (by decide) (fun h1 => ?_) (fun h1 => ?_)
  · rw [if_pos h1] at hf
    refine sk_iload_n K dX2_bestPacked_60 rfl 2 rfl ?_
    have hR2 : s1.1 = rr := hret1 _ (hx1 _ (Option.some.inj hf).symm)
    exact sk_iret K dX2_bestPacked_61 rfl rfl hR2 rfl rfl
  · rw [if_neg h1] at hf
    refine sk_iload K dX2_bestPacked_15 4 rfl ?_
    refine sk_iload_n K dX2_bestPacked_17 rfl 1 rfl ?_
    refine sk_iconst (-1 : Int32) K dX2_bestPacked_18 (by decide) ?_
    refine sk_ixor K dX2_bestPacked_19 ?_
    refine sk_iand K dX2_bestPacked_20 ?_
    refine sk_if_ne 54 K dX2_bestPacked_21 (by decide) (fun h3 => ?_) (fun h3 => ?_)
    · rw [if_neg h3] at hf
      refine sk_iinc (s1.2.2 + 1) [(4, .int (s1.2.2 + 1)), (0, .ref p0), (1, .int p1), (2, .int s1.1), (3, .int s1.2.1)] K dX2_bestPacked_54 4 rfl rfl (by decide) rfl ?_
      refine sk_goto 7 K dX2_bestPacked_57 (by decide) ?_
      refine sk_sub [(0, .ref p0), (1, .int p1), (2, .int s1.1), (3, .int s1.2.1), (4, .int (s1.2.2 + 1))] [1, 2, 3, 4, 0] rfl ?_
      have h9 := ih1 _ (Option.some.inj hf).symm
      exact h9
    · rw [if_pos h3] at hf
      refine sk_aload_n K dX2_bestPacked_24 rfl 0 rfl ?_
      refine sk_iload K dX2_bestPacked_25 4 rfl ?_
      obtain ⟨h6, hf⟩ := sk_ib hf
      obtain ⟨v4, e5, hf⟩ := sk_ob hf
      refine sk_callV (As := [.int s1.2.2]) (st := []) K dX2_bestPacked_27 cl_X2_86 h6 (sX2_roomLeft C l e5) (by decide) rfl rfl (Nat.le_of_ble_eq_true rfl) R1 R2 ?_
      refine sk_if_lt 54 K dX2_bestPacked_30 (by decide) (fun h7 => ?_) (fun h7 => ?_)
      · rw [if_pos h7] at hf
        refine sk_iinc (s1.2.2 + 1) [(4, .int (s1.2.2 + 1)), (0, .ref p0), (1, .int p1), (2, .int s1.1), (3, .int s1.2.1)] K dX2_bestPacked_54 4 rfl rfl (by decide) rfl ?_
        refine sk_goto 7 K dX2_bestPacked_57 (by decide) ?_
        refine sk_sub [(0, .ref p0), (1, .int p1), (2, .int s1.1), (3, .int s1.2.1), (4, .int (s1.2.2 + 1))] [1, 2, 3, 4, 0] rfl ?_
        have h9 := ih1 _ (Option.some.inj hf).symm
        exact h9
      · rw [if_neg h7] at hf
        refine sk_aload_n K dX2_bestPacked_33 rfl 0 rfl ?_
        refine sk_iload K dX2_bestPacked_34 4 rfl ?_
        refine sk_iload_n K dX2_bestPacked_36 rfl 1 rfl ?_
        obtain ⟨h10, hf⟩ := sk_ib hf
        obtain ⟨v8, e9, hf⟩ := sk_ob hf
        refine sk_callV (As := [.int s1.2.2, .int p1]) (st := []) K dX2_bestPacked_37 cl_X2_90 h10 (sX2_gainsOf C l e9) (by decide) rfl rfl (Nat.le_of_ble_eq_true rfl) R1 R2 ?_
        refine sk_istore [(5, .int v8), (0, .ref p0), (1, .int p1), (2, .int s1.1), (3, .int s1.2.1), (4, .int s1.2.2)] K dX2_bestPacked_40 (by decide) rfl ?_
        refine sk_iload K dX2_bestPacked_42 0 rfl ?_
        refine sk_iload_n K dX2_bestPacked_44 rfl 4 rfl ?_
        refine sk_icmp_le 54 K dX2_bestPacked_45 (by decide) (fun h11 => ?_) (fun h11 => ?_)
        · rw [if_pos h11] at hf
          refine sk_iinc (s1.2.2 + 1) [(4, .int (s1.2.2 + 1)), (5, .int v8), (0, .ref p0), (1, .int p1), (2, .int s1.1), (3, .int s1.2.1)] K dX2_bestPacked_54 5 rfl rfl (by decide) rfl ?_
          refine sk_goto 7 K dX2_bestPacked_57 (by decide) ?_
          refine sk_sub [(0, .ref p0), (1, .int p1), (2, .int s1.1), (3, .int s1.2.1), (4, .int (s1.2.2 + 1))] [2, 3, 4, 5, 0] rfl ?_
          have h9 := ih1 _ (Option.some.inj hf).symm
          exact h9
        · rw [if_neg h11] at hf
          refine sk_iload K dX2_bestPacked_48 0 rfl ?_
          refine sk_istore_n [(3, .int v8), (5, .int v8), (0, .ref p0), (1, .int p1), (2, .int s1.1), (4, .int s1.2.2)] K dX2_bestPacked_50 rfl (by decide) rfl ?_
          refine sk_iload K dX2_bestPacked_51 5 rfl ?_
          refine sk_istore_n [(2, .int s1.2.2), (3, .int v8), (5, .int v8), (0, .ref p0), (1, .int p1), (4, .int s1.2.2)] K dX2_bestPacked_53 rfl (by decide) rfl ?_
          refine sk_iinc (s1.2.2 + 1) [(4, .int (s1.2.2 + 1)), (2, .int s1.2.2), (3, .int v8), (5, .int v8), (0, .ref p0), (1, .int p1)] K dX2_bestPacked_54 5 rfl rfl (by decide) rfl ?_
          refine sk_goto 7 K dX2_bestPacked_57 (by decide) ?_
          refine sk_sub [(0, .ref p0), (1, .int p1), (2, .int s1.2.2), (3, .int v8), (4, .int (s1.2.2 + 1))] [4, 5, 1, 2, 0] rfl ?_
          have h9 := ih1 _ (Option.some.inj hf).symm
          exact h9
noncomputable def fX2_doorOf_L64 (S : sk_S) (d : sk_D) (p0 : Nat) (p1 : Int32) (s2 : Int32 × Int32) : Option ((Int32 × Int32) ⊕ (Int32)) :=
  (sk_gI S d p0 2 2).bind fun v2 => if v2 ≤ s2.2 then (some (.inr (-1 : Int32))) else ((sk_gR S p0 2 6).bind fun v6 => (sk_lI S d v6 20 p1).bind fun v8 => (sk_gR S p0 2 12).bind fun v10 => (sk_lI S d v10 20 s2.2).bind fun v12 => if (v8 + v12) = (9 : Int32) then (if s2.1 = 0 then (some (.inr s2.2)) else (some (.inl (s2.1 - 1, s2.2 + 1)))) else (some (.inl (s2.1, s2.2 + 1))))
noncomputable def fX2_doorOf_L15 (S : sk_S) (d : sk_D) (p0 : Nat) (p1 : Int32) (p2 : Int32) (s1 : Int32 × Int32) : Option ((Int32 × Int32) ⊕ (Int32)) :=
  if p1 ≤ s1.2 then (some (.inr s1.1)) else (if ((p2 >>> (s1.2 &&& 31)) &&& (1 : Int32)) = (1 : Int32) then ((sk_gR S p0 2 6).bind fun v19 => (sk_lI S d v19 20 s1.2).bind fun v21 => (sk_gR S p0 2 6).bind fun v23 => (sk_lI S d v23 20 p1).bind fun v25 => if v21 = v25 then (some (.inl (s1.1 + (1 : Int32), s1.2 + 1))) else (some (.inl (s1.1 + (0 : Int32), s1.2 + 1)))) else (some (.inl (s1.1 + (0 : Int32), s1.2 + 1))))
noncomputable def fX2_doorOf (S : sk_S) (d : sk_D) (p0 : Nat) (p1 : Int32) (p2 : Int32) : Option (Int32) :=
  if ((p2 >>> (p1 &&& 31)) &&& (1 : Int32)) = 0 then (some (-1 : Int32)) else ((sk_itr (fX2_doorOf_L15 S d p0 p1 p2) ((0 : Int32), (0 : Int32))).bind fun y1 => (sk_itr (fX2_doorOf_L64 S d p0 p1) (y1, (0 : Int32))).bind fun x2 => some x2)
set_option maxRecDepth 100000 in
set_option maxHeartbeats 4000000 in
theorem sX2_doorOf (C : sk_C) (l : Launch) {S : sk_S} {d : sk_D} {p0 : Nat} {p1 : Int32} {p2 : Int32} {rr : Int32} (hf : fX2_doorOf S d p0 p1 p2 = some rr) : sk_Met C l 0 yX2_doorOf cX2_doorOf 5 (some .int) [.ref p0, .int p1, .int p2] S d (some (.int rr)) S d := by
  refine sk_Met.of (by decide) (Nat.le_of_ble_eq_true rfl) (Nat.le_refl _) (Nat.le_refl _) (fun X K0 hX => ?_)
  have K : sk_Ok X C cX2_doorOf 5 RX2 "doorOf" (some .int) 0 l (some (.int rr)) S d := K0
  have R1 : X.2.2.2.2.2.2.2.2.2.2.2.1 ≤ S.1.1 ∧ X.2.2.2.2.2.2.2.2.2.2.2.2 ≤ S.1.2 := by rw [hX]; exact ⟨Nat.le_refl _, Nat.le_refl _⟩
  have R2 : S.1.1 ≤ S.1.1 ∧ S.1.2 ≤ S.1.2 := ⟨Nat.le_refl _, Nat.le_refl _⟩
  show sk_G X C 5 S d 0 [(0, .ref p0), (1, .int p1), (2, .int p2)] []
  unfold fX2_doorOf at hf
  refine sk_iload_n K dX2_doorOf_0 rfl 2 rfl ?_
  refine sk_iload_n K dX2_doorOf_1 rfl 1 rfl ?_
  refine sk_ishr K dX2_doorOf_2 ?_
  refine sk_iconst (1 : Int32) K dX2_doorOf_3 (by decide) ?_
  refine sk_iand K dX2_doorOf_4 ?_
  refine sk_if_ne 10 K dX2_doorOf_5 (by decide) (fun h1 => ?_) (fun h1 => ?_)
  · rw [if_neg h1] at hf
    refine sk_iconst (0 : Int32) K dX2_doorOf_10 (by decide) ?_
    refine sk_istore_n [(3, .int (0 : Int32)), (0, .ref p0), (1, .int p1), (2, .int p2)] K dX2_doorOf_11 rfl (by decide) rfl ?_
    refine sk_iconst (0 : Int32) K dX2_doorOf_12 (by decide) ?_
    refine sk_istore [(4, .int (0 : Int32)), (3, .int (0 : Int32)), (0, .ref p0), (1, .int p1), (2, .int p2)] K dX2_doorOf_13 (by decide) rfl ?_
    obtain ⟨x1, he1, hf⟩ := sk_ob hf
    have rest1 : ∀ y1, y1 = x1 → sk_G X C 5 S d 61 [(0, .ref p0), (1, .int p1), (3, .int y1)] [] := by
      intro y1 hy
      subst hy
      refine sk_iconst (0 : Int32) K dX2_doorOf_61 (by decide) ?_
      refine sk_istore [(4, .int (0 : Int32)), (0, .ref p0), (1, .int p1), (3, .int y1)] K dX2_doorOf_62 (by decide) rfl ?_
      obtain ⟨x2, he2, hf⟩ := sk_ob hf
      have hret2 : ∀ r, r = x2 → r = rr := by
        intro r hr
        subst hr
        exact Option.some.inj hf
      refine sk_sub [(0, .ref p0), (1, .int p1), (3, .int y1), (4, .int (0 : Int32))] [1, 2, 3, 0] rfl ?_
      refine sk_loop (fun s2 => sk_G X C 5 S d 64 [(0, .ref p0), (1, .int p1), (3, .int s2.1), (4, .int s2.2)] []) he2 (fun s2 o2 hf ih2 hx2 => ?_)
      unfold fX2_doorOf_L64 at hf
      refine sk_iload K dX2_doorOf_64 3 rfl ?_
      refine sk_aload_n K dX2_doorOf_66 rfl 0 rfl ?_
      obtain ⟨v2, e3, hf⟩ := sk_ob hf
      refine sk_getI K dX2_doorOf_67 fl_X2_18 rfl e3 ?_
      refine sk_icmp_ge 108 K dX2_doorOf_70 (by decide) (fun h4 => ?_) (fun h4 => ?_)
      · rw [if_pos h4] at hf
        refine sk_iconst (-1 : Int32) K dX2_doorOf_108 (by decide) ?_
        have hR5 : (-1 : Int32) = rr := hret2 _ (hx2 _ (Option.some.inj hf).symm)
        exact sk_iret K dX2_doorOf_109 rfl rfl hR5 rfl rfl
      · rw [if_neg h4] at hf
        refine sk_aload_n K dX2_doorOf_73 rfl 0 rfl ?_
        obtain ⟨v6, e7, hf⟩ := sk_ob hf
        refine sk_getR K dX2_doorOf_74 fl_X2_31 rfl e7 ?_
        refine sk_iload_n K dX2_doorOf_77 rfl 1 rfl ?_
        obtain ⟨v8, e9, hf⟩ := sk_ob hf
        refine sk_ald20 K dX2_doorOf_78 e9 ?_
        refine sk_aload_n K dX2_doorOf_79 rfl 0 rfl ?_
        obtain ⟨v10, e11, hf⟩ := sk_ob hf
        refine sk_getR K dX2_doorOf_80 fl_X2_49 rfl e11 ?_
        refine sk_iload K dX2_doorOf_83 3 rfl ?_
        obtain ⟨v12, e13, hf⟩ := sk_ob hf
        refine sk_ald20 K dX2_doorOf_85 e13 ?_
        refine sk_iadd K dX2_doorOf_86 ?_
        refine sk_bipush (9 : Int32) K dX2_doorOf_87 (by decide) ?_
        refine sk_icmp_ne 102 K dX2_doorOf_89 (by decide) (fun h14 => ?_) (fun h14 => ?_)
        · rw [if_neg h14] at hf
          refine sk_iinc (s2.2 + 1) [(4, .int (s2.2 + 1)), (0, .ref p0), (1, .int p1), (3, .int s2.1)] K dX2_doorOf_102 3 rfl rfl (by decide) rfl ?_
          refine sk_goto 64 K dX2_doorOf_105 (by decide) ?_
          refine sk_sub [(0, .ref p0), (1, .int p1), (3, .int s2.1), (4, .int (s2.2 + 1))] [1, 2, 3, 0] rfl ?_
          have h9 := ih2 _ (Option.some.inj hf).symm
          exact h9
        · rw [if_pos h14] at hf
          refine sk_iload_n K dX2_doorOf_92 rfl 2 rfl ?_
          refine sk_if_ne 99 K dX2_doorOf_93 (by decide) (fun h15 => ?_) (fun h15 => ?_)
          · rw [if_neg h15] at hf
            refine sk_iinc (s2.1 - 1) [(3, .int (s2.1 - 1)), (0, .ref p0), (1, .int p1), (4, .int s2.2)] K dX2_doorOf_99 2 rfl (sk_dec1 _) (by decide) rfl ?_
            refine sk_iinc (s2.2 + 1) [(4, .int (s2.2 + 1)), (3, .int (s2.1 - 1)), (0, .ref p0), (1, .int p1)] K dX2_doorOf_102 3 rfl rfl (by decide) rfl ?_
            refine sk_goto 64 K dX2_doorOf_105 (by decide) ?_
            refine sk_sub [(0, .ref p0), (1, .int p1), (3, .int (s2.1 - 1)), (4, .int (s2.2 + 1))] [2, 3, 1, 0] rfl ?_
            have h9 := ih2 _ (Option.some.inj hf).symm
            exact h9
          · rw [if_pos h15] at hf
            refine sk_iload K dX2_doorOf_96 3 rfl ?_
            have hR16 : s2.2 = rr := hret2 _ (hx2 _ (Option.some.inj hf).symm)
            exact sk_iret K dX2_doorOf_98 rfl rfl hR16 rfl rfl
    refine sk_sub [(0, .ref p0), (1, .int p1), (2, .int p2), (3, .int (0 : Int32)), (4, .int (0 : Int32))] [2, 3, 4, 1, 0] rfl ?_
    refine sk_loop (fun s1 => sk_G X C 5 S d 15 [(0, .ref p0), (1, .int p1), (2, .int p2), (3, .int s1.1), (4, .int s1.2)] []) he1 (fun s1 o1 hf ih1 hx1 => ?_)
    unfold fX2_doorOf_L15 at hf
    refine sk_iload K dX2_doorOf_15 4 rfl ?_
    refine sk_iload_n K dX2_doorOf_17 rfl 1 rfl ?_
    refine sk_icmp_ge 61 K dX2_doorOf_18 (by decide) (fun h17 => ?_) (fun h17 => ?_)
    · rw [if_pos h17] at hf
      refine sk_sub [(0, .ref p0), (1, .int p1), (3, .int s1.1)] [0, 1, 3] rfl ?_
      have h9 := rest1 _ (hx1 _ (Option.some.inj hf).symm)
      exact h9
    · rw [if_neg h17] at hf
      refine sk_iload_n K dX2_doorOf_21 rfl 3 rfl ?_
      refine sk_iload_n K dX2_doorOf_22 rfl 2 rfl ?_
      refine sk_iload K dX2_doorOf_23 4 rfl ?_
      refine sk_ishr K dX2_doorOf_25 ?_
      refine sk_iconst (1 : Int32) K dX2_doorOf_26 (by decide) ?_
      refine sk_iand K dX2_doorOf_27 ?_
      refine sk_iconst (1 : Int32) K dX2_doorOf_28 (by decide) ?_
      refine sk_icmp_ne 52 K dX2_doorOf_29 (by decide) (fun h18 => ?_) (fun h18 => ?_)
      · rw [if_neg h18] at hf
        refine sk_iconst (0 : Int32) K dX2_doorOf_52 (by decide) ?_
        refine sk_iadd K dX2_doorOf_53 ?_
        refine sk_istore_n [(3, .int (s1.1 + (0 : Int32))), (0, .ref p0), (1, .int p1), (2, .int p2), (4, .int s1.2)] K dX2_doorOf_54 rfl (by decide) rfl ?_
        refine sk_iinc (s1.2 + 1) [(4, .int (s1.2 + 1)), (3, .int (s1.1 + (0 : Int32))), (0, .ref p0), (1, .int p1), (2, .int p2)] K dX2_doorOf_55 4 rfl rfl (by decide) rfl ?_
        refine sk_goto 15 K dX2_doorOf_58 (by decide) ?_
        refine sk_sub [(0, .ref p0), (1, .int p1), (2, .int p2), (3, .int (s1.1 + (0 : Int32))), (4, .int (s1.2 + 1))] [2, 3, 4, 1, 0] rfl ?_
        have h9 := ih1 _ (Option.some.inj hf).symm
        exact h9
      · rw [if_pos h18] at hf
        refine sk_aload_n K dX2_doorOf_32 rfl 0 rfl ?_
        obtain ⟨v19, e20, hf⟩ := sk_ob hf
        refine sk_getR K dX2_doorOf_33 fl_X2_31 rfl e20 ?_
        refine sk_iload K dX2_doorOf_36 4 rfl ?_
        obtain ⟨v21, e22, hf⟩ := sk_ob hf
        refine sk_ald20 K dX2_doorOf_38 e22 ?_
        refine sk_aload_n K dX2_doorOf_39 rfl 0 rfl ?_
        obtain ⟨v23, e24, hf⟩ := sk_ob hf
        refine sk_getR K dX2_doorOf_40 fl_X2_31 rfl e24 ?_
        refine sk_iload_n K dX2_doorOf_43 rfl 1 rfl ?_
        obtain ⟨v25, e26, hf⟩ := sk_ob hf
        refine sk_ald20 K dX2_doorOf_44 e26 ?_
        refine sk_icmp_ne 52 K dX2_doorOf_45 (by decide) (fun h27 => ?_) (fun h27 => ?_)
        · rw [if_neg h27] at hf
          refine sk_iconst (0 : Int32) K dX2_doorOf_52 (by decide) ?_
          refine sk_iadd K dX2_doorOf_53 ?_
          refine sk_istore_n [(3, .int (s1.1 + (0 : Int32))), (0, .ref p0), (1, .int p1), (2, .int p2), (4, .int s1.2)] K dX2_doorOf_54 rfl (by decide) rfl ?_
          refine sk_iinc (s1.2 + 1) [(4, .int (s1.2 + 1)), (3, .int (s1.1 + (0 : Int32))), (0, .ref p0), (1, .int p1), (2, .int p2)] K dX2_doorOf_55 4 rfl rfl (by decide) rfl ?_
          refine sk_goto 15 K dX2_doorOf_58 (by decide) ?_
          refine sk_sub [(0, .ref p0), (1, .int p1), (2, .int p2), (3, .int (s1.1 + (0 : Int32))), (4, .int (s1.2 + 1))] [2, 3, 4, 1, 0] rfl ?_
          have h9 := ih1 _ (Option.some.inj hf).symm
          exact h9
        · rw [if_pos h27] at hf
          refine sk_iconst (1 : Int32) K dX2_doorOf_48 (by decide) ?_
          refine sk_goto 53 K dX2_doorOf_49 (by decide) ?_
          refine sk_iadd K dX2_doorOf_53 ?_
          refine sk_istore_n [(3, .int (s1.1 + (1 : Int32))), (0, .ref p0), (1, .int p1), (2, .int p2), (4, .int s1.2)] K dX2_doorOf_54 rfl (by decide) rfl ?_
          refine sk_iinc (s1.2 + 1) [(4, .int (s1.2 + 1)), (3, .int (s1.1 + (1 : Int32))), (0, .ref p0), (1, .int p1), (2, .int p2)] K dX2_doorOf_55 4 rfl rfl (by decide) rfl ?_
          refine sk_goto 15 K dX2_doorOf_58 (by decide) ?_
          refine sk_sub [(0, .ref p0), (1, .int p1), (2, .int p2), (3, .int (s1.1 + (1 : Int32))), (4, .int (s1.2 + 1))] [2, 3, 4, 1, 0] rfl ?_
          have h9 := ih1 _ (Option.some.inj hf).symm
          exact h9
  · rw [if_pos h1] at hf
    refine sk_iconst (-1 : Int32) K dX2_doorOf_8 (by decide) ?_
    have hR28 : (-1 : Int32) = rr := Option.some.inj hf
    exact sk_iret K dX2_doorOf_9 rfl rfl hR28 rfl rfl
noncomputable def fX2_doorsJoined_L4 (S : sk_S) (d : sk_D) (p0 : Nat) (p1 : Int32) (s1 : Int32 × Int32) : Option ((Int32 × Int32) ⊕ (Int32)) :=
  (sk_gI S d p0 2 1).bind fun v1 => if v1 ≤ s1.2 then (some (.inr s1.1)) else (if S.2.1 p0 = (2, 0) then ((fX2_doorOf S d p0 s1.2 p1).bind fun v5 => if 0 ≤ v5 then (some (.inl (s1.1 ||| ((1 : Int32) <<< (v5 &&& 31)), s1.2 + 1))) else (some (.inl (s1.1 ||| (0 : Int32), s1.2 + 1)))) else none)
noncomputable def fX2_doorsJoined (S : sk_S) (d : sk_D) (p0 : Nat) (p1 : Int32) : Option (Int32) :=
  (sk_itr (fX2_doorsJoined_L4 S d p0 p1) ((0 : Int32), (0 : Int32))).bind fun x1 => some x1
set_option maxRecDepth 100000 in
set_option maxHeartbeats 4000000 in
theorem sX2_doorsJoined (C : sk_C) (l : Launch) {S : sk_S} {d : sk_D} {p0 : Nat} {p1 : Int32} {rr : Int32} (hf : fX2_doorsJoined S d p0 p1 = some rr) : sk_Met C l 1 yX2_doorsJoined cX2_doorsJoined 5 (some .int) [.ref p0, .int p1] S d (some (.int rr)) S d := by
  refine sk_Met.of (by decide) (Nat.le_of_ble_eq_true rfl) (Nat.le_refl _) (Nat.le_refl _) (fun X K0 hX => ?_)
  have K : sk_Ok X C cX2_doorsJoined 5 RX2 "doorsJoined" (some .int) 1 l (some (.int rr)) S d := K0
  have R1 : X.2.2.2.2.2.2.2.2.2.2.2.1 ≤ S.1.1 ∧ X.2.2.2.2.2.2.2.2.2.2.2.2 ≤ S.1.2 := by rw [hX]; exact ⟨Nat.le_refl _, Nat.le_refl _⟩
  have R2 : S.1.1 ≤ S.1.1 ∧ S.1.2 ≤ S.1.2 := ⟨Nat.le_refl _, Nat.le_refl _⟩
  show sk_G X C 5 S d 0 [(0, .ref p0), (1, .int p1)] []
  unfold fX2_doorsJoined at hf
  refine sk_iconst (0 : Int32) K dX2_doorsJoined_0 (by decide) ?_
  refine sk_istore_n [(2, .int (0 : Int32)), (0, .ref p0), (1, .int p1)] K dX2_doorsJoined_1 rfl (by decide) rfl ?_
  refine sk_iconst (0 : Int32) K dX2_doorsJoined_2 (by decide) ?_
  refine sk_istore_n [(3, .int (0 : Int32)), (2, .int (0 : Int32)), (0, .ref p0), (1, .int p1)] K dX2_doorsJoined_3 rfl (by decide) rfl ?_
  obtain ⟨x1, he1, hf⟩ := sk_ob hf
  have hret1 : ∀ r, r = x1 → r = rr := by
    intro r hr
    subst hr
    exact Option.some.inj hf
  refine sk_sub [(0, .ref p0), (1, .int p1), (2, .int (0 : Int32)), (3, .int (0 : Int32))] [2, 3, 1, 0] rfl ?_
  refine sk_loop (fun s1 => sk_G X C 5 S d 4 [(0, .ref p0), (1, .int p1), (2, .int s1.1), (3, .int s1.2)] []) he1 (fun s1 o1 hf ih1 hx1 => ?_)
  unfold fX2_doorsJoined_L4 at hf
  refine sk_iload_n K dX2_doorsJoined_4 rfl 3 rfl ?_
  refine sk_aload_n K dX2_doorsJoined_5 rfl 0 rfl ?_
  obtain ⟨v1, e2, hf⟩ := sk_ob hf
  refine sk_getI K dX2_doorsJoined_6 fl_X2_15 rfl e2 ?_
  refine sk_icmp_ge 42 K dX2_doorsJoined_9 (by decide) (fun h3 => ?_) (fun h3 => ?_)
  · rw [if_pos h3] at hf
    refine sk_iload_n K dX2_doorsJoined_42 rfl 2 rfl ?_
    have hR4 : s1.1 = rr := hret1 _ (hx1 _ (Option.some.inj hf).symm)
    exact sk_iret K dX2_doorsJoined_43 rfl rfl hR4 rfl rfl
  · rw [if_neg h3] at hf
    refine sk_aload_n K dX2_doorsJoined_12 rfl 0 rfl ?_
    refine sk_iload_n K dX2_doorsJoined_13 rfl 3 rfl ?_
    refine sk_iload_n K dX2_doorsJoined_14 rfl 1 rfl ?_
    obtain ⟨h7, hf⟩ := sk_ib hf
    obtain ⟨v5, e6, hf⟩ := sk_ob hf
    refine sk_callV (As := [.int s1.2, .int p1]) (st := []) K dX2_doorsJoined_15 cl_X2_93 h7 (sX2_doorOf C l e6) (by decide) rfl rfl (Nat.le_of_ble_eq_true rfl) R1 R2 ?_
    refine sk_istore [(4, .int v5), (0, .ref p0), (1, .int p1), (2, .int s1.1), (3, .int s1.2)] K dX2_doorsJoined_18 (by decide) rfl ?_
    refine sk_iload_n K dX2_doorsJoined_20 rfl 3 rfl ?_
    refine sk_iload K dX2_doorsJoined_21 0 rfl ?_
    refine sk_if_ge 30 K dX2_doorsJoined_23 (by decide) (fun h8 => ?_) (fun h8 => ?_)
    · rw [if_pos h8] at hf
      refine sk_iconst (1 : Int32) K dX2_doorsJoined_30 (by decide) ?_
      refine sk_iload K dX2_doorsJoined_31 0 rfl ?_
      refine sk_ishl K dX2_doorsJoined_33 ?_
      refine sk_ior K dX2_doorsJoined_34 ?_
      refine sk_istore_n [(2, .int (s1.1 ||| ((1 : Int32) <<< (v5 &&& 31)))), (4, .int v5), (0, .ref p0), (1, .int p1), (3, .int s1.2)] K dX2_doorsJoined_35 rfl (by decide) rfl ?_
      refine sk_iinc (s1.2 + 1) [(3, .int (s1.2 + 1)), (2, .int (s1.1 ||| ((1 : Int32) <<< (v5 &&& 31)))), (4, .int v5), (0, .ref p0), (1, .int p1)] K dX2_doorsJoined_36 4 rfl rfl (by decide) rfl ?_
      refine sk_goto 4 K dX2_doorsJoined_39 (by decide) ?_
      refine sk_sub [(0, .ref p0), (1, .int p1), (2, .int (s1.1 ||| ((1 : Int32) <<< (v5 &&& 31)))), (3, .int (s1.2 + 1))] [3, 4, 1, 0] rfl ?_
      have h9 := ih1 _ (Option.some.inj hf).symm
      exact h9
    · rw [if_neg h8] at hf
      refine sk_iconst (0 : Int32) K dX2_doorsJoined_26 (by decide) ?_
      refine sk_goto 34 K dX2_doorsJoined_27 (by decide) ?_
      refine sk_ior K dX2_doorsJoined_34 ?_
      refine sk_istore_n [(2, .int (s1.1 ||| (0 : Int32))), (4, .int v5), (0, .ref p0), (1, .int p1), (3, .int s1.2)] K dX2_doorsJoined_35 rfl (by decide) rfl ?_
      refine sk_iinc (s1.2 + 1) [(3, .int (s1.2 + 1)), (2, .int (s1.1 ||| (0 : Int32))), (4, .int v5), (0, .ref p0), (1, .int p1)] K dX2_doorsJoined_36 4 rfl rfl (by decide) rfl ?_
      refine sk_goto 4 K dX2_doorsJoined_39 (by decide) ?_
      refine sk_sub [(0, .ref p0), (1, .int p1), (2, .int (s1.1 ||| (0 : Int32))), (3, .int (s1.2 + 1))] [3, 4, 1, 0] rfl ?_
      have h9 := ih1 _ (Option.some.inj hf).symm
      exact h9
noncomputable def fX3_begin (S : sk_S) (d : sk_D) (p0 : Nat) (p1 : Nat) (p2 : Int32) : Option (sk_D) :=
  (sk_pI S d p0 3 2 p2).bind fun d1 => (sk_gR S p1 2 10).bind fun v3 => (sk_gR S p0 3 0).bind fun v5 => (sk_cp S d1 v3 (0 : Int32) v5 (0 : Int32) (8 : Int32)).bind fun d7 => some d7
set_option maxRecDepth 100000 in
set_option maxHeartbeats 4000000 in
theorem sX3_begin (C : sk_C) (l : Launch) {S : sk_S} {d : sk_D} {p0 : Nat} {p1 : Nat} {p2 : Int32} {dd : sk_D} (hf : fX3_begin S d p0 p1 p2 = some dd) : sk_Met C l 1 yX3_begin cX3_begin 3 none [.ref p0, .ref p1, .int p2] S d none S dd := by
  refine sk_Met.of (by decide) (Nat.le_of_ble_eq_true rfl) (Nat.le_refl _) (Nat.le_refl _) (fun X K0 hX => ?_)
  have K : sk_Ok X C cX3_begin 3 RX3 "begin" none 1 l none S dd := K0
  have R1 : X.2.2.2.2.2.2.2.2.2.2.2.1 ≤ S.1.1 ∧ X.2.2.2.2.2.2.2.2.2.2.2.2 ≤ S.1.2 := by rw [hX]; exact ⟨Nat.le_refl _, Nat.le_refl _⟩
  have R2 : S.1.1 ≤ S.1.1 ∧ S.1.2 ≤ S.1.2 := ⟨Nat.le_refl _, Nat.le_refl _⟩
  show sk_G X C 3 S d 0 [(0, .ref p0), (1, .ref p1), (2, .int p2)] []
  unfold fX3_begin at hf
  refine sk_aload_n K dX3_begin_0 rfl 0 rfl ?_
  refine sk_iload_n K dX3_begin_1 rfl 2 rfl ?_
  obtain ⟨d1, e2, hf⟩ := sk_ob hf
  refine sk_putI d1 K dX3_begin_2 fl_X3_18 rfl rfl rfl e2 ?_
  refine sk_aload_n K dX3_begin_5 rfl 1 rfl ?_
  obtain ⟨v3, e4, hf⟩ := sk_ob hf
  refine sk_getR K dX3_begin_6 fl_X3_22 rfl e4 ?_
  refine sk_iconst (0 : Int32) K dX3_begin_9 (by decide) ?_
  refine sk_aload_n K dX3_begin_10 rfl 0 rfl ?_
  obtain ⟨v5, e6, hf⟩ := sk_ob hf
  refine sk_getR K dX3_begin_11 fl_X3_9 rfl e6 ?_
  refine sk_iconst (0 : Int32) K dX3_begin_14 (by decide) ?_
  refine sk_bipush (8 : Int32) K dX3_begin_15 (by decide) ?_
  obtain ⟨d7, e8, hf⟩ := sk_ob hf
  refine sk_copy d7 K dX3_begin_17 qw_1087 qw_734 qw_733 qw_143 (by decide) (Nat.le_of_ble_eq_true rfl) e8 ?_
  have hR9 : d7 = dd := Option.some.inj hf
  exact sk_vret K dX3_begin_20 rfl rfl rfl hR9
noncomputable def fX3_tell (S : sk_S) (d : sk_D) (p0 : Nat) (p1 : Int32) (p2 : Int32) : Option (sk_D) :=
  if p2 < 0 then (some d) else (if (8 : Int32) ≤ p2 then (some d) else ((sk_gR S p0 3 0).bind fun v5 => (sk_lI S d v5 20 p2).bind fun v7 => (sk_sI S d v5 20 p2 (v7 ||| ((1 : Int32) <<< (p1 &&& 31)))).bind fun d9 => some d9))
set_option maxRecDepth 100000 in
set_option maxHeartbeats 4000000 in
theorem sX3_tell (C : sk_C) (l : Launch) {S : sk_S} {d : sk_D} {p0 : Nat} {p1 : Int32} {p2 : Int32} {dd : sk_D} (hf : fX3_tell S d p0 p1 p2 = some dd) : sk_Met C l 0 yX3_tell cX3_tell 3 none [.ref p0, .int p1, .int p2] S d none S dd := by
  refine sk_Met.of (by decide) (Nat.le_of_ble_eq_true rfl) (Nat.le_refl _) (Nat.le_refl _) (fun X K0 hX => ?_)
  have K : sk_Ok X C cX3_tell 3 RX3 "tell" none 0 l none S dd := K0
  have R1 : X.2.2.2.2.2.2.2.2.2.2.2.1 ≤ S.1.1 ∧ X.2.2.2.2.2.2.2.2.2.2.2.2 ≤ S.1.2 := by rw [hX]; exact ⟨Nat.le_refl _, Nat.le_refl _⟩
  have R2 : S.1.1 ≤ S.1.1 ∧ S.1.2 ≤ S.1.2 := ⟨Nat.le_refl _, Nat.le_refl _⟩
  show sk_G X C 3 S d 0 [(0, .ref p0), (1, .int p1), (2, .int p2)] []
  unfold fX3_tell at hf
  refine sk_iload_n K dX3_tell_0 rfl 2 rfl ?_
  refine sk_if_lt 22 K dX3_tell_1 (by decide) (fun h1 => ?_) (fun h1 => ?_)
  · rw [if_pos h1] at hf
    have hR2 : d = dd := Option.some.inj hf
    exact sk_vret K dX3_tell_22 rfl rfl rfl hR2
  · rw [if_neg h1] at hf
    refine sk_iload_n K dX3_tell_4 rfl 2 rfl ?_
    refine sk_bipush (8 : Int32) K dX3_tell_5 (by decide) ?_
    refine sk_icmp_ge 22 K dX3_tell_7 (by decide) (fun h3 => ?_) (fun h3 => ?_)
    · rw [if_pos h3] at hf
      have hR4 : d = dd := Option.some.inj hf
      exact sk_vret K dX3_tell_22 rfl rfl rfl hR4
    · rw [if_neg h3] at hf
      refine sk_aload_n K dX3_tell_10 rfl 0 rfl ?_
      obtain ⟨v5, e6, hf⟩ := sk_ob hf
      refine sk_getR K dX3_tell_11 fl_X3_9 rfl e6 ?_
      refine sk_iload_n K dX3_tell_14 rfl 2 rfl ?_
      refine sk_dup2 K dX3_tell_15 rfl rfl ?_
      obtain ⟨v7, e8, hf⟩ := sk_ob hf
      refine sk_ald20 K dX3_tell_16 e8 ?_
      refine sk_iconst (1 : Int32) K dX3_tell_17 (by decide) ?_
      refine sk_iload_n K dX3_tell_18 rfl 1 rfl ?_
      refine sk_ishl K dX3_tell_19 ?_
      refine sk_ior K dX3_tell_20 ?_
      obtain ⟨d9, e10, hf⟩ := sk_ob hf
      refine sk_ast20 d9 K dX3_tell_21 e10 ?_
      have hR11 : d9 = dd := Option.some.inj hf
      exact sk_vret K dX3_tell_22 rfl rfl rfl hR11
noncomputable def fX3_tellNumber (S : sk_S) (d : sk_D) (p0 : Nat) (p1 : Int64) : Option (Bool × sk_D) :=
  if p1 < (0 : Int64) then (some (false, d)) else (if p1 ≤ (99 : Int64) then (if (p1.toInt32 / (10 : Int32)) = (p1.toInt32 - p1.toInt32 / (10 : Int32) * (10 : Int32)) then (some (false, d)) else ((sk_gI S d p0 3 2).bind fun v6 => if ((v6 >>> ((p1.toInt32 / (10 : Int32)) &&& 31)) &&& (1 : Int32)) = 0 then (some (false, d)) else ((sk_gI S d p0 3 2).bind fun v10 => if ((v10 >>> ((p1.toInt32 - p1.toInt32 / (10 : Int32) * (10 : Int32)) &&& 31)) &&& (1 : Int32)) = 0 then (some (false, d)) else (if S.2.1 p0 = (3, 0) then ((fX3_tell S d p0 (p1.toInt32 / (10 : Int32)) (p1.toInt32 - p1.toInt32 / (10 : Int32) * (10 : Int32))).bind fun d15 => some (true, d15)) else none)))) else (some (false, d)))
set_option maxRecDepth 100000 in
set_option maxHeartbeats 4000000 in
theorem sX3_tellNumber (C : sk_C) (l : Launch) {S : sk_S} {d : sk_D} {p0 : Nat} {p1 : Int64} {rr : Bool} {dd : sk_D} (hf : fX3_tellNumber S d p0 p1 = some (rr, dd)) : sk_Met C l 1 yX3_tellNumber cX3_tellNumber 5 (some .boolean) [.ref p0, .long p1] S d (some (.int (sk_b rr))) S dd := by
  refine sk_Met.of (by decide) (Nat.le_of_ble_eq_true rfl) (Nat.le_refl _) (Nat.le_refl _) (fun X K0 hX => ?_)
  have K : sk_Ok X C cX3_tellNumber 5 RX3 "tellNumber" (some .boolean) 1 l (some (.int (sk_b rr))) S dd := K0
  have R1 : X.2.2.2.2.2.2.2.2.2.2.2.1 ≤ S.1.1 ∧ X.2.2.2.2.2.2.2.2.2.2.2.2 ≤ S.1.2 := by rw [hX]; exact ⟨Nat.le_refl _, Nat.le_refl _⟩
  have R2 : S.1.1 ≤ S.1.1 ∧ S.1.2 ≤ S.1.2 := ⟨Nat.le_refl _, Nat.le_refl _⟩
  show sk_G X C 5 S d 0 [(0, .ref p0), (1, .long p1)] []
  unfold fX3_tellNumber at hf
  refine sk_lload_n K dX3_tellNumber_0 rfl 1 rfl ?_
  refine sk_lconst (0 : Int64) K dX3_tellNumber_1 (by decide) ?_
  refine sk_lcmp_lt 14 K dX3_tellNumber_2 dX3_tellNumber_3 (by decide) (fun h1 => ?_) (fun h1 => ?_)
  · rw [if_pos h1] at hf
    refine sk_iconst (0 : Int32) K dX3_tellNumber_14 (by decide) ?_
    have hR2 : (false, d) = (rr, dd) := Option.some.inj hf
    exact sk_zret (x := false) K dX3_tellNumber_15 rfl rfl (congrArg (fun z => z.1) hR2) rfl (congrArg (fun z => z.2) hR2)
  · rw [if_neg h1] at hf
    refine sk_lload_n K dX3_tellNumber_6 rfl 1 rfl ?_
    refine sk_ldc2 K dX3_tellNumber_7 qw_1092 ?_
    refine sk_lcmp_le 16 K dX3_tellNumber_10 dX3_tellNumber_11 (by decide) (fun h3 => ?_) (fun h3 => ?_)
    · rw [if_pos h3] at hf
      refine sk_lload_n K dX3_tellNumber_16 rfl 1 rfl ?_
      refine sk_l2i K dX3_tellNumber_17 ?_
      refine sk_bipush (10 : Int32) K dX3_tellNumber_18 (by decide) ?_
      refine sk_idiv K dX3_tellNumber_20 (by decide) ?_
      refine sk_istore_n [(3, .int (p1.toInt32 / (10 : Int32))), (0, .ref p0), (1, .long p1)] K dX3_tellNumber_21 rfl (by decide) rfl ?_
      refine sk_lload_n K dX3_tellNumber_22 rfl 2 rfl ?_
      refine sk_l2i K dX3_tellNumber_23 ?_
      refine sk_bipush (10 : Int32) K dX3_tellNumber_24 (by decide) ?_
      refine sk_irem K dX3_tellNumber_26 (by decide) ?_
      refine sk_istore [(4, .int (p1.toInt32 - p1.toInt32 / (10 : Int32) * (10 : Int32))), (3, .int (p1.toInt32 / (10 : Int32))), (0, .ref p0), (1, .long p1)] K dX3_tellNumber_27 (by decide) rfl ?_
      refine sk_iload_n K dX3_tellNumber_29 rfl 1 rfl ?_
      refine sk_iload K dX3_tellNumber_30 0 rfl ?_
      refine sk_icmp_eq 58 K dX3_tellNumber_32 (by decide) (fun h4 => ?_) (fun h4 => ?_)
      · rw [if_pos h4] at hf
        refine sk_iconst (0 : Int32) K dX3_tellNumber_58 (by decide) ?_
        have hR5 : (false, d) = (rr, dd) := Option.some.inj hf
        exact sk_zret (x := false) K dX3_tellNumber_59 rfl rfl (congrArg (fun z => z.1) hR5) rfl (congrArg (fun z => z.2) hR5)
      · rw [if_neg h4] at hf
        refine sk_aload_n K dX3_tellNumber_35 rfl 2 rfl ?_
        obtain ⟨v6, e7, hf⟩ := sk_ob hf
        refine sk_getI K dX3_tellNumber_36 fl_X3_18 rfl e7 ?_
        refine sk_iload_n K dX3_tellNumber_39 rfl 1 rfl ?_
        refine sk_ishr K dX3_tellNumber_40 ?_
        refine sk_iconst (1 : Int32) K dX3_tellNumber_41 (by decide) ?_
        refine sk_iand K dX3_tellNumber_42 ?_
        refine sk_if_eq 58 K dX3_tellNumber_43 (by decide) (fun h8 => ?_) (fun h8 => ?_)
        · rw [if_pos h8] at hf
          refine sk_iconst (0 : Int32) K dX3_tellNumber_58 (by decide) ?_
          have hR9 : (false, d) = (rr, dd) := Option.some.inj hf
          exact sk_zret (x := false) K dX3_tellNumber_59 rfl rfl (congrArg (fun z => z.1) hR9) rfl (congrArg (fun z => z.2) hR9)
        · rw [if_neg h8] at hf
          refine sk_aload_n K dX3_tellNumber_46 rfl 2 rfl ?_
          obtain ⟨v10, e11, hf⟩ := sk_ob hf
          refine sk_getI K dX3_tellNumber_47 fl_X3_18 rfl e11 ?_
          refine sk_iload K dX3_tellNumber_50 0 rfl ?_
          refine sk_ishr K dX3_tellNumber_52 ?_
          refine sk_iconst (1 : Int32) K dX3_tellNumber_53 (by decide) ?_
          refine sk_iand K dX3_tellNumber_54 ?_
          refine sk_if_ne 60 K dX3_tellNumber_55 (by decide) (fun h12 => ?_) (fun h12 => ?_)
          · rw [if_neg h12] at hf
            refine sk_aload_n K dX3_tellNumber_60 rfl 2 rfl ?_
            refine sk_iload_n K dX3_tellNumber_61 rfl 1 rfl ?_
            refine sk_iload K dX3_tellNumber_62 0 rfl ?_
            obtain ⟨h16, hf⟩ := sk_ib hf
            obtain ⟨d15, e14, hf⟩ := sk_ob hf
            refine sk_callV (As := [.int (p1.toInt32 / (10 : Int32)), .int (p1.toInt32 - p1.toInt32 / (10 : Int32) * (10 : Int32))]) (st := []) K dX3_tellNumber_64 cl_X3_35 h16 (sX3_tell C l e14) (by decide) rfl rfl (Nat.le_of_ble_eq_true rfl) R1 R2 ?_
            refine sk_iconst (1 : Int32) K dX3_tellNumber_67 (by decide) ?_
            have hR17 : (true, d15) = (rr, dd) := Option.some.inj hf
            exact sk_zret (x := true) K dX3_tellNumber_68 rfl rfl (congrArg (fun z => z.1) hR17) rfl (congrArg (fun z => z.2) hR17)
          · rw [if_pos h12] at hf
            refine sk_iconst (0 : Int32) K dX3_tellNumber_58 (by decide) ?_
            have hR18 : (false, d) = (rr, dd) := Option.some.inj hf
            exact sk_zret (x := false) K dX3_tellNumber_59 rfl rfl (congrArg (fun z => z.1) hR18) rfl (congrArg (fun z => z.2) hR18)
    · rw [if_neg h3] at hf
      refine sk_iconst (0 : Int32) K dX3_tellNumber_14 (by decide) ?_
      have hR19 : (false, d) = (rr, dd) := Option.some.inj hf
      exact sk_zret (x := false) K dX3_tellNumber_15 rfl rfl (congrArg (fun z => z.1) hR19) rfl (congrArg (fun z => z.2) hR19)
noncomputable def fX3_total_L25 (S : sk_S) (p0 : Nat) (t1_a : Int32) (s2 : Int32 × sk_D) : Option ((Int32 × sk_D) ⊕ (sk_D)) :=
  if (8 : Int32) ≤ s2.1 then (some (.inr s2.2)) else ((sk_gI S s2.2 p0 3 2).bind fun v18 => if (t1_a &&& (v18 ^^^ (-1 : Int32))) = 0 then (if (t1_a &&& (((1 : Int32) <<< (s2.1 &&& 31)) ^^^ (-1 : Int32))) = t1_a then (some (.inl (s2.1 + 1, s2.2))) else ((sk_gR S p0 3 0).bind fun v22 => (sk_lI S s2.2 v22 20 s2.1).bind fun v24 => if (v24 &&& ((t1_a &&& (((1 : Int32) <<< (s2.1 &&& 31)) ^^^ (-1 : Int32))) ^^^ (-1 : Int32))) = 0 then ((sk_gR S p0 3 1).bind fun v27 => (sk_lI S s2.2 v27 20 t1_a).bind fun v29 => (sk_gR S p0 3 1).bind fun v31 => (sk_lI S s2.2 v31 20 (t1_a &&& (((1 : Int32) <<< (s2.1 &&& 31)) ^^^ (-1 : Int32)))).bind fun v33 => (sk_sI S s2.2 v27 20 t1_a (v29 + v33)).bind fun d35 => some (.inl (s2.1 + 1, d35))) else (some (.inl (s2.1 + 1, s2.2))))) else (some (.inr s2.2)))
noncomputable def fX3_total_L9 (S : sk_S) (p0 : Nat) (s1 : Int32 × sk_D) : Option ((Int32 × sk_D) ⊕ (Int32 × sk_D)) :=
  if (256 : Int32) ≤ s1.1 then ((sk_gR S p0 3 1).bind fun v6 => (sk_gI S s1.2 p0 3 2).bind fun v8 => (sk_lI S s1.2 v6 20 (v8 &&& (255 : Int32))).bind fun v10 => some (.inr (v10, s1.2))) else ((sk_gR S p0 3 1).bind fun v13 => (sk_sI S s1.2 v13 20 s1.1 (0 : Int32)).bind fun d15 => (sk_itr (fX3_total_L25 S p0 s1.1) ((0 : Int32), d15)).bind fun y2 => some (.inl (s1.1 + 1, y2)))
noncomputable def fX3_total (S : sk_S) (d : sk_D) (p0 : Nat) : Option (Int32 × sk_D) :=
  (sk_gR S p0 3 1).bind fun v1 => (sk_sI S d v1 20 (0 : Int32) (1 : Int32)).bind fun d3 => (sk_itr (fX3_total_L9 S p0) ((1 : Int32), d3)).bind fun x1 => some x1
set_option maxRecDepth 100000 in
set_option maxHeartbeats 4000000 in
theorem sX3_total (C : sk_C) (l : Launch) {S : sk_S} {d : sk_D} {p0 : Nat} {rr : Int32} {dd : sk_D} (hf : fX3_total S d p0 = some (rr, dd)) : sk_Met C l 0 yX3_total cX3_total 4 (some .int) [.ref p0] S d (some (.int rr)) S dd := by
  refine sk_Met.of (by decide) (Nat.le_of_ble_eq_true rfl) (Nat.le_refl _) (Nat.le_refl _) (fun X K0 hX => ?_)
  have K : sk_Ok X C cX3_total 4 RX3 "total" (some .int) 0 l (some (.int rr)) S dd := K0
  have R1 : X.2.2.2.2.2.2.2.2.2.2.2.1 ≤ S.1.1 ∧ X.2.2.2.2.2.2.2.2.2.2.2.2 ≤ S.1.2 := by rw [hX]; exact ⟨Nat.le_refl _, Nat.le_refl _⟩
  have R2 : S.1.1 ≤ S.1.1 ∧ S.1.2 ≤ S.1.2 := ⟨Nat.le_refl _, Nat.le_refl _⟩
  show sk_G X C 4 S d 0 [(0, .ref p0)] []
  unfold fX3_total at hf
  refine sk_aload_n K dX3_total_0 rfl 0 rfl ?_
  obtain ⟨v1, e2, hf⟩ := sk_ob hf
  refine sk_getR K dX3_total_1 fl_X3_15 rfl e2 ?_
  refine sk_iconst (0 : Int32) K dX3_total_4 (by decide) ?_
  refine sk_iconst (1 : Int32) K dX3_total_5 (by decide) ?_
  obtain ⟨d3, e4, hf⟩ := sk_ob hf
  refine sk_ast20 d3 K dX3_total_6 e4 ?_
  refine sk_iconst (1 : Int32) K dX3_total_7 (by decide) ?_
  refine sk_istore_n [(1, .int (1 : Int32)), (0, .ref p0)] K dX3_total_8 rfl (by decide) rfl ?_
  obtain ⟨x1, he1, hf⟩ := sk_ob hf
  have hret1 : ∀ r, r = x1 → r = (rr, dd) := by
    intro r hr
    subst hr
    exact Option.some.inj hf
  refine sk_sub [(0, .ref p0), (1, .int (1 : Int32))] [1, 0] rfl ?_
  refine sk_loop (fun s1 => sk_G X C 4 S s1.2 9 [(0, .ref p0), (1, .int s1.1)] []) he1 (fun s1 o1 hf ih1 hx1 => ?_)
  unfold fX3_total_L9 at hf
  refine sk_iload_n K dX3_total_9 rfl 1 rfl ?_
  refine sk_sipush (256 : Int32) K dX3_total_10 (by decide) ?_
  refine sk_icmp_ge 95 K dX3_total_13 (by decide) (fun h5 => ?_) (fun h5 => ?_)
  · rw [if_pos h5] at hf
    refine sk_aload_n K dX3_total_95 rfl 0 rfl ?_
    obtain ⟨v6, e7, hf⟩ := sk_ob hf
    refine sk_getR K dX3_total_96 fl_X3_15 rfl e7 ?_
    refine sk_aload_n K dX3_total_99 rfl 0 rfl ?_
    obtain ⟨v8, e9, hf⟩ := sk_ob hf
    refine sk_getI K dX3_total_100 fl_X3_18 rfl e9 ?_
    refine sk_sipush (255 : Int32) K dX3_total_103 (by decide) ?_
    refine sk_iand K dX3_total_106 ?_
    obtain ⟨v10, e11, hf⟩ := sk_ob hf
    refine sk_ald20 K dX3_total_107 e11 ?_
    have hR12 : (v10, s1.2) = (rr, dd) := hret1 _ (hx1 _ (Option.some.inj hf).symm)
    exact sk_iret K dX3_total_108 rfl rfl (congrArg (fun z => z.1) hR12) rfl (congrArg (fun z => z.2) hR12)
  · rw [if_neg h5] at hf
    refine sk_aload_n K dX3_total_16 rfl 0 rfl ?_
    obtain ⟨v13, e14, hf⟩ := sk_ob hf
    refine sk_getR K dX3_total_17 fl_X3_15 rfl e14 ?_
    refine sk_iload_n K dX3_total_20 rfl 1 rfl ?_
    refine sk_iconst (0 : Int32) K dX3_total_21 (by decide) ?_
    obtain ⟨d15, e16, hf⟩ := sk_ob hf
    refine sk_ast20 d15 K dX3_total_22 e16 ?_
    refine sk_iconst (0 : Int32) K dX3_total_23 (by decide) ?_
    refine sk_istore_n [(2, .int (0 : Int32)), (0, .ref p0), (1, .int s1.1)] K dX3_total_24 rfl (by decide) rfl ?_
    obtain ⟨x2, he2, hf⟩ := sk_ob hf
    have rest2 : ∀ y2, y2 = x2 → sk_G X C 4 S y2 89 [(0, .ref p0), (1, .int s1.1)] [] := by
      intro y2 hy
      subst hy
      refine sk_iinc (s1.1 + 1) [(1, .int (s1.1 + 1)), (0, .ref p0)] K dX3_total_89 1 rfl rfl (by decide) rfl ?_
      refine sk_goto 9 K dX3_total_92 (by decide) ?_
      refine sk_sub [(0, .ref p0), (1, .int (s1.1 + 1))] [1, 0] rfl ?_
      have h9 := ih1 _ (Option.some.inj hf).symm
      exact h9
    refine sk_sub [(0, .ref p0), (1, .int s1.1), (2, .int (0 : Int32))] [1, 2, 0] rfl ?_
    refine sk_loop (fun s2 => sk_G X C 4 S s2.2 25 [(0, .ref p0), (1, .int s1.1), (2, .int s2.1)] []) he2 (fun s2 o2 hf ih2 hx2 => ?_)
    unfold fX3_total_L25 at hf
    refine sk_iload_n K dX3_total_25 rfl 2 rfl ?_
    refine sk_bipush (8 : Int32) K dX3_total_26 (by decide) ?_
    refine sk_icmp_ge 89 K dX3_total_28 (by decide) (fun h17 => ?_) (fun h17 => ?_)
    · rw [if_pos h17] at hf
      refine sk_sub [(0, .ref p0), (1, .int s1.1)] [0, 1] rfl ?_
      have h9 := rest2 _ (hx2 _ (Option.some.inj hf).symm)
      exact h9
    · rw [if_neg h17] at hf
      refine sk_iload_n K dX3_total_31 rfl 1 rfl ?_
      refine sk_aload_n K dX3_total_32 rfl 0 rfl ?_
      obtain ⟨v18, e19, hf⟩ := sk_ob hf
      refine sk_getI K dX3_total_33 fl_X3_18 rfl e19 ?_
      refine sk_iconst (-1 : Int32) K dX3_total_36 (by decide) ?_
      refine sk_ixor K dX3_total_37 ?_
      refine sk_iand K dX3_total_38 ?_
      refine sk_if_ne 89 K dX3_total_39 (by decide) (fun h20 => ?_) (fun h20 => ?_)
      · rw [if_neg h20] at hf
        refine sk_sub [(0, .ref p0), (1, .int s1.1)] [0, 1] rfl ?_
        have h9 := rest2 _ (hx2 _ (Option.some.inj hf).symm)
        exact h9
      · rw [if_pos h20] at hf
        refine sk_iload_n K dX3_total_42 rfl 1 rfl ?_
        refine sk_iconst (1 : Int32) K dX3_total_43 (by decide) ?_
        refine sk_iload_n K dX3_total_44 rfl 2 rfl ?_
        refine sk_ishl K dX3_total_45 ?_
        refine sk_iconst (-1 : Int32) K dX3_total_46 (by decide) ?_
        refine sk_ixor K dX3_total_47 ?_
        refine sk_iand K dX3_total_48 ?_
        refine sk_istore_n [(3, .int (s1.1 &&& (((1 : Int32) <<< (s2.1 &&& 31)) ^^^ (-1 : Int32)))), (0, .ref p0), (1, .int s1.1), (2, .int s2.1)] K dX3_total_49 rfl (by decide) rfl ?_
        refine sk_iload_n K dX3_total_50 rfl 0 rfl ?_
        refine sk_iload_n K dX3_total_51 rfl 2 rfl ?_
        refine sk_icmp_eq 83 K dX3_total_52 (by decide) (fun h21 => ?_) (fun h21 => ?_)
        · rw [if_pos h21] at hf
          refine sk_iinc (s2.1 + 1) [(2, .int (s2.1 + 1)), (3, .int (s1.1 &&& (((1 : Int32) <<< (s2.1 &&& 31)) ^^^ (-1 : Int32)))), (0, .ref p0), (1, .int s1.1)] K dX3_total_83 3 rfl rfl (by decide) rfl ?_
          refine sk_goto 25 K dX3_total_86 (by decide) ?_
          refine sk_sub [(0, .ref p0), (1, .int s1.1), (2, .int (s2.1 + 1))] [2, 3, 0] rfl ?_
          have h9 := ih2 _ (Option.some.inj hf).symm
          exact h9
        · rw [if_neg h21] at hf
          refine sk_aload_n K dX3_total_55 rfl 1 rfl ?_
          obtain ⟨v22, e23, hf⟩ := sk_ob hf
          refine sk_getR K dX3_total_56 fl_X3_9 rfl e23 ?_
          refine sk_iload_n K dX3_total_59 rfl 3 rfl ?_
          obtain ⟨v24, e25, hf⟩ := sk_ob hf
          refine sk_ald20 K dX3_total_60 e25 ?_
          refine sk_iload_n K dX3_total_61 rfl 0 rfl ?_
          refine sk_iconst (-1 : Int32) K dX3_total_62 (by decide) ?_
          refine sk_ixor K dX3_total_63 ?_
          refine sk_iand K dX3_total_64 ?_
          refine sk_if_ne 83 K dX3_total_65 (by decide) (fun h26 => ?_) (fun h26 => ?_)
          · rw [if_neg h26] at hf
            refine sk_iinc (s2.1 + 1) [(2, .int (s2.1 + 1)), (3, .int (s1.1 &&& (((1 : Int32) <<< (s2.1 &&& 31)) ^^^ (-1 : Int32)))), (0, .ref p0), (1, .int s1.1)] K dX3_total_83 3 rfl rfl (by decide) rfl ?_
            refine sk_goto 25 K dX3_total_86 (by decide) ?_
            refine sk_sub [(0, .ref p0), (1, .int s1.1), (2, .int (s2.1 + 1))] [2, 3, 0] rfl ?_
            have h9 := ih2 _ (Option.some.inj hf).symm
            exact h9
          · rw [if_pos h26] at hf
            refine sk_aload_n K dX3_total_68 rfl 1 rfl ?_
            obtain ⟨v27, e28, hf⟩ := sk_ob hf
            refine sk_getR K dX3_total_69 fl_X3_15 rfl e28 ?_
            refine sk_iload_n K dX3_total_72 rfl 2 rfl ?_
            refine sk_dup2 K dX3_total_73 rfl rfl ?_
            obtain ⟨v29, e30, hf⟩ := sk_ob hf
            refine sk_ald20 K dX3_total_74 e30 ?_
            refine sk_aload_n K dX3_total_75 rfl 1 rfl ?_
            obtain ⟨v31, e32, hf⟩ := sk_ob hf
            refine sk_getR K dX3_total_76 fl_X3_15 rfl e32 ?_
            refine sk_iload_n K dX3_total_79 rfl 0 rfl ?_
            obtain ⟨v33, e34, hf⟩ := sk_ob hf
            refine sk_ald20 K dX3_total_80 e34 ?_
            refine sk_iadd K dX3_total_81 ?_
            obtain ⟨d35, e36, hf⟩ := sk_ob hf
            refine sk_ast20 d35 K dX3_total_82 e36 ?_
            refine sk_iinc (s2.1 + 1) [(2, .int (s2.1 + 1)), (3, .int (s1.1 &&& (((1 : Int32) <<< (s2.1 &&& 31)) ^^^ (-1 : Int32)))), (0, .ref p0), (1, .int s1.1)] K dX3_total_83 3 rfl rfl (by decide) rfl ?_
            refine sk_goto 25 K dX3_total_86 (by decide) ?_
            refine sk_sub [(0, .ref p0), (1, .int s1.1), (2, .int (s2.1 + 1))] [2, 3, 0] rfl ?_
            have h9 := ih2 _ (Option.some.inj hf).symm
            exact h9
noncomputable def fX3_firstBehind_L2 (S : sk_S) (d : sk_D) (p0 : Nat) (p1 : Int32) (s1 : Int32) : Option ((Int32) ⊕ (Int32)) :=
  if (8 : Int32) ≤ s1 then (some (.inr (-1 : Int32))) else ((sk_gI S d p0 3 2).bind fun v3 => if ((v3 &&& (p1 ^^^ (-1 : Int32))) &&& ((1 : Int32) <<< (s1 &&& 31))) = 0 then (some (.inl (s1 + 1))) else ((sk_gR S p0 3 0).bind fun v6 => (sk_lI S d v6 20 s1).bind fun v8 => if (v8 &&& (p1 ^^^ (-1 : Int32))) = 0 then (some (.inr s1)) else (some (.inl (s1 + 1)))))
noncomputable def fX3_firstBehind (S : sk_S) (d : sk_D) (p0 : Nat) (p1 : Int32) : Option (Int32) :=
  (sk_itr (fX3_firstBehind_L2 S d p0 p1) (0 : Int32)).bind fun x1 => some x1
set_option maxRecDepth 100000 in
set_option maxHeartbeats 4000000 in
theorem sX3_firstBehind (C : sk_C) (l : Launch) {S : sk_S} {d : sk_D} {p0 : Nat} {p1 : Int32} {rr : Int32} (hf : fX3_firstBehind S d p0 p1 = some rr) : sk_Met C l 0 yX3_firstBehind cX3_firstBehind 3 (some .int) [.ref p0, .int p1] S d (some (.int rr)) S d := by
  refine sk_Met.of (by decide) (Nat.le_of_ble_eq_true rfl) (Nat.le_refl _) (Nat.le_refl _) (fun X K0 hX => ?_)
  have K : sk_Ok X C cX3_firstBehind 3 RX3 "firstBehind" (some .int) 0 l (some (.int rr)) S d := K0
  have R1 : X.2.2.2.2.2.2.2.2.2.2.2.1 ≤ S.1.1 ∧ X.2.2.2.2.2.2.2.2.2.2.2.2 ≤ S.1.2 := by rw [hX]; exact ⟨Nat.le_refl _, Nat.le_refl _⟩
  have R2 : S.1.1 ≤ S.1.1 ∧ S.1.2 ≤ S.1.2 := ⟨Nat.le_refl _, Nat.le_refl _⟩
  show sk_G X C 3 S d 0 [(0, .ref p0), (1, .int p1)] []
  unfold fX3_firstBehind at hf
  refine sk_iconst (0 : Int32) K dX3_firstBehind_0 (by decide) ?_
  refine sk_istore_n [(2, .int (0 : Int32)), (0, .ref p0), (1, .int p1)] K dX3_firstBehind_1 rfl (by decide) rfl ?_
  obtain ⟨x1, he1, hf⟩ := sk_ob hf
  have hret1 : ∀ r, r = x1 → r = rr := by
    intro r hr
    subst hr
    exact Option.some.inj hf
  refine sk_sub [(0, .ref p0), (1, .int p1), (2, .int (0 : Int32))] [1, 2, 0] rfl ?_
  refine sk_loop (fun s1 => sk_G X C 3 S d 2 [(0, .ref p0), (1, .int p1), (2, .int s1)] []) he1 (fun s1 o1 hf ih1 hx1 => ?_)
  unfold fX3_firstBehind_L2 at hf
  refine sk_iload_n K dX3_firstBehind_2 rfl 2 rfl ?_
  refine sk_bipush (8 : Int32) K dX3_firstBehind_3 (by decide) ?_
  refine sk_icmp_ge 44 K dX3_firstBehind_5 (by decide) (fun h1 => ?_) (fun h1 => ?_)
  · rw [if_pos h1] at hf
    refine sk_iconst (-1 : Int32) K dX3_firstBehind_44 (by decide) ?_
    have hR2 : (-1 : Int32) = rr := hret1 _ (hx1 _ (Option.some.inj hf).symm)
    exact sk_iret K dX3_firstBehind_45 rfl rfl hR2 rfl rfl
  · rw [if_neg h1] at hf
    refine sk_aload_n K dX3_firstBehind_8 rfl 0 rfl ?_
    obtain ⟨v3, e4, hf⟩ := sk_ob hf
    refine sk_getI K dX3_firstBehind_9 fl_X3_18 rfl e4 ?_
    refine sk_iload_n K dX3_firstBehind_12 rfl 1 rfl ?_
    refine sk_iconst (-1 : Int32) K dX3_firstBehind_13 (by decide) ?_
    refine sk_ixor K dX3_firstBehind_14 ?_
    refine sk_iand K dX3_firstBehind_15 ?_
    refine sk_iconst (1 : Int32) K dX3_firstBehind_16 (by decide) ?_
    refine sk_iload_n K dX3_firstBehind_17 rfl 2 rfl ?_
    refine sk_ishl K dX3_firstBehind_18 ?_
    refine sk_iand K dX3_firstBehind_19 ?_
    refine sk_if_eq 38 K dX3_firstBehind_20 (by decide) (fun h5 => ?_) (fun h5 => ?_)
    · rw [if_pos h5] at hf
      refine sk_iinc (s1 + 1) [(2, .int (s1 + 1)), (0, .ref p0), (1, .int p1)] K dX3_firstBehind_38 2 rfl rfl (by decide) rfl ?_
      refine sk_goto 2 K dX3_firstBehind_41 (by decide) ?_
      refine sk_sub [(0, .ref p0), (1, .int p1), (2, .int (s1 + 1))] [1, 2, 0] rfl ?_
      have h9 := ih1 _ (Option.some.inj hf).symm
      exact h9
    · rw [if_neg h5] at hf
      refine sk_aload_n K dX3_firstBehind_23 rfl 0 rfl ?_
      obtain ⟨v6, e7, hf⟩ := sk_ob hf
      refine sk_getR K dX3_firstBehind_24 fl_X3_9 rfl e7 ?_
      refine sk_iload_n K dX3_firstBehind_27 rfl 2 rfl ?_
      obtain ⟨v8, e9, hf⟩ := sk_ob hf
      refine sk_ald20 K dX3_firstBehind_28 e9 ?_
      refine sk_iload_n K dX3_firstBehind_29 rfl 1 rfl ?_
      refine sk_iconst (-1 : Int32) K dX3_firstBehind_30 (by decide) ?_
      refine sk_ixor K dX3_firstBehind_31 ?_
      refine sk_iand K dX3_firstBehind_32 ?_
      refine sk_if_ne 38 K dX3_firstBehind_33 (by decide) (fun h10 => ?_) (fun h10 => ?_)
      · rw [if_neg h10] at hf
        refine sk_iinc (s1 + 1) [(2, .int (s1 + 1)), (0, .ref p0), (1, .int p1)] K dX3_firstBehind_38 2 rfl rfl (by decide) rfl ?_
        refine sk_goto 2 K dX3_firstBehind_41 (by decide) ?_
        refine sk_sub [(0, .ref p0), (1, .int p1), (2, .int (s1 + 1))] [1, 2, 0] rfl ?_
        have h9 := ih1 _ (Option.some.inj hf).symm
        exact h9
      · rw [if_pos h10] at hf
        refine sk_iload_n K dX3_firstBehind_36 rfl 2 rfl ?_
        have hR11 : s1 = rr := hret1 _ (hx1 _ (Option.some.inj hf).symm)
        exact sk_iret K dX3_firstBehind_37 rfl rfl hR11 rfl rfl
noncomputable def fX3_firstAt_L31 (S : sk_S) (p0 : Nat) (p1 : Int32) (d11 : sk_D) (s1 : Int32 × Int32 × Int32) : Option ((Int32 × Int32 × Int32) ⊕ (Int32 × sk_D)) :=
  if p1 < s1.2.2 then (some (.inr (s1.2.1, d11))) else (if (8 : Int32) ≤ s1.2.2 then (some (.inr (s1.2.1, d11))) else (if S.2.1 p0 = (3, 0) then ((fX3_firstBehind S d11 p0 s1.1).bind fun v19 => if 0 ≤ v19 then (some (.inl (s1.1 ||| ((1 : Int32) <<< (v19 &&& 31)), v19, s1.2.2 + 1))) else (some (.inl (s1.1 ||| (0 : Int32), v19, s1.2.2 + 1)))) else none))
noncomputable def fX3_firstAt (S : sk_S) (d : sk_D) (p0 : Nat) (p1 : Int32) : Option (Int32 × sk_D) :=
  if p1 < 0 then (some ((-1 : Int32), d)) else ((sk_gI S d p0 3 2).bind fun v3 => (fJ6_bitCount_0f7a4 S d v3).bind fun v5 => if v5 ≤ p1 then (some ((-1 : Int32), d)) else (if S.2.1 p0 = (3, 0) then ((fX3_total S d p0).bind fun b13 => if b13.1 = 0 then (some ((-1 : Int32), b13.2)) else ((sk_itr (fX3_firstAt_L31 S p0 p1 b13.2) ((0 : Int32), (-1 : Int32), (0 : Int32))).bind fun x1 => some x1)) else none))
set_option maxRecDepth 100000 in
set_option maxHeartbeats 4000000 in
theorem sX3_firstAt (C : sk_C) (l : Launch) {S : sk_S} {d : sk_D} {p0 : Nat} {p1 : Int32} {rr : Int32} {dd : sk_D} (hf : fX3_firstAt S d p0 p1 = some (rr, dd)) : sk_Met C l 1 yX3_firstAt cX3_firstAt 5 (some .int) [.ref p0, .int p1] S d (some (.int rr)) S dd := by
  refine sk_Met.of (by decide) (Nat.le_of_ble_eq_true rfl) (Nat.le_refl _) (Nat.le_refl _) (fun X K0 hX => ?_)
  have K : sk_Ok X C cX3_firstAt 5 RX3 "firstAt" (some .int) 1 l (some (.int rr)) S dd := K0
  have R1 : X.2.2.2.2.2.2.2.2.2.2.2.1 ≤ S.1.1 ∧ X.2.2.2.2.2.2.2.2.2.2.2.2 ≤ S.1.2 := by rw [hX]; exact ⟨Nat.le_refl _, Nat.le_refl _⟩
  have R2 : S.1.1 ≤ S.1.1 ∧ S.1.2 ≤ S.1.2 := ⟨Nat.le_refl _, Nat.le_refl _⟩
  show sk_G X C 5 S d 0 [(0, .ref p0), (1, .int p1)] []
  unfold fX3_firstAt at hf
  refine sk_iload_n K dX3_firstAt_0 rfl 1 rfl ?_
  refine sk_if_lt 22 K dX3_firstAt_1 (by decide) (fun h1 => ?_) (fun h1 => ?_)
  · rw [if_pos h1] at hf
    refine sk_iconst (-1 : Int32) K dX3_firstAt_22 (by decide) ?_
    have hR2 : ((-1 : Int32), d) = (rr, dd) := Option.some.inj hf
    exact sk_iret K dX3_firstAt_23 rfl rfl (congrArg (fun z => z.1) hR2) rfl (congrArg (fun z => z.2) hR2)
  · rw [if_neg h1] at hf
    refine sk_iload_n K dX3_firstAt_4 rfl 1 rfl ?_
    refine sk_aload_n K dX3_firstAt_5 rfl 0 rfl ?_
    obtain ⟨v3, e4, hf⟩ := sk_ob hf
    refine sk_getI K dX3_firstAt_6 fl_X3_18 rfl e4 ?_
    obtain ⟨v5, e6, hf⟩ := sk_ob hf
    refine sk_callS (As := [.int v3]) (st := [.int p1]) K dX3_firstAt_9 cl_X3_39 (sJ6_bitCount_0f7a4 C l e6) (by decide) rfl rfl (Nat.le_of_ble_eq_true rfl) R1 R2 ?_
    refine sk_icmp_ge 22 K dX3_firstAt_12 (by decide) (fun h7 => ?_) (fun h7 => ?_)
    · rw [if_pos h7] at hf
      refine sk_iconst (-1 : Int32) K dX3_firstAt_22 (by decide) ?_
      have hR8 : ((-1 : Int32), d) = (rr, dd) := Option.some.inj hf
      exact sk_iret K dX3_firstAt_23 rfl rfl (congrArg (fun z => z.1) hR8) rfl (congrArg (fun z => z.2) hR8)
    · rw [if_neg h7] at hf
      refine sk_aload_n K dX3_firstAt_15 rfl 0 rfl ?_
      obtain ⟨h12, hf⟩ := sk_ib hf
      obtain ⟨⟨v9, d11⟩, e10, hf⟩ := sk_ob hf
      try dsimp only at hf
      refine sk_callV (As := []) (st := []) K dX3_firstAt_16 cl_X3_45 h12 (sX3_total C l e10) (by decide) rfl rfl (Nat.le_of_ble_eq_true rfl) R1 R2 ?_
      refine sk_if_ne 24 K dX3_firstAt_19 (by decide) (fun h14 => ?_) (fun h14 => ?_)
      · rw [if_neg h14] at hf
        refine sk_iconst (0 : Int32) K dX3_firstAt_24 (by decide) ?_
        refine sk_istore_n [(2, .int (0 : Int32)), (0, .ref p0), (1, .int p1)] K dX3_firstAt_25 rfl (by decide) rfl ?_
        refine sk_iconst (-1 : Int32) K dX3_firstAt_26 (by decide) ?_
        refine sk_istore_n [(3, .int (-1 : Int32)), (2, .int (0 : Int32)), (0, .ref p0), (1, .int p1)] K dX3_firstAt_27 rfl (by decide) rfl ?_
        refine sk_iconst (0 : Int32) K dX3_firstAt_28 (by decide) ?_
        refine sk_istore [(4, .int (0 : Int32)), (3, .int (-1 : Int32)), (2, .int (0 : Int32)), (0, .ref p0), (1, .int p1)] K dX3_firstAt_29 (by decide) rfl ?_
        obtain ⟨x1, he1, hf⟩ := sk_ob hf
        have hret1 : ∀ r, r = x1 → r = (rr, dd) := by
          intro r hr
          subst hr
          exact Option.some.inj hf
        refine sk_sub [(0, .ref p0), (1, .int p1), (2, .int (0 : Int32)), (3, .int (-1 : Int32)), (4, .int (0 : Int32))] [3, 4, 2, 1, 0] rfl ?_
        refine sk_loop (fun s1 => sk_G X C 5 S d11 31 [(0, .ref p0), (1, .int p1), (2, .int s1.1), (3, .int s1.2.1), (4, .int s1.2.2)] []) he1 (fun s1 o1 hf ih1 hx1 => ?_)
        unfold fX3_firstAt_L31 at hf
        refine sk_iload K dX3_firstAt_31 4 rfl ?_
        refine sk_iload_n K dX3_firstAt_33 rfl 1 rfl ?_
        refine sk_icmp_gt 70 K dX3_firstAt_34 (by decide) (fun h15 => ?_) (fun h15 => ?_)
        · rw [if_pos h15] at hf
          refine sk_iload_n K dX3_firstAt_70 rfl 3 rfl ?_
          have hR16 : (s1.2.1, d11) = (rr, dd) := hret1 _ (hx1 _ (Option.some.inj hf).symm)
          exact sk_iret K dX3_firstAt_71 rfl rfl (congrArg (fun z => z.1) hR16) rfl (congrArg (fun z => z.2) hR16)
        · rw [if_neg h15] at hf
          refine sk_iload K dX3_firstAt_37 4 rfl ?_
          refine sk_bipush (8 : Int32) K dX3_firstAt_39 (by decide) ?_
          refine sk_icmp_ge 70 K dX3_firstAt_41 (by decide) (fun h17 => ?_) (fun h17 => ?_)
          · rw [if_pos h17] at hf
            refine sk_iload_n K dX3_firstAt_70 rfl 3 rfl ?_
            have hR18 : (s1.2.1, d11) = (rr, dd) := hret1 _ (hx1 _ (Option.some.inj hf).symm)
            exact sk_iret K dX3_firstAt_71 rfl rfl (congrArg (fun z => z.1) hR18) rfl (congrArg (fun z => z.2) hR18)
          · rw [if_neg h17] at hf
            refine sk_aload_n K dX3_firstAt_44 rfl 0 rfl ?_
            refine sk_iload_n K dX3_firstAt_45 rfl 2 rfl ?_
            obtain ⟨h21, hf⟩ := sk_ib hf
            obtain ⟨v19, e20, hf⟩ := sk_ob hf
            refine sk_callV (As := [.int s1.1]) (st := []) K dX3_firstAt_46 cl_X3_49 h21 (sX3_firstBehind C l e20) (by decide) rfl rfl (Nat.le_of_ble_eq_true rfl) R1 R2 ?_
            refine sk_istore_n [(3, .int v19), (0, .ref p0), (1, .int p1), (2, .int s1.1), (4, .int s1.2.2)] K dX3_firstAt_49 rfl (by decide) rfl ?_
            refine sk_iload_n K dX3_firstAt_50 rfl 3 rfl ?_
            refine sk_iload_n K dX3_firstAt_51 rfl 0 rfl ?_
            refine sk_if_ge 59 K dX3_firstAt_52 (by decide) (fun h22 => ?_) (fun h22 => ?_)
            · rw [if_pos h22] at hf
              refine sk_iconst (1 : Int32) K dX3_firstAt_59 (by decide) ?_
              refine sk_iload_n K dX3_firstAt_60 rfl 0 rfl ?_
              refine sk_ishl K dX3_firstAt_61 ?_
              refine sk_ior K dX3_firstAt_62 ?_
              refine sk_istore_n [(2, .int (s1.1 ||| ((1 : Int32) <<< (v19 &&& 31)))), (3, .int v19), (0, .ref p0), (1, .int p1), (4, .int s1.2.2)] K dX3_firstAt_63 rfl (by decide) rfl ?_
              refine sk_iinc (s1.2.2 + 1) [(4, .int (s1.2.2 + 1)), (2, .int (s1.1 ||| ((1 : Int32) <<< (v19 &&& 31)))), (3, .int v19), (0, .ref p0), (1, .int p1)] K dX3_firstAt_64 4 rfl rfl (by decide) rfl ?_
              refine sk_goto 31 K dX3_firstAt_67 (by decide) ?_
              refine sk_sub [(0, .ref p0), (1, .int p1), (2, .int (s1.1 ||| ((1 : Int32) <<< (v19 &&& 31)))), (3, .int v19), (4, .int (s1.2.2 + 1))] [3, 4, 1, 2, 0] rfl ?_
              have h9 := ih1 _ (Option.some.inj hf).symm
              exact h9
            · rw [if_neg h22] at hf
              refine sk_iconst (0 : Int32) K dX3_firstAt_55 (by decide) ?_
              refine sk_goto 62 K dX3_firstAt_56 (by decide) ?_
              refine sk_ior K dX3_firstAt_62 ?_
              refine sk_istore_n [(2, .int (s1.1 ||| (0 : Int32))), (3, .int v19), (0, .ref p0), (1, .int p1), (4, .int s1.2.2)] K dX3_firstAt_63 rfl (by decide) rfl ?_
              refine sk_iinc (s1.2.2 + 1) [(4, .int (s1.2.2 + 1)), (2, .int (s1.1 ||| (0 : Int32))), (3, .int v19), (0, .ref p0), (1, .int p1)] K dX3_firstAt_64 4 rfl rfl (by decide) rfl ?_
              refine sk_goto 31 K dX3_firstAt_67 (by decide) ?_
              refine sk_sub [(0, .ref p0), (1, .int p1), (2, .int (s1.1 ||| (0 : Int32))), (3, .int v19), (4, .int (s1.2.2 + 1))] [3, 4, 1, 2, 0] rfl ?_
              have h9 := ih1 _ (Option.some.inj hf).symm
              exact h9
      · rw [if_pos h14] at hf
        refine sk_iconst (-1 : Int32) K dX3_firstAt_22 (by decide) ?_
        have hR23 : ((-1 : Int32), d11) = (rr, dd) := Option.some.inj hf
        exact sk_iret K dX3_firstAt_23 rfl rfl (congrArg (fun z => z.1) hR23) rfl (congrArg (fun z => z.2) hR23)
noncomputable def fX4_begin (S : sk_S) (d : sk_D) (p0 : Nat) (p1 : Int32) : Option (sk_D) :=
  (sk_pI S d p0 4 1 p1).bind fun d1 => (sk_pI S d1 p0 4 2 (0 : Int32)).bind fun d3 => some d3
set_option maxRecDepth 100000 in
set_option maxHeartbeats 4000000 in
theorem sX4_begin (C : sk_C) (l : Launch) {S : sk_S} {d : sk_D} {p0 : Nat} {p1 : Int32} {dd : sk_D} (hf : fX4_begin S d p0 p1 = some dd) : sk_Met C l 0 yX4_begin cX4_begin 2 none [.ref p0, .int p1] S d none S dd := by
  refine sk_Met.of (by decide) (Nat.le_of_ble_eq_true rfl) (Nat.le_refl _) (Nat.le_refl _) (fun X K0 hX => ?_)
  have K : sk_Ok X C cX4_begin 2 RX4 "begin" none 0 l none S dd := K0
  have R1 : X.2.2.2.2.2.2.2.2.2.2.2.1 ≤ S.1.1 ∧ X.2.2.2.2.2.2.2.2.2.2.2.2 ≤ S.1.2 := by rw [hX]; exact ⟨Nat.le_refl _, Nat.le_refl _⟩
  have R2 : S.1.1 ≤ S.1.1 ∧ S.1.2 ≤ S.1.2 := ⟨Nat.le_refl _, Nat.le_refl _⟩
  show sk_G X C 2 S d 0 [(0, .ref p0), (1, .int p1)] []
  unfold fX4_begin at hf
  refine sk_aload_n K dX4_begin_0 rfl 0 rfl ?_
  refine sk_iload_n K dX4_begin_1 rfl 1 rfl ?_
  obtain ⟨d1, e2, hf⟩ := sk_ob hf
  refine sk_putI d1 K dX4_begin_2 fl_X4_13 rfl rfl rfl e2 ?_
  refine sk_aload_n K dX4_begin_5 rfl 0 rfl ?_
  refine sk_iconst (0 : Int32) K dX4_begin_6 (by decide) ?_
  obtain ⟨d3, e4, hf⟩ := sk_ob hf
  refine sk_putI d3 K dX4_begin_7 fl_X4_17 rfl rfl rfl e4 ?_
  have hR5 : d3 = dd := Option.some.inj hf
  exact sk_vret K dX4_begin_10 rfl rfl rfl hR5
noncomputable def fX4_forgetEldest_L2 (S : sk_S) (p0 : Nat) (s1 : Int32 × sk_D) : Option ((Int32 × sk_D) ⊕ (sk_D)) :=
  if (10 : Int32) ≤ s1.1 then ((sk_pI S s1.2 p0 4 2 (9 : Int32)).bind fun d2 => some (.inr d2)) else ((sk_gR S p0 4 0).bind fun v5 => (sk_gR S p0 4 0).bind fun v7 => (sk_lI S s1.2 v7 20 s1.1).bind fun v9 => (sk_sI S s1.2 v5 20 (s1.1 - (1 : Int32)) v9).bind fun d11 => some (.inl (s1.1 + 1, d11)))
noncomputable def fX4_forgetEldest (S : sk_S) (d : sk_D) (p0 : Nat) : Option (sk_D) :=
  (sk_itr (fX4_forgetEldest_L2 S p0) ((1 : Int32), d)).bind fun x1 => some x1
set_option maxRecDepth 100000 in
set_option maxHeartbeats 4000000 in
theorem sX4_forgetEldest (C : sk_C) (l : Launch) {S : sk_S} {d : sk_D} {p0 : Nat} {dd : sk_D} (hf : fX4_forgetEldest S d p0 = some dd) : sk_Met C l 0 yX4_forgetEldest cX4_forgetEldest 2 none [.ref p0] S d none S dd := by
  refine sk_Met.of (by decide) (Nat.le_of_ble_eq_true rfl) (Nat.le_refl _) (Nat.le_refl _) (fun X K0 hX => ?_)
  have K : sk_Ok X C cX4_forgetEldest 2 RX4 "forgetEldest" none 0 l none S dd := K0
  have R1 : X.2.2.2.2.2.2.2.2.2.2.2.1 ≤ S.1.1 ∧ X.2.2.2.2.2.2.2.2.2.2.2.2 ≤ S.1.2 := by rw [hX]; exact ⟨Nat.le_refl _, Nat.le_refl _⟩
  have R2 : S.1.1 ≤ S.1.1 ∧ S.1.2 ≤ S.1.2 := ⟨Nat.le_refl _, Nat.le_refl _⟩
  show sk_G X C 2 S d 0 [(0, .ref p0)] []
  unfold fX4_forgetEldest at hf
  refine sk_iconst (1 : Int32) K dX4_forgetEldest_0 (by decide) ?_
  refine sk_istore_n [(1, .int (1 : Int32)), (0, .ref p0)] K dX4_forgetEldest_1 rfl (by decide) rfl ?_
  obtain ⟨x1, he1, hf⟩ := sk_ob hf
  have hret1 : ∀ r, r = x1 → r = dd := by
    intro r hr
    subst hr
    exact Option.some.inj hf
  refine sk_sub [(0, .ref p0), (1, .int (1 : Int32))] [1, 0] rfl ?_
  refine sk_loop (fun s1 => sk_G X C 2 S s1.2 2 [(0, .ref p0), (1, .int s1.1)] []) he1 (fun s1 o1 hf ih1 hx1 => ?_)
  unfold fX4_forgetEldest_L2 at hf
  refine sk_iload_n K dX4_forgetEldest_2 rfl 1 rfl ?_
  refine sk_bipush (10 : Int32) K dX4_forgetEldest_3 (by decide) ?_
  refine sk_icmp_ge 28 K dX4_forgetEldest_5 (by decide) (fun h1 => ?_) (fun h1 => ?_)
  · rw [if_pos h1] at hf
    refine sk_aload_n K dX4_forgetEldest_28 rfl 0 rfl ?_
    refine sk_bipush (9 : Int32) K dX4_forgetEldest_29 (by decide) ?_
    obtain ⟨d2, e3, hf⟩ := sk_ob hf
    refine sk_putI d2 K dX4_forgetEldest_31 fl_X4_17 rfl rfl rfl e3 ?_
    have hR4 : d2 = dd := hret1 _ (hx1 _ (Option.some.inj hf).symm)
    exact sk_vret K dX4_forgetEldest_34 rfl rfl rfl hR4
  · rw [if_neg h1] at hf
    refine sk_aload_n K dX4_forgetEldest_8 rfl 0 rfl ?_
    obtain ⟨v5, e6, hf⟩ := sk_ob hf
    refine sk_getR K dX4_forgetEldest_9 fl_X4_9 rfl e6 ?_
    refine sk_iload_n K dX4_forgetEldest_12 rfl 1 rfl ?_
    refine sk_iconst (1 : Int32) K dX4_forgetEldest_13 (by decide) ?_
    refine sk_isub K dX4_forgetEldest_14 ?_
    refine sk_aload_n K dX4_forgetEldest_15 rfl 0 rfl ?_
    obtain ⟨v7, e8, hf⟩ := sk_ob hf
    refine sk_getR K dX4_forgetEldest_16 fl_X4_9 rfl e8 ?_
    refine sk_iload_n K dX4_forgetEldest_19 rfl 1 rfl ?_
    obtain ⟨v9, e10, hf⟩ := sk_ob hf
    refine sk_ald20 K dX4_forgetEldest_20 e10 ?_
    obtain ⟨d11, e12, hf⟩ := sk_ob hf
    refine sk_ast20 d11 K dX4_forgetEldest_21 e12 ?_
    refine sk_iinc (s1.1 + 1) [(1, .int (s1.1 + 1)), (0, .ref p0)] K dX4_forgetEldest_22 1 rfl rfl (by decide) rfl ?_
    refine sk_goto 2 K dX4_forgetEldest_25 (by decide) ?_
    refine sk_sub [(0, .ref p0), (1, .int (s1.1 + 1))] [1, 0] rfl ?_
    have h9 := ih1 _ (Option.some.inj hf).symm
    exact h9
noncomputable def fX4_goOn_J13 (S : sk_S) (p0 : Nat) (p1 : Int32) (d1 : sk_D) : Option (sk_D) :=
  (sk_gR S p0 4 0).bind fun v2 => (sk_gI S d1 p0 4 2).bind fun v4 => (sk_gI S d1 p0 4 1).bind fun v6 => (sk_sI S d1 v2 20 v4 v6).bind fun d8 => (sk_gI S d8 p0 4 2).bind fun v10 => (sk_pI S d8 p0 4 2 (v10 + (1 : Int32))).bind fun d12 => (sk_pI S d12 p0 4 1 p1).bind fun d14 => some d14
noncomputable def fX4_goOn (S : sk_S) (d : sk_D) (p0 : Nat) (p1 : Int32) : Option (sk_D) :=
  (sk_gI S d p0 4 2).bind fun v17 => if v17 < (10 : Int32) then (fX4_goOn_J13 S p0 p1 d) else (if S.2.1 p0 = (4, 0) then ((fX4_forgetEldest S d p0).bind fun d22 => fX4_goOn_J13 S p0 p1 d22) else none)
set_option maxRecDepth 100000 in
set_option maxHeartbeats 4000000 in
theorem sX4_goOn (C : sk_C) (l : Launch) {S : sk_S} {d : sk_D} {p0 : Nat} {p1 : Int32} {dd : sk_D} (hf : fX4_goOn S d p0 p1 = some dd) : sk_Met C l 1 yX4_goOn cX4_goOn 2 none [.ref p0, .int p1] S d none S dd := by
  refine sk_Met.of (by decide) (Nat.le_of_ble_eq_true rfl) (Nat.le_refl _) (Nat.le_refl _) (fun X K0 hX => ?_)
  have K : sk_Ok X C cX4_goOn 2 RX4 "goOn" none 1 l none S dd := K0
  have R1 : X.2.2.2.2.2.2.2.2.2.2.2.1 ≤ S.1.1 ∧ X.2.2.2.2.2.2.2.2.2.2.2.2 ≤ S.1.2 := by rw [hX]; exact ⟨Nat.le_refl _, Nat.le_refl _⟩
  have R2 : S.1.1 ≤ S.1.1 ∧ S.1.2 ≤ S.1.2 := ⟨Nat.le_refl _, Nat.le_refl _⟩
  show sk_G X C 2 S d 0 [(0, .ref p0), (1, .int p1)] []
  unfold fX4_goOn at hf
  have j13_0 : ∀ (d1 : sk_D), fX4_goOn_J13 S p0 p1 d1 = some dd → sk_G X C 2 S d1 13 [(0, .ref p0), (1, .int p1)] [] := by
    intro d1 hf
    unfold fX4_goOn_J13 at hf
    refine sk_aload_n K dX4_goOn_13 rfl 0 rfl ?_
    obtain ⟨v2, e3, hf⟩ := sk_ob hf
    refine sk_getR K dX4_goOn_14 fl_X4_9 rfl e3 ?_
    refine sk_aload_n K dX4_goOn_17 rfl 0 rfl ?_
    obtain ⟨v4, e5, hf⟩ := sk_ob hf
    refine sk_getI K dX4_goOn_18 fl_X4_17 rfl e5 ?_
    refine sk_aload_n K dX4_goOn_21 rfl 0 rfl ?_
    obtain ⟨v6, e7, hf⟩ := sk_ob hf
    refine sk_getI K dX4_goOn_22 fl_X4_13 rfl e7 ?_
    obtain ⟨d8, e9, hf⟩ := sk_ob hf
    refine sk_ast20 d8 K dX4_goOn_25 e9 ?_
    refine sk_aload_n K dX4_goOn_26 rfl 0 rfl ?_
    refine sk_dup K dX4_goOn_27 rfl ?_
    obtain ⟨v10, e11, hf⟩ := sk_ob hf
    refine sk_getI K dX4_goOn_28 fl_X4_17 rfl e11 ?_
    refine sk_iconst (1 : Int32) K dX4_goOn_31 (by decide) ?_
    refine sk_iadd K dX4_goOn_32 ?_
    obtain ⟨d12, e13, hf⟩ := sk_ob hf
    refine sk_putI d12 K dX4_goOn_33 fl_X4_17 rfl rfl rfl e13 ?_
    refine sk_aload_n K dX4_goOn_36 rfl 0 rfl ?_
    refine sk_iload_n K dX4_goOn_37 rfl 1 rfl ?_
    obtain ⟨d14, e15, hf⟩ := sk_ob hf
    refine sk_putI d14 K dX4_goOn_38 fl_X4_13 rfl rfl rfl e15 ?_
    have hR16 : d14 = dd := Option.some.inj hf
    exact sk_vret K dX4_goOn_41 rfl rfl rfl hR16
  refine sk_aload_n K dX4_goOn_0 rfl 0 rfl ?_
  obtain ⟨v17, e18, hf⟩ := sk_ob hf
  refine sk_getI K dX4_goOn_1 fl_X4_17 rfl e18 ?_
  refine sk_bipush (10 : Int32) K dX4_goOn_4 (by decide) ?_
  refine sk_icmp_lt 13 K dX4_goOn_6 (by decide) (fun h19 => ?_) (fun h19 => ?_)
  · rw [if_pos h19] at hf
    refine sk_sub [(0, .ref p0), (1, .int p1)] [0, 1] rfl ?_
    have h9 := j13_0 _ hf
    exact h9
  · rw [if_neg h19] at hf
    refine sk_aload_n K dX4_goOn_9 rfl 0 rfl ?_
    obtain ⟨h23, hf⟩ := sk_ib hf
    obtain ⟨d22, e21, hf⟩ := sk_ob hf
    refine sk_callV (As := []) (st := []) K dX4_goOn_10 cl_X4_20 h23 (sX4_forgetEldest C l e21) (by decide) rfl rfl (Nat.le_of_ble_eq_true rfl) R1 R2 ?_
    refine sk_sub [(0, .ref p0), (1, .int p1)] [0, 1] rfl ?_
    have h9 := j13_0 _ hf
    exact h9
noncomputable def fX4_goBack (S : sk_S) (d : sk_D) (p0 : Nat) (p1 : Int32) : Option (sk_D) :=
  if p1 ≤ 0 then (some d) else ((sk_gI S d p0 4 2).bind fun v3 => if v3 < p1 then (some d) else ((sk_gI S d p0 4 2).bind fun v7 => (sk_pI S d p0 4 2 (v7 - p1)).bind fun d9 => (sk_gR S p0 4 0).bind fun v11 => (sk_gI S d9 p0 4 2).bind fun v13 => (sk_lI S d9 v11 20 v13).bind fun v15 => (sk_pI S d9 p0 4 1 v15).bind fun d17 => some d17))
set_option maxRecDepth 100000 in
set_option maxHeartbeats 4000000 in
theorem sX4_goBack (C : sk_C) (l : Launch) {S : sk_S} {d : sk_D} {p0 : Nat} {p1 : Int32} {dd : sk_D} (hf : fX4_goBack S d p0 p1 = some dd) : sk_Met C l 0 yX4_goBack cX4_goBack 2 none [.ref p0, .int p1] S d none S dd := by
  refine sk_Met.of (by decide) (Nat.le_of_ble_eq_true rfl) (Nat.le_refl _) (Nat.le_refl _) (fun X K0 hX => ?_)
  have K : sk_Ok X C cX4_goBack 2 RX4 "goBack" none 0 l none S dd := K0
  have R1 : X.2.2.2.2.2.2.2.2.2.2.2.1 ≤ S.1.1 ∧ X.2.2.2.2.2.2.2.2.2.2.2.2 ≤ S.1.2 := by rw [hX]; exact ⟨Nat.le_refl _, Nat.le_refl _⟩
  have R2 : S.1.1 ≤ S.1.1 ∧ S.1.2 ≤ S.1.2 := ⟨Nat.le_refl _, Nat.le_refl _⟩
  show sk_G X C 2 S d 0 [(0, .ref p0), (1, .int p1)] []
  unfold fX4_goBack at hf
  refine sk_iload_n K dX4_goBack_0 rfl 1 rfl ?_
  refine sk_if_le 35 K dX4_goBack_1 (by decide) (fun h1 => ?_) (fun h1 => ?_)
  · rw [if_pos h1] at hf
    have hR2 : d = dd := Option.some.inj hf
    exact sk_vret K dX4_goBack_35 rfl rfl rfl hR2
  · rw [if_neg h1] at hf
    refine sk_iload_n K dX4_goBack_4 rfl 1 rfl ?_
    refine sk_aload_n K dX4_goBack_5 rfl 0 rfl ?_
    obtain ⟨v3, e4, hf⟩ := sk_ob hf
    refine sk_getI K dX4_goBack_6 fl_X4_17 rfl e4 ?_
    refine sk_icmp_gt 35 K dX4_goBack_9 (by decide) (fun h5 => ?_) (fun h5 => ?_)
    · rw [if_pos h5] at hf
      have hR6 : d = dd := Option.some.inj hf
      exact sk_vret K dX4_goBack_35 rfl rfl rfl hR6
    · rw [if_neg h5] at hf
      refine sk_aload_n K dX4_goBack_12 rfl 0 rfl ?_
      refine sk_dup K dX4_goBack_13 rfl ?_
      obtain ⟨v7, e8, hf⟩ := sk_ob hf
      refine sk_getI K dX4_goBack_14 fl_X4_17 rfl e8 ?_
      refine sk_iload_n K dX4_goBack_17 rfl 1 rfl ?_
      refine sk_isub K dX4_goBack_18 ?_
      obtain ⟨d9, e10, hf⟩ := sk_ob hf
      refine sk_putI d9 K dX4_goBack_19 fl_X4_17 rfl rfl rfl e10 ?_
      refine sk_aload_n K dX4_goBack_22 rfl 0 rfl ?_
      refine sk_aload_n K dX4_goBack_23 rfl 0 rfl ?_
      obtain ⟨v11, e12, hf⟩ := sk_ob hf
      refine sk_getR K dX4_goBack_24 fl_X4_9 rfl e12 ?_
      refine sk_aload_n K dX4_goBack_27 rfl 0 rfl ?_
      obtain ⟨v13, e14, hf⟩ := sk_ob hf
      refine sk_getI K dX4_goBack_28 fl_X4_17 rfl e14 ?_
      obtain ⟨v15, e16, hf⟩ := sk_ob hf
      refine sk_ald20 K dX4_goBack_31 e16 ?_
      obtain ⟨d17, e18, hf⟩ := sk_ob hf
      refine sk_putI d17 K dX4_goBack_32 fl_X4_13 rfl rfl rfl e18 ?_
      have hR19 : d17 = dd := Option.some.inj hf
      exact sk_vret K dX4_goBack_35 rfl rfl rfl hR19
noncomputable def fX5_runEnd_L3 (S : sk_S) (d : sk_D) (p0 : Nat) (p1 : Int32) (p3 : Int32) (p4 : Int32) (s1 : Int32) : Option ((Int32) ⊕ (Int32)) :=
  if p1 ≤ s1 then (some (.inr s1)) else ((sk_lI S d p0 20 s1).bind fun v3 => if v3 < p3 then (some (.inr s1)) else ((sk_lI S d p0 20 s1).bind fun v7 => if p4 < v7 then (some (.inr s1)) else (some (.inl (s1 + 1)))))
noncomputable def fX5_runEnd (S : sk_S) (d : sk_D) (p0 : Nat) (p1 : Int32) (p2 : Int32) (p3 : Int32) (p4 : Int32) : Option (Int32) :=
  (sk_itr (fX5_runEnd_L3 S d p0 p1 p3 p4) p2).bind fun x1 => some x1
set_option maxRecDepth 100000 in
set_option maxHeartbeats 4000000 in
theorem sX5_runEnd (C : sk_C) (l : Launch) {S : sk_S} {d : sk_D} {p0 : Nat} {p1 : Int32} {p2 : Int32} {p3 : Int32} {p4 : Int32} {rr : Int32} (hf : fX5_runEnd S d p0 p1 p2 p3 p4 = some rr) : sk_Met C l 0 yX5_runEnd cX5_runEnd 6 (some .int) [.ref p0, .int p1, .int p2, .int p3, .int p4] S d (some (.int rr)) S d := by
  refine sk_Met.of (by decide) (Nat.le_of_ble_eq_true rfl) (Nat.le_refl _) (Nat.le_refl _) (fun X K0 hX => ?_)
  have K : sk_Ok X C cX5_runEnd 6 RX5 "runEnd" (some .int) 0 l (some (.int rr)) S d := K0
  have R1 : X.2.2.2.2.2.2.2.2.2.2.2.1 ≤ S.1.1 ∧ X.2.2.2.2.2.2.2.2.2.2.2.2 ≤ S.1.2 := by rw [hX]; exact ⟨Nat.le_refl _, Nat.le_refl _⟩
  have R2 : S.1.1 ≤ S.1.1 ∧ S.1.2 ≤ S.1.2 := ⟨Nat.le_refl _, Nat.le_refl _⟩
  show sk_G X C 6 S d 0 [(0, .ref p0), (1, .int p1), (2, .int p2), (3, .int p3), (4, .int p4)] []
  unfold fX5_runEnd at hf
  refine sk_iload_n K dX5_runEnd_0 rfl 2 rfl ?_
  refine sk_istore [(5, .int p2), (0, .ref p0), (1, .int p1), (2, .int p2), (3, .int p3), (4, .int p4)] K dX5_runEnd_1 (by decide) rfl ?_
  obtain ⟨x1, he1, hf⟩ := sk_ob hf
  have hret1 : ∀ r, r = x1 → r = rr := by
    intro r hr
    subst hr
    exact Option.some.inj hf
  refine sk_sub [(0, .ref p0), (1, .int p1), (3, .int p3), (4, .int p4), (5, .int p2)] [1, 2, 4, 5, 0] rfl ?_
  refine sk_loop (fun s1 => sk_G X C 6 S d 3 [(0, .ref p0), (1, .int p1), (3, .int p3), (4, .int p4), (5, .int s1)] []) he1 (fun s1 o1 hf ih1 hx1 => ?_)
  unfold fX5_runEnd_L3 at hf
  refine sk_iload K dX5_runEnd_3 4 rfl ?_
  refine sk_iload_n K dX5_runEnd_5 rfl 1 rfl ?_
  refine sk_icmp_ge 32 K dX5_runEnd_6 (by decide) (fun h1 => ?_) (fun h1 => ?_)
  · rw [if_pos h1] at hf
    refine sk_iload K dX5_runEnd_32 4 rfl ?_
    have hR2 : s1 = rr := hret1 _ (hx1 _ (Option.some.inj hf).symm)
    exact sk_iret K dX5_runEnd_34 rfl rfl hR2 rfl rfl
  · rw [if_neg h1] at hf
    refine sk_aload_n K dX5_runEnd_9 rfl 0 rfl ?_
    refine sk_iload K dX5_runEnd_10 4 rfl ?_
    obtain ⟨v3, e4, hf⟩ := sk_ob hf
    refine sk_ald20 K dX5_runEnd_12 e4 ?_
    refine sk_iload_n K dX5_runEnd_13 rfl 2 rfl ?_
    refine sk_icmp_lt 32 K dX5_runEnd_14 (by decide) (fun h5 => ?_) (fun h5 => ?_)
    · rw [if_pos h5] at hf
      refine sk_iload K dX5_runEnd_32 4 rfl ?_
      have hR6 : s1 = rr := hret1 _ (hx1 _ (Option.some.inj hf).symm)
      exact sk_iret K dX5_runEnd_34 rfl rfl hR6 rfl rfl
    · rw [if_neg h5] at hf
      refine sk_aload_n K dX5_runEnd_17 rfl 0 rfl ?_
      refine sk_iload K dX5_runEnd_18 4 rfl ?_
      obtain ⟨v7, e8, hf⟩ := sk_ob hf
      refine sk_ald20 K dX5_runEnd_20 e8 ?_
      refine sk_iload K dX5_runEnd_21 3 rfl ?_
      refine sk_icmp_gt 32 K dX5_runEnd_23 (by decide) (fun h9 => ?_) (fun h9 => ?_)
      · rw [if_pos h9] at hf
        refine sk_iload K dX5_runEnd_32 4 rfl ?_
        have hR10 : s1 = rr := hret1 _ (hx1 _ (Option.some.inj hf).symm)
        exact sk_iret K dX5_runEnd_34 rfl rfl hR10 rfl rfl
      · rw [if_neg h9] at hf
        refine sk_iinc (s1 + 1) [(5, .int (s1 + 1)), (0, .ref p0), (1, .int p1), (3, .int p3), (4, .int p4)] K dX5_runEnd_26 4 rfl rfl (by decide) rfl ?_
        refine sk_goto 3 K dX5_runEnd_29 (by decide) ?_
        refine sk_sub [(0, .ref p0), (1, .int p1), (3, .int p3), (4, .int p4), (5, .int (s1 + 1))] [1, 2, 3, 4, 0] rfl ?_
        have h9 := ih1 _ (Option.some.inj hf).symm
        exact h9
noncomputable def fX5_wordAt_J54i28 (s1 : Int32) (v7 : Int32) (v8 : Int32) (v9 : Int32) : Option ((Int32 × Int32) ⊕ (Int32)) :=
  if v7 = 0 then (some (.inl ((0 : Int32), v8 + 1))) else ((sk_ch 0 (s1 + v8)).bind fun v11 => if v11 = v9 then (some (.inl ((1 : Int32), v8 + 1))) else (some (.inl ((0 : Int32), v8 + 1))))
noncomputable def fX5_wordAt_L28 (S : sk_S) (d : sk_D) (p0 : Nat) (p1 : Int32) (p2 : Int32) (s1 : Int32) (s2 : Int32 × Int32) : Option ((Int32 × Int32) ⊕ (Int32)) :=
  if (6 : Int32) ≤ s2.2 then (some (.inr s2.1)) else (if p2 ≤ (p1 + s2.2) then (fX5_wordAt_J54i28 s1 s2.1 s2.2 (32 : Int32)) else ((sk_lI S d p0 20 (p1 + s2.2)).bind fun v16 => fX5_wordAt_J54i28 s1 s2.1 s2.2 v16))
noncomputable def fX5_wordAt_L2 (S : sk_S) (d : sk_D) (p0 : Nat) (p1 : Int32) (p2 : Int32) (s1 : Int32) : Option ((Int32) ⊕ (Int32)) :=
  if (114 : Int32) < (s1 + (6 : Int32)) then (some (.inr (201 : Int32))) else (if (6 : Int32) < (p2 - p1) then (some (.inr (201 : Int32))) else ((sk_itr (fX5_wordAt_L28 S d p0 p1 p2 s1) ((1 : Int32), (0 : Int32))).bind fun y2 => if y2 = 0 then (some (.inl (s1 + 6))) else (some (.inr (s1 / (6 : Int32))))))
noncomputable def fX5_wordAt (S : sk_S) (d : sk_D) (p0 : Nat) (p1 : Int32) (p2 : Int32) : Option (Int32) :=
  (sk_itr (fX5_wordAt_L2 S d p0 p1 p2) (0 : Int32)).bind fun x1 => some x1
set_option maxRecDepth 100000 in
set_option maxHeartbeats 4000000 in
theorem sX5_wordAt (C : sk_C) (l : Launch) {S : sk_S} {d : sk_D} {p0 : Nat} {p1 : Int32} {p2 : Int32} {rr : Int32} (hf : fX5_wordAt S d p0 p1 p2 = some rr) : sk_Met C l 7 yX5_wordAt cX5_wordAt 7 (some .int) [.ref p0, .int p1, .int p2] S d (some (.int rr)) S d := by
  refine sk_Met.of (by decide) (Nat.le_of_ble_eq_true rfl) (Nat.le_refl _) (Nat.le_refl _) (fun X K0 hX => ?_)
  have K : sk_Ok X C cX5_wordAt 7 RX5 "wordAt" (some .int) 7 l (some (.int rr)) S d := K0
  have R1 : X.2.2.2.2.2.2.2.2.2.2.2.1 ≤ S.1.1 ∧ X.2.2.2.2.2.2.2.2.2.2.2.2 ≤ S.1.2 := by rw [hX]; exact ⟨Nat.le_refl _, Nat.le_refl _⟩
  have R2 : S.1.1 ≤ S.1.1 ∧ S.1.2 ≤ S.1.2 := ⟨Nat.le_refl _, Nat.le_refl _⟩
  show sk_G X C 7 S d 0 [(0, .ref p0), (1, .int p1), (2, .int p2)] []
  unfold fX5_wordAt at hf
  refine sk_iconst (0 : Int32) K dX5_wordAt_0 (by decide) ?_
  refine sk_istore_n [(3, .int (0 : Int32)), (0, .ref p0), (1, .int p1), (2, .int p2)] K dX5_wordAt_1 rfl (by decide) rfl ?_
  obtain ⟨x1, he1, hf⟩ := sk_ob hf
  have hret1 : ∀ r, r = x1 → r = rr := by
    intro r hr
    subst hr
    exact Option.some.inj hf
  refine sk_sub [(0, .ref p0), (1, .int p1), (2, .int p2), (3, .int (0 : Int32))] [1, 2, 3, 0] rfl ?_
  refine sk_loop (fun s1 => sk_G X C 7 S d 2 [(0, .ref p0), (1, .int p1), (2, .int p2), (3, .int s1)] []) he1 (fun s1 o1 hf ih1 hx1 => ?_)
  unfold fX5_wordAt_L2 at hf
  refine sk_iload_n K dX5_wordAt_2 rfl 3 rfl ?_
  refine sk_bipush (6 : Int32) K dX5_wordAt_3 (by decide) ?_
  refine sk_iadd K dX5_wordAt_5 ?_
  refine sk_ldcS (0 : UInt32) K dX5_wordAt_6 sk_str_X5_91 ?_
  refine sk_strlen (k := 0) (v := 114) K dX5_wordAt_8 qw_486 (by decide) (by decide) (Nat.le_of_ble_eq_true rfl) R2 (by decide) ?_
  refine sk_icmp_gt 104 K dX5_wordAt_11 (by decide) (fun h1 => ?_) (fun h1 => ?_)
  · rw [if_pos h1] at hf
    refine sk_sipush (201 : Int32) K dX5_wordAt_104 (by decide) ?_
    have hR2 : (201 : Int32) = rr := hret1 _ (hx1 _ (Option.some.inj hf).symm)
    exact sk_iret K dX5_wordAt_107 rfl rfl hR2 rfl rfl
  · rw [if_neg h1] at hf
    refine sk_iload_n K dX5_wordAt_14 rfl 2 rfl ?_
    refine sk_iload_n K dX5_wordAt_15 rfl 1 rfl ?_
    refine sk_isub K dX5_wordAt_16 ?_
    refine sk_bipush (6 : Int32) K dX5_wordAt_17 (by decide) ?_
    refine sk_icmp_gt 104 K dX5_wordAt_19 (by decide) (fun h3 => ?_) (fun h3 => ?_)
    · rw [if_pos h3] at hf
      refine sk_sipush (201 : Int32) K dX5_wordAt_104 (by decide) ?_
      have hR4 : (201 : Int32) = rr := hret1 _ (hx1 _ (Option.some.inj hf).symm)
      exact sk_iret K dX5_wordAt_107 rfl rfl hR4 rfl rfl
    · rw [if_neg h3] at hf
      refine sk_iconst (1 : Int32) K dX5_wordAt_22 (by decide) ?_
      refine sk_istore [(4, .int (1 : Int32)), (0, .ref p0), (1, .int p1), (2, .int p2), (3, .int s1)] K dX5_wordAt_23 (by decide) rfl ?_
      refine sk_iconst (0 : Int32) K dX5_wordAt_25 (by decide) ?_
      refine sk_istore [(5, .int (0 : Int32)), (4, .int (1 : Int32)), (0, .ref p0), (1, .int p1), (2, .int p2), (3, .int s1)] K dX5_wordAt_26 (by decide) rfl ?_
      obtain ⟨x2, he2, hf⟩ := sk_ob hf
      have rest2 : ∀ y2, y2 = x2 → sk_G X C 7 S d 88 [(0, .ref p0), (1, .int p1), (2, .int p2), (3, .int s1), (4, .int y2)] [] := by
        intro y2 hy
        subst hy
        refine sk_iload K dX5_wordAt_88 4 rfl ?_
        refine sk_if_eq 98 K dX5_wordAt_90 (by decide) (fun h5 => ?_) (fun h5 => ?_)
        · rw [if_pos h5] at hf
          refine sk_iinc (s1 + 6) [(3, .int (s1 + 6)), (0, .ref p0), (1, .int p1), (2, .int p2), (4, .int y2)] K dX5_wordAt_98 3 rfl rfl (by decide) rfl ?_
          refine sk_goto 2 K dX5_wordAt_101 (by decide) ?_
          refine sk_sub [(0, .ref p0), (1, .int p1), (2, .int p2), (3, .int (s1 + 6))] [1, 2, 3, 0] rfl ?_
          have h9 := ih1 _ (Option.some.inj hf).symm
          exact h9
        · rw [if_neg h5] at hf
          refine sk_iload_n K dX5_wordAt_93 rfl 3 rfl ?_
          refine sk_bipush (6 : Int32) K dX5_wordAt_94 (by decide) ?_
          refine sk_idiv K dX5_wordAt_96 (by decide) ?_
          have hR6 : (s1 / (6 : Int32)) = rr := hret1 _ (hx1 _ (Option.some.inj hf).symm)
          exact sk_iret K dX5_wordAt_97 rfl rfl hR6 rfl rfl
      refine sk_sub [(0, .ref p0), (1, .int p1), (2, .int p2), (3, .int s1), (4, .int (1 : Int32)), (5, .int (0 : Int32))] [2, 3, 4, 5, 1, 0] rfl ?_
      refine sk_loop (fun s2 => sk_G X C 7 S d 28 [(0, .ref p0), (1, .int p1), (2, .int p2), (3, .int s1), (4, .int s2.1), (5, .int s2.2)] []) he2 (fun s2 o2 hf ih2 hx2 => ?_)
      unfold fX5_wordAt_L28 at hf
      have j54_2 : ∀ (v7 : Int32) (v8 : Int32) (v9 : Int32), fX5_wordAt_J54i28 s1 v7 v8 v9 = some o2 → sk_G X C 7 S d 54 [(0, .ref p0), (1, .int p1), (2, .int p2), (3, .int s1), (4, .int v7), (5, .int v8)] [.int v9] := by
        intro v7 v8 v9 hf
        unfold fX5_wordAt_J54i28 at hf
        refine sk_istore [(6, .int v9), (0, .ref p0), (1, .int p1), (2, .int p2), (3, .int s1), (4, .int v7), (5, .int v8)] K dX5_wordAt_54 (by decide) rfl ?_
        refine sk_iload K dX5_wordAt_56 5 rfl ?_
        refine sk_if_eq 79 K dX5_wordAt_58 (by decide) (fun h10 => ?_) (fun h10 => ?_)
        · rw [if_pos h10] at hf
          refine sk_iconst (0 : Int32) K dX5_wordAt_79 (by decide) ?_
          refine sk_istore [(4, .int (0 : Int32)), (6, .int v9), (0, .ref p0), (1, .int p1), (2, .int p2), (3, .int s1), (5, .int v8)] K dX5_wordAt_80 (by decide) rfl ?_
          refine sk_iinc (v8 + 1) [(5, .int (v8 + 1)), (4, .int (0 : Int32)), (6, .int v9), (0, .ref p0), (1, .int p1), (2, .int p2), (3, .int s1)] K dX5_wordAt_82 6 rfl rfl (by decide) rfl ?_
          refine sk_goto 28 K dX5_wordAt_85 (by decide) ?_
          refine sk_sub [(0, .ref p0), (1, .int p1), (2, .int p2), (3, .int s1), (4, .int (0 : Int32)), (5, .int (v8 + 1))] [3, 4, 5, 6, 1, 0] rfl ?_
          have h9 := ih2 _ (Option.some.inj hf).symm
          exact h9
        · rw [if_neg h10] at hf
          refine sk_ldcS (0 : UInt32) K dX5_wordAt_61 sk_str_X5_91 ?_
          refine sk_iload_n K dX5_wordAt_63 rfl 4 rfl ?_
          refine sk_iload K dX5_wordAt_64 6 rfl ?_
          refine sk_iadd K dX5_wordAt_66 ?_
          obtain ⟨v11, e12, hf⟩ := sk_ob hf
          refine sk_charAt (k := 0) K dX5_wordAt_67 qw_496 (by decide) (by decide) (Nat.le_of_ble_eq_true rfl) R2 e12 ?_
          refine sk_iload K dX5_wordAt_70 0 rfl ?_
          refine sk_icmp_ne 79 K dX5_wordAt_72 (by decide) (fun h13 => ?_) (fun h13 => ?_)
          · rw [if_neg h13] at hf
            refine sk_iconst (0 : Int32) K dX5_wordAt_79 (by decide) ?_
            refine sk_istore [(4, .int (0 : Int32)), (6, .int v9), (0, .ref p0), (1, .int p1), (2, .int p2), (3, .int s1), (5, .int v8)] K dX5_wordAt_80 (by decide) rfl ?_
            refine sk_iinc (v8 + 1) [(5, .int (v8 + 1)), (4, .int (0 : Int32)), (6, .int v9), (0, .ref p0), (1, .int p1), (2, .int p2), (3, .int s1)] K dX5_wordAt_82 6 rfl rfl (by decide) rfl ?_
            refine sk_goto 28 K dX5_wordAt_85 (by decide) ?_
            refine sk_sub [(0, .ref p0), (1, .int p1), (2, .int p2), (3, .int s1), (4, .int (0 : Int32)), (5, .int (v8 + 1))] [3, 4, 5, 6, 1, 0] rfl ?_
            have h9 := ih2 _ (Option.some.inj hf).symm
            exact h9
          · rw [if_pos h13] at hf
            refine sk_iconst (1 : Int32) K dX5_wordAt_75 (by decide) ?_
            refine sk_goto 80 K dX5_wordAt_76 (by decide) ?_
            refine sk_istore [(4, .int (1 : Int32)), (6, .int v9), (0, .ref p0), (1, .int p1), (2, .int p2), (3, .int s1), (5, .int v8)] K dX5_wordAt_80 (by decide) rfl ?_
            refine sk_iinc (v8 + 1) [(5, .int (v8 + 1)), (4, .int (1 : Int32)), (6, .int v9), (0, .ref p0), (1, .int p1), (2, .int p2), (3, .int s1)] K dX5_wordAt_82 6 rfl rfl (by decide) rfl ?_
            refine sk_goto 28 K dX5_wordAt_85 (by decide) ?_
            refine sk_sub [(0, .ref p0), (1, .int p1), (2, .int p2), (3, .int s1), (4, .int (1 : Int32)), (5, .int (v8 + 1))] [3, 4, 5, 6, 1, 0] rfl ?_
            have h9 := ih2 _ (Option.some.inj hf).symm
            exact h9
      refine sk_iload K dX5_wordAt_28 5 rfl ?_
      refine sk_bipush (6 : Int32) K dX5_wordAt_30 (by decide) ?_
      refine sk_icmp_ge 88 K dX5_wordAt_32 (by decide) (fun h14 => ?_) (fun h14 => ?_)
      · rw [if_pos h14] at hf
        refine sk_sub [(0, .ref p0), (1, .int p1), (2, .int p2), (3, .int s1), (4, .int s2.1)] [0, 1, 2, 3, 4] rfl ?_
        have h9 := rest2 _ (hx2 _ (Option.some.inj hf).symm)
        exact h9
      · rw [if_neg h14] at hf
        refine sk_iload_n K dX5_wordAt_35 rfl 1 rfl ?_
        refine sk_iload K dX5_wordAt_36 5 rfl ?_
        refine sk_iadd K dX5_wordAt_38 ?_
        refine sk_iload_n K dX5_wordAt_39 rfl 2 rfl ?_
        refine sk_icmp_ge 52 K dX5_wordAt_40 (by decide) (fun h15 => ?_) (fun h15 => ?_)
        · rw [if_pos h15] at hf
          refine sk_bipush (32 : Int32) K dX5_wordAt_52 (by decide) ?_
          refine sk_sub [(0, .ref p0), (1, .int p1), (2, .int p2), (3, .int s1), (4, .int s2.1), (5, .int s2.2)] [0, 1, 2, 3, 4, 5] rfl ?_
          have h9 := j54_2 _ _ _ hf
          exact h9
        · rw [if_neg h15] at hf
          refine sk_aload_n K dX5_wordAt_43 rfl 0 rfl ?_
          refine sk_iload_n K dX5_wordAt_44 rfl 1 rfl ?_
          refine sk_iload K dX5_wordAt_45 5 rfl ?_
          refine sk_iadd K dX5_wordAt_47 ?_
          obtain ⟨v16, e17, hf⟩ := sk_ob hf
          refine sk_ald20 K dX5_wordAt_48 e17 ?_
          refine sk_goto 54 K dX5_wordAt_49 (by decide) ?_
          refine sk_sub [(0, .ref p0), (1, .int p1), (2, .int p2), (3, .int s1), (4, .int s2.1), (5, .int s2.2)] [0, 1, 2, 3, 4, 5] rfl ?_
          have h9 := j54_2 _ _ _ hf
          exact h9
noncomputable def fX5_add (S : sk_S) (d : sk_D) (p0 : Nat) (p1 : Int32) (p2 : Int32) (p3 : Int32) : Option (sk_D) :=
  (sk_gI S d p0 5 6).bind fun v1 => (sk_gR S p0 5 3).bind fun v3 => (sk_al S v3 20).bind fun v5 => if v5 ≤ v1 then (some d) else ((sk_gR S p0 5 3).bind fun v9 => (sk_gI S d p0 5 6).bind fun v11 => (sk_sI S d v9 20 v11 p1).bind fun d13 => (sk_gR S p0 5 4).bind fun v15 => (sk_gI S d13 p0 5 6).bind fun v17 => (sk_sI S d13 v15 20 v17 p2).bind fun d19 => (sk_gR S p0 5 5).bind fun v21 => (sk_gI S d19 p0 5 6).bind fun v23 => (sk_sI S d19 v21 20 v23 p3).bind fun d25 => (sk_gI S d25 p0 5 6).bind fun v27 => (sk_pI S d25 p0 5 6 (v27 + (1 : Int32))).bind fun d29 => some d29)
set_option maxRecDepth 100000 in
set_option maxHeartbeats 4000000 in
theorem sX5_add (C : sk_C) (l : Launch) {S : sk_S} {d : sk_D} {p0 : Nat} {p1 : Int32} {p2 : Int32} {p3 : Int32} {dd : sk_D} (hf : fX5_add S d p0 p1 p2 p3 = some dd) : sk_Met C l 0 yX5_add cX5_add 4 none [.ref p0, .int p1, .int p2, .int p3] S d none S dd := by
  refine sk_Met.of (by decide) (Nat.le_of_ble_eq_true rfl) (Nat.le_refl _) (Nat.le_refl _) (fun X K0 hX => ?_)
  have K : sk_Ok X C cX5_add 4 RX5 "add" none 0 l none S dd := K0
  have R1 : X.2.2.2.2.2.2.2.2.2.2.2.1 ≤ S.1.1 ∧ X.2.2.2.2.2.2.2.2.2.2.2.2 ≤ S.1.2 := by rw [hX]; exact ⟨Nat.le_refl _, Nat.le_refl _⟩
  have R2 : S.1.1 ≤ S.1.1 ∧ S.1.2 ≤ S.1.2 := ⟨Nat.le_refl _, Nat.le_refl _⟩
  show sk_G X C 4 S d 0 [(0, .ref p0), (1, .int p1), (2, .int p2), (3, .int p3)] []
  unfold fX5_add at hf
  refine sk_aload_n K dX5_add_0 rfl 0 rfl ?_
  obtain ⟨v1, e2, hf⟩ := sk_ob hf
  refine sk_getI K dX5_add_1 fl_X5_35 rfl e2 ?_
  refine sk_aload_n K dX5_add_4 rfl 0 rfl ?_
  obtain ⟨v3, e4, hf⟩ := sk_ob hf
  refine sk_getR K dX5_add_5 fl_X5_25 rfl e4 ?_
  obtain ⟨v5, e6, hf⟩ := sk_ob hf
  refine sk_al20 K dX5_add_8 e6 ?_
  refine sk_icmp_ge 52 K dX5_add_9 (by decide) (fun h7 => ?_) (fun h7 => ?_)
  · rw [if_pos h7] at hf
    have hR8 : d = dd := Option.some.inj hf
    exact sk_vret K dX5_add_52 rfl rfl rfl hR8
  · rw [if_neg h7] at hf
    refine sk_aload_n K dX5_add_12 rfl 0 rfl ?_
    obtain ⟨v9, e10, hf⟩ := sk_ob hf
    refine sk_getR K dX5_add_13 fl_X5_25 rfl e10 ?_
    refine sk_aload_n K dX5_add_16 rfl 0 rfl ?_
    obtain ⟨v11, e12, hf⟩ := sk_ob hf
    refine sk_getI K dX5_add_17 fl_X5_35 rfl e12 ?_
    refine sk_iload_n K dX5_add_20 rfl 1 rfl ?_
    obtain ⟨d13, e14, hf⟩ := sk_ob hf
    refine sk_ast20 d13 K dX5_add_21 e14 ?_
    refine sk_aload_n K dX5_add_22 rfl 0 rfl ?_
    obtain ⟨v15, e16, hf⟩ := sk_ob hf
    refine sk_getR K dX5_add_23 fl_X5_29 rfl e16 ?_
    refine sk_aload_n K dX5_add_26 rfl 0 rfl ?_
    obtain ⟨v17, e18, hf⟩ := sk_ob hf
    refine sk_getI K dX5_add_27 fl_X5_35 rfl e18 ?_
    refine sk_iload_n K dX5_add_30 rfl 2 rfl ?_
    obtain ⟨d19, e20, hf⟩ := sk_ob hf
    refine sk_ast20 d19 K dX5_add_31 e20 ?_
    refine sk_aload_n K dX5_add_32 rfl 0 rfl ?_
    obtain ⟨v21, e22, hf⟩ := sk_ob hf
    refine sk_getR K dX5_add_33 fl_X5_32 rfl e22 ?_
    refine sk_aload_n K dX5_add_36 rfl 0 rfl ?_
    obtain ⟨v23, e24, hf⟩ := sk_ob hf
    refine sk_getI K dX5_add_37 fl_X5_35 rfl e24 ?_
    refine sk_iload_n K dX5_add_40 rfl 3 rfl ?_
    obtain ⟨d25, e26, hf⟩ := sk_ob hf
    refine sk_ast20 d25 K dX5_add_41 e26 ?_
    refine sk_aload_n K dX5_add_42 rfl 0 rfl ?_
    refine sk_dup K dX5_add_43 rfl ?_
    obtain ⟨v27, e28, hf⟩ := sk_ob hf
    refine sk_getI K dX5_add_44 fl_X5_35 rfl e28 ?_
    refine sk_iconst (1 : Int32) K dX5_add_47 (by decide) ?_
    refine sk_iadd K dX5_add_48 ?_
    obtain ⟨d29, e30, hf⟩ := sk_ob hf
    refine sk_putI d29 K dX5_add_49 fl_X5_35 rfl rfl rfl e30 ?_
    have hR31 : d29 = dd := Option.some.inj hf
    exact sk_vret K dX5_add_52 rfl rfl rfl hR31
noncomputable def fX5_numberAt_L5 (S : sk_S) (d : sk_D) (p0 : Nat) (p2 : Int32) (s1 : Int32 × Int32) : Option ((Int32 × Int32) ⊕ (Int32)) :=
  if p2 ≤ s1.2 then (some (.inr s1.1)) else ((sk_lI S d p0 20 s1.2).bind fun v3 => some (.inl (((s1.1 * (10 : Int32)) + v3) - (48 : Int32), s1.2 + 1)))
noncomputable def fX5_numberAt (S : sk_S) (d : sk_D) (p0 : Nat) (p1 : Int32) (p2 : Int32) : Option (Int32) :=
  (sk_itr (fX5_numberAt_L5 S d p0 p2) ((0 : Int32), p1)).bind fun x1 => some x1
set_option maxRecDepth 100000 in
set_option maxHeartbeats 4000000 in
theorem sX5_numberAt (C : sk_C) (l : Launch) {S : sk_S} {d : sk_D} {p0 : Nat} {p1 : Int32} {p2 : Int32} {rr : Int32} (hf : fX5_numberAt S d p0 p1 p2 = some rr) : sk_Met C l 0 yX5_numberAt cX5_numberAt 5 (some .int) [.ref p0, .int p1, .int p2] S d (some (.int rr)) S d := by
  refine sk_Met.of (by decide) (Nat.le_of_ble_eq_true rfl) (Nat.le_refl _) (Nat.le_refl _) (fun X K0 hX => ?_)
  have K : sk_Ok X C cX5_numberAt 5 RX5 "numberAt" (some .int) 0 l (some (.int rr)) S d := K0
  have R1 : X.2.2.2.2.2.2.2.2.2.2.2.1 ≤ S.1.1 ∧ X.2.2.2.2.2.2.2.2.2.2.2.2 ≤ S.1.2 := by rw [hX]; exact ⟨Nat.le_refl _, Nat.le_refl _⟩
  have R2 : S.1.1 ≤ S.1.1 ∧ S.1.2 ≤ S.1.2 := ⟨Nat.le_refl _, Nat.le_refl _⟩
  show sk_G X C 5 S d 0 [(0, .ref p0), (1, .int p1), (2, .int p2)] []
  unfold fX5_numberAt at hf
  refine sk_iconst (0 : Int32) K dX5_numberAt_0 (by decide) ?_
  refine sk_istore_n [(3, .int (0 : Int32)), (0, .ref p0), (1, .int p1), (2, .int p2)] K dX5_numberAt_1 rfl (by decide) rfl ?_
  refine sk_iload_n K dX5_numberAt_2 rfl 2 rfl ?_
  refine sk_istore [(4, .int p1), (3, .int (0 : Int32)), (0, .ref p0), (1, .int p1), (2, .int p2)] K dX5_numberAt_3 (by decide) rfl ?_
  obtain ⟨x1, he1, hf⟩ := sk_ob hf
  have hret1 : ∀ r, r = x1 → r = rr := by
    intro r hr
    subst hr
    exact Option.some.inj hf
  refine sk_sub [(0, .ref p0), (2, .int p2), (3, .int (0 : Int32)), (4, .int p1)] [2, 4, 1, 0] rfl ?_
  refine sk_loop (fun s1 => sk_G X C 5 S d 5 [(0, .ref p0), (2, .int p2), (3, .int s1.1), (4, .int s1.2)] []) he1 (fun s1 o1 hf ih1 hx1 => ?_)
  unfold fX5_numberAt_L5 at hf
  refine sk_iload K dX5_numberAt_5 3 rfl ?_
  refine sk_iload_n K dX5_numberAt_7 rfl 1 rfl ?_
  refine sk_icmp_ge 30 K dX5_numberAt_8 (by decide) (fun h1 => ?_) (fun h1 => ?_)
  · rw [if_pos h1] at hf
    refine sk_iload_n K dX5_numberAt_30 rfl 2 rfl ?_
    have hR2 : s1.1 = rr := hret1 _ (hx1 _ (Option.some.inj hf).symm)
    exact sk_iret K dX5_numberAt_31 rfl rfl hR2 rfl rfl
  · rw [if_neg h1] at hf
    refine sk_iload_n K dX5_numberAt_11 rfl 2 rfl ?_
    refine sk_bipush (10 : Int32) K dX5_numberAt_12 (by decide) ?_
    refine sk_imul K dX5_numberAt_14 ?_
    refine sk_aload_n K dX5_numberAt_15 rfl 0 rfl ?_
    refine sk_iload K dX5_numberAt_16 3 rfl ?_
    obtain ⟨v3, e4, hf⟩ := sk_ob hf
    refine sk_ald20 K dX5_numberAt_18 e4 ?_
    refine sk_iadd K dX5_numberAt_19 ?_
    refine sk_bipush (48 : Int32) K dX5_numberAt_20 (by decide) ?_
    refine sk_isub K dX5_numberAt_22 ?_
    refine sk_istore_n [(3, .int (((s1.1 * (10 : Int32)) + v3) - (48 : Int32))), (0, .ref p0), (2, .int p2), (4, .int s1.2)] K dX5_numberAt_23 rfl (by decide) rfl ?_
    refine sk_iinc (s1.2 + 1) [(4, .int (s1.2 + 1)), (3, .int (((s1.1 * (10 : Int32)) + v3) - (48 : Int32))), (0, .ref p0), (2, .int p2)] K dX5_numberAt_24 3 rfl rfl (by decide) rfl ?_
    refine sk_goto 5 K dX5_numberAt_27 (by decide) ?_
    refine sk_sub [(0, .ref p0), (2, .int p2), (3, .int (((s1.1 * (10 : Int32)) + v3) - (48 : Int32))), (4, .int (s1.2 + 1))] [2, 3, 1, 0] rfl ?_
    have h9 := ih1 _ (Option.some.inj hf).symm
    exact h9
noncomputable def fX5_scan_J161i7 (S : sk_S) (v8 : Int32) (v9 : Nat) (v10 : Int32) (d11 : sk_D) : Option ((Int32 × sk_D) ⊕ (sk_D)) :=
  if S.2.1 v9 = (5, 0) then ((fX5_add S d11 v9 v10 v8 (0 : Int32)).bind fun d14 => some (.inl (v8 + 1, d14))) else none
noncomputable def fX5_scan_J127i7 (S : sk_S) (p0 : Nat) (v16 : Int32) (v17 : Int32) (d18 : sk_D) : Option ((Int32 × sk_D) ⊕ (sk_D)) :=
  if v17 = (10 : Int32) then (some (.inl (v16 + 1, d18))) else (if v17 = (32 : Int32) then (some (.inl (v16 + 1, d18))) else (if 0 ≤ (sk_ix 1 ((v17.toUInt32 % 65536).toInt32)) then (fX5_scan_J161i7 S v16 p0 v17 d18) else (fX5_scan_J161i7 S v16 p0 (203 : Int32) d18)))
noncomputable def fX5_scan_J108i7 (S : sk_S) (p1 : Nat) (v22 : Int32) (v23 : Int32) (v24 : Nat) (v25 : Int32) (d26 : sk_D) : Option ((Int32 × sk_D) ⊕ (sk_D)) :=
  (fX5_numberAt S d26 p1 v22 v23).bind fun v27 => if S.2.1 v24 = (5, 0) then ((fX5_add S d26 v24 v25 v22 v27).bind fun d31 => some (.inl ((v23 - (1 : Int32)) + 1, d31))) else none
noncomputable def fX5_scan_J64i7 (S : sk_S) (p0 : Nat) (p1 : Nat) (p2 : Int32) (v33 : Int32) (v34 : Int32) (d35 : sk_D) : Option ((Int32 × sk_D) ⊕ (sk_D)) :=
  if v34 < (48 : Int32) then (fX5_scan_J127i7 S p0 v33 v34 d35) else (if (57 : Int32) < v34 then (fX5_scan_J127i7 S p0 v33 v34 d35) else ((fX5_runEnd S d35 p1 p2 v33 (48 : Int32) (57 : Int32)).bind fun v38 => if (v38 - v33) ≤ (3 : Int32) then (fX5_scan_J108i7 S p1 v33 v38 p0 (200 : Int32) d35) else (fX5_scan_J108i7 S p1 v33 v38 p0 (203 : Int32) d35)))
noncomputable def fX5_scan_L7 (S : sk_S) (p0 : Nat) (p1 : Nat) (p2 : Int32) (s1 : Int32 × sk_D) : Option ((Int32 × sk_D) ⊕ (sk_D)) :=
  if p2 ≤ s1.1 then (some (.inr s1.2)) else ((sk_lI S s1.2 p1 20 s1.1).bind fun v42 => if v42 < (97 : Int32) then (fX5_scan_J64i7 S p0 p1 p2 s1.1 v42 s1.2) else (if (122 : Int32) < v42 then (fX5_scan_J64i7 S p0 p1 p2 s1.1 v42 s1.2) else ((fX5_runEnd S s1.2 p1 p2 s1.1 (97 : Int32) (122 : Int32)).bind fun v46 => (fX5_wordAt S s1.2 p1 s1.1 v46).bind fun v48 => if S.2.1 p0 = (5, 0) then ((fX5_add S s1.2 p0 v48 s1.1 (0 : Int32)).bind fun d52 => some (.inl ((v46 - (1 : Int32)) + 1, d52))) else none)))
noncomputable def fX5_scan (S : sk_S) (d : sk_D) (p0 : Nat) (p1 : Nat) (p2 : Int32) : Option (sk_D) :=
  (sk_pI S d p0 5 6 (0 : Int32)).bind fun d1 => (sk_itr (fX5_scan_L7 S p0 p1 p2) ((0 : Int32), d1)).bind fun y1 => if S.2.1 p0 = (5, 0) then ((fX5_add S y1 p0 (202 : Int32) p2 (0 : Int32)).bind fun d5 => some d5) else none
set_option maxRecDepth 100000 in
set_option maxHeartbeats 4000000 in
theorem sX5_scan (C : sk_C) (l : Launch) {S : sk_S} {d : sk_D} {p0 : Nat} {p1 : Nat} {p2 : Int32} {dd : sk_D} (hf : fX5_scan S d p0 p1 p2 = some dd) : sk_Met C l 8 yX5_scan cX5_scan 6 none [.ref p0, .ref p1, .int p2] S d none S dd := by
  refine sk_Met.of (by decide) (Nat.le_of_ble_eq_true rfl) (Nat.le_refl _) (Nat.le_refl _) (fun X K0 hX => ?_)
  have K : sk_Ok X C cX5_scan 6 RX5 "scan" none 8 l none S dd := K0
  have R1 : X.2.2.2.2.2.2.2.2.2.2.2.1 ≤ S.1.1 ∧ X.2.2.2.2.2.2.2.2.2.2.2.2 ≤ S.1.2 := by rw [hX]; exact ⟨Nat.le_refl _, Nat.le_refl _⟩
  have R2 : S.1.1 ≤ S.1.1 ∧ S.1.2 ≤ S.1.2 := ⟨Nat.le_refl _, Nat.le_refl _⟩
  show sk_G X C 6 S d 0 [(0, .ref p0), (1, .ref p1), (2, .int p2)] []
  unfold fX5_scan at hf
  refine sk_aload_n K dX5_scan_0 rfl 0 rfl ?_
  refine sk_iconst (0 : Int32) K dX5_scan_1 (by decide) ?_
  obtain ⟨d1, e2, hf⟩ := sk_ob hf
  refine sk_putI d1 K dX5_scan_2 fl_X5_35 rfl rfl rfl e2 ?_
  refine sk_iconst (0 : Int32) K dX5_scan_5 (by decide) ?_
  refine sk_istore_n [(3, .int (0 : Int32)), (0, .ref p0), (1, .ref p1), (2, .int p2)] K dX5_scan_6 rfl (by decide) rfl ?_
  obtain ⟨x1, he1, hf⟩ := sk_ob hf
  have rest1 : ∀ y1, y1 = x1 → sk_G X C 6 S y1 172 [(0, .ref p0), (2, .int p2)] [] := by
    intro y1 hy
    subst hy
    refine sk_aload_n K dX5_scan_172 rfl 0 rfl ?_
    refine sk_sipush (202 : Int32) K dX5_scan_173 (by decide) ?_
    refine sk_iload_n K dX5_scan_176 rfl 1 rfl ?_
    refine sk_iconst (0 : Int32) K dX5_scan_177 (by decide) ?_
    obtain ⟨h6, hf⟩ := sk_ib hf
    obtain ⟨d5, e4, hf⟩ := sk_ob hf
    refine sk_callV (As := [.int (202 : Int32), .int p2, .int (0 : Int32)]) (st := []) K dX5_scan_178 cl_X5_76 h6 (sX5_add C l e4) (by decide) rfl rfl (Nat.le_of_ble_eq_true rfl) R1 R2 ?_
    have hR7 : d5 = dd := Option.some.inj hf
    exact sk_vret K dX5_scan_181 rfl rfl rfl hR7
  refine sk_sub [(0, .ref p0), (1, .ref p1), (2, .int p2), (3, .int (0 : Int32))] [1, 2, 3, 0] rfl ?_
  refine sk_loop (fun s1 => sk_G X C 6 S s1.2 7 [(0, .ref p0), (1, .ref p1), (2, .int p2), (3, .int s1.1)] []) he1 (fun s1 o1 hf ih1 hx1 => ?_)
  unfold fX5_scan_L7 at hf
  have j161_1 : ∀ (v8 : Int32) (v9 : Nat) (v10 : Int32) (d11 : sk_D), fX5_scan_J161i7 S v8 v9 v10 d11 = some o1 → sk_G X C 6 S d11 161 [(0, .ref p0), (1, .ref p1), (2, .int p2), (3, .int v8)] [.int v10, .ref v9] := by
    intro v8 v9 v10 d11 hf
    unfold fX5_scan_J161i7 at hf
    refine sk_iload_n K dX5_scan_161 rfl 3 rfl ?_
    refine sk_iconst (0 : Int32) K dX5_scan_162 (by decide) ?_
    obtain ⟨h15, hf⟩ := sk_ib hf
    obtain ⟨d14, e13, hf⟩ := sk_ob hf
    refine sk_callV (As := [.int v10, .int v8, .int (0 : Int32)]) (st := []) K dX5_scan_163 cl_X5_76 h15 (sX5_add C l e13) (by decide) rfl rfl (Nat.le_of_ble_eq_true rfl) R1 R2 ?_
    refine sk_iinc (v8 + 1) [(3, .int (v8 + 1)), (0, .ref p0), (1, .ref p1), (2, .int p2)] K dX5_scan_166 3 rfl rfl (by decide) rfl ?_
    refine sk_goto 7 K dX5_scan_169 (by decide) ?_
    refine sk_sub [(0, .ref p0), (1, .ref p1), (2, .int p2), (3, .int (v8 + 1))] [1, 2, 3, 0] rfl ?_
    have h9 := ih1 _ (Option.some.inj hf).symm
    exact h9
  have j127_1 : ∀ (v16 : Int32) (v17 : Int32) (d18 : sk_D), fX5_scan_J127i7 S p0 v16 v17 d18 = some o1 → sk_G X C 6 S d18 127 [(0, .ref p0), (1, .ref p1), (2, .int p2), (3, .int v16), (4, .int v17)] [] := by
    intro v16 v17 d18 hf
    unfold fX5_scan_J127i7 at hf
    refine sk_iload K dX5_scan_127 4 rfl ?_
    refine sk_bipush (10 : Int32) K dX5_scan_129 (by decide) ?_
    refine sk_icmp_eq 166 K dX5_scan_131 (by decide) (fun h19 => ?_) (fun h19 => ?_)
    · rw [if_pos h19] at hf
      refine sk_iinc (v16 + 1) [(3, .int (v16 + 1)), (0, .ref p0), (1, .ref p1), (2, .int p2), (4, .int v17)] K dX5_scan_166 3 rfl rfl (by decide) rfl ?_
      refine sk_goto 7 K dX5_scan_169 (by decide) ?_
      refine sk_sub [(0, .ref p0), (1, .ref p1), (2, .int p2), (3, .int (v16 + 1))] [1, 2, 3, 0] rfl ?_
      have h9 := ih1 _ (Option.some.inj hf).symm
      exact h9
    · rw [if_neg h19] at hf
      refine sk_iload K dX5_scan_134 4 rfl ?_
      refine sk_bipush (32 : Int32) K dX5_scan_136 (by decide) ?_
      refine sk_icmp_eq 166 K dX5_scan_138 (by decide) (fun h20 => ?_) (fun h20 => ?_)
      · rw [if_pos h20] at hf
        refine sk_iinc (v16 + 1) [(3, .int (v16 + 1)), (0, .ref p0), (1, .ref p1), (2, .int p2), (4, .int v17)] K dX5_scan_166 3 rfl rfl (by decide) rfl ?_
        refine sk_goto 7 K dX5_scan_169 (by decide) ?_
        refine sk_sub [(0, .ref p0), (1, .ref p1), (2, .int p2), (3, .int (v16 + 1))] [1, 2, 3, 0] rfl ?_
        have h9 := ih1 _ (Option.some.inj hf).symm
        exact h9
      · rw [if_neg h20] at hf
        refine sk_aload_n K dX5_scan_141 rfl 0 rfl ?_
        refine sk_ldcS (1 : UInt32) K dX5_scan_142 sk_str_X5_83 ?_
        refine sk_iload K dX5_scan_144 4 rfl ?_
        refine sk_i2c K dX5_scan_146 ?_
        refine sk_indexOf (k := 1) (sk_ix 1 ((v17.toUInt32 % 65536).toInt32)) K dX5_scan_147 qw_542 (by decide) (by decide) (Nat.le_of_ble_eq_true rfl) R2 (sk_i2c_bd _) rfl ?_
        refine sk_if_ge 159 K dX5_scan_150 (by decide) (fun h21 => ?_) (fun h21 => ?_)
        · rw [if_pos h21] at hf
          refine sk_iload K dX5_scan_159 4 rfl ?_
          refine sk_sub [(0, .ref p0), (1, .ref p1), (2, .int p2), (3, .int v16)] [0, 1, 2, 3] rfl ?_
          have h9 := j161_1 _ _ _ _ hf
          exact h9
        · rw [if_neg h21] at hf
          refine sk_sipush (203 : Int32) K dX5_scan_153 (by decide) ?_
          refine sk_goto 161 K dX5_scan_156 (by decide) ?_
          refine sk_sub [(0, .ref p0), (1, .ref p1), (2, .int p2), (3, .int v16)] [0, 1, 2, 3] rfl ?_
          have h9 := j161_1 _ _ _ _ hf
          exact h9
  have j108_1 : ∀ (v22 : Int32) (v23 : Int32) (v24 : Nat) (v25 : Int32) (d26 : sk_D), fX5_scan_J108i7 S p1 v22 v23 v24 v25 d26 = some o1 → sk_G X C 6 S d26 108 [(0, .ref p0), (1, .ref p1), (2, .int p2), (3, .int v22), (5, .int v23)] [.int v25, .ref v24] := by
    intro v22 v23 v24 v25 d26 hf
    unfold fX5_scan_J108i7 at hf
    refine sk_iload_n K dX5_scan_108 rfl 3 rfl ?_
    refine sk_aload_n K dX5_scan_109 rfl 1 rfl ?_
    refine sk_iload_n K dX5_scan_110 rfl 3 rfl ?_
    refine sk_iload K dX5_scan_111 4 rfl ?_
    obtain ⟨v27, e28, hf⟩ := sk_ob hf
    refine sk_callS (As := [.ref p1, .int v22, .int v23]) (st := [.int v22, .int v25, .ref v24]) K dX5_scan_113 cl_X5_80 (sX5_numberAt C l e28) (by decide) rfl rfl (Nat.le_of_ble_eq_true rfl) R1 R2 ?_
    obtain ⟨h32, hf⟩ := sk_ib hf
    obtain ⟨d31, e30, hf⟩ := sk_ob hf
    refine sk_callV (As := [.int v25, .int v22, .int v27]) (st := []) K dX5_scan_116 cl_X5_76 h32 (sX5_add C l e30) (by decide) rfl rfl (Nat.le_of_ble_eq_true rfl) R1 R2 ?_
    refine sk_iload K dX5_scan_119 4 rfl ?_
    refine sk_iconst (1 : Int32) K dX5_scan_121 (by decide) ?_
    refine sk_isub K dX5_scan_122 ?_
    refine sk_istore_n [(3, .int (v23 - (1 : Int32))), (0, .ref p0), (1, .ref p1), (2, .int p2), (5, .int v23)] K dX5_scan_123 rfl (by decide) rfl ?_
    refine sk_goto 166 K dX5_scan_124 (by decide) ?_
    refine sk_iinc ((v23 - (1 : Int32)) + 1) [(3, .int ((v23 - (1 : Int32)) + 1)), (0, .ref p0), (1, .ref p1), (2, .int p2), (5, .int v23)] K dX5_scan_166 0 rfl rfl (by decide) rfl ?_
    refine sk_goto 7 K dX5_scan_169 (by decide) ?_
    refine sk_sub [(0, .ref p0), (1, .ref p1), (2, .int p2), (3, .int ((v23 - (1 : Int32)) + 1))] [1, 2, 3, 0] rfl ?_
    have h9 := ih1 _ (Option.some.inj hf).symm
    exact h9
  have j64_1 : ∀ (v33 : Int32) (v34 : Int32) (d35 : sk_D), fX5_scan_J64i7 S p0 p1 p2 v33 v34 d35 = some o1 → sk_G X C 6 S d35 64 [(0, .ref p0), (1, .ref p1), (2, .int p2), (3, .int v33), (4, .int v34)] [] := by
    intro v33 v34 d35 hf
    unfold fX5_scan_J64i7 at hf
    refine sk_iload K dX5_scan_64 4 rfl ?_
    refine sk_bipush (48 : Int32) K dX5_scan_66 (by decide) ?_
    refine sk_icmp_lt 127 K dX5_scan_68 (by decide) (fun h36 => ?_) (fun h36 => ?_)
    · rw [if_pos h36] at hf
      refine sk_sub [(0, .ref p0), (1, .ref p1), (2, .int p2), (3, .int v33), (4, .int v34)] [0, 1, 2, 3, 4] rfl ?_
      have h9 := j127_1 _ _ _ hf
      exact h9
    · rw [if_neg h36] at hf
      refine sk_iload K dX5_scan_71 4 rfl ?_
      refine sk_bipush (57 : Int32) K dX5_scan_73 (by decide) ?_
      refine sk_icmp_gt 127 K dX5_scan_75 (by decide) (fun h37 => ?_) (fun h37 => ?_)
      · rw [if_pos h37] at hf
        refine sk_sub [(0, .ref p0), (1, .ref p1), (2, .int p2), (3, .int v33), (4, .int v34)] [0, 1, 2, 3, 4] rfl ?_
        have h9 := j127_1 _ _ _ hf
        exact h9
      · rw [if_neg h37] at hf
        refine sk_aload_n K dX5_scan_78 rfl 1 rfl ?_
        refine sk_iload_n K dX5_scan_79 rfl 2 rfl ?_
        refine sk_iload_n K dX5_scan_80 rfl 3 rfl ?_
        refine sk_bipush (48 : Int32) K dX5_scan_81 (by decide) ?_
        refine sk_bipush (57 : Int32) K dX5_scan_83 (by decide) ?_
        obtain ⟨v38, e39, hf⟩ := sk_ob hf
        refine sk_callS (As := [.ref p1, .int p2, .int v33, .int (48 : Int32), .int (57 : Int32)]) (st := []) K dX5_scan_85 cl_X5_68 (sX5_runEnd C l e39) (by decide) rfl rfl (Nat.le_of_ble_eq_true rfl) R1 R2 ?_
        refine sk_istore [(5, .int v38), (0, .ref p0), (1, .ref p1), (2, .int p2), (3, .int v33), (4, .int v34)] K dX5_scan_88 (by decide) rfl ?_
        refine sk_aload_n K dX5_scan_90 rfl 1 rfl ?_
        refine sk_iload K dX5_scan_91 0 rfl ?_
        refine sk_iload_n K dX5_scan_93 rfl 4 rfl ?_
        refine sk_isub K dX5_scan_94 ?_
        refine sk_iconst (3 : Int32) K dX5_scan_95 (by decide) ?_
        refine sk_icmp_le 105 K dX5_scan_96 (by decide) (fun h40 => ?_) (fun h40 => ?_)
        · rw [if_pos h40] at hf
          refine sk_sipush (200 : Int32) K dX5_scan_105 (by decide) ?_
          refine sk_sub [(0, .ref p0), (1, .ref p1), (2, .int p2), (3, .int v33), (5, .int v38)] [1, 2, 3, 4, 0] rfl ?_
          have h9 := j108_1 _ _ _ _ _ hf
          exact h9
        · rw [if_neg h40] at hf
          refine sk_sipush (203 : Int32) K dX5_scan_99 (by decide) ?_
          refine sk_goto 108 K dX5_scan_102 (by decide) ?_
          refine sk_sub [(0, .ref p0), (1, .ref p1), (2, .int p2), (3, .int v33), (5, .int v38)] [1, 2, 3, 4, 0] rfl ?_
          have h9 := j108_1 _ _ _ _ _ hf
          exact h9
  refine sk_iload_n K dX5_scan_7 rfl 3 rfl ?_
  refine sk_iload_n K dX5_scan_8 rfl 2 rfl ?_
  refine sk_icmp_ge 172 K dX5_scan_9 (by decide) (fun h41 => ?_) (fun h41 => ?_)
  · rw [if_pos h41] at hf
    refine sk_sub [(0, .ref p0), (2, .int p2)] [0, 2] rfl ?_
    have h9 := rest1 _ (hx1 _ (Option.some.inj hf).symm)
    exact h9
  · rw [if_neg h41] at hf
    refine sk_aload_n K dX5_scan_12 rfl 1 rfl ?_
    refine sk_iload_n K dX5_scan_13 rfl 3 rfl ?_
    obtain ⟨v42, e43, hf⟩ := sk_ob hf
    refine sk_ald20 K dX5_scan_14 e43 ?_
    refine sk_istore [(4, .int v42), (0, .ref p0), (1, .ref p1), (2, .int p2), (3, .int s1.1)] K dX5_scan_15 (by decide) rfl ?_
    refine sk_iload K dX5_scan_17 0 rfl ?_
    refine sk_bipush (97 : Int32) K dX5_scan_19 (by decide) ?_
    refine sk_icmp_lt 64 K dX5_scan_21 (by decide) (fun h44 => ?_) (fun h44 => ?_)
    · rw [if_pos h44] at hf
      refine sk_sub [(0, .ref p0), (1, .ref p1), (2, .int p2), (3, .int s1.1), (4, .int v42)] [1, 2, 3, 4, 0] rfl ?_
      have h9 := j64_1 _ _ _ hf
      exact h9
    · rw [if_neg h44] at hf
      refine sk_iload K dX5_scan_24 0 rfl ?_
      refine sk_bipush (122 : Int32) K dX5_scan_26 (by decide) ?_
      refine sk_icmp_gt 64 K dX5_scan_28 (by decide) (fun h45 => ?_) (fun h45 => ?_)
      · rw [if_pos h45] at hf
        refine sk_sub [(0, .ref p0), (1, .ref p1), (2, .int p2), (3, .int s1.1), (4, .int v42)] [1, 2, 3, 4, 0] rfl ?_
        have h9 := j64_1 _ _ _ hf
        exact h9
      · rw [if_neg h45] at hf
        refine sk_aload_n K dX5_scan_31 rfl 2 rfl ?_
        refine sk_iload_n K dX5_scan_32 rfl 3 rfl ?_
        refine sk_iload_n K dX5_scan_33 rfl 4 rfl ?_
        refine sk_bipush (97 : Int32) K dX5_scan_34 (by decide) ?_
        refine sk_bipush (122 : Int32) K dX5_scan_36 (by decide) ?_
        obtain ⟨v46, e47, hf⟩ := sk_ob hf
        refine sk_callS (As := [.ref p1, .int p2, .int s1.1, .int (97 : Int32), .int (122 : Int32)]) (st := []) K dX5_scan_38 cl_X5_68 (sX5_runEnd C l e47) (by decide) rfl rfl (Nat.le_of_ble_eq_true rfl) R1 R2 ?_
        refine sk_istore [(5, .int v46), (4, .int v42), (0, .ref p0), (1, .ref p1), (2, .int p2), (3, .int s1.1)] K dX5_scan_41 (by decide) rfl ?_
        refine sk_aload_n K dX5_scan_43 rfl 2 rfl ?_
        refine sk_aload_n K dX5_scan_44 rfl 3 rfl ?_
        refine sk_iload_n K dX5_scan_45 rfl 5 rfl ?_
        refine sk_iload K dX5_scan_46 0 rfl ?_
        obtain ⟨v48, e49, hf⟩ := sk_ob hf
        refine sk_callS (As := [.ref p1, .int s1.1, .int v46]) (st := [.ref p0]) K dX5_scan_48 cl_X5_72 (sX5_wordAt C l e49) (by decide) rfl rfl (Nat.le_of_ble_eq_true rfl) R1 R2 ?_
        refine sk_iload_n K dX5_scan_51 rfl 5 rfl ?_
        refine sk_iconst (0 : Int32) K dX5_scan_52 (by decide) ?_
        obtain ⟨h53, hf⟩ := sk_ib hf
        obtain ⟨d52, e51, hf⟩ := sk_ob hf
        refine sk_callV (As := [.int v48, .int s1.1, .int (0 : Int32)]) (st := []) K dX5_scan_53 cl_X5_76 h53 (sX5_add C l e51) (by decide) rfl rfl (Nat.le_of_ble_eq_true rfl) R1 R2 ?_
        refine sk_iload K dX5_scan_56 0 rfl ?_
        refine sk_iconst (1 : Int32) K dX5_scan_58 (by decide) ?_
        refine sk_isub K dX5_scan_59 ?_
        refine sk_istore_n [(3, .int (v46 - (1 : Int32))), (5, .int v46), (4, .int v42), (0, .ref p0), (1, .ref p1), (2, .int p2)] K dX5_scan_60 rfl (by decide) rfl ?_
        refine sk_goto 166 K dX5_scan_61 (by decide) ?_
        refine sk_iinc ((v46 - (1 : Int32)) + 1) [(3, .int ((v46 - (1 : Int32)) + 1)), (5, .int v46), (4, .int v42), (0, .ref p0), (1, .ref p1), (2, .int p2)] K dX5_scan_166 0 rfl rfl (by decide) rfl ?_
        refine sk_goto 7 K dX5_scan_169 (by decide) ?_
        refine sk_sub [(0, .ref p0), (1, .ref p1), (2, .int p2), (3, .int ((v46 - (1 : Int32)) + 1))] [3, 4, 5, 0] rfl ?_
        have h9 := ih1 _ (Option.some.inj hf).symm
        exact h9
