noncomputable def fX7_fewest_L2 (S : sk_S) (p0 : Nat) (p1 : Int32) (p2 : Int32) (s1 : Int32 × sk_D) : Option ((Int32 × sk_D) ⊕ (Int32 × sk_D)) :=
  if (3 : Int32) < s1.1 then (some (.inr ((-1 : Int32), s1.2))) else ((fX7_wins S s1.2 p0 p1 p2 s1.1).bind fun b6 => if b6.1 = true then (some (.inr (s1.1, b6.2))) else (some (.inl (s1.1 + 1, b6.2))))
noncomputable def fX7_fewest (S : sk_S) (d : sk_D) (p0 : Nat) (p1 : Int32) (p2 : Int32) : Option (Int32 × sk_D) :=
  (sk_itr (fX7_fewest_L2 S p0 p1 p2) ((0 : Int32), d)).bind fun x1 => some x1
set_option maxRecDepth 100000 in
set_option maxHeartbeats 4000000 in
theorem sX7_fewest (C : sk_C) (l : Launch) {S : sk_S} {d : sk_D} {p0 : Nat} {p1 : Int32} {p2 : Int32} {rr : Int32} {dd : sk_D} (hf : fX7_fewest S d p0 p1 p2 = some (rr, dd)) : sk_Met C l 106 yX7_fewest cX7_fewest 4 (some .int) [.ref p0, .int p1, .int p2] S d (some (.int rr)) S dd := by
  refine sk_Met.of (by decide) (Nat.le_of_ble_eq_true rfl) (Nat.le_refl _) (Nat.le_refl _) (fun X K0 hX => ?_)
  have K : sk_Ok X C cX7_fewest 4 RX7 "fewest" (some .int) 106 l (some (.int rr)) S dd := K0
  have R1 : X.2.2.2.2.2.2.2.2.2.2.2.1 ≤ S.1.1 ∧ X.2.2.2.2.2.2.2.2.2.2.2.2 ≤ S.1.2 := by rw [hX]; exact ⟨Nat.le_refl _, Nat.le_refl _⟩
  have R2 : S.1.1 ≤ S.1.1 ∧ S.1.2 ≤ S.1.2 := ⟨Nat.le_refl _, Nat.le_refl _⟩
  show sk_G X C 4 S d 0 [(0, .ref p0), (1, .int p1), (2, .int p2)] []
  unfold fX7_fewest at hf
  refine sk_iconst (0 : Int32) K dX7_fewest_0 (by decide) ?_
  refine sk_istore_n [(3, .int (0 : Int32)), (0, .ref p0), (1, .int p1), (2, .int p2)] K dX7_fewest_1 rfl (by decide) rfl ?_
  obtain ⟨x1, he1, hf⟩ := sk_ob hf
  have hret1 : ∀ r, r = x1 → r = (rr, dd) := by
    intro r hr
    subst hr
    exact Option.some.inj hf
  refine sk_sub [(0, .ref p0), (1, .int p1), (2, .int p2), (3, .int (0 : Int32))] [1, 2, 3, 0] rfl ?_
  refine sk_loop (fun s1 => sk_G X C 4 S s1.2 2 [(0, .ref p0), (1, .int p1), (2, .int p2), (3, .int s1.1)] []) he1 (fun s1 o1 hf ih1 hx1 => ?_)
  unfold fX7_fewest_L2 at hf
  refine sk_iload_n K dX7_fewest_2 rfl 3 rfl ?_
  refine sk_iconst (3 : Int32) K dX7_fewest_3 (by decide) ?_
  refine sk_icmp_gt 25 K dX7_fewest_4 (by decide) (fun h1 => ?_) (fun h1 => ?_)
  · rw [if_pos h1] at hf
    refine sk_iconst (-1 : Int32) K dX7_fewest_25 (by decide) ?_
    have hR2 : ((-1 : Int32), s1.2) = (rr, dd) := hret1 _ (hx1 _ (Option.some.inj hf).symm)
    exact sk_iret K dX7_fewest_26 rfl rfl (congrArg (fun z => z.1) hR2) rfl (congrArg (fun z => z.2) hR2)
  · rw [if_neg h1] at hf
    refine sk_aload_n K dX7_fewest_7 rfl 0 rfl ?_
    refine sk_iload_n K dX7_fewest_8 rfl 1 rfl ?_
    refine sk_iload_n K dX7_fewest_9 rfl 2 rfl ?_
    refine sk_iload_n K dX7_fewest_10 rfl 3 rfl ?_
    obtain ⟨⟨v3, d5⟩, e4, hf⟩ := sk_ob hf
    try dsimp only at hf
    refine sk_callS (As := [.ref p0, .int p1, .int p2, .int s1.1]) (st := []) K dX7_fewest_11 cl_X7_11 (sX7_wins C l e4) (by decide) rfl rfl (Nat.le_of_ble_eq_true rfl) R1 R2 ?_
    refine sk_ifeqB 19 K dX7_fewest_14 (by decide) (fun h7 => ?_) (fun h7 => ?_)
    · rw [if_neg h7] at hf
      refine sk_iinc (s1.1 + 1) [(3, .int (s1.1 + 1)), (0, .ref p0), (1, .int p1), (2, .int p2)] K dX7_fewest_19 3 rfl rfl (by decide) rfl ?_
      refine sk_goto 2 K dX7_fewest_22 (by decide) ?_
      refine sk_sub [(0, .ref p0), (1, .int p1), (2, .int p2), (3, .int (s1.1 + 1))] [1, 2, 3, 0] rfl ?_
      have h9 := ih1 _ (Option.some.inj hf).symm
      exact h9
    · rw [if_pos h7] at hf
      refine sk_iload_n K dX7_fewest_17 rfl 3 rfl ?_
      have hR8 : (s1.1, d5) = (rr, dd) := hret1 _ (hx1 _ (Option.some.inj hf).symm)
      exact sk_iret K dX7_fewest_18 rfl rfl (congrArg (fun z => z.1) hR8) rfl (congrArg (fun z => z.2) hR8)
noncomputable def fX7_deedOf (S : sk_S) (d : sk_D) (p0 : Int32) : Option (Int32) :=
  if p0 = (16 : Int32) then (some (99 : Int32)) else (if (8 : Int32) ≤ p0 then (some ((p0 - (8 : Int32)) + (10 : Int32))) else (some p0))
set_option maxRecDepth 100000 in
set_option maxHeartbeats 4000000 in
theorem sX7_deedOf (C : sk_C) (l : Launch) {S : sk_S} {d : sk_D} {p0 : Int32} {rr : Int32} (hf : fX7_deedOf S d p0 = some rr) : sk_Met C l 0 yX7_deedOf cX7_deedOf 1 (some .int) [.int p0] S d (some (.int rr)) S d := by
  refine sk_Met.of (by decide) (Nat.le_of_ble_eq_true rfl) (Nat.le_refl _) (Nat.le_refl _) (fun X K0 hX => ?_)
  have K : sk_Ok X C cX7_deedOf 1 RX7 "deedOf" (some .int) 0 l (some (.int rr)) S d := K0
  have R1 : X.2.2.2.2.2.2.2.2.2.2.2.1 ≤ S.1.1 ∧ X.2.2.2.2.2.2.2.2.2.2.2.2 ≤ S.1.2 := by rw [hX]; exact ⟨Nat.le_refl _, Nat.le_refl _⟩
  have R2 : S.1.1 ≤ S.1.1 ∧ S.1.2 ≤ S.1.2 := ⟨Nat.le_refl _, Nat.le_refl _⟩
  show sk_G X C 1 S d 0 [(0, .int p0)] []
  unfold fX7_deedOf at hf
  refine sk_iload_n K dX7_deedOf_0 rfl 0 rfl ?_
  refine sk_bipush (16 : Int32) K dX7_deedOf_1 (by decide) ?_
  refine sk_icmp_ne 9 K dX7_deedOf_3 (by decide) (fun h1 => ?_) (fun h1 => ?_)
  · rw [if_neg h1] at hf
    refine sk_iload_n K dX7_deedOf_9 rfl 0 rfl ?_
    refine sk_bipush (8 : Int32) K dX7_deedOf_10 (by decide) ?_
    refine sk_icmp_ge 19 K dX7_deedOf_12 (by decide) (fun h2 => ?_) (fun h2 => ?_)
    · rw [if_pos h2] at hf
      refine sk_iload_n K dX7_deedOf_19 rfl 0 rfl ?_
      refine sk_bipush (8 : Int32) K dX7_deedOf_20 (by decide) ?_
      refine sk_isub K dX7_deedOf_22 ?_
      refine sk_bipush (10 : Int32) K dX7_deedOf_23 (by decide) ?_
      refine sk_iadd K dX7_deedOf_25 ?_
      have hR3 : ((p0 - (8 : Int32)) + (10 : Int32)) = rr := Option.some.inj hf
      exact sk_iret K dX7_deedOf_26 rfl rfl hR3 rfl rfl
    · rw [if_neg h2] at hf
      refine sk_iload_n K dX7_deedOf_15 rfl 0 rfl ?_
      refine sk_goto 26 K dX7_deedOf_16 (by decide) ?_
      have hR4 : p0 = rr := Option.some.inj hf
      exact sk_iret K dX7_deedOf_26 rfl rfl hR4 rfl rfl
  · rw [if_pos h1] at hf
    refine sk_bipush (99 : Int32) K dX7_deedOf_6 (by decide) ?_
    have hR5 : (99 : Int32) = rr := Option.some.inj hf
    exact sk_iret K dX7_deedOf_8 rfl rfl hR5 rfl rfl
noncomputable def fX7_firstDeed_L3 (S : sk_S) (p0 : Nat) (p1 : Int32) (p2 : Int32) (p3 : Int32) (s1 : Int32 × sk_D) : Option ((Int32 × sk_D) ⊕ ((Int32 × sk_D) ⊕ (Int32 × sk_D))) :=
  if (16 : Int32) < s1.1 then (some (.inr (.inl ((-1 : Int32), s1.2)))) else (if p3 ≤ 0 then (some (.inr (.inl ((-1 : Int32), s1.2)))) else ((fX7_moved S s1.2 p0 p1 s1.1).bind fun b11 => if b11.1 < 0 then (some (.inl (s1.1 + 1, b11.2))) else ((fX7_withstands S b11.2 p0 b11.1 p2 (p3 - (1 : Int32))).bind fun b16 => if b16.1 = true then (some (.inr (.inr (s1.1, b16.2)))) else (some (.inl (s1.1 + 1, b16.2))))))
noncomputable def fX7_firstDeed (S : sk_S) (d : sk_D) (p0 : Nat) (p1 : Int32) (p2 : Int32) (p3 : Int32) : Option (Int32 × sk_D) :=
  (sk_itr (fX7_firstDeed_L3 S p0 p1 p2 p3) ((0 : Int32), d)).bind fun x1 => (match x1 with | .inl r => some r | .inr y1 => (fX7_deedOf S y1.2 y1.1).bind fun v1 => some (v1, y1.2))
set_option maxRecDepth 100000 in
set_option maxHeartbeats 4000000 in
theorem sX7_firstDeed (C : sk_C) (l : Launch) {S : sk_S} {d : sk_D} {p0 : Nat} {p1 : Int32} {p2 : Int32} {p3 : Int32} {rr : Int32} {dd : sk_D} (hf : fX7_firstDeed S d p0 p1 p2 p3 = some (rr, dd)) : sk_Met C l 106 yX7_firstDeed cX7_firstDeed 6 (some .int) [.ref p0, .int p1, .int p2, .int p3] S d (some (.int rr)) S dd := by
  refine sk_Met.of (by decide) (Nat.le_of_ble_eq_true rfl) (Nat.le_refl _) (Nat.le_refl _) (fun X K0 hX => ?_)
  have K : sk_Ok X C cX7_firstDeed 6 RX7 "firstDeed" (some .int) 106 l (some (.int rr)) S dd := K0
  have R1 : X.2.2.2.2.2.2.2.2.2.2.2.1 ≤ S.1.1 ∧ X.2.2.2.2.2.2.2.2.2.2.2.2 ≤ S.1.2 := by rw [hX]; exact ⟨Nat.le_refl _, Nat.le_refl _⟩
  have R2 : S.1.1 ≤ S.1.1 ∧ S.1.2 ≤ S.1.2 := ⟨Nat.le_refl _, Nat.le_refl _⟩
  show sk_G X C 6 S d 0 [(0, .ref p0), (1, .int p1), (2, .int p2), (3, .int p3)] []
  unfold fX7_firstDeed at hf
  refine sk_iconst (0 : Int32) K dX7_firstDeed_0 (by decide) ?_
  refine sk_istore [(4, .int (0 : Int32)), (0, .ref p0), (1, .int p1), (2, .int p2), (3, .int p3)] K dX7_firstDeed_1 (by decide) rfl ?_
  obtain ⟨x1, he1, hf⟩ := sk_ob hf
  have hret1 : ∀ r, .inl r = x1 → r = (rr, dd) := by
    intro r hr
    subst hr
    exact Option.some.inj hf
  have rest1 : ∀ y1, .inr y1 = x1 → sk_G X C 6 S y1.2 41 [(4, .int y1.1)] [] := by
    intro y1 hy
    subst hy
    dsimp only at hf
    refine sk_iload K dX7_firstDeed_41 0 rfl ?_
    obtain ⟨v1, e2, hf⟩ := sk_ob hf
    refine sk_callS (As := [.int y1.1]) (st := []) K dX7_firstDeed_43 cl_X7_22 (sX7_deedOf C l e2) (by decide) rfl rfl (Nat.le_of_ble_eq_true rfl) R1 R2 ?_
    have hR3 : (v1, y1.2) = (rr, dd) := Option.some.inj hf
    exact sk_iret K dX7_firstDeed_46 rfl rfl (congrArg (fun z => z.1) hR3) rfl (congrArg (fun z => z.2) hR3)
  refine sk_sub [(0, .ref p0), (1, .int p1), (2, .int p2), (3, .int p3), (4, .int (0 : Int32))] [1, 2, 3, 4, 0] rfl ?_
  refine sk_loop (fun s1 => sk_G X C 6 S s1.2 3 [(0, .ref p0), (1, .int p1), (2, .int p2), (3, .int p3), (4, .int s1.1)] []) he1 (fun s1 o1 hf ih1 hx1 => ?_)
  unfold fX7_firstDeed_L3 at hf
  refine sk_iload K dX7_firstDeed_3 4 rfl ?_
  refine sk_bipush (16 : Int32) K dX7_firstDeed_5 (by decide) ?_
  refine sk_icmp_gt 53 K dX7_firstDeed_7 (by decide) (fun h4 => ?_) (fun h4 => ?_)
  · rw [if_pos h4] at hf
    refine sk_iconst (-1 : Int32) K dX7_firstDeed_53 (by decide) ?_
    have hR5 : ((-1 : Int32), s1.2) = (rr, dd) := hret1 _ (hx1 _ (Option.some.inj hf).symm)
    exact sk_iret K dX7_firstDeed_54 rfl rfl (congrArg (fun z => z.1) hR5) rfl (congrArg (fun z => z.2) hR5)
  · rw [if_neg h4] at hf
    refine sk_iload_n K dX7_firstDeed_10 rfl 3 rfl ?_
    refine sk_if_le 53 K dX7_firstDeed_11 (by decide) (fun h6 => ?_) (fun h6 => ?_)
    · rw [if_pos h6] at hf
      refine sk_iconst (-1 : Int32) K dX7_firstDeed_53 (by decide) ?_
      have hR7 : ((-1 : Int32), s1.2) = (rr, dd) := hret1 _ (hx1 _ (Option.some.inj hf).symm)
      exact sk_iret K dX7_firstDeed_54 rfl rfl (congrArg (fun z => z.1) hR7) rfl (congrArg (fun z => z.2) hR7)
    · rw [if_neg h6] at hf
      refine sk_aload_n K dX7_firstDeed_14 rfl 0 rfl ?_
      refine sk_iload_n K dX7_firstDeed_15 rfl 1 rfl ?_
      refine sk_iload K dX7_firstDeed_16 4 rfl ?_
      obtain ⟨⟨v8, d10⟩, e9, hf⟩ := sk_ob hf
      try dsimp only at hf
      refine sk_callS (As := [.ref p0, .int p1, .int s1.1]) (st := []) K dX7_firstDeed_18 cl_X7_15 (sX7_moved C l e9) (by decide) rfl rfl (Nat.le_of_ble_eq_true rfl) R1 R2 ?_
      refine sk_istore [(5, .int v8), (0, .ref p0), (1, .int p1), (2, .int p2), (3, .int p3), (4, .int s1.1)] K dX7_firstDeed_21 (by decide) rfl ?_
      refine sk_iload K dX7_firstDeed_23 0 rfl ?_
      refine sk_if_lt 47 K dX7_firstDeed_25 (by decide) (fun h12 => ?_) (fun h12 => ?_)
      · rw [if_pos h12] at hf
        refine sk_iinc (s1.1 + 1) [(4, .int (s1.1 + 1)), (5, .int v8), (0, .ref p0), (1, .int p1), (2, .int p2), (3, .int p3)] K dX7_firstDeed_47 5 rfl rfl (by decide) rfl ?_
        refine sk_goto 3 K dX7_firstDeed_50 (by decide) ?_
        refine sk_sub [(0, .ref p0), (1, .int p1), (2, .int p2), (3, .int p3), (4, .int (s1.1 + 1))] [2, 3, 4, 5, 0] rfl ?_
        have h9 := ih1 _ (Option.some.inj hf).symm
        exact h9
      · rw [if_neg h12] at hf
        refine sk_aload_n K dX7_firstDeed_28 rfl 1 rfl ?_
        refine sk_iload K dX7_firstDeed_29 0 rfl ?_
        refine sk_iload_n K dX7_firstDeed_31 rfl 3 rfl ?_
        refine sk_iload_n K dX7_firstDeed_32 rfl 4 rfl ?_
        refine sk_iconst (1 : Int32) K dX7_firstDeed_33 (by decide) ?_
        refine sk_isub K dX7_firstDeed_34 ?_
        obtain ⟨⟨v13, d15⟩, e14, hf⟩ := sk_ob hf
        try dsimp only at hf
        refine sk_callS (As := [.ref p0, .int v8, .int p2, .int (p3 - (1 : Int32))]) (st := []) K dX7_firstDeed_35 cl_X7_19 (sX7_withstands C l e14) (by decide) rfl rfl (Nat.le_of_ble_eq_true rfl) R1 R2 ?_
        refine sk_ifeqB 47 K dX7_firstDeed_38 (by decide) (fun h17 => ?_) (fun h17 => ?_)
        · rw [if_neg h17] at hf
          refine sk_iinc (s1.1 + 1) [(4, .int (s1.1 + 1)), (5, .int v8), (0, .ref p0), (1, .int p1), (2, .int p2), (3, .int p3)] K dX7_firstDeed_47 5 rfl rfl (by decide) rfl ?_
          refine sk_goto 3 K dX7_firstDeed_50 (by decide) ?_
          refine sk_sub [(0, .ref p0), (1, .int p1), (2, .int p2), (3, .int p3), (4, .int (s1.1 + 1))] [2, 3, 4, 5, 0] rfl ?_
          have h9 := ih1 _ (Option.some.inj hf).symm
          exact h9
        · rw [if_pos h17] at hf
          refine sk_sub [(4, .int s1.1)] [5] rfl ?_
          have h9 := rest1 _ (hx1 _ (Option.some.inj hf).symm)
          exact h9
noncomputable def fX8_spot (S : sk_S) (d : sk_D) (p0 : Nat) (p1 : Int32) : Option (Int32) :=
  (fX10_doneIn S d p1).bind fun v1 => (fX10_liningIn S d p1).bind fun v3 => (sk_gI S d p0 7 2).bind fun v5 => (sk_gR S p0 7 4).bind fun v7 => (sk_al S v7 20).bind fun v9 => if v9 ≤ (v1 ||| (v3 <<< (v5 &&& 31))) then (some (0 : Int32)) else (some (v1 ||| (v3 <<< (v5 &&& 31))))
set_option maxRecDepth 100000 in
set_option maxHeartbeats 4000000 in
theorem sX8_spot (C : sk_C) (l : Launch) {S : sk_S} {d : sk_D} {p0 : Nat} {p1 : Int32} {rr : Int32} (hf : fX8_spot S d p0 p1 = some rr) : sk_Met C l 1 yX8_spot cX8_spot 3 (some .int) [.ref p0, .int p1] S d (some (.int rr)) S d := by
  refine sk_Met.of (by decide) (Nat.le_of_ble_eq_true rfl) (Nat.le_refl _) (Nat.le_refl _) (fun X K0 hX => ?_)
  have K : sk_Ok X C cX8_spot 3 RX8 "spot" (some .int) 1 l (some (.int rr)) S d := K0
  have R1 : X.2.2.2.2.2.2.2.2.2.2.2.1 ≤ S.1.1 ∧ X.2.2.2.2.2.2.2.2.2.2.2.2 ≤ S.1.2 := by rw [hX]; exact ⟨Nat.le_refl _, Nat.le_refl _⟩
  have R2 : S.1.1 ≤ S.1.1 ∧ S.1.2 ≤ S.1.2 := ⟨Nat.le_refl _, Nat.le_refl _⟩
  show sk_G X C 3 S d 0 [(0, .ref p0), (1, .int p1)] []
  unfold fX8_spot at hf
  refine sk_iload_n K dX8_spot_0 rfl 1 rfl ?_
  obtain ⟨v1, e2, hf⟩ := sk_ob hf
  refine sk_callN (As := [.int p1]) (st := []) K dX8_spot_1 cl_X8_39 (sX10_doneIn C l e2) (by decide) rfl rfl (Nat.le_of_ble_eq_true rfl) R1 R2 ?_
  refine sk_iload_n K dX8_spot_4 rfl 1 rfl ?_
  obtain ⟨v3, e4, hf⟩ := sk_ob hf
  refine sk_callN (As := [.int p1]) (st := [.int v1]) K dX8_spot_5 cl_X8_42 (sX10_liningIn C l e4) (by decide) rfl rfl (Nat.le_of_ble_eq_true rfl) R1 R2 ?_
  refine sk_aload_n K dX8_spot_8 rfl 0 rfl ?_
  obtain ⟨v5, e6, hf⟩ := sk_ob hf
  refine sk_getI K dX8_spot_9 fl_X8_18 rfl e6 ?_
  refine sk_ishl K dX8_spot_12 ?_
  refine sk_ior K dX8_spot_13 ?_
  refine sk_istore_n [(2, .int (v1 ||| (v3 <<< (v5 &&& 31)))), (0, .ref p0), (1, .int p1)] K dX8_spot_14 rfl (by decide) rfl ?_
  refine sk_iload_n K dX8_spot_15 rfl 0 rfl ?_
  refine sk_aload_n K dX8_spot_16 rfl 1 rfl ?_
  obtain ⟨v7, e8, hf⟩ := sk_ob hf
  refine sk_getR K dX8_spot_17 fl_X8_25 rfl e8 ?_
  obtain ⟨v9, e10, hf⟩ := sk_ob hf
  refine sk_al20 K dX8_spot_20 e10 ?_
  refine sk_icmp_ge 28 K dX8_spot_21 (by decide) (fun h11 => ?_) (fun h11 => ?_)
  · rw [if_pos h11] at hf
    refine sk_iconst (0 : Int32) K dX8_spot_28 (by decide) ?_
    have hR12 : (0 : Int32) = rr := Option.some.inj hf
    exact sk_iret K dX8_spot_29 rfl rfl hR12 rfl rfl
  · rw [if_neg h11] at hf
    refine sk_iload_n K dX8_spot_24 rfl 0 rfl ?_
    refine sk_goto 29 K dX8_spot_25 (by decide) ?_
    have hR13 : (v1 ||| (v3 <<< (v5 &&& 31))) = rr := Option.some.inj hf
    exact sk_iret K dX8_spot_29 rfl rfl hR13 rfl rfl
noncomputable def fX8_forget_L2 (S : sk_S) (p0 : Nat) (s1 : Int32 × sk_D) : Option ((Int32 × sk_D) ⊕ (sk_D)) :=
  (sk_gI S s1.2 p0 7 0).bind fun v1 => if v1 ≤ s1.1 then ((sk_pI S s1.2 p0 7 0 (0 : Int32)).bind fun d4 => (sk_pI S d4 p0 7 1 (-1 : Int32)).bind fun d6 => some (.inr d6)) else ((sk_gR S p0 7 3).bind fun v9 => (sk_al S v9 20).bind fun v11 => if v11 ≤ s1.1 then ((sk_pI S s1.2 p0 7 0 (0 : Int32)).bind fun d14 => (sk_pI S d14 p0 7 1 (-1 : Int32)).bind fun d16 => some (.inr d16)) else ((sk_gR S p0 7 4).bind fun v19 => (sk_gR S p0 7 3).bind fun v21 => (sk_lI S s1.2 v21 20 s1.1).bind fun v23 => if S.2.1 p0 = (7, 0) then ((fX8_spot S s1.2 p0 v23).bind fun v25 => (sk_sI S s1.2 v19 20 v25 (0 : Int32)).bind fun d28 => some (.inl (s1.1 + 1, d28))) else none))
noncomputable def fX8_forget (S : sk_S) (d : sk_D) (p0 : Nat) : Option (sk_D) :=
  (sk_itr (fX8_forget_L2 S p0) ((0 : Int32), d)).bind fun x1 => some x1
set_option maxRecDepth 100000 in
set_option maxHeartbeats 4000000 in
theorem sX8_forget (C : sk_C) (l : Launch) {S : sk_S} {d : sk_D} {p0 : Nat} {dd : sk_D} (hf : fX8_forget S d p0 = some dd) : sk_Met C l 2 yX8_forget cX8_forget 2 none [.ref p0] S d none S dd := by
  refine sk_Met.of (by decide) (Nat.le_of_ble_eq_true rfl) (Nat.le_refl _) (Nat.le_refl _) (fun X K0 hX => ?_)
  have K : sk_Ok X C cX8_forget 2 RX8 "forget" none 2 l none S dd := K0
  have R1 : X.2.2.2.2.2.2.2.2.2.2.2.1 ≤ S.1.1 ∧ X.2.2.2.2.2.2.2.2.2.2.2.2 ≤ S.1.2 := by rw [hX]; exact ⟨Nat.le_refl _, Nat.le_refl _⟩
  have R2 : S.1.1 ≤ S.1.1 ∧ S.1.2 ≤ S.1.2 := ⟨Nat.le_refl _, Nat.le_refl _⟩
  show sk_G X C 2 S d 0 [(0, .ref p0)] []
  unfold fX8_forget at hf
  refine sk_iconst (0 : Int32) K dX8_forget_0 (by decide) ?_
  refine sk_istore_n [(1, .int (0 : Int32)), (0, .ref p0)] K dX8_forget_1 rfl (by decide) rfl ?_
  obtain ⟨x1, he1, hf⟩ := sk_ob hf
  have hret1 : ∀ r, r = x1 → r = dd := by
    intro r hr
    subst hr
    exact Option.some.inj hf
  refine sk_sub [(0, .ref p0), (1, .int (0 : Int32))] [1, 0] rfl ?_
  refine sk_loop (fun s1 => sk_G X C 2 S s1.2 2 [(0, .ref p0), (1, .int s1.1)] []) he1 (fun s1 o1 hf ih1 hx1 => ?_)
  unfold fX8_forget_L2 at hf
  refine sk_iload_n K dX8_forget_2 rfl 1 rfl ?_
  refine sk_aload_n K dX8_forget_3 rfl 0 rfl ?_
  obtain ⟨v1, e2, hf⟩ := sk_ob hf
  refine sk_getI K dX8_forget_4 fl_X8_9 rfl e2 ?_
  refine sk_icmp_ge 41 K dX8_forget_7 (by decide) (fun h3 => ?_) (fun h3 => ?_)
  · rw [if_pos h3] at hf
    refine sk_aload_n K dX8_forget_41 rfl 0 rfl ?_
    refine sk_iconst (0 : Int32) K dX8_forget_42 (by decide) ?_
    obtain ⟨d4, e5, hf⟩ := sk_ob hf
    refine sk_putI d4 K dX8_forget_43 fl_X8_9 rfl rfl rfl e5 ?_
    refine sk_aload_n K dX8_forget_46 rfl 0 rfl ?_
    refine sk_iconst (-1 : Int32) K dX8_forget_47 (by decide) ?_
    obtain ⟨d6, e7, hf⟩ := sk_ob hf
    refine sk_putI d6 K dX8_forget_48 fl_X8_15 rfl rfl rfl e7 ?_
    have hR8 : d6 = dd := hret1 _ (hx1 _ (Option.some.inj hf).symm)
    exact sk_vret K dX8_forget_51 rfl rfl rfl hR8
  · rw [if_neg h3] at hf
    refine sk_iload_n K dX8_forget_10 rfl 1 rfl ?_
    refine sk_aload_n K dX8_forget_11 rfl 0 rfl ?_
    obtain ⟨v9, e10, hf⟩ := sk_ob hf
    refine sk_getR K dX8_forget_12 fl_X8_21 rfl e10 ?_
    obtain ⟨v11, e12, hf⟩ := sk_ob hf
    refine sk_al20 K dX8_forget_15 e12 ?_
    refine sk_icmp_ge 41 K dX8_forget_16 (by decide) (fun h13 => ?_) (fun h13 => ?_)
    · rw [if_pos h13] at hf
      refine sk_aload_n K dX8_forget_41 rfl 0 rfl ?_
      refine sk_iconst (0 : Int32) K dX8_forget_42 (by decide) ?_
      obtain ⟨d14, e15, hf⟩ := sk_ob hf
      refine sk_putI d14 K dX8_forget_43 fl_X8_9 rfl rfl rfl e15 ?_
      refine sk_aload_n K dX8_forget_46 rfl 0 rfl ?_
      refine sk_iconst (-1 : Int32) K dX8_forget_47 (by decide) ?_
      obtain ⟨d16, e17, hf⟩ := sk_ob hf
      refine sk_putI d16 K dX8_forget_48 fl_X8_15 rfl rfl rfl e17 ?_
      have hR18 : d16 = dd := hret1 _ (hx1 _ (Option.some.inj hf).symm)
      exact sk_vret K dX8_forget_51 rfl rfl rfl hR18
    · rw [if_neg h13] at hf
      refine sk_aload_n K dX8_forget_19 rfl 0 rfl ?_
      obtain ⟨v19, e20, hf⟩ := sk_ob hf
      refine sk_getR K dX8_forget_20 fl_X8_25 rfl e20 ?_
      refine sk_aload_n K dX8_forget_23 rfl 0 rfl ?_
      refine sk_aload_n K dX8_forget_24 rfl 0 rfl ?_
      obtain ⟨v21, e22, hf⟩ := sk_ob hf
      refine sk_getR K dX8_forget_25 fl_X8_21 rfl e22 ?_
      refine sk_iload_n K dX8_forget_28 rfl 1 rfl ?_
      obtain ⟨v23, e24, hf⟩ := sk_ob hf
      refine sk_ald20 K dX8_forget_29 e24 ?_
      obtain ⟨h27, hf⟩ := sk_ib hf
      obtain ⟨v25, e26, hf⟩ := sk_ob hf
      refine sk_callV (As := [.int v23]) (st := [.ref v19]) K dX8_forget_30 cl_X8_35 h27 (sX8_spot C l e26) (by decide) rfl rfl (Nat.le_of_ble_eq_true rfl) R1 R2 ?_
      refine sk_iconst (0 : Int32) K dX8_forget_33 (by decide) ?_
      obtain ⟨d28, e29, hf⟩ := sk_ob hf
      refine sk_ast20 d28 K dX8_forget_34 e29 ?_
      refine sk_iinc (s1.1 + 1) [(1, .int (s1.1 + 1)), (0, .ref p0)] K dX8_forget_35 1 rfl rfl (by decide) rfl ?_
      refine sk_goto 2 K dX8_forget_38 (by decide) ?_
      refine sk_sub [(0, .ref p0), (1, .int (s1.1 + 1))] [1, 0] rfl ?_
      have h9 := ih1 _ (Option.some.inj hf).symm
      exact h9
noncomputable def fX8_reach (S : sk_S) (d : sk_D) (p0 : Nat) (p1 : Int32) (p2 : Int32) (p3 : Int32) : Option (sk_D) :=
  if p1 < 0 then (some d) else ((sk_gR S p0 7 4).bind fun v3 => if S.2.1 p0 = (7, 0) then ((fX8_spot S d p0 p1).bind fun v5 => (sk_lI S d v3 20 v5).bind fun v8 => if v8 = 0 then ((sk_gI S d p0 7 0).bind fun v12 => (sk_gR S p0 7 3).bind fun v14 => (sk_al S v14 20).bind fun v16 => if v16 ≤ v12 then (some d) else ((sk_gR S p0 7 4).bind fun v20 => if S.2.1 p0 = (7, 0) then ((fX8_spot S d p0 p1).bind fun v22 => (sk_sI S d v20 20 v22 (((1 : Int32) + p3) + ((32 : Int32) * p2))).bind fun d25 => (sk_gR S p0 7 3).bind fun v27 => (sk_gI S d25 p0 7 0).bind fun v29 => (sk_sI S d25 v27 20 v29 p1).bind fun d31 => (sk_gI S d31 p0 7 0).bind fun v33 => (sk_pI S d31 p0 7 0 (v33 + (1 : Int32))).bind fun d35 => some d35) else none)) else (some d)) else none)
set_option maxRecDepth 100000 in
set_option maxHeartbeats 4000000 in
theorem sX8_reach (C : sk_C) (l : Launch) {S : sk_S} {d : sk_D} {p0 : Nat} {p1 : Int32} {p2 : Int32} {p3 : Int32} {dd : sk_D} (hf : fX8_reach S d p0 p1 p2 p3 = some dd) : sk_Met C l 2 yX8_reach cX8_reach 4 none [.ref p0, .int p1, .int p2, .int p3] S d none S dd := by
  refine sk_Met.of (by decide) (Nat.le_of_ble_eq_true rfl) (Nat.le_refl _) (Nat.le_refl _) (fun X K0 hX => ?_)
  have K : sk_Ok X C cX8_reach 4 RX8 "reach" none 2 l none S dd := K0
  have R1 : X.2.2.2.2.2.2.2.2.2.2.2.1 ≤ S.1.1 ∧ X.2.2.2.2.2.2.2.2.2.2.2.2 ≤ S.1.2 := by rw [hX]; exact ⟨Nat.le_refl _, Nat.le_refl _⟩
  have R2 : S.1.1 ≤ S.1.1 ∧ S.1.2 ≤ S.1.2 := ⟨Nat.le_refl _, Nat.le_refl _⟩
  show sk_G X C 4 S d 0 [(0, .ref p0), (1, .int p1), (2, .int p2), (3, .int p3)] []
  unfold fX8_reach at hf
  refine sk_iload_n K dX8_reach_0 rfl 1 rfl ?_
  refine sk_if_lt 67 K dX8_reach_1 (by decide) (fun h1 => ?_) (fun h1 => ?_)
  · rw [if_pos h1] at hf
    have hR2 : d = dd := Option.some.inj hf
    exact sk_vret K dX8_reach_67 rfl rfl rfl hR2
  · rw [if_neg h1] at hf
    refine sk_aload_n K dX8_reach_4 rfl 0 rfl ?_
    obtain ⟨v3, e4, hf⟩ := sk_ob hf
    refine sk_getR K dX8_reach_5 fl_X8_25 rfl e4 ?_
    refine sk_aload_n K dX8_reach_8 rfl 0 rfl ?_
    refine sk_iload_n K dX8_reach_9 rfl 1 rfl ?_
    obtain ⟨h7, hf⟩ := sk_ib hf
    obtain ⟨v5, e6, hf⟩ := sk_ob hf
    refine sk_callV (As := [.int p1]) (st := [.ref v3]) K dX8_reach_10 cl_X8_35 h7 (sX8_spot C l e6) (by decide) rfl rfl (Nat.le_of_ble_eq_true rfl) R1 R2 ?_
    obtain ⟨v8, e9, hf⟩ := sk_ob hf
    refine sk_ald20 K dX8_reach_13 e9 ?_
    refine sk_if_ne 67 K dX8_reach_14 (by decide) (fun h10 => ?_) (fun h10 => ?_)
    · rw [if_neg h10] at hf
      have hR11 : d = dd := Option.some.inj hf
      exact sk_vret K dX8_reach_67 rfl rfl rfl hR11
    · rw [if_pos h10] at hf
      refine sk_aload_n K dX8_reach_17 rfl 0 rfl ?_
      obtain ⟨v12, e13, hf⟩ := sk_ob hf
      refine sk_getI K dX8_reach_18 fl_X8_9 rfl e13 ?_
      refine sk_aload_n K dX8_reach_21 rfl 0 rfl ?_
      obtain ⟨v14, e15, hf⟩ := sk_ob hf
      refine sk_getR K dX8_reach_22 fl_X8_21 rfl e15 ?_
      obtain ⟨v16, e17, hf⟩ := sk_ob hf
      refine sk_al20 K dX8_reach_25 e17 ?_
      refine sk_icmp_ge 67 K dX8_reach_26 (by decide) (fun h18 => ?_) (fun h18 => ?_)
      · rw [if_pos h18] at hf
        have hR19 : d = dd := Option.some.inj hf
        exact sk_vret K dX8_reach_67 rfl rfl rfl hR19
      · rw [if_neg h18] at hf
        refine sk_aload_n K dX8_reach_29 rfl 0 rfl ?_
        obtain ⟨v20, e21, hf⟩ := sk_ob hf
        refine sk_getR K dX8_reach_30 fl_X8_25 rfl e21 ?_
        refine sk_aload_n K dX8_reach_33 rfl 0 rfl ?_
        refine sk_iload_n K dX8_reach_34 rfl 1 rfl ?_
        obtain ⟨h24, hf⟩ := sk_ib hf
        obtain ⟨v22, e23, hf⟩ := sk_ob hf
        refine sk_callV (As := [.int p1]) (st := [.ref v20]) K dX8_reach_35 cl_X8_35 h24 (sX8_spot C l e23) (by decide) rfl rfl (Nat.le_of_ble_eq_true rfl) R1 R2 ?_
        refine sk_iconst (1 : Int32) K dX8_reach_38 (by decide) ?_
        refine sk_iload_n K dX8_reach_39 rfl 3 rfl ?_
        refine sk_iadd K dX8_reach_40 ?_
        refine sk_bipush (32 : Int32) K dX8_reach_41 (by decide) ?_
        refine sk_iload_n K dX8_reach_43 rfl 2 rfl ?_
        refine sk_imul K dX8_reach_44 ?_
        refine sk_iadd K dX8_reach_45 ?_
        obtain ⟨d25, e26, hf⟩ := sk_ob hf
        refine sk_ast20 d25 K dX8_reach_46 e26 ?_
        refine sk_aload_n K dX8_reach_47 rfl 0 rfl ?_
        obtain ⟨v27, e28, hf⟩ := sk_ob hf
        refine sk_getR K dX8_reach_48 fl_X8_21 rfl e28 ?_
        refine sk_aload_n K dX8_reach_51 rfl 0 rfl ?_
        obtain ⟨v29, e30, hf⟩ := sk_ob hf
        refine sk_getI K dX8_reach_52 fl_X8_9 rfl e30 ?_
        refine sk_iload_n K dX8_reach_55 rfl 1 rfl ?_
        obtain ⟨d31, e32, hf⟩ := sk_ob hf
        refine sk_ast20 d31 K dX8_reach_56 e32 ?_
        refine sk_aload_n K dX8_reach_57 rfl 0 rfl ?_
        refine sk_dup K dX8_reach_58 rfl ?_
        obtain ⟨v33, e34, hf⟩ := sk_ob hf
        refine sk_getI K dX8_reach_59 fl_X8_9 rfl e34 ?_
        refine sk_iconst (1 : Int32) K dX8_reach_62 (by decide) ?_
        refine sk_iadd K dX8_reach_63 ?_
        obtain ⟨d35, e36, hf⟩ := sk_ob hf
        refine sk_putI d35 K dX8_reach_64 fl_X8_9 rfl rfl rfl e36 ?_
        have hR37 : d35 = dd := Option.some.inj hf
        exact sk_vret K dX8_reach_67 rfl rfl rfl hR37
noncomputable def fX8_deedTo (S : sk_S) (d : sk_D) (p0 : Nat) (p1 : Int32) : Option (Int32) :=
  (sk_gR S p0 7 4).bind fun v1 => if S.2.1 p0 = (7, 0) then ((fX8_spot S d p0 p1).bind fun v3 => (sk_lI S d v1 20 v3).bind fun v6 => some ((v6 - (1 : Int32)) &&& (31 : Int32))) else none
set_option maxRecDepth 100000 in
set_option maxHeartbeats 4000000 in
theorem sX8_deedTo (C : sk_C) (l : Launch) {S : sk_S} {d : sk_D} {p0 : Nat} {p1 : Int32} {rr : Int32} (hf : fX8_deedTo S d p0 p1 = some rr) : sk_Met C l 2 yX8_deedTo cX8_deedTo 2 (some .int) [.ref p0, .int p1] S d (some (.int rr)) S d := by
  refine sk_Met.of (by decide) (Nat.le_of_ble_eq_true rfl) (Nat.le_refl _) (Nat.le_refl _) (fun X K0 hX => ?_)
  have K : sk_Ok X C cX8_deedTo 2 RX8 "deedTo" (some .int) 2 l (some (.int rr)) S d := K0
  have R1 : X.2.2.2.2.2.2.2.2.2.2.2.1 ≤ S.1.1 ∧ X.2.2.2.2.2.2.2.2.2.2.2.2 ≤ S.1.2 := by rw [hX]; exact ⟨Nat.le_refl _, Nat.le_refl _⟩
  have R2 : S.1.1 ≤ S.1.1 ∧ S.1.2 ≤ S.1.2 := ⟨Nat.le_refl _, Nat.le_refl _⟩
  show sk_G X C 2 S d 0 [(0, .ref p0), (1, .int p1)] []
  unfold fX8_deedTo at hf
  refine sk_aload_n K dX8_deedTo_0 rfl 0 rfl ?_
  obtain ⟨v1, e2, hf⟩ := sk_ob hf
  refine sk_getR K dX8_deedTo_1 fl_X8_25 rfl e2 ?_
  refine sk_aload_n K dX8_deedTo_4 rfl 0 rfl ?_
  refine sk_iload_n K dX8_deedTo_5 rfl 1 rfl ?_
  obtain ⟨h5, hf⟩ := sk_ib hf
  obtain ⟨v3, e4, hf⟩ := sk_ob hf
  refine sk_callV (As := [.int p1]) (st := [.ref v1]) K dX8_deedTo_6 cl_X8_35 h5 (sX8_spot C l e4) (by decide) rfl rfl (Nat.le_of_ble_eq_true rfl) R1 R2 ?_
  obtain ⟨v6, e7, hf⟩ := sk_ob hf
  refine sk_ald20 K dX8_deedTo_9 e7 ?_
  refine sk_iconst (1 : Int32) K dX8_deedTo_10 (by decide) ?_
  refine sk_isub K dX8_deedTo_11 ?_
  refine sk_bipush (31 : Int32) K dX8_deedTo_12 (by decide) ?_
  refine sk_iand K dX8_deedTo_14 ?_
  have hR8 : ((v6 - (1 : Int32)) &&& (31 : Int32)) = rr := Option.some.inj hf
  exact sk_iret K dX8_deedTo_15 rfl rfl hR8 rfl rfl
noncomputable def fX8_stateBefore (S : sk_S) (d : sk_D) (p0 : Nat) (p1 : Int32) : Option (Int32) :=
  (sk_gR S p0 7 4).bind fun v1 => if S.2.1 p0 = (7, 0) then ((fX8_spot S d p0 p1).bind fun v3 => (sk_lI S d v1 20 v3).bind fun v6 => some ((v6 - (1 : Int32)) >>> ((5 : Int32) &&& 31))) else none
set_option maxRecDepth 100000 in
set_option maxHeartbeats 4000000 in
theorem sX8_stateBefore (C : sk_C) (l : Launch) {S : sk_S} {d : sk_D} {p0 : Nat} {p1 : Int32} {rr : Int32} (hf : fX8_stateBefore S d p0 p1 = some rr) : sk_Met C l 2 yX8_stateBefore cX8_stateBefore 2 (some .int) [.ref p0, .int p1] S d (some (.int rr)) S d := by
  refine sk_Met.of (by decide) (Nat.le_of_ble_eq_true rfl) (Nat.le_refl _) (Nat.le_refl _) (fun X K0 hX => ?_)
  have K : sk_Ok X C cX8_stateBefore 2 RX8 "stateBefore" (some .int) 2 l (some (.int rr)) S d := K0
  have R1 : X.2.2.2.2.2.2.2.2.2.2.2.1 ≤ S.1.1 ∧ X.2.2.2.2.2.2.2.2.2.2.2.2 ≤ S.1.2 := by rw [hX]; exact ⟨Nat.le_refl _, Nat.le_refl _⟩
  have R2 : S.1.1 ≤ S.1.1 ∧ S.1.2 ≤ S.1.2 := ⟨Nat.le_refl _, Nat.le_refl _⟩
  show sk_G X C 2 S d 0 [(0, .ref p0), (1, .int p1)] []
  unfold fX8_stateBefore at hf
  refine sk_aload_n K dX8_stateBefore_0 rfl 0 rfl ?_
  obtain ⟨v1, e2, hf⟩ := sk_ob hf
  refine sk_getR K dX8_stateBefore_1 fl_X8_25 rfl e2 ?_
  refine sk_aload_n K dX8_stateBefore_4 rfl 0 rfl ?_
  refine sk_iload_n K dX8_stateBefore_5 rfl 1 rfl ?_
  obtain ⟨h5, hf⟩ := sk_ib hf
  obtain ⟨v3, e4, hf⟩ := sk_ob hf
  refine sk_callV (As := [.int p1]) (st := [.ref v1]) K dX8_stateBefore_6 cl_X8_35 h5 (sX8_spot C l e4) (by decide) rfl rfl (Nat.le_of_ble_eq_true rfl) R1 R2 ?_
  obtain ⟨v6, e7, hf⟩ := sk_ob hf
  refine sk_ald20 K dX8_stateBefore_9 e7 ?_
  refine sk_iconst (1 : Int32) K dX8_stateBefore_10 (by decide) ?_
  refine sk_isub K dX8_stateBefore_11 ?_
  refine sk_iconst (5 : Int32) K dX8_stateBefore_12 (by decide) ?_
  refine sk_ishr K dX8_stateBefore_13 ?_
  have hR8 : ((v6 - (1 : Int32)) >>> ((5 : Int32) &&& 31)) = rr := Option.some.inj hf
  exact sk_iret K dX8_stateBefore_14 rfl rfl hR8 rfl rfl
noncomputable def fX8_length_L4 (S : sk_S) (d : sk_D) (p0 : Nat) (s1 : Int32 × Int32) : Option ((Int32 × Int32) ⊕ (Int32)) :=
  (sk_gR S p0 7 3).bind fun v1 => (sk_al S v1 20).bind fun v3 => if v3 ≤ s1.2 then (some (.inr (-1 : Int32))) else (if s1.1 < 0 then (some (.inr (-1 : Int32))) else (if S.2.1 p0 = (7, 0) then ((fX8_deedTo S d p0 s1.1).bind fun v9 => if v9 = (31 : Int32) then (some (.inr s1.2)) else (if S.2.1 p0 = (7, 0) then ((fX8_stateBefore S d p0 s1.1).bind fun v13 => some (.inl (v13, s1.2 + 1))) else none)) else none))
noncomputable def fX8_length (S : sk_S) (d : sk_D) (p0 : Nat) (p1 : Int32) : Option (Int32) :=
  (sk_itr (fX8_length_L4 S d p0) (p1, (0 : Int32))).bind fun x1 => some x1
set_option maxRecDepth 100000 in
set_option maxHeartbeats 4000000 in
theorem sX8_length (C : sk_C) (l : Launch) {S : sk_S} {d : sk_D} {p0 : Nat} {p1 : Int32} {rr : Int32} (hf : fX8_length S d p0 p1 = some rr) : sk_Met C l 3 yX8_length cX8_length 4 (some .int) [.ref p0, .int p1] S d (some (.int rr)) S d := by
  refine sk_Met.of (by decide) (Nat.le_of_ble_eq_true rfl) (Nat.le_refl _) (Nat.le_refl _) (fun X K0 hX => ?_)
  have K : sk_Ok X C cX8_length 4 RX8 "length" (some .int) 3 l (some (.int rr)) S d := K0
  have R1 : X.2.2.2.2.2.2.2.2.2.2.2.1 ≤ S.1.1 ∧ X.2.2.2.2.2.2.2.2.2.2.2.2 ≤ S.1.2 := by rw [hX]; exact ⟨Nat.le_refl _, Nat.le_refl _⟩
  have R2 : S.1.1 ≤ S.1.1 ∧ S.1.2 ≤ S.1.2 := ⟨Nat.le_refl _, Nat.le_refl _⟩
  show sk_G X C 4 S d 0 [(0, .ref p0), (1, .int p1)] []
  unfold fX8_length at hf
  refine sk_iload_n K dX8_length_0 rfl 1 rfl ?_
  refine sk_istore_n [(2, .int p1), (0, .ref p0), (1, .int p1)] K dX8_length_1 rfl (by decide) rfl ?_
  refine sk_iconst (0 : Int32) K dX8_length_2 (by decide) ?_
  refine sk_istore_n [(3, .int (0 : Int32)), (2, .int p1), (0, .ref p0), (1, .int p1)] K dX8_length_3 rfl (by decide) rfl ?_
  obtain ⟨x1, he1, hf⟩ := sk_ob hf
  have hret1 : ∀ r, r = x1 → r = rr := by
    intro r hr
    subst hr
    exact Option.some.inj hf
  refine sk_sub [(0, .ref p0), (2, .int p1), (3, .int (0 : Int32))] [2, 1, 0] rfl ?_
  refine sk_loop (fun s1 => sk_G X C 4 S d 4 [(0, .ref p0), (2, .int s1.1), (3, .int s1.2)] []) he1 (fun s1 o1 hf ih1 hx1 => ?_)
  unfold fX8_length_L4 at hf
  refine sk_iload_n K dX8_length_4 rfl 2 rfl ?_
  refine sk_aload_n K dX8_length_5 rfl 0 rfl ?_
  obtain ⟨v1, e2, hf⟩ := sk_ob hf
  refine sk_getR K dX8_length_6 fl_X8_21 rfl e2 ?_
  obtain ⟨v3, e4, hf⟩ := sk_ob hf
  refine sk_al20 K dX8_length_9 e4 ?_
  refine sk_icmp_ge 41 K dX8_length_10 (by decide) (fun h5 => ?_) (fun h5 => ?_)
  · rw [if_pos h5] at hf
    refine sk_iconst (-1 : Int32) K dX8_length_41 (by decide) ?_
    have hR6 : (-1 : Int32) = rr := hret1 _ (hx1 _ (Option.some.inj hf).symm)
    exact sk_iret K dX8_length_42 rfl rfl hR6 rfl rfl
  · rw [if_neg h5] at hf
    refine sk_iload_n K dX8_length_13 rfl 1 rfl ?_
    refine sk_if_lt 41 K dX8_length_14 (by decide) (fun h7 => ?_) (fun h7 => ?_)
    · rw [if_pos h7] at hf
      refine sk_iconst (-1 : Int32) K dX8_length_41 (by decide) ?_
      have hR8 : (-1 : Int32) = rr := hret1 _ (hx1 _ (Option.some.inj hf).symm)
      exact sk_iret K dX8_length_42 rfl rfl hR8 rfl rfl
    · rw [if_neg h7] at hf
      refine sk_aload_n K dX8_length_17 rfl 0 rfl ?_
      refine sk_iload_n K dX8_length_18 rfl 1 rfl ?_
      obtain ⟨h11, hf⟩ := sk_ib hf
      obtain ⟨v9, e10, hf⟩ := sk_ob hf
      refine sk_callV (As := [.int s1.1]) (st := []) K dX8_length_19 cl_X8_87 h11 (sX8_deedTo C l e10) (by decide) rfl rfl (Nat.le_of_ble_eq_true rfl) R1 R2 ?_
      refine sk_bipush (31 : Int32) K dX8_length_22 (by decide) ?_
      refine sk_icmp_ne 29 K dX8_length_24 (by decide) (fun h12 => ?_) (fun h12 => ?_)
      · rw [if_neg h12] at hf
        refine sk_aload_n K dX8_length_29 rfl 0 rfl ?_
        refine sk_iload_n K dX8_length_30 rfl 1 rfl ?_
        obtain ⟨h15, hf⟩ := sk_ib hf
        obtain ⟨v13, e14, hf⟩ := sk_ob hf
        refine sk_callV (As := [.int s1.1]) (st := []) K dX8_length_31 cl_X8_90 h15 (sX8_stateBefore C l e14) (by decide) rfl rfl (Nat.le_of_ble_eq_true rfl) R1 R2 ?_
        refine sk_istore_n [(2, .int v13), (0, .ref p0), (3, .int s1.2)] K dX8_length_34 rfl (by decide) rfl ?_
        refine sk_iinc (s1.2 + 1) [(3, .int (s1.2 + 1)), (2, .int v13), (0, .ref p0)] K dX8_length_35 2 rfl rfl (by decide) rfl ?_
        refine sk_goto 4 K dX8_length_38 (by decide) ?_
        refine sk_sub [(0, .ref p0), (2, .int v13), (3, .int (s1.2 + 1))] [2, 1, 0] rfl ?_
        have h9 := ih1 _ (Option.some.inj hf).symm
        exact h9
      · rw [if_pos h12] at hf
        refine sk_iload_n K dX8_length_27 rfl 2 rfl ?_
        have hR16 : s1.2 = rr := hret1 _ (hx1 _ (Option.some.inj hf).symm)
        exact sk_iret K dX8_length_28 rfl rfl hR16 rfl rfl
noncomputable def fX8_deedAt_L25 (S : sk_S) (d : sk_D) (p0 : Nat) (p2 : Int32) (s1 : Int32 × Int32) : Option ((Int32 × Int32) ⊕ (Int32)) :=
  if s1.2 ≤ p2 then (some (.inr s1.1)) else (if S.2.1 p0 = (7, 0) then ((fX8_stateBefore S d p0 s1.1).bind fun v12 => some (.inl (v12, s1.2 - 1))) else none)
noncomputable def fX8_deedAt (S : sk_S) (d : sk_D) (p0 : Nat) (p1 : Int32) (p2 : Int32) : Option (Int32) :=
  if S.2.1 p0 = (7, 0) then ((fX8_length S d p0 p1).bind fun v1 => if p2 < 0 then (some (-1 : Int32)) else (if p2 ≤ (v1 - (1 : Int32)) then ((sk_itr (fX8_deedAt_L25 S d p0 p2) (p1, v1 - (1 : Int32))).bind fun y1 => if S.2.1 p0 = (7, 0) then ((fX8_deedTo S d p0 y1).bind fun v7 => some v7) else none) else (some (-1 : Int32)))) else none
set_option maxRecDepth 100000 in
set_option maxHeartbeats 4000000 in
theorem sX8_deedAt (C : sk_C) (l : Launch) {S : sk_S} {d : sk_D} {p0 : Nat} {p1 : Int32} {p2 : Int32} {rr : Int32} (hf : fX8_deedAt S d p0 p1 p2 = some rr) : sk_Met C l 4 yX8_deedAt cX8_deedAt 6 (some .int) [.ref p0, .int p1, .int p2] S d (some (.int rr)) S d := by
  refine sk_Met.of (by decide) (Nat.le_of_ble_eq_true rfl) (Nat.le_refl _) (Nat.le_refl _) (fun X K0 hX => ?_)
  have K : sk_Ok X C cX8_deedAt 6 RX8 "deedAt" (some .int) 4 l (some (.int rr)) S d := K0
  have R1 : X.2.2.2.2.2.2.2.2.2.2.2.1 ≤ S.1.1 ∧ X.2.2.2.2.2.2.2.2.2.2.2.2 ≤ S.1.2 := by rw [hX]; exact ⟨Nat.le_refl _, Nat.le_refl _⟩
  have R2 : S.1.1 ≤ S.1.1 ∧ S.1.2 ≤ S.1.2 := ⟨Nat.le_refl _, Nat.le_refl _⟩
  show sk_G X C 6 S d 0 [(0, .ref p0), (1, .int p1), (2, .int p2)] []
  unfold fX8_deedAt at hf
  refine sk_aload_n K dX8_deedAt_0 rfl 0 rfl ?_
  refine sk_iload_n K dX8_deedAt_1 rfl 1 rfl ?_
  obtain ⟨h3, hf⟩ := sk_ib hf
  obtain ⟨v1, e2, hf⟩ := sk_ob hf
  refine sk_callV (As := [.int p1]) (st := []) K dX8_deedAt_2 cl_X8_93 h3 (sX8_length C l e2) (by decide) rfl rfl (Nat.le_of_ble_eq_true rfl) R1 R2 ?_
  refine sk_iconst (1 : Int32) K dX8_deedAt_5 (by decide) ?_
  refine sk_isub K dX8_deedAt_6 ?_
  refine sk_istore_n [(3, .int (v1 - (1 : Int32))), (0, .ref p0), (1, .int p1), (2, .int p2)] K dX8_deedAt_7 rfl (by decide) rfl ?_
  refine sk_iload_n K dX8_deedAt_8 rfl 3 rfl ?_
  refine sk_if_lt 17 K dX8_deedAt_9 (by decide) (fun h4 => ?_) (fun h4 => ?_)
  · rw [if_pos h4] at hf
    refine sk_iconst (-1 : Int32) K dX8_deedAt_17 (by decide) ?_
    have hR5 : (-1 : Int32) = rr := Option.some.inj hf
    exact sk_iret K dX8_deedAt_18 rfl rfl hR5 rfl rfl
  · rw [if_neg h4] at hf
    refine sk_iload_n K dX8_deedAt_12 rfl 3 rfl ?_
    refine sk_iload_n K dX8_deedAt_13 rfl 0 rfl ?_
    refine sk_icmp_le 19 K dX8_deedAt_14 (by decide) (fun h6 => ?_) (fun h6 => ?_)
    · rw [if_pos h6] at hf
      refine sk_iload_n K dX8_deedAt_19 rfl 2 rfl ?_
      refine sk_istore [(4, .int p1), (3, .int (v1 - (1 : Int32))), (0, .ref p0), (1, .int p1), (2, .int p2)] K dX8_deedAt_20 (by decide) rfl ?_
      refine sk_iload_n K dX8_deedAt_22 rfl 1 rfl ?_
      refine sk_istore [(5, .int (v1 - (1 : Int32))), (4, .int p1), (3, .int (v1 - (1 : Int32))), (0, .ref p0), (1, .int p1), (2, .int p2)] K dX8_deedAt_23 (by decide) rfl ?_
      obtain ⟨x1, he1, hf⟩ := sk_ob hf
      have rest1 : ∀ y1, y1 = x1 → sk_G X C 6 S d 45 [(0, .ref p0), (4, .int y1)] [] := by
        intro y1 hy
        subst hy
        refine sk_aload_n K dX8_deedAt_45 rfl 0 rfl ?_
        refine sk_iload K dX8_deedAt_46 1 rfl ?_
        obtain ⟨h9, hf⟩ := sk_ib hf
        obtain ⟨v7, e8, hf⟩ := sk_ob hf
        refine sk_callV (As := [.int y1]) (st := []) K dX8_deedAt_48 cl_X8_87 h9 (sX8_deedTo C l e8) (by decide) rfl rfl (Nat.le_of_ble_eq_true rfl) R1 R2 ?_
        have hR10 : v7 = rr := Option.some.inj hf
        exact sk_iret K dX8_deedAt_51 rfl rfl hR10 rfl rfl
      refine sk_sub [(0, .ref p0), (2, .int p2), (4, .int p1), (5, .int (v1 - (1 : Int32)))] [3, 5, 1, 0] rfl ?_
      refine sk_loop (fun s1 => sk_G X C 6 S d 25 [(0, .ref p0), (2, .int p2), (4, .int s1.1), (5, .int s1.2)] []) he1 (fun s1 o1 hf ih1 hx1 => ?_)
      unfold fX8_deedAt_L25 at hf
      refine sk_iload K dX8_deedAt_25 3 rfl ?_
      refine sk_iload_n K dX8_deedAt_27 rfl 1 rfl ?_
      refine sk_icmp_le 45 K dX8_deedAt_28 (by decide) (fun h11 => ?_) (fun h11 => ?_)
      · rw [if_pos h11] at hf
        refine sk_sub [(0, .ref p0), (4, .int s1.1)] [0, 2] rfl ?_
        have h9 := rest1 _ (hx1 _ (Option.some.inj hf).symm)
        exact h9
      · rw [if_neg h11] at hf
        refine sk_aload_n K dX8_deedAt_31 rfl 0 rfl ?_
        refine sk_iload K dX8_deedAt_32 2 rfl ?_
        obtain ⟨h14, hf⟩ := sk_ib hf
        obtain ⟨v12, e13, hf⟩ := sk_ob hf
        refine sk_callV (As := [.int s1.1]) (st := []) K dX8_deedAt_34 cl_X8_90 h14 (sX8_stateBefore C l e13) (by decide) rfl rfl (Nat.le_of_ble_eq_true rfl) R1 R2 ?_
        refine sk_istore [(4, .int v12), (0, .ref p0), (2, .int p2), (5, .int s1.2)] K dX8_deedAt_37 (by decide) rfl ?_
        refine sk_iinc (s1.2 - 1) [(5, .int (s1.2 - 1)), (4, .int v12), (0, .ref p0), (2, .int p2)] K dX8_deedAt_39 3 rfl (sk_dec1 _) (by decide) rfl ?_
        refine sk_goto 25 K dX8_deedAt_42 (by decide) ?_
        refine sk_sub [(0, .ref p0), (2, .int p2), (4, .int v12), (5, .int (s1.2 - 1))] [2, 3, 1, 0] rfl ?_
        have h9 := ih1 _ (Option.some.inj hf).symm
        exact h9
    · rw [if_neg h6] at hf
      refine sk_iconst (-1 : Int32) K dX8_deedAt_17 (by decide) ?_
      have hR15 : (-1 : Int32) = rr := Option.some.inj hf
      exact sk_iret K dX8_deedAt_18 rfl rfl hR15 rfl rfl
noncomputable def fX8_addWays (S : sk_S) (d : sk_D) (p0 : Nat) (p1 : Int32) (p2 : Int64) : Option (sk_D) :=
  if p1 < 0 then (some d) else ((sk_gR S p0 7 6).bind fun v3 => if S.2.1 p0 = (7, 0) then ((fX8_spot S d p0 p1).bind fun v5 => (sk_lJ S d v3 v5).bind fun v8 => (sk_sJ S d v3 v5 (v8 + p2)).bind fun d10 => some d10) else none)
set_option maxRecDepth 100000 in
set_option maxHeartbeats 4000000 in
theorem sX8_addWays (C : sk_C) (l : Launch) {S : sk_S} {d : sk_D} {p0 : Nat} {p1 : Int32} {p2 : Int64} {dd : sk_D} (hf : fX8_addWays S d p0 p1 p2 = some dd) : sk_Met C l 2 yX8_addWays cX8_addWays 4 none [.ref p0, .int p1, .long p2] S d none S dd := by
  refine sk_Met.of (by decide) (Nat.le_of_ble_eq_true rfl) (Nat.le_refl _) (Nat.le_refl _) (fun X K0 hX => ?_)
  have K : sk_Ok X C cX8_addWays 4 RX8 "addWays" none 2 l none S dd := K0
  have R1 : X.2.2.2.2.2.2.2.2.2.2.2.1 ≤ S.1.1 ∧ X.2.2.2.2.2.2.2.2.2.2.2.2 ≤ S.1.2 := by rw [hX]; exact ⟨Nat.le_refl _, Nat.le_refl _⟩
  have R2 : S.1.1 ≤ S.1.1 ∧ S.1.2 ≤ S.1.2 := ⟨Nat.le_refl _, Nat.le_refl _⟩
  show sk_G X C 4 S d 0 [(0, .ref p0), (1, .int p1), (2, .long p2)] []
  unfold fX8_addWays at hf
  refine sk_iload_n K dX8_addWays_0 rfl 1 rfl ?_
  refine sk_if_lt 18 K dX8_addWays_1 (by decide) (fun h1 => ?_) (fun h1 => ?_)
  · rw [if_pos h1] at hf
    have hR2 : d = dd := Option.some.inj hf
    exact sk_vret K dX8_addWays_18 rfl rfl rfl hR2
  · rw [if_neg h1] at hf
    refine sk_aload_n K dX8_addWays_4 rfl 0 rfl ?_
    obtain ⟨v3, e4, hf⟩ := sk_ob hf
    refine sk_getR K dX8_addWays_5 fl_X8_32 rfl e4 ?_
    refine sk_aload_n K dX8_addWays_8 rfl 0 rfl ?_
    refine sk_iload_n K dX8_addWays_9 rfl 1 rfl ?_
    obtain ⟨h7, hf⟩ := sk_ib hf
    obtain ⟨v5, e6, hf⟩ := sk_ob hf
    refine sk_callV (As := [.int p1]) (st := [.ref v3]) K dX8_addWays_10 cl_X8_35 h7 (sX8_spot C l e6) (by decide) rfl rfl (Nat.le_of_ble_eq_true rfl) R1 R2 ?_
    refine sk_dup2 K dX8_addWays_13 rfl rfl ?_
    obtain ⟨v8, e9, hf⟩ := sk_ob hf
    refine sk_ald21 K dX8_addWays_14 e9 ?_
    refine sk_lload_n K dX8_addWays_15 rfl 2 rfl ?_
    refine sk_ladd K dX8_addWays_16 ?_
    obtain ⟨d10, e11, hf⟩ := sk_ob hf
    refine sk_ast21 d10 K dX8_addWays_17 e11 ?_
    have hR12 : d10 = dd := Option.some.inj hf
    exact sk_vret K dX8_addWays_18 rfl rfl rfl hR12
noncomputable def fJ7_fill_031fb_L5 (S : sk_S) (p0 : Nat) (p1 : Int32) (v1 : Int32) (s1 : Int32 × sk_D) : Option ((Int32 × sk_D) ⊕ (sk_D)) :=
  if v1 ≤ s1.1 then (some (.inr s1.2)) else ((sk_sI S s1.2 p0 22 s1.1 (vp_nar .byte p1)).bind fun d5 => some (.inl (s1.1 + 1, d5)))
noncomputable def fJ7_fill_031fb (S : sk_S) (d : sk_D) (p0 : Nat) (p1 : Int32) : Option (sk_D) :=
  (sk_al S p0 22).bind fun v1 => (sk_itr (fJ7_fill_031fb_L5 S p0 p1 v1) ((0 : Int32), d)).bind fun x1 => some x1
set_option maxRecDepth 100000 in
set_option maxHeartbeats 4000000 in
theorem sJ7_fill_031fb (C : sk_C) (l : Launch) {S : sk_S} {d : sk_D} {p0 : Nat} {p1 : Int32} {dd : sk_D} (hf : fJ7_fill_031fb S d p0 p1 = some dd) : sk_Met C l 0 yJ7_fill_031fb cJ7_fill_031fb 4 none [.ref p0, .int p1] S d none S dd := by
  refine sk_Met.of (by decide) (Nat.le_of_ble_eq_true rfl) (Nat.le_refl _) (Nat.le_refl _) (fun X K0 hX => ?_)
  have K : sk_Ok X C cJ7_fill_031fb 4 RJ7 "fill" none 0 l none S dd := K0
  have R1 : X.2.2.2.2.2.2.2.2.2.2.2.1 ≤ S.1.1 ∧ X.2.2.2.2.2.2.2.2.2.2.2.2 ≤ S.1.2 := by rw [hX]; exact ⟨Nat.le_refl _, Nat.le_refl _⟩
  have R2 : S.1.1 ≤ S.1.1 ∧ S.1.2 ≤ S.1.2 := ⟨Nat.le_refl _, Nat.le_refl _⟩
  show sk_G X C 4 S d 0 [(0, .ref p0), (1, .int p1)] []
  unfold fJ7_fill_031fb at hf
  refine sk_iconst (0 : Int32) K dJ7_fill_031fb_0 (by decide) ?_
  refine sk_istore_n [(2, .int (0 : Int32)), (0, .ref p0), (1, .int p1)] K dJ7_fill_031fb_1 rfl (by decide) rfl ?_
  refine sk_aload_n K dJ7_fill_031fb_2 rfl 1 rfl ?_
  obtain ⟨v1, e2, hf⟩ := sk_ob hf
  refine sk_al22 K dJ7_fill_031fb_3 e2 ?_
  refine sk_istore_n [(3, .int v1), (2, .int (0 : Int32)), (0, .ref p0), (1, .int p1)] K dJ7_fill_031fb_4 rfl (by decide) rfl ?_
  obtain ⟨x1, he1, hf⟩ := sk_ob hf
  have hret1 : ∀ r, r = x1 → r = dd := by
    intro r hr
    subst hr
    exact Option.some.inj hf
  refine sk_sub [(0, .ref p0), (1, .int p1), (2, .int (0 : Int32)), (3, .int v1)] [2, 3, 1, 0] rfl ?_
  refine sk_loop (fun s1 => sk_G X C 4 S s1.2 5 [(0, .ref p0), (1, .int p1), (2, .int s1.1), (3, .int v1)] []) he1 (fun s1 o1 hf ih1 hx1 => ?_)
  unfold fJ7_fill_031fb_L5 at hf
  refine sk_iload_n K dJ7_fill_031fb_5 rfl 2 rfl ?_
  refine sk_iload_n K dJ7_fill_031fb_6 rfl 3 rfl ?_
  refine sk_icmp_ge 20 K dJ7_fill_031fb_7 (by decide) (fun h3 => ?_) (fun h3 => ?_)
  · rw [if_pos h3] at hf
    have hR4 : s1.2 = dd := hret1 _ (hx1 _ (Option.some.inj hf).symm)
    exact sk_vret K dJ7_fill_031fb_20 rfl rfl rfl hR4
  · rw [if_neg h3] at hf
    refine sk_aload_n K dJ7_fill_031fb_10 rfl 0 rfl ?_
    refine sk_iload_n K dJ7_fill_031fb_11 rfl 2 rfl ?_
    refine sk_iload_n K dJ7_fill_031fb_12 rfl 1 rfl ?_
    obtain ⟨d5, e6, hf⟩ := sk_ob hf
    refine sk_ast22 d5 K dJ7_fill_031fb_13 e6 ?_
    refine sk_iinc (s1.1 + 1) [(2, .int (s1.1 + 1)), (0, .ref p0), (1, .int p1), (3, .int v1)] K dJ7_fill_031fb_14 2 rfl rfl (by decide) rfl ?_
    refine sk_goto 5 K dJ7_fill_031fb_17 (by decide) ?_
    refine sk_sub [(0, .ref p0), (1, .int p1), (2, .int (s1.1 + 1)), (3, .int v1)] [1, 2, 0, 3] rfl ?_
    have h9 := ih1 _ (Option.some.inj hf).symm
    exact h9
noncomputable def fJ7_fill_53178_L5 (S : sk_S) (p0 : Nat) (p1 : Int32) (v1 : Int32) (s1 : Int32 × sk_D) : Option ((Int32 × sk_D) ⊕ (sk_D)) :=
  if v1 ≤ s1.1 then (some (.inr s1.2)) else ((sk_sI S s1.2 p0 20 s1.1 p1).bind fun d5 => some (.inl (s1.1 + 1, d5)))
noncomputable def fJ7_fill_53178 (S : sk_S) (d : sk_D) (p0 : Nat) (p1 : Int32) : Option (sk_D) :=
  (sk_al S p0 20).bind fun v1 => (sk_itr (fJ7_fill_53178_L5 S p0 p1 v1) ((0 : Int32), d)).bind fun x1 => some x1
set_option maxRecDepth 100000 in
set_option maxHeartbeats 4000000 in
theorem sJ7_fill_53178 (C : sk_C) (l : Launch) {S : sk_S} {d : sk_D} {p0 : Nat} {p1 : Int32} {dd : sk_D} (hf : fJ7_fill_53178 S d p0 p1 = some dd) : sk_Met C l 0 yJ7_fill_53178 cJ7_fill_53178 4 none [.ref p0, .int p1] S d none S dd := by
  refine sk_Met.of (by decide) (Nat.le_of_ble_eq_true rfl) (Nat.le_refl _) (Nat.le_refl _) (fun X K0 hX => ?_)
  have K : sk_Ok X C cJ7_fill_53178 4 RJ7 "fill" none 0 l none S dd := K0
  have R1 : X.2.2.2.2.2.2.2.2.2.2.2.1 ≤ S.1.1 ∧ X.2.2.2.2.2.2.2.2.2.2.2.2 ≤ S.1.2 := by rw [hX]; exact ⟨Nat.le_refl _, Nat.le_refl _⟩
  have R2 : S.1.1 ≤ S.1.1 ∧ S.1.2 ≤ S.1.2 := ⟨Nat.le_refl _, Nat.le_refl _⟩
  show sk_G X C 4 S d 0 [(0, .ref p0), (1, .int p1)] []
  unfold fJ7_fill_53178 at hf
  refine sk_iconst (0 : Int32) K dJ7_fill_53178_0 (by decide) ?_
  refine sk_istore_n [(2, .int (0 : Int32)), (0, .ref p0), (1, .int p1)] K dJ7_fill_53178_1 rfl (by decide) rfl ?_
  refine sk_aload_n K dJ7_fill_53178_2 rfl 1 rfl ?_
  obtain ⟨v1, e2, hf⟩ := sk_ob hf
  refine sk_al20 K dJ7_fill_53178_3 e2 ?_
  refine sk_istore_n [(3, .int v1), (2, .int (0 : Int32)), (0, .ref p0), (1, .int p1)] K dJ7_fill_53178_4 rfl (by decide) rfl ?_
  obtain ⟨x1, he1, hf⟩ := sk_ob hf
  have hret1 : ∀ r, r = x1 → r = dd := by
    intro r hr
    subst hr
    exact Option.some.inj hf
  refine sk_sub [(0, .ref p0), (1, .int p1), (2, .int (0 : Int32)), (3, .int v1)] [2, 3, 1, 0] rfl ?_
  refine sk_loop (fun s1 => sk_G X C 4 S s1.2 5 [(0, .ref p0), (1, .int p1), (2, .int s1.1), (3, .int v1)] []) he1 (fun s1 o1 hf ih1 hx1 => ?_)
  unfold fJ7_fill_53178_L5 at hf
  refine sk_iload_n K dJ7_fill_53178_5 rfl 2 rfl ?_
  refine sk_iload_n K dJ7_fill_53178_6 rfl 3 rfl ?_
  refine sk_icmp_ge 20 K dJ7_fill_53178_7 (by decide) (fun h3 => ?_) (fun h3 => ?_)
  · rw [if_pos h3] at hf
    have hR4 : s1.2 = dd := hret1 _ (hx1 _ (Option.some.inj hf).symm)
    exact sk_vret K dJ7_fill_53178_20 rfl rfl rfl hR4
  · rw [if_neg h3] at hf
    refine sk_aload_n K dJ7_fill_53178_10 rfl 0 rfl ?_
    refine sk_iload_n K dJ7_fill_53178_11 rfl 2 rfl ?_
    refine sk_iload_n K dJ7_fill_53178_12 rfl 1 rfl ?_
    obtain ⟨d5, e6, hf⟩ := sk_ob hf
    refine sk_ast20 d5 K dJ7_fill_53178_13 e6 ?_
    refine sk_iinc (s1.1 + 1) [(2, .int (s1.1 + 1)), (0, .ref p0), (1, .int p1), (3, .int v1)] K dJ7_fill_53178_14 2 rfl rfl (by decide) rfl ?_
    refine sk_goto 5 K dJ7_fill_53178_17 (by decide) ?_
    refine sk_sub [(0, .ref p0), (1, .int p1), (2, .int (s1.1 + 1)), (3, .int v1)] [1, 2, 0, 3] rfl ?_
    have h9 := ih1 _ (Option.some.inj hf).symm
    exact h9
noncomputable def fX9_take (S : sk_S) (d : sk_D) (p0 : Nat) (p1 : Nat) : Option (sk_D) :=
  (sk_gR S p0 8 0).bind fun v1 => if S.2.1 v1 = (2, 0) then ((fX2_copyFrom S d v1 p1).bind fun d5 => (sk_gR S p0 8 1).bind fun v7 => (fJ7_fill_031fb S d5 v7 (0 : Int32)).bind fun d11 => (sk_gR S p0 8 2).bind fun v12 => (fJ7_fill_53178 S d11 v12 (0 : Int32)).bind fun d16 => some d16) else none
set_option maxRecDepth 100000 in
set_option maxHeartbeats 4000000 in
theorem sX9_take (C : sk_C) (l : Launch) {S : sk_S} {d : sk_D} {p0 : Nat} {p1 : Nat} {dd : sk_D} (hf : fX9_take S d p0 p1 = some dd) : sk_Met C l 3 yX9_take cX9_take 2 none [.ref p0, .ref p1] S d none S dd := by
  refine sk_Met.of (by decide) (Nat.le_of_ble_eq_true rfl) (Nat.le_refl _) (Nat.le_refl _) (fun X K0 hX => ?_)
  have K : sk_Ok X C cX9_take 2 RX9 "take" none 3 l none S dd := K0
  have R1 : X.2.2.2.2.2.2.2.2.2.2.2.1 ≤ S.1.1 ∧ X.2.2.2.2.2.2.2.2.2.2.2.2 ≤ S.1.2 := by rw [hX]; exact ⟨Nat.le_refl _, Nat.le_refl _⟩
  have R2 : S.1.1 ≤ S.1.1 ∧ S.1.2 ≤ S.1.2 := ⟨Nat.le_refl _, Nat.le_refl _⟩
  show sk_G X C 2 S d 0 [(0, .ref p0), (1, .ref p1)] []
  unfold fX9_take at hf
  refine sk_aload_n K dX9_take_0 rfl 0 rfl ?_
  obtain ⟨v1, e2, hf⟩ := sk_ob hf
  refine sk_getR K dX9_take_1 fl_X9_12 rfl e2 ?_
  refine sk_aload_n K dX9_take_4 rfl 1 rfl ?_
  obtain ⟨h6, hf⟩ := sk_ib hf
  obtain ⟨d5, e4, hf⟩ := sk_ob hf
  refine sk_callV (As := [.ref p1]) (st := []) K dX9_take_5 cl_X9_31 h6 (sX2_copyFrom C l e4) (by decide) rfl rfl (Nat.le_of_ble_eq_true rfl) R1 R2 ?_
  refine sk_aload_n K dX9_take_8 rfl 0 rfl ?_
  obtain ⟨v7, e8, hf⟩ := sk_ob hf
  refine sk_getR K dX9_take_9 fl_X9_18 rfl e8 ?_
  refine sk_iconst (0 : Int32) K dX9_take_12 (by decide) ?_
  obtain ⟨d11, e10, hf⟩ := sk_ob hf
  refine sk_callS (As := [.ref v7, .int (0 : Int32)]) (st := []) K dX9_take_13 cl_X9_35 (sJ7_fill_031fb C l e10) (by decide) rfl rfl (Nat.le_of_ble_eq_true rfl) R1 R2 ?_
  refine sk_aload_n K dX9_take_16 rfl 0 rfl ?_
  obtain ⟨v12, e13, hf⟩ := sk_ob hf
  refine sk_getR K dX9_take_17 fl_X9_22 rfl e13 ?_
  refine sk_iconst (0 : Int32) K dX9_take_20 (by decide) ?_
  obtain ⟨d16, e15, hf⟩ := sk_ob hf
  refine sk_callS (As := [.ref v12, .int (0 : Int32)]) (st := []) K dX9_take_21 cl_X9_41 (sJ7_fill_53178 C l e15) (by decide) rfl rfl (Nat.le_of_ble_eq_true rfl) R1 R2 ?_
  have hR17 : d16 = dd := Option.some.inj hf
  exact sk_vret K dX9_take_24 rfl rfl rfl hR17
noncomputable def fX10_notOpenIn (S : sk_S) (d : sk_D) (p0 : Int32) : Option (Int32) :=
  some ((p0 ||| (p0 >>> ((8 : Int32) &&& 31))) &&& (255 : Int32))
set_option maxRecDepth 100000 in
set_option maxHeartbeats 4000000 in
theorem sX10_notOpenIn (C : sk_C) (l : Launch) {S : sk_S} {d : sk_D} {p0 : Int32} {rr : Int32} (hf : fX10_notOpenIn S d p0 = some rr) : sk_Met C l 0 yX10_notOpenIn cX10_notOpenIn 1 (some .int) [.int p0] S d (some (.int rr)) S d := by
  refine sk_Met.of (by decide) (Nat.le_of_ble_eq_true rfl) (Nat.le_refl _) (Nat.le_refl _) (fun X K0 hX => ?_)
  have K : sk_Ok X C cX10_notOpenIn 1 RX10 "notOpenIn" (some .int) 0 l (some (.int rr)) S d := K0
  have R1 : X.2.2.2.2.2.2.2.2.2.2.2.1 ≤ S.1.1 ∧ X.2.2.2.2.2.2.2.2.2.2.2.2 ≤ S.1.2 := by rw [hX]; exact ⟨Nat.le_refl _, Nat.le_refl _⟩
  have R2 : S.1.1 ≤ S.1.1 ∧ S.1.2 ≤ S.1.2 := ⟨Nat.le_refl _, Nat.le_refl _⟩
  show sk_G X C 1 S d 0 [(0, .int p0)] []
  unfold fX10_notOpenIn at hf
  refine sk_iload_n K dX10_notOpenIn_0 rfl 0 rfl ?_
  refine sk_iload_n K dX10_notOpenIn_1 rfl 0 rfl ?_
  refine sk_bipush (8 : Int32) K dX10_notOpenIn_2 (by decide) ?_
  refine sk_ishr K dX10_notOpenIn_4 ?_
  refine sk_ior K dX10_notOpenIn_5 ?_
  refine sk_sipush (255 : Int32) K dX10_notOpenIn_6 (by decide) ?_
  refine sk_iand K dX10_notOpenIn_9 ?_
  have hR1 : ((p0 ||| (p0 >>> ((8 : Int32) &&& 31))) &&& (255 : Int32)) = rr := Option.some.inj hf
  exact sk_iret K dX10_notOpenIn_10 rfl rfl hR1 rfl rfl
noncomputable def fX9_tryForge (S : sk_S) (d : sk_D) (p0 : Nat) (p1 : Int32) (p2 : Int32) : Option (Int32) :=
  (sk_gR S p0 8 0).bind fun v1 => if S.2.1 v1 = (2, 0) then ((fX2_has S d v1 p2).bind fun v3 => if v3 = true then ((fX10_notOpenIn S d p1).bind fun v7 => if ((v7 >>> (p2 &&& 31)) &&& (1 : Int32)) = (1 : Int32) then (some (-2 : Int32)) else ((sk_gR S p0 8 0).bind fun v10 => (fX10_liningIn S d p1).bind fun v12 => if S.2.1 v10 = (2, 0) then ((fX2_roomLeft S d v10 v12).bind fun v14 => (sk_gR S p0 8 0).bind fun v17 => (sk_gR S v17 2 5).bind fun v19 => (sk_lI S d v19 20 p2).bind fun v21 => if v21 ≤ v14 then (some (p1 ||| ((256 : Int32) <<< (p2 &&& 31)))) else (some (-4 : Int32))) else none)) else (some (-1 : Int32))) else none
set_option maxRecDepth 100000 in
set_option maxHeartbeats 4000000 in
theorem sX9_tryForge (C : sk_C) (l : Launch) {S : sk_S} {d : sk_D} {p0 : Nat} {p1 : Int32} {p2 : Int32} {rr : Int32} (hf : fX9_tryForge S d p0 p1 p2 = some rr) : sk_Met C l 1 yX9_tryForge cX9_tryForge 3 (some .int) [.ref p0, .int p1, .int p2] S d (some (.int rr)) S d := by
  refine sk_Met.of (by decide) (Nat.le_of_ble_eq_true rfl) (Nat.le_refl _) (Nat.le_refl _) (fun X K0 hX => ?_)
  have K : sk_Ok X C cX9_tryForge 3 RX9 "tryForge" (some .int) 1 l (some (.int rr)) S d := K0
  have R1 : X.2.2.2.2.2.2.2.2.2.2.2.1 ≤ S.1.1 ∧ X.2.2.2.2.2.2.2.2.2.2.2.2 ≤ S.1.2 := by rw [hX]; exact ⟨Nat.le_refl _, Nat.le_refl _⟩
  have R2 : S.1.1 ≤ S.1.1 ∧ S.1.2 ≤ S.1.2 := ⟨Nat.le_refl _, Nat.le_refl _⟩
  show sk_G X C 3 S d 0 [(0, .ref p0), (1, .int p1), (2, .int p2)] []
  unfold fX9_tryForge at hf
  refine sk_aload_n K dX9_tryForge_0 rfl 0 rfl ?_
  obtain ⟨v1, e2, hf⟩ := sk_ob hf
  refine sk_getR K dX9_tryForge_1 fl_X9_12 rfl e2 ?_
  refine sk_iload_n K dX9_tryForge_4 rfl 2 rfl ?_
  obtain ⟨h5, hf⟩ := sk_ib hf
  obtain ⟨v3, e4, hf⟩ := sk_ob hf
  refine sk_callV (As := [.int p2]) (st := []) K dX9_tryForge_5 cl_X9_63 h5 (sX2_has C l e4) (by decide) rfl rfl (Nat.le_of_ble_eq_true rfl) R1 R2 ?_
  refine sk_ifneB 13 K dX9_tryForge_8 (by decide) (fun h6 => ?_) (fun h6 => ?_)
  · rw [if_pos h6] at hf
    refine sk_iload_n K dX9_tryForge_13 rfl 1 rfl ?_
    obtain ⟨v7, e8, hf⟩ := sk_ob hf
    refine sk_callN (As := [.int p1]) (st := []) K dX9_tryForge_14 cl_X9_80 (sX10_notOpenIn C l e8) (by decide) rfl rfl (Nat.le_of_ble_eq_true rfl) R1 R2 ?_
    refine sk_iload_n K dX9_tryForge_17 rfl 2 rfl ?_
    refine sk_ishr K dX9_tryForge_18 ?_
    refine sk_iconst (1 : Int32) K dX9_tryForge_19 (by decide) ?_
    refine sk_iand K dX9_tryForge_20 ?_
    refine sk_iconst (1 : Int32) K dX9_tryForge_21 (by decide) ?_
    refine sk_icmp_ne 28 K dX9_tryForge_22 (by decide) (fun h9 => ?_) (fun h9 => ?_)
    · rw [if_neg h9] at hf
      refine sk_aload_n K dX9_tryForge_28 rfl 0 rfl ?_
      obtain ⟨v10, e11, hf⟩ := sk_ob hf
      refine sk_getR K dX9_tryForge_29 fl_X9_12 rfl e11 ?_
      refine sk_iload_n K dX9_tryForge_32 rfl 1 rfl ?_
      obtain ⟨v12, e13, hf⟩ := sk_ob hf
      refine sk_callN (As := [.int p1]) (st := [.ref v10]) K dX9_tryForge_33 cl_X9_73 (sX10_liningIn C l e13) (by decide) rfl rfl (Nat.le_of_ble_eq_true rfl) R1 R2 ?_
      obtain ⟨h16, hf⟩ := sk_ib hf
      obtain ⟨v14, e15, hf⟩ := sk_ob hf
      refine sk_callV (As := [.int v12]) (st := []) K dX9_tryForge_36 cl_X9_83 h16 (sX2_roomLeft C l e15) (by decide) rfl rfl (Nat.le_of_ble_eq_true rfl) R1 R2 ?_
      refine sk_aload_n K dX9_tryForge_39 rfl 0 rfl ?_
      obtain ⟨v17, e18, hf⟩ := sk_ob hf
      refine sk_getR K dX9_tryForge_40 fl_X9_12 rfl e18 ?_
      obtain ⟨v19, e20, hf⟩ := sk_ob hf
      refine sk_getR K dX9_tryForge_43 fl_X9_86 rfl e20 ?_
      refine sk_iload_n K dX9_tryForge_46 rfl 2 rfl ?_
      obtain ⟨v21, e22, hf⟩ := sk_ob hf
      refine sk_ald20 K dX9_tryForge_47 e22 ?_
      refine sk_icmp_ge 56 K dX9_tryForge_48 (by decide) (fun h23 => ?_) (fun h23 => ?_)
      · rw [if_pos h23] at hf
        refine sk_iload_n K dX9_tryForge_56 rfl 1 rfl ?_
        refine sk_sipush (256 : Int32) K dX9_tryForge_57 (by decide) ?_
        refine sk_iload_n K dX9_tryForge_60 rfl 2 rfl ?_
        refine sk_ishl K dX9_tryForge_61 ?_
        refine sk_ior K dX9_tryForge_62 ?_
        have hR24 : (p1 ||| ((256 : Int32) <<< (p2 &&& 31))) = rr := Option.some.inj hf
        exact sk_iret K dX9_tryForge_63 rfl rfl hR24 rfl rfl
      · rw [if_neg h23] at hf
        refine sk_bipush (-4 : Int32) K dX9_tryForge_51 (by decide) ?_
        refine sk_goto 63 K dX9_tryForge_53 (by decide) ?_
        have hR25 : (-4 : Int32) = rr := Option.some.inj hf
        exact sk_iret K dX9_tryForge_63 rfl rfl hR25 rfl rfl
    · rw [if_pos h9] at hf
      refine sk_bipush (-2 : Int32) K dX9_tryForge_25 (by decide) ?_
      have hR26 : (-2 : Int32) = rr := Option.some.inj hf
      exact sk_iret K dX9_tryForge_27 rfl rfl hR26 rfl rfl
  · rw [if_neg h6] at hf
    refine sk_iconst (-1 : Int32) K dX9_tryForge_11 (by decide) ?_
    have hR27 : (-1 : Int32) = rr := Option.some.inj hf
    exact sk_iret K dX9_tryForge_12 rfl rfl hR27 rfl rfl
noncomputable def fX10_stateIn (S : sk_S) (d : sk_D) (p0 : Int32) : Option (Int32) :=
  some (p0 &&& (65535 : Int32))
set_option maxRecDepth 100000 in
set_option maxHeartbeats 4000000 in
theorem sX10_stateIn (C : sk_C) (l : Launch) {S : sk_S} {d : sk_D} {p0 : Int32} {rr : Int32} (hf : fX10_stateIn S d p0 = some rr) : sk_Met C l 0 yX10_stateIn cX10_stateIn 1 (some .int) [.int p0] S d (some (.int rr)) S d := by
  refine sk_Met.of (by decide) (Nat.le_of_ble_eq_true rfl) (Nat.le_refl _) (Nat.le_refl _) (fun X K0 hX => ?_)
  have K : sk_Ok X C cX10_stateIn 1 RX10 "stateIn" (some .int) 0 l (some (.int rr)) S d := K0
  have R1 : X.2.2.2.2.2.2.2.2.2.2.2.1 ≤ S.1.1 ∧ X.2.2.2.2.2.2.2.2.2.2.2.2 ≤ S.1.2 := by rw [hX]; exact ⟨Nat.le_refl _, Nat.le_refl _⟩
  have R2 : S.1.1 ≤ S.1.1 ∧ S.1.2 ≤ S.1.2 := ⟨Nat.le_refl _, Nat.le_refl _⟩
  show sk_G X C 1 S d 0 [(0, .int p0)] []
  unfold fX10_stateIn at hf
  refine sk_iload_n K dX10_stateIn_0 rfl 0 rfl ?_
  refine sk_ldcw K dX10_stateIn_1 qw_878 ?_
  refine sk_iand K dX10_stateIn_4 ?_
  have hR1 : (p0 &&& (65535 : Int32)) = rr := Option.some.inj hf
  exact sk_iret K dX10_stateIn_5 rfl rfl hR1 rfl rfl
noncomputable def fX9_tryDeed (S : sk_S) (d : sk_D) (p0 : Nat) (p1 : Int32) (p2 : Int64) : Option (Int32 × sk_D) :=
  if p2 < (0 : Int64) then (some ((-1 : Int32), d)) else (if p2 ≤ (49 : Int64) then (if (p2.toInt32 / (10 : Int32)) = (0 : Int32) then (if S.2.1 p0 = (8, 0) then ((fX9_tryDo S d p0 p1 (p2.toInt32 - p2.toInt32 / (10 : Int32) * (10 : Int32))).bind fun b9 => some (b9.1, b9.2)) else none) else (if (p2.toInt32 / (10 : Int32)) = (1 : Int32) then (if S.2.1 p0 = (8, 0) then ((fX9_tryDrop S d p0 p1 (p2.toInt32 - p2.toInt32 / (10 : Int32) * (10 : Int32))).bind fun v12 => some (v12, d)) else none) else (if (p2.toInt32 / (10 : Int32)) = (2 : Int32) then (if S.2.1 p0 = (8, 0) then ((fX9_tryForge S d p0 p1 (p2.toInt32 - p2.toInt32 / (10 : Int32) * (10 : Int32))).bind fun v17 => some (v17, d)) else none) else (if (p2.toInt32 / (10 : Int32)) = (3 : Int32) then (if S.2.1 p0 = (8, 0) then ((fX9_tryAsk S d p0 p1 (p2.toInt32 - p2.toInt32 / (10 : Int32) * (10 : Int32))).bind fun b26 => some (b26.1, b26.2)) else none) else ((fX10_stateIn S d p1).bind fun v28 => some (v28 ||| ((p2.toInt32 - p2.toInt32 / (10 : Int32) * (10 : Int32)) <<< ((16 : Int32) &&& 31)), d)))))) else (some ((-1 : Int32), d)))
set_option maxRecDepth 100000 in
set_option maxHeartbeats 4000000 in
theorem sX9_tryDeed (C : sk_C) (l : Launch) {S : sk_S} {d : sk_D} {p0 : Nat} {p1 : Int32} {p2 : Int64} {rr : Int32} {dd : sk_D} (hf : fX9_tryDeed S d p0 p1 p2 = some (rr, dd)) : sk_Met C l 4 yX9_tryDeed cX9_tryDeed 5 (some .int) [.ref p0, .int p1, .long p2] S d (some (.int rr)) S dd := by
  refine sk_Met.of (by decide) (Nat.le_of_ble_eq_true rfl) (Nat.le_refl _) (Nat.le_refl _) (fun X K0 hX => ?_)
  have K : sk_Ok X C cX9_tryDeed 5 RX9 "tryDeed" (some .int) 4 l (some (.int rr)) S dd := K0
  have R1 : X.2.2.2.2.2.2.2.2.2.2.2.1 ≤ S.1.1 ∧ X.2.2.2.2.2.2.2.2.2.2.2.2 ≤ S.1.2 := by rw [hX]; exact ⟨Nat.le_refl _, Nat.le_refl _⟩
  have R2 : S.1.1 ≤ S.1.1 ∧ S.1.2 ≤ S.1.2 := ⟨Nat.le_refl _, Nat.le_refl _⟩
  show sk_G X C 5 S d 0 [(0, .ref p0), (1, .int p1), (2, .long p2)] []
  unfold fX9_tryDeed at hf
  refine sk_lload_n K dX9_tryDeed_0 rfl 2 rfl ?_
  refine sk_lconst (0 : Int64) K dX9_tryDeed_1 (by decide) ?_
  refine sk_lcmp_lt 14 K dX9_tryDeed_2 dX9_tryDeed_3 (by decide) (fun h1 => ?_) (fun h1 => ?_)
  · rw [if_pos h1] at hf
    refine sk_iconst (-1 : Int32) K dX9_tryDeed_14 (by decide) ?_
    have hR2 : ((-1 : Int32), d) = (rr, dd) := Option.some.inj hf
    exact sk_iret K dX9_tryDeed_15 rfl rfl (congrArg (fun z => z.1) hR2) rfl (congrArg (fun z => z.2) hR2)
  · rw [if_neg h1] at hf
    refine sk_lload_n K dX9_tryDeed_6 rfl 2 rfl ?_
    refine sk_ldc2 K dX9_tryDeed_7 qw_809 ?_
    refine sk_lcmp_le 16 K dX9_tryDeed_10 dX9_tryDeed_11 (by decide) (fun h3 => ?_) (fun h3 => ?_)
    · rw [if_pos h3] at hf
      refine sk_lload_n K dX9_tryDeed_16 rfl 2 rfl ?_
      refine sk_l2i K dX9_tryDeed_17 ?_
      refine sk_bipush (10 : Int32) K dX9_tryDeed_18 (by decide) ?_
      refine sk_irem K dX9_tryDeed_20 (by decide) ?_
      refine sk_istore [(4, .int (p2.toInt32 - p2.toInt32 / (10 : Int32) * (10 : Int32))), (0, .ref p0), (1, .int p1), (2, .long p2)] K dX9_tryDeed_21 (by decide) rfl ?_
      refine sk_lload_n K dX9_tryDeed_23 rfl 3 rfl ?_
      refine sk_l2i K dX9_tryDeed_24 ?_
      refine sk_bipush (10 : Int32) K dX9_tryDeed_25 (by decide) ?_
      refine sk_idiv K dX9_tryDeed_27 (by decide) ?_
      by_cases h4 : (p2.toInt32 / (10 : Int32)) = (0 : Int32)
      · rw [if_pos h4] at hf
        refine sk_tsIn (0 : Int32) (32) 60 K dX9_tryDeed_28 h4 (by decide) (by decide) rfl (by decide) ?_
        refine sk_aload_n K dX9_tryDeed_60 rfl 1 rfl ?_
        refine sk_iload_n K dX9_tryDeed_61 rfl 2 rfl ?_
        refine sk_iload K dX9_tryDeed_62 0 rfl ?_
        obtain ⟨h8, hf⟩ := sk_ib hf
        obtain ⟨⟨v5, d7⟩, e6, hf⟩ := sk_ob hf
        try dsimp only at hf
        refine sk_callV (As := [.int p1, .int (p2.toInt32 - p2.toInt32 / (10 : Int32) * (10 : Int32))]) (st := []) K dX9_tryDeed_64 cl_X9_46 h8 (sX9_tryDo C l e6) (by decide) rfl rfl (Nat.le_of_ble_eq_true rfl) R1 R2 ?_
        have hR10 : (v5, d7) = (rr, dd) := Option.some.inj hf
        exact sk_iret K dX9_tryDeed_67 rfl rfl (congrArg (fun z => z.1) hR10) rfl (congrArg (fun z => z.2) hR10)
      · rw [if_neg h4] at hf
        by_cases h11 : (p2.toInt32 / (10 : Int32)) = (1 : Int32)
        · rw [if_pos h11] at hf
          refine sk_tsIn (1 : Int32) (40) 68 K dX9_tryDeed_28 h11 (by decide) (by decide) rfl (by decide) ?_
          refine sk_aload_n K dX9_tryDeed_68 rfl 1 rfl ?_
          refine sk_iload_n K dX9_tryDeed_69 rfl 2 rfl ?_
          refine sk_iload K dX9_tryDeed_70 0 rfl ?_
          obtain ⟨h14, hf⟩ := sk_ib hf
          obtain ⟨v12, e13, hf⟩ := sk_ob hf
          refine sk_callV (As := [.int p1, .int (p2.toInt32 - p2.toInt32 / (10 : Int32) * (10 : Int32))]) (st := []) K dX9_tryDeed_72 cl_X9_50 h14 (sX9_tryDrop C l e13) (by decide) rfl rfl (Nat.le_of_ble_eq_true rfl) R1 R2 ?_
          have hR15 : (v12, d) = (rr, dd) := Option.some.inj hf
          exact sk_iret K dX9_tryDeed_75 rfl rfl (congrArg (fun z => z.1) hR15) rfl (congrArg (fun z => z.2) hR15)
        · rw [if_neg h11] at hf
          by_cases h16 : (p2.toInt32 / (10 : Int32)) = (2 : Int32)
          · rw [if_pos h16] at hf
            refine sk_tsIn (2 : Int32) (48) 76 K dX9_tryDeed_28 h16 (by decide) (by decide) rfl (by decide) ?_
            refine sk_aload_n K dX9_tryDeed_76 rfl 1 rfl ?_
            refine sk_iload_n K dX9_tryDeed_77 rfl 2 rfl ?_
            refine sk_iload K dX9_tryDeed_78 0 rfl ?_
            obtain ⟨h19, hf⟩ := sk_ib hf
            obtain ⟨v17, e18, hf⟩ := sk_ob hf
            refine sk_callV (As := [.int p1, .int (p2.toInt32 - p2.toInt32 / (10 : Int32) * (10 : Int32))]) (st := []) K dX9_tryDeed_80 cl_X9_53 h19 (sX9_tryForge C l e18) (by decide) rfl rfl (Nat.le_of_ble_eq_true rfl) R1 R2 ?_
            have hR20 : (v17, d) = (rr, dd) := Option.some.inj hf
            exact sk_iret K dX9_tryDeed_83 rfl rfl (congrArg (fun z => z.1) hR20) rfl (congrArg (fun z => z.2) hR20)
          · rw [if_neg h16] at hf
            by_cases h21 : (p2.toInt32 / (10 : Int32)) = (3 : Int32)
            · rw [if_pos h21] at hf
              refine sk_tsIn (3 : Int32) (56) 84 K dX9_tryDeed_28 h21 (by decide) (by decide) rfl (by decide) ?_
              refine sk_aload_n K dX9_tryDeed_84 rfl 1 rfl ?_
              refine sk_iload_n K dX9_tryDeed_85 rfl 2 rfl ?_
              refine sk_iload K dX9_tryDeed_86 0 rfl ?_
              obtain ⟨h25, hf⟩ := sk_ib hf
              obtain ⟨⟨v22, d24⟩, e23, hf⟩ := sk_ob hf
              try dsimp only at hf
              refine sk_callV (As := [.int p1, .int (p2.toInt32 - p2.toInt32 / (10 : Int32) * (10 : Int32))]) (st := []) K dX9_tryDeed_88 cl_X9_56 h25 (sX9_tryAsk C l e23) (by decide) rfl rfl (Nat.le_of_ble_eq_true rfl) R1 R2 ?_
              have hR27 : (v22, d24) = (rr, dd) := Option.some.inj hf
              exact sk_iret K dX9_tryDeed_91 rfl rfl (congrArg (fun z => z.1) hR27) rfl (congrArg (fun z => z.2) hR27)
            · rw [if_neg h21] at hf
              refine sk_tsOut 92 K dX9_tryDeed_28 (sk_tsout (0) 4 [(0 : Int32), (1 : Int32), (2 : Int32), (3 : Int32)] (by decide) (by simp [h4, h11, h16, h21])) (by decide) ?_
              refine sk_iload_n K dX9_tryDeed_92 rfl 2 rfl ?_
              obtain ⟨v28, e29, hf⟩ := sk_ob hf
              refine sk_callN (As := [.int p1]) (st := []) K dX9_tryDeed_93 cl_X9_59 (sX10_stateIn C l e29) (by decide) rfl rfl (Nat.le_of_ble_eq_true rfl) R1 R2 ?_
              refine sk_iload K dX9_tryDeed_96 0 rfl ?_
              refine sk_bipush (16 : Int32) K dX9_tryDeed_98 (by decide) ?_
              refine sk_ishl K dX9_tryDeed_100 ?_
              refine sk_ior K dX9_tryDeed_101 ?_
              have hR30 : (v28 ||| ((p2.toInt32 - p2.toInt32 / (10 : Int32) * (10 : Int32)) <<< ((16 : Int32) &&& 31)), d) = (rr, dd) := Option.some.inj hf
              exact sk_iret K dX9_tryDeed_102 rfl rfl (congrArg (fun z => z.1) hR30) rfl (congrArg (fun z => z.2) hR30)
    · rw [if_neg h3] at hf
      refine sk_iconst (-1 : Int32) K dX9_tryDeed_14 (by decide) ?_
      have hR31 : ((-1 : Int32), d) = (rr, dd) := Option.some.inj hf
      exact sk_iret K dX9_tryDeed_15 rfl rfl (congrArg (fun z => z.1) hR31) rfl (congrArg (fun z => z.2) hR31)
noncomputable def fX9_howMany_L5 (S : sk_S) (p0 : Nat) (p2 : Nat) (s1 : Int32 × Int32 × sk_D) : Option ((Int32 × Int32 × sk_D) ⊕ (Int32 × sk_D)) :=
  (sk_gI S s1.2.2 p2 6 2).bind fun v1 => if v1 ≤ s1.2.1 then ((sk_gI S s1.2.2 p2 6 2).bind fun v4 => some (.inr (v4, s1.2.2))) else (if S.2.1 p2 = (6, 0) then ((fX6_at S s1.2.2 p2 s1.2.1).bind fun v7 => if S.2.1 p0 = (8, 0) then ((fX9_tryDeed S s1.2.2 p0 s1.1 v7).bind fun b14 => if 0 ≤ b14.1 then (some (.inl (b14.1, s1.2.1 + 1, b14.2))) else (some (.inr (s1.2.1, b14.2)))) else none) else none)
noncomputable def fX9_howMany (S : sk_S) (d : sk_D) (p0 : Nat) (p1 : Int32) (p2 : Nat) : Option (Int32 × sk_D) :=
  (sk_itr (fX9_howMany_L5 S p0 p2) (p1, (0 : Int32), d)).bind fun x1 => some x1
set_option maxRecDepth 100000 in
set_option maxHeartbeats 4000000 in
theorem sX9_howMany (C : sk_C) (l : Launch) {S : sk_S} {d : sk_D} {p0 : Nat} {p1 : Int32} {p2 : Nat} {rr : Int32} {dd : sk_D} (hf : fX9_howMany S d p0 p1 p2 = some (rr, dd)) : sk_Met C l 5 yX9_howMany cX9_howMany 5 (some .int) [.ref p0, .int p1, .ref p2] S d (some (.int rr)) S dd := by
  refine sk_Met.of (by decide) (Nat.le_of_ble_eq_true rfl) (Nat.le_refl _) (Nat.le_refl _) (fun X K0 hX => ?_)
  have K : sk_Ok X C cX9_howMany 5 RX9 "howMany" (some .int) 5 l (some (.int rr)) S dd := K0
  have R1 : X.2.2.2.2.2.2.2.2.2.2.2.1 ≤ S.1.1 ∧ X.2.2.2.2.2.2.2.2.2.2.2.2 ≤ S.1.2 := by rw [hX]; exact ⟨Nat.le_refl _, Nat.le_refl _⟩
  have R2 : S.1.1 ≤ S.1.1 ∧ S.1.2 ≤ S.1.2 := ⟨Nat.le_refl _, Nat.le_refl _⟩
  show sk_G X C 5 S d 0 [(0, .ref p0), (1, .int p1), (2, .ref p2)] []
  unfold fX9_howMany at hf
  refine sk_iload_n K dX9_howMany_0 rfl 1 rfl ?_
  refine sk_istore_n [(3, .int p1), (0, .ref p0), (1, .int p1), (2, .ref p2)] K dX9_howMany_1 rfl (by decide) rfl ?_
  refine sk_iconst (0 : Int32) K dX9_howMany_2 (by decide) ?_
  refine sk_istore [(4, .int (0 : Int32)), (3, .int p1), (0, .ref p0), (1, .int p1), (2, .ref p2)] K dX9_howMany_3 (by decide) rfl ?_
  obtain ⟨x1, he1, hf⟩ := sk_ob hf
  have hret1 : ∀ r, r = x1 → r = (rr, dd) := by
    intro r hr
    subst hr
    exact Option.some.inj hf
  refine sk_sub [(0, .ref p0), (2, .ref p2), (3, .int p1), (4, .int (0 : Int32))] [2, 4, 1, 0] rfl ?_
  refine sk_loop (fun s1 => sk_G X C 5 S s1.2.2 5 [(0, .ref p0), (2, .ref p2), (3, .int s1.1), (4, .int s1.2.1)] []) he1 (fun s1 o1 hf ih1 hx1 => ?_)
  unfold fX9_howMany_L5 at hf
  refine sk_iload K dX9_howMany_5 3 rfl ?_
  refine sk_aload_n K dX9_howMany_7 rfl 1 rfl ?_
  obtain ⟨v1, e2, hf⟩ := sk_ob hf
  refine sk_getI K dX9_howMany_8 fl_X9_102 rfl e2 ?_
  refine sk_icmp_ge 39 K dX9_howMany_11 (by decide) (fun h3 => ?_) (fun h3 => ?_)
  · rw [if_pos h3] at hf
    refine sk_aload_n K dX9_howMany_39 rfl 1 rfl ?_
    obtain ⟨v4, e5, hf⟩ := sk_ob hf
    refine sk_getI K dX9_howMany_40 fl_X9_102 rfl e5 ?_
    have hR6 : (v4, s1.2.2) = (rr, dd) := hret1 _ (hx1 _ (Option.some.inj hf).symm)
    exact sk_iret K dX9_howMany_43 rfl rfl (congrArg (fun z => z.1) hR6) rfl (congrArg (fun z => z.2) hR6)
  · rw [if_neg h3] at hf
    refine sk_aload_n K dX9_howMany_14 rfl 0 rfl ?_
    refine sk_iload_n K dX9_howMany_15 rfl 2 rfl ?_
    refine sk_aload_n K dX9_howMany_16 rfl 1 rfl ?_
    refine sk_iload K dX9_howMany_17 3 rfl ?_
    obtain ⟨h9, hf⟩ := sk_ib hf
    obtain ⟨v7, e8, hf⟩ := sk_ob hf
    refine sk_callV (As := [.int s1.2.1]) (st := [.int s1.1, .ref p0]) K dX9_howMany_19 cl_X9_108 h9 (sX6_at C l e8) (by decide) rfl rfl (Nat.le_of_ble_eq_true rfl) R1 R2 ?_
    obtain ⟨h13, hf⟩ := sk_ib hf
    obtain ⟨⟨v10, d12⟩, e11, hf⟩ := sk_ob hf
    try dsimp only at hf
    refine sk_callV (As := [.int s1.1, .long v7]) (st := []) K dX9_howMany_22 cl_X9_112 h13 (sX9_tryDeed C l e11) (by decide) rfl rfl (Nat.le_of_ble_eq_true rfl) R1 R2 ?_
    refine sk_istore_n [(3, .int v10), (0, .ref p0), (2, .ref p2), (4, .int s1.2.1)] K dX9_howMany_25 rfl (by decide) rfl ?_
    refine sk_iload_n K dX9_howMany_26 rfl 0 rfl ?_
    refine sk_if_ge 33 K dX9_howMany_27 (by decide) (fun h15 => ?_) (fun h15 => ?_)
    · rw [if_pos h15] at hf
      refine sk_iinc (s1.2.1 + 1) [(4, .int (s1.2.1 + 1)), (3, .int v10), (0, .ref p0), (2, .ref p2)] K dX9_howMany_33 3 rfl rfl (by decide) rfl ?_
      refine sk_goto 5 K dX9_howMany_36 (by decide) ?_
      refine sk_sub [(0, .ref p0), (2, .ref p2), (3, .int v10), (4, .int (s1.2.1 + 1))] [2, 3, 1, 0] rfl ?_
      have h9 := ih1 _ (Option.some.inj hf).symm
      exact h9
    · rw [if_neg h15] at hf
      refine sk_iload K dX9_howMany_30 3 rfl ?_
      have hR16 : (s1.2.1, d12) = (rr, dd) := hret1 _ (hx1 _ (Option.some.inj hf).symm)
      exact sk_iret K dX9_howMany_32 rfl rfl (congrArg (fun z => z.1) hR16) rfl (congrArg (fun z => z.2) hR16)
noncomputable def fX9_after_L6 (S : sk_S) (p0 : Nat) (p2 : Nat) (p3 : Int32) (s1 : Int32 × Int32 × sk_D) : Option ((Int32 × Int32 × sk_D) ⊕ (Int32 × sk_D)) :=
  if p3 ≤ s1.2.1 then (some (.inr (s1.1, s1.2.2))) else (if S.2.1 p2 = (6, 0) then ((fX6_at S s1.2.2 p2 s1.2.1).bind fun v3 => if S.2.1 p0 = (8, 0) then ((fX9_tryDeed S s1.2.2 p0 s1.1 v3).bind fun b10 => some (.inl (b10.1, s1.2.1 + 1, b10.2))) else none) else none)
noncomputable def fX9_after (S : sk_S) (d : sk_D) (p0 : Nat) (p1 : Int32) (p2 : Nat) (p3 : Int32) : Option (Int32 × sk_D) :=
  (sk_itr (fX9_after_L6 S p0 p2 p3) (p1, (0 : Int32), d)).bind fun x1 => some x1
set_option maxRecDepth 100000 in
set_option maxHeartbeats 4000000 in
theorem sX9_after (C : sk_C) (l : Launch) {S : sk_S} {d : sk_D} {p0 : Nat} {p1 : Int32} {p2 : Nat} {p3 : Int32} {rr : Int32} {dd : sk_D} (hf : fX9_after S d p0 p1 p2 p3 = some (rr, dd)) : sk_Met C l 5 yX9_after cX9_after 6 (some .int) [.ref p0, .int p1, .ref p2, .int p3] S d (some (.int rr)) S dd := by
  refine sk_Met.of (by decide) (Nat.le_of_ble_eq_true rfl) (Nat.le_refl _) (Nat.le_refl _) (fun X K0 hX => ?_)
  have K : sk_Ok X C cX9_after 6 RX9 "after" (some .int) 5 l (some (.int rr)) S dd := K0
  have R1 : X.2.2.2.2.2.2.2.2.2.2.2.1 ≤ S.1.1 ∧ X.2.2.2.2.2.2.2.2.2.2.2.2 ≤ S.1.2 := by rw [hX]; exact ⟨Nat.le_refl _, Nat.le_refl _⟩
  have R2 : S.1.1 ≤ S.1.1 ∧ S.1.2 ≤ S.1.2 := ⟨Nat.le_refl _, Nat.le_refl _⟩
  show sk_G X C 6 S d 0 [(0, .ref p0), (1, .int p1), (2, .ref p2), (3, .int p3)] []
  unfold fX9_after at hf
  refine sk_iload_n K dX9_after_0 rfl 1 rfl ?_
  refine sk_istore [(4, .int p1), (0, .ref p0), (1, .int p1), (2, .ref p2), (3, .int p3)] K dX9_after_1 (by decide) rfl ?_
  refine sk_iconst (0 : Int32) K dX9_after_3 (by decide) ?_
  refine sk_istore [(5, .int (0 : Int32)), (4, .int p1), (0, .ref p0), (1, .int p1), (2, .ref p2), (3, .int p3)] K dX9_after_4 (by decide) rfl ?_
  obtain ⟨x1, he1, hf⟩ := sk_ob hf
  have hret1 : ∀ r, r = x1 → r = (rr, dd) := by
    intro r hr
    subst hr
    exact Option.some.inj hf
  refine sk_sub [(0, .ref p0), (2, .ref p2), (3, .int p3), (4, .int p1), (5, .int (0 : Int32))] [2, 4, 5, 1, 0] rfl ?_
  refine sk_loop (fun s1 => sk_G X C 6 S s1.2.2 6 [(0, .ref p0), (2, .ref p2), (3, .int p3), (4, .int s1.1), (5, .int s1.2.1)] []) he1 (fun s1 o1 hf ih1 hx1 => ?_)
  unfold fX9_after_L6 at hf
  refine sk_iload K dX9_after_6 4 rfl ?_
  refine sk_iload_n K dX9_after_8 rfl 2 rfl ?_
  refine sk_icmp_ge 32 K dX9_after_9 (by decide) (fun h1 => ?_) (fun h1 => ?_)
  · rw [if_pos h1] at hf
    refine sk_iload K dX9_after_32 3 rfl ?_
    have hR2 : (s1.1, s1.2.2) = (rr, dd) := hret1 _ (hx1 _ (Option.some.inj hf).symm)
    exact sk_iret K dX9_after_34 rfl rfl (congrArg (fun z => z.1) hR2) rfl (congrArg (fun z => z.2) hR2)
  · rw [if_neg h1] at hf
    refine sk_aload_n K dX9_after_12 rfl 0 rfl ?_
    refine sk_iload K dX9_after_13 3 rfl ?_
    refine sk_aload_n K dX9_after_15 rfl 1 rfl ?_
    refine sk_iload K dX9_after_16 4 rfl ?_
    obtain ⟨h5, hf⟩ := sk_ib hf
    obtain ⟨v3, e4, hf⟩ := sk_ob hf
    refine sk_callV (As := [.int s1.2.1]) (st := [.int s1.1, .ref p0]) K dX9_after_18 cl_X9_108 h5 (sX6_at C l e4) (by decide) rfl rfl (Nat.le_of_ble_eq_true rfl) R1 R2 ?_
    obtain ⟨h9, hf⟩ := sk_ib hf
    obtain ⟨⟨v6, d8⟩, e7, hf⟩ := sk_ob hf
    try dsimp only at hf
    refine sk_callV (As := [.int s1.1, .long v3]) (st := []) K dX9_after_21 cl_X9_112 h9 (sX9_tryDeed C l e7) (by decide) rfl rfl (Nat.le_of_ble_eq_true rfl) R1 R2 ?_
    refine sk_istore [(4, .int v6), (0, .ref p0), (2, .ref p2), (3, .int p3), (5, .int s1.2.1)] K dX9_after_24 (by decide) rfl ?_
    refine sk_iinc (s1.2.1 + 1) [(5, .int (s1.2.1 + 1)), (4, .int v6), (0, .ref p0), (2, .ref p2), (3, .int p3)] K dX9_after_26 4 rfl rfl (by decide) rfl ?_
    refine sk_goto 6 K dX9_after_29 (by decide) ?_
    refine sk_sub [(0, .ref p0), (2, .ref p2), (3, .int p3), (4, .int v6), (5, .int (s1.2.1 + 1))] [2, 3, 4, 1, 0] rfl ?_
    have h9 := ih1 _ (Option.some.inj hf).symm
    exact h9
noncomputable def fX9_slipsPassing_L5 (S : sk_S) (p0 : Nat) (p1 : Int32) (p2 : Int32) (s1 : Int32 × Int32 × sk_D) : Option ((Int32 × Int32 × sk_D) ⊕ (Int32 × sk_D)) :=
  if (10 : Int32) ≤ s1.2.1 then (some (.inr (s1.1, s1.2.2))) else (if S.2.1 p0 = (8, 0) then ((fX9_passesStub S s1.2.2 p0 p1 p2 s1.2.1).bind fun b7 => if b7.1 = true then (some (.inl (s1.1 ||| ((1 : Int32) <<< (s1.2.1 &&& 31)), s1.2.1 + 1, b7.2))) else (some (.inl (s1.1, s1.2.1 + 1, b7.2)))) else none)
noncomputable def fX9_slipsPassing (S : sk_S) (d : sk_D) (p0 : Nat) (p1 : Int32) (p2 : Int32) : Option (Int32 × sk_D) :=
  (sk_itr (fX9_slipsPassing_L5 S p0 p1 p2) ((0 : Int32), (0 : Int32), d)).bind fun x1 => some x1
set_option maxRecDepth 100000 in
set_option maxHeartbeats 4000000 in
theorem sX9_slipsPassing (C : sk_C) (l : Launch) {S : sk_S} {d : sk_D} {p0 : Nat} {p1 : Int32} {p2 : Int32} {rr : Int32} {dd : sk_D} (hf : fX9_slipsPassing S d p0 p1 p2 = some (rr, dd)) : sk_Met C l 3 yX9_slipsPassing cX9_slipsPassing 5 (some .int) [.ref p0, .int p1, .int p2] S d (some (.int rr)) S dd := by
  refine sk_Met.of (by decide) (Nat.le_of_ble_eq_true rfl) (Nat.le_refl _) (Nat.le_refl _) (fun X K0 hX => ?_)
  have K : sk_Ok X C cX9_slipsPassing 5 RX9 "slipsPassing" (some .int) 3 l (some (.int rr)) S dd := K0
  have R1 : X.2.2.2.2.2.2.2.2.2.2.2.1 ≤ S.1.1 ∧ X.2.2.2.2.2.2.2.2.2.2.2.2 ≤ S.1.2 := by rw [hX]; exact ⟨Nat.le_refl _, Nat.le_refl _⟩
  have R2 : S.1.1 ≤ S.1.1 ∧ S.1.2 ≤ S.1.2 := ⟨Nat.le_refl _, Nat.le_refl _⟩
  show sk_G X C 5 S d 0 [(0, .ref p0), (1, .int p1), (2, .int p2)] []
  unfold fX9_slipsPassing at hf
  refine sk_iconst (0 : Int32) K dX9_slipsPassing_0 (by decide) ?_
  refine sk_istore_n [(3, .int (0 : Int32)), (0, .ref p0), (1, .int p1), (2, .int p2)] K dX9_slipsPassing_1 rfl (by decide) rfl ?_
  refine sk_iconst (0 : Int32) K dX9_slipsPassing_2 (by decide) ?_
  refine sk_istore [(4, .int (0 : Int32)), (3, .int (0 : Int32)), (0, .ref p0), (1, .int p1), (2, .int p2)] K dX9_slipsPassing_3 (by decide) rfl ?_
  obtain ⟨x1, he1, hf⟩ := sk_ob hf
  have hret1 : ∀ r, r = x1 → r = (rr, dd) := by
    intro r hr
    subst hr
    exact Option.some.inj hf
  refine sk_sub [(0, .ref p0), (1, .int p1), (2, .int p2), (3, .int (0 : Int32)), (4, .int (0 : Int32))] [2, 3, 4, 1, 0] rfl ?_
  refine sk_loop (fun s1 => sk_G X C 5 S s1.2.2 5 [(0, .ref p0), (1, .int p1), (2, .int p2), (3, .int s1.1), (4, .int s1.2.1)] []) he1 (fun s1 o1 hf ih1 hx1 => ?_)
  unfold fX9_slipsPassing_L5 at hf
  refine sk_iload K dX9_slipsPassing_5 4 rfl ?_
  refine sk_bipush (10 : Int32) K dX9_slipsPassing_7 (by decide) ?_
  refine sk_icmp_ge 36 K dX9_slipsPassing_9 (by decide) (fun h1 => ?_) (fun h1 => ?_)
  · rw [if_pos h1] at hf
    refine sk_iload_n K dX9_slipsPassing_36 rfl 3 rfl ?_
    have hR2 : (s1.1, s1.2.2) = (rr, dd) := hret1 _ (hx1 _ (Option.some.inj hf).symm)
    exact sk_iret K dX9_slipsPassing_37 rfl rfl (congrArg (fun z => z.1) hR2) rfl (congrArg (fun z => z.2) hR2)
  · rw [if_neg h1] at hf
    refine sk_aload_n K dX9_slipsPassing_12 rfl 0 rfl ?_
    refine sk_iload_n K dX9_slipsPassing_13 rfl 1 rfl ?_
    refine sk_iload_n K dX9_slipsPassing_14 rfl 2 rfl ?_
    refine sk_iload K dX9_slipsPassing_15 4 rfl ?_
    obtain ⟨h6, hf⟩ := sk_ib hf
    obtain ⟨⟨v3, d5⟩, e4, hf⟩ := sk_ob hf
    try dsimp only at hf
    refine sk_callV (As := [.int p1, .int p2, .int s1.2.1]) (st := []) K dX9_slipsPassing_17 cl_X9_95 h6 (sX9_passesStub C l e4) (by decide) rfl rfl (Nat.le_of_ble_eq_true rfl) R1 R2 ?_
    refine sk_ifeqB 30 K dX9_slipsPassing_20 (by decide) (fun h8 => ?_) (fun h8 => ?_)
    · rw [if_neg h8] at hf
      refine sk_iinc (s1.2.1 + 1) [(4, .int (s1.2.1 + 1)), (0, .ref p0), (1, .int p1), (2, .int p2), (3, .int s1.1)] K dX9_slipsPassing_30 4 rfl rfl (by decide) rfl ?_
      refine sk_goto 5 K dX9_slipsPassing_33 (by decide) ?_
      refine sk_sub [(0, .ref p0), (1, .int p1), (2, .int p2), (3, .int s1.1), (4, .int (s1.2.1 + 1))] [1, 2, 3, 4, 0] rfl ?_
      have h9 := ih1 _ (Option.some.inj hf).symm
      exact h9
    · rw [if_pos h8] at hf
      refine sk_iload_n K dX9_slipsPassing_23 rfl 3 rfl ?_
      refine sk_iconst (1 : Int32) K dX9_slipsPassing_24 (by decide) ?_
      refine sk_iload K dX9_slipsPassing_25 4 rfl ?_
      refine sk_ishl K dX9_slipsPassing_27 ?_
      refine sk_ior K dX9_slipsPassing_28 ?_
      refine sk_istore_n [(3, .int (s1.1 ||| ((1 : Int32) <<< (s1.2.1 &&& 31)))), (0, .ref p0), (1, .int p1), (2, .int p2), (4, .int s1.2.1)] K dX9_slipsPassing_29 rfl (by decide) rfl ?_
      refine sk_iinc (s1.2.1 + 1) [(4, .int (s1.2.1 + 1)), (3, .int (s1.1 ||| ((1 : Int32) <<< (s1.2.1 &&& 31)))), (0, .ref p0), (1, .int p1), (2, .int p2)] K dX9_slipsPassing_30 4 rfl rfl (by decide) rfl ?_
      refine sk_goto 5 K dX9_slipsPassing_33 (by decide) ?_
      refine sk_sub [(0, .ref p0), (1, .int p1), (2, .int p2), (3, .int (s1.1 ||| ((1 : Int32) <<< (s1.2.1 &&& 31)))), (4, .int (s1.2.1 + 1))] [2, 3, 4, 1, 0] rfl ?_
      have h9 := ih1 _ (Option.some.inj hf).symm
      exact h9
noncomputable def fX9_lostInHundred_J17 (S : sk_S) (d : sk_D) (p0 : Nat) (p2 : Int32) (v1 : Int32) : Option (Int32) :=
  (sk_gR S p0 8 0).bind fun v2 => (sk_gR S v2 2 7).bind fun v4 => (sk_lI S d v4 20 p2).bind fun v6 => if v1 = 0 then (some (v6 * (10 : Int32))) else ((sk_gR S p0 8 0).bind fun v10 => (sk_gR S v10 2 8).bind fun v12 => (sk_lI S d v12 20 p2).bind fun v14 => some (v6 * v14))
noncomputable def fX9_lostInHundred (S : sk_S) (d : sk_D) (p0 : Nat) (p1 : Int32) (p2 : Int32) : Option (Int32) :=
  (fX10_liningIn S d p1).bind fun v17 => if ((v17 >>> (p2 &&& 31)) &&& (1 : Int32)) = (1 : Int32) then (fX9_lostInHundred_J17 S d p0 p2 (1 : Int32)) else (fX9_lostInHundred_J17 S d p0 p2 (0 : Int32))
set_option maxRecDepth 100000 in
set_option maxHeartbeats 4000000 in
theorem sX9_lostInHundred (C : sk_C) (l : Launch) {S : sk_S} {d : sk_D} {p0 : Nat} {p1 : Int32} {p2 : Int32} {rr : Int32} (hf : fX9_lostInHundred S d p0 p1 p2 = some rr) : sk_Met C l 1 yX9_lostInHundred cX9_lostInHundred 4 (some .int) [.ref p0, .int p1, .int p2] S d (some (.int rr)) S d := by
  refine sk_Met.of (by decide) (Nat.le_of_ble_eq_true rfl) (Nat.le_refl _) (Nat.le_refl _) (fun X K0 hX => ?_)
  have K : sk_Ok X C cX9_lostInHundred 4 RX9 "lostInHundred" (some .int) 1 l (some (.int rr)) S d := K0
  have R1 : X.2.2.2.2.2.2.2.2.2.2.2.1 ≤ S.1.1 ∧ X.2.2.2.2.2.2.2.2.2.2.2.2 ≤ S.1.2 := by rw [hX]; exact ⟨Nat.le_refl _, Nat.le_refl _⟩
  have R2 : S.1.1 ≤ S.1.1 ∧ S.1.2 ≤ S.1.2 := ⟨Nat.le_refl _, Nat.le_refl _⟩
  show sk_G X C 4 S d 0 [(0, .ref p0), (1, .int p1), (2, .int p2)] []
  unfold fX9_lostInHundred at hf
  have j17_0 : ∀ (v1 : Int32), fX9_lostInHundred_J17 S d p0 p2 v1 = some rr → sk_G X C 4 S d 17 [(0, .ref p0), (2, .int p2)] [.int v1] := by
    intro v1 hf
    unfold fX9_lostInHundred_J17 at hf
    refine sk_istore_n [(3, .int v1), (0, .ref p0), (2, .int p2)] K dX9_lostInHundred_17 rfl (by decide) rfl ?_
    refine sk_aload_n K dX9_lostInHundred_18 rfl 1 rfl ?_
    obtain ⟨v2, e3, hf⟩ := sk_ob hf
    refine sk_getR K dX9_lostInHundred_19 fl_X9_12 rfl e3 ?_
    obtain ⟨v4, e5, hf⟩ := sk_ob hf
    refine sk_getR K dX9_lostInHundred_22 fl_X9_152 rfl e5 ?_
    refine sk_iload_n K dX9_lostInHundred_25 rfl 2 rfl ?_
    obtain ⟨v6, e7, hf⟩ := sk_ob hf
    refine sk_ald20 K dX9_lostInHundred_26 e7 ?_
    refine sk_iload_n K dX9_lostInHundred_27 rfl 0 rfl ?_
    refine sk_if_eq 43 K dX9_lostInHundred_28 (by decide) (fun h8 => ?_) (fun h8 => ?_)
    · rw [if_pos h8] at hf
      refine sk_bipush (10 : Int32) K dX9_lostInHundred_43 (by decide) ?_
      refine sk_imul K dX9_lostInHundred_45 ?_
      have hR9 : (v6 * (10 : Int32)) = rr := Option.some.inj hf
      exact sk_iret K dX9_lostInHundred_46 rfl rfl hR9 rfl rfl
    · rw [if_neg h8] at hf
      refine sk_aload_n K dX9_lostInHundred_31 rfl 1 rfl ?_
      obtain ⟨v10, e11, hf⟩ := sk_ob hf
      refine sk_getR K dX9_lostInHundred_32 fl_X9_12 rfl e11 ?_
      obtain ⟨v12, e13, hf⟩ := sk_ob hf
      refine sk_getR K dX9_lostInHundred_35 fl_X9_155 rfl e13 ?_
      refine sk_iload_n K dX9_lostInHundred_38 rfl 2 rfl ?_
      obtain ⟨v14, e15, hf⟩ := sk_ob hf
      refine sk_ald20 K dX9_lostInHundred_39 e15 ?_
      refine sk_goto 45 K dX9_lostInHundred_40 (by decide) ?_
      refine sk_imul K dX9_lostInHundred_45 ?_
      have hR16 : (v6 * v14) = rr := Option.some.inj hf
      exact sk_iret K dX9_lostInHundred_46 rfl rfl hR16 rfl rfl
  refine sk_iload_n K dX9_lostInHundred_0 rfl 1 rfl ?_
  obtain ⟨v17, e18, hf⟩ := sk_ob hf
  refine sk_callN (As := [.int p1]) (st := []) K dX9_lostInHundred_1 cl_X9_73 (sX10_liningIn C l e18) (by decide) rfl rfl (Nat.le_of_ble_eq_true rfl) R1 R2 ?_
  refine sk_iload_n K dX9_lostInHundred_4 rfl 2 rfl ?_
  refine sk_ishr K dX9_lostInHundred_5 ?_
  refine sk_iconst (1 : Int32) K dX9_lostInHundred_6 (by decide) ?_
  refine sk_iand K dX9_lostInHundred_7 ?_
  refine sk_iconst (1 : Int32) K dX9_lostInHundred_8 (by decide) ?_
  refine sk_icmp_ne 16 K dX9_lostInHundred_9 (by decide) (fun h19 => ?_) (fun h19 => ?_)
  · rw [if_neg h19] at hf
    refine sk_iconst (0 : Int32) K dX9_lostInHundred_16 (by decide) ?_
    refine sk_sub [(0, .ref p0), (2, .int p2)] [0, 2] rfl ?_
    have h9 := j17_0 _ hf
    exact h9
  · rw [if_pos h19] at hf
    refine sk_iconst (1 : Int32) K dX9_lostInHundred_12 (by decide) ?_
    refine sk_goto 17 K dX9_lostInHundred_13 (by decide) ?_
    refine sk_sub [(0, .ref p0), (2, .int p2)] [0, 2] rfl ?_
    have h9 := j17_0 _ hf
    exact h9
noncomputable def fX9_stillDone_L15 (S : sk_S) (d : sk_D) (p0 : Nat) (p1 : Int32) (v3 : Int32) (s1 : Int64 × Int32) : Option ((Int64 × Int32) ⊕ (Int64)) :=
  if (8 : Int32) ≤ s1.2 then (some (.inr s1.1)) else (if ((v3 >>> (s1.2 &&& 31)) &&& (1 : Int32)) = (1 : Int32) then (if S.2.1 p0 = (8, 0) then ((fX9_lostInHundred S d p0 p1 s1.2).bind fun v9 => some (.inl (s1.1 * (((100 : Int32) - v9).toInt64), s1.2 + 1))) else none) else (some (.inl (s1.1 * (100 : Int64), s1.2 + 1))))
noncomputable def fX9_stillDone (S : sk_S) (d : sk_D) (p0 : Nat) (p1 : Int32) (p2 : Int32) : Option (Int64) :=
  (sk_gR S p0 8 0).bind fun v1 => if S.2.1 v1 = (2, 0) then ((fX2_needed S d v1 p2).bind fun v3 => (sk_itr (fX9_stillDone_L15 S d p0 p1 v3) ((1 : Int64), (0 : Int32))).bind fun x1 => some x1) else none
set_option maxRecDepth 100000 in
set_option maxHeartbeats 4000000 in
theorem sX9_stillDone (C : sk_C) (l : Launch) {S : sk_S} {d : sk_D} {p0 : Nat} {p1 : Int32} {p2 : Int32} {rr : Int64} (hf : fX9_stillDone S d p0 p1 p2 = some rr) : sk_Met C l 2 yX9_stillDone cX9_stillDone 7 (some .long) [.ref p0, .int p1, .int p2] S d (some (.long rr)) S d := by
  refine sk_Met.of (by decide) (Nat.le_of_ble_eq_true rfl) (Nat.le_refl _) (Nat.le_refl _) (fun X K0 hX => ?_)
  have K : sk_Ok X C cX9_stillDone 7 RX9 "stillDone" (some .long) 2 l (some (.long rr)) S d := K0
  have R1 : X.2.2.2.2.2.2.2.2.2.2.2.1 ≤ S.1.1 ∧ X.2.2.2.2.2.2.2.2.2.2.2.2 ≤ S.1.2 := by rw [hX]; exact ⟨Nat.le_refl _, Nat.le_refl _⟩
  have R2 : S.1.1 ≤ S.1.1 ∧ S.1.2 ≤ S.1.2 := ⟨Nat.le_refl _, Nat.le_refl _⟩
  show sk_G X C 7 S d 0 [(0, .ref p0), (1, .int p1), (2, .int p2)] []
  unfold fX9_stillDone at hf
  refine sk_aload_n K dX9_stillDone_0 rfl 0 rfl ?_
  obtain ⟨v1, e2, hf⟩ := sk_ob hf
  refine sk_getR K dX9_stillDone_1 fl_X9_12 rfl e2 ?_
  refine sk_iload_n K dX9_stillDone_4 rfl 2 rfl ?_
  obtain ⟨h5, hf⟩ := sk_ib hf
  obtain ⟨v3, e4, hf⟩ := sk_ob hf
  refine sk_callV (As := [.int p2]) (st := []) K dX9_stillDone_5 cl_X9_144 h5 (sX2_needed C l e4) (by decide) rfl rfl (Nat.le_of_ble_eq_true rfl) R1 R2 ?_
  refine sk_istore_n [(3, .int v3), (0, .ref p0), (1, .int p1), (2, .int p2)] K dX9_stillDone_8 rfl (by decide) rfl ?_
  refine sk_lconst (1 : Int64) K dX9_stillDone_9 (by decide) ?_
  refine sk_lstore [(4, .long (1 : Int64)), (3, .int v3), (0, .ref p0), (1, .int p1), (2, .int p2)] K dX9_stillDone_10 (by decide) rfl ?_
  refine sk_iconst (0 : Int32) K dX9_stillDone_12 (by decide) ?_
  refine sk_istore [(6, .int (0 : Int32)), (4, .long (1 : Int64)), (3, .int v3), (0, .ref p0), (1, .int p1), (2, .int p2)] K dX9_stillDone_13 (by decide) rfl ?_
  obtain ⟨x1, he1, hf⟩ := sk_ob hf
  have hret1 : ∀ r, r = x1 → r = rr := by
    intro r hr
    subst hr
    exact Option.some.inj hf
  refine sk_sub [(0, .ref p0), (1, .int p1), (3, .int v3), (4, .long (1 : Int64)), (6, .int (0 : Int32))] [3, 4, 2, 1, 0] rfl ?_
  refine sk_loop (fun s1 => sk_G X C 7 S d 15 [(0, .ref p0), (1, .int p1), (3, .int v3), (4, .long s1.1), (6, .int s1.2)] []) he1 (fun s1 o1 hf ih1 hx1 => ?_)
  unfold fX9_stillDone_L15 at hf
  refine sk_iload K dX9_stillDone_15 4 rfl ?_
  refine sk_bipush (8 : Int32) K dX9_stillDone_17 (by decide) ?_
  refine sk_icmp_ge 60 K dX9_stillDone_19 (by decide) (fun h6 => ?_) (fun h6 => ?_)
  · rw [if_pos h6] at hf
    refine sk_lload K dX9_stillDone_60 3 rfl ?_
    have hR7 : s1.1 = rr := hret1 _ (hx1 _ (Option.some.inj hf).symm)
    exact sk_lret K dX9_stillDone_62 rfl rfl hR7 rfl rfl
  · rw [if_neg h6] at hf
    refine sk_lload K dX9_stillDone_22 3 rfl ?_
    refine sk_iload_n K dX9_stillDone_24 rfl 2 rfl ?_
    refine sk_iload K dX9_stillDone_25 4 rfl ?_
    refine sk_ishr K dX9_stillDone_27 ?_
    refine sk_iconst (1 : Int32) K dX9_stillDone_28 (by decide) ?_
    refine sk_iand K dX9_stillDone_29 ?_
    refine sk_iconst (1 : Int32) K dX9_stillDone_30 (by decide) ?_
    refine sk_icmp_ne 48 K dX9_stillDone_31 (by decide) (fun h8 => ?_) (fun h8 => ?_)
    · rw [if_neg h8] at hf
      refine sk_ldc2 K dX9_stillDone_48 qw_1239 ?_
      refine sk_lmul K dX9_stillDone_51 ?_
      refine sk_lstore [(4, .long (s1.1 * (100 : Int64))), (0, .ref p0), (1, .int p1), (3, .int v3), (6, .int s1.2)] K dX9_stillDone_52 (by decide) rfl ?_
      refine sk_iinc (s1.2 + 1) [(6, .int (s1.2 + 1)), (4, .long (s1.1 * (100 : Int64))), (0, .ref p0), (1, .int p1), (3, .int v3)] K dX9_stillDone_54 4 rfl rfl (by decide) rfl ?_
      refine sk_goto 15 K dX9_stillDone_57 (by decide) ?_
      refine sk_sub [(0, .ref p0), (1, .int p1), (3, .int v3), (4, .long (s1.1 * (100 : Int64))), (6, .int (s1.2 + 1))] [2, 3, 4, 1, 0] rfl ?_
      have h9 := ih1 _ (Option.some.inj hf).symm
      exact h9
    · rw [if_pos h8] at hf
      refine sk_bipush (100 : Int32) K dX9_stillDone_34 (by decide) ?_
      refine sk_aload_n K dX9_stillDone_36 rfl 0 rfl ?_
      refine sk_iload_n K dX9_stillDone_37 rfl 1 rfl ?_
      refine sk_iload K dX9_stillDone_38 4 rfl ?_
      obtain ⟨h11, hf⟩ := sk_ib hf
      obtain ⟨v9, e10, hf⟩ := sk_ob hf
      refine sk_callV (As := [.int p1, .int s1.2]) (st := [.int (100 : Int32), .long s1.1]) K dX9_stillDone_40 cl_X9_147 h11 (sX9_lostInHundred C l e10) (by decide) rfl rfl (Nat.le_of_ble_eq_true rfl) R1 R2 ?_
      refine sk_isub K dX9_stillDone_43 ?_
      refine sk_i2l K dX9_stillDone_44 ?_
      refine sk_goto 51 K dX9_stillDone_45 (by decide) ?_
      refine sk_lmul K dX9_stillDone_51 ?_
      refine sk_lstore [(4, .long (s1.1 * (((100 : Int32) - v9).toInt64))), (0, .ref p0), (1, .int p1), (3, .int v3), (6, .int s1.2)] K dX9_stillDone_52 (by decide) rfl ?_
      refine sk_iinc (s1.2 + 1) [(6, .int (s1.2 + 1)), (4, .long (s1.1 * (((100 : Int32) - v9).toInt64))), (0, .ref p0), (1, .int p1), (3, .int v3)] K dX9_stillDone_54 4 rfl rfl (by decide) rfl ?_
      refine sk_goto 15 K dX9_stillDone_57 (by decide) ?_
      refine sk_sub [(0, .ref p0), (1, .int p1), (3, .int v3), (4, .long (s1.1 * (((100 : Int32) - v9).toInt64))), (6, .int (s1.2 + 1))] [2, 3, 4, 1, 0] rfl ?_
      have h9 := ih1 _ (Option.some.inj hf).symm
      exact h9
noncomputable def fX9_sumDone_L5 (S : sk_S) (d : sk_D) (p0 : Nat) (p1 : Int32) (s1 : Int64 × Int32) : Option ((Int64 × Int32) ⊕ (Int64)) :=
  (sk_gR S p0 8 0).bind fun v1 => (sk_gI S d v1 2 1).bind fun v3 => if v3 ≤ s1.2 then (some (.inr s1.1)) else ((fX10_doneIn S d p1).bind fun v7 => if ((v7 >>> (s1.2 &&& 31)) &&& (1 : Int32)) = (1 : Int32) then (if S.2.1 p0 = (8, 0) then ((fX9_stillDone S d p0 p1 s1.2).bind fun v10 => some (.inl (s1.1 + v10, s1.2 + 1))) else none) else (some (.inl (s1.1, s1.2 + 1))))
noncomputable def fX9_sumDone (S : sk_S) (d : sk_D) (p0 : Nat) (p1 : Int32) : Option (Int64) :=
  (sk_itr (fX9_sumDone_L5 S d p0 p1) ((0 : Int64), (0 : Int32))).bind fun x1 => some x1
set_option maxRecDepth 100000 in
set_option maxHeartbeats 4000000 in
theorem sX9_sumDone (C : sk_C) (l : Launch) {S : sk_S} {d : sk_D} {p0 : Nat} {p1 : Int32} {rr : Int64} (hf : fX9_sumDone S d p0 p1 = some rr) : sk_Met C l 3 yX9_sumDone cX9_sumDone 5 (some .long) [.ref p0, .int p1] S d (some (.long rr)) S d := by
  refine sk_Met.of (by decide) (Nat.le_of_ble_eq_true rfl) (Nat.le_refl _) (Nat.le_refl _) (fun X K0 hX => ?_)
  have K : sk_Ok X C cX9_sumDone 5 RX9 "sumDone" (some .long) 3 l (some (.long rr)) S d := K0
  have R1 : X.2.2.2.2.2.2.2.2.2.2.2.1 ≤ S.1.1 ∧ X.2.2.2.2.2.2.2.2.2.2.2.2 ≤ S.1.2 := by rw [hX]; exact ⟨Nat.le_refl _, Nat.le_refl _⟩
  have R2 : S.1.1 ≤ S.1.1 ∧ S.1.2 ≤ S.1.2 := ⟨Nat.le_refl _, Nat.le_refl _⟩
  show sk_G X C 5 S d 0 [(0, .ref p0), (1, .int p1)] []
  unfold fX9_sumDone at hf
  refine sk_lconst (0 : Int64) K dX9_sumDone_0 (by decide) ?_
  refine sk_lstore_n [(2, .long (0 : Int64)), (0, .ref p0), (1, .int p1)] K dX9_sumDone_1 rfl (by decide) rfl ?_
  refine sk_iconst (0 : Int32) K dX9_sumDone_2 (by decide) ?_
  refine sk_istore [(4, .int (0 : Int32)), (2, .long (0 : Int64)), (0, .ref p0), (1, .int p1)] K dX9_sumDone_3 (by decide) rfl ?_
  obtain ⟨x1, he1, hf⟩ := sk_ob hf
  have hret1 : ∀ r, r = x1 → r = rr := by
    intro r hr
    subst hr
    exact Option.some.inj hf
  refine sk_sub [(0, .ref p0), (1, .int p1), (2, .long (0 : Int64)), (4, .int (0 : Int32))] [2, 3, 1, 0] rfl ?_
  refine sk_loop (fun s1 => sk_G X C 5 S d 5 [(0, .ref p0), (1, .int p1), (2, .long s1.1), (4, .int s1.2)] []) he1 (fun s1 o1 hf ih1 hx1 => ?_)
  unfold fX9_sumDone_L5 at hf
  refine sk_iload K dX9_sumDone_5 3 rfl ?_
  refine sk_aload_n K dX9_sumDone_7 rfl 0 rfl ?_
  obtain ⟨v1, e2, hf⟩ := sk_ob hf
  refine sk_getR K dX9_sumDone_8 fl_X9_12 rfl e2 ?_
  obtain ⟨v3, e4, hf⟩ := sk_ob hf
  refine sk_getI K dX9_sumDone_11 fl_X9_158 rfl e4 ?_
  refine sk_icmp_ge 46 K dX9_sumDone_14 (by decide) (fun h5 => ?_) (fun h5 => ?_)
  · rw [if_pos h5] at hf
    refine sk_lload_n K dX9_sumDone_46 rfl 2 rfl ?_
    have hR6 : s1.1 = rr := hret1 _ (hx1 _ (Option.some.inj hf).symm)
    exact sk_lret K dX9_sumDone_47 rfl rfl hR6 rfl rfl
  · rw [if_neg h5] at hf
    refine sk_iload_n K dX9_sumDone_17 rfl 1 rfl ?_
    obtain ⟨v7, e8, hf⟩ := sk_ob hf
    refine sk_callN (As := [.int p1]) (st := []) K dX9_sumDone_18 cl_X9_67 (sX10_doneIn C l e8) (by decide) rfl rfl (Nat.le_of_ble_eq_true rfl) R1 R2 ?_
    refine sk_iload K dX9_sumDone_21 3 rfl ?_
    refine sk_ishr K dX9_sumDone_23 ?_
    refine sk_iconst (1 : Int32) K dX9_sumDone_24 (by decide) ?_
    refine sk_iand K dX9_sumDone_25 ?_
    refine sk_iconst (1 : Int32) K dX9_sumDone_26 (by decide) ?_
    refine sk_icmp_ne 40 K dX9_sumDone_27 (by decide) (fun h9 => ?_) (fun h9 => ?_)
    · rw [if_neg h9] at hf
      refine sk_iinc (s1.2 + 1) [(4, .int (s1.2 + 1)), (0, .ref p0), (1, .int p1), (2, .long s1.1)] K dX9_sumDone_40 3 rfl rfl (by decide) rfl ?_
      refine sk_goto 5 K dX9_sumDone_43 (by decide) ?_
      refine sk_sub [(0, .ref p0), (1, .int p1), (2, .long s1.1), (4, .int (s1.2 + 1))] [1, 2, 3, 0] rfl ?_
      have h9 := ih1 _ (Option.some.inj hf).symm
      exact h9
    · rw [if_pos h9] at hf
      refine sk_lload_n K dX9_sumDone_30 rfl 2 rfl ?_
      refine sk_aload_n K dX9_sumDone_31 rfl 0 rfl ?_
      refine sk_iload_n K dX9_sumDone_32 rfl 1 rfl ?_
      refine sk_iload K dX9_sumDone_33 3 rfl ?_
      obtain ⟨h12, hf⟩ := sk_ib hf
      obtain ⟨v10, e11, hf⟩ := sk_ob hf
      refine sk_callV (As := [.int p1, .int s1.2]) (st := [.long s1.1]) K dX9_sumDone_35 cl_X9_161 h12 (sX9_stillDone C l e11) (by decide) rfl rfl (Nat.le_of_ble_eq_true rfl) R1 R2 ?_
      refine sk_ladd K dX9_sumDone_38 ?_
      refine sk_lstore_n [(2, .long (s1.1 + v10)), (0, .ref p0), (1, .int p1), (4, .int s1.2)] K dX9_sumDone_39 rfl (by decide) rfl ?_
      refine sk_iinc (s1.2 + 1) [(4, .int (s1.2 + 1)), (2, .long (s1.1 + v10)), (0, .ref p0), (1, .int p1)] K dX9_sumDone_40 3 rfl rfl (by decide) rfl ?_
      refine sk_goto 5 K dX9_sumDone_43 (by decide) ?_
      refine sk_sub [(0, .ref p0), (1, .int p1), (2, .long (s1.1 + v10)), (4, .int (s1.2 + 1))] [2, 3, 1, 0] rfl ?_
      have h9 := ih1 _ (Option.some.inj hf).symm
      exact h9
noncomputable def fX9_lowest_L10  (s1 : Int64 × Int64 × Int32) : Option ((Int64 × Int64 × Int32) ⊕ (Int64)) :=
  if (200 : Int32) ≤ s1.2.2 then (some (.inr s1.1)) else (if s1.2.1 = (0 : Int64) then (some (.inr s1.1)) else (if ¬ s1.2.1 = 0 then (some (.inl (s1.2.1, s1.1 - s1.1 / s1.2.1 * s1.2.1, s1.2.2 + 1))) else none))
noncomputable def fX9_lowest (S : sk_S) (d : sk_D) (p0 : Int64) (p2 : Int32) : Option (Int64) :=
  (sk_itr fX9_lowest_L10 ((10000000000000000 : Int64), p0, (0 : Int32))).bind fun y1 => if p2 = 0 then (if ¬ (if y1 < (1 : Int64) then (1 : Int64) else y1) = 0 then (some (p0 / (if y1 < (1 : Int64) then (1 : Int64) else y1))) else none) else (if ¬ (if y1 < (1 : Int64) then (1 : Int64) else y1) = 0 then (some ((10000000000000000 : Int64) / (if y1 < (1 : Int64) then (1 : Int64) else y1))) else none)
set_option maxRecDepth 100000 in
set_option maxHeartbeats 4000000 in
theorem sX9_lowest (C : sk_C) (l : Launch) {S : sk_S} {d : sk_D} {p0 : Int64} {p2 : Int32} {rr : Int64} (hf : fX9_lowest S d p0 p2 = some rr) : sk_Met C l 1 yX9_lowest cX9_lowest 10 (some .long) [.long p0, .int p2] S d (some (.long rr)) S d := by
  refine sk_Met.of (by decide) (Nat.le_of_ble_eq_true rfl) (Nat.le_refl _) (Nat.le_refl _) (fun X K0 hX => ?_)
  have K : sk_Ok X C cX9_lowest 10 RX9 "lowest" (some .long) 1 l (some (.long rr)) S d := K0
  have R1 : X.2.2.2.2.2.2.2.2.2.2.2.1 ≤ S.1.1 ∧ X.2.2.2.2.2.2.2.2.2.2.2.2 ≤ S.1.2 := by rw [hX]; exact ⟨Nat.le_refl _, Nat.le_refl _⟩
  have R2 : S.1.1 ≤ S.1.1 ∧ S.1.2 ≤ S.1.2 := ⟨Nat.le_refl _, Nat.le_refl _⟩
  show sk_G X C 10 S d 0 [(0, .long p0), (2, .int p2)] []
  unfold fX9_lowest at hf
  refine sk_ldc2 K dX9_lowest_0 qw_1243 ?_
  refine sk_lstore_n [(3, .long (10000000000000000 : Int64)), (0, .long p0), (2, .int p2)] K dX9_lowest_3 rfl (by decide) rfl ?_
  refine sk_lload_n K dX9_lowest_4 rfl 1 rfl ?_
  refine sk_lstore [(5, .long p0), (3, .long (10000000000000000 : Int64)), (0, .long p0), (2, .int p2)] K dX9_lowest_5 (by decide) rfl ?_
  refine sk_iconst (0 : Int32) K dX9_lowest_7 (by decide) ?_
  refine sk_istore [(7, .int (0 : Int32)), (5, .long p0), (3, .long (10000000000000000 : Int64)), (0, .long p0), (2, .int p2)] K dX9_lowest_8 (by decide) rfl ?_
  obtain ⟨x1, he1, hf⟩ := sk_ob hf
  have rest1 : ∀ y1, y1 = x1 → sk_G X C 10 S d 44 [(0, .long p0), (2, .int p2), (3, .long y1)] [] := by
    intro y1 hy
    subst hy
    refine sk_lconst (1 : Int64) K dX9_lowest_44 (by decide) ?_
    refine sk_lload_n K dX9_lowest_45 rfl 2 rfl ?_
    refine sk_mmaxJ K dX9_lowest_46 qw_1244 qw_1245 qw_137 qw_1246 (by decide) (Nat.le_of_ble_eq_true rfl) R2 ?_
    refine sk_lstore [(7, .long (if y1 < (1 : Int64) then (1 : Int64) else y1)), (0, .long p0), (2, .int p2), (3, .long y1)] K dX9_lowest_49 (by decide) rfl ?_
    refine sk_iload_n K dX9_lowest_51 rfl 2 rfl ?_
    refine sk_if_ne 62 K dX9_lowest_52 (by decide) (fun h3 => ?_) (fun h3 => ?_)
    · rw [if_neg h3] at hf
      refine sk_ldc2 K dX9_lowest_62 qw_1243 ?_
      refine sk_lload K dX9_lowest_65 0 rfl ?_
      obtain ⟨hz4, hf⟩ := sk_ib hf
      refine sk_ldiv K dX9_lowest_67 hz4 ?_
      have hR5 : ((10000000000000000 : Int64) / (if y1 < (1 : Int64) then (1 : Int64) else y1)) = rr := Option.some.inj hf
      exact sk_lret K dX9_lowest_68 rfl rfl hR5 rfl rfl
    · rw [if_pos h3] at hf
      refine sk_lload_n K dX9_lowest_55 rfl 1 rfl ?_
      refine sk_lload K dX9_lowest_56 0 rfl ?_
      obtain ⟨hz6, hf⟩ := sk_ib hf
      refine sk_ldiv K dX9_lowest_58 hz6 ?_
      refine sk_goto 68 K dX9_lowest_59 (by decide) ?_
      have hR7 : (p0 / (if y1 < (1 : Int64) then (1 : Int64) else y1)) = rr := Option.some.inj hf
      exact sk_lret K dX9_lowest_68 rfl rfl hR7 rfl rfl
  refine sk_sub [(0, .long p0), (2, .int p2), (3, .long (10000000000000000 : Int64)), (5, .long p0), (7, .int (0 : Int32))] [3, 4, 2, 1, 0] rfl ?_
  refine sk_loop (fun s1 => sk_G X C 10 S d 10 [(0, .long p0), (2, .int p2), (3, .long s1.1), (5, .long s1.2.1), (7, .int s1.2.2)] []) he1 (fun s1 o1 hf ih1 hx1 => ?_)
  unfold fX9_lowest_L10 at hf
  refine sk_iload K dX9_lowest_10 4 rfl ?_
  refine sk_sipush (200 : Int32) K dX9_lowest_12 (by decide) ?_
  refine sk_icmp_ge 44 K dX9_lowest_15 (by decide) (fun h8 => ?_) (fun h8 => ?_)
  · rw [if_pos h8] at hf
    refine sk_sub [(0, .long p0), (2, .int p2), (3, .long s1.1)] [0, 1, 2] rfl ?_
    have h9 := rest1 _ (hx1 _ (Option.some.inj hf).symm)
    exact h9
  · rw [if_neg h8] at hf
    refine sk_lload K dX9_lowest_18 3 rfl ?_
    refine sk_lconst (0 : Int64) K dX9_lowest_20 (by decide) ?_
    refine sk_lcmp_eq 44 K dX9_lowest_21 dX9_lowest_22 (by decide) (fun h9 => ?_) (fun h9 => ?_)
    · rw [if_pos h9] at hf
      refine sk_sub [(0, .long p0), (2, .int p2), (3, .long s1.1)] [0, 1, 2] rfl ?_
      have h9 := rest1 _ (hx1 _ (Option.some.inj hf).symm)
      exact h9
    · rw [if_neg h9] at hf
      refine sk_lload_n K dX9_lowest_25 rfl 2 rfl ?_
      refine sk_lload K dX9_lowest_26 3 rfl ?_
      obtain ⟨hz10, hf⟩ := sk_ib hf
      refine sk_lrem K dX9_lowest_28 hz10 ?_
      refine sk_lstore [(8, .long (s1.1 - s1.1 / s1.2.1 * s1.2.1)), (0, .long p0), (2, .int p2), (3, .long s1.1), (5, .long s1.2.1), (7, .int s1.2.2)] K dX9_lowest_29 (by decide) rfl ?_
      refine sk_lload K dX9_lowest_31 4 rfl ?_
      refine sk_lstore_n [(3, .long s1.2.1), (8, .long (s1.1 - s1.1 / s1.2.1 * s1.2.1)), (0, .long p0), (2, .int p2), (5, .long s1.2.1), (7, .int s1.2.2)] K dX9_lowest_33 rfl (by decide) rfl ?_
      refine sk_lload K dX9_lowest_34 1 rfl ?_
      refine sk_lstore [(5, .long (s1.1 - s1.1 / s1.2.1 * s1.2.1)), (3, .long s1.2.1), (8, .long (s1.1 - s1.1 / s1.2.1 * s1.2.1)), (0, .long p0), (2, .int p2), (7, .int s1.2.2)] K dX9_lowest_36 (by decide) rfl ?_
      refine sk_iinc (s1.2.2 + 1) [(7, .int (s1.2.2 + 1)), (5, .long (s1.1 - s1.1 / s1.2.1 * s1.2.1)), (3, .long s1.2.1), (8, .long (s1.1 - s1.1 / s1.2.1 * s1.2.1)), (0, .long p0), (2, .int p2)] K dX9_lowest_38 5 rfl rfl (by decide) rfl ?_
      refine sk_goto 10 K dX9_lowest_41 (by decide) ?_
      refine sk_sub [(0, .long p0), (2, .int p2), (3, .long s1.2.1), (5, .long (s1.1 - s1.1 / s1.2.1 * s1.2.1)), (7, .int (s1.2.2 + 1))] [4, 5, 2, 1, 0] rfl ?_
      have h9 := ih1 _ (Option.some.inj hf).symm
      exact h9
noncomputable def fX10_feedInt_L3 (S : sk_S) (p0 : Nat) (p1 : Int32) (s1 : Int32 × sk_D) : Option ((Int32 × sk_D) ⊕ (sk_D)) :=
  if s1.1 < 0 then (some (.inr s1.2)) else ((sk_gI S s1.2 p0 9 10).bind fun v3 => if (900 : Int32) ≤ v3 then (some (.inl (s1.1 - 8, s1.2))) else ((sk_gR S p0 9 9).bind fun v6 => (sk_gI S s1.2 p0 9 10).bind fun v8 => (sk_sI S s1.2 v6 20 v8 (((p1.toUInt32 >>> (s1.1.toUInt32 &&& Int32.toUInt32 31)).toInt32) &&& (255 : Int32))).bind fun d10 => (sk_gI S d10 p0 9 10).bind fun v12 => (sk_pI S d10 p0 9 10 (v12 + (1 : Int32))).bind fun d14 => some (.inl (s1.1 - 8, d14))))
noncomputable def fX10_feedInt (S : sk_S) (d : sk_D) (p0 : Nat) (p1 : Int32) : Option (sk_D) :=
  (sk_itr (fX10_feedInt_L3 S p0 p1) ((24 : Int32), d)).bind fun x1 => some x1
set_option maxRecDepth 100000 in
set_option maxHeartbeats 4000000 in
theorem sX10_feedInt (C : sk_C) (l : Launch) {S : sk_S} {d : sk_D} {p0 : Nat} {p1 : Int32} {dd : sk_D} (hf : fX10_feedInt S d p0 p1 = some dd) : sk_Met C l 0 yX10_feedInt cX10_feedInt 3 none [.ref p0, .int p1] S d none S dd := by
  refine sk_Met.of (by decide) (Nat.le_of_ble_eq_true rfl) (Nat.le_refl _) (Nat.le_refl _) (fun X K0 hX => ?_)
  have K : sk_Ok X C cX10_feedInt 3 RX10 "feedInt" none 0 l none S dd := K0
  have R1 : X.2.2.2.2.2.2.2.2.2.2.2.1 ≤ S.1.1 ∧ X.2.2.2.2.2.2.2.2.2.2.2.2 ≤ S.1.2 := by rw [hX]; exact ⟨Nat.le_refl _, Nat.le_refl _⟩
  have R2 : S.1.1 ≤ S.1.1 ∧ S.1.2 ≤ S.1.2 := ⟨Nat.le_refl _, Nat.le_refl _⟩
  show sk_G X C 3 S d 0 [(0, .ref p0), (1, .int p1)] []
  unfold fX10_feedInt at hf
  refine sk_bipush (24 : Int32) K dX10_feedInt_0 (by decide) ?_
  refine sk_istore_n [(2, .int (24 : Int32)), (0, .ref p0), (1, .int p1)] K dX10_feedInt_2 rfl (by decide) rfl ?_
  obtain ⟨x1, he1, hf⟩ := sk_ob hf
  have hret1 : ∀ r, r = x1 → r = dd := by
    intro r hr
    subst hr
    exact Option.some.inj hf
  refine sk_sub [(0, .ref p0), (1, .int p1), (2, .int (24 : Int32))] [1, 2, 0] rfl ?_
  refine sk_loop (fun s1 => sk_G X C 3 S s1.2 3 [(0, .ref p0), (1, .int p1), (2, .int s1.1)] []) he1 (fun s1 o1 hf ih1 hx1 => ?_)
  unfold fX10_feedInt_L3 at hf
  refine sk_iload_n K dX10_feedInt_3 rfl 2 rfl ?_
  refine sk_if_lt 49 K dX10_feedInt_4 (by decide) (fun h1 => ?_) (fun h1 => ?_)
  · rw [if_pos h1] at hf
    have hR2 : s1.2 = dd := hret1 _ (hx1 _ (Option.some.inj hf).symm)
    exact sk_vret K dX10_feedInt_49 rfl rfl rfl hR2
  · rw [if_neg h1] at hf
    refine sk_aload_n K dX10_feedInt_7 rfl 0 rfl ?_
    obtain ⟨v3, e4, hf⟩ := sk_ob hf
    refine sk_getI K dX10_feedInt_8 fl_X10_70 rfl e4 ?_
    refine sk_sipush (900 : Int32) K dX10_feedInt_11 (by decide) ?_
    refine sk_icmp_ge 43 K dX10_feedInt_14 (by decide) (fun h5 => ?_) (fun h5 => ?_)
    · rw [if_pos h5] at hf
      refine sk_iinc (s1.1 - 8) [(2, .int (s1.1 - 8)), (0, .ref p0), (1, .int p1)] K dX10_feedInt_43 2 rfl (sk_dec8 _) (by decide) rfl ?_
      refine sk_goto 3 K dX10_feedInt_46 (by decide) ?_
      refine sk_sub [(0, .ref p0), (1, .int p1), (2, .int (s1.1 - 8))] [1, 2, 0] rfl ?_
      have h9 := ih1 _ (Option.some.inj hf).symm
      exact h9
    · rw [if_neg h5] at hf
      refine sk_aload_n K dX10_feedInt_17 rfl 0 rfl ?_
      obtain ⟨v6, e7, hf⟩ := sk_ob hf
      refine sk_getR K dX10_feedInt_18 fl_X10_67 rfl e7 ?_
      refine sk_aload_n K dX10_feedInt_21 rfl 0 rfl ?_
      obtain ⟨v8, e9, hf⟩ := sk_ob hf
      refine sk_getI K dX10_feedInt_22 fl_X10_70 rfl e9 ?_
      refine sk_iload_n K dX10_feedInt_25 rfl 1 rfl ?_
      refine sk_iload_n K dX10_feedInt_26 rfl 2 rfl ?_
      refine sk_iushr K dX10_feedInt_27 ?_
      refine sk_sipush (255 : Int32) K dX10_feedInt_28 (by decide) ?_
      refine sk_iand K dX10_feedInt_31 ?_
      obtain ⟨d10, e11, hf⟩ := sk_ob hf
      refine sk_ast20 d10 K dX10_feedInt_32 e11 ?_
      refine sk_aload_n K dX10_feedInt_33 rfl 0 rfl ?_
      refine sk_dup K dX10_feedInt_34 rfl ?_
      obtain ⟨v12, e13, hf⟩ := sk_ob hf
      refine sk_getI K dX10_feedInt_35 fl_X10_70 rfl e13 ?_
      refine sk_iconst (1 : Int32) K dX10_feedInt_38 (by decide) ?_
      refine sk_iadd K dX10_feedInt_39 ?_
      obtain ⟨d14, e15, hf⟩ := sk_ob hf
      refine sk_putI d14 K dX10_feedInt_40 fl_X10_70 rfl rfl rfl e15 ?_
      refine sk_iinc (s1.1 - 8) [(2, .int (s1.1 - 8)), (0, .ref p0), (1, .int p1)] K dX10_feedInt_43 2 rfl (sk_dec8 _) (by decide) rfl ?_
      refine sk_goto 3 K dX10_feedInt_46 (by decide) ?_
      refine sk_sub [(0, .ref p0), (1, .int p1), (2, .int (s1.1 - 8))] [1, 2, 0] rfl ?_
      have h9 := ih1 _ (Option.some.inj hf).symm
      exact h9
noncomputable def fX10_feed (S : sk_S) (d : sk_D) (p0 : Nat) (p1 : Int32) (p2 : Int32) (p3 : Int32) (p4 : Int32) (p5 : Int32) : Option (Int32 × sk_D) :=
  (sk_gI S d p0 9 10).bind fun v1 => if (v1 + (20 : Int32)) ≤ (900 : Int32) then (if S.2.1 p0 = (9, 0) then ((fX10_feedInt S d p0 p1).bind fun d6 => if S.2.1 p0 = (9, 0) then ((fX10_feedInt S d6 p0 p2).bind fun d10 => if S.2.1 p0 = (9, 0) then ((fX10_feedInt S d10 p0 p3).bind fun d14 => if S.2.1 p0 = (9, 0) then ((fX10_feedInt S d14 p0 p4).bind fun d18 => if S.2.1 p0 = (9, 0) then ((fX10_feedInt S d18 p0 p5).bind fun d22 => (sk_gI S d22 p0 9 10).bind fun v24 => some (v24, d22)) else none) else none) else none) else none) else none) else (some ((-5 : Int32), d))
set_option maxRecDepth 100000 in
set_option maxHeartbeats 4000000 in
theorem sX10_feed (C : sk_C) (l : Launch) {S : sk_S} {d : sk_D} {p0 : Nat} {p1 : Int32} {p2 : Int32} {p3 : Int32} {p4 : Int32} {p5 : Int32} {rr : Int32} {dd : sk_D} (hf : fX10_feed S d p0 p1 p2 p3 p4 p5 = some (rr, dd)) : sk_Met C l 1 yX10_feed cX10_feed 6 (some .int) [.ref p0, .int p1, .int p2, .int p3, .int p4, .int p5] S d (some (.int rr)) S dd := by
  refine sk_Met.of (by decide) (Nat.le_of_ble_eq_true rfl) (Nat.le_refl _) (Nat.le_refl _) (fun X K0 hX => ?_)
  have K : sk_Ok X C cX10_feed 6 RX10 "feed" (some .int) 1 l (some (.int rr)) S dd := K0
  have R1 : X.2.2.2.2.2.2.2.2.2.2.2.1 ≤ S.1.1 ∧ X.2.2.2.2.2.2.2.2.2.2.2.2 ≤ S.1.2 := by rw [hX]; exact ⟨Nat.le_refl _, Nat.le_refl _⟩
  have R2 : S.1.1 ≤ S.1.1 ∧ S.1.2 ≤ S.1.2 := ⟨Nat.le_refl _, Nat.le_refl _⟩
  show sk_G X C 6 S d 0 [(0, .ref p0), (1, .int p1), (2, .int p2), (3, .int p3), (4, .int p4), (5, .int p5)] []
  unfold fX10_feed at hf
  refine sk_aload_n K dX10_feed_0 rfl 0 rfl ?_
  obtain ⟨v1, e2, hf⟩ := sk_ob hf
  refine sk_getI K dX10_feed_1 fl_X10_70 rfl e2 ?_
  refine sk_bipush (20 : Int32) K dX10_feed_4 (by decide) ?_
  refine sk_iadd K dX10_feed_6 ?_
  refine sk_sipush (900 : Int32) K dX10_feed_7 (by decide) ?_
  refine sk_icmp_le 16 K dX10_feed_10 (by decide) (fun h3 => ?_) (fun h3 => ?_)
  · rw [if_pos h3] at hf
    refine sk_aload_n K dX10_feed_16 rfl 0 rfl ?_
    refine sk_iload_n K dX10_feed_17 rfl 1 rfl ?_
    obtain ⟨h7, hf⟩ := sk_ib hf
    obtain ⟨d6, e5, hf⟩ := sk_ob hf
    refine sk_callV (As := [.int p1]) (st := []) K dX10_feed_18 cl_X10_76 h7 (sX10_feedInt C l e5) (by decide) rfl rfl (Nat.le_of_ble_eq_true rfl) R1 R2 ?_
    refine sk_aload_n K dX10_feed_21 rfl 0 rfl ?_
    refine sk_iload_n K dX10_feed_22 rfl 2 rfl ?_
    obtain ⟨h11, hf⟩ := sk_ib hf
    obtain ⟨d10, e9, hf⟩ := sk_ob hf
    refine sk_callV (As := [.int p2]) (st := []) K dX10_feed_23 cl_X10_76 h11 (sX10_feedInt C l e9) (by decide) rfl rfl (Nat.le_of_ble_eq_true rfl) R1 R2 ?_
    refine sk_aload_n K dX10_feed_26 rfl 0 rfl ?_
    refine sk_iload_n K dX10_feed_27 rfl 3 rfl ?_
    obtain ⟨h15, hf⟩ := sk_ib hf
    obtain ⟨d14, e13, hf⟩ := sk_ob hf
    refine sk_callV (As := [.int p3]) (st := []) K dX10_feed_28 cl_X10_76 h15 (sX10_feedInt C l e13) (by decide) rfl rfl (Nat.le_of_ble_eq_true rfl) R1 R2 ?_
    refine sk_aload_n K dX10_feed_31 rfl 0 rfl ?_
    refine sk_iload K dX10_feed_32 4 rfl ?_
    obtain ⟨h19, hf⟩ := sk_ib hf
    obtain ⟨d18, e17, hf⟩ := sk_ob hf
    refine sk_callV (As := [.int p4]) (st := []) K dX10_feed_34 cl_X10_76 h19 (sX10_feedInt C l e17) (by decide) rfl rfl (Nat.le_of_ble_eq_true rfl) R1 R2 ?_
    refine sk_aload_n K dX10_feed_37 rfl 0 rfl ?_
    refine sk_iload K dX10_feed_38 5 rfl ?_
    obtain ⟨h23, hf⟩ := sk_ib hf
    obtain ⟨d22, e21, hf⟩ := sk_ob hf
    refine sk_callV (As := [.int p5]) (st := []) K dX10_feed_40 cl_X10_76 h23 (sX10_feedInt C l e21) (by decide) rfl rfl (Nat.le_of_ble_eq_true rfl) R1 R2 ?_
    refine sk_aload_n K dX10_feed_43 rfl 0 rfl ?_
    obtain ⟨v24, e25, hf⟩ := sk_ob hf
    refine sk_getI K dX10_feed_44 fl_X10_70 rfl e25 ?_
    have hR26 : (v24, d22) = (rr, dd) := Option.some.inj hf
    exact sk_iret K dX10_feed_47 rfl rfl (congrArg (fun z => z.1) hR26) rfl (congrArg (fun z => z.2) hR26)
  · rw [if_neg h3] at hf
    refine sk_bipush (-5 : Int32) K dX10_feed_13 (by decide) ?_
    have hR27 : ((-5 : Int32), d) = (rr, dd) := Option.some.inj hf
    exact sk_iret K dX10_feed_15 rfl rfl (congrArg (fun z => z.1) hR27) rfl (congrArg (fun z => z.2) hR27)
noncomputable def fX10_begin (S : sk_S) (d : sk_D) (p0 : Nat) (p1 : Nat) (p2 : Int32) : Option (sk_D) :=
  (sk_gR S p0 9 0).bind fun v1 => if S.2.1 v1 = (8, 0) then ((fX9_take S d v1 p1).bind fun d5 => (sk_gR S p0 9 2).bind fun v7 => if S.2.1 v7 = (7, 0) then ((fX8_forget S d5 v7).bind fun d11 => (sk_gR S p0 9 5).bind fun v13 => if S.2.1 v13 = (4, 0) then ((fX4_begin S d11 v13 p2).bind fun d17 => some d17) else none) else none) else none
set_option maxRecDepth 100000 in
set_option maxHeartbeats 4000000 in
theorem sX10_begin (C : sk_C) (l : Launch) {S : sk_S} {d : sk_D} {p0 : Nat} {p1 : Nat} {p2 : Int32} {dd : sk_D} (hf : fX10_begin S d p0 p1 p2 = some dd) : sk_Met C l 4 yX10_begin cX10_begin 3 none [.ref p0, .ref p1, .int p2] S d none S dd := by
  refine sk_Met.of (by decide) (Nat.le_of_ble_eq_true rfl) (Nat.le_refl _) (Nat.le_refl _) (fun X K0 hX => ?_)
  have K : sk_Ok X C cX10_begin 3 RX10 "begin" none 4 l none S dd := K0
  have R1 : X.2.2.2.2.2.2.2.2.2.2.2.1 ≤ S.1.1 ∧ X.2.2.2.2.2.2.2.2.2.2.2.2 ≤ S.1.2 := by rw [hX]; exact ⟨Nat.le_refl _, Nat.le_refl _⟩
  have R2 : S.1.1 ≤ S.1.1 ∧ S.1.2 ≤ S.1.2 := ⟨Nat.le_refl _, Nat.le_refl _⟩
  show sk_G X C 3 S d 0 [(0, .ref p0), (1, .ref p1), (2, .int p2)] []
  unfold fX10_begin at hf
  refine sk_aload_n K dX10_begin_0 rfl 0 rfl ?_
  obtain ⟨v1, e2, hf⟩ := sk_ob hf
  refine sk_getR K dX10_begin_1 fl_X10_10 rfl e2 ?_
  refine sk_aload_n K dX10_begin_4 rfl 1 rfl ?_
  obtain ⟨h6, hf⟩ := sk_ib hf
  obtain ⟨d5, e4, hf⟩ := sk_ob hf
  refine sk_callV (As := [.ref p1]) (st := []) K dX10_begin_5 cl_X10_104 h6 (sX9_take C l e4) (by decide) rfl rfl (Nat.le_of_ble_eq_true rfl) R1 R2 ?_
  refine sk_aload_n K dX10_begin_8 rfl 0 rfl ?_
  obtain ⟨v7, e8, hf⟩ := sk_ob hf
  refine sk_getR K dX10_begin_9 fl_X10_26 rfl e8 ?_
  obtain ⟨h12, hf⟩ := sk_ib hf
  obtain ⟨d11, e10, hf⟩ := sk_ob hf
  refine sk_callV (As := []) (st := []) K dX10_begin_12 cl_X10_108 h12 (sX8_forget C l e10) (by decide) rfl rfl (Nat.le_of_ble_eq_true rfl) R1 R2 ?_
  refine sk_aload_n K dX10_begin_15 rfl 0 rfl ?_
  obtain ⟨v13, e14, hf⟩ := sk_ob hf
  refine sk_getR K dX10_begin_16 fl_X10_47 rfl e14 ?_
  refine sk_iload_n K dX10_begin_19 rfl 2 rfl ?_
  obtain ⟨h18, hf⟩ := sk_ib hf
  obtain ⟨d17, e16, hf⟩ := sk_ob hf
  refine sk_callV (As := [.int p2]) (st := []) K dX10_begin_20 cl_X10_111 h18 (sX4_begin C l e16) (by decide) rfl rfl (Nat.le_of_ble_eq_true rfl) R1 R2 ?_
  have hR19 : d17 = dd := Option.some.inj hf
  exact sk_vret K dX10_begin_23 rfl rfl rfl hR19
noncomputable def fX10_life (S : sk_S) (d : sk_D) (p0 : Nat) (p1 : Int32) : Option (Int32 × sk_D) :=
  if p1 < 0 then (some ((-3 : Int32), d)) else ((sk_gI S d p0 9 10).bind fun v3 => if p1 ≤ v3 then ((sk_pI S d p0 9 10 (0 : Int32)).bind fun d6 => (sk_gR S p0 9 1).bind fun v8 => (sk_gR S p0 9 9).bind fun v10 => if S.2.1 v8 = (5, 0) then ((fX5_read S d6 v8 v10 p1).bind fun d14 => (sk_gR S p0 9 1).bind fun v16 => (sk_gI S d14 v16 5 1).bind fun v18 => if v18 = 0 then ((sk_gR S p0 9 1).bind fun v21 => (sk_gR S v21 5 0).bind fun v23 => (sk_gR S p0 9 1).bind fun v25 => (sk_gR S v25 5 0).bind fun v27 => (sk_gI S d14 v27 2 3).bind fun v29 => if S.2.1 p0 = (9, 0) then ((fX10_begin S d14 p0 v23 (v29 <<< ((16 : Int32) &&& 31))).bind fun d33 => (sk_gR S p0 9 0).bind fun v35 => (sk_gR S v35 8 0).bind fun v37 => (sk_gI S d33 v37 2 4).bind fun v39 => some (v39, d33)) else none) else ((sk_gR S p0 9 1).bind fun v42 => (sk_gI S d14 v42 5 1).bind fun v44 => some ((-30 : Int32) - v44, d14))) else none) else (some ((-3 : Int32), d)))
set_option maxRecDepth 100000 in
set_option maxHeartbeats 4000000 in
theorem sX10_life (C : sk_C) (l : Launch) {S : sk_S} {d : sk_D} {p0 : Nat} {p1 : Int32} {rr : Int32} {dd : sk_D} (hf : fX10_life S d p0 p1 = some (rr, dd)) : sk_Met C l 105 yX10_life cX10_life 2 (some .int) [.ref p0, .int p1] S d (some (.int rr)) S dd := by
  refine sk_Met.of (by decide) (Nat.le_of_ble_eq_true rfl) (Nat.le_refl _) (Nat.le_refl _) (fun X K0 hX => ?_)
  have K : sk_Ok X C cX10_life 2 RX10 "life" (some .int) 105 l (some (.int rr)) S dd := K0
  have R1 : X.2.2.2.2.2.2.2.2.2.2.2.1 ≤ S.1.1 ∧ X.2.2.2.2.2.2.2.2.2.2.2.2 ≤ S.1.2 := by rw [hX]; exact ⟨Nat.le_refl _, Nat.le_refl _⟩
  have R2 : S.1.1 ≤ S.1.1 ∧ S.1.2 ≤ S.1.2 := ⟨Nat.le_refl _, Nat.le_refl _⟩
  show sk_G X C 2 S d 0 [(0, .ref p0), (1, .int p1)] []
  unfold fX10_life at hf
  refine sk_iload_n K dX10_life_0 rfl 1 rfl ?_
  refine sk_if_lt 12 K dX10_life_1 (by decide) (fun h1 => ?_) (fun h1 => ?_)
  · rw [if_pos h1] at hf
    refine sk_bipush (-3 : Int32) K dX10_life_12 (by decide) ?_
    have hR2 : ((-3 : Int32), d) = (rr, dd) := Option.some.inj hf
    exact sk_iret K dX10_life_14 rfl rfl (congrArg (fun z => z.1) hR2) rfl (congrArg (fun z => z.2) hR2)
  · rw [if_neg h1] at hf
    refine sk_iload_n K dX10_life_4 rfl 1 rfl ?_
    refine sk_aload_n K dX10_life_5 rfl 0 rfl ?_
    obtain ⟨v3, e4, hf⟩ := sk_ob hf
    refine sk_getI K dX10_life_6 fl_X10_70 rfl e4 ?_
    refine sk_icmp_le 15 K dX10_life_9 (by decide) (fun h5 => ?_) (fun h5 => ?_)
    · rw [if_pos h5] at hf
      refine sk_aload_n K dX10_life_15 rfl 0 rfl ?_
      refine sk_iconst (0 : Int32) K dX10_life_16 (by decide) ?_
      obtain ⟨d6, e7, hf⟩ := sk_ob hf
      refine sk_putI d6 K dX10_life_17 fl_X10_70 rfl rfl rfl e7 ?_
      refine sk_aload_n K dX10_life_20 rfl 0 rfl ?_
      obtain ⟨v8, e9, hf⟩ := sk_ob hf
      refine sk_getR K dX10_life_21 fl_X10_19 rfl e9 ?_
      refine sk_aload_n K dX10_life_24 rfl 0 rfl ?_
      obtain ⟨v10, e11, hf⟩ := sk_ob hf
      refine sk_getR K dX10_life_25 fl_X10_67 rfl e11 ?_
      refine sk_iload_n K dX10_life_28 rfl 1 rfl ?_
      obtain ⟨h15, hf⟩ := sk_ib hf
      obtain ⟨d14, e13, hf⟩ := sk_ob hf
      refine sk_callV (As := [.ref v10, .int p1]) (st := []) K dX10_life_29 cl_X10_80 h15 (sX5_read C l e13) (by decide) rfl rfl (Nat.le_of_ble_eq_true rfl) R1 R2 ?_
      refine sk_aload_n K dX10_life_32 rfl 0 rfl ?_
      obtain ⟨v16, e17, hf⟩ := sk_ob hf
      refine sk_getR K dX10_life_33 fl_X10_19 rfl e17 ?_
      obtain ⟨v18, e19, hf⟩ := sk_ob hf
      refine sk_getI K dX10_life_36 fl_X10_84 rfl e19 ?_
      refine sk_if_eq 53 K dX10_life_39 (by decide) (fun h20 => ?_) (fun h20 => ?_)
      · rw [if_pos h20] at hf
        refine sk_aload_n K dX10_life_53 rfl 0 rfl ?_
        refine sk_aload_n K dX10_life_54 rfl 0 rfl ?_
        obtain ⟨v21, e22, hf⟩ := sk_ob hf
        refine sk_getR K dX10_life_55 fl_X10_19 rfl e22 ?_
        obtain ⟨v23, e24, hf⟩ := sk_ob hf
        refine sk_getR K dX10_life_58 fl_X10_87 rfl e24 ?_
        refine sk_aload_n K dX10_life_61 rfl 0 rfl ?_
        obtain ⟨v25, e26, hf⟩ := sk_ob hf
        refine sk_getR K dX10_life_62 fl_X10_19 rfl e26 ?_
        obtain ⟨v27, e28, hf⟩ := sk_ob hf
        refine sk_getR K dX10_life_65 fl_X10_87 rfl e28 ?_
        obtain ⟨v29, e30, hf⟩ := sk_ob hf
        refine sk_getI K dX10_life_68 fl_X10_91 rfl e30 ?_
        refine sk_bipush (16 : Int32) K dX10_life_71 (by decide) ?_
        refine sk_ishl K dX10_life_73 ?_
        obtain ⟨h34, hf⟩ := sk_ib hf
        obtain ⟨d33, e32, hf⟩ := sk_ob hf
        refine sk_callV (As := [.ref v23, .int (v29 <<< ((16 : Int32) &&& 31))]) (st := []) K dX10_life_74 cl_X10_94 h34 (sX10_begin C l e32) (by decide) rfl rfl (Nat.le_of_ble_eq_true rfl) R1 R2 ?_
        refine sk_aload_n K dX10_life_77 rfl 0 rfl ?_
        obtain ⟨v35, e36, hf⟩ := sk_ob hf
        refine sk_getR K dX10_life_78 fl_X10_10 rfl e36 ?_
        obtain ⟨v37, e38, hf⟩ := sk_ob hf
        refine sk_getR K dX10_life_81 fl_X10_98 rfl e38 ?_
        obtain ⟨v39, e40, hf⟩ := sk_ob hf
        refine sk_getI K dX10_life_84 fl_X10_101 rfl e40 ?_
        have hR41 : (v39, d33) = (rr, dd) := Option.some.inj hf
        exact sk_iret K dX10_life_87 rfl rfl (congrArg (fun z => z.1) hR41) rfl (congrArg (fun z => z.2) hR41)
      · rw [if_neg h20] at hf
        refine sk_bipush (-30 : Int32) K dX10_life_42 (by decide) ?_
        refine sk_aload_n K dX10_life_44 rfl 0 rfl ?_
        obtain ⟨v42, e43, hf⟩ := sk_ob hf
        refine sk_getR K dX10_life_45 fl_X10_19 rfl e43 ?_
        obtain ⟨v44, e45, hf⟩ := sk_ob hf
        refine sk_getI K dX10_life_48 fl_X10_84 rfl e45 ?_
        refine sk_isub K dX10_life_51 ?_
        have hR46 : ((-30 : Int32) - v44, d14) = (rr, dd) := Option.some.inj hf
        exact sk_iret K dX10_life_52 rfl rfl (congrArg (fun z => z.1) hR46) rfl (congrArg (fun z => z.2) hR46)
    · rw [if_neg h5] at hf
      refine sk_bipush (-3 : Int32) K dX10_life_12 (by decide) ?_
      have hR47 : ((-3 : Int32), d) = (rr, dd) := Option.some.inj hf
      exact sk_iret K dX10_life_14 rfl rfl (congrArg (fun z => z.1) hR47) rfl (congrArg (fun z => z.2) hR47)
noncomputable def fX10_fault (S : sk_S) (d : sk_D) (p0 : Nat) (p1 : Int32) : Option (Int32) :=
  if p1 = 0 then ((sk_gR S p0 9 1).bind fun v9 => (sk_gI S d v9 5 1).bind fun v11 => some v11) else (if p1 = (1 : Int32) then ((sk_gR S p0 9 1).bind fun v4 => (sk_gI S d v4 5 2).bind fun v6 => some v6) else (some (-1 : Int32)))
set_option maxRecDepth 100000 in
set_option maxHeartbeats 4000000 in
theorem sX10_fault (C : sk_C) (l : Launch) {S : sk_S} {d : sk_D} {p0 : Nat} {p1 : Int32} {rr : Int32} (hf : fX10_fault S d p0 p1 = some rr) : sk_Met C l 0 yX10_fault cX10_fault 2 (some .int) [.ref p0, .int p1] S d (some (.int rr)) S d := by
  refine sk_Met.of (by decide) (Nat.le_of_ble_eq_true rfl) (Nat.le_refl _) (Nat.le_refl _) (fun X K0 hX => ?_)
  have K : sk_Ok X C cX10_fault 2 RX10 "fault" (some .int) 0 l (some (.int rr)) S d := K0
  have R1 : X.2.2.2.2.2.2.2.2.2.2.2.1 ≤ S.1.1 ∧ X.2.2.2.2.2.2.2.2.2.2.2.2 ≤ S.1.2 := by rw [hX]; exact ⟨Nat.le_refl _, Nat.le_refl _⟩
  have R2 : S.1.1 ≤ S.1.1 ∧ S.1.2 ≤ S.1.2 := ⟨Nat.le_refl _, Nat.le_refl _⟩
  show sk_G X C 2 S d 0 [(0, .ref p0), (1, .int p1)] []
  unfold fX10_fault at hf
  refine sk_iload_n K dX10_fault_0 rfl 1 rfl ?_
  refine sk_if_ne 12 K dX10_fault_1 (by decide) (fun h1 => ?_) (fun h1 => ?_)
  · rw [if_neg h1] at hf
    refine sk_iload_n K dX10_fault_12 rfl 1 rfl ?_
    refine sk_iconst (1 : Int32) K dX10_fault_13 (by decide) ?_
    refine sk_icmp_ne 27 K dX10_fault_14 (by decide) (fun h2 => ?_) (fun h2 => ?_)
    · rw [if_neg h2] at hf
      refine sk_iconst (-1 : Int32) K dX10_fault_27 (by decide) ?_
      have hR3 : (-1 : Int32) = rr := Option.some.inj hf
      exact sk_iret K dX10_fault_28 rfl rfl hR3 rfl rfl
    · rw [if_pos h2] at hf
      refine sk_aload_n K dX10_fault_17 rfl 0 rfl ?_
      obtain ⟨v4, e5, hf⟩ := sk_ob hf
      refine sk_getR K dX10_fault_18 fl_X10_19 rfl e5 ?_
      obtain ⟨v6, e7, hf⟩ := sk_ob hf
      refine sk_getI K dX10_fault_21 fl_X10_113 rfl e7 ?_
      refine sk_goto 28 K dX10_fault_24 (by decide) ?_
      have hR8 : v6 = rr := Option.some.inj hf
      exact sk_iret K dX10_fault_28 rfl rfl hR8 rfl rfl
  · rw [if_pos h1] at hf
    refine sk_aload_n K dX10_fault_4 rfl 0 rfl ?_
    obtain ⟨v9, e10, hf⟩ := sk_ob hf
    refine sk_getR K dX10_fault_5 fl_X10_19 rfl e10 ?_
    obtain ⟨v11, e12, hf⟩ := sk_ob hf
    refine sk_getI K dX10_fault_8 fl_X10_84 rfl e12 ?_
    have hR13 : v11 = rr := Option.some.inj hf
    exact sk_iret K dX10_fault_11 rfl rfl hR13 rfl rfl
