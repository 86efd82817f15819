noncomputable def fX10_over (S : sk_S) (d : sk_D) (p0 : Nat) : Option (Int32) :=
  (sk_gR S p0 9 0).bind fun v1 => (sk_gR S v1 8 0).bind fun v3 => (sk_gI S d v3 2 2).bind fun v5 => (sk_gR S p0 9 0).bind fun v7 => (sk_gR S v7 8 0).bind fun v9 => (sk_gR S p0 9 5).bind fun v11 => (sk_gI S d v11 4 1).bind fun v13 => (fX10_shownIn S d v13).bind fun v15 => if S.2.1 v9 = (2, 0) then ((fX2_doorsJoined S d v9 v15).bind fun v17 => some ((((1 : Int32) <<< (v5 &&& 31)) - (1 : Int32)) &&& (v17 ^^^ (-1 : Int32)))) else none
set_option maxRecDepth 100000 in
set_option maxHeartbeats 4000000 in
theorem sX10_over (C : sk_C) (l : Launch) {S : sk_S} {d : sk_D} {p0 : Nat} {rr : Int32} (hf : fX10_over S d p0 = some rr) : sk_Met C l 2 yX10_over cX10_over 2 (some .int) [.ref p0] S d (some (.int rr)) S d := by
  refine sk_Met.of (by decide) (Nat.le_of_ble_eq_true rfl) (Nat.le_refl _) (Nat.le_refl _) (fun X K0 hX => ?_)
  have K : sk_Ok X C cX10_over 2 RX10 "over" (some .int) 2 l (some (.int rr)) S d := K0
  have R1 : X.2.2.2.2.2.2.2.2.2.2.2.1 ≤ S.1.1 ∧ X.2.2.2.2.2.2.2.2.2.2.2.2 ≤ S.1.2 := by rw [hX]; exact ⟨Nat.le_refl _, Nat.le_refl _⟩
  have R2 : S.1.1 ≤ S.1.1 ∧ S.1.2 ≤ S.1.2 := ⟨Nat.le_refl _, Nat.le_refl _⟩
  show sk_G X C 2 S d 0 [(0, .ref p0)] []
  unfold fX10_over at hf
  refine sk_iconst (1 : Int32) K dX10_over_0 (by decide) ?_
  refine sk_aload_n K dX10_over_1 rfl 0 rfl ?_
  obtain ⟨v1, e2, hf⟩ := sk_ob hf
  refine sk_getR K dX10_over_2 fl_X10_10 rfl e2 ?_
  obtain ⟨v3, e4, hf⟩ := sk_ob hf
  refine sk_getR K dX10_over_5 fl_X10_98 rfl e4 ?_
  obtain ⟨v5, e6, hf⟩ := sk_ob hf
  refine sk_getI K dX10_over_8 fl_X10_148 rfl e6 ?_
  refine sk_ishl K dX10_over_11 ?_
  refine sk_iconst (1 : Int32) K dX10_over_12 (by decide) ?_
  refine sk_isub K dX10_over_13 ?_
  refine sk_istore_n [(1, .int (((1 : Int32) <<< (v5 &&& 31)) - (1 : Int32))), (0, .ref p0)] K dX10_over_14 rfl (by decide) rfl ?_
  refine sk_iload_n K dX10_over_15 rfl 0 rfl ?_
  refine sk_aload_n K dX10_over_16 rfl 1 rfl ?_
  obtain ⟨v7, e8, hf⟩ := sk_ob hf
  refine sk_getR K dX10_over_17 fl_X10_10 rfl e8 ?_
  obtain ⟨v9, e10, hf⟩ := sk_ob hf
  refine sk_getR K dX10_over_20 fl_X10_98 rfl e10 ?_
  refine sk_aload_n K dX10_over_23 rfl 1 rfl ?_
  obtain ⟨v11, e12, hf⟩ := sk_ob hf
  refine sk_getR K dX10_over_24 fl_X10_47 rfl e12 ?_
  obtain ⟨v13, e14, hf⟩ := sk_ob hf
  refine sk_getI K dX10_over_27 fl_X10_120 rfl e14 ?_
  obtain ⟨v15, e16, hf⟩ := sk_ob hf
  refine sk_callS (As := [.int v13]) (st := [.ref v9, .int (((1 : Int32) <<< (v5 &&& 31)) - (1 : Int32))]) K dX10_over_30 cl_X10_286 (sX10_shownIn C l e16) (by decide) rfl rfl (Nat.le_of_ble_eq_true rfl) R1 R2 ?_
  obtain ⟨h19, hf⟩ := sk_ib hf
  obtain ⟨v17, e18, hf⟩ := sk_ob hf
  refine sk_callV (As := [.int v15]) (st := [.int (((1 : Int32) <<< (v5 &&& 31)) - (1 : Int32))]) K dX10_over_33 cl_X10_289 h19 (sX2_doorsJoined C l e18) (by decide) rfl rfl (Nat.le_of_ble_eq_true rfl) R1 R2 ?_
  refine sk_iconst (-1 : Int32) K dX10_over_36 (by decide) ?_
  refine sk_ixor K dX10_over_37 ?_
  refine sk_iand K dX10_over_38 ?_
  have hR20 : ((((1 : Int32) <<< (v5 &&& 31)) - (1 : Int32)) &&& (v17 ^^^ (-1 : Int32))) = rr := Option.some.inj hf
  exact sk_iret K dX10_over_39 rfl rfl hR20 rfl rfl
noncomputable def fX10_noPassed_L42 (S : sk_S) (d : sk_D) (p0 : Nat) (v7 : Nat) (s1 : Int32) : Option ((Int32) ⊕ (Int32)) :=
  (sk_gI S d v7 6 2).bind fun v16 => if v16 ≤ s1 then (some (.inr (0 : Int32))) else (if S.2.1 v7 = (6, 0) then ((fX6_at S d v7 s1).bind fun v20 => if v20 < (0 : Int64) then (some (.inr (-3 : Int32))) else ((sk_gR S p0 9 0).bind fun v25 => (sk_gR S v25 8 0).bind fun v27 => (sk_gI S d v27 2 1).bind fun v29 => if (((2 : Int32) * v29).toInt64) ≤ v20 then (some (.inr (-3 : Int32))) else ((sk_gR S p0 9 5).bind fun v33 => (sk_gI S d v33 4 1).bind fun v35 => (fX10_moodOf S d v35 (v20.toInt32 / (2 : Int32))).bind fun v37 => if v37 = (3 : Int32) then (some (.inl (s1 + 1))) else (some (.inr (-3 : Int32)))))) else none)
noncomputable def fX10_noPassed (S : sk_S) (d : sk_D) (p0 : Nat) (p1 : Int32) : Option (Int32) :=
  if S.2.1 p0 = (9, 0) then ((fX10_noTray S d p0 p1).bind fun v1 => if v1 = 0 then ((sk_gR S p0 9 6).bind fun v5 => (sk_lR S v5 24 p1).bind fun v7 => (sk_gI S d v7 6 2).bind fun v9 => if v9 < (1 : Int32) then (some (-4 : Int32)) else ((sk_gI S d v7 6 2).bind fun v13 => if v13 ≤ (12 : Int32) then ((sk_itr (fX10_noPassed_L42 S d p0 v7) (0 : Int32)).bind fun x1 => some x1) else (some (-4 : Int32)))) else (some v1)) else none
set_option maxRecDepth 100000 in
set_option maxHeartbeats 4000000 in
theorem sX10_noPassed (C : sk_C) (l : Launch) {S : sk_S} {d : sk_D} {p0 : Nat} {p1 : Int32} {rr : Int32} (hf : fX10_noPassed S d p0 p1 = some rr) : sk_Met C l 1 yX10_noPassed cX10_noPassed 7 (some .int) [.ref p0, .int p1] S d (some (.int rr)) S d := by
  refine sk_Met.of (by decide) (Nat.le_of_ble_eq_true rfl) (Nat.le_refl _) (Nat.le_refl _) (fun X K0 hX => ?_)
  have K : sk_Ok X C cX10_noPassed 7 RX10 "noPassed" (some .int) 1 l (some (.int rr)) S d := K0
  have R1 : X.2.2.2.2.2.2.2.2.2.2.2.1 ≤ S.1.1 ∧ X.2.2.2.2.2.2.2.2.2.2.2.2 ≤ S.1.2 := by rw [hX]; exact ⟨Nat.le_refl _, Nat.le_refl _⟩
  have R2 : S.1.1 ≤ S.1.1 ∧ S.1.2 ≤ S.1.2 := ⟨Nat.le_refl _, Nat.le_refl _⟩
  show sk_G X C 7 S d 0 [(0, .ref p0), (1, .int p1)] []
  unfold fX10_noPassed at hf
  refine sk_aload_n K dX10_noPassed_0 rfl 0 rfl ?_
  refine sk_iload_n K dX10_noPassed_1 rfl 1 rfl ?_
  obtain ⟨h3, hf⟩ := sk_ib hf
  obtain ⟨v1, e2, hf⟩ := sk_ob hf
  refine sk_callV (As := [.int p1]) (st := []) K dX10_noPassed_2 cl_X10_217 h3 (sX10_noTray C l e2) (by decide) rfl rfl (Nat.le_of_ble_eq_true rfl) R1 R2 ?_
  refine sk_istore_n [(2, .int v1), (0, .ref p0), (1, .int p1)] K dX10_noPassed_5 rfl (by decide) rfl ?_
  refine sk_iload_n K dX10_noPassed_6 rfl 0 rfl ?_
  refine sk_if_eq 12 K dX10_noPassed_7 (by decide) (fun h4 => ?_) (fun h4 => ?_)
  · rw [if_pos h4] at hf
    refine sk_aload_n K dX10_noPassed_12 rfl 1 rfl ?_
    obtain ⟨v5, e6, hf⟩ := sk_ob hf
    refine sk_getR K dX10_noPassed_13 fl_X10_53 rfl e6 ?_
    refine sk_iload_n K dX10_noPassed_16 rfl 2 rfl ?_
    obtain ⟨v7, e8, hf⟩ := sk_ob hf
    refine sk_ald24 K dX10_noPassed_17 e8 ?_
    refine sk_astore_n [(3, .ref v7), (2, .int v1), (0, .ref p0), (1, .int p1)] K dX10_noPassed_18 rfl (by decide) rfl ?_
    refine sk_aload_n K dX10_noPassed_19 rfl 0 rfl ?_
    obtain ⟨v9, e10, hf⟩ := sk_ob hf
    refine sk_getI K dX10_noPassed_20 fl_X10_212 rfl e10 ?_
    refine sk_iconst (1 : Int32) K dX10_noPassed_23 (by decide) ?_
    refine sk_icmp_lt 36 K dX10_noPassed_24 (by decide) (fun h11 => ?_) (fun h11 => ?_)
    · rw [if_pos h11] at hf
      refine sk_bipush (-4 : Int32) K dX10_noPassed_36 (by decide) ?_
      have hR12 : (-4 : Int32) = rr := Option.some.inj hf
      exact sk_iret K dX10_noPassed_38 rfl rfl hR12 rfl rfl
    · rw [if_neg h11] at hf
      refine sk_aload_n K dX10_noPassed_27 rfl 0 rfl ?_
      obtain ⟨v13, e14, hf⟩ := sk_ob hf
      refine sk_getI K dX10_noPassed_28 fl_X10_212 rfl e14 ?_
      refine sk_bipush (12 : Int32) K dX10_noPassed_31 (by decide) ?_
      refine sk_icmp_le 39 K dX10_noPassed_33 (by decide) (fun h15 => ?_) (fun h15 => ?_)
      · rw [if_pos h15] at hf
        refine sk_iconst (0 : Int32) K dX10_noPassed_39 (by decide) ?_
        refine sk_istore [(4, .int (0 : Int32)), (3, .ref v7), (2, .int v1), (0, .ref p0), (1, .int p1)] K dX10_noPassed_40 (by decide) rfl ?_
        obtain ⟨x1, he1, hf⟩ := sk_ob hf
        have hret1 : ∀ r, r = x1 → r = rr := by
          intro r hr
          subst hr
          exact Option.some.inj hf
        refine sk_sub [(0, .ref p0), (3, .ref v7), (4, .int (0 : Int32))] [3, 1, 0] rfl ?_
        refine sk_loop (fun s1 => sk_G X C 7 S d 42 [(0, .ref p0), (3, .ref v7), (4, .int s1)] []) he1 (fun s1 o1 hf ih1 hx1 => ?_)
        unfold fX10_noPassed_L42 at hf
        refine sk_iload K dX10_noPassed_42 2 rfl ?_
        refine sk_aload_n K dX10_noPassed_44 rfl 1 rfl ?_
        obtain ⟨v16, e17, hf⟩ := sk_ob hf
        refine sk_getI K dX10_noPassed_45 fl_X10_212 rfl e17 ?_
        refine sk_icmp_ge 113 K dX10_noPassed_48 (by decide) (fun h18 => ?_) (fun h18 => ?_)
        · rw [if_pos h18] at hf
          refine sk_iconst (0 : Int32) K dX10_noPassed_113 (by decide) ?_
          have hR19 : (0 : Int32) = rr := hret1 _ (hx1 _ (Option.some.inj hf).symm)
          exact sk_iret K dX10_noPassed_114 rfl rfl hR19 rfl rfl
        · rw [if_neg h18] at hf
          refine sk_aload_n K dX10_noPassed_51 rfl 1 rfl ?_
          refine sk_iload K dX10_noPassed_52 2 rfl ?_
          obtain ⟨h22, hf⟩ := sk_ib hf
          obtain ⟨v20, e21, hf⟩ := sk_ob hf
          refine sk_callV (As := [.int s1]) (st := []) K dX10_noPassed_54 cl_X10_213 h22 (sX6_at C l e21) (by decide) rfl rfl (Nat.le_of_ble_eq_true rfl) R1 R2 ?_
          refine sk_lstore [(5, .long v20), (0, .ref p0), (3, .ref v7), (4, .int s1)] K dX10_noPassed_57 (by decide) rfl ?_
          refine sk_lload K dX10_noPassed_59 0 rfl ?_
          refine sk_lconst (0 : Int64) K dX10_noPassed_61 (by decide) ?_
          refine sk_lcmp_lt 104 K dX10_noPassed_62 dX10_noPassed_63 (by decide) (fun h23 => ?_) (fun h23 => ?_)
          · rw [if_pos h23] at hf
            refine sk_bipush (-3 : Int32) K dX10_noPassed_104 (by decide) ?_
            have hR24 : (-3 : Int32) = rr := hret1 _ (hx1 _ (Option.some.inj hf).symm)
            exact sk_iret K dX10_noPassed_106 rfl rfl hR24 rfl rfl
          · rw [if_neg h23] at hf
            refine sk_lload K dX10_noPassed_66 0 rfl ?_
            refine sk_iconst (2 : Int32) K dX10_noPassed_68 (by decide) ?_
            refine sk_aload_n K dX10_noPassed_69 rfl 1 rfl ?_
            obtain ⟨v25, e26, hf⟩ := sk_ob hf
            refine sk_getR K dX10_noPassed_70 fl_X10_10 rfl e26 ?_
            obtain ⟨v27, e28, hf⟩ := sk_ob hf
            refine sk_getR K dX10_noPassed_73 fl_X10_98 rfl e28 ?_
            obtain ⟨v29, e30, hf⟩ := sk_ob hf
            refine sk_getI K dX10_noPassed_76 fl_X10_164 rfl e30 ?_
            refine sk_imul K dX10_noPassed_79 ?_
            refine sk_i2l K dX10_noPassed_80 ?_
            refine sk_lcmp_ge 104 K dX10_noPassed_81 dX10_noPassed_82 (by decide) (fun h31 => ?_) (fun h31 => ?_)
            · rw [if_pos h31] at hf
              refine sk_bipush (-3 : Int32) K dX10_noPassed_104 (by decide) ?_
              have hR32 : (-3 : Int32) = rr := hret1 _ (hx1 _ (Option.some.inj hf).symm)
              exact sk_iret K dX10_noPassed_106 rfl rfl hR32 rfl rfl
            · rw [if_neg h31] at hf
              refine sk_aload_n K dX10_noPassed_85 rfl 1 rfl ?_
              obtain ⟨v33, e34, hf⟩ := sk_ob hf
              refine sk_getR K dX10_noPassed_86 fl_X10_47 rfl e34 ?_
              obtain ⟨v35, e36, hf⟩ := sk_ob hf
              refine sk_getI K dX10_noPassed_89 fl_X10_120 rfl e36 ?_
              refine sk_lload K dX10_noPassed_92 0 rfl ?_
              refine sk_l2i K dX10_noPassed_94 ?_
              refine sk_iconst (2 : Int32) K dX10_noPassed_95 (by decide) ?_
              refine sk_idiv K dX10_noPassed_96 (by decide) ?_
              obtain ⟨v37, e38, hf⟩ := sk_ob hf
              refine sk_callS (As := [.int v35, .int (v20.toInt32 / (2 : Int32))]) (st := []) K dX10_noPassed_97 cl_X10_123 (sX10_moodOf C l e38) (by decide) rfl rfl (Nat.le_of_ble_eq_true rfl) R1 R2 ?_
              refine sk_iconst (3 : Int32) K dX10_noPassed_100 (by decide) ?_
              refine sk_icmp_eq 107 K dX10_noPassed_101 (by decide) (fun h39 => ?_) (fun h39 => ?_)
              · rw [if_pos h39] at hf
                refine sk_iinc (s1 + 1) [(4, .int (s1 + 1)), (5, .long v20), (0, .ref p0), (3, .ref v7)] K dX10_noPassed_107 3 rfl rfl (by decide) rfl ?_
                refine sk_goto 42 K dX10_noPassed_110 (by decide) ?_
                refine sk_sub [(0, .ref p0), (3, .ref v7), (4, .int (s1 + 1))] [2, 3, 0] rfl ?_
                have h9 := ih1 _ (Option.some.inj hf).symm
                exact h9
              · rw [if_neg h39] at hf
                refine sk_bipush (-3 : Int32) K dX10_noPassed_104 (by decide) ?_
                have hR40 : (-3 : Int32) = rr := hret1 _ (hx1 _ (Option.some.inj hf).symm)
                exact sk_iret K dX10_noPassed_106 rfl rfl hR40 rfl rfl
      · rw [if_neg h15] at hf
        refine sk_bipush (-4 : Int32) K dX10_noPassed_36 (by decide) ?_
        have hR41 : (-4 : Int32) = rr := Option.some.inj hf
        exact sk_iret K dX10_noPassed_38 rfl rfl hR41 rfl rfl
  · rw [if_neg h4] at hf
    refine sk_iload_n K dX10_noPassed_10 rfl 0 rfl ?_
    have hR42 : v1 = rr := Option.some.inj hf
    exact sk_iret K dX10_noPassed_11 rfl rfl hR42 rfl rfl
noncomputable def fX10_slipsBy_L6 (S : sk_S) (p0 : Nat) (p1 : Nat) (s1 : Int32 × Int32 × sk_D) : Option ((Int32 × Int32 × sk_D) ⊕ (Int32 × sk_D)) :=
  (sk_gI S s1.2.2 p1 6 2).bind fun v1 => if v1 ≤ s1.2.1 then (some (.inr (s1.1, s1.2.2))) else (if S.2.1 p1 = (6, 0) then ((fX6_at S s1.2.2 p1 s1.2.1).bind fun v5 => (sk_gR S p0 9 0).bind fun v8 => (sk_gR S p0 9 5).bind fun v10 => (sk_gI S s1.2.2 v10 4 1).bind fun v12 => (fX10_liningIn S s1.2.2 v12).bind fun v14 => if S.2.1 v8 = (8, 0) then ((fX9_slipsPassing S s1.2.2 v8 (v5.toInt32 / (2 : Int32)) v14).bind fun b20 => if (v5.toInt32 - v5.toInt32 / (2 : Int32) * (2 : Int32)) = (1 : Int32) then (some (.inl (s1.1 &&& b20.1, s1.2.1 + 1, b20.2))) else (some (.inl (s1.1 &&& (b20.1 ^^^ (-1 : Int32)), s1.2.1 + 1, b20.2)))) else none) else none)
noncomputable def fX10_slipsBy (S : sk_S) (d : sk_D) (p0 : Nat) (p1 : Nat) : Option (Int32 × sk_D) :=
  (sk_itr (fX10_slipsBy_L6 S p0 p1) ((1023 : Int32), (0 : Int32), d)).bind fun x1 => some x1
set_option maxRecDepth 100000 in
set_option maxHeartbeats 4000000 in
theorem sX10_slipsBy (C : sk_C) (l : Launch) {S : sk_S} {d : sk_D} {p0 : Nat} {p1 : Nat} {rr : Int32} {dd : sk_D} (hf : fX10_slipsBy S d p0 p1 = some (rr, dd)) : sk_Met C l 4 yX10_slipsBy cX10_slipsBy 6 (some .int) [.ref p0, .ref p1] S d (some (.int rr)) S dd := by
  refine sk_Met.of (by decide) (Nat.le_of_ble_eq_true rfl) (Nat.le_refl _) (Nat.le_refl _) (fun X K0 hX => ?_)
  have K : sk_Ok X C cX10_slipsBy 6 RX10 "slipsBy" (some .int) 4 l (some (.int rr)) S dd := K0
  have R1 : X.2.2.2.2.2.2.2.2.2.2.2.1 ≤ S.1.1 ∧ X.2.2.2.2.2.2.2.2.2.2.2.2 ≤ S.1.2 := by rw [hX]; exact ⟨Nat.le_refl _, Nat.le_refl _⟩
  have R2 : S.1.1 ≤ S.1.1 ∧ S.1.2 ≤ S.1.2 := ⟨Nat.le_refl _, Nat.le_refl _⟩
  show sk_G X C 6 S d 0 [(0, .ref p0), (1, .ref p1)] []
  unfold fX10_slipsBy at hf
  refine sk_sipush (1023 : Int32) K dX10_slipsBy_0 (by decide) ?_
  refine sk_istore_n [(2, .int (1023 : Int32)), (0, .ref p0), (1, .ref p1)] K dX10_slipsBy_3 rfl (by decide) rfl ?_
  refine sk_iconst (0 : Int32) K dX10_slipsBy_4 (by decide) ?_
  refine sk_istore_n [(3, .int (0 : Int32)), (2, .int (1023 : Int32)), (0, .ref p0), (1, .ref p1)] K dX10_slipsBy_5 rfl (by decide) rfl ?_
  obtain ⟨x1, he1, hf⟩ := sk_ob hf
  have hret1 : ∀ r, r = x1 → r = (rr, dd) := by
    intro r hr
    subst hr
    exact Option.some.inj hf
  refine sk_sub [(0, .ref p0), (1, .ref p1), (2, .int (1023 : Int32)), (3, .int (0 : Int32))] [2, 3, 1, 0] rfl ?_
  refine sk_loop (fun s1 => sk_G X C 6 S s1.2.2 6 [(0, .ref p0), (1, .ref p1), (2, .int s1.1), (3, .int s1.2.1)] []) he1 (fun s1 o1 hf ih1 hx1 => ?_)
  unfold fX10_slipsBy_L6 at hf
  refine sk_iload_n K dX10_slipsBy_6 rfl 3 rfl ?_
  refine sk_aload_n K dX10_slipsBy_7 rfl 1 rfl ?_
  obtain ⟨v1, e2, hf⟩ := sk_ob hf
  refine sk_getI K dX10_slipsBy_8 fl_X10_212 rfl e2 ?_
  refine sk_icmp_ge 71 K dX10_slipsBy_11 (by decide) (fun h3 => ?_) (fun h3 => ?_)
  · rw [if_pos h3] at hf
    refine sk_iload_n K dX10_slipsBy_71 rfl 2 rfl ?_
    have hR4 : (s1.1, s1.2.2) = (rr, dd) := hret1 _ (hx1 _ (Option.some.inj hf).symm)
    exact sk_iret K dX10_slipsBy_72 rfl rfl (congrArg (fun z => z.1) hR4) rfl (congrArg (fun z => z.2) hR4)
  · rw [if_neg h3] at hf
    refine sk_aload_n K dX10_slipsBy_14 rfl 1 rfl ?_
    refine sk_iload_n K dX10_slipsBy_15 rfl 3 rfl ?_
    obtain ⟨h7, hf⟩ := sk_ib hf
    obtain ⟨v5, e6, hf⟩ := sk_ob hf
    refine sk_callV (As := [.int s1.2.1]) (st := []) K dX10_slipsBy_16 cl_X10_213 h7 (sX6_at C l e6) (by decide) rfl rfl (Nat.le_of_ble_eq_true rfl) R1 R2 ?_
    refine sk_l2i K dX10_slipsBy_19 ?_
    refine sk_istore [(4, .int v5.toInt32), (0, .ref p0), (1, .ref p1), (2, .int s1.1), (3, .int s1.2.1)] K dX10_slipsBy_20 (by decide) rfl ?_
    refine sk_aload_n K dX10_slipsBy_22 rfl 1 rfl ?_
    obtain ⟨v8, e9, hf⟩ := sk_ob hf
    refine sk_getR K dX10_slipsBy_23 fl_X10_10 rfl e9 ?_
    refine sk_iload K dX10_slipsBy_26 0 rfl ?_
    refine sk_iconst (2 : Int32) K dX10_slipsBy_28 (by decide) ?_
    refine sk_idiv K dX10_slipsBy_29 (by decide) ?_
    refine sk_aload_n K dX10_slipsBy_30 rfl 1 rfl ?_
    obtain ⟨v10, e11, hf⟩ := sk_ob hf
    refine sk_getR K dX10_slipsBy_31 fl_X10_47 rfl e11 ?_
    obtain ⟨v12, e13, hf⟩ := sk_ob hf
    refine sk_getI K dX10_slipsBy_34 fl_X10_120 rfl e13 ?_
    obtain ⟨v14, e15, hf⟩ := sk_ob hf
    refine sk_callS (As := [.int v12]) (st := [.int (v5.toInt32 / (2 : Int32)), .ref v8]) K dX10_slipsBy_37 cl_X10_170 (sX10_liningIn C l e15) (by decide) rfl rfl (Nat.le_of_ble_eq_true rfl) R1 R2 ?_
    obtain ⟨h19, hf⟩ := sk_ib hf
    obtain ⟨⟨v16, d18⟩, e17, hf⟩ := sk_ob hf
    try dsimp only at hf
    refine sk_callV (As := [.int (v5.toInt32 / (2 : Int32)), .int v14]) (st := []) K dX10_slipsBy_40 cl_X10_302 h19 (sX9_slipsPassing C l e17) (by decide) rfl rfl (Nat.le_of_ble_eq_true rfl) R1 R2 ?_
    refine sk_istore [(5, .int v16), (4, .int v5.toInt32), (0, .ref p0), (1, .ref p1), (2, .int s1.1), (3, .int s1.2.1)] K dX10_slipsBy_43 (by decide) rfl ?_
    refine sk_iload_n K dX10_slipsBy_45 rfl 4 rfl ?_
    refine sk_iload K dX10_slipsBy_46 1 rfl ?_
    refine sk_iconst (2 : Int32) K dX10_slipsBy_48 (by decide) ?_
    refine sk_irem K dX10_slipsBy_49 (by decide) ?_
    refine sk_iconst (1 : Int32) K dX10_slipsBy_50 (by decide) ?_
    refine sk_icmp_ne 59 K dX10_slipsBy_51 (by decide) (fun h21 => ?_) (fun h21 => ?_)
    · rw [if_neg h21] at hf
      refine sk_iload K dX10_slipsBy_59 0 rfl ?_
      refine sk_iconst (-1 : Int32) K dX10_slipsBy_61 (by decide) ?_
      refine sk_ixor K dX10_slipsBy_62 ?_
      refine sk_iand K dX10_slipsBy_63 ?_
      refine sk_istore_n [(2, .int (s1.1 &&& (v16 ^^^ (-1 : Int32)))), (5, .int v16), (4, .int v5.toInt32), (0, .ref p0), (1, .ref p1), (3, .int s1.2.1)] K dX10_slipsBy_64 rfl (by decide) rfl ?_
      refine sk_iinc (s1.2.1 + 1) [(3, .int (s1.2.1 + 1)), (2, .int (s1.1 &&& (v16 ^^^ (-1 : Int32)))), (5, .int v16), (4, .int v5.toInt32), (0, .ref p0), (1, .ref p1)] K dX10_slipsBy_65 5 rfl rfl (by decide) rfl ?_
      refine sk_goto 6 K dX10_slipsBy_68 (by decide) ?_
      refine sk_sub [(0, .ref p0), (1, .ref p1), (2, .int (s1.1 &&& (v16 ^^^ (-1 : Int32)))), (3, .int (s1.2.1 + 1))] [4, 5, 1, 0] rfl ?_
      have h9 := ih1 _ (Option.some.inj hf).symm
      exact h9
    · rw [if_pos h21] at hf
      refine sk_iload K dX10_slipsBy_54 0 rfl ?_
      refine sk_goto 63 K dX10_slipsBy_56 (by decide) ?_
      refine sk_iand K dX10_slipsBy_63 ?_
      refine sk_istore_n [(2, .int (s1.1 &&& v16)), (5, .int v16), (4, .int v5.toInt32), (0, .ref p0), (1, .ref p1), (3, .int s1.2.1)] K dX10_slipsBy_64 rfl (by decide) rfl ?_
      refine sk_iinc (s1.2.1 + 1) [(3, .int (s1.2.1 + 1)), (2, .int (s1.1 &&& v16)), (5, .int v16), (4, .int v5.toInt32), (0, .ref p0), (1, .ref p1)] K dX10_slipsBy_65 5 rfl rfl (by decide) rfl ?_
      refine sk_goto 6 K dX10_slipsBy_68 (by decide) ?_
      refine sk_sub [(0, .ref p0), (1, .ref p1), (2, .int (s1.1 &&& v16)), (3, .int (s1.2.1 + 1))] [4, 5, 1, 0] rfl ?_
      have h9 := ih1 _ (Option.some.inj hf).symm
      exact h9
noncomputable def fX10_slips (S : sk_S) (d : sk_D) (p0 : Nat) (p1 : Int32) : Option (Int32 × sk_D) :=
  if S.2.1 p0 = (9, 0) then ((fX10_noPassed S d p0 p1).bind fun v1 => if v1 = 0 then ((sk_gR S p0 9 6).bind fun v5 => (sk_lR S v5 24 p1).bind fun v7 => if S.2.1 p0 = (9, 0) then ((fX10_slipsBy S d p0 v7).bind fun b13 => some (b13.1, b13.2)) else none) else (some (v1, d))) else none
set_option maxRecDepth 100000 in
set_option maxHeartbeats 4000000 in
theorem sX10_slips (C : sk_C) (l : Launch) {S : sk_S} {d : sk_D} {p0 : Nat} {p1 : Int32} {rr : Int32} {dd : sk_D} (hf : fX10_slips S d p0 p1 = some (rr, dd)) : sk_Met C l 5 yX10_slips cX10_slips 3 (some .int) [.ref p0, .int p1] S d (some (.int rr)) S dd := by
  refine sk_Met.of (by decide) (Nat.le_of_ble_eq_true rfl) (Nat.le_refl _) (Nat.le_refl _) (fun X K0 hX => ?_)
  have K : sk_Ok X C cX10_slips 3 RX10 "slips" (some .int) 5 l (some (.int rr)) S dd := K0
  have R1 : X.2.2.2.2.2.2.2.2.2.2.2.1 ≤ S.1.1 ∧ X.2.2.2.2.2.2.2.2.2.2.2.2 ≤ S.1.2 := by rw [hX]; exact ⟨Nat.le_refl _, Nat.le_refl _⟩
  have R2 : S.1.1 ≤ S.1.1 ∧ S.1.2 ≤ S.1.2 := ⟨Nat.le_refl _, Nat.le_refl _⟩
  show sk_G X C 3 S d 0 [(0, .ref p0), (1, .int p1)] []
  unfold fX10_slips at hf
  refine sk_aload_n K dX10_slips_0 rfl 0 rfl ?_
  refine sk_iload_n K dX10_slips_1 rfl 1 rfl ?_
  obtain ⟨h3, hf⟩ := sk_ib hf
  obtain ⟨v1, e2, hf⟩ := sk_ob hf
  refine sk_callV (As := [.int p1]) (st := []) K dX10_slips_2 cl_X10_295 h3 (sX10_noPassed C l e2) (by decide) rfl rfl (Nat.le_of_ble_eq_true rfl) R1 R2 ?_
  refine sk_istore_n [(2, .int v1), (0, .ref p0), (1, .int p1)] K dX10_slips_5 rfl (by decide) rfl ?_
  refine sk_iload_n K dX10_slips_6 rfl 0 rfl ?_
  refine sk_if_eq 14 K dX10_slips_7 (by decide) (fun h4 => ?_) (fun h4 => ?_)
  · rw [if_pos h4] at hf
    refine sk_aload_n K dX10_slips_14 rfl 1 rfl ?_
    refine sk_aload_n K dX10_slips_15 rfl 1 rfl ?_
    obtain ⟨v5, e6, hf⟩ := sk_ob hf
    refine sk_getR K dX10_slips_16 fl_X10_53 rfl e6 ?_
    refine sk_iload_n K dX10_slips_19 rfl 2 rfl ?_
    obtain ⟨v7, e8, hf⟩ := sk_ob hf
    refine sk_ald24 K dX10_slips_20 e8 ?_
    obtain ⟨h12, hf⟩ := sk_ib hf
    obtain ⟨⟨v9, d11⟩, e10, hf⟩ := sk_ob hf
    try dsimp only at hf
    refine sk_callV (As := [.ref v7]) (st := []) K dX10_slips_21 cl_X10_298 h12 (sX10_slipsBy C l e10) (by decide) rfl rfl (Nat.le_of_ble_eq_true rfl) R1 R2 ?_
    have hR14 : (v9, d11) = (rr, dd) := Option.some.inj hf
    exact sk_iret K dX10_slips_24 rfl rfl (congrArg (fun z => z.1) hR14) rfl (congrArg (fun z => z.2) hR14)
  · rw [if_neg h4] at hf
    refine sk_iload_n K dX10_slips_10 rfl 0 rfl ?_
    refine sk_goto 24 K dX10_slips_11 (by decide) ?_
    have hR15 : (v1, d) = (rr, dd) := Option.some.inj hf
    exact sk_iret K dX10_slips_24 rfl rfl (congrArg (fun z => z.1) hR15) rfl (congrArg (fun z => z.2) hR15)
noncomputable def fX10_attempt_L32 (S : sk_S) (p0 : Nat) (v9 : Int32) (s1 : Int32 × Int32 × Int32 × sk_D) : Option ((Int32 × Int32 × Int32 × sk_D) ⊕ (Int32 × sk_D)) :=
  (sk_gR S p0 9 0).bind fun v14 => (sk_gR S v14 8 0).bind fun v16 => (sk_gI S s1.2.2.2 v16 2 1).bind fun v18 => if v18 ≤ s1.2.2.1 then (some (.inr (s1.1, s1.2.2.2))) else (if v9 = 0 then (some (.inr (s1.1, s1.2.2.2))) else ((sk_gR S p0 9 5).bind fun v24 => (sk_gI S s1.2.2.2 v24 4 1).bind fun v26 => (fX10_moodOf S s1.2.2.2 v26 s1.2.2.1).bind fun v28 => if v28 = (3 : Int32) then ((sk_gR S p0 9 0).bind fun v31 => (sk_gR S p0 9 5).bind fun v33 => (sk_gI S s1.2.2.2 v33 4 1).bind fun v35 => (fX10_liningIn S s1.2.2.2 v35).bind fun v37 => if S.2.1 v31 = (8, 0) then ((fX9_slipsPassing S s1.2.2.2 v31 s1.2.2.1 v37).bind fun b43 => (fJ6_bitCount_0f7a4 S b43.2 (v9 &&& b43.1)).bind fun v44 => (fJ6_bitCount_0f7a4 S b43.2 (v9 &&& ((v9 &&& b43.1) ^^^ (-1 : Int32)))).bind fun v46 => if (if v46 < v44 then v46 else v44) ≤ s1.2.1 then (some (.inl (s1.1, s1.2.1, s1.2.2.1 + 1, b43.2))) else (some (.inl (s1.2.2.1, (if v46 < v44 then v46 else v44), s1.2.2.1 + 1, b43.2)))) else none) else (some (.inl (s1.1, s1.2.1, s1.2.2.1 + 1, s1.2.2.2)))))
noncomputable def fX10_attempt (S : sk_S) (d : sk_D) (p0 : Nat) (p1 : Int32) : Option (Int32 × sk_D) :=
  if S.2.1 p0 = (9, 0) then ((fX10_noPassed S d p0 p1).bind fun v1 => if v1 = 0 then ((sk_gR S p0 9 6).bind fun v5 => (sk_lR S v5 24 p1).bind fun v7 => if S.2.1 p0 = (9, 0) then ((fX10_slipsBy S d p0 v7).bind fun b13 => (sk_itr (fX10_attempt_L32 S p0 b13.1) ((-1 : Int32), (-1 : Int32), (0 : Int32), b13.2)).bind fun x1 => some x1) else none) else (some (v1, d))) else none
set_option maxRecDepth 100000 in
set_option maxHeartbeats 4000000 in
theorem sX10_attempt (C : sk_C) (l : Launch) {S : sk_S} {d : sk_D} {p0 : Nat} {p1 : Int32} {rr : Int32} {dd : sk_D} (hf : fX10_attempt S d p0 p1 = some (rr, dd)) : sk_Met C l 5 yX10_attempt cX10_attempt 9 (some .int) [.ref p0, .int p1] S d (some (.int rr)) S dd := by
  refine sk_Met.of (by decide) (Nat.le_of_ble_eq_true rfl) (Nat.le_refl _) (Nat.le_refl _) (fun X K0 hX => ?_)
  have K : sk_Ok X C cX10_attempt 9 RX10 "attempt" (some .int) 5 l (some (.int rr)) S dd := K0
  have R1 : X.2.2.2.2.2.2.2.2.2.2.2.1 ≤ S.1.1 ∧ X.2.2.2.2.2.2.2.2.2.2.2.2 ≤ S.1.2 := by rw [hX]; exact ⟨Nat.le_refl _, Nat.le_refl _⟩
  have R2 : S.1.1 ≤ S.1.1 ∧ S.1.2 ≤ S.1.2 := ⟨Nat.le_refl _, Nat.le_refl _⟩
  show sk_G X C 9 S d 0 [(0, .ref p0), (1, .int p1)] []
  unfold fX10_attempt at hf
  refine sk_aload_n K dX10_attempt_0 rfl 0 rfl ?_
  refine sk_iload_n K dX10_attempt_1 rfl 1 rfl ?_
  obtain ⟨h3, hf⟩ := sk_ib hf
  obtain ⟨v1, e2, hf⟩ := sk_ob hf
  refine sk_callV (As := [.int p1]) (st := []) K dX10_attempt_2 cl_X10_295 h3 (sX10_noPassed C l e2) (by decide) rfl rfl (Nat.le_of_ble_eq_true rfl) R1 R2 ?_
  refine sk_istore_n [(2, .int v1), (0, .ref p0), (1, .int p1)] K dX10_attempt_5 rfl (by decide) rfl ?_
  refine sk_iload_n K dX10_attempt_6 rfl 0 rfl ?_
  refine sk_if_eq 12 K dX10_attempt_7 (by decide) (fun h4 => ?_) (fun h4 => ?_)
  · rw [if_pos h4] at hf
    refine sk_aload_n K dX10_attempt_12 rfl 1 rfl ?_
    refine sk_aload_n K dX10_attempt_13 rfl 1 rfl ?_
    obtain ⟨v5, e6, hf⟩ := sk_ob hf
    refine sk_getR K dX10_attempt_14 fl_X10_53 rfl e6 ?_
    refine sk_iload_n K dX10_attempt_17 rfl 2 rfl ?_
    obtain ⟨v7, e8, hf⟩ := sk_ob hf
    refine sk_ald24 K dX10_attempt_18 e8 ?_
    obtain ⟨h12, hf⟩ := sk_ib hf
    obtain ⟨⟨v9, d11⟩, e10, hf⟩ := sk_ob hf
    try dsimp only at hf
    refine sk_callV (As := [.ref v7]) (st := []) K dX10_attempt_19 cl_X10_298 h12 (sX10_slipsBy C l e10) (by decide) rfl rfl (Nat.le_of_ble_eq_true rfl) R1 R2 ?_
    refine sk_istore_n [(3, .int v9), (2, .int v1), (0, .ref p0), (1, .int p1)] K dX10_attempt_22 rfl (by decide) rfl ?_
    refine sk_iconst (-1 : Int32) K dX10_attempt_23 (by decide) ?_
    refine sk_istore [(4, .int (-1 : Int32)), (3, .int v9), (2, .int v1), (0, .ref p0), (1, .int p1)] K dX10_attempt_24 (by decide) rfl ?_
    refine sk_iconst (-1 : Int32) K dX10_attempt_26 (by decide) ?_
    refine sk_istore [(5, .int (-1 : Int32)), (4, .int (-1 : Int32)), (3, .int v9), (2, .int v1), (0, .ref p0), (1, .int p1)] K dX10_attempt_27 (by decide) rfl ?_
    refine sk_iconst (0 : Int32) K dX10_attempt_29 (by decide) ?_
    refine sk_istore [(6, .int (0 : Int32)), (5, .int (-1 : Int32)), (4, .int (-1 : Int32)), (3, .int v9), (2, .int v1), (0, .ref p0), (1, .int p1)] K dX10_attempt_30 (by decide) rfl ?_
    obtain ⟨x1, he1, hf⟩ := sk_ob hf
    have hret1 : ∀ r, r = x1 → r = (rr, dd) := by
      intro r hr
      subst hr
      exact Option.some.inj hf
    refine sk_sub [(0, .ref p0), (3, .int v9), (4, .int (-1 : Int32)), (5, .int (-1 : Int32)), (6, .int (0 : Int32))] [5, 3, 2, 1, 0] rfl ?_
    refine sk_loop (fun s1 => sk_G X C 9 S s1.2.2.2 32 [(0, .ref p0), (3, .int v9), (4, .int s1.1), (5, .int s1.2.1), (6, .int s1.2.2.1)] []) he1 (fun s1 o1 hf ih1 hx1 => ?_)
    unfold fX10_attempt_L32 at hf
    refine sk_iload K dX10_attempt_32 4 rfl ?_
    refine sk_aload_n K dX10_attempt_34 rfl 0 rfl ?_
    obtain ⟨v14, e15, hf⟩ := sk_ob hf
    refine sk_getR K dX10_attempt_35 fl_X10_10 rfl e15 ?_
    obtain ⟨v16, e17, hf⟩ := sk_ob hf
    refine sk_getR K dX10_attempt_38 fl_X10_98 rfl e17 ?_
    obtain ⟨v18, e19, hf⟩ := sk_ob hf
    refine sk_getI K dX10_attempt_41 fl_X10_164 rfl e19 ?_
    refine sk_icmp_ge 130 K dX10_attempt_44 (by decide) (fun h20 => ?_) (fun h20 => ?_)
    · rw [if_pos h20] at hf
      refine sk_iload K dX10_attempt_130 2 rfl ?_
      have hR21 : (s1.1, s1.2.2.2) = (rr, dd) := hret1 _ (hx1 _ (Option.some.inj hf).symm)
      exact sk_iret K dX10_attempt_132 rfl rfl (congrArg (fun z => z.1) hR21) rfl (congrArg (fun z => z.2) hR21)
    · rw [if_neg h20] at hf
      refine sk_iload_n K dX10_attempt_47 rfl 1 rfl ?_
      refine sk_if_eq 130 K dX10_attempt_48 (by decide) (fun h22 => ?_) (fun h22 => ?_)
      · rw [if_pos h22] at hf
        refine sk_iload K dX10_attempt_130 2 rfl ?_
        have hR23 : (s1.1, s1.2.2.2) = (rr, dd) := hret1 _ (hx1 _ (Option.some.inj hf).symm)
        exact sk_iret K dX10_attempt_132 rfl rfl (congrArg (fun z => z.1) hR23) rfl (congrArg (fun z => z.2) hR23)
      · rw [if_neg h22] at hf
        refine sk_aload_n K dX10_attempt_51 rfl 0 rfl ?_
        obtain ⟨v24, e25, hf⟩ := sk_ob hf
        refine sk_getR K dX10_attempt_52 fl_X10_47 rfl e25 ?_
        obtain ⟨v26, e27, hf⟩ := sk_ob hf
        refine sk_getI K dX10_attempt_55 fl_X10_120 rfl e27 ?_
        refine sk_iload K dX10_attempt_58 4 rfl ?_
        obtain ⟨v28, e29, hf⟩ := sk_ob hf
        refine sk_callS (As := [.int v26, .int s1.2.2.1]) (st := []) K dX10_attempt_60 cl_X10_123 (sX10_moodOf C l e29) (by decide) rfl rfl (Nat.le_of_ble_eq_true rfl) R1 R2 ?_
        refine sk_iconst (3 : Int32) K dX10_attempt_63 (by decide) ?_
        refine sk_icmp_ne 124 K dX10_attempt_64 (by decide) (fun h30 => ?_) (fun h30 => ?_)
        · rw [if_neg h30] at hf
          refine sk_iinc (s1.2.2.1 + 1) [(6, .int (s1.2.2.1 + 1)), (0, .ref p0), (3, .int v9), (4, .int s1.1), (5, .int s1.2.1)] K dX10_attempt_124 4 rfl rfl (by decide) rfl ?_
          refine sk_goto 32 K dX10_attempt_127 (by decide) ?_
          refine sk_sub [(0, .ref p0), (3, .int v9), (4, .int s1.1), (5, .int s1.2.1), (6, .int (s1.2.2.1 + 1))] [1, 2, 3, 4, 0] rfl ?_
          have h9 := ih1 _ (Option.some.inj hf).symm
          exact h9
        · rw [if_pos h30] at hf
          refine sk_iload_n K dX10_attempt_67 rfl 1 rfl ?_
          refine sk_aload_n K dX10_attempt_68 rfl 0 rfl ?_
          obtain ⟨v31, e32, hf⟩ := sk_ob hf
          refine sk_getR K dX10_attempt_69 fl_X10_10 rfl e32 ?_
          refine sk_iload K dX10_attempt_72 4 rfl ?_
          refine sk_aload_n K dX10_attempt_74 rfl 0 rfl ?_
          obtain ⟨v33, e34, hf⟩ := sk_ob hf
          refine sk_getR K dX10_attempt_75 fl_X10_47 rfl e34 ?_
          obtain ⟨v35, e36, hf⟩ := sk_ob hf
          refine sk_getI K dX10_attempt_78 fl_X10_120 rfl e36 ?_
          obtain ⟨v37, e38, hf⟩ := sk_ob hf
          refine sk_callS (As := [.int v35]) (st := [.int s1.2.2.1, .ref v31, .int v9]) K dX10_attempt_81 cl_X10_170 (sX10_liningIn C l e38) (by decide) rfl rfl (Nat.le_of_ble_eq_true rfl) R1 R2 ?_
          obtain ⟨h42, hf⟩ := sk_ib hf
          obtain ⟨⟨v39, d41⟩, e40, hf⟩ := sk_ob hf
          try dsimp only at hf
          refine sk_callV (As := [.int s1.2.2.1, .int v37]) (st := [.int v9]) K dX10_attempt_84 cl_X10_302 h42 (sX9_slipsPassing C l e40) (by decide) rfl rfl (Nat.le_of_ble_eq_true rfl) R1 R2 ?_
          refine sk_iand K dX10_attempt_87 ?_
          refine sk_istore [(7, .int (v9 &&& v39)), (0, .ref p0), (3, .int v9), (4, .int s1.1), (5, .int s1.2.1), (6, .int s1.2.2.1)] K dX10_attempt_88 (by decide) rfl ?_
          refine sk_iload K dX10_attempt_90 0 rfl ?_
          obtain ⟨v44, e45, hf⟩ := sk_ob hf
          refine sk_callS (As := [.int (v9 &&& v39)]) (st := []) K dX10_attempt_92 cl_X10_173 (sJ6_bitCount_0f7a4 C l e45) (by decide) rfl rfl (Nat.le_of_ble_eq_true rfl) R1 R2 ?_
          refine sk_iload_n K dX10_attempt_95 rfl 2 rfl ?_
          refine sk_iload K dX10_attempt_96 0 rfl ?_
          refine sk_iconst (-1 : Int32) K dX10_attempt_98 (by decide) ?_
          refine sk_ixor K dX10_attempt_99 ?_
          refine sk_iand K dX10_attempt_100 ?_
          obtain ⟨v46, e47, hf⟩ := sk_ob hf
          refine sk_callS (As := [.int (v9 &&& ((v9 &&& v39) ^^^ (-1 : Int32)))]) (st := [.int v44]) K dX10_attempt_101 cl_X10_173 (sJ6_bitCount_0f7a4 C l e47) (by decide) rfl rfl (Nat.le_of_ble_eq_true rfl) R1 R2 ?_
          refine sk_mmin K dX10_attempt_104 qw_1158 qw_473 qw_137 qw_474 (by decide) (Nat.le_of_ble_eq_true rfl) R2 ?_
          refine sk_istore [(8, .int (if v46 < v44 then v46 else v44)), (7, .int (v9 &&& v39)), (0, .ref p0), (3, .int v9), (4, .int s1.1), (5, .int s1.2.1), (6, .int s1.2.2.1)] K dX10_attempt_107 (by decide) rfl ?_
          refine sk_iload K dX10_attempt_109 0 rfl ?_
          refine sk_iload K dX10_attempt_111 5 rfl ?_
          refine sk_icmp_le 124 K dX10_attempt_113 (by decide) (fun h50 => ?_) (fun h50 => ?_)
          · rw [if_pos h50] at hf
            refine sk_iinc (s1.2.2.1 + 1) [(6, .int (s1.2.2.1 + 1)), (8, .int (if v46 < v44 then v46 else v44)), (7, .int (v9 &&& v39)), (0, .ref p0), (3, .int v9), (4, .int s1.1), (5, .int s1.2.1)] K dX10_attempt_124 6 rfl rfl (by decide) rfl ?_
            refine sk_goto 32 K dX10_attempt_127 (by decide) ?_
            refine sk_sub [(0, .ref p0), (3, .int v9), (4, .int s1.1), (5, .int s1.2.1), (6, .int (s1.2.2.1 + 1))] [3, 4, 5, 6, 0] rfl ?_
            have h9 := ih1 _ (Option.some.inj hf).symm
            exact h9
          · rw [if_neg h50] at hf
            refine sk_iload K dX10_attempt_116 0 rfl ?_
            refine sk_istore [(5, .int (if v46 < v44 then v46 else v44)), (8, .int (if v46 < v44 then v46 else v44)), (7, .int (v9 &&& v39)), (0, .ref p0), (3, .int v9), (4, .int s1.1), (6, .int s1.2.2.1)] K dX10_attempt_118 (by decide) rfl ?_
            refine sk_iload K dX10_attempt_120 6 rfl ?_
            refine sk_istore [(4, .int s1.2.2.1), (5, .int (if v46 < v44 then v46 else v44)), (8, .int (if v46 < v44 then v46 else v44)), (7, .int (v9 &&& v39)), (0, .ref p0), (3, .int v9), (6, .int s1.2.2.1)] K dX10_attempt_122 (by decide) rfl ?_
            refine sk_iinc (s1.2.2.1 + 1) [(6, .int (s1.2.2.1 + 1)), (4, .int s1.2.2.1), (5, .int (if v46 < v44 then v46 else v44)), (8, .int (if v46 < v44 then v46 else v44)), (7, .int (v9 &&& v39)), (0, .ref p0), (3, .int v9)] K dX10_attempt_124 6 rfl rfl (by decide) rfl ?_
            refine sk_goto 32 K dX10_attempt_127 (by decide) ?_
            refine sk_sub [(0, .ref p0), (3, .int v9), (4, .int s1.2.2.1), (5, .int (if v46 < v44 then v46 else v44)), (6, .int (s1.2.2.1 + 1))] [5, 6, 1, 2, 0] rfl ?_
            have h9 := ih1 _ (Option.some.inj hf).symm
            exact h9
  · rw [if_neg h4] at hf
    refine sk_iload_n K dX10_attempt_10 rfl 0 rfl ?_
    have hR51 : (v1, d) = (rr, dd) := Option.some.inj hf
    exact sk_iret K dX10_attempt_11 rfl rfl (congrArg (fun z => z.1) hR51) rfl (congrArg (fun z => z.2) hR51)
noncomputable def fX10_linings_J30 (S : sk_S) (p0 : Nat) (p1 : Int32) (d1 : sk_D) : Option (Int32 × sk_D) :=
  (sk_gR S p0 9 4).bind fun v2 => (sk_gR S p0 9 0).bind fun v4 => (sk_gR S v4 8 0).bind fun v6 => (sk_gR S p0 9 5).bind fun v8 => (sk_gI S d1 v8 4 1).bind fun v10 => (fX10_doneIn S d1 v10).bind fun v12 => if S.2.1 v2 = (0, 0) then ((fX0_part S d1 v2 v6 v12).bind fun b18 => if p1 = 0 then (some (b18.1, b18.2)) else ((sk_gR S p0 9 4).bind fun v20 => if S.2.1 v20 = (0, 0) then ((fX0_liningOf S b18.2 v20 (p1 - (10 : Int32))).bind fun v22 => some (v22, b18.2)) else none)) else none
noncomputable def fX10_linings (S : sk_S) (d : sk_D) (p0 : Nat) (p1 : Int32) : Option (Int32 × sk_D) :=
  if p1 = 0 then (fX10_linings_J30 S p0 p1 d) else (if p1 < (10 : Int32) then (some ((-2 : Int32), d)) else ((sk_gR S p0 9 0).bind fun v30 => (sk_gR S v30 8 0).bind fun v32 => if S.2.1 v32 = (2, 0) then ((fX2_has S d v32 (p1 - (10 : Int32))).bind fun v34 => if v34 = true then (fX10_linings_J30 S p0 p1 d) else (some ((-2 : Int32), d))) else none))
set_option maxRecDepth 100000 in
set_option maxHeartbeats 4000000 in
theorem sX10_linings (C : sk_C) (l : Launch) {S : sk_S} {d : sk_D} {p0 : Nat} {p1 : Int32} {rr : Int32} {dd : sk_D} (hf : fX10_linings S d p0 p1 = some (rr, dd)) : sk_Met C l 103 yX10_linings cX10_linings 3 (some .int) [.ref p0, .int p1] S d (some (.int rr)) S dd := by
  refine sk_Met.of (by decide) (Nat.le_of_ble_eq_true rfl) (Nat.le_refl _) (Nat.le_refl _) (fun X K0 hX => ?_)
  have K : sk_Ok X C cX10_linings 3 RX10 "linings" (some .int) 103 l (some (.int rr)) S dd := K0
  have R1 : X.2.2.2.2.2.2.2.2.2.2.2.1 ≤ S.1.1 ∧ X.2.2.2.2.2.2.2.2.2.2.2.2 ≤ S.1.2 := by rw [hX]; exact ⟨Nat.le_refl _, Nat.le_refl _⟩
  have R2 : S.1.1 ≤ S.1.1 ∧ S.1.2 ≤ S.1.2 := ⟨Nat.le_refl _, Nat.le_refl _⟩
  show sk_G X C 3 S d 0 [(0, .ref p0), (1, .int p1)] []
  unfold fX10_linings at hf
  have j30_0 : ∀ (d1 : sk_D), fX10_linings_J30 S p0 p1 d1 = some (rr, dd) → sk_G X C 3 S d1 30 [(0, .ref p0), (1, .int p1)] [] := by
    intro d1 hf
    unfold fX10_linings_J30 at hf
    refine sk_aload_n K dX10_linings_30 rfl 0 rfl ?_
    obtain ⟨v2, e3, hf⟩ := sk_ob hf
    refine sk_getR K dX10_linings_31 fl_X10_40 rfl e3 ?_
    refine sk_aload_n K dX10_linings_34 rfl 0 rfl ?_
    obtain ⟨v4, e5, hf⟩ := sk_ob hf
    refine sk_getR K dX10_linings_35 fl_X10_10 rfl e5 ?_
    obtain ⟨v6, e7, hf⟩ := sk_ob hf
    refine sk_getR K dX10_linings_38 fl_X10_98 rfl e7 ?_
    refine sk_aload_n K dX10_linings_41 rfl 0 rfl ?_
    obtain ⟨v8, e9, hf⟩ := sk_ob hf
    refine sk_getR K dX10_linings_42 fl_X10_47 rfl e9 ?_
    obtain ⟨v10, e11, hf⟩ := sk_ob hf
    refine sk_getI K dX10_linings_45 fl_X10_120 rfl e11 ?_
    obtain ⟨v12, e13, hf⟩ := sk_ob hf
    refine sk_callS (As := [.int v10]) (st := [.ref v6, .ref v2]) K dX10_linings_48 cl_X10_158 (sX10_doneIn C l e13) (by decide) rfl rfl (Nat.le_of_ble_eq_true rfl) R1 R2 ?_
    obtain ⟨h17, hf⟩ := sk_ib hf
    obtain ⟨⟨v14, d16⟩, e15, hf⟩ := sk_ob hf
    try dsimp only at hf
    refine sk_callV (As := [.ref v6, .int v12]) (st := []) K dX10_linings_51 cl_X10_310 h17 (sX0_part C l e15) (by decide) rfl rfl (Nat.le_of_ble_eq_true rfl) R1 R2 ?_
    refine sk_istore_n [(2, .int v14), (0, .ref p0), (1, .int p1)] K dX10_linings_54 rfl (by decide) rfl ?_
    refine sk_iload_n K dX10_linings_55 rfl 2 rfl ?_
    refine sk_if_ne 63 K dX10_linings_56 (by decide) (fun h19 => ?_) (fun h19 => ?_)
    · rw [if_neg h19] at hf
      refine sk_aload_n K dX10_linings_63 rfl 1 rfl ?_
      obtain ⟨v20, e21, hf⟩ := sk_ob hf
      refine sk_getR K dX10_linings_64 fl_X10_40 rfl e21 ?_
      refine sk_iload_n K dX10_linings_67 rfl 2 rfl ?_
      refine sk_bipush (10 : Int32) K dX10_linings_68 (by decide) ?_
      refine sk_isub K dX10_linings_70 ?_
      obtain ⟨h24, hf⟩ := sk_ib hf
      obtain ⟨v22, e23, hf⟩ := sk_ob hf
      refine sk_callV (As := [.int (p1 - (10 : Int32))]) (st := []) K dX10_linings_71 cl_X10_314 h24 (sX0_liningOf C l e23) (by decide) rfl rfl (Nat.le_of_ble_eq_true rfl) R1 R2 ?_
      have hR25 : (v22, d16) = (rr, dd) := Option.some.inj hf
      exact sk_iret K dX10_linings_74 rfl rfl (congrArg (fun z => z.1) hR25) rfl (congrArg (fun z => z.2) hR25)
    · rw [if_pos h19] at hf
      refine sk_iload_n K dX10_linings_59 rfl 0 rfl ?_
      refine sk_goto 74 K dX10_linings_60 (by decide) ?_
      have hR26 : (v14, d16) = (rr, dd) := Option.some.inj hf
      exact sk_iret K dX10_linings_74 rfl rfl (congrArg (fun z => z.1) hR26) rfl (congrArg (fun z => z.2) hR26)
  refine sk_iload_n K dX10_linings_0 rfl 1 rfl ?_
  refine sk_if_eq 30 K dX10_linings_1 (by decide) (fun h27 => ?_) (fun h27 => ?_)
  · rw [if_pos h27] at hf
    refine sk_sub [(0, .ref p0), (1, .int p1)] [0, 1] rfl ?_
    have h9 := j30_0 _ hf
    exact h9
  · rw [if_neg h27] at hf
    refine sk_iload_n K dX10_linings_4 rfl 1 rfl ?_
    refine sk_bipush (10 : Int32) K dX10_linings_5 (by decide) ?_
    refine sk_icmp_lt 27 K dX10_linings_7 (by decide) (fun h28 => ?_) (fun h28 => ?_)
    · rw [if_pos h28] at hf
      refine sk_bipush (-2 : Int32) K dX10_linings_27 (by decide) ?_
      have hR29 : ((-2 : Int32), d) = (rr, dd) := Option.some.inj hf
      exact sk_iret K dX10_linings_29 rfl rfl (congrArg (fun z => z.1) hR29) rfl (congrArg (fun z => z.2) hR29)
    · rw [if_neg h28] at hf
      refine sk_aload_n K dX10_linings_10 rfl 0 rfl ?_
      obtain ⟨v30, e31, hf⟩ := sk_ob hf
      refine sk_getR K dX10_linings_11 fl_X10_10 rfl e31 ?_
      obtain ⟨v32, e33, hf⟩ := sk_ob hf
      refine sk_getR K dX10_linings_14 fl_X10_98 rfl e33 ?_
      refine sk_iload_n K dX10_linings_17 rfl 1 rfl ?_
      refine sk_bipush (10 : Int32) K dX10_linings_18 (by decide) ?_
      refine sk_isub K dX10_linings_20 ?_
      obtain ⟨h36, hf⟩ := sk_ib hf
      obtain ⟨v34, e35, hf⟩ := sk_ob hf
      refine sk_callV (As := [.int (p1 - (10 : Int32))]) (st := []) K dX10_linings_21 cl_X10_116 h36 (sX2_has C l e35) (by decide) rfl rfl (Nat.le_of_ble_eq_true rfl) R1 R2 ?_
      refine sk_ifneB 30 K dX10_linings_24 (by decide) (fun h37 => ?_) (fun h37 => ?_)
      · rw [if_pos h37] at hf
        refine sk_sub [(0, .ref p0), (1, .int p1)] [0, 1] rfl ?_
        have h9 := j30_0 _ hf
        exact h9
      · rw [if_neg h37] at hf
        refine sk_bipush (-2 : Int32) K dX10_linings_27 (by decide) ?_
        have hR38 : ((-2 : Int32), d) = (rr, dd) := Option.some.inj hf
        exact sk_iret K dX10_linings_29 rfl rfl (congrArg (fun z => z.1) hR38) rfl (congrArg (fun z => z.2) hR38)
noncomputable def fX10_clique (S : sk_S) (d : sk_D) (p0 : Nat) : Option (Int32) :=
  (sk_gR S p0 9 4).bind fun v1 => (sk_gR S p0 9 0).bind fun v3 => (sk_gR S v3 8 0).bind fun v5 => (sk_gR S p0 9 5).bind fun v7 => (sk_gI S d v7 4 1).bind fun v9 => (fX10_doneIn S d v9).bind fun v11 => if S.2.1 v1 = (0, 0) then ((fX0_greatest S d v1 v5 v11).bind fun v13 => some v13) else none
set_option maxRecDepth 100000 in
set_option maxHeartbeats 4000000 in
theorem sX10_clique (C : sk_C) (l : Launch) {S : sk_S} {d : sk_D} {p0 : Nat} {rr : Int32} (hf : fX10_clique S d p0 = some rr) : sk_Met C l 2 yX10_clique cX10_clique 1 (some .int) [.ref p0] S d (some (.int rr)) S d := by
  refine sk_Met.of (by decide) (Nat.le_of_ble_eq_true rfl) (Nat.le_refl _) (Nat.le_refl _) (fun X K0 hX => ?_)
  have K : sk_Ok X C cX10_clique 1 RX10 "clique" (some .int) 2 l (some (.int rr)) S d := K0
  have R1 : X.2.2.2.2.2.2.2.2.2.2.2.1 ≤ S.1.1 ∧ X.2.2.2.2.2.2.2.2.2.2.2.2 ≤ S.1.2 := by rw [hX]; exact ⟨Nat.le_refl _, Nat.le_refl _⟩
  have R2 : S.1.1 ≤ S.1.1 ∧ S.1.2 ≤ S.1.2 := ⟨Nat.le_refl _, Nat.le_refl _⟩
  show sk_G X C 1 S d 0 [(0, .ref p0)] []
  unfold fX10_clique at hf
  refine sk_aload_n K dX10_clique_0 rfl 0 rfl ?_
  obtain ⟨v1, e2, hf⟩ := sk_ob hf
  refine sk_getR K dX10_clique_1 fl_X10_40 rfl e2 ?_
  refine sk_aload_n K dX10_clique_4 rfl 0 rfl ?_
  obtain ⟨v3, e4, hf⟩ := sk_ob hf
  refine sk_getR K dX10_clique_5 fl_X10_10 rfl e4 ?_
  obtain ⟨v5, e6, hf⟩ := sk_ob hf
  refine sk_getR K dX10_clique_8 fl_X10_98 rfl e6 ?_
  refine sk_aload_n K dX10_clique_11 rfl 0 rfl ?_
  obtain ⟨v7, e8, hf⟩ := sk_ob hf
  refine sk_getR K dX10_clique_12 fl_X10_47 rfl e8 ?_
  obtain ⟨v9, e10, hf⟩ := sk_ob hf
  refine sk_getI K dX10_clique_15 fl_X10_120 rfl e10 ?_
  obtain ⟨v11, e12, hf⟩ := sk_ob hf
  refine sk_callS (As := [.int v9]) (st := [.ref v5, .ref v1]) K dX10_clique_18 cl_X10_158 (sX10_doneIn C l e12) (by decide) rfl rfl (Nat.le_of_ble_eq_true rfl) R1 R2 ?_
  obtain ⟨h15, hf⟩ := sk_ib hf
  obtain ⟨v13, e14, hf⟩ := sk_ob hf
  refine sk_callV (As := [.ref v5, .int v11]) (st := []) K dX10_clique_21 cl_X10_317 h15 (sX0_greatest C l e14) (by decide) rfl rfl (Nat.le_of_ble_eq_true rfl) R1 R2 ?_
  have hR16 : v13 = rr := Option.some.inj hf
  exact sk_iret K dX10_clique_24 rfl rfl hR16 rfl rfl
noncomputable def fX10_forces (S : sk_S) (d : sk_D) (p0 : Nat) (p1 : Int32) : Option (Int32 × sk_D) :=
  (sk_gR S p0 9 0).bind fun v1 => (sk_gR S v1 8 0).bind fun v3 => if S.2.1 v3 = (2, 0) then ((fX2_hasAll S d v3 p1).bind fun v5 => if v5 = true then ((sk_gR S p0 9 0).bind fun v9 => (sk_gR S p0 9 5).bind fun v11 => (sk_gI S d v11 4 1).bind fun v13 => (fX7_fewest S d v9 v13 p1).bind fun b18 => some (b18.1, b18.2)) else (some ((-3 : Int32), d))) else none
set_option maxRecDepth 100000 in
set_option maxHeartbeats 4000000 in
theorem sX10_forces (C : sk_C) (l : Launch) {S : sk_S} {d : sk_D} {p0 : Nat} {p1 : Int32} {rr : Int32} {dd : sk_D} (hf : fX10_forces S d p0 p1 = some (rr, dd)) : sk_Met C l 107 yX10_forces cX10_forces 2 (some .int) [.ref p0, .int p1] S d (some (.int rr)) S dd := by
  refine sk_Met.of (by decide) (Nat.le_of_ble_eq_true rfl) (Nat.le_refl _) (Nat.le_refl _) (fun X K0 hX => ?_)
  have K : sk_Ok X C cX10_forces 2 RX10 "forces" (some .int) 107 l (some (.int rr)) S dd := K0
  have R1 : X.2.2.2.2.2.2.2.2.2.2.2.1 ≤ S.1.1 ∧ X.2.2.2.2.2.2.2.2.2.2.2.2 ≤ S.1.2 := by rw [hX]; exact ⟨Nat.le_refl _, Nat.le_refl _⟩
  have R2 : S.1.1 ≤ S.1.1 ∧ S.1.2 ≤ S.1.2 := ⟨Nat.le_refl _, Nat.le_refl _⟩
  show sk_G X C 2 S d 0 [(0, .ref p0), (1, .int p1)] []
  unfold fX10_forces at hf
  refine sk_aload_n K dX10_forces_0 rfl 0 rfl ?_
  obtain ⟨v1, e2, hf⟩ := sk_ob hf
  refine sk_getR K dX10_forces_1 fl_X10_10 rfl e2 ?_
  obtain ⟨v3, e4, hf⟩ := sk_ob hf
  refine sk_getR K dX10_forces_4 fl_X10_98 rfl e4 ?_
  refine sk_iload_n K dX10_forces_7 rfl 1 rfl ?_
  obtain ⟨h7, hf⟩ := sk_ib hf
  obtain ⟨v5, e6, hf⟩ := sk_ob hf
  refine sk_callV (As := [.int p1]) (st := []) K dX10_forces_8 cl_X10_224 h7 (sX2_hasAll C l e6) (by decide) rfl rfl (Nat.le_of_ble_eq_true rfl) R1 R2 ?_
  refine sk_ifneB 17 K dX10_forces_11 (by decide) (fun h8 => ?_) (fun h8 => ?_)
  · rw [if_pos h8] at hf
    refine sk_aload_n K dX10_forces_17 rfl 0 rfl ?_
    obtain ⟨v9, e10, hf⟩ := sk_ob hf
    refine sk_getR K dX10_forces_18 fl_X10_10 rfl e10 ?_
    refine sk_aload_n K dX10_forces_21 rfl 0 rfl ?_
    obtain ⟨v11, e12, hf⟩ := sk_ob hf
    refine sk_getR K dX10_forces_22 fl_X10_47 rfl e12 ?_
    obtain ⟨v13, e14, hf⟩ := sk_ob hf
    refine sk_getI K dX10_forces_25 fl_X10_120 rfl e14 ?_
    refine sk_iload_n K dX10_forces_28 rfl 1 rfl ?_
    obtain ⟨⟨v15, d17⟩, e16, hf⟩ := sk_ob hf
    try dsimp only at hf
    refine sk_callS (As := [.ref v9, .int v13, .int p1]) (st := []) K dX10_forces_29 cl_X10_320 (sX7_fewest C l e16) (by decide) rfl rfl (Nat.le_of_ble_eq_true rfl) R1 R2 ?_
    have hR19 : (v15, d17) = (rr, dd) := Option.some.inj hf
    exact sk_iret K dX10_forces_32 rfl rfl (congrArg (fun z => z.1) hR19) rfl (congrArg (fun z => z.2) hR19)
  · rw [if_neg h8] at hf
    refine sk_bipush (-3 : Int32) K dX10_forces_14 (by decide) ?_
    have hR20 : ((-3 : Int32), d) = (rr, dd) := Option.some.inj hf
    exact sk_iret K dX10_forces_16 rfl rfl (congrArg (fun z => z.1) hR20) rfl (congrArg (fun z => z.2) hR20)
noncomputable def fX10_best (S : sk_S) (d : sk_D) (p0 : Nat) (p1 : Int32) : Option (Int32 × sk_D) :=
  (sk_gR S p0 9 0).bind fun v1 => (sk_gR S v1 8 0).bind fun v3 => if S.2.1 v3 = (2, 0) then ((fX2_hasAll S d v3 p1).bind fun v5 => if v5 = true then ((sk_gR S p0 9 0).bind fun v9 => (sk_gR S p0 9 5).bind fun v11 => (sk_gI S d v11 4 1).bind fun v13 => (sk_gR S p0 9 0).bind fun v15 => (sk_gR S p0 9 5).bind fun v17 => (sk_gI S d v17 4 1).bind fun v19 => (fX7_fewest S d v15 v19 p1).bind fun b24 => (fX7_firstDeed S b24.2 v9 v13 p1 b24.1).bind fun b28 => some (b28.1, b28.2)) else (some ((-3 : Int32), d))) else none
set_option maxRecDepth 100000 in
set_option maxHeartbeats 4000000 in
theorem sX10_best (C : sk_C) (l : Launch) {S : sk_S} {d : sk_D} {p0 : Nat} {p1 : Int32} {rr : Int32} {dd : sk_D} (hf : fX10_best S d p0 p1 = some (rr, dd)) : sk_Met C l 107 yX10_best cX10_best 2 (some .int) [.ref p0, .int p1] S d (some (.int rr)) S dd := by
  refine sk_Met.of (by decide) (Nat.le_of_ble_eq_true rfl) (Nat.le_refl _) (Nat.le_refl _) (fun X K0 hX => ?_)
  have K : sk_Ok X C cX10_best 2 RX10 "best" (some .int) 107 l (some (.int rr)) S dd := K0
  have R1 : X.2.2.2.2.2.2.2.2.2.2.2.1 ≤ S.1.1 ∧ X.2.2.2.2.2.2.2.2.2.2.2.2 ≤ S.1.2 := by rw [hX]; exact ⟨Nat.le_refl _, Nat.le_refl _⟩
  have R2 : S.1.1 ≤ S.1.1 ∧ S.1.2 ≤ S.1.2 := ⟨Nat.le_refl _, Nat.le_refl _⟩
  show sk_G X C 2 S d 0 [(0, .ref p0), (1, .int p1)] []
  unfold fX10_best at hf
  refine sk_aload_n K dX10_best_0 rfl 0 rfl ?_
  obtain ⟨v1, e2, hf⟩ := sk_ob hf
  refine sk_getR K dX10_best_1 fl_X10_10 rfl e2 ?_
  obtain ⟨v3, e4, hf⟩ := sk_ob hf
  refine sk_getR K dX10_best_4 fl_X10_98 rfl e4 ?_
  refine sk_iload_n K dX10_best_7 rfl 1 rfl ?_
  obtain ⟨h7, hf⟩ := sk_ib hf
  obtain ⟨v5, e6, hf⟩ := sk_ob hf
  refine sk_callV (As := [.int p1]) (st := []) K dX10_best_8 cl_X10_224 h7 (sX2_hasAll C l e6) (by decide) rfl rfl (Nat.le_of_ble_eq_true rfl) R1 R2 ?_
  refine sk_ifneB 17 K dX10_best_11 (by decide) (fun h8 => ?_) (fun h8 => ?_)
  · rw [if_pos h8] at hf
    refine sk_aload_n K dX10_best_17 rfl 0 rfl ?_
    obtain ⟨v9, e10, hf⟩ := sk_ob hf
    refine sk_getR K dX10_best_18 fl_X10_10 rfl e10 ?_
    refine sk_aload_n K dX10_best_21 rfl 0 rfl ?_
    obtain ⟨v11, e12, hf⟩ := sk_ob hf
    refine sk_getR K dX10_best_22 fl_X10_47 rfl e12 ?_
    obtain ⟨v13, e14, hf⟩ := sk_ob hf
    refine sk_getI K dX10_best_25 fl_X10_120 rfl e14 ?_
    refine sk_iload_n K dX10_best_28 rfl 1 rfl ?_
    refine sk_aload_n K dX10_best_29 rfl 0 rfl ?_
    obtain ⟨v15, e16, hf⟩ := sk_ob hf
    refine sk_getR K dX10_best_30 fl_X10_10 rfl e16 ?_
    refine sk_aload_n K dX10_best_33 rfl 0 rfl ?_
    obtain ⟨v17, e18, hf⟩ := sk_ob hf
    refine sk_getR K dX10_best_34 fl_X10_47 rfl e18 ?_
    obtain ⟨v19, e20, hf⟩ := sk_ob hf
    refine sk_getI K dX10_best_37 fl_X10_120 rfl e20 ?_
    refine sk_iload_n K dX10_best_40 rfl 1 rfl ?_
    obtain ⟨⟨v21, d23⟩, e22, hf⟩ := sk_ob hf
    try dsimp only at hf
    refine sk_callS (As := [.ref v15, .int v19, .int p1]) (st := [.int p1, .int v13, .ref v9]) K dX10_best_41 cl_X10_320 (sX7_fewest C l e22) (by decide) rfl rfl (Nat.le_of_ble_eq_true rfl) R1 R2 ?_
    obtain ⟨⟨v25, d27⟩, e26, hf⟩ := sk_ob hf
    try dsimp only at hf
    refine sk_callS (As := [.ref v9, .int v13, .int p1, .int v21]) (st := []) K dX10_best_44 cl_X10_325 (sX7_firstDeed C l e26) (by decide) rfl rfl (Nat.le_of_ble_eq_true rfl) R1 R2 ?_
    have hR29 : (v25, d27) = (rr, dd) := Option.some.inj hf
    exact sk_iret K dX10_best_47 rfl rfl (congrArg (fun z => z.1) hR29) rfl (congrArg (fun z => z.2) hR29)
  · rw [if_neg h8] at hf
    refine sk_bipush (-3 : Int32) K dX10_best_14 (by decide) ?_
    have hR30 : ((-3 : Int32), d) = (rr, dd) := Option.some.inj hf
    exact sk_iret K dX10_best_16 rfl rfl (congrArg (fun z => z.1) hR30) rfl (congrArg (fun z => z.2) hR30)
noncomputable def fX10_chance (S : sk_S) (d : sk_D) (p0 : Nat) (p1 : Int32) (p2 : Int32) : Option (Int64) :=
  (sk_gR S p0 9 0).bind fun v1 => (sk_gR S v1 8 0).bind fun v3 => if S.2.1 v3 = (2, 0) then ((fX2_has S d v3 p1).bind fun v5 => if v5 = true then (if p2 < 0 then (some (-2 : Int64)) else (if p2 ≤ (1 : Int32) then (if S.2.1 p0 = (9, 0) then ((fX10_notDone S d p0 p1).bind fun v13 => if v13 = 0 then ((sk_gR S p0 9 0).bind fun v17 => (sk_gR S p0 9 5).bind fun v19 => (sk_gI S d v19 4 1).bind fun v21 => if S.2.1 v17 = (8, 0) then ((fX9_stillDone S d v17 v21 p1).bind fun v23 => (fX9_lowest S d v23 p2).bind fun v26 => some v26) else none) else (some (-5 : Int64))) else none) else (some (-2 : Int64)))) else (some (-2 : Int64))) else none
set_option maxRecDepth 100000 in
set_option maxHeartbeats 4000000 in
theorem sX10_chance (C : sk_C) (l : Launch) {S : sk_S} {d : sk_D} {p0 : Nat} {p1 : Int32} {p2 : Int32} {rr : Int64} (hf : fX10_chance S d p0 p1 p2 = some rr) : sk_Met C l 3 yX10_chance cX10_chance 3 (some .long) [.ref p0, .int p1, .int p2] S d (some (.long rr)) S d := by
  refine sk_Met.of (by decide) (Nat.le_of_ble_eq_true rfl) (Nat.le_refl _) (Nat.le_refl _) (fun X K0 hX => ?_)
  have K : sk_Ok X C cX10_chance 3 RX10 "chance" (some .long) 3 l (some (.long rr)) S d := K0
  have R1 : X.2.2.2.2.2.2.2.2.2.2.2.1 ≤ S.1.1 ∧ X.2.2.2.2.2.2.2.2.2.2.2.2 ≤ S.1.2 := by rw [hX]; exact ⟨Nat.le_refl _, Nat.le_refl _⟩
  have R2 : S.1.1 ≤ S.1.1 ∧ S.1.2 ≤ S.1.2 := ⟨Nat.le_refl _, Nat.le_refl _⟩
  show sk_G X C 3 S d 0 [(0, .ref p0), (1, .int p1), (2, .int p2)] []
  unfold fX10_chance at hf
  refine sk_aload_n K dX10_chance_0 rfl 0 rfl ?_
  obtain ⟨v1, e2, hf⟩ := sk_ob hf
  refine sk_getR K dX10_chance_1 fl_X10_10 rfl e2 ?_
  obtain ⟨v3, e4, hf⟩ := sk_ob hf
  refine sk_getR K dX10_chance_4 fl_X10_98 rfl e4 ?_
  refine sk_iload_n K dX10_chance_7 rfl 1 rfl ?_
  obtain ⟨h7, hf⟩ := sk_ib hf
  obtain ⟨v5, e6, hf⟩ := sk_ob hf
  refine sk_callV (As := [.int p1]) (st := []) K dX10_chance_8 cl_X10_116 h7 (sX2_has C l e6) (by decide) rfl rfl (Nat.le_of_ble_eq_true rfl) R1 R2 ?_
  refine sk_ifeqB 23 K dX10_chance_11 (by decide) (fun h8 => ?_) (fun h8 => ?_)
  · rw [if_neg h8] at hf
    refine sk_ldc2 K dX10_chance_23 qw_1225 ?_
    have hR9 : (-2 : Int64) = rr := Option.some.inj hf
    exact sk_lret K dX10_chance_26 rfl rfl hR9 rfl rfl
  · rw [if_pos h8] at hf
    refine sk_iload_n K dX10_chance_14 rfl 2 rfl ?_
    refine sk_if_lt 23 K dX10_chance_15 (by decide) (fun h10 => ?_) (fun h10 => ?_)
    · rw [if_pos h10] at hf
      refine sk_ldc2 K dX10_chance_23 qw_1225 ?_
      have hR11 : (-2 : Int64) = rr := Option.some.inj hf
      exact sk_lret K dX10_chance_26 rfl rfl hR11 rfl rfl
    · rw [if_neg h10] at hf
      refine sk_iload_n K dX10_chance_18 rfl 2 rfl ?_
      refine sk_iconst (1 : Int32) K dX10_chance_19 (by decide) ?_
      refine sk_icmp_le 27 K dX10_chance_20 (by decide) (fun h12 => ?_) (fun h12 => ?_)
      · rw [if_pos h12] at hf
        refine sk_aload_n K dX10_chance_27 rfl 0 rfl ?_
        refine sk_iload_n K dX10_chance_28 rfl 1 rfl ?_
        obtain ⟨h15, hf⟩ := sk_ib hf
        obtain ⟨v13, e14, hf⟩ := sk_ob hf
        refine sk_callV (As := [.int p1]) (st := []) K dX10_chance_29 cl_X10_154 h15 (sX10_notDone C l e14) (by decide) rfl rfl (Nat.le_of_ble_eq_true rfl) R1 R2 ?_
        refine sk_if_eq 39 K dX10_chance_32 (by decide) (fun h16 => ?_) (fun h16 => ?_)
        · rw [if_pos h16] at hf
          refine sk_aload_n K dX10_chance_39 rfl 0 rfl ?_
          obtain ⟨v17, e18, hf⟩ := sk_ob hf
          refine sk_getR K dX10_chance_40 fl_X10_10 rfl e18 ?_
          refine sk_aload_n K dX10_chance_43 rfl 0 rfl ?_
          obtain ⟨v19, e20, hf⟩ := sk_ob hf
          refine sk_getR K dX10_chance_44 fl_X10_47 rfl e20 ?_
          obtain ⟨v21, e22, hf⟩ := sk_ob hf
          refine sk_getI K dX10_chance_47 fl_X10_120 rfl e22 ?_
          refine sk_iload_n K dX10_chance_50 rfl 1 rfl ?_
          obtain ⟨h25, hf⟩ := sk_ib hf
          obtain ⟨v23, e24, hf⟩ := sk_ob hf
          refine sk_callV (As := [.int v21, .int p1]) (st := []) K dX10_chance_51 cl_X10_333 h25 (sX9_stillDone C l e24) (by decide) rfl rfl (Nat.le_of_ble_eq_true rfl) R1 R2 ?_
          refine sk_iload_n K dX10_chance_54 rfl 2 rfl ?_
          obtain ⟨v26, e27, hf⟩ := sk_ob hf
          refine sk_callS (As := [.long v23, .int p2]) (st := []) K dX10_chance_55 cl_X10_337 (sX9_lowest C l e27) (by decide) rfl rfl (Nat.le_of_ble_eq_true rfl) R1 R2 ?_
          have hR28 : v26 = rr := Option.some.inj hf
          exact sk_lret K dX10_chance_58 rfl rfl hR28 rfl rfl
        · rw [if_neg h16] at hf
          refine sk_ldc2 K dX10_chance_35 qw_1226 ?_
          have hR29 : (-5 : Int64) = rr := Option.some.inj hf
          exact sk_lret K dX10_chance_38 rfl rfl hR29 rfl rfl
      · rw [if_neg h12] at hf
        refine sk_ldc2 K dX10_chance_23 qw_1225 ?_
        have hR30 : (-2 : Int64) = rr := Option.some.inj hf
        exact sk_lret K dX10_chance_26 rfl rfl hR30 rfl rfl
noncomputable def fX10_mean (S : sk_S) (d : sk_D) (p0 : Nat) (p1 : Int32) : Option (Int64) :=
  if p1 < 0 then (some (-2 : Int64)) else (if p1 ≤ (1 : Int32) then ((sk_gR S p0 9 0).bind fun v4 => (sk_gR S p0 9 5).bind fun v6 => (sk_gI S d v6 4 1).bind fun v8 => if S.2.1 v4 = (8, 0) then ((fX9_sumDone S d v4 v8).bind fun v10 => (fX9_lowest S d v10 p1).bind fun v13 => some v13) else none) else (some (-2 : Int64)))
set_option maxRecDepth 100000 in
set_option maxHeartbeats 4000000 in
theorem sX10_mean (C : sk_C) (l : Launch) {S : sk_S} {d : sk_D} {p0 : Nat} {p1 : Int32} {rr : Int64} (hf : fX10_mean S d p0 p1 = some rr) : sk_Met C l 4 yX10_mean cX10_mean 2 (some .long) [.ref p0, .int p1] S d (some (.long rr)) S d := by
  refine sk_Met.of (by decide) (Nat.le_of_ble_eq_true rfl) (Nat.le_refl _) (Nat.le_refl _) (fun X K0 hX => ?_)
  have K : sk_Ok X C cX10_mean 2 RX10 "mean" (some .long) 4 l (some (.long rr)) S d := K0
  have R1 : X.2.2.2.2.2.2.2.2.2.2.2.1 ≤ S.1.1 ∧ X.2.2.2.2.2.2.2.2.2.2.2.2 ≤ S.1.2 := by rw [hX]; exact ⟨Nat.le_refl _, Nat.le_refl _⟩
  have R2 : S.1.1 ≤ S.1.1 ∧ S.1.2 ≤ S.1.2 := ⟨Nat.le_refl _, Nat.le_refl _⟩
  show sk_G X C 2 S d 0 [(0, .ref p0), (1, .int p1)] []
  unfold fX10_mean at hf
  refine sk_iload_n K dX10_mean_0 rfl 1 rfl ?_
  refine sk_if_lt 9 K dX10_mean_1 (by decide) (fun h1 => ?_) (fun h1 => ?_)
  · rw [if_pos h1] at hf
    refine sk_ldc2 K dX10_mean_9 qw_1225 ?_
    have hR2 : (-2 : Int64) = rr := Option.some.inj hf
    exact sk_lret K dX10_mean_12 rfl rfl hR2 rfl rfl
  · rw [if_neg h1] at hf
    refine sk_iload_n K dX10_mean_4 rfl 1 rfl ?_
    refine sk_iconst (1 : Int32) K dX10_mean_5 (by decide) ?_
    refine sk_icmp_le 13 K dX10_mean_6 (by decide) (fun h3 => ?_) (fun h3 => ?_)
    · rw [if_pos h3] at hf
      refine sk_aload_n K dX10_mean_13 rfl 0 rfl ?_
      obtain ⟨v4, e5, hf⟩ := sk_ob hf
      refine sk_getR K dX10_mean_14 fl_X10_10 rfl e5 ?_
      refine sk_aload_n K dX10_mean_17 rfl 0 rfl ?_
      obtain ⟨v6, e7, hf⟩ := sk_ob hf
      refine sk_getR K dX10_mean_18 fl_X10_47 rfl e7 ?_
      obtain ⟨v8, e9, hf⟩ := sk_ob hf
      refine sk_getI K dX10_mean_21 fl_X10_120 rfl e9 ?_
      obtain ⟨h12, hf⟩ := sk_ib hf
      obtain ⟨v10, e11, hf⟩ := sk_ob hf
      refine sk_callV (As := [.int v8]) (st := []) K dX10_mean_24 cl_X10_341 h12 (sX9_sumDone C l e11) (by decide) rfl rfl (Nat.le_of_ble_eq_true rfl) R1 R2 ?_
      refine sk_iload_n K dX10_mean_27 rfl 1 rfl ?_
      obtain ⟨v13, e14, hf⟩ := sk_ob hf
      refine sk_callS (As := [.long v10, .int p1]) (st := []) K dX10_mean_28 cl_X10_337 (sX9_lowest C l e14) (by decide) rfl rfl (Nat.le_of_ble_eq_true rfl) R1 R2 ?_
      have hR15 : v13 = rr := Option.some.inj hf
      exact sk_lret K dX10_mean_31 rfl rfl hR15 rfl rfl
    · rw [if_neg h3] at hf
      refine sk_ldc2 K dX10_mean_9 qw_1225 ?_
      have hR16 : (-2 : Int64) = rr := Option.some.inj hf
      exact sk_lret K dX10_mean_12 rfl rfl hR16 rfl rfl
noncomputable def fX10_wanted_L9 (S : sk_S) (d : sk_D) (p0 : Nat) (s1 : Int32 × Int64 × Int32) : Option ((Int32 × Int64 × Int32) ⊕ (Int32)) :=
  (sk_gR S p0 9 0).bind fun v1 => (sk_gR S v1 8 0).bind fun v3 => (sk_gI S d v3 2 1).bind fun v5 => if v5 ≤ s1.2.2 then (some (.inr s1.1)) else ((sk_gR S p0 9 5).bind fun v9 => (sk_gI S d v9 4 1).bind fun v11 => (fX10_moodOf S d v11 s1.2.2).bind fun v13 => if v13 = (2 : Int32) then ((sk_gR S p0 9 0).bind fun v16 => (sk_gR S p0 9 5).bind fun v18 => (sk_gI S d v18 4 1).bind fun v20 => if S.2.1 v16 = (8, 0) then ((fX9_sumDone S d v16 (v20 ||| ((256 : Int32) <<< (s1.2.2 &&& 31)))).bind fun v22 => if v22 ≤ s1.2.1 then (some (.inl (s1.1, s1.2.1, s1.2.2 + 1))) else (some (.inl (s1.2.2, v22, s1.2.2 + 1)))) else none) else (some (.inl (s1.1, s1.2.1, s1.2.2 + 1))))
noncomputable def fX10_wanted (S : sk_S) (d : sk_D) (p0 : Nat) : Option (Int32) :=
  (sk_itr (fX10_wanted_L9 S d p0) ((-1 : Int32), (-1 : Int64), (0 : Int32))).bind fun x1 => some x1
set_option maxRecDepth 100000 in
set_option maxHeartbeats 4000000 in
theorem sX10_wanted (C : sk_C) (l : Launch) {S : sk_S} {d : sk_D} {p0 : Nat} {rr : Int32} (hf : fX10_wanted S d p0 = some rr) : sk_Met C l 4 yX10_wanted cX10_wanted 7 (some .int) [.ref p0] S d (some (.int rr)) S d := by
  refine sk_Met.of (by decide) (Nat.le_of_ble_eq_true rfl) (Nat.le_refl _) (Nat.le_refl _) (fun X K0 hX => ?_)
  have K : sk_Ok X C cX10_wanted 7 RX10 "wanted" (some .int) 4 l (some (.int rr)) S d := K0
  have R1 : X.2.2.2.2.2.2.2.2.2.2.2.1 ≤ S.1.1 ∧ X.2.2.2.2.2.2.2.2.2.2.2.2 ≤ S.1.2 := by rw [hX]; exact ⟨Nat.le_refl _, Nat.le_refl _⟩
  have R2 : S.1.1 ≤ S.1.1 ∧ S.1.2 ≤ S.1.2 := ⟨Nat.le_refl _, Nat.le_refl _⟩
  show sk_G X C 7 S d 0 [(0, .ref p0)] []
  unfold fX10_wanted at hf
  refine sk_iconst (-1 : Int32) K dX10_wanted_0 (by decide) ?_
  refine sk_istore_n [(1, .int (-1 : Int32)), (0, .ref p0)] K dX10_wanted_1 rfl (by decide) rfl ?_
  refine sk_ldc2 K dX10_wanted_2 qw_1260 ?_
  refine sk_lstore_n [(2, .long (-1 : Int64)), (1, .int (-1 : Int32)), (0, .ref p0)] K dX10_wanted_5 rfl (by decide) rfl ?_
  refine sk_iconst (0 : Int32) K dX10_wanted_6 (by decide) ?_
  refine sk_istore [(4, .int (0 : Int32)), (2, .long (-1 : Int64)), (1, .int (-1 : Int32)), (0, .ref p0)] K dX10_wanted_7 (by decide) rfl ?_
  obtain ⟨x1, he1, hf⟩ := sk_ob hf
  have hret1 : ∀ r, r = x1 → r = rr := by
    intro r hr
    subst hr
    exact Option.some.inj hf
  refine sk_sub [(0, .ref p0), (1, .int (-1 : Int32)), (2, .long (-1 : Int64)), (4, .int (0 : Int32))] [3, 2, 1, 0] rfl ?_
  refine sk_loop (fun s1 => sk_G X C 7 S d 9 [(0, .ref p0), (1, .int s1.1), (2, .long s1.2.1), (4, .int s1.2.2)] []) he1 (fun s1 o1 hf ih1 hx1 => ?_)
  unfold fX10_wanted_L9 at hf
  refine sk_iload K dX10_wanted_9 3 rfl ?_
  refine sk_aload_n K dX10_wanted_11 rfl 0 rfl ?_
  obtain ⟨v1, e2, hf⟩ := sk_ob hf
  refine sk_getR K dX10_wanted_12 fl_X10_10 rfl e2 ?_
  obtain ⟨v3, e4, hf⟩ := sk_ob hf
  refine sk_getR K dX10_wanted_15 fl_X10_98 rfl e4 ?_
  obtain ⟨v5, e6, hf⟩ := sk_ob hf
  refine sk_getI K dX10_wanted_18 fl_X10_164 rfl e6 ?_
  refine sk_icmp_ge 82 K dX10_wanted_21 (by decide) (fun h7 => ?_) (fun h7 => ?_)
  · rw [if_pos h7] at hf
    refine sk_iload_n K dX10_wanted_82 rfl 1 rfl ?_
    have hR8 : s1.1 = rr := hret1 _ (hx1 _ (Option.some.inj hf).symm)
    exact sk_iret K dX10_wanted_83 rfl rfl hR8 rfl rfl
  · rw [if_neg h7] at hf
    refine sk_aload_n K dX10_wanted_24 rfl 0 rfl ?_
    obtain ⟨v9, e10, hf⟩ := sk_ob hf
    refine sk_getR K dX10_wanted_25 fl_X10_47 rfl e10 ?_
    obtain ⟨v11, e12, hf⟩ := sk_ob hf
    refine sk_getI K dX10_wanted_28 fl_X10_120 rfl e12 ?_
    refine sk_iload K dX10_wanted_31 3 rfl ?_
    obtain ⟨v13, e14, hf⟩ := sk_ob hf
    refine sk_callS (As := [.int v11, .int s1.2.2]) (st := []) K dX10_wanted_33 cl_X10_123 (sX10_moodOf C l e14) (by decide) rfl rfl (Nat.le_of_ble_eq_true rfl) R1 R2 ?_
    refine sk_iconst (2 : Int32) K dX10_wanted_36 (by decide) ?_
    refine sk_icmp_ne 76 K dX10_wanted_37 (by decide) (fun h15 => ?_) (fun h15 => ?_)
    · rw [if_neg h15] at hf
      refine sk_iinc (s1.2.2 + 1) [(4, .int (s1.2.2 + 1)), (0, .ref p0), (1, .int s1.1), (2, .long s1.2.1)] K dX10_wanted_76 3 rfl rfl (by decide) rfl ?_
      refine sk_goto 9 K dX10_wanted_79 (by decide) ?_
      refine sk_sub [(0, .ref p0), (1, .int s1.1), (2, .long s1.2.1), (4, .int (s1.2.2 + 1))] [1, 2, 3, 0] rfl ?_
      have h9 := ih1 _ (Option.some.inj hf).symm
      exact h9
    · rw [if_pos h15] at hf
      refine sk_aload_n K dX10_wanted_40 rfl 0 rfl ?_
      obtain ⟨v16, e17, hf⟩ := sk_ob hf
      refine sk_getR K dX10_wanted_41 fl_X10_10 rfl e17 ?_
      refine sk_aload_n K dX10_wanted_44 rfl 0 rfl ?_
      obtain ⟨v18, e19, hf⟩ := sk_ob hf
      refine sk_getR K dX10_wanted_45 fl_X10_47 rfl e19 ?_
      obtain ⟨v20, e21, hf⟩ := sk_ob hf
      refine sk_getI K dX10_wanted_48 fl_X10_120 rfl e21 ?_
      refine sk_sipush (256 : Int32) K dX10_wanted_51 (by decide) ?_
      refine sk_iload K dX10_wanted_54 3 rfl ?_
      refine sk_ishl K dX10_wanted_56 ?_
      refine sk_ior K dX10_wanted_57 ?_
      obtain ⟨h24, hf⟩ := sk_ib hf
      obtain ⟨v22, e23, hf⟩ := sk_ob hf
      refine sk_callV (As := [.int (v20 ||| ((256 : Int32) <<< (s1.2.2 &&& 31)))]) (st := []) K dX10_wanted_58 cl_X10_341 h24 (sX9_sumDone C l e23) (by decide) rfl rfl (Nat.le_of_ble_eq_true rfl) R1 R2 ?_
      refine sk_lstore [(5, .long v22), (0, .ref p0), (1, .int s1.1), (2, .long s1.2.1), (4, .int s1.2.2)] K dX10_wanted_61 (by decide) rfl ?_
      refine sk_lload K dX10_wanted_63 0 rfl ?_
      refine sk_lload_n K dX10_wanted_65 rfl 3 rfl ?_
      refine sk_lcmp_le 76 K dX10_wanted_66 dX10_wanted_67 (by decide) (fun h25 => ?_) (fun h25 => ?_)
      · rw [if_pos h25] at hf
        refine sk_iinc (s1.2.2 + 1) [(4, .int (s1.2.2 + 1)), (5, .long v22), (0, .ref p0), (1, .int s1.1), (2, .long s1.2.1)] K dX10_wanted_76 4 rfl rfl (by decide) rfl ?_
        refine sk_goto 9 K dX10_wanted_79 (by decide) ?_
        refine sk_sub [(0, .ref p0), (1, .int s1.1), (2, .long s1.2.1), (4, .int (s1.2.2 + 1))] [2, 3, 4, 0] rfl ?_
        have h9 := ih1 _ (Option.some.inj hf).symm
        exact h9
      · rw [if_neg h25] at hf
        refine sk_lload K dX10_wanted_70 0 rfl ?_
        refine sk_lstore_n [(2, .long v22), (5, .long v22), (0, .ref p0), (1, .int s1.1), (4, .int s1.2.2)] K dX10_wanted_72 rfl (by decide) rfl ?_
        refine sk_iload K dX10_wanted_73 4 rfl ?_
        refine sk_istore_n [(1, .int s1.2.2), (2, .long v22), (5, .long v22), (0, .ref p0), (4, .int s1.2.2)] K dX10_wanted_75 rfl (by decide) rfl ?_
        refine sk_iinc (s1.2.2 + 1) [(4, .int (s1.2.2 + 1)), (1, .int s1.2.2), (2, .long v22), (5, .long v22), (0, .ref p0)] K dX10_wanted_76 4 rfl rfl (by decide) rfl ?_
        refine sk_goto 9 K dX10_wanted_79 (by decide) ?_
        refine sk_sub [(0, .ref p0), (1, .int s1.2.2), (2, .long v22), (4, .int (s1.2.2 + 1))] [4, 1, 2, 0] rfl ?_
        have h9 := ih1 _ (Option.some.inj hf).symm
        exact h9
noncomputable def fX10_numbers (S : sk_S) (d : sk_D) (p0 : Nat) (p1 : Int32) (p2 : Int32) (p3 : Int32) : Option (Int32 × sk_D) :=
  if p1 < 0 then (some ((-2 : Int32), d)) else (if (4 : Int32) ≤ p1 then (some ((-2 : Int32), d)) else (if p2 < 0 then (some ((-2 : Int32), d)) else (if p2 ≤ (3 : Int32) then (if p3 < 0 then (some ((-3 : Int32), d)) else (if p3 ≤ (40 : Int32) then ((sk_gR S p0 9 6).bind fun v11 => (sk_lR S v11 24 p1).bind fun v13 => if S.2.1 v13 = (6, 0) then ((fX6_begin S d v13 p2 p3).bind fun d17 => some ((0 : Int32), d17)) else none) else (some ((-3 : Int32), d)))) else (some ((-2 : Int32), d)))))
set_option maxRecDepth 100000 in
set_option maxHeartbeats 4000000 in
theorem sX10_numbers (C : sk_C) (l : Launch) {S : sk_S} {d : sk_D} {p0 : Nat} {p1 : Int32} {p2 : Int32} {p3 : Int32} {rr : Int32} {dd : sk_D} (hf : fX10_numbers S d p0 p1 p2 p3 = some (rr, dd)) : sk_Met C l 2 yX10_numbers cX10_numbers 4 (some .int) [.ref p0, .int p1, .int p2, .int p3] S d (some (.int rr)) S dd := by
  refine sk_Met.of (by decide) (Nat.le_of_ble_eq_true rfl) (Nat.le_refl _) (Nat.le_refl _) (fun X K0 hX => ?_)
  have K : sk_Ok X C cX10_numbers 4 RX10 "numbers" (some .int) 2 l (some (.int rr)) S dd := K0
  have R1 : X.2.2.2.2.2.2.2.2.2.2.2.1 ≤ S.1.1 ∧ X.2.2.2.2.2.2.2.2.2.2.2.2 ≤ S.1.2 := by rw [hX]; exact ⟨Nat.le_refl _, Nat.le_refl _⟩
  have R2 : S.1.1 ≤ S.1.1 ∧ S.1.2 ≤ S.1.2 := ⟨Nat.le_refl _, Nat.le_refl _⟩
  show sk_G X C 4 S d 0 [(0, .ref p0), (1, .int p1), (2, .int p2), (3, .int p3)] []
  unfold fX10_numbers at hf
  refine sk_iload_n K dX10_numbers_0 rfl 1 rfl ?_
  refine sk_if_lt 18 K dX10_numbers_1 (by decide) (fun h1 => ?_) (fun h1 => ?_)
  · rw [if_pos h1] at hf
    refine sk_bipush (-2 : Int32) K dX10_numbers_18 (by decide) ?_
    have hR2 : ((-2 : Int32), d) = (rr, dd) := Option.some.inj hf
    exact sk_iret K dX10_numbers_20 rfl rfl (congrArg (fun z => z.1) hR2) rfl (congrArg (fun z => z.2) hR2)
  · rw [if_neg h1] at hf
    refine sk_iload_n K dX10_numbers_4 rfl 1 rfl ?_
    refine sk_iconst (4 : Int32) K dX10_numbers_5 (by decide) ?_
    refine sk_icmp_ge 18 K dX10_numbers_6 (by decide) (fun h3 => ?_) (fun h3 => ?_)
    · rw [if_pos h3] at hf
      refine sk_bipush (-2 : Int32) K dX10_numbers_18 (by decide) ?_
      have hR4 : ((-2 : Int32), d) = (rr, dd) := Option.some.inj hf
      exact sk_iret K dX10_numbers_20 rfl rfl (congrArg (fun z => z.1) hR4) rfl (congrArg (fun z => z.2) hR4)
    · rw [if_neg h3] at hf
      refine sk_iload_n K dX10_numbers_9 rfl 2 rfl ?_
      refine sk_if_lt 18 K dX10_numbers_10 (by decide) (fun h5 => ?_) (fun h5 => ?_)
      · rw [if_pos h5] at hf
        refine sk_bipush (-2 : Int32) K dX10_numbers_18 (by decide) ?_
        have hR6 : ((-2 : Int32), d) = (rr, dd) := Option.some.inj hf
        exact sk_iret K dX10_numbers_20 rfl rfl (congrArg (fun z => z.1) hR6) rfl (congrArg (fun z => z.2) hR6)
      · rw [if_neg h5] at hf
        refine sk_iload_n K dX10_numbers_13 rfl 2 rfl ?_
        refine sk_iconst (3 : Int32) K dX10_numbers_14 (by decide) ?_
        refine sk_icmp_le 21 K dX10_numbers_15 (by decide) (fun h7 => ?_) (fun h7 => ?_)
        · rw [if_pos h7] at hf
          refine sk_iload_n K dX10_numbers_21 rfl 3 rfl ?_
          refine sk_if_lt 31 K dX10_numbers_22 (by decide) (fun h8 => ?_) (fun h8 => ?_)
          · rw [if_pos h8] at hf
            refine sk_bipush (-3 : Int32) K dX10_numbers_31 (by decide) ?_
            have hR9 : ((-3 : Int32), d) = (rr, dd) := Option.some.inj hf
            exact sk_iret K dX10_numbers_33 rfl rfl (congrArg (fun z => z.1) hR9) rfl (congrArg (fun z => z.2) hR9)
          · rw [if_neg h8] at hf
            refine sk_iload_n K dX10_numbers_25 rfl 3 rfl ?_
            refine sk_bipush (40 : Int32) K dX10_numbers_26 (by decide) ?_
            refine sk_icmp_le 34 K dX10_numbers_28 (by decide) (fun h10 => ?_) (fun h10 => ?_)
            · rw [if_pos h10] at hf
              refine sk_aload_n K dX10_numbers_34 rfl 0 rfl ?_
              obtain ⟨v11, e12, hf⟩ := sk_ob hf
              refine sk_getR K dX10_numbers_35 fl_X10_53 rfl e12 ?_
              refine sk_iload_n K dX10_numbers_38 rfl 1 rfl ?_
              obtain ⟨v13, e14, hf⟩ := sk_ob hf
              refine sk_ald24 K dX10_numbers_39 e14 ?_
              refine sk_iload_n K dX10_numbers_40 rfl 2 rfl ?_
              refine sk_iload_n K dX10_numbers_41 rfl 3 rfl ?_
              obtain ⟨h18, hf⟩ := sk_ib hf
              obtain ⟨d17, e16, hf⟩ := sk_ob hf
              refine sk_callV (As := [.int p2, .int p3]) (st := []) K dX10_numbers_42 cl_X10_346 h18 (sX6_begin C l e16) (by decide) rfl rfl (Nat.le_of_ble_eq_true rfl) R1 R2 ?_
              refine sk_iconst (0 : Int32) K dX10_numbers_45 (by decide) ?_
              have hR19 : ((0 : Int32), d17) = (rr, dd) := Option.some.inj hf
              exact sk_iret K dX10_numbers_46 rfl rfl (congrArg (fun z => z.1) hR19) rfl (congrArg (fun z => z.2) hR19)
            · rw [if_neg h10] at hf
              refine sk_bipush (-3 : Int32) K dX10_numbers_31 (by decide) ?_
              have hR20 : ((-3 : Int32), d) = (rr, dd) := Option.some.inj hf
              exact sk_iret K dX10_numbers_33 rfl rfl (congrArg (fun z => z.1) hR20) rfl (congrArg (fun z => z.2) hR20)
        · rw [if_neg h7] at hf
          refine sk_bipush (-2 : Int32) K dX10_numbers_18 (by decide) ?_
          have hR21 : ((-2 : Int32), d) = (rr, dd) := Option.some.inj hf
          exact sk_iret K dX10_numbers_20 rfl rfl (congrArg (fun z => z.1) hR21) rfl (congrArg (fun z => z.2) hR21)
noncomputable def fX10_write (S : sk_S) (d : sk_D) (p0 : Nat) (p1 : Int32) (p2 : Int32) (p3 : Int64) : Option (Int64 × sk_D) :=
  if S.2.1 p0 = (9, 0) then ((fX10_noTray S d p0 p1).bind fun v1 => if v1 = 0 then (if p2 < 0 then (some ((-7 : Int64), d)) else ((sk_gR S p0 9 6).bind fun v7 => (sk_lR S v7 24 p1).bind fun v9 => (sk_gI S d v9 6 2).bind fun v11 => if p2 < v11 then ((sk_gR S p0 9 6).bind fun v14 => (sk_lR S v14 24 p1).bind fun v16 => if S.2.1 v16 = (6, 0) then ((fX6_put S d v16 p2 p3).bind fun d20 => (sk_gR S p0 9 6).bind fun v22 => (sk_lR S v22 24 p1).bind fun v24 => if S.2.1 v24 = (6, 0) then ((fX6_at S d20 v24 p2).bind fun v26 => some (v26, d20)) else none) else none) else (some ((-7 : Int64), d)))) else (some (v1.toInt64, d))) else none
set_option maxRecDepth 100000 in
set_option maxHeartbeats 4000000 in
theorem sX10_write (C : sk_C) (l : Launch) {S : sk_S} {d : sk_D} {p0 : Nat} {p1 : Int32} {p2 : Int32} {p3 : Int64} {rr : Int64} {dd : sk_D} (hf : fX10_write S d p0 p1 p2 p3 = some (rr, dd)) : sk_Met C l 2 yX10_write cX10_write 6 (some .long) [.ref p0, .int p1, .int p2, .long p3] S d (some (.long rr)) S dd := by
  refine sk_Met.of (by decide) (Nat.le_of_ble_eq_true rfl) (Nat.le_refl _) (Nat.le_refl _) (fun X K0 hX => ?_)
  have K : sk_Ok X C cX10_write 6 RX10 "write" (some .long) 2 l (some (.long rr)) S dd := K0
  have R1 : X.2.2.2.2.2.2.2.2.2.2.2.1 ≤ S.1.1 ∧ X.2.2.2.2.2.2.2.2.2.2.2.2 ≤ S.1.2 := by rw [hX]; exact ⟨Nat.le_refl _, Nat.le_refl _⟩
  have R2 : S.1.1 ≤ S.1.1 ∧ S.1.2 ≤ S.1.2 := ⟨Nat.le_refl _, Nat.le_refl _⟩
  show sk_G X C 6 S d 0 [(0, .ref p0), (1, .int p1), (2, .int p2), (3, .long p3)] []
  unfold fX10_write at hf
  refine sk_aload_n K dX10_write_0 rfl 0 rfl ?_
  refine sk_iload_n K dX10_write_1 rfl 1 rfl ?_
  obtain ⟨h3, hf⟩ := sk_ib hf
  obtain ⟨v1, e2, hf⟩ := sk_ob hf
  refine sk_callV (As := [.int p1]) (st := []) K dX10_write_2 cl_X10_217 h3 (sX10_noTray C l e2) (by decide) rfl rfl (Nat.le_of_ble_eq_true rfl) R1 R2 ?_
  refine sk_istore [(5, .int v1), (0, .ref p0), (1, .int p1), (2, .int p2), (3, .long p3)] K dX10_write_5 (by decide) rfl ?_
  refine sk_iload K dX10_write_7 0 rfl ?_
  refine sk_if_eq 16 K dX10_write_9 (by decide) (fun h4 => ?_) (fun h4 => ?_)
  · rw [if_pos h4] at hf
    refine sk_iload_n K dX10_write_16 rfl 3 rfl ?_
    refine sk_if_lt 33 K dX10_write_17 (by decide) (fun h5 => ?_) (fun h5 => ?_)
    · rw [if_pos h5] at hf
      refine sk_ldc2 K dX10_write_33 qw_1276 ?_
      have hR6 : ((-7 : Int64), d) = (rr, dd) := Option.some.inj hf
      exact sk_lret K dX10_write_36 rfl rfl (congrArg (fun z => z.1) hR6) rfl (congrArg (fun z => z.2) hR6)
    · rw [if_neg h5] at hf
      refine sk_iload_n K dX10_write_20 rfl 3 rfl ?_
      refine sk_aload_n K dX10_write_21 rfl 1 rfl ?_
      obtain ⟨v7, e8, hf⟩ := sk_ob hf
      refine sk_getR K dX10_write_22 fl_X10_53 rfl e8 ?_
      refine sk_iload_n K dX10_write_25 rfl 2 rfl ?_
      obtain ⟨v9, e10, hf⟩ := sk_ob hf
      refine sk_ald24 K dX10_write_26 e10 ?_
      obtain ⟨v11, e12, hf⟩ := sk_ob hf
      refine sk_getI K dX10_write_27 fl_X10_212 rfl e12 ?_
      refine sk_icmp_lt 37 K dX10_write_30 (by decide) (fun h13 => ?_) (fun h13 => ?_)
      · rw [if_pos h13] at hf
        refine sk_aload_n K dX10_write_37 rfl 1 rfl ?_
        obtain ⟨v14, e15, hf⟩ := sk_ob hf
        refine sk_getR K dX10_write_38 fl_X10_53 rfl e15 ?_
        refine sk_iload_n K dX10_write_41 rfl 2 rfl ?_
        obtain ⟨v16, e17, hf⟩ := sk_ob hf
        refine sk_ald24 K dX10_write_42 e17 ?_
        refine sk_iload_n K dX10_write_43 rfl 3 rfl ?_
        refine sk_lload_n K dX10_write_44 rfl 4 rfl ?_
        obtain ⟨h21, hf⟩ := sk_ib hf
        obtain ⟨d20, e19, hf⟩ := sk_ob hf
        refine sk_callV (As := [.int p2, .long p3]) (st := []) K dX10_write_45 cl_X10_350 h21 (sX6_put C l e19) (by decide) rfl rfl (Nat.le_of_ble_eq_true rfl) R1 R2 ?_
        refine sk_aload_n K dX10_write_48 rfl 1 rfl ?_
        obtain ⟨v22, e23, hf⟩ := sk_ob hf
        refine sk_getR K dX10_write_49 fl_X10_53 rfl e23 ?_
        refine sk_iload_n K dX10_write_52 rfl 2 rfl ?_
        obtain ⟨v24, e25, hf⟩ := sk_ob hf
        refine sk_ald24 K dX10_write_53 e25 ?_
        refine sk_iload_n K dX10_write_54 rfl 3 rfl ?_
        obtain ⟨h28, hf⟩ := sk_ib hf
        obtain ⟨v26, e27, hf⟩ := sk_ob hf
        refine sk_callV (As := [.int p2]) (st := []) K dX10_write_55 cl_X10_213 h28 (sX6_at C l e27) (by decide) rfl rfl (Nat.le_of_ble_eq_true rfl) R1 R2 ?_
        have hR29 : (v26, d20) = (rr, dd) := Option.some.inj hf
        exact sk_lret K dX10_write_58 rfl rfl (congrArg (fun z => z.1) hR29) rfl (congrArg (fun z => z.2) hR29)
      · rw [if_neg h13] at hf
        refine sk_ldc2 K dX10_write_33 qw_1276 ?_
        have hR30 : ((-7 : Int64), d) = (rr, dd) := Option.some.inj hf
        exact sk_lret K dX10_write_36 rfl rfl (congrArg (fun z => z.1) hR30) rfl (congrArg (fun z => z.2) hR30)
  · rw [if_neg h4] at hf
    refine sk_iload K dX10_write_12 0 rfl ?_
    refine sk_i2l K dX10_write_14 ?_
    have hR31 : (v1.toInt64, d) = (rr, dd) := Option.some.inj hf
    exact sk_lret K dX10_write_15 rfl rfl (congrArg (fun z => z.1) hR31) rfl (congrArg (fun z => z.2) hR31)
noncomputable def fX10_image (S : sk_S) (d : sk_D) (p0 : Nat) (p1 : Int32) : Option (Int32 × sk_D) :=
  if p1 < 0 then (some ((-2 : Int32), d)) else (if p1 < (2 : Int32) then ((sk_gR S p0 9 7).bind fun v4 => (sk_lR S v4 25 p1).bind fun v6 => (sk_gR S p0 9 0).bind fun v8 => (sk_gR S v8 8 0).bind fun v10 => if S.2.1 v6 = (2, 0) then ((fX2_copyFrom S d v6 v10).bind fun d14 => (sk_gR S p0 9 8).bind fun v16 => (sk_gR S p0 9 5).bind fun v18 => (sk_gI S d14 v18 4 1).bind fun v20 => (sk_sI S d14 v16 20 p1 v20).bind fun d22 => some ((0 : Int32), d22)) else none) else (some ((-2 : Int32), d)))
set_option maxRecDepth 100000 in
set_option maxHeartbeats 4000000 in
theorem sX10_image (C : sk_C) (l : Launch) {S : sk_S} {d : sk_D} {p0 : Nat} {p1 : Int32} {rr : Int32} {dd : sk_D} (hf : fX10_image S d p0 p1 = some (rr, dd)) : sk_Met C l 3 yX10_image cX10_image 2 (some .int) [.ref p0, .int p1] S d (some (.int rr)) S dd := by
  refine sk_Met.of (by decide) (Nat.le_of_ble_eq_true rfl) (Nat.le_refl _) (Nat.le_refl _) (fun X K0 hX => ?_)
  have K : sk_Ok X C cX10_image 2 RX10 "image" (some .int) 3 l (some (.int rr)) S dd := K0
  have R1 : X.2.2.2.2.2.2.2.2.2.2.2.1 ≤ S.1.1 ∧ X.2.2.2.2.2.2.2.2.2.2.2.2 ≤ S.1.2 := by rw [hX]; exact ⟨Nat.le_refl _, Nat.le_refl _⟩
  have R2 : S.1.1 ≤ S.1.1 ∧ S.1.2 ≤ S.1.2 := ⟨Nat.le_refl _, Nat.le_refl _⟩
  show sk_G X C 2 S d 0 [(0, .ref p0), (1, .int p1)] []
  unfold fX10_image at hf
  refine sk_iload_n K dX10_image_0 rfl 1 rfl ?_
  refine sk_if_lt 9 K dX10_image_1 (by decide) (fun h1 => ?_) (fun h1 => ?_)
  · rw [if_pos h1] at hf
    refine sk_bipush (-2 : Int32) K dX10_image_9 (by decide) ?_
    have hR2 : ((-2 : Int32), d) = (rr, dd) := Option.some.inj hf
    exact sk_iret K dX10_image_11 rfl rfl (congrArg (fun z => z.1) hR2) rfl (congrArg (fun z => z.2) hR2)
  · rw [if_neg h1] at hf
    refine sk_iload_n K dX10_image_4 rfl 1 rfl ?_
    refine sk_iconst (2 : Int32) K dX10_image_5 (by decide) ?_
    refine sk_icmp_lt 12 K dX10_image_6 (by decide) (fun h3 => ?_) (fun h3 => ?_)
    · rw [if_pos h3] at hf
      refine sk_aload_n K dX10_image_12 rfl 0 rfl ?_
      obtain ⟨v4, e5, hf⟩ := sk_ob hf
      refine sk_getR K dX10_image_13 fl_X10_59 rfl e5 ?_
      refine sk_iload_n K dX10_image_16 rfl 1 rfl ?_
      obtain ⟨v6, e7, hf⟩ := sk_ob hf
      refine sk_ald25 K dX10_image_17 e7 ?_
      refine sk_aload_n K dX10_image_18 rfl 0 rfl ?_
      obtain ⟨v8, e9, hf⟩ := sk_ob hf
      refine sk_getR K dX10_image_19 fl_X10_10 rfl e9 ?_
      obtain ⟨v10, e11, hf⟩ := sk_ob hf
      refine sk_getR K dX10_image_22 fl_X10_98 rfl e11 ?_
      obtain ⟨h15, hf⟩ := sk_ib hf
      obtain ⟨d14, e13, hf⟩ := sk_ob hf
      refine sk_callV (As := [.ref v10]) (st := []) K dX10_image_25 cl_X10_354 h15 (sX2_copyFrom C l e13) (by decide) rfl rfl (Nat.le_of_ble_eq_true rfl) R1 R2 ?_
      refine sk_aload_n K dX10_image_28 rfl 0 rfl ?_
      obtain ⟨v16, e17, hf⟩ := sk_ob hf
      refine sk_getR K dX10_image_29 fl_X10_63 rfl e17 ?_
      refine sk_iload_n K dX10_image_32 rfl 1 rfl ?_
      refine sk_aload_n K dX10_image_33 rfl 0 rfl ?_
      obtain ⟨v18, e19, hf⟩ := sk_ob hf
      refine sk_getR K dX10_image_34 fl_X10_47 rfl e19 ?_
      obtain ⟨v20, e21, hf⟩ := sk_ob hf
      refine sk_getI K dX10_image_37 fl_X10_120 rfl e21 ?_
      obtain ⟨d22, e23, hf⟩ := sk_ob hf
      refine sk_ast20 d22 K dX10_image_40 e23 ?_
      refine sk_iconst (0 : Int32) K dX10_image_41 (by decide) ?_
      have hR24 : ((0 : Int32), d22) = (rr, dd) := Option.some.inj hf
      exact sk_iret K dX10_image_42 rfl rfl (congrArg (fun z => z.1) hR24) rfl (congrArg (fun z => z.2) hR24)
    · rw [if_neg h3] at hf
      refine sk_bipush (-2 : Int32) K dX10_image_9 (by decide) ?_
      have hR25 : ((-2 : Int32), d) = (rr, dd) := Option.some.inj hf
      exact sk_iret K dX10_image_11 rfl rfl (congrArg (fun z => z.1) hR25) rfl (congrArg (fun z => z.2) hR25)
noncomputable def fX10_restore (S : sk_S) (d : sk_D) (p0 : Nat) (p1 : Int32) : Option (Int32 × sk_D) :=
  if p1 < 0 then (some ((-2 : Int32), d)) else (if p1 < (2 : Int32) then ((sk_gR S p0 9 8).bind fun v4 => (sk_lI S d v4 20 p1).bind fun v6 => if 0 ≤ v6 then ((sk_gR S p0 9 7).bind fun v9 => (sk_lR S v9 25 p1).bind fun v11 => (sk_gR S p0 9 8).bind fun v13 => (sk_lI S d v13 20 p1).bind fun v15 => if S.2.1 p0 = (9, 0) then ((fX10_begin S d p0 v11 v15).bind fun d19 => some ((0 : Int32), d19)) else none) else (some ((-5 : Int32), d))) else (some ((-2 : Int32), d)))
set_option maxRecDepth 100000 in
set_option maxHeartbeats 4000000 in
theorem sX10_restore (C : sk_C) (l : Launch) {S : sk_S} {d : sk_D} {p0 : Nat} {p1 : Int32} {rr : Int32} {dd : sk_D} (hf : fX10_restore S d p0 p1 = some (rr, dd)) : sk_Met C l 5 yX10_restore cX10_restore 2 (some .int) [.ref p0, .int p1] S d (some (.int rr)) S dd := by
  refine sk_Met.of (by decide) (Nat.le_of_ble_eq_true rfl) (Nat.le_refl _) (Nat.le_refl _) (fun X K0 hX => ?_)
  have K : sk_Ok X C cX10_restore 2 RX10 "restore" (some .int) 5 l (some (.int rr)) S dd := K0
  have R1 : X.2.2.2.2.2.2.2.2.2.2.2.1 ≤ S.1.1 ∧ X.2.2.2.2.2.2.2.2.2.2.2.2 ≤ S.1.2 := by rw [hX]; exact ⟨Nat.le_refl _, Nat.le_refl _⟩
  have R2 : S.1.1 ≤ S.1.1 ∧ S.1.2 ≤ S.1.2 := ⟨Nat.le_refl _, Nat.le_refl _⟩
  show sk_G X C 2 S d 0 [(0, .ref p0), (1, .int p1)] []
  unfold fX10_restore at hf
  refine sk_iload_n K dX10_restore_0 rfl 1 rfl ?_
  refine sk_if_lt 9 K dX10_restore_1 (by decide) (fun h1 => ?_) (fun h1 => ?_)
  · rw [if_pos h1] at hf
    refine sk_bipush (-2 : Int32) K dX10_restore_9 (by decide) ?_
    have hR2 : ((-2 : Int32), d) = (rr, dd) := Option.some.inj hf
    exact sk_iret K dX10_restore_11 rfl rfl (congrArg (fun z => z.1) hR2) rfl (congrArg (fun z => z.2) hR2)
  · rw [if_neg h1] at hf
    refine sk_iload_n K dX10_restore_4 rfl 1 rfl ?_
    refine sk_iconst (2 : Int32) K dX10_restore_5 (by decide) ?_
    refine sk_icmp_lt 12 K dX10_restore_6 (by decide) (fun h3 => ?_) (fun h3 => ?_)
    · rw [if_pos h3] at hf
      refine sk_aload_n K dX10_restore_12 rfl 0 rfl ?_
      obtain ⟨v4, e5, hf⟩ := sk_ob hf
      refine sk_getR K dX10_restore_13 fl_X10_63 rfl e5 ?_
      refine sk_iload_n K dX10_restore_16 rfl 1 rfl ?_
      obtain ⟨v6, e7, hf⟩ := sk_ob hf
      refine sk_ald20 K dX10_restore_17 e7 ?_
      refine sk_if_ge 24 K dX10_restore_18 (by decide) (fun h8 => ?_) (fun h8 => ?_)
      · rw [if_pos h8] at hf
        refine sk_aload_n K dX10_restore_24 rfl 0 rfl ?_
        refine sk_aload_n K dX10_restore_25 rfl 0 rfl ?_
        obtain ⟨v9, e10, hf⟩ := sk_ob hf
        refine sk_getR K dX10_restore_26 fl_X10_59 rfl e10 ?_
        refine sk_iload_n K dX10_restore_29 rfl 1 rfl ?_
        obtain ⟨v11, e12, hf⟩ := sk_ob hf
        refine sk_ald25 K dX10_restore_30 e12 ?_
        refine sk_aload_n K dX10_restore_31 rfl 0 rfl ?_
        obtain ⟨v13, e14, hf⟩ := sk_ob hf
        refine sk_getR K dX10_restore_32 fl_X10_63 rfl e14 ?_
        refine sk_iload_n K dX10_restore_35 rfl 1 rfl ?_
        obtain ⟨v15, e16, hf⟩ := sk_ob hf
        refine sk_ald20 K dX10_restore_36 e16 ?_
        obtain ⟨h20, hf⟩ := sk_ib hf
        obtain ⟨d19, e18, hf⟩ := sk_ob hf
        refine sk_callV (As := [.ref v11, .int v15]) (st := []) K dX10_restore_37 cl_X10_94 h20 (sX10_begin C l e18) (by decide) rfl rfl (Nat.le_of_ble_eq_true rfl) R1 R2 ?_
        refine sk_iconst (0 : Int32) K dX10_restore_40 (by decide) ?_
        have hR21 : ((0 : Int32), d19) = (rr, dd) := Option.some.inj hf
        exact sk_iret K dX10_restore_41 rfl rfl (congrArg (fun z => z.1) hR21) rfl (congrArg (fun z => z.2) hR21)
      · rw [if_neg h8] at hf
        refine sk_bipush (-5 : Int32) K dX10_restore_21 (by decide) ?_
        have hR22 : ((-5 : Int32), d) = (rr, dd) := Option.some.inj hf
        exact sk_iret K dX10_restore_23 rfl rfl (congrArg (fun z => z.1) hR22) rfl (congrArg (fun z => z.2) hR22)
    · rw [if_neg h3] at hf
      refine sk_bipush (-2 : Int32) K dX10_restore_9 (by decide) ?_
      have hR23 : ((-2 : Int32), d) = (rr, dd) := Option.some.inj hf
      exact sk_iret K dX10_restore_11 rfl rfl (congrArg (fun z => z.1) hR23) rfl (congrArg (fun z => z.2) hR23)
noncomputable def fX10_count (S : sk_S) (d : sk_D) (p0 : Nat) (p1 : Int32) : Option (Int32) :=
  if p1 = (0 : Int32) then ((sk_gR S p0 9 0).bind fun v2 => (sk_gR S v2 8 0).bind fun v4 => (sk_gI S d v4 2 1).bind fun v6 => some v6) else (if p1 = (1 : Int32) then ((sk_gR S p0 9 0).bind fun v10 => (sk_gR S v10 8 0).bind fun v12 => (sk_gI S d v12 2 2).bind fun v14 => some v14) else (if p1 = (2 : Int32) then ((sk_gR S p0 9 0).bind fun v18 => (sk_gR S v18 8 0).bind fun v20 => (sk_gI S d v20 2 0).bind fun v22 => some v22) else (if p1 = (3 : Int32) then ((sk_gR S p0 9 0).bind fun v26 => (sk_gR S v26 8 0).bind fun v28 => (sk_gR S p0 9 5).bind fun v30 => (sk_gI S d v30 4 1).bind fun v32 => (fX10_liningIn S d v32).bind fun v34 => if S.2.1 v28 = (2, 0) then ((fX2_roomLeft S d v28 v34).bind fun v36 => some v36) else none) else (if p1 = (4 : Int32) then ((sk_gR S p0 9 5).bind fun v41 => (sk_gI S d v41 4 1).bind fun v43 => (fX10_doneIn S d v43).bind fun v45 => some v45) else (if p1 = (5 : Int32) then ((sk_gR S p0 9 5).bind fun v49 => (sk_gI S d v49 4 1).bind fun v51 => (fX10_liningIn S d v51).bind fun v53 => some v53) else (if p1 = (6 : Int32) then ((sk_gR S p0 9 5).bind fun v57 => (sk_gI S d v57 4 1).bind fun v59 => (fX10_liningIn S d v59).bind fun v61 => (sk_gR S p0 9 5).bind fun v63 => (sk_gI S d v63 4 1).bind fun v65 => (fX10_doneIn S d v65).bind fun v67 => some (v61 &&& (v67 ^^^ (-1 : Int32)))) else (if p1 = (7 : Int32) then ((sk_gR S p0 9 5).bind fun v71 => (sk_gI S d v71 4 1).bind fun v73 => (fX10_slipIn S d v73).bind fun v75 => some v75) else (if p1 = (8 : Int32) then ((sk_gR S p0 9 5).bind fun v79 => (sk_gI S d v79 4 2).bind fun v81 => some v81) else (if p1 = (9 : Int32) then ((sk_gI S d p0 9 10).bind fun v85 => some v85) else (if p1 = (10 : Int32) then ((sk_gR S p0 9 0).bind fun v89 => (sk_gR S v89 8 0).bind fun v91 => (sk_gI S d v91 2 4).bind fun v93 => some v93) else (some (-1 : Int32))))))))))))
set_option maxRecDepth 100000 in
set_option maxHeartbeats 4000000 in
theorem sX10_count (C : sk_C) (l : Launch) {S : sk_S} {d : sk_D} {p0 : Nat} {p1 : Int32} {rr : Int32} (hf : fX10_count S d p0 p1 = some rr) : sk_Met C l 1 yX10_count cX10_count 2 (some .int) [.ref p0, .int p1] S d (some (.int rr)) S d := by
  refine sk_Met.of (by decide) (Nat.le_of_ble_eq_true rfl) (Nat.le_refl _) (Nat.le_refl _) (fun X K0 hX => ?_)
  have K : sk_Ok X C cX10_count 2 RX10 "count" (some .int) 1 l (some (.int rr)) S d := K0
  have R1 : X.2.2.2.2.2.2.2.2.2.2.2.1 ≤ S.1.1 ∧ X.2.2.2.2.2.2.2.2.2.2.2.2 ≤ S.1.2 := by rw [hX]; exact ⟨Nat.le_refl _, Nat.le_refl _⟩
  have R2 : S.1.1 ≤ S.1.1 ∧ S.1.2 ≤ S.1.2 := ⟨Nat.le_refl _, Nat.le_refl _⟩
  show sk_G X C 2 S d 0 [(0, .ref p0), (1, .int p1)] []
  unfold fX10_count at hf
  refine sk_iload_n K dX10_count_0 rfl 1 rfl ?_
  by_cases h1 : p1 = (0 : Int32)
  · rw [if_pos h1] at hf
    refine sk_tsIn (0 : Int32) (59) 60 K dX10_count_1 h1 (by decide) (by decide) rfl (by decide) ?_
    refine sk_aload_n K dX10_count_60 rfl 0 rfl ?_
    obtain ⟨v2, e3, hf⟩ := sk_ob hf
    refine sk_getR K dX10_count_61 fl_X10_10 rfl e3 ?_
    obtain ⟨v4, e5, hf⟩ := sk_ob hf
    refine sk_getR K dX10_count_64 fl_X10_98 rfl e5 ?_
    obtain ⟨v6, e7, hf⟩ := sk_ob hf
    refine sk_getI K dX10_count_67 fl_X10_164 rfl e7 ?_
    have hR8 : v6 = rr := Option.some.inj hf
    exact sk_iret K dX10_count_70 rfl rfl hR8 rfl rfl
  · rw [if_neg h1] at hf
    by_cases h9 : p1 = (1 : Int32)
    · rw [if_pos h9] at hf
      refine sk_tsIn (1 : Int32) (70) 71 K dX10_count_1 h9 (by decide) (by decide) rfl (by decide) ?_
      refine sk_aload_n K dX10_count_71 rfl 0 rfl ?_
      obtain ⟨v10, e11, hf⟩ := sk_ob hf
      refine sk_getR K dX10_count_72 fl_X10_10 rfl e11 ?_
      obtain ⟨v12, e13, hf⟩ := sk_ob hf
      refine sk_getR K dX10_count_75 fl_X10_98 rfl e13 ?_
      obtain ⟨v14, e15, hf⟩ := sk_ob hf
      refine sk_getI K dX10_count_78 fl_X10_148 rfl e15 ?_
      have hR16 : v14 = rr := Option.some.inj hf
      exact sk_iret K dX10_count_81 rfl rfl hR16 rfl rfl
    · rw [if_neg h9] at hf
      by_cases h17 : p1 = (2 : Int32)
      · rw [if_pos h17] at hf
        refine sk_tsIn (2 : Int32) (81) 82 K dX10_count_1 h17 (by decide) (by decide) rfl (by decide) ?_
        refine sk_aload_n K dX10_count_82 rfl 0 rfl ?_
        obtain ⟨v18, e19, hf⟩ := sk_ob hf
        refine sk_getR K dX10_count_83 fl_X10_10 rfl e19 ?_
        obtain ⟨v20, e21, hf⟩ := sk_ob hf
        refine sk_getR K dX10_count_86 fl_X10_98 rfl e21 ?_
        obtain ⟨v22, e23, hf⟩ := sk_ob hf
        refine sk_getI K dX10_count_89 fl_X10_357 rfl e23 ?_
        have hR24 : v22 = rr := Option.some.inj hf
        exact sk_iret K dX10_count_92 rfl rfl hR24 rfl rfl
      · rw [if_neg h17] at hf
        by_cases h25 : p1 = (3 : Int32)
        · rw [if_pos h25] at hf
          refine sk_tsIn (3 : Int32) (92) 93 K dX10_count_1 h25 (by decide) (by decide) rfl (by decide) ?_
          refine sk_aload_n K dX10_count_93 rfl 0 rfl ?_
          obtain ⟨v26, e27, hf⟩ := sk_ob hf
          refine sk_getR K dX10_count_94 fl_X10_10 rfl e27 ?_
          obtain ⟨v28, e29, hf⟩ := sk_ob hf
          refine sk_getR K dX10_count_97 fl_X10_98 rfl e29 ?_
          refine sk_aload_n K dX10_count_100 rfl 0 rfl ?_
          obtain ⟨v30, e31, hf⟩ := sk_ob hf
          refine sk_getR K dX10_count_101 fl_X10_47 rfl e31 ?_
          obtain ⟨v32, e33, hf⟩ := sk_ob hf
          refine sk_getI K dX10_count_104 fl_X10_120 rfl e33 ?_
          obtain ⟨v34, e35, hf⟩ := sk_ob hf
          refine sk_callS (As := [.int v32]) (st := [.ref v28]) K dX10_count_107 cl_X10_170 (sX10_liningIn C l e35) (by decide) rfl rfl (Nat.le_of_ble_eq_true rfl) R1 R2 ?_
          obtain ⟨h38, hf⟩ := sk_ib hf
          obtain ⟨v36, e37, hf⟩ := sk_ob hf
          refine sk_callV (As := [.int v34]) (st := []) K dX10_count_110 cl_X10_178 h38 (sX2_roomLeft C l e37) (by decide) rfl rfl (Nat.le_of_ble_eq_true rfl) R1 R2 ?_
          have hR39 : v36 = rr := Option.some.inj hf
          exact sk_iret K dX10_count_113 rfl rfl hR39 rfl rfl
        · rw [if_neg h25] at hf
          by_cases h40 : p1 = (4 : Int32)
          · rw [if_pos h40] at hf
            refine sk_tsIn (4 : Int32) (113) 114 K dX10_count_1 h40 (by decide) (by decide) rfl (by decide) ?_
            refine sk_aload_n K dX10_count_114 rfl 0 rfl ?_
            obtain ⟨v41, e42, hf⟩ := sk_ob hf
            refine sk_getR K dX10_count_115 fl_X10_47 rfl e42 ?_
            obtain ⟨v43, e44, hf⟩ := sk_ob hf
            refine sk_getI K dX10_count_118 fl_X10_120 rfl e44 ?_
            obtain ⟨v45, e46, hf⟩ := sk_ob hf
            refine sk_callS (As := [.int v43]) (st := []) K dX10_count_121 cl_X10_158 (sX10_doneIn C l e46) (by decide) rfl rfl (Nat.le_of_ble_eq_true rfl) R1 R2 ?_
            have hR47 : v45 = rr := Option.some.inj hf
            exact sk_iret K dX10_count_124 rfl rfl hR47 rfl rfl
          · rw [if_neg h40] at hf
            by_cases h48 : p1 = (5 : Int32)
            · rw [if_pos h48] at hf
              refine sk_tsIn (5 : Int32) (124) 125 K dX10_count_1 h48 (by decide) (by decide) rfl (by decide) ?_
              refine sk_aload_n K dX10_count_125 rfl 0 rfl ?_
              obtain ⟨v49, e50, hf⟩ := sk_ob hf
              refine sk_getR K dX10_count_126 fl_X10_47 rfl e50 ?_
              obtain ⟨v51, e52, hf⟩ := sk_ob hf
              refine sk_getI K dX10_count_129 fl_X10_120 rfl e52 ?_
              obtain ⟨v53, e54, hf⟩ := sk_ob hf
              refine sk_callS (As := [.int v51]) (st := []) K dX10_count_132 cl_X10_170 (sX10_liningIn C l e54) (by decide) rfl rfl (Nat.le_of_ble_eq_true rfl) R1 R2 ?_
              have hR55 : v53 = rr := Option.some.inj hf
              exact sk_iret K dX10_count_135 rfl rfl hR55 rfl rfl
            · rw [if_neg h48] at hf
              by_cases h56 : p1 = (6 : Int32)
              · rw [if_pos h56] at hf
                refine sk_tsIn (6 : Int32) (135) 136 K dX10_count_1 h56 (by decide) (by decide) rfl (by decide) ?_
                refine sk_aload_n K dX10_count_136 rfl 0 rfl ?_
                obtain ⟨v57, e58, hf⟩ := sk_ob hf
                refine sk_getR K dX10_count_137 fl_X10_47 rfl e58 ?_
                obtain ⟨v59, e60, hf⟩ := sk_ob hf
                refine sk_getI K dX10_count_140 fl_X10_120 rfl e60 ?_
                obtain ⟨v61, e62, hf⟩ := sk_ob hf
                refine sk_callS (As := [.int v59]) (st := []) K dX10_count_143 cl_X10_170 (sX10_liningIn C l e62) (by decide) rfl rfl (Nat.le_of_ble_eq_true rfl) R1 R2 ?_
                refine sk_aload_n K dX10_count_146 rfl 0 rfl ?_
                obtain ⟨v63, e64, hf⟩ := sk_ob hf
                refine sk_getR K dX10_count_147 fl_X10_47 rfl e64 ?_
                obtain ⟨v65, e66, hf⟩ := sk_ob hf
                refine sk_getI K dX10_count_150 fl_X10_120 rfl e66 ?_
                obtain ⟨v67, e68, hf⟩ := sk_ob hf
                refine sk_callS (As := [.int v65]) (st := [.int v61]) K dX10_count_153 cl_X10_158 (sX10_doneIn C l e68) (by decide) rfl rfl (Nat.le_of_ble_eq_true rfl) R1 R2 ?_
                refine sk_iconst (-1 : Int32) K dX10_count_156 (by decide) ?_
                refine sk_ixor K dX10_count_157 ?_
                refine sk_iand K dX10_count_158 ?_
                have hR69 : (v61 &&& (v67 ^^^ (-1 : Int32))) = rr := Option.some.inj hf
                exact sk_iret K dX10_count_159 rfl rfl hR69 rfl rfl
              · rw [if_neg h56] at hf
                by_cases h70 : p1 = (7 : Int32)
                · rw [if_pos h70] at hf
                  refine sk_tsIn (7 : Int32) (159) 160 K dX10_count_1 h70 (by decide) (by decide) rfl (by decide) ?_
                  refine sk_aload_n K dX10_count_160 rfl 0 rfl ?_
                  obtain ⟨v71, e72, hf⟩ := sk_ob hf
                  refine sk_getR K dX10_count_161 fl_X10_47 rfl e72 ?_
                  obtain ⟨v73, e74, hf⟩ := sk_ob hf
                  refine sk_getI K dX10_count_164 fl_X10_120 rfl e74 ?_
                  obtain ⟨v75, e76, hf⟩ := sk_ob hf
                  refine sk_callS (As := [.int v73]) (st := []) K dX10_count_167 cl_X10_184 (sX10_slipIn C l e76) (by decide) rfl rfl (Nat.le_of_ble_eq_true rfl) R1 R2 ?_
                  have hR77 : v75 = rr := Option.some.inj hf
                  exact sk_iret K dX10_count_170 rfl rfl hR77 rfl rfl
                · rw [if_neg h70] at hf
                  by_cases h78 : p1 = (8 : Int32)
                  · rw [if_pos h78] at hf
                    refine sk_tsIn (8 : Int32) (170) 171 K dX10_count_1 h78 (by decide) (by decide) rfl (by decide) ?_
                    refine sk_aload_n K dX10_count_171 rfl 0 rfl ?_
                    obtain ⟨v79, e80, hf⟩ := sk_ob hf
                    refine sk_getR K dX10_count_172 fl_X10_47 rfl e80 ?_
                    obtain ⟨v81, e82, hf⟩ := sk_ob hf
                    refine sk_getI K dX10_count_175 fl_X10_194 rfl e82 ?_
                    have hR83 : v81 = rr := Option.some.inj hf
                    exact sk_iret K dX10_count_178 rfl rfl hR83 rfl rfl
                  · rw [if_neg h78] at hf
                    by_cases h84 : p1 = (9 : Int32)
                    · rw [if_pos h84] at hf
                      refine sk_tsIn (9 : Int32) (178) 179 K dX10_count_1 h84 (by decide) (by decide) rfl (by decide) ?_
                      refine sk_aload_n K dX10_count_179 rfl 0 rfl ?_
                      obtain ⟨v85, e86, hf⟩ := sk_ob hf
                      refine sk_getI K dX10_count_180 fl_X10_70 rfl e86 ?_
                      have hR87 : v85 = rr := Option.some.inj hf
                      exact sk_iret K dX10_count_183 rfl rfl hR87 rfl rfl
                    · rw [if_neg h84] at hf
                      by_cases h88 : p1 = (10 : Int32)
                      · rw [if_pos h88] at hf
                        refine sk_tsIn (10 : Int32) (183) 184 K dX10_count_1 h88 (by decide) (by decide) rfl (by decide) ?_
                        refine sk_aload_n K dX10_count_184 rfl 0 rfl ?_
                        obtain ⟨v89, e90, hf⟩ := sk_ob hf
                        refine sk_getR K dX10_count_185 fl_X10_10 rfl e90 ?_
                        obtain ⟨v91, e92, hf⟩ := sk_ob hf
                        refine sk_getR K dX10_count_188 fl_X10_98 rfl e92 ?_
                        obtain ⟨v93, e94, hf⟩ := sk_ob hf
                        refine sk_getI K dX10_count_191 fl_X10_101 rfl e94 ?_
                        have hR95 : v93 = rr := Option.some.inj hf
                        exact sk_iret K dX10_count_194 rfl rfl hR95 rfl rfl
                      · rw [if_neg h88] at hf
                        refine sk_tsOut 195 K dX10_count_1 (sk_tsout (0) 11 [(0 : Int32), (1 : Int32), (2 : Int32), (3 : Int32), (4 : Int32), (5 : Int32), (6 : Int32), (7 : Int32), (8 : Int32), (9 : Int32), (10 : Int32)] (by decide) (by simp [h1, h9, h17, h25, h40, h48, h56, h70, h78, h84, h88])) (by decide) ?_
                        refine sk_iconst (-1 : Int32) K dX10_count_195 (by decide) ?_
                        have hR96 : (-1 : Int32) = rr := Option.some.inj hf
                        exact sk_iret K dX10_count_196 rfl rfl hR96 rfl rfl
noncomputable def fX11_within (S : sk_S) (d : sk_D) (p0 : Int64) (p2 : Int64) (p4 : Int64) : Option (Bool) :=
  if p0 < p2 then (some false) else (if p4 < p0 then (some false) else (some true))
set_option maxRecDepth 100000 in
set_option maxHeartbeats 4000000 in
theorem sX11_within (C : sk_C) (l : Launch) {S : sk_S} {d : sk_D} {p0 : Int64} {p2 : Int64} {p4 : Int64} {rr : Bool} (hf : fX11_within S d p0 p2 p4 = some rr) : sk_Met C l 0 yX11_within cX11_within 6 (some .boolean) [.long p0, .long p2, .long p4] S d (some (.int (sk_b rr))) S d := by
  refine sk_Met.of (by decide) (Nat.le_of_ble_eq_true rfl) (Nat.le_refl _) (Nat.le_refl _) (fun X K0 hX => ?_)
  have K : sk_Ok X C cX11_within 6 RX11 "within" (some .boolean) 0 l (some (.int (sk_b rr))) S d := K0
  have R1 : X.2.2.2.2.2.2.2.2.2.2.2.1 ≤ S.1.1 ∧ X.2.2.2.2.2.2.2.2.2.2.2.2 ≤ S.1.2 := by rw [hX]; exact ⟨Nat.le_refl _, Nat.le_refl _⟩
  have R2 : S.1.1 ≤ S.1.1 ∧ S.1.2 ≤ S.1.2 := ⟨Nat.le_refl _, Nat.le_refl _⟩
  show sk_G X C 6 S d 0 [(0, .long p0), (2, .long p2), (4, .long p4)] []
  unfold fX11_within at hf
  refine sk_lload_n K dX11_within_0 rfl 0 rfl ?_
  refine sk_lload_n K dX11_within_1 rfl 1 rfl ?_
  refine sk_lcmp_lt 17 K dX11_within_2 dX11_within_3 (by decide) (fun h1 => ?_) (fun h1 => ?_)
  · rw [if_pos h1] at hf
    refine sk_iconst (0 : Int32) K dX11_within_17 (by decide) ?_
    have hR2 : false = rr := Option.some.inj hf
    exact sk_zret (x := false) K dX11_within_18 rfl rfl hR2 rfl rfl
  · rw [if_neg h1] at hf
    refine sk_lload_n K dX11_within_6 rfl 0 rfl ?_
    refine sk_lload K dX11_within_7 2 rfl ?_
    refine sk_lcmp_gt 17 K dX11_within_9 dX11_within_10 (by decide) (fun h3 => ?_) (fun h3 => ?_)
    · rw [if_pos h3] at hf
      refine sk_iconst (0 : Int32) K dX11_within_17 (by decide) ?_
      have hR4 : false = rr := Option.some.inj hf
      exact sk_zret (x := false) K dX11_within_18 rfl rfl hR4 rfl rfl
    · rw [if_neg h3] at hf
      refine sk_iconst (1 : Int32) K dX11_within_13 (by decide) ?_
      refine sk_goto 18 K dX11_within_14 (by decide) ?_
      have hR5 : true = rr := Option.some.inj hf
      exact sk_zret (x := true) K dX11_within_18 rfl rfl hR5 rfl rfl
noncomputable def fX11_plain_L2 (S : sk_S) (p0 : Nat) (s1 : Int32 × sk_D) : Option ((Int32 × sk_D) ⊕ (sk_D)) :=
  if (1075 : Int32) ≤ s1.1 then (some (.inr s1.2)) else ((sk_sI S s1.2 p0 20 s1.1 (0 : Int32)).bind fun d3 => some (.inl (s1.1 + 1, d3)))
noncomputable def fX11_plain (S : sk_S) (d : sk_D) (p0 : Nat) : Option (sk_D) :=
  (sk_itr (fX11_plain_L2 S p0) ((0 : Int32), d)).bind fun x1 => some x1
set_option maxRecDepth 100000 in
set_option maxHeartbeats 4000000 in
theorem sX11_plain (C : sk_C) (l : Launch) {S : sk_S} {d : sk_D} {p0 : Nat} {dd : sk_D} (hf : fX11_plain S d p0 = some dd) : sk_Met C l 0 yX11_plain cX11_plain 2 none [.ref p0] S d none S dd := by
  refine sk_Met.of (by decide) (Nat.le_of_ble_eq_true rfl) (Nat.le_refl _) (Nat.le_refl _) (fun X K0 hX => ?_)
  have K : sk_Ok X C cX11_plain 2 RX11 "plain" none 0 l none S dd := K0
  have R1 : X.2.2.2.2.2.2.2.2.2.2.2.1 ≤ S.1.1 ∧ X.2.2.2.2.2.2.2.2.2.2.2.2 ≤ S.1.2 := by rw [hX]; exact ⟨Nat.le_refl _, Nat.le_refl _⟩
  have R2 : S.1.1 ≤ S.1.1 ∧ S.1.2 ≤ S.1.2 := ⟨Nat.le_refl _, Nat.le_refl _⟩
  show sk_G X C 2 S d 0 [(0, .ref p0)] []
  unfold fX11_plain at hf
  refine sk_iconst (0 : Int32) K dX11_plain_0 (by decide) ?_
  refine sk_istore_n [(1, .int (0 : Int32)), (0, .ref p0)] K dX11_plain_1 rfl (by decide) rfl ?_
  obtain ⟨x1, he1, hf⟩ := sk_ob hf
  have hret1 : ∀ r, r = x1 → r = dd := by
    intro r hr
    subst hr
    exact Option.some.inj hf
  refine sk_sub [(0, .ref p0), (1, .int (0 : Int32))] [1, 0] rfl ?_
  refine sk_loop (fun s1 => sk_G X C 2 S s1.2 2 [(0, .ref p0), (1, .int s1.1)] []) he1 (fun s1 o1 hf ih1 hx1 => ?_)
  unfold fX11_plain_L2 at hf
  refine sk_iload_n K dX11_plain_2 rfl 1 rfl ?_
  refine sk_sipush (1075 : Int32) K dX11_plain_3 (by decide) ?_
  refine sk_icmp_ge 19 K dX11_plain_6 (by decide) (fun h1 => ?_) (fun h1 => ?_)
  · rw [if_pos h1] at hf
    have hR2 : s1.2 = dd := hret1 _ (hx1 _ (Option.some.inj hf).symm)
    exact sk_vret K dX11_plain_19 rfl rfl rfl hR2
  · rw [if_neg h1] at hf
    refine sk_aload_n K dX11_plain_9 rfl 0 rfl ?_
    refine sk_iload_n K dX11_plain_10 rfl 1 rfl ?_
    refine sk_iconst (0 : Int32) K dX11_plain_11 (by decide) ?_
    obtain ⟨d3, e4, hf⟩ := sk_ob hf
    refine sk_ast20 d3 K dX11_plain_12 e4 ?_
    refine sk_iinc (s1.1 + 1) [(1, .int (s1.1 + 1)), (0, .ref p0)] K dX11_plain_13 1 rfl rfl (by decide) rfl ?_
    refine sk_goto 2 K dX11_plain_16 (by decide) ?_
    refine sk_sub [(0, .ref p0), (1, .int (s1.1 + 1))] [1, 0] rfl ?_
    have h9 := ih1 _ (Option.some.inj hf).symm
    exact h9
noncomputable def fX11_feed_J77i24 (S : sk_S) (p0 : Nat) (v6 : Int32) (v7 : Int32) (d8 : sk_D) : Option ((Int32 × sk_D) ⊕ (Int32 × sk_D)) :=
  (sk_gR S p0 10 3).bind fun v9 => (sk_gI S d8 p0 10 5).bind fun v11 => (sk_sI S d8 v9 20 v11 ((v7 >>> (((24 : Int32) - ((8 : Int32) * (v6 - v6 / (4 : Int32) * (4 : Int32)))) &&& 31)) &&& (255 : Int32))).bind fun d13 => (sk_gI S d13 p0 10 5).bind fun v15 => (sk_pI S d13 p0 10 5 (v15 + (1 : Int32))).bind fun d17 => some (.inl (v6 + 1, d17))
noncomputable def fX11_feed_L24 (S : sk_S) (p0 : Nat) (p1 : Int32) (p2 : Int32) (p3 : Int32) (p4 : Int32) (p5 : Int32) (s1 : Int32 × sk_D) : Option ((Int32 × sk_D) ⊕ (Int32 × sk_D)) :=
  if (20 : Int32) ≤ s1.1 then ((sk_gI S s1.2 p0 10 5).bind fun v20 => some (.inr (v20, s1.2))) else (if (4 : Int32) ≤ s1.1 then (if (8 : Int32) ≤ s1.1 then (if (12 : Int32) ≤ s1.1 then (if (16 : Int32) ≤ s1.1 then (fX11_feed_J77i24 S p0 s1.1 p5 s1.2) else (fX11_feed_J77i24 S p0 s1.1 p4 s1.2)) else (fX11_feed_J77i24 S p0 s1.1 p3 s1.2)) else (fX11_feed_J77i24 S p0 s1.1 p2 s1.2)) else (fX11_feed_J77i24 S p0 s1.1 p1 s1.2))
noncomputable def fX11_feed (S : sk_S) (d : sk_D) (p0 : Nat) (p1 : Int32) (p2 : Int32) (p3 : Int32) (p4 : Int32) (p5 : Int32) : Option (Int32 × sk_D) :=
  (sk_pI S d p0 10 0 (0 : Int32)).bind fun d1 => (sk_gI S d1 p0 10 5).bind fun v3 => if (v3 + (20 : Int32)) ≤ (900 : Int32) then ((sk_itr (fX11_feed_L24 S p0 p1 p2 p3 p4 p5) ((0 : Int32), d1)).bind fun x1 => some x1) else (some ((-5 : Int32), d1))
set_option maxRecDepth 100000 in
set_option maxHeartbeats 4000000 in
theorem sX11_feed (C : sk_C) (l : Launch) {S : sk_S} {d : sk_D} {p0 : Nat} {p1 : Int32} {p2 : Int32} {p3 : Int32} {p4 : Int32} {p5 : Int32} {rr : Int32} {dd : sk_D} (hf : fX11_feed S d p0 p1 p2 p3 p4 p5 = some (rr, dd)) : sk_Met C l 0 yX11_feed cX11_feed 8 (some .int) [.ref p0, .int p1, .int p2, .int p3, .int p4, .int p5] S d (some (.int rr)) S dd := by
  refine sk_Met.of (by decide) (Nat.le_of_ble_eq_true rfl) (Nat.le_refl _) (Nat.le_refl _) (fun X K0 hX => ?_)
  have K : sk_Ok X C cX11_feed 8 RX11 "feed" (some .int) 0 l (some (.int rr)) S dd := K0
  have R1 : X.2.2.2.2.2.2.2.2.2.2.2.1 ≤ S.1.1 ∧ X.2.2.2.2.2.2.2.2.2.2.2.2 ≤ S.1.2 := by rw [hX]; exact ⟨Nat.le_refl _, Nat.le_refl _⟩
  have R2 : S.1.1 ≤ S.1.1 ∧ S.1.2 ≤ S.1.2 := ⟨Nat.le_refl _, Nat.le_refl _⟩
  show sk_G X C 8 S d 0 [(0, .ref p0), (1, .int p1), (2, .int p2), (3, .int p3), (4, .int p4), (5, .int p5)] []
  unfold fX11_feed at hf
  refine sk_aload_n K dX11_feed_0 rfl 0 rfl ?_
  refine sk_iconst (0 : Int32) K dX11_feed_1 (by decide) ?_
  obtain ⟨d1, e2, hf⟩ := sk_ob hf
  refine sk_putI d1 K dX11_feed_2 fl_X11_1 rfl rfl rfl e2 ?_
  refine sk_aload_n K dX11_feed_5 rfl 0 rfl ?_
  obtain ⟨v3, e4, hf⟩ := sk_ob hf
  refine sk_getI K dX11_feed_6 fl_X11_88 rfl e4 ?_
  refine sk_bipush (20 : Int32) K dX11_feed_9 (by decide) ?_
  refine sk_iadd K dX11_feed_11 ?_
  refine sk_sipush (900 : Int32) K dX11_feed_12 (by decide) ?_
  refine sk_icmp_le 21 K dX11_feed_15 (by decide) (fun h5 => ?_) (fun h5 => ?_)
  · rw [if_pos h5] at hf
    refine sk_iconst (0 : Int32) K dX11_feed_21 (by decide) ?_
    refine sk_istore [(6, .int (0 : Int32)), (0, .ref p0), (1, .int p1), (2, .int p2), (3, .int p3), (4, .int p4), (5, .int p5)] K dX11_feed_22 (by decide) rfl ?_
    obtain ⟨x1, he1, hf⟩ := sk_ob hf
    have hret1 : ∀ r, r = x1 → r = (rr, dd) := by
      intro r hr
      subst hr
      exact Option.some.inj hf
    refine sk_sub [(0, .ref p0), (1, .int p1), (2, .int p2), (3, .int p3), (4, .int p4), (5, .int p5), (6, .int (0 : Int32))] [1, 2, 3, 4, 5, 6, 0] rfl ?_
    refine sk_loop (fun s1 => sk_G X C 8 S s1.2 24 [(0, .ref p0), (1, .int p1), (2, .int p2), (3, .int p3), (4, .int p4), (5, .int p5), (6, .int s1.1)] []) he1 (fun s1 o1 hf ih1 hx1 => ?_)
    unfold fX11_feed_L24 at hf
    have j77_1 : ∀ (v6 : Int32) (v7 : Int32) (d8 : sk_D), fX11_feed_J77i24 S p0 v6 v7 d8 = some o1 → sk_G X C 8 S d8 77 [(0, .ref p0), (1, .int p1), (2, .int p2), (3, .int p3), (4, .int p4), (5, .int p5), (6, .int v6)] [.int v7] := by
      intro v6 v7 d8 hf
      unfold fX11_feed_J77i24 at hf
      refine sk_istore [(7, .int v7), (0, .ref p0), (1, .int p1), (2, .int p2), (3, .int p3), (4, .int p4), (5, .int p5), (6, .int v6)] K dX11_feed_77 (by decide) rfl ?_
      refine sk_aload_n K dX11_feed_79 rfl 1 rfl ?_
      obtain ⟨v9, e10, hf⟩ := sk_ob hf
      refine sk_getR K dX11_feed_80 fl_X11_21 rfl e10 ?_
      refine sk_aload_n K dX11_feed_83 rfl 1 rfl ?_
      obtain ⟨v11, e12, hf⟩ := sk_ob hf
      refine sk_getI K dX11_feed_84 fl_X11_88 rfl e12 ?_
      refine sk_iload K dX11_feed_87 0 rfl ?_
      refine sk_bipush (24 : Int32) K dX11_feed_89 (by decide) ?_
      refine sk_bipush (8 : Int32) K dX11_feed_91 (by decide) ?_
      refine sk_iload K dX11_feed_93 7 rfl ?_
      refine sk_iconst (4 : Int32) K dX11_feed_95 (by decide) ?_
      refine sk_irem K dX11_feed_96 (by decide) ?_
      refine sk_imul K dX11_feed_97 ?_
      refine sk_isub K dX11_feed_98 ?_
      refine sk_ishr K dX11_feed_99 ?_
      refine sk_sipush (255 : Int32) K dX11_feed_100 (by decide) ?_
      refine sk_iand K dX11_feed_103 ?_
      obtain ⟨d13, e14, hf⟩ := sk_ob hf
      refine sk_ast20 d13 K dX11_feed_104 e14 ?_
      refine sk_aload_n K dX11_feed_105 rfl 1 rfl ?_
      refine sk_dup K dX11_feed_106 rfl ?_
      obtain ⟨v15, e16, hf⟩ := sk_ob hf
      refine sk_getI K dX11_feed_107 fl_X11_88 rfl e16 ?_
      refine sk_iconst (1 : Int32) K dX11_feed_110 (by decide) ?_
      refine sk_iadd K dX11_feed_111 ?_
      obtain ⟨d17, e18, hf⟩ := sk_ob hf
      refine sk_putI d17 K dX11_feed_112 fl_X11_88 rfl rfl rfl e18 ?_
      refine sk_iinc (v6 + 1) [(6, .int (v6 + 1)), (7, .int v7), (0, .ref p0), (1, .int p1), (2, .int p2), (3, .int p3), (4, .int p4), (5, .int p5)] K dX11_feed_115 7 rfl rfl (by decide) rfl ?_
      refine sk_goto 24 K dX11_feed_118 (by decide) ?_
      refine sk_sub [(0, .ref p0), (1, .int p1), (2, .int p2), (3, .int p3), (4, .int p4), (5, .int p5), (6, .int (v6 + 1))] [2, 3, 4, 5, 6, 7, 0] rfl ?_
      have h9 := ih1 _ (Option.some.inj hf).symm
      exact h9
    refine sk_iload K dX11_feed_24 6 rfl ?_
    refine sk_bipush (20 : Int32) K dX11_feed_26 (by decide) ?_
    refine sk_icmp_ge 121 K dX11_feed_28 (by decide) (fun h19 => ?_) (fun h19 => ?_)
    · rw [if_pos h19] at hf
      refine sk_aload_n K dX11_feed_121 rfl 0 rfl ?_
      obtain ⟨v20, e21, hf⟩ := sk_ob hf
      refine sk_getI K dX11_feed_122 fl_X11_88 rfl e21 ?_
      have hR22 : (v20, s1.2) = (rr, dd) := hret1 _ (hx1 _ (Option.some.inj hf).symm)
      exact sk_iret K dX11_feed_125 rfl rfl (congrArg (fun z => z.1) hR22) rfl (congrArg (fun z => z.2) hR22)
    · rw [if_neg h19] at hf
      refine sk_iload K dX11_feed_31 6 rfl ?_
      refine sk_iconst (4 : Int32) K dX11_feed_33 (by decide) ?_
      refine sk_icmp_ge 41 K dX11_feed_34 (by decide) (fun h23 => ?_) (fun h23 => ?_)
      · rw [if_pos h23] at hf
        refine sk_iload K dX11_feed_41 6 rfl ?_
        refine sk_bipush (8 : Int32) K dX11_feed_43 (by decide) ?_
        refine sk_icmp_ge 52 K dX11_feed_45 (by decide) (fun h24 => ?_) (fun h24 => ?_)
        · rw [if_pos h24] at hf
          refine sk_iload K dX11_feed_52 6 rfl ?_
          refine sk_bipush (12 : Int32) K dX11_feed_54 (by decide) ?_
          refine sk_icmp_ge 63 K dX11_feed_56 (by decide) (fun h25 => ?_) (fun h25 => ?_)
          · rw [if_pos h25] at hf
            refine sk_iload K dX11_feed_63 6 rfl ?_
            refine sk_bipush (16 : Int32) K dX11_feed_65 (by decide) ?_
            refine sk_icmp_ge 75 K dX11_feed_67 (by decide) (fun h26 => ?_) (fun h26 => ?_)
            · rw [if_pos h26] at hf
              refine sk_iload K dX11_feed_75 5 rfl ?_
              refine sk_sub [(0, .ref p0), (1, .int p1), (2, .int p2), (3, .int p3), (4, .int p4), (5, .int p5), (6, .int s1.1)] [0, 1, 2, 3, 4, 5, 6] rfl ?_
              have h9 := j77_1 _ _ _ hf
              exact h9
            · rw [if_neg h26] at hf
              refine sk_iload K dX11_feed_70 4 rfl ?_
              refine sk_goto 77 K dX11_feed_72 (by decide) ?_
              refine sk_sub [(0, .ref p0), (1, .int p1), (2, .int p2), (3, .int p3), (4, .int p4), (5, .int p5), (6, .int s1.1)] [0, 1, 2, 3, 4, 5, 6] rfl ?_
              have h9 := j77_1 _ _ _ hf
              exact h9
          · rw [if_neg h25] at hf
            refine sk_iload_n K dX11_feed_59 rfl 3 rfl ?_
            refine sk_goto 77 K dX11_feed_60 (by decide) ?_
            refine sk_sub [(0, .ref p0), (1, .int p1), (2, .int p2), (3, .int p3), (4, .int p4), (5, .int p5), (6, .int s1.1)] [0, 1, 2, 3, 4, 5, 6] rfl ?_
            have h9 := j77_1 _ _ _ hf
            exact h9
        · rw [if_neg h24] at hf
          refine sk_iload_n K dX11_feed_48 rfl 2 rfl ?_
          refine sk_goto 77 K dX11_feed_49 (by decide) ?_
          refine sk_sub [(0, .ref p0), (1, .int p1), (2, .int p2), (3, .int p3), (4, .int p4), (5, .int p5), (6, .int s1.1)] [0, 1, 2, 3, 4, 5, 6] rfl ?_
          have h9 := j77_1 _ _ _ hf
          exact h9
      · rw [if_neg h23] at hf
        refine sk_iload_n K dX11_feed_37 rfl 1 rfl ?_
        refine sk_goto 77 K dX11_feed_38 (by decide) ?_
        refine sk_sub [(0, .ref p0), (1, .int p1), (2, .int p2), (3, .int p3), (4, .int p4), (5, .int p5), (6, .int s1.1)] [0, 1, 2, 3, 4, 5, 6] rfl ?_
        have h9 := j77_1 _ _ _ hf
        exact h9
  · rw [if_neg h5] at hf
    refine sk_bipush (-5 : Int32) K dX11_feed_18 (by decide) ?_
    have hR27 : ((-5 : Int32), d1) = (rr, dd) := Option.some.inj hf
    exact sk_iret K dX11_feed_20 rfl rfl (congrArg (fun z => z.1) hR27) rfl (congrArg (fun z => z.2) hR27)
noncomputable def fX11_see (S : sk_S) (d : sk_D) (p0 : Nat) (p1 : Int32) : Option (Int32) :=
  (sk_gI S d p0 10 8).bind fun v1 => if v1 ≤ p1 then (some (-1 : Int32)) else ((sk_gR S p0 10 3).bind fun v5 => (sk_lI S d v5 20 p1).bind fun v7 => some v7)
set_option maxRecDepth 100000 in
set_option maxHeartbeats 4000000 in
theorem sX11_see (C : sk_C) (l : Launch) {S : sk_S} {d : sk_D} {p0 : Nat} {p1 : Int32} {rr : Int32} (hf : fX11_see S d p0 p1 = some rr) : sk_Met C l 0 yX11_see cX11_see 2 (some .int) [.ref p0, .int p1] S d (some (.int rr)) S d := by
  refine sk_Met.of (by decide) (Nat.le_of_ble_eq_true rfl) (Nat.le_refl _) (Nat.le_refl _) (fun X K0 hX => ?_)
  have K : sk_Ok X C cX11_see 2 RX11 "see" (some .int) 0 l (some (.int rr)) S d := K0
  have R1 : X.2.2.2.2.2.2.2.2.2.2.2.1 ≤ S.1.1 ∧ X.2.2.2.2.2.2.2.2.2.2.2.2 ≤ S.1.2 := by rw [hX]; exact ⟨Nat.le_refl _, Nat.le_refl _⟩
  have R2 : S.1.1 ≤ S.1.1 ∧ S.1.2 ≤ S.1.2 := ⟨Nat.le_refl _, Nat.le_refl _⟩
  show sk_G X C 2 S d 0 [(0, .ref p0), (1, .int p1)] []
  unfold fX11_see at hf
  refine sk_iload_n K dX11_see_0 rfl 1 rfl ?_
  refine sk_aload_n K dX11_see_1 rfl 0 rfl ?_
  obtain ⟨v1, e2, hf⟩ := sk_ob hf
  refine sk_getI K dX11_see_2 fl_X11_91 rfl e2 ?_
  refine sk_icmp_ge 17 K dX11_see_5 (by decide) (fun h3 => ?_) (fun h3 => ?_)
  · rw [if_pos h3] at hf
    refine sk_iconst (-1 : Int32) K dX11_see_17 (by decide) ?_
    have hR4 : (-1 : Int32) = rr := Option.some.inj hf
    exact sk_iret K dX11_see_18 rfl rfl hR4 rfl rfl
  · rw [if_neg h3] at hf
    refine sk_aload_n K dX11_see_8 rfl 0 rfl ?_
    obtain ⟨v5, e6, hf⟩ := sk_ob hf
    refine sk_getR K dX11_see_9 fl_X11_21 rfl e6 ?_
    refine sk_iload_n K dX11_see_12 rfl 1 rfl ?_
    obtain ⟨v7, e8, hf⟩ := sk_ob hf
    refine sk_ald20 K dX11_see_13 e8 ?_
    refine sk_goto 18 K dX11_see_14 (by decide) ?_
    have hR9 : v7 = rr := Option.some.inj hf
    exact sk_iret K dX11_see_18 rfl rfl hR9 rfl rfl
noncomputable def fX11_isSmall (S : sk_S) (d : sk_D) (p0 : Int32) : Option (Bool) :=
  if p0 < (97 : Int32) then (some false) else (if (122 : Int32) < p0 then (some false) else (some true))
set_option maxRecDepth 100000 in
set_option maxHeartbeats 4000000 in
theorem sX11_isSmall (C : sk_C) (l : Launch) {S : sk_S} {d : sk_D} {p0 : Int32} {rr : Bool} (hf : fX11_isSmall S d p0 = some rr) : sk_Met C l 0 yX11_isSmall cX11_isSmall 1 (some .boolean) [.int p0] S d (some (.int (sk_b rr))) S d := by
  refine sk_Met.of (by decide) (Nat.le_of_ble_eq_true rfl) (Nat.le_refl _) (Nat.le_refl _) (fun X K0 hX => ?_)
  have K : sk_Ok X C cX11_isSmall 1 RX11 "isSmall" (some .boolean) 0 l (some (.int (sk_b rr))) S d := K0
  have R1 : X.2.2.2.2.2.2.2.2.2.2.2.1 ≤ S.1.1 ∧ X.2.2.2.2.2.2.2.2.2.2.2.2 ≤ S.1.2 := by rw [hX]; exact ⟨Nat.le_refl _, Nat.le_refl _⟩
  have R2 : S.1.1 ≤ S.1.1 ∧ S.1.2 ≤ S.1.2 := ⟨Nat.le_refl _, Nat.le_refl _⟩
  show sk_G X C 1 S d 0 [(0, .int p0)] []
  unfold fX11_isSmall at hf
  refine sk_iload_n K dX11_isSmall_0 rfl 0 rfl ?_
  refine sk_bipush (97 : Int32) K dX11_isSmall_1 (by decide) ?_
  refine sk_icmp_lt 16 K dX11_isSmall_3 (by decide) (fun h1 => ?_) (fun h1 => ?_)
  · rw [if_pos h1] at hf
    refine sk_iconst (0 : Int32) K dX11_isSmall_16 (by decide) ?_
    have hR2 : false = rr := Option.some.inj hf
    exact sk_zret (x := false) K dX11_isSmall_17 rfl rfl hR2 rfl rfl
  · rw [if_neg h1] at hf
    refine sk_iload_n K dX11_isSmall_6 rfl 0 rfl ?_
    refine sk_bipush (122 : Int32) K dX11_isSmall_7 (by decide) ?_
    refine sk_icmp_gt 16 K dX11_isSmall_9 (by decide) (fun h3 => ?_) (fun h3 => ?_)
    · rw [if_pos h3] at hf
      refine sk_iconst (0 : Int32) K dX11_isSmall_16 (by decide) ?_
      have hR4 : false = rr := Option.some.inj hf
      exact sk_zret (x := false) K dX11_isSmall_17 rfl rfl hR4 rfl rfl
    · rw [if_neg h3] at hf
      refine sk_iconst (1 : Int32) K dX11_isSmall_12 (by decide) ?_
      refine sk_goto 17 K dX11_isSmall_13 (by decide) ?_
      have hR5 : true = rr := Option.some.inj hf
      exact sk_zret (x := true) K dX11_isSmall_17 rfl rfl hR5 rfl rfl
noncomputable def fX11_isDigit (S : sk_S) (d : sk_D) (p0 : Int32) : Option (Bool) :=
  if p0 < (48 : Int32) then (some false) else (if (57 : Int32) < p0 then (some false) else (some true))
set_option maxRecDepth 100000 in
set_option maxHeartbeats 4000000 in
theorem sX11_isDigit (C : sk_C) (l : Launch) {S : sk_S} {d : sk_D} {p0 : Int32} {rr : Bool} (hf : fX11_isDigit S d p0 = some rr) : sk_Met C l 0 yX11_isDigit cX11_isDigit 1 (some .boolean) [.int p0] S d (some (.int (sk_b rr))) S d := by
  refine sk_Met.of (by decide) (Nat.le_of_ble_eq_true rfl) (Nat.le_refl _) (Nat.le_refl _) (fun X K0 hX => ?_)
  have K : sk_Ok X C cX11_isDigit 1 RX11 "isDigit" (some .boolean) 0 l (some (.int (sk_b rr))) S d := K0
  have R1 : X.2.2.2.2.2.2.2.2.2.2.2.1 ≤ S.1.1 ∧ X.2.2.2.2.2.2.2.2.2.2.2.2 ≤ S.1.2 := by rw [hX]; exact ⟨Nat.le_refl _, Nat.le_refl _⟩
  have R2 : S.1.1 ≤ S.1.1 ∧ S.1.2 ≤ S.1.2 := ⟨Nat.le_refl _, Nat.le_refl _⟩
  show sk_G X C 1 S d 0 [(0, .int p0)] []
  unfold fX11_isDigit at hf
  refine sk_iload_n K dX11_isDigit_0 rfl 0 rfl ?_
  refine sk_bipush (48 : Int32) K dX11_isDigit_1 (by decide) ?_
  refine sk_icmp_lt 16 K dX11_isDigit_3 (by decide) (fun h1 => ?_) (fun h1 => ?_)
  · rw [if_pos h1] at hf
    refine sk_iconst (0 : Int32) K dX11_isDigit_16 (by decide) ?_
    have hR2 : false = rr := Option.some.inj hf
    exact sk_zret (x := false) K dX11_isDigit_17 rfl rfl hR2 rfl rfl
  · rw [if_neg h1] at hf
    refine sk_iload_n K dX11_isDigit_6 rfl 0 rfl ?_
    refine sk_bipush (57 : Int32) K dX11_isDigit_7 (by decide) ?_
    refine sk_icmp_gt 16 K dX11_isDigit_9 (by decide) (fun h3 => ?_) (fun h3 => ?_)
    · rw [if_pos h3] at hf
      refine sk_iconst (0 : Int32) K dX11_isDigit_16 (by decide) ?_
      have hR4 : false = rr := Option.some.inj hf
      exact sk_zret (x := false) K dX11_isDigit_17 rfl rfl hR4 rfl rfl
    · rw [if_neg h3] at hf
      refine sk_iconst (1 : Int32) K dX11_isDigit_12 (by decide) ?_
      refine sk_goto 17 K dX11_isDigit_13 (by decide) ?_
      have hR5 : true = rr := Option.some.inj hf
      exact sk_zret (x := true) K dX11_isDigit_17 rfl rfl hR5 rfl rfl
noncomputable def fX11_keyAt_L97  (s2 : Int32) : Option ((Int32) ⊕ (Int32)) :=
  (sk_ch 2 s2).bind fun v3 => if v3 = (32 : Int32) then (some (.inr s2)) else (some (.inl (s2 + 1)))
noncomputable def fX11_keyAt_J97i4 (v1 : Int32) (v2 : Int32) : Option ((Int32 × Int32) ⊕ (Int32)) :=
  (sk_itr fX11_keyAt_L97 v2).bind fun y2 => some (.inl (v1 + 1, y2 + 1))
noncomputable def fX11_keyAt_L15 (S : sk_S) (d : sk_D) (p0 : Nat) (t1_a : Int32) (s3 : Int32) : Option ((Int32) ⊕ (Int32)) :=
  (sk_ch 2 (t1_a + s3)).bind fun v17 => if v17 = (32 : Int32) then (some (.inr s3)) else ((sk_gI S d p0 10 6).bind fun v20 => (sk_gI S d p0 10 7).bind fun v22 => if v22 ≤ (v20 + s3) then (some (.inr s3)) else ((sk_gR S p0 10 3).bind fun v25 => (sk_gI S d p0 10 6).bind fun v27 => (sk_lI S d v25 20 (v27 + s3)).bind fun v29 => (sk_ch 2 (t1_a + s3)).bind fun v31 => if v29 = v31 then (some (.inl (s3 + 1))) else (some (.inr s3))))
noncomputable def fX11_keyAt_L4 (S : sk_S) (d : sk_D) (p0 : Nat) (s1 : Int32 × Int32) : Option ((Int32 × Int32) ⊕ (Int32)) :=
  if (101 : Int32) ≤ s1.2 then (some (.inr (22 : Int32))) else ((sk_itr (fX11_keyAt_L15 S d p0 s1.2) (0 : Int32)).bind fun y3 => (sk_ch 2 (s1.2 + y3)).bind fun v8 => if v8 = (32 : Int32) then ((sk_gI S d p0 10 6).bind fun v11 => (sk_gI S d p0 10 7).bind fun v13 => if (v11 + y3) = v13 then (some (.inr s1.1)) else (fX11_keyAt_J97i4 s1.1 s1.2)) else (fX11_keyAt_J97i4 s1.1 s1.2))
noncomputable def fX11_keyAt (S : sk_S) (d : sk_D) (p0 : Nat) : Option (Int32) :=
  (sk_itr (fX11_keyAt_L4 S d p0) ((0 : Int32), (1 : Int32))).bind fun x1 => some x1
set_option maxRecDepth 100000 in
set_option maxHeartbeats 4000000 in
theorem sX11_keyAt (C : sk_C) (l : Launch) {S : sk_S} {d : sk_D} {p0 : Nat} {rr : Int32} (hf : fX11_keyAt S d p0 = some rr) : sk_Met C l 7 yX11_keyAt cX11_keyAt 4 (some .int) [.ref p0] S d (some (.int rr)) S d := by
  refine sk_Met.of (by decide) (Nat.le_of_ble_eq_true rfl) (Nat.le_refl _) (Nat.le_refl _) (fun X K0 hX => ?_)
  have K : sk_Ok X C cX11_keyAt 4 RX11 "keyAt" (some .int) 7 l (some (.int rr)) S d := K0
  have R1 : X.2.2.2.2.2.2.2.2.2.2.2.1 ≤ S.1.1 ∧ X.2.2.2.2.2.2.2.2.2.2.2.2 ≤ S.1.2 := by rw [hX]; exact ⟨Nat.le_refl _, Nat.le_refl _⟩
  have R2 : S.1.1 ≤ S.1.1 ∧ S.1.2 ≤ S.1.2 := ⟨Nat.le_refl _, Nat.le_refl _⟩
  show sk_G X C 4 S d 0 [(0, .ref p0)] []
  unfold fX11_keyAt at hf
  refine sk_iconst (0 : Int32) K dX11_keyAt_0 (by decide) ?_
  refine sk_istore_n [(1, .int (0 : Int32)), (0, .ref p0)] K dX11_keyAt_1 rfl (by decide) rfl ?_
  refine sk_iconst (1 : Int32) K dX11_keyAt_2 (by decide) ?_
  refine sk_istore_n [(2, .int (1 : Int32)), (1, .int (0 : Int32)), (0, .ref p0)] K dX11_keyAt_3 rfl (by decide) rfl ?_
  obtain ⟨x1, he1, hf⟩ := sk_ob hf
  have hret1 : ∀ r, r = x1 → r = rr := by
    intro r hr
    subst hr
    exact Option.some.inj hf
  refine sk_sub [(0, .ref p0), (1, .int (0 : Int32)), (2, .int (1 : Int32))] [2, 1, 0] rfl ?_
  refine sk_loop (fun s1 => sk_G X C 4 S d 4 [(0, .ref p0), (1, .int s1.1), (2, .int s1.2)] []) he1 (fun s1 o1 hf ih1 hx1 => ?_)
  unfold fX11_keyAt_L4 at hf
  have j97_1 : ∀ (v1 : Int32) (v2 : Int32), fX11_keyAt_J97i4 v1 v2 = some o1 → sk_G X C 4 S d 97 [(0, .ref p0), (1, .int v1), (2, .int v2)] [] := by
    intro v1 v2 hf
    unfold fX11_keyAt_J97i4 at hf
    obtain ⟨x2, he2, hf⟩ := sk_ob hf
    have rest2 : ∀ y2, y2 = x2 → sk_G X C 4 S d 114 [(0, .ref p0), (1, .int v1), (2, .int y2)] [] := by
      intro y2 hy
      subst hy
      refine sk_iinc (y2 + 1) [(2, .int (y2 + 1)), (0, .ref p0), (1, .int v1)] K dX11_keyAt_114 2 rfl rfl (by decide) rfl ?_
      refine sk_iinc (v1 + 1) [(1, .int (v1 + 1)), (2, .int (y2 + 1)), (0, .ref p0)] K dX11_keyAt_117 2 rfl rfl (by decide) rfl ?_
      refine sk_goto 4 K dX11_keyAt_120 (by decide) ?_
      refine sk_sub [(0, .ref p0), (1, .int (v1 + 1)), (2, .int (y2 + 1))] [2, 0, 1] rfl ?_
      have h9 := ih1 _ (Option.some.inj hf).symm
      exact h9
    refine sk_sub [(0, .ref p0), (1, .int v1), (2, .int v2)] [0, 1, 2] rfl ?_
    refine sk_loop (fun s2 => sk_G X C 4 S d 97 [(0, .ref p0), (1, .int v1), (2, .int s2)] []) he2 (fun s2 o2 hf ih2 hx2 => ?_)
    unfold fX11_keyAt_L97 at hf
    refine sk_ldcS (2 : UInt32) K dX11_keyAt_97 sk_str_X11_94 ?_
    refine sk_iload_n K dX11_keyAt_99 rfl 2 rfl ?_
    obtain ⟨v3, e4, hf⟩ := sk_ob hf
    refine sk_charAt (k := 2) K dX11_keyAt_100 qw_1454 (by decide) (by decide) (Nat.le_of_ble_eq_true rfl) R2 e4 ?_
    refine sk_bipush (32 : Int32) K dX11_keyAt_103 (by decide) ?_
    refine sk_icmp_eq 114 K dX11_keyAt_105 (by decide) (fun h5 => ?_) (fun h5 => ?_)
    · rw [if_pos h5] at hf
      refine sk_sub [(0, .ref p0), (1, .int v1), (2, .int s2)] [0, 1, 2] rfl ?_
      have h9 := rest2 _ (hx2 _ (Option.some.inj hf).symm)
      exact h9
    · rw [if_neg h5] at hf
      refine sk_iinc (s2 + 1) [(2, .int (s2 + 1)), (0, .ref p0), (1, .int v1)] K dX11_keyAt_108 2 rfl rfl (by decide) rfl ?_
      refine sk_goto 97 K dX11_keyAt_111 (by decide) ?_
      refine sk_sub [(0, .ref p0), (1, .int v1), (2, .int (s2 + 1))] [1, 2, 0] rfl ?_
      have h9 := ih2 _ (Option.some.inj hf).symm
      exact h9
  refine sk_iload_n K dX11_keyAt_4 rfl 2 rfl ?_
  refine sk_ldcS (2 : UInt32) K dX11_keyAt_5 sk_str_X11_94 ?_
  refine sk_strlen (k := 2) (v := 101) K dX11_keyAt_7 qw_1453 (by decide) (by decide) (Nat.le_of_ble_eq_true rfl) R2 (by decide) ?_
  refine sk_icmp_ge 123 K dX11_keyAt_10 (by decide) (fun h6 => ?_) (fun h6 => ?_)
  · rw [if_pos h6] at hf
    refine sk_bipush (22 : Int32) K dX11_keyAt_123 (by decide) ?_
    have hR7 : (22 : Int32) = rr := hret1 _ (hx1 _ (Option.some.inj hf).symm)
    exact sk_iret K dX11_keyAt_125 rfl rfl hR7 rfl rfl
  · rw [if_neg h6] at hf
    refine sk_iconst (0 : Int32) K dX11_keyAt_13 (by decide) ?_
    refine sk_istore_n [(3, .int (0 : Int32)), (0, .ref p0), (1, .int s1.1), (2, .int s1.2)] K dX11_keyAt_14 rfl (by decide) rfl ?_
    obtain ⟨x3, he3, hf⟩ := sk_ob hf
    have rest3 : ∀ y3, y3 = x3 → sk_G X C 4 S d 69 [(0, .ref p0), (1, .int s1.1), (2, .int s1.2), (3, .int y3)] [] := by
      intro y3 hy
      subst hy
      refine sk_ldcS (2 : UInt32) K dX11_keyAt_69 sk_str_X11_94 ?_
      refine sk_iload_n K dX11_keyAt_71 rfl 2 rfl ?_
      refine sk_iload_n K dX11_keyAt_72 rfl 3 rfl ?_
      refine sk_iadd K dX11_keyAt_73 ?_
      obtain ⟨v8, e9, hf⟩ := sk_ob hf
      refine sk_charAt (k := 2) K dX11_keyAt_74 qw_1454 (by decide) (by decide) (Nat.le_of_ble_eq_true rfl) R2 e9 ?_
      refine sk_bipush (32 : Int32) K dX11_keyAt_77 (by decide) ?_
      refine sk_icmp_ne 97 K dX11_keyAt_79 (by decide) (fun h10 => ?_) (fun h10 => ?_)
      · rw [if_neg h10] at hf
        refine sk_sub [(0, .ref p0), (1, .int s1.1), (2, .int s1.2)] [0, 1, 2] rfl ?_
        have h9 := j97_1 _ _ hf
        exact h9
      · rw [if_pos h10] at hf
        refine sk_aload_n K dX11_keyAt_82 rfl 0 rfl ?_
        obtain ⟨v11, e12, hf⟩ := sk_ob hf
        refine sk_getI K dX11_keyAt_83 fl_X11_106 rfl e12 ?_
        refine sk_iload_n K dX11_keyAt_86 rfl 3 rfl ?_
        refine sk_iadd K dX11_keyAt_87 ?_
        refine sk_aload_n K dX11_keyAt_88 rfl 0 rfl ?_
        obtain ⟨v13, e14, hf⟩ := sk_ob hf
        refine sk_getI K dX11_keyAt_89 fl_X11_109 rfl e14 ?_
        refine sk_icmp_ne 97 K dX11_keyAt_92 (by decide) (fun h15 => ?_) (fun h15 => ?_)
        · rw [if_neg h15] at hf
          refine sk_sub [(0, .ref p0), (1, .int s1.1), (2, .int s1.2)] [0, 1, 2] rfl ?_
          have h9 := j97_1 _ _ hf
          exact h9
        · rw [if_pos h15] at hf
          refine sk_iload_n K dX11_keyAt_95 rfl 1 rfl ?_
          have hR16 : s1.1 = rr := hret1 _ (hx1 _ (Option.some.inj hf).symm)
          exact sk_iret K dX11_keyAt_96 rfl rfl hR16 rfl rfl
    refine sk_sub [(0, .ref p0), (1, .int s1.1), (2, .int s1.2), (3, .int (0 : Int32))] [1, 2, 3, 0] rfl ?_
    refine sk_loop (fun s3 => sk_G X C 4 S d 15 [(0, .ref p0), (1, .int s1.1), (2, .int s1.2), (3, .int s3)] []) he3 (fun s3 o3 hf ih3 hx3 => ?_)
    unfold fX11_keyAt_L15 at hf
    refine sk_ldcS (2 : UInt32) K dX11_keyAt_15 sk_str_X11_94 ?_
    refine sk_iload_n K dX11_keyAt_17 rfl 2 rfl ?_
    refine sk_iload_n K dX11_keyAt_18 rfl 3 rfl ?_
    refine sk_iadd K dX11_keyAt_19 ?_
    obtain ⟨v17, e18, hf⟩ := sk_ob hf
    refine sk_charAt (k := 2) K dX11_keyAt_20 qw_1454 (by decide) (by decide) (Nat.le_of_ble_eq_true rfl) R2 e18 ?_
    refine sk_bipush (32 : Int32) K dX11_keyAt_23 (by decide) ?_
    refine sk_icmp_eq 69 K dX11_keyAt_25 (by decide) (fun h19 => ?_) (fun h19 => ?_)
    · rw [if_pos h19] at hf
      refine sk_sub [(0, .ref p0), (1, .int s1.1), (2, .int s1.2), (3, .int s3)] [0, 1, 2, 3] rfl ?_
      have h9 := rest3 _ (hx3 _ (Option.some.inj hf).symm)
      exact h9
    · rw [if_neg h19] at hf
      refine sk_aload_n K dX11_keyAt_28 rfl 0 rfl ?_
      obtain ⟨v20, e21, hf⟩ := sk_ob hf
      refine sk_getI K dX11_keyAt_29 fl_X11_106 rfl e21 ?_
      refine sk_iload_n K dX11_keyAt_32 rfl 3 rfl ?_
      refine sk_iadd K dX11_keyAt_33 ?_
      refine sk_aload_n K dX11_keyAt_34 rfl 0 rfl ?_
      obtain ⟨v22, e23, hf⟩ := sk_ob hf
      refine sk_getI K dX11_keyAt_35 fl_X11_109 rfl e23 ?_
      refine sk_icmp_ge 69 K dX11_keyAt_38 (by decide) (fun h24 => ?_) (fun h24 => ?_)
      · rw [if_pos h24] at hf
        refine sk_sub [(0, .ref p0), (1, .int s1.1), (2, .int s1.2), (3, .int s3)] [0, 1, 2, 3] rfl ?_
        have h9 := rest3 _ (hx3 _ (Option.some.inj hf).symm)
        exact h9
      · rw [if_neg h24] at hf
        refine sk_aload_n K dX11_keyAt_41 rfl 0 rfl ?_
        obtain ⟨v25, e26, hf⟩ := sk_ob hf
        refine sk_getR K dX11_keyAt_42 fl_X11_21 rfl e26 ?_
        refine sk_aload_n K dX11_keyAt_45 rfl 0 rfl ?_
        obtain ⟨v27, e28, hf⟩ := sk_ob hf
        refine sk_getI K dX11_keyAt_46 fl_X11_106 rfl e28 ?_
        refine sk_iload_n K dX11_keyAt_49 rfl 3 rfl ?_
        refine sk_iadd K dX11_keyAt_50 ?_
        obtain ⟨v29, e30, hf⟩ := sk_ob hf
        refine sk_ald20 K dX11_keyAt_51 e30 ?_
        refine sk_ldcS (2 : UInt32) K dX11_keyAt_52 sk_str_X11_94 ?_
        refine sk_iload_n K dX11_keyAt_54 rfl 2 rfl ?_
        refine sk_iload_n K dX11_keyAt_55 rfl 3 rfl ?_
        refine sk_iadd K dX11_keyAt_56 ?_
        obtain ⟨v31, e32, hf⟩ := sk_ob hf
        refine sk_charAt (k := 2) K dX11_keyAt_57 qw_1454 (by decide) (by decide) (Nat.le_of_ble_eq_true rfl) R2 e32 ?_
        refine sk_icmp_ne 69 K dX11_keyAt_60 (by decide) (fun h33 => ?_) (fun h33 => ?_)
        · rw [if_neg h33] at hf
          refine sk_sub [(0, .ref p0), (1, .int s1.1), (2, .int s1.2), (3, .int s3)] [0, 1, 2, 3] rfl ?_
          have h9 := rest3 _ (hx3 _ (Option.some.inj hf).symm)
          exact h9
        · rw [if_pos h33] at hf
          refine sk_iinc (s3 + 1) [(3, .int (s3 + 1)), (0, .ref p0), (1, .int s1.1), (2, .int s1.2)] K dX11_keyAt_63 3 rfl rfl (by decide) rfl ?_
          refine sk_goto 15 K dX11_keyAt_66 (by decide) ?_
          refine sk_sub [(0, .ref p0), (1, .int s1.1), (2, .int s1.2), (3, .int (s3 + 1))] [1, 2, 3, 0] rfl ?_
          have h9 := ih3 _ (Option.some.inj hf).symm
          exact h9
