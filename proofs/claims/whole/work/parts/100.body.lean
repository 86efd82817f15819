noncomputable def fJ9_max_7cf53 (S : sk_S) (d : sk_D) (p0 : Int32) (p1 : Int32) : Option (Int32) :=
  if p0 < p1 then (some p1) else (some p0)
set_option maxRecDepth 100000 in
set_option maxHeartbeats 4000000 in
theorem sJ9_max_7cf53 (C : sk_C) (l : Launch) {S : sk_S} {d : sk_D} {p0 : Int32} {p1 : Int32} {rr : Int32} (hf : fJ9_max_7cf53 S d p0 p1 = some rr) : sk_Met C l 0 yJ9_max_7cf53 cJ9_max_7cf53 2 (some .int) [.int p0, .int p1] S d (some (.int rr)) S d := by
  refine sk_Met.of (by decide) (by decide) (Nat.le_refl _) (Nat.le_refl _) (fun X K0 hX => ?_)
  have K : sk_Ok X C cJ9_max_7cf53 2 RJ9 "max" (some .int) 0 l (some (.int rr)) S d := K0
  have R1 : X.2.2.2.2.2.2.2.2.2.2.2.1 ≤ S.1.1 ∧ X.2.2.2.2.2.2.2.2.2.2.2.2 ≤ S.1.2 := by rw [hX]; exact ⟨Nat.le_refl _, Nat.le_refl _⟩
  have R2 : S.1.1 ≤ S.1.1 ∧ S.1.2 ≤ S.1.2 := ⟨Nat.le_refl _, Nat.le_refl _⟩
  show sk_G X C 2 S d 0 [(0, .int p0), (1, .int p1)] []
  unfold fJ9_max_7cf53 at hf
  refine sk_iload_n K dJ9_max_7cf53_0 rfl 0 rfl ?_
  refine sk_iload_n K dJ9_max_7cf53_1 rfl 1 rfl ?_
  refine sk_icmp_lt 9 K dJ9_max_7cf53_2 (by decide) (fun h1 => ?_) (fun h1 => ?_)
  · rw [if_pos h1] at hf
    refine sk_iload_n K dJ9_max_7cf53_9 rfl 1 rfl ?_
    have hR2 : p1 = rr := Option.some.inj hf
    exact sk_iret K dJ9_max_7cf53_10 rfl rfl hR2 rfl rfl
  · rw [if_neg h1] at hf
    refine sk_iload_n K dJ9_max_7cf53_5 rfl 0 rfl ?_
    refine sk_goto 10 K dJ9_max_7cf53_6 (by decide) ?_
    have hR3 : p0 = rr := Option.some.inj hf
    exact sk_iret K dJ9_max_7cf53_10 rfl rfl hR3 rfl rfl
noncomputable def fJ6_bitCount_0f7a4 (S : sk_S) (d : sk_D) (p0 : Int32) : Option (Int32) :=
  some ((((((((p0 - (((p0.toUInt32 >>> ((1 : Int32).toUInt32 &&& Int32.toUInt32 31)).toInt32) &&& (1431655765 : Int32))) &&& (858993459 : Int32)) + ((((p0 - (((p0.toUInt32 >>> ((1 : Int32).toUInt32 &&& Int32.toUInt32 31)).toInt32) &&& (1431655765 : Int32))).toUInt32 >>> ((2 : Int32).toUInt32 &&& Int32.toUInt32 31)).toInt32) &&& (858993459 : Int32))) + (((((p0 - (((p0.toUInt32 >>> ((1 : Int32).toUInt32 &&& Int32.toUInt32 31)).toInt32) &&& (1431655765 : Int32))) &&& (858993459 : Int32)) + ((((p0 - (((p0.toUInt32 >>> ((1 : Int32).toUInt32 &&& Int32.toUInt32 31)).toInt32) &&& (1431655765 : Int32))).toUInt32 >>> ((2 : Int32).toUInt32 &&& Int32.toUInt32 31)).toInt32) &&& (858993459 : Int32))).toUInt32 >>> ((4 : Int32).toUInt32 &&& Int32.toUInt32 31)).toInt32)) &&& (252645135 : Int32)) + (((((((p0 - (((p0.toUInt32 >>> ((1 : Int32).toUInt32 &&& Int32.toUInt32 31)).toInt32) &&& (1431655765 : Int32))) &&& (858993459 : Int32)) + ((((p0 - (((p0.toUInt32 >>> ((1 : Int32).toUInt32 &&& Int32.toUInt32 31)).toInt32) &&& (1431655765 : Int32))).toUInt32 >>> ((2 : Int32).toUInt32 &&& Int32.toUInt32 31)).toInt32) &&& (858993459 : Int32))) + (((((p0 - (((p0.toUInt32 >>> ((1 : Int32).toUInt32 &&& Int32.toUInt32 31)).toInt32) &&& (1431655765 : Int32))) &&& (858993459 : Int32)) + ((((p0 - (((p0.toUInt32 >>> ((1 : Int32).toUInt32 &&& Int32.toUInt32 31)).toInt32) &&& (1431655765 : Int32))).toUInt32 >>> ((2 : Int32).toUInt32 &&& Int32.toUInt32 31)).toInt32) &&& (858993459 : Int32))).toUInt32 >>> ((4 : Int32).toUInt32 &&& Int32.toUInt32 31)).toInt32)) &&& (252645135 : Int32)).toUInt32 >>> ((8 : Int32).toUInt32 &&& Int32.toUInt32 31)).toInt32)) + ((((((((p0 - (((p0.toUInt32 >>> ((1 : Int32).toUInt32 &&& Int32.toUInt32 31)).toInt32) &&& (1431655765 : Int32))) &&& (858993459 : Int32)) + ((((p0 - (((p0.toUInt32 >>> ((1 : Int32).toUInt32 &&& Int32.toUInt32 31)).toInt32) &&& (1431655765 : Int32))).toUInt32 >>> ((2 : Int32).toUInt32 &&& Int32.toUInt32 31)).toInt32) &&& (858993459 : Int32))) + (((((p0 - (((p0.toUInt32 >>> ((1 : Int32).toUInt32 &&& Int32.toUInt32 31)).toInt32) &&& (1431655765 : Int32))) &&& (858993459 : Int32)) + ((((p0 - (((p0.toUInt32 >>> ((1 : Int32).toUInt32 &&& Int32.toUInt32 31)).toInt32) &&& (1431655765 : Int32))).toUInt32 >>> ((2 : Int32).toUInt32 &&& Int32.toUInt32 31)).toInt32) &&& (858993459 : Int32))).toUInt32 >>> ((4 : Int32).toUInt32 &&& Int32.toUInt32 31)).toInt32)) &&& (252645135 : Int32)) + (((((((p0 - (((p0.toUInt32 >>> ((1 : Int32).toUInt32 &&& Int32.toUInt32 31)).toInt32) &&& (1431655765 : Int32))) &&& (858993459 : Int32)) + ((((p0 - (((p0.toUInt32 >>> ((1 : Int32).toUInt32 &&& Int32.toUInt32 31)).toInt32) &&& (1431655765 : Int32))).toUInt32 >>> ((2 : Int32).toUInt32 &&& Int32.toUInt32 31)).toInt32) &&& (858993459 : Int32))) + (((((p0 - (((p0.toUInt32 >>> ((1 : Int32).toUInt32 &&& Int32.toUInt32 31)).toInt32) &&& (1431655765 : Int32))) &&& (858993459 : Int32)) + ((((p0 - (((p0.toUInt32 >>> ((1 : Int32).toUInt32 &&& Int32.toUInt32 31)).toInt32) &&& (1431655765 : Int32))).toUInt32 >>> ((2 : Int32).toUInt32 &&& Int32.toUInt32 31)).toInt32) &&& (858993459 : Int32))).toUInt32 >>> ((4 : Int32).toUInt32 &&& Int32.toUInt32 31)).toInt32)) &&& (252645135 : Int32)).toUInt32 >>> ((8 : Int32).toUInt32 &&& Int32.toUInt32 31)).toInt32)).toUInt32 >>> ((16 : Int32).toUInt32 &&& Int32.toUInt32 31)).toInt32)) &&& (63 : Int32))
set_option maxRecDepth 100000 in
set_option maxHeartbeats 4000000 in
theorem sJ6_bitCount_0f7a4 (C : sk_C) (l : Launch) {S : sk_S} {d : sk_D} {p0 : Int32} {rr : Int32} (hf : fJ6_bitCount_0f7a4 S d p0 = some rr) : sk_Met C l 0 yJ6_bitCount_0f7a4 cJ6_bitCount_0f7a4 1 (some .int) [.int p0] S d (some (.int rr)) S d := by
  refine sk_Met.of (by decide) (by decide) (Nat.le_refl _) (Nat.le_refl _) (fun X K0 hX => ?_)
  have K : sk_Ok X C cJ6_bitCount_0f7a4 1 RJ6 "bitCount" (some .int) 0 l (some (.int rr)) S d := K0
  have R1 : X.2.2.2.2.2.2.2.2.2.2.2.1 ≤ S.1.1 ∧ X.2.2.2.2.2.2.2.2.2.2.2.2 ≤ S.1.2 := by rw [hX]; exact ⟨Nat.le_refl _, Nat.le_refl _⟩
  have R2 : S.1.1 ≤ S.1.1 ∧ S.1.2 ≤ S.1.2 := ⟨Nat.le_refl _, Nat.le_refl _⟩
  show sk_G X C 1 S d 0 [(0, .int p0)] []
  unfold fJ6_bitCount_0f7a4 at hf
  refine sk_iload_n K dJ6_bitCount_0f7a4_0 rfl 0 rfl ?_
  refine sk_iload_n K dJ6_bitCount_0f7a4_1 rfl 0 rfl ?_
  refine sk_iconst (1 : Int32) K dJ6_bitCount_0f7a4_2 (by decide) ?_
  refine sk_iushr K dJ6_bitCount_0f7a4_3 ?_
  refine sk_ldcw K dJ6_bitCount_0f7a4_4 qw_824 ?_
  refine sk_iand K dJ6_bitCount_0f7a4_7 ?_
  refine sk_isub K dJ6_bitCount_0f7a4_8 ?_
  refine sk_istore_n [(0, .int (p0 - (((p0.toUInt32 >>> ((1 : Int32).toUInt32 &&& Int32.toUInt32 31)).toInt32) &&& (1431655765 : Int32))))] K dJ6_bitCount_0f7a4_9 rfl (by decide) rfl ?_
  refine sk_iload_n K dJ6_bitCount_0f7a4_10 rfl 0 rfl ?_
  refine sk_ldcw K dJ6_bitCount_0f7a4_11 qw_825 ?_
  refine sk_iand K dJ6_bitCount_0f7a4_14 ?_
  refine sk_iload_n K dJ6_bitCount_0f7a4_15 rfl 0 rfl ?_
  refine sk_iconst (2 : Int32) K dJ6_bitCount_0f7a4_16 (by decide) ?_
  refine sk_iushr K dJ6_bitCount_0f7a4_17 ?_
  refine sk_ldcw K dJ6_bitCount_0f7a4_18 qw_825 ?_
  refine sk_iand K dJ6_bitCount_0f7a4_21 ?_
  refine sk_iadd K dJ6_bitCount_0f7a4_22 ?_
  refine sk_istore_n [(0, .int (((p0 - (((p0.toUInt32 >>> ((1 : Int32).toUInt32 &&& Int32.toUInt32 31)).toInt32) &&& (1431655765 : Int32))) &&& (858993459 : Int32)) + ((((p0 - (((p0.toUInt32 >>> ((1 : Int32).toUInt32 &&& Int32.toUInt32 31)).toInt32) &&& (1431655765 : Int32))).toUInt32 >>> ((2 : Int32).toUInt32 &&& Int32.toUInt32 31)).toInt32) &&& (858993459 : Int32))))] K dJ6_bitCount_0f7a4_23 rfl (by decide) rfl ?_
  refine sk_iload_n K dJ6_bitCount_0f7a4_24 rfl 0 rfl ?_
  refine sk_iload_n K dJ6_bitCount_0f7a4_25 rfl 0 rfl ?_
  refine sk_iconst (4 : Int32) K dJ6_bitCount_0f7a4_26 (by decide) ?_
  refine sk_iushr K dJ6_bitCount_0f7a4_27 ?_
  refine sk_iadd K dJ6_bitCount_0f7a4_28 ?_
  refine sk_ldcw K dJ6_bitCount_0f7a4_29 qw_826 ?_
  refine sk_iand K dJ6_bitCount_0f7a4_32 ?_
  refine sk_istore_n [(0, .int (((((p0 - (((p0.toUInt32 >>> ((1 : Int32).toUInt32 &&& Int32.toUInt32 31)).toInt32) &&& (1431655765 : Int32))) &&& (858993459 : Int32)) + ((((p0 - (((p0.toUInt32 >>> ((1 : Int32).toUInt32 &&& Int32.toUInt32 31)).toInt32) &&& (1431655765 : Int32))).toUInt32 >>> ((2 : Int32).toUInt32 &&& Int32.toUInt32 31)).toInt32) &&& (858993459 : Int32))) + (((((p0 - (((p0.toUInt32 >>> ((1 : Int32).toUInt32 &&& Int32.toUInt32 31)).toInt32) &&& (1431655765 : Int32))) &&& (858993459 : Int32)) + ((((p0 - (((p0.toUInt32 >>> ((1 : Int32).toUInt32 &&& Int32.toUInt32 31)).toInt32) &&& (1431655765 : Int32))).toUInt32 >>> ((2 : Int32).toUInt32 &&& Int32.toUInt32 31)).toInt32) &&& (858993459 : Int32))).toUInt32 >>> ((4 : Int32).toUInt32 &&& Int32.toUInt32 31)).toInt32)) &&& (252645135 : Int32)))] K dJ6_bitCount_0f7a4_33 rfl (by decide) rfl ?_
  refine sk_iload_n K dJ6_bitCount_0f7a4_34 rfl 0 rfl ?_
  refine sk_iload_n K dJ6_bitCount_0f7a4_35 rfl 0 rfl ?_
  refine sk_bipush (8 : Int32) K dJ6_bitCount_0f7a4_36 (by decide) ?_
  refine sk_iushr K dJ6_bitCount_0f7a4_38 ?_
  refine sk_iadd K dJ6_bitCount_0f7a4_39 ?_
  refine sk_istore_n [(0, .int ((((((p0 - (((p0.toUInt32 >>> ((1 : Int32).toUInt32 &&& Int32.toUInt32 31)).toInt32) &&& (1431655765 : Int32))) &&& (858993459 : Int32)) + ((((p0 - (((p0.toUInt32 >>> ((1 : Int32).toUInt32 &&& Int32.toUInt32 31)).toInt32) &&& (1431655765 : Int32))).toUInt32 >>> ((2 : Int32).toUInt32 &&& Int32.toUInt32 31)).toInt32) &&& (858993459 : Int32))) + (((((p0 - (((p0.toUInt32 >>> ((1 : Int32).toUInt32 &&& Int32.toUInt32 31)).toInt32) &&& (1431655765 : Int32))) &&& (858993459 : Int32)) + ((((p0 - (((p0.toUInt32 >>> ((1 : Int32).toUInt32 &&& Int32.toUInt32 31)).toInt32) &&& (1431655765 : Int32))).toUInt32 >>> ((2 : Int32).toUInt32 &&& Int32.toUInt32 31)).toInt32) &&& (858993459 : Int32))).toUInt32 >>> ((4 : Int32).toUInt32 &&& Int32.toUInt32 31)).toInt32)) &&& (252645135 : Int32)) + (((((((p0 - (((p0.toUInt32 >>> ((1 : Int32).toUInt32 &&& Int32.toUInt32 31)).toInt32) &&& (1431655765 : Int32))) &&& (858993459 : Int32)) + ((((p0 - (((p0.toUInt32 >>> ((1 : Int32).toUInt32 &&& Int32.toUInt32 31)).toInt32) &&& (1431655765 : Int32))).toUInt32 >>> ((2 : Int32).toUInt32 &&& Int32.toUInt32 31)).toInt32) &&& (858993459 : Int32))) + (((((p0 - (((p0.toUInt32 >>> ((1 : Int32).toUInt32 &&& Int32.toUInt32 31)).toInt32) &&& (1431655765 : Int32))) &&& (858993459 : Int32)) + ((((p0 - (((p0.toUInt32 >>> ((1 : Int32).toUInt32 &&& Int32.toUInt32 31)).toInt32) &&& (1431655765 : Int32))).toUInt32 >>> ((2 : Int32).toUInt32 &&& Int32.toUInt32 31)).toInt32) &&& (858993459 : Int32))).toUInt32 >>> ((4 : Int32).toUInt32 &&& Int32.toUInt32 31)).toInt32)) &&& (252645135 : Int32)).toUInt32 >>> ((8 : Int32).toUInt32 &&& Int32.toUInt32 31)).toInt32)))] K dJ6_bitCount_0f7a4_40 rfl (by decide) rfl ?_
  refine sk_iload_n K dJ6_bitCount_0f7a4_41 rfl 0 rfl ?_
  refine sk_iload_n K dJ6_bitCount_0f7a4_42 rfl 0 rfl ?_
  refine sk_bipush (16 : Int32) K dJ6_bitCount_0f7a4_43 (by decide) ?_
  refine sk_iushr K dJ6_bitCount_0f7a4_45 ?_
  refine sk_iadd K dJ6_bitCount_0f7a4_46 ?_
  refine sk_istore_n [(0, .int (((((((p0 - (((p0.toUInt32 >>> ((1 : Int32).toUInt32 &&& Int32.toUInt32 31)).toInt32) &&& (1431655765 : Int32))) &&& (858993459 : Int32)) + ((((p0 - (((p0.toUInt32 >>> ((1 : Int32).toUInt32 &&& Int32.toUInt32 31)).toInt32) &&& (1431655765 : Int32))).toUInt32 >>> ((2 : Int32).toUInt32 &&& Int32.toUInt32 31)).toInt32) &&& (858993459 : Int32))) + (((((p0 - (((p0.toUInt32 >>> ((1 : Int32).toUInt32 &&& Int32.toUInt32 31)).toInt32) &&& (1431655765 : Int32))) &&& (858993459 : Int32)) + ((((p0 - (((p0.toUInt32 >>> ((1 : Int32).toUInt32 &&& Int32.toUInt32 31)).toInt32) &&& (1431655765 : Int32))).toUInt32 >>> ((2 : Int32).toUInt32 &&& Int32.toUInt32 31)).toInt32) &&& (858993459 : Int32))).toUInt32 >>> ((4 : Int32).toUInt32 &&& Int32.toUInt32 31)).toInt32)) &&& (252645135 : Int32)) + (((((((p0 - (((p0.toUInt32 >>> ((1 : Int32).toUInt32 &&& Int32.toUInt32 31)).toInt32) &&& (1431655765 : Int32))) &&& (858993459 : Int32)) + ((((p0 - (((p0.toUInt32 >>> ((1 : Int32).toUInt32 &&& Int32.toUInt32 31)).toInt32) &&& (1431655765 : Int32))).toUInt32 >>> ((2 : Int32).toUInt32 &&& Int32.toUInt32 31)).toInt32) &&& (858993459 : Int32))) + (((((p0 - (((p0.toUInt32 >>> ((1 : Int32).toUInt32 &&& Int32.toUInt32 31)).toInt32) &&& (1431655765 : Int32))) &&& (858993459 : Int32)) + ((((p0 - (((p0.toUInt32 >>> ((1 : Int32).toUInt32 &&& Int32.toUInt32 31)).toInt32) &&& (1431655765 : Int32))).toUInt32 >>> ((2 : Int32).toUInt32 &&& Int32.toUInt32 31)).toInt32) &&& (858993459 : Int32))).toUInt32 >>> ((4 : Int32).toUInt32 &&& Int32.toUInt32 31)).toInt32)) &&& (252645135 : Int32)).toUInt32 >>> ((8 : Int32).toUInt32 &&& Int32.toUInt32 31)).toInt32)) + ((((((((p0 - (((p0.toUInt32 >>> ((1 : Int32).toUInt32 &&& Int32.toUInt32 31)).toInt32) &&& (1431655765 : Int32))) &&& (858993459 : Int32)) + ((((p0 - (((p0.toUInt32 >>> ((1 : Int32).toUInt32 &&& Int32.toUInt32 31)).toInt32) &&& (1431655765 : Int32))).toUInt32 >>> ((2 : Int32).toUInt32 &&& Int32.toUInt32 31)).toInt32) &&& (858993459 : Int32))) + (((((p0 - (((p0.toUInt32 >>> ((1 : Int32).toUInt32 &&& Int32.toUInt32 31)).toInt32) &&& (1431655765 : Int32))) &&& (858993459 : Int32)) + ((((p0 - (((p0.toUInt32 >>> ((1 : Int32).toUInt32 &&& Int32.toUInt32 31)).toInt32) &&& (1431655765 : Int32))).toUInt32 >>> ((2 : Int32).toUInt32 &&& Int32.toUInt32 31)).toInt32) &&& (858993459 : Int32))).toUInt32 >>> ((4 : Int32).toUInt32 &&& Int32.toUInt32 31)).toInt32)) &&& (252645135 : Int32)) + (((((((p0 - (((p0.toUInt32 >>> ((1 : Int32).toUInt32 &&& Int32.toUInt32 31)).toInt32) &&& (1431655765 : Int32))) &&& (858993459 : Int32)) + ((((p0 - (((p0.toUInt32 >>> ((1 : Int32).toUInt32 &&& Int32.toUInt32 31)).toInt32) &&& (1431655765 : Int32))).toUInt32 >>> ((2 : Int32).toUInt32 &&& Int32.toUInt32 31)).toInt32) &&& (858993459 : Int32))) + (((((p0 - (((p0.toUInt32 >>> ((1 : Int32).toUInt32 &&& Int32.toUInt32 31)).toInt32) &&& (1431655765 : Int32))) &&& (858993459 : Int32)) + ((((p0 - (((p0.toUInt32 >>> ((1 : Int32).toUInt32 &&& Int32.toUInt32 31)).toInt32) &&& (1431655765 : Int32))).toUInt32 >>> ((2 : Int32).toUInt32 &&& Int32.toUInt32 31)).toInt32) &&& (858993459 : Int32))).toUInt32 >>> ((4 : Int32).toUInt32 &&& Int32.toUInt32 31)).toInt32)) &&& (252645135 : Int32)).toUInt32 >>> ((8 : Int32).toUInt32 &&& Int32.toUInt32 31)).toInt32)).toUInt32 >>> ((16 : Int32).toUInt32 &&& Int32.toUInt32 31)).toInt32)))] K dJ6_bitCount_0f7a4_47 rfl (by decide) rfl ?_
  refine sk_iload_n K dJ6_bitCount_0f7a4_48 rfl 0 rfl ?_
  refine sk_bipush (63 : Int32) K dJ6_bitCount_0f7a4_49 (by decide) ?_
  refine sk_iand K dJ6_bitCount_0f7a4_51 ?_
  have hR1 : ((((((((p0 - (((p0.toUInt32 >>> ((1 : Int32).toUInt32 &&& Int32.toUInt32 31)).toInt32) &&& (1431655765 : Int32))) &&& (858993459 : Int32)) + ((((p0 - (((p0.toUInt32 >>> ((1 : Int32).toUInt32 &&& Int32.toUInt32 31)).toInt32) &&& (1431655765 : Int32))).toUInt32 >>> ((2 : Int32).toUInt32 &&& Int32.toUInt32 31)).toInt32) &&& (858993459 : Int32))) + (((((p0 - (((p0.toUInt32 >>> ((1 : Int32).toUInt32 &&& Int32.toUInt32 31)).toInt32) &&& (1431655765 : Int32))) &&& (858993459 : Int32)) + ((((p0 - (((p0.toUInt32 >>> ((1 : Int32).toUInt32 &&& Int32.toUInt32 31)).toInt32) &&& (1431655765 : Int32))).toUInt32 >>> ((2 : Int32).toUInt32 &&& Int32.toUInt32 31)).toInt32) &&& (858993459 : Int32))).toUInt32 >>> ((4 : Int32).toUInt32 &&& Int32.toUInt32 31)).toInt32)) &&& (252645135 : Int32)) + (((((((p0 - (((p0.toUInt32 >>> ((1 : Int32).toUInt32 &&& Int32.toUInt32 31)).toInt32) &&& (1431655765 : Int32))) &&& (858993459 : Int32)) + ((((p0 - (((p0.toUInt32 >>> ((1 : Int32).toUInt32 &&& Int32.toUInt32 31)).toInt32) &&& (1431655765 : Int32))).toUInt32 >>> ((2 : Int32).toUInt32 &&& Int32.toUInt32 31)).toInt32) &&& (858993459 : Int32))) + (((((p0 - (((p0.toUInt32 >>> ((1 : Int32).toUInt32 &&& Int32.toUInt32 31)).toInt32) &&& (1431655765 : Int32))) &&& (858993459 : Int32)) + ((((p0 - (((p0.toUInt32 >>> ((1 : Int32).toUInt32 &&& Int32.toUInt32 31)).toInt32) &&& (1431655765 : Int32))).toUInt32 >>> ((2 : Int32).toUInt32 &&& Int32.toUInt32 31)).toInt32) &&& (858993459 : Int32))).toUInt32 >>> ((4 : Int32).toUInt32 &&& Int32.toUInt32 31)).toInt32)) &&& (252645135 : Int32)).toUInt32 >>> ((8 : Int32).toUInt32 &&& Int32.toUInt32 31)).toInt32)) + ((((((((p0 - (((p0.toUInt32 >>> ((1 : Int32).toUInt32 &&& Int32.toUInt32 31)).toInt32) &&& (1431655765 : Int32))) &&& (858993459 : Int32)) + ((((p0 - (((p0.toUInt32 >>> ((1 : Int32).toUInt32 &&& Int32.toUInt32 31)).toInt32) &&& (1431655765 : Int32))).toUInt32 >>> ((2 : Int32).toUInt32 &&& Int32.toUInt32 31)).toInt32) &&& (858993459 : Int32))) + (((((p0 - (((p0.toUInt32 >>> ((1 : Int32).toUInt32 &&& Int32.toUInt32 31)).toInt32) &&& (1431655765 : Int32))) &&& (858993459 : Int32)) + ((((p0 - (((p0.toUInt32 >>> ((1 : Int32).toUInt32 &&& Int32.toUInt32 31)).toInt32) &&& (1431655765 : Int32))).toUInt32 >>> ((2 : Int32).toUInt32 &&& Int32.toUInt32 31)).toInt32) &&& (858993459 : Int32))).toUInt32 >>> ((4 : Int32).toUInt32 &&& Int32.toUInt32 31)).toInt32)) &&& (252645135 : Int32)) + (((((((p0 - (((p0.toUInt32 >>> ((1 : Int32).toUInt32 &&& Int32.toUInt32 31)).toInt32) &&& (1431655765 : Int32))) &&& (858993459 : Int32)) + ((((p0 - (((p0.toUInt32 >>> ((1 : Int32).toUInt32 &&& Int32.toUInt32 31)).toInt32) &&& (1431655765 : Int32))).toUInt32 >>> ((2 : Int32).toUInt32 &&& Int32.toUInt32 31)).toInt32) &&& (858993459 : Int32))) + (((((p0 - (((p0.toUInt32 >>> ((1 : Int32).toUInt32 &&& Int32.toUInt32 31)).toInt32) &&& (1431655765 : Int32))) &&& (858993459 : Int32)) + ((((p0 - (((p0.toUInt32 >>> ((1 : Int32).toUInt32 &&& Int32.toUInt32 31)).toInt32) &&& (1431655765 : Int32))).toUInt32 >>> ((2 : Int32).toUInt32 &&& Int32.toUInt32 31)).toInt32) &&& (858993459 : Int32))).toUInt32 >>> ((4 : Int32).toUInt32 &&& Int32.toUInt32 31)).toInt32)) &&& (252645135 : Int32)).toUInt32 >>> ((8 : Int32).toUInt32 &&& Int32.toUInt32 31)).toInt32)).toUInt32 >>> ((16 : Int32).toUInt32 &&& Int32.toUInt32 31)).toInt32)) &&& (63 : Int32)) = rr := Option.some.inj hf
  exact sk_iret K dJ6_bitCount_0f7a4_52 rfl rfl hR1 rfl rfl
noncomputable def fX1_both (S : sk_S) (d : sk_D) (p0 : Int32) (p1 : Int32) (p2 : Int32) : Option (Int32) :=
  if p0 = (-14 : Int32) then (some (p1 ||| p2)) else (if p0 = (-13 : Int32) then (some (p1 &&& p2)) else (if p0 = (-12 : Int32) then (if p1 ≤ p2 then (some (0 : Int32)) else (some (1 : Int32))) else (if p0 = (-11 : Int32) then (if p2 ≤ p1 then (some (0 : Int32)) else (some (1 : Int32))) else (if p0 = (-10 : Int32) then (if p1 = p2 then (some (1 : Int32)) else (some (0 : Int32))) else (if p0 = (-9 : Int32) then ((fJ9_min_f86c9 S d (1000000 : Int64) (p1.toInt64 * p2.toInt64)).bind fun v18 => (fJ9_max_f86c9 S d (-1000000 : Int64) v18).bind fun v20 => some v20.toInt32) else (if p0 = (-8 : Int32) then ((fJ9_min_f86c9 S d (1000000 : Int64) (p1.toInt64 - p2.toInt64)).bind fun v24 => (fJ9_max_f86c9 S d (-1000000 : Int64) v24).bind fun v26 => some v26.toInt32) else (if p0 = (-7 : Int32) then ((fJ9_min_f86c9 S d (1000000 : Int64) (p1.toInt64 + p2.toInt64)).bind fun v30 => (fJ9_max_f86c9 S d (-1000000 : Int64) v30).bind fun v32 => some v32.toInt32) else (some (0 : Int32)))))))))
set_option maxRecDepth 100000 in
set_option maxHeartbeats 4000000 in
theorem sX1_both (C : sk_C) (l : Launch) {S : sk_S} {d : sk_D} {p0 : Int32} {p1 : Int32} {p2 : Int32} {rr : Int32} (hf : fX1_both S d p0 p1 p2 = some rr) : sk_Met C l 1 yX1_both cX1_both 3 (some .int) [.int p0, .int p1, .int p2] S d (some (.int rr)) S d := by
  refine sk_Met.of (by decide) (by decide) (Nat.le_refl _) (Nat.le_refl _) (fun X K0 hX => ?_)
  have K : sk_Ok X C cX1_both 3 RX1 "both" (some .int) 1 l (some (.int rr)) S d := K0
  have R1 : X.2.2.2.2.2.2.2.2.2.2.2.1 ≤ S.1.1 ∧ X.2.2.2.2.2.2.2.2.2.2.2.2 ≤ S.1.2 := by rw [hX]; exact ⟨Nat.le_refl _, Nat.le_refl _⟩
  have R2 : S.1.1 ≤ S.1.1 ∧ S.1.2 ≤ S.1.2 := ⟨Nat.le_refl _, Nat.le_refl _⟩
  show sk_G X C 3 S d 0 [(0, .int p0), (1, .int p1), (2, .int p2)] []
  unfold fX1_both at hf
  refine sk_iload_n K dX1_both_0 rfl 0 rfl ?_
  by_cases h1 : p0 = (-14 : Int32)
  · rw [if_pos h1] at hf
    refine sk_tsIn (-14 : Int32) (141) 142 K dX1_both_1 h1 (by decide) (by decide) rfl (by decide) ?_
    refine sk_iload_n K dX1_both_142 rfl 1 rfl ?_
    refine sk_iload_n K dX1_both_143 rfl 2 rfl ?_
    refine sk_ior K dX1_both_144 ?_
    have hR2 : (p1 ||| p2) = rr := Option.some.inj hf
    exact sk_iret K dX1_both_145 rfl rfl hR2 rfl rfl
  · rw [if_neg h1] at hf
    by_cases h3 : p0 = (-13 : Int32)
    · rw [if_pos h3] at hf
      refine sk_tsIn (-13 : Int32) (137) 138 K dX1_both_1 h3 (by decide) (by decide) rfl (by decide) ?_
      refine sk_iload_n K dX1_both_138 rfl 1 rfl ?_
      refine sk_iload_n K dX1_both_139 rfl 2 rfl ?_
      refine sk_iand K dX1_both_140 ?_
      have hR4 : (p1 &&& p2) = rr := Option.some.inj hf
      exact sk_iret K dX1_both_141 rfl rfl hR4 rfl rfl
    · rw [if_neg h3] at hf
      by_cases h5 : p0 = (-12 : Int32)
      · rw [if_pos h5] at hf
        refine sk_tsIn (-12 : Int32) (126) 127 K dX1_both_1 h5 (by decide) (by decide) rfl (by decide) ?_
        refine sk_iload_n K dX1_both_127 rfl 1 rfl ?_
        refine sk_iload_n K dX1_both_128 rfl 2 rfl ?_
        refine sk_icmp_le 136 K dX1_both_129 (by decide) (fun h6 => ?_) (fun h6 => ?_)
        · rw [if_pos h6] at hf
          refine sk_iconst (0 : Int32) K dX1_both_136 (by decide) ?_
          have hR7 : (0 : Int32) = rr := Option.some.inj hf
          exact sk_iret K dX1_both_137 rfl rfl hR7 rfl rfl
        · rw [if_neg h6] at hf
          refine sk_iconst (1 : Int32) K dX1_both_132 (by decide) ?_
          refine sk_goto 137 K dX1_both_133 (by decide) ?_
          have hR8 : (1 : Int32) = rr := Option.some.inj hf
          exact sk_iret K dX1_both_137 rfl rfl hR8 rfl rfl
      · rw [if_neg h5] at hf
        by_cases h9 : p0 = (-11 : Int32)
        · rw [if_pos h9] at hf
          refine sk_tsIn (-11 : Int32) (115) 116 K dX1_both_1 h9 (by decide) (by decide) rfl (by decide) ?_
          refine sk_iload_n K dX1_both_116 rfl 1 rfl ?_
          refine sk_iload_n K dX1_both_117 rfl 2 rfl ?_
          refine sk_icmp_ge 125 K dX1_both_118 (by decide) (fun h10 => ?_) (fun h10 => ?_)
          · rw [if_pos h10] at hf
            refine sk_iconst (0 : Int32) K dX1_both_125 (by decide) ?_
            have hR11 : (0 : Int32) = rr := Option.some.inj hf
            exact sk_iret K dX1_both_126 rfl rfl hR11 rfl rfl
          · rw [if_neg h10] at hf
            refine sk_iconst (1 : Int32) K dX1_both_121 (by decide) ?_
            refine sk_goto 126 K dX1_both_122 (by decide) ?_
            have hR12 : (1 : Int32) = rr := Option.some.inj hf
            exact sk_iret K dX1_both_126 rfl rfl hR12 rfl rfl
        · rw [if_neg h9] at hf
          by_cases h13 : p0 = (-10 : Int32)
          · rw [if_pos h13] at hf
            refine sk_tsIn (-10 : Int32) (104) 105 K dX1_both_1 h13 (by decide) (by decide) rfl (by decide) ?_
            refine sk_iload_n K dX1_both_105 rfl 1 rfl ?_
            refine sk_iload_n K dX1_both_106 rfl 2 rfl ?_
            refine sk_icmp_ne 114 K dX1_both_107 (by decide) (fun h14 => ?_) (fun h14 => ?_)
            · rw [if_neg h14] at hf
              refine sk_iconst (0 : Int32) K dX1_both_114 (by decide) ?_
              have hR15 : (0 : Int32) = rr := Option.some.inj hf
              exact sk_iret K dX1_both_115 rfl rfl hR15 rfl rfl
            · rw [if_pos h14] at hf
              refine sk_iconst (1 : Int32) K dX1_both_110 (by decide) ?_
              refine sk_goto 115 K dX1_both_111 (by decide) ?_
              have hR16 : (1 : Int32) = rr := Option.some.inj hf
              exact sk_iret K dX1_both_115 rfl rfl hR16 rfl rfl
          · rw [if_neg h13] at hf
            by_cases h17 : p0 = (-9 : Int32)
            · rw [if_pos h17] at hf
              refine sk_tsIn (-9 : Int32) (85) 86 K dX1_both_1 h17 (by decide) (by decide) rfl (by decide) ?_
              refine sk_ldc2 K dX1_both_86 qw_842 ?_
              refine sk_ldc2 K dX1_both_89 qw_843 ?_
              refine sk_iload_n K dX1_both_92 rfl 1 rfl ?_
              refine sk_i2l K dX1_both_93 ?_
              refine sk_iload_n K dX1_both_94 rfl 2 rfl ?_
              refine sk_i2l K dX1_both_95 ?_
              refine sk_lmul K dX1_both_96 ?_
              obtain ⟨v18, e19, hf⟩ := sk_ob hf
              refine sk_callS (As := [.long (1000000 : Int64), .long (p1.toInt64 * p2.toInt64)]) (st := [.long (-1000000 : Int64)]) K dX1_both_97 cl_X1_36 (sJ9_min_f86c9 C l e19) (by decide) rfl rfl (by decide) R1 R2 ?_
              obtain ⟨v20, e21, hf⟩ := sk_ob hf
              refine sk_callS (As := [.long (-1000000 : Int64), .long v18]) (st := []) K dX1_both_100 cl_X1_42 (sJ9_max_f86c9 C l e21) (by decide) rfl rfl (by decide) R1 R2 ?_
              refine sk_l2i K dX1_both_103 ?_
              have hR22 : v20.toInt32 = rr := Option.some.inj hf
              exact sk_iret K dX1_both_104 rfl rfl hR22 rfl rfl
            · rw [if_neg h17] at hf
              by_cases h23 : p0 = (-8 : Int32)
              · rw [if_pos h23] at hf
                refine sk_tsIn (-8 : Int32) (66) 67 K dX1_both_1 h23 (by decide) (by decide) rfl (by decide) ?_
                refine sk_ldc2 K dX1_both_67 qw_842 ?_
                refine sk_ldc2 K dX1_both_70 qw_843 ?_
                refine sk_iload_n K dX1_both_73 rfl 1 rfl ?_
                refine sk_i2l K dX1_both_74 ?_
                refine sk_iload_n K dX1_both_75 rfl 2 rfl ?_
                refine sk_i2l K dX1_both_76 ?_
                refine sk_lsub K dX1_both_77 ?_
                obtain ⟨v24, e25, hf⟩ := sk_ob hf
                refine sk_callS (As := [.long (1000000 : Int64), .long (p1.toInt64 - p2.toInt64)]) (st := [.long (-1000000 : Int64)]) K dX1_both_78 cl_X1_36 (sJ9_min_f86c9 C l e25) (by decide) rfl rfl (by decide) R1 R2 ?_
                obtain ⟨v26, e27, hf⟩ := sk_ob hf
                refine sk_callS (As := [.long (-1000000 : Int64), .long v24]) (st := []) K dX1_both_81 cl_X1_42 (sJ9_max_f86c9 C l e27) (by decide) rfl rfl (by decide) R1 R2 ?_
                refine sk_l2i K dX1_both_84 ?_
                have hR28 : v26.toInt32 = rr := Option.some.inj hf
                exact sk_iret K dX1_both_85 rfl rfl hR28 rfl rfl
              · rw [if_neg h23] at hf
                by_cases h29 : p0 = (-7 : Int32)
                · rw [if_pos h29] at hf
                  refine sk_tsIn (-7 : Int32) (47) 48 K dX1_both_1 h29 (by decide) (by decide) rfl (by decide) ?_
                  refine sk_ldc2 K dX1_both_48 qw_842 ?_
                  refine sk_ldc2 K dX1_both_51 qw_843 ?_
                  refine sk_iload_n K dX1_both_54 rfl 1 rfl ?_
                  refine sk_i2l K dX1_both_55 ?_
                  refine sk_iload_n K dX1_both_56 rfl 2 rfl ?_
                  refine sk_i2l K dX1_both_57 ?_
                  refine sk_ladd K dX1_both_58 ?_
                  obtain ⟨v30, e31, hf⟩ := sk_ob hf
                  refine sk_callS (As := [.long (1000000 : Int64), .long (p1.toInt64 + p2.toInt64)]) (st := [.long (-1000000 : Int64)]) K dX1_both_59 cl_X1_36 (sJ9_min_f86c9 C l e31) (by decide) rfl rfl (by decide) R1 R2 ?_
                  obtain ⟨v32, e33, hf⟩ := sk_ob hf
                  refine sk_callS (As := [.long (-1000000 : Int64), .long v30]) (st := []) K dX1_both_62 cl_X1_42 (sJ9_max_f86c9 C l e33) (by decide) rfl rfl (by decide) R1 R2 ?_
                  refine sk_l2i K dX1_both_65 ?_
                  have hR34 : v32.toInt32 = rr := Option.some.inj hf
                  exact sk_iret K dX1_both_66 rfl rfl hR34 rfl rfl
                · rw [if_neg h29] at hf
                  refine sk_tsOut 146 K dX1_both_1 (sk_tsout (-14) 8 [(-14 : Int32), (-13 : Int32), (-12 : Int32), (-11 : Int32), (-10 : Int32), (-9 : Int32), (-8 : Int32), (-7 : Int32)] (by decide) (by simp [h1, h3, h5, h9, h13, h17, h23, h29])) (by decide) ?_
                  refine sk_iconst (0 : Int32) K dX1_both_146 (by decide) ?_
                  have hR35 : (0 : Int32) = rr := Option.some.inj hf
                  exact sk_iret K dX1_both_147 rfl rfl hR35 rfl rfl
noncomputable def fX2_has (S : sk_S) (d : sk_D) (p0 : Nat) (p1 : Int32) : Option (Bool) :=
  if p1 < 0 then (some false) else ((sk_gI S d p0 2 1).bind fun v3 => if v3 ≤ p1 then (some false) else (if (8 : Int32) ≤ p1 then (some false) else (some true)))
set_option maxRecDepth 100000 in
set_option maxHeartbeats 4000000 in
theorem sX2_has (C : sk_C) (l : Launch) {S : sk_S} {d : sk_D} {p0 : Nat} {p1 : Int32} {rr : Bool} (hf : fX2_has S d p0 p1 = some rr) : sk_Met C l 0 yX2_has cX2_has 2 (some .boolean) [.ref p0, .int p1] S d (some (.int (sk_b rr))) S d := by
  refine sk_Met.of (by decide) (by decide) (Nat.le_refl _) (Nat.le_refl _) (fun X K0 hX => ?_)
  have K : sk_Ok X C cX2_has 2 RX2 "has" (some .boolean) 0 l (some (.int (sk_b rr))) S d := K0
  have R1 : X.2.2.2.2.2.2.2.2.2.2.2.1 ≤ S.1.1 ∧ X.2.2.2.2.2.2.2.2.2.2.2.2 ≤ S.1.2 := by rw [hX]; exact ⟨Nat.le_refl _, Nat.le_refl _⟩
  have R2 : S.1.1 ≤ S.1.1 ∧ S.1.2 ≤ S.1.2 := ⟨Nat.le_refl _, Nat.le_refl _⟩
  show sk_G X C 2 S d 0 [(0, .ref p0), (1, .int p1)] []
  unfold fX2_has at hf
  refine sk_iload_n K dX2_has_0 rfl 1 rfl ?_
  refine sk_if_lt 22 K dX2_has_1 (by decide) (fun h1 => ?_) (fun h1 => ?_)
  · rw [if_pos h1] at hf
    refine sk_iconst (0 : Int32) K dX2_has_22 (by decide) ?_
    have hR2 : false = rr := Option.some.inj hf
    exact sk_zret (x := false) K dX2_has_23 rfl rfl hR2 rfl rfl
  · rw [if_neg h1] at hf
    refine sk_iload_n K dX2_has_4 rfl 1 rfl ?_
    refine sk_aload_n K dX2_has_5 rfl 0 rfl ?_
    obtain ⟨v3, e4, hf⟩ := sk_ob hf
    refine sk_getI K dX2_has_6 fl_X2_15 rfl e4 ?_
    refine sk_icmp_ge 22 K dX2_has_9 (by decide) (fun h5 => ?_) (fun h5 => ?_)
    · rw [if_pos h5] at hf
      refine sk_iconst (0 : Int32) K dX2_has_22 (by decide) ?_
      have hR6 : false = rr := Option.some.inj hf
      exact sk_zret (x := false) K dX2_has_23 rfl rfl hR6 rfl rfl
    · rw [if_neg h5] at hf
      refine sk_iload_n K dX2_has_12 rfl 1 rfl ?_
      refine sk_bipush (8 : Int32) K dX2_has_13 (by decide) ?_
      refine sk_icmp_ge 22 K dX2_has_15 (by decide) (fun h7 => ?_) (fun h7 => ?_)
      · rw [if_pos h7] at hf
        refine sk_iconst (0 : Int32) K dX2_has_22 (by decide) ?_
        have hR8 : false = rr := Option.some.inj hf
        exact sk_zret (x := false) K dX2_has_23 rfl rfl hR8 rfl rfl
      · rw [if_neg h7] at hf
        refine sk_iconst (1 : Int32) K dX2_has_18 (by decide) ?_
        refine sk_goto 23 K dX2_has_19 (by decide) ?_
        have hR9 : true = rr := Option.some.inj hf
        exact sk_zret (x := true) K dX2_has_23 rfl rfl hR9 rfl rfl
noncomputable def fX2_hasAll (S : sk_S) (d : sk_D) (p0 : Nat) (p1 : Int32) : Option (Bool) :=
  (sk_gI S d p0 2 1).bind fun v1 => if (p1 &&& ((-1 : Int32) <<< (v1 &&& 31))) = 0 then (some true) else (some false)
set_option maxRecDepth 100000 in
set_option maxHeartbeats 4000000 in
theorem sX2_hasAll (C : sk_C) (l : Launch) {S : sk_S} {d : sk_D} {p0 : Nat} {p1 : Int32} {rr : Bool} (hf : fX2_hasAll S d p0 p1 = some rr) : sk_Met C l 0 yX2_hasAll cX2_hasAll 2 (some .boolean) [.ref p0, .int p1] S d (some (.int (sk_b rr))) S d := by
  refine sk_Met.of (by decide) (by decide) (Nat.le_refl _) (Nat.le_refl _) (fun X K0 hX => ?_)
  have K : sk_Ok X C cX2_hasAll 2 RX2 "hasAll" (some .boolean) 0 l (some (.int (sk_b rr))) S d := K0
  have R1 : X.2.2.2.2.2.2.2.2.2.2.2.1 ≤ S.1.1 ∧ X.2.2.2.2.2.2.2.2.2.2.2.2 ≤ S.1.2 := by rw [hX]; exact ⟨Nat.le_refl _, Nat.le_refl _⟩
  have R2 : S.1.1 ≤ S.1.1 ∧ S.1.2 ≤ S.1.2 := ⟨Nat.le_refl _, Nat.le_refl _⟩
  show sk_G X C 2 S d 0 [(0, .ref p0), (1, .int p1)] []
  unfold fX2_hasAll at hf
  refine sk_iload_n K dX2_hasAll_0 rfl 1 rfl ?_
  refine sk_iconst (-1 : Int32) K dX2_hasAll_1 (by decide) ?_
  refine sk_aload_n K dX2_hasAll_2 rfl 0 rfl ?_
  obtain ⟨v1, e2, hf⟩ := sk_ob hf
  refine sk_getI K dX2_hasAll_3 fl_X2_15 rfl e2 ?_
  refine sk_ishl K dX2_hasAll_6 ?_
  refine sk_iand K dX2_hasAll_7 ?_
  refine sk_if_ne 15 K dX2_hasAll_8 (by decide) (fun h3 => ?_) (fun h3 => ?_)
  · rw [if_neg h3] at hf
    refine sk_iconst (0 : Int32) K dX2_hasAll_15 (by decide) ?_
    have hR4 : false = rr := Option.some.inj hf
    exact sk_zret (x := false) K dX2_hasAll_16 rfl rfl hR4 rfl rfl
  · rw [if_pos h3] at hf
    refine sk_iconst (1 : Int32) K dX2_hasAll_11 (by decide) ?_
    refine sk_goto 16 K dX2_hasAll_12 (by decide) ?_
    have hR5 : true = rr := Option.some.inj hf
    exact sk_zret (x := true) K dX2_hasAll_16 rfl rfl hR5 rfl rfl
noncomputable def fX2_roomLeft_L7 (S : sk_S) (d : sk_D) (p0 : Nat) (p1 : Int32) (s1 : Int32 × Int32) : Option ((Int32 × Int32) ⊕ (Int32)) :=
  (sk_gI S d p0 2 1).bind fun v3 => if v3 ≤ s1.2 then (some (.inr s1.1)) else (if ((p1 >>> (s1.2 &&& 31)) &&& (1 : Int32)) = (1 : Int32) then ((sk_gR S p0 2 5).bind fun v8 => (sk_lI S d v8 20 s1.2).bind fun v10 => some (.inl (s1.1 - v10, s1.2 + 1))) else (some (.inl (s1.1, s1.2 + 1))))
noncomputable def fX2_roomLeft (S : sk_S) (d : sk_D) (p0 : Nat) (p1 : Int32) : Option (Int32) :=
  (sk_gI S d p0 2 0).bind fun v1 => (sk_itr (fX2_roomLeft_L7 S d p0 p1) (v1, (0 : Int32))).bind fun x1 => some x1
set_option maxRecDepth 100000 in
set_option maxHeartbeats 4000000 in
theorem sX2_roomLeft (C : sk_C) (l : Launch) {S : sk_S} {d : sk_D} {p0 : Nat} {p1 : Int32} {rr : Int32} (hf : fX2_roomLeft S d p0 p1 = some rr) : sk_Met C l 0 yX2_roomLeft cX2_roomLeft 4 (some .int) [.ref p0, .int p1] S d (some (.int rr)) S d := by
  refine sk_Met.of (by decide) (by decide) (Nat.le_refl _) (Nat.le_refl _) (fun X K0 hX => ?_)
  have K : sk_Ok X C cX2_roomLeft 4 RX2 "roomLeft" (some .int) 0 l (some (.int rr)) S d := K0
  have R1 : X.2.2.2.2.2.2.2.2.2.2.2.1 ≤ S.1.1 ∧ X.2.2.2.2.2.2.2.2.2.2.2.2 ≤ S.1.2 := by rw [hX]; exact ⟨Nat.le_refl _, Nat.le_refl _⟩
  have R2 : S.1.1 ≤ S.1.1 ∧ S.1.2 ≤ S.1.2 := ⟨Nat.le_refl _, Nat.le_refl _⟩
  show sk_G X C 4 S d 0 [(0, .ref p0), (1, .int p1)] []
  unfold fX2_roomLeft at hf
  refine sk_aload_n K dX2_roomLeft_0 rfl 0 rfl ?_
  obtain ⟨v1, e2, hf⟩ := sk_ob hf
  refine sk_getI K dX2_roomLeft_1 fl_X2_9 rfl e2 ?_
  refine sk_istore_n [(2, .int v1), (0, .ref p0), (1, .int p1)] K dX2_roomLeft_4 rfl (by decide) rfl ?_
  refine sk_iconst (0 : Int32) K dX2_roomLeft_5 (by decide) ?_
  refine sk_istore_n [(3, .int (0 : Int32)), (2, .int v1), (0, .ref p0), (1, .int p1)] K dX2_roomLeft_6 rfl (by decide) rfl ?_
  obtain ⟨x1, he1, hf⟩ := sk_ob hf
  have hret1 : ∀ r, x1 = r → r = rr := by
    intro r hr
    subst hr
    exact Option.some.inj hf
  refine sk_loop (fun s1 => sk_G X C 4 S d 7 [(0, .ref p0), (1, .int p1), (2, .int s1.1), (3, .int s1.2)] []) he1 (fun s1 o1 hf ih1 hx1 => ?_)
  unfold fX2_roomLeft_L7 at hf
  refine sk_iload_n K dX2_roomLeft_7 rfl 3 rfl ?_
  refine sk_aload_n K dX2_roomLeft_8 rfl 0 rfl ?_
  obtain ⟨v3, e4, hf⟩ := sk_ob hf
  refine sk_getI K dX2_roomLeft_9 fl_X2_15 rfl e4 ?_
  refine sk_icmp_ge 39 K dX2_roomLeft_12 (by decide) (fun h5 => ?_) (fun h5 => ?_)
  · rw [if_pos h5] at hf
    refine sk_iload_n K dX2_roomLeft_39 rfl 2 rfl ?_
    have hR6 : s1.1 = rr := hret1 _ (hx1 _ (Option.some.inj hf).symm).symm
    exact sk_iret K dX2_roomLeft_40 rfl rfl hR6 rfl rfl
  · rw [if_neg h5] at hf
    refine sk_iload_n K dX2_roomLeft_15 rfl 1 rfl ?_
    refine sk_iload_n K dX2_roomLeft_16 rfl 3 rfl ?_
    refine sk_ishr K dX2_roomLeft_17 ?_
    refine sk_iconst (1 : Int32) K dX2_roomLeft_18 (by decide) ?_
    refine sk_iand K dX2_roomLeft_19 ?_
    refine sk_iconst (1 : Int32) K dX2_roomLeft_20 (by decide) ?_
    refine sk_icmp_ne 33 K dX2_roomLeft_21 (by decide) (fun h7 => ?_) (fun h7 => ?_)
    · rw [if_neg h7] at hf
      refine sk_iinc (s1.2 + 1) [(3, .int (s1.2 + 1)), (0, .ref p0), (1, .int p1), (2, .int s1.1)] K dX2_roomLeft_33 3 rfl rfl (by decide) rfl ?_
      refine sk_goto 7 K dX2_roomLeft_36 (by decide) ?_
      refine sk_sub [(0, .ref p0), (1, .int p1), (2, .int s1.1), (3, .int (s1.2 + 1))] [1, 2, 3, 0] rfl ?_
      exact ih1 _ (Option.some.inj hf).symm
    · rw [if_pos h7] at hf
      refine sk_iload_n K dX2_roomLeft_24 rfl 2 rfl ?_
      refine sk_aload_n K dX2_roomLeft_25 rfl 0 rfl ?_
      obtain ⟨v8, e9, hf⟩ := sk_ob hf
      refine sk_getR K dX2_roomLeft_26 fl_X2_27 rfl e9 ?_
      refine sk_iload_n K dX2_roomLeft_29 rfl 3 rfl ?_
      obtain ⟨v10, e11, hf⟩ := sk_ob hf
      refine sk_ald20 K dX2_roomLeft_30 e11 ?_
      refine sk_isub K dX2_roomLeft_31 ?_
      refine sk_istore_n [(2, .int (s1.1 - v10)), (0, .ref p0), (1, .int p1), (3, .int s1.2)] K dX2_roomLeft_32 rfl (by decide) rfl ?_
      refine sk_iinc (s1.2 + 1) [(3, .int (s1.2 + 1)), (2, .int (s1.1 - v10)), (0, .ref p0), (1, .int p1)] K dX2_roomLeft_33 3 rfl rfl (by decide) rfl ?_
      refine sk_goto 7 K dX2_roomLeft_36 (by decide) ?_
      refine sk_sub [(0, .ref p0), (1, .int p1), (2, .int (s1.1 - v10)), (3, .int (s1.2 + 1))] [2, 3, 1, 0] rfl ?_
      exact ih1 _ (Option.some.inj hf).symm
noncomputable def fX2_needing_L9 (S : sk_S) (d : sk_D) (p0 : Nat) (p2 : Int32) (s1 : Int32 × Int32) : Option ((Int32 × Int32) ⊕ (Int32)) :=
  (sk_gI S d p0 2 1).bind fun v1 => if v1 ≤ s1.2 then (some (.inr s1.1)) else (if ((p2 >>> (s1.2 &&& 31)) &&& (1 : Int32)) = (1 : Int32) then ((sk_gR S p0 2 10).bind fun v6 => (sk_lI S d v6 20 s1.2).bind fun v8 => if (v8 &&& s1.1) = 0 then (some (.inl (s1.1, s1.2 + 1))) else (some (.inl (s1.1 ||| ((1 : Int32) <<< (s1.2 &&& 31)), s1.2 + 1)))) else (some (.inl (s1.1, s1.2 + 1))))
noncomputable def fX2_needing (S : sk_S) (d : sk_D) (p0 : Nat) (p1 : Int32) (p2 : Int32) : Option (Int32) :=
  (sk_itr (fX2_needing_L9 S d p0 p2) ((1 : Int32) <<< (p1 &&& 31), p1 + (1 : Int32))).bind fun x1 => some x1
set_option maxRecDepth 100000 in
set_option maxHeartbeats 4000000 in
theorem sX2_needing (C : sk_C) (l : Launch) {S : sk_S} {d : sk_D} {p0 : Nat} {p1 : Int32} {p2 : Int32} {rr : Int32} (hf : fX2_needing S d p0 p1 p2 = some rr) : sk_Met C l 0 yX2_needing cX2_needing 5 (some .int) [.ref p0, .int p1, .int p2] S d (some (.int rr)) S d := by
  refine sk_Met.of (by decide) (by decide) (Nat.le_refl _) (Nat.le_refl _) (fun X K0 hX => ?_)
  have K : sk_Ok X C cX2_needing 5 RX2 "needing" (some .int) 0 l (some (.int rr)) S d := K0
  have R1 : X.2.2.2.2.2.2.2.2.2.2.2.1 ≤ S.1.1 ∧ X.2.2.2.2.2.2.2.2.2.2.2.2 ≤ S.1.2 := by rw [hX]; exact ⟨Nat.le_refl _, Nat.le_refl _⟩
  have R2 : S.1.1 ≤ S.1.1 ∧ S.1.2 ≤ S.1.2 := ⟨Nat.le_refl _, Nat.le_refl _⟩
  show sk_G X C 5 S d 0 [(0, .ref p0), (1, .int p1), (2, .int p2)] []
  unfold fX2_needing at hf
  refine sk_iconst (1 : Int32) K dX2_needing_0 (by decide) ?_
  refine sk_iload_n K dX2_needing_1 rfl 1 rfl ?_
  refine sk_ishl K dX2_needing_2 ?_
  refine sk_istore_n [(3, .int ((1 : Int32) <<< (p1 &&& 31))), (0, .ref p0), (1, .int p1), (2, .int p2)] K dX2_needing_3 rfl (by decide) rfl ?_
  refine sk_iload_n K dX2_needing_4 rfl 2 rfl ?_
  refine sk_iconst (1 : Int32) K dX2_needing_5 (by decide) ?_
  refine sk_iadd K dX2_needing_6 ?_
  refine sk_istore [(4, .int (p1 + (1 : Int32))), (3, .int ((1 : Int32) <<< (p1 &&& 31))), (0, .ref p0), (1, .int p1), (2, .int p2)] K dX2_needing_7 (by decide) rfl ?_
  obtain ⟨x1, he1, hf⟩ := sk_ob hf
  have hret1 : ∀ r, x1 = r → r = rr := by
    intro r hr
    subst hr
    exact Option.some.inj hf
  refine sk_loop (fun s1 => sk_G X C 5 S d 9 [(0, .ref p0), (2, .int p2), (3, .int s1.1), (4, .int s1.2)] []) he1 (fun s1 o1 hf ih1 hx1 => ?_)
  unfold fX2_needing_L9 at hf
  refine sk_iload K dX2_needing_9 3 rfl ?_
  refine sk_aload_n K dX2_needing_11 rfl 0 rfl ?_
  obtain ⟨v1, e2, hf⟩ := sk_ob hf
  refine sk_getI K dX2_needing_12 fl_X2_15 rfl e2 ?_
  refine sk_icmp_ge 53 K dX2_needing_15 (by decide) (fun h3 => ?_) (fun h3 => ?_)
  · rw [if_pos h3] at hf
    refine sk_iload_n K dX2_needing_53 rfl 2 rfl ?_
    have hR4 : s1.1 = rr := hret1 _ (hx1 _ (Option.some.inj hf).symm).symm
    exact sk_iret K dX2_needing_54 rfl rfl hR4 rfl rfl
  · rw [if_neg h3] at hf
    refine sk_iload_n K dX2_needing_18 rfl 1 rfl ?_
    refine sk_iload K dX2_needing_19 3 rfl ?_
    refine sk_ishr K dX2_needing_21 ?_
    refine sk_iconst (1 : Int32) K dX2_needing_22 (by decide) ?_
    refine sk_iand K dX2_needing_23 ?_
    refine sk_iconst (1 : Int32) K dX2_needing_24 (by decide) ?_
    refine sk_icmp_ne 47 K dX2_needing_25 (by decide) (fun h5 => ?_) (fun h5 => ?_)
    · rw [if_neg h5] at hf
      refine sk_iinc (s1.2 + 1) [(4, .int (s1.2 + 1)), (0, .ref p0), (2, .int p2), (3, .int s1.1)] K dX2_needing_47 3 rfl rfl (by decide) rfl ?_
      refine sk_goto 9 K dX2_needing_50 (by decide) ?_
      refine sk_sub [(0, .ref p0), (2, .int p2), (3, .int s1.1), (4, .int (s1.2 + 1))] [1, 2, 3, 0] rfl ?_
      exact ih1 _ (Option.some.inj hf).symm
    · rw [if_pos h5] at hf
      refine sk_aload_n K dX2_needing_28 rfl 0 rfl ?_
      obtain ⟨v6, e7, hf⟩ := sk_ob hf
      refine sk_getR K dX2_needing_29 fl_X2_43 rfl e7 ?_
      refine sk_iload K dX2_needing_32 3 rfl ?_
      obtain ⟨v8, e9, hf⟩ := sk_ob hf
      refine sk_ald20 K dX2_needing_34 e9 ?_
      refine sk_iload_n K dX2_needing_35 rfl 2 rfl ?_
      refine sk_iand K dX2_needing_36 ?_
      refine sk_if_eq 47 K dX2_needing_37 (by decide) (fun h10 => ?_) (fun h10 => ?_)
      · rw [if_pos h10] at hf
        refine sk_iinc (s1.2 + 1) [(4, .int (s1.2 + 1)), (0, .ref p0), (2, .int p2), (3, .int s1.1)] K dX2_needing_47 3 rfl rfl (by decide) rfl ?_
        refine sk_goto 9 K dX2_needing_50 (by decide) ?_
        refine sk_sub [(0, .ref p0), (2, .int p2), (3, .int s1.1), (4, .int (s1.2 + 1))] [1, 2, 3, 0] rfl ?_
        exact ih1 _ (Option.some.inj hf).symm
      · rw [if_neg h10] at hf
        refine sk_iload_n K dX2_needing_40 rfl 2 rfl ?_
        refine sk_iconst (1 : Int32) K dX2_needing_41 (by decide) ?_
        refine sk_iload K dX2_needing_42 3 rfl ?_
        refine sk_ishl K dX2_needing_44 ?_
        refine sk_ior K dX2_needing_45 ?_
        refine sk_istore_n [(3, .int (s1.1 ||| ((1 : Int32) <<< (s1.2 &&& 31)))), (0, .ref p0), (2, .int p2), (4, .int s1.2)] K dX2_needing_46 rfl (by decide) rfl ?_
        refine sk_iinc (s1.2 + 1) [(4, .int (s1.2 + 1)), (3, .int (s1.1 ||| ((1 : Int32) <<< (s1.2 &&& 31)))), (0, .ref p0), (2, .int p2)] K dX2_needing_47 3 rfl rfl (by decide) rfl ?_
        refine sk_goto 9 K dX2_needing_50 (by decide) ?_
        refine sk_sub [(0, .ref p0), (2, .int p2), (3, .int (s1.1 ||| ((1 : Int32) <<< (s1.2 &&& 31)))), (4, .int (s1.2 + 1))] [2, 3, 1, 0] rfl ?_
        exact ih1 _ (Option.some.inj hf).symm
noncomputable def fX2_needed_L6 (S : sk_S) (d : sk_D) (p0 : Nat) (s1 : Int32 × Int32) : Option ((Int32 × Int32) ⊕ (Int32)) :=
  if s1.2 < 0 then (some (.inr s1.1)) else (if ((s1.1 >>> (s1.2 &&& 31)) &&& (1 : Int32)) = (1 : Int32) then ((sk_gR S p0 2 10).bind fun v4 => (sk_lI S d v4 20 s1.2).bind fun v6 => some (.inl (s1.1 ||| v6, s1.2 + (-1)))) else (some (.inl (s1.1, s1.2 + (-1)))))
noncomputable def fX2_needed (S : sk_S) (d : sk_D) (p0 : Nat) (p1 : Int32) : Option (Int32) :=
  (sk_itr (fX2_needed_L6 S d p0) ((1 : Int32) <<< (p1 &&& 31), p1)).bind fun x1 => some x1
set_option maxRecDepth 100000 in
set_option maxHeartbeats 4000000 in
theorem sX2_needed (C : sk_C) (l : Launch) {S : sk_S} {d : sk_D} {p0 : Nat} {p1 : Int32} {rr : Int32} (hf : fX2_needed S d p0 p1 = some rr) : sk_Met C l 0 yX2_needed cX2_needed 4 (some .int) [.ref p0, .int p1] S d (some (.int rr)) S d := by
  refine sk_Met.of (by decide) (by decide) (Nat.le_refl _) (Nat.le_refl _) (fun X K0 hX => ?_)
  have K : sk_Ok X C cX2_needed 4 RX2 "needed" (some .int) 0 l (some (.int rr)) S d := K0
  have R1 : X.2.2.2.2.2.2.2.2.2.2.2.1 ≤ S.1.1 ∧ X.2.2.2.2.2.2.2.2.2.2.2.2 ≤ S.1.2 := by rw [hX]; exact ⟨Nat.le_refl _, Nat.le_refl _⟩
  have R2 : S.1.1 ≤ S.1.1 ∧ S.1.2 ≤ S.1.2 := ⟨Nat.le_refl _, Nat.le_refl _⟩
  show sk_G X C 4 S d 0 [(0, .ref p0), (1, .int p1)] []
  unfold fX2_needed at hf
  refine sk_iconst (1 : Int32) K dX2_needed_0 (by decide) ?_
  refine sk_iload_n K dX2_needed_1 rfl 1 rfl ?_
  refine sk_ishl K dX2_needed_2 ?_
  refine sk_istore_n [(2, .int ((1 : Int32) <<< (p1 &&& 31))), (0, .ref p0), (1, .int p1)] K dX2_needed_3 rfl (by decide) rfl ?_
  refine sk_iload_n K dX2_needed_4 rfl 2 rfl ?_
  refine sk_istore_n [(3, .int p1), (2, .int ((1 : Int32) <<< (p1 &&& 31))), (0, .ref p0), (1, .int p1)] K dX2_needed_5 rfl (by decide) rfl ?_
  obtain ⟨x1, he1, hf⟩ := sk_ob hf
  have hret1 : ∀ r, x1 = r → r = rr := by
    intro r hr
    subst hr
    exact Option.some.inj hf
  refine sk_loop (fun s1 => sk_G X C 4 S d 6 [(0, .ref p0), (2, .int s1.1), (3, .int s1.2)] []) he1 (fun s1 o1 hf ih1 hx1 => ?_)
  unfold fX2_needed_L6 at hf
  refine sk_iload_n K dX2_needed_6 rfl 2 rfl ?_
  refine sk_if_lt 34 K dX2_needed_7 (by decide) (fun h1 => ?_) (fun h1 => ?_)
  · rw [if_pos h1] at hf
    refine sk_iload_n K dX2_needed_34 rfl 1 rfl ?_
    have hR2 : s1.1 = rr := hret1 _ (hx1 _ (Option.some.inj hf).symm).symm
    exact sk_iret K dX2_needed_35 rfl rfl hR2 rfl rfl
  · rw [if_neg h1] at hf
    refine sk_iload_n K dX2_needed_10 rfl 1 rfl ?_
    refine sk_iload_n K dX2_needed_11 rfl 2 rfl ?_
    refine sk_ishr K dX2_needed_12 ?_
    refine sk_iconst (1 : Int32) K dX2_needed_13 (by decide) ?_
    refine sk_iand K dX2_needed_14 ?_
    refine sk_iconst (1 : Int32) K dX2_needed_15 (by decide) ?_
    refine sk_icmp_ne 28 K dX2_needed_16 (by decide) (fun h3 => ?_) (fun h3 => ?_)
    · rw [if_neg h3] at hf
      refine sk_iinc (s1.2 + (-1)) [(3, .int (s1.2 + (-1))), (0, .ref p0), (2, .int s1.1)] K dX2_needed_28 2 rfl rfl (by decide) rfl ?_
      refine sk_goto 6 K dX2_needed_31 (by decide) ?_
      refine sk_sub [(0, .ref p0), (2, .int s1.1), (3, .int (s1.2 + (-1)))] [1, 2, 0] rfl ?_
      exact ih1 _ (Option.some.inj hf).symm
    · rw [if_pos h3] at hf
      refine sk_iload_n K dX2_needed_19 rfl 1 rfl ?_
      refine sk_aload_n K dX2_needed_20 rfl 0 rfl ?_
      obtain ⟨v4, e5, hf⟩ := sk_ob hf
      refine sk_getR K dX2_needed_21 fl_X2_43 rfl e5 ?_
      refine sk_iload_n K dX2_needed_24 rfl 2 rfl ?_
      obtain ⟨v6, e7, hf⟩ := sk_ob hf
      refine sk_ald20 K dX2_needed_25 e7 ?_
      refine sk_ior K dX2_needed_26 ?_
      refine sk_istore_n [(2, .int (s1.1 ||| v6)), (0, .ref p0), (3, .int s1.2)] K dX2_needed_27 rfl (by decide) rfl ?_
      refine sk_iinc (s1.2 + (-1)) [(3, .int (s1.2 + (-1))), (2, .int (s1.1 ||| v6)), (0, .ref p0)] K dX2_needed_28 2 rfl rfl (by decide) rfl ?_
      refine sk_goto 6 K dX2_needed_31 (by decide) ?_
      refine sk_sub [(0, .ref p0), (2, .int (s1.1 ||| v6)), (3, .int (s1.2 + (-1)))] [2, 1, 0] rfl ?_
      exact ih1 _ (Option.some.inj hf).symm
noncomputable def fX2_gainOf_L13 (S : sk_S) (d : sk_D) (p0 : Nat) (p1 : Int32) (v1 : Int32) (s1 : Int32 × Int32) : Option ((Int32 × Int32) ⊕ (Int32)) :=
  (sk_gI S d p0 2 1).bind fun v4 => if v4 ≤ s1.2 then ((sk_gR S p0 2 7).bind fun v7 => (sk_lI S d v7 20 p1).bind fun v9 => some (.inr (v9 * s1.1))) else (if ((v1 >>> (s1.2 &&& 31)) &&& (1 : Int32)) = (1 : Int32) then ((sk_gR S p0 2 9).bind fun v13 => (sk_lI S d v13 20 s1.2).bind fun v15 => some (.inl (s1.1 + v15, s1.2 + 1))) else (some (.inl (s1.1, s1.2 + 1))))
noncomputable def fX2_gainOf (S : sk_S) (d : sk_D) (p0 : Nat) (p1 : Int32) (p2 : Int32) : Option (Int32) :=
  if S.2.1 p0 = (2, 0) then ((fX2_needing S d p0 p1 p2).bind fun v1 => (sk_itr (fX2_gainOf_L13 S d p0 p1 v1) ((0 : Int32), (0 : Int32))).bind fun x1 => some x1) else none
set_option maxRecDepth 100000 in
set_option maxHeartbeats 4000000 in
theorem sX2_gainOf (C : sk_C) (l : Launch) {S : sk_S} {d : sk_D} {p0 : Nat} {p1 : Int32} {p2 : Int32} {rr : Int32} (hf : fX2_gainOf S d p0 p1 p2 = some rr) : sk_Met C l 1 yX2_gainOf cX2_gainOf 6 (some .int) [.ref p0, .int p1, .int p2] S d (some (.int rr)) S d := by
  refine sk_Met.of (by decide) (by decide) (Nat.le_refl _) (Nat.le_refl _) (fun X K0 hX => ?_)
  have K : sk_Ok X C cX2_gainOf 6 RX2 "gainOf" (some .int) 1 l (some (.int rr)) S d := K0
  have R1 : X.2.2.2.2.2.2.2.2.2.2.2.1 ≤ S.1.1 ∧ X.2.2.2.2.2.2.2.2.2.2.2.2 ≤ S.1.2 := by rw [hX]; exact ⟨Nat.le_refl _, Nat.le_refl _⟩
  have R2 : S.1.1 ≤ S.1.1 ∧ S.1.2 ≤ S.1.2 := ⟨Nat.le_refl _, Nat.le_refl _⟩
  show sk_G X C 6 S d 0 [(0, .ref p0), (1, .int p1), (2, .int p2)] []
  unfold fX2_gainOf at hf
  refine sk_aload_n K dX2_gainOf_0 rfl 0 rfl ?_
  refine sk_iload_n K dX2_gainOf_1 rfl 1 rfl ?_
  refine sk_iload_n K dX2_gainOf_2 rfl 2 rfl ?_
  obtain ⟨h3, hf⟩ := sk_ib hf
  obtain ⟨v1, e2, hf⟩ := sk_ob hf
  refine sk_callV (As := [.int p1, .int p2]) (st := []) K dX2_gainOf_3 cl_X2_79 h3 (sX2_needing C l e2) (by decide) rfl rfl (by decide) R1 R2 ?_
  refine sk_istore_n [(3, .int v1), (0, .ref p0), (1, .int p1), (2, .int p2)] K dX2_gainOf_6 rfl (by decide) rfl ?_
  refine sk_iconst (0 : Int32) K dX2_gainOf_7 (by decide) ?_
  refine sk_istore [(4, .int (0 : Int32)), (3, .int v1), (0, .ref p0), (1, .int p1), (2, .int p2)] K dX2_gainOf_8 (by decide) rfl ?_
  refine sk_iconst (0 : Int32) K dX2_gainOf_10 (by decide) ?_
  refine sk_istore [(5, .int (0 : Int32)), (4, .int (0 : Int32)), (3, .int v1), (0, .ref p0), (1, .int p1), (2, .int p2)] K dX2_gainOf_11 (by decide) rfl ?_
  obtain ⟨x1, he1, hf⟩ := sk_ob hf
  have hret1 : ∀ r, x1 = r → r = rr := by
    intro r hr
    subst hr
    exact Option.some.inj hf
  refine sk_loop (fun s1 => sk_G X C 6 S d 13 [(0, .ref p0), (1, .int p1), (3, .int v1), (4, .int s1.1), (5, .int s1.2)] []) he1 (fun s1 o1 hf ih1 hx1 => ?_)
  unfold fX2_gainOf_L13 at hf
  refine sk_iload K dX2_gainOf_13 4 rfl ?_
  refine sk_aload_n K dX2_gainOf_15 rfl 0 rfl ?_
  obtain ⟨v4, e5, hf⟩ := sk_ob hf
  refine sk_getI K dX2_gainOf_16 fl_X2_15 rfl e5 ?_
  refine sk_icmp_ge 50 K dX2_gainOf_19 (by decide) (fun h6 => ?_) (fun h6 => ?_)
  · rw [if_pos h6] at hf
    refine sk_aload_n K dX2_gainOf_50 rfl 0 rfl ?_
    obtain ⟨v7, e8, hf⟩ := sk_ob hf
    refine sk_getR K dX2_gainOf_51 fl_X2_34 rfl e8 ?_
    refine sk_iload_n K dX2_gainOf_54 rfl 1 rfl ?_
    obtain ⟨v9, e10, hf⟩ := sk_ob hf
    refine sk_ald20 K dX2_gainOf_55 e10 ?_
    refine sk_iload K dX2_gainOf_56 3 rfl ?_
    refine sk_imul K dX2_gainOf_58 ?_
    have hR11 : (v9 * s1.1) = rr := hret1 _ (hx1 _ (Option.some.inj hf).symm).symm
    exact sk_iret K dX2_gainOf_59 rfl rfl hR11 rfl rfl
  · rw [if_neg h6] at hf
    refine sk_iload_n K dX2_gainOf_22 rfl 2 rfl ?_
    refine sk_iload K dX2_gainOf_23 4 rfl ?_
    refine sk_ishr K dX2_gainOf_25 ?_
    refine sk_iconst (1 : Int32) K dX2_gainOf_26 (by decide) ?_
    refine sk_iand K dX2_gainOf_27 ?_
    refine sk_iconst (1 : Int32) K dX2_gainOf_28 (by decide) ?_
    refine sk_icmp_ne 44 K dX2_gainOf_29 (by decide) (fun h12 => ?_) (fun h12 => ?_)
    · rw [if_neg h12] at hf
      refine sk_iinc (s1.2 + 1) [(5, .int (s1.2 + 1)), (0, .ref p0), (1, .int p1), (3, .int v1), (4, .int s1.1)] K dX2_gainOf_44 4 rfl rfl (by decide) rfl ?_
      refine sk_goto 13 K dX2_gainOf_47 (by decide) ?_
      refine sk_sub [(0, .ref p0), (1, .int p1), (3, .int v1), (4, .int s1.1), (5, .int (s1.2 + 1))] [1, 2, 3, 4, 0] rfl ?_
      exact ih1 _ (Option.some.inj hf).symm
    · rw [if_pos h12] at hf
      refine sk_iload K dX2_gainOf_32 3 rfl ?_
      refine sk_aload_n K dX2_gainOf_34 rfl 0 rfl ?_
      obtain ⟨v13, e14, hf⟩ := sk_ob hf
      refine sk_getR K dX2_gainOf_35 fl_X2_40 rfl e14 ?_
      refine sk_iload K dX2_gainOf_38 4 rfl ?_
      obtain ⟨v15, e16, hf⟩ := sk_ob hf
      refine sk_ald20 K dX2_gainOf_40 e16 ?_
      refine sk_iadd K dX2_gainOf_41 ?_
      refine sk_istore [(4, .int (s1.1 + v15)), (0, .ref p0), (1, .int p1), (3, .int v1), (5, .int s1.2)] K dX2_gainOf_42 (by decide) rfl ?_
      refine sk_iinc (s1.2 + 1) [(5, .int (s1.2 + 1)), (4, .int (s1.1 + v15)), (0, .ref p0), (1, .int p1), (3, .int v1)] K dX2_gainOf_44 4 rfl rfl (by decide) rfl ?_
      refine sk_goto 13 K dX2_gainOf_47 (by decide) ?_
      refine sk_sub [(0, .ref p0), (1, .int p1), (3, .int v1), (4, .int (s1.1 + v15)), (5, .int (s1.2 + 1))] [2, 3, 4, 1, 0] rfl ?_
      exact ih1 _ (Option.some.inj hf).symm
noncomputable def fX2_gainsOf_L5 (S : sk_S) (d : sk_D) (p0 : Nat) (p1 : Int32) (p2 : Int32) (s1 : Int32 × Int32) : Option ((Int32 × Int32) ⊕ (Int32)) :=
  (sk_gI S d p0 2 1).bind fun v1 => if v1 ≤ s1.2 then (some (.inr s1.1)) else (if ((p1 >>> (s1.2 &&& 31)) &&& (1 : Int32)) = (1 : Int32) then (if S.2.1 p0 = (2, 0) then ((fX2_gainOf S d p0 s1.2 p2).bind fun v6 => some (.inl (s1.1 + v6, s1.2 + 1))) else none) else (some (.inl (s1.1, s1.2 + 1))))
noncomputable def fX2_gainsOf (S : sk_S) (d : sk_D) (p0 : Nat) (p1 : Int32) (p2 : Int32) : Option (Int32) :=
  (sk_itr (fX2_gainsOf_L5 S d p0 p1 p2) ((0 : Int32), (0 : Int32))).bind fun x1 => some x1
set_option maxRecDepth 100000 in
set_option maxHeartbeats 4000000 in
theorem sX2_gainsOf (C : sk_C) (l : Launch) {S : sk_S} {d : sk_D} {p0 : Nat} {p1 : Int32} {p2 : Int32} {rr : Int32} (hf : fX2_gainsOf S d p0 p1 p2 = some rr) : sk_Met C l 2 yX2_gainsOf cX2_gainsOf 5 (some .int) [.ref p0, .int p1, .int p2] S d (some (.int rr)) S d := by
  refine sk_Met.of (by decide) (by decide) (Nat.le_refl _) (Nat.le_refl _) (fun X K0 hX => ?_)
  have K : sk_Ok X C cX2_gainsOf 5 RX2 "gainsOf" (some .int) 2 l (some (.int rr)) S d := K0
  have R1 : X.2.2.2.2.2.2.2.2.2.2.2.1 ≤ S.1.1 ∧ X.2.2.2.2.2.2.2.2.2.2.2.2 ≤ S.1.2 := by rw [hX]; exact ⟨Nat.le_refl _, Nat.le_refl _⟩
  have R2 : S.1.1 ≤ S.1.1 ∧ S.1.2 ≤ S.1.2 := ⟨Nat.le_refl _, Nat.le_refl _⟩
  show sk_G X C 5 S d 0 [(0, .ref p0), (1, .int p1), (2, .int p2)] []
  unfold fX2_gainsOf at hf
  refine sk_iconst (0 : Int32) K dX2_gainsOf_0 (by decide) ?_
  refine sk_istore_n [(3, .int (0 : Int32)), (0, .ref p0), (1, .int p1), (2, .int p2)] K dX2_gainsOf_1 rfl (by decide) rfl ?_
  refine sk_iconst (0 : Int32) K dX2_gainsOf_2 (by decide) ?_
  refine sk_istore [(4, .int (0 : Int32)), (3, .int (0 : Int32)), (0, .ref p0), (1, .int p1), (2, .int p2)] K dX2_gainsOf_3 (by decide) rfl ?_
  obtain ⟨x1, he1, hf⟩ := sk_ob hf
  have hret1 : ∀ r, x1 = r → r = rr := by
    intro r hr
    subst hr
    exact Option.some.inj hf
  refine sk_loop (fun s1 => sk_G X C 5 S d 5 [(0, .ref p0), (1, .int p1), (2, .int p2), (3, .int s1.1), (4, .int s1.2)] []) he1 (fun s1 o1 hf ih1 hx1 => ?_)
  unfold fX2_gainsOf_L5 at hf
  refine sk_iload K dX2_gainsOf_5 4 rfl ?_
  refine sk_aload_n K dX2_gainsOf_7 rfl 0 rfl ?_
  obtain ⟨v1, e2, hf⟩ := sk_ob hf
  refine sk_getI K dX2_gainsOf_8 fl_X2_15 rfl e2 ?_
  refine sk_icmp_ge 40 K dX2_gainsOf_11 (by decide) (fun h3 => ?_) (fun h3 => ?_)
  · rw [if_pos h3] at hf
    refine sk_iload_n K dX2_gainsOf_40 rfl 3 rfl ?_
    have hR4 : s1.1 = rr := hret1 _ (hx1 _ (Option.some.inj hf).symm).symm
    exact sk_iret K dX2_gainsOf_41 rfl rfl hR4 rfl rfl
  · rw [if_neg h3] at hf
    refine sk_iload_n K dX2_gainsOf_14 rfl 1 rfl ?_
    refine sk_iload K dX2_gainsOf_15 4 rfl ?_
    refine sk_ishr K dX2_gainsOf_17 ?_
    refine sk_iconst (1 : Int32) K dX2_gainsOf_18 (by decide) ?_
    refine sk_iand K dX2_gainsOf_19 ?_
    refine sk_iconst (1 : Int32) K dX2_gainsOf_20 (by decide) ?_
    refine sk_icmp_ne 34 K dX2_gainsOf_21 (by decide) (fun h5 => ?_) (fun h5 => ?_)
    · rw [if_neg h5] at hf
      refine sk_iinc (s1.2 + 1) [(4, .int (s1.2 + 1)), (0, .ref p0), (1, .int p1), (2, .int p2), (3, .int s1.1)] K dX2_gainsOf_34 4 rfl rfl (by decide) rfl ?_
      refine sk_goto 5 K dX2_gainsOf_37 (by decide) ?_
      refine sk_sub [(0, .ref p0), (1, .int p1), (2, .int p2), (3, .int s1.1), (4, .int (s1.2 + 1))] [1, 2, 3, 4, 0] rfl ?_
      exact ih1 _ (Option.some.inj hf).symm
    · rw [if_pos h5] at hf
      refine sk_iload_n K dX2_gainsOf_24 rfl 3 rfl ?_
      refine sk_aload_n K dX2_gainsOf_25 rfl 0 rfl ?_
      refine sk_iload K dX2_gainsOf_26 4 rfl ?_
      refine sk_iload_n K dX2_gainsOf_28 rfl 2 rfl ?_
      obtain ⟨h8, hf⟩ := sk_ib hf
      obtain ⟨v6, e7, hf⟩ := sk_ob hf
      refine sk_callV (As := [.int s1.2, .int p2]) (st := [.int s1.1]) K dX2_gainsOf_29 cl_X2_83 h8 (sX2_gainOf C l e7) (by decide) rfl rfl (by decide) R1 R2 ?_
      refine sk_iadd K dX2_gainsOf_32 ?_
      refine sk_istore_n [(3, .int (s1.1 + v6)), (0, .ref p0), (1, .int p1), (2, .int p2), (4, .int s1.2)] K dX2_gainsOf_33 rfl (by decide) rfl ?_
      refine sk_iinc (s1.2 + 1) [(4, .int (s1.2 + 1)), (3, .int (s1.1 + v6)), (0, .ref p0), (1, .int p1), (2, .int p2)] K dX2_gainsOf_34 4 rfl rfl (by decide) rfl ?_
      refine sk_goto 5 K dX2_gainsOf_37 (by decide) ?_
      refine sk_sub [(0, .ref p0), (1, .int p1), (2, .int p2), (3, .int (s1.1 + v6)), (4, .int (s1.2 + 1))] [2, 3, 4, 1, 0] rfl ?_
      exact ih1 _ (Option.some.inj hf).symm
noncomputable def fX2_bestPacked_L7 (S : sk_S) (d : sk_D) (p0 : Nat) (p1 : Int32) (s1 : Int32 × Int32 × Int32) : Option ((Int32 × Int32 × Int32) ⊕ (Int32)) :=
  if (256 : Int32) ≤ s1.2.2 then (some (.inr s1.1)) else (if (s1.2.2 &&& (p1 ^^^ (-1 : Int32))) = 0 then (if S.2.1 p0 = (2, 0) then ((fX2_roomLeft S d p0 s1.2.2).bind fun v4 => if v4 < 0 then (some (.inl (s1.1, s1.2.1, s1.2.2 + 1))) else (if S.2.1 p0 = (2, 0) then ((fX2_gainsOf S d p0 s1.2.2 p1).bind fun v8 => if v8 ≤ s1.2.1 then (some (.inl (s1.1, s1.2.1, s1.2.2 + 1))) else (some (.inl (s1.2.2, v8, s1.2.2 + 1)))) else none)) else none) else (some (.inl (s1.1, s1.2.1, s1.2.2 + 1))))
noncomputable def fX2_bestPacked (S : sk_S) (d : sk_D) (p0 : Nat) (p1 : Int32) : Option (Int32) :=
  (sk_itr (fX2_bestPacked_L7 S d p0 p1) ((0 : Int32), (0 : Int32), (1 : Int32))).bind fun x1 => some x1
set_option maxRecDepth 100000 in
set_option maxHeartbeats 4000000 in
theorem sX2_bestPacked (C : sk_C) (l : Launch) {S : sk_S} {d : sk_D} {p0 : Nat} {p1 : Int32} {rr : Int32} (hf : fX2_bestPacked S d p0 p1 = some rr) : sk_Met C l 3 yX2_bestPacked cX2_bestPacked 6 (some .int) [.ref p0, .int p1] S d (some (.int rr)) S d := by
  refine sk_Met.of (by decide) (by decide) (Nat.le_refl _) (Nat.le_refl _) (fun X K0 hX => ?_)
  have K : sk_Ok X C cX2_bestPacked 6 RX2 "bestPacked" (some .int) 3 l (some (.int rr)) S d := K0
  have R1 : X.2.2.2.2.2.2.2.2.2.2.2.1 ≤ S.1.1 ∧ X.2.2.2.2.2.2.2.2.2.2.2.2 ≤ S.1.2 := by rw [hX]; exact ⟨Nat.le_refl _, Nat.le_refl _⟩
  have R2 : S.1.1 ≤ S.1.1 ∧ S.1.2 ≤ S.1.2 := ⟨Nat.le_refl _, Nat.le_refl _⟩
  show sk_G X C 6 S d 0 [(0, .ref p0), (1, .int p1)] []
  unfold fX2_bestPacked at hf
  refine sk_iconst (0 : Int32) K dX2_bestPacked_0 (by decide) ?_
  refine sk_istore_n [(2, .int (0 : Int32)), (0, .ref p0), (1, .int p1)] K dX2_bestPacked_1 rfl (by decide) rfl ?_
  refine sk_iconst (0 : Int32) K dX2_bestPacked_2 (by decide) ?_
  refine sk_istore_n [(3, .int (0 : Int32)), (2, .int (0 : Int32)), (0, .ref p0), (1, .int p1)] K dX2_bestPacked_3 rfl (by decide) rfl ?_
  refine sk_iconst (1 : Int32) K dX2_bestPacked_4 (by decide) ?_
  refine sk_istore [(4, .int (1 : Int32)), (3, .int (0 : Int32)), (2, .int (0 : Int32)), (0, .ref p0), (1, .int p1)] K dX2_bestPacked_5 (by decide) rfl ?_
  obtain ⟨x1, he1, hf⟩ := sk_ob hf
  have hret1 : ∀ r, x1 = r → r = rr := by
    intro r hr
    subst hr
    exact Option.some.inj hf
  refine sk_loop (fun s1 => sk_G X C 6 S d 7 [(0, .ref p0), (1, .int p1), (2, .int s1.1), (3, .int s1.2.1), (4, .int s1.2.2)] []) he1 (fun s1 o1 hf ih1 hx1 => ?_)
  unfold fX2_bestPacked_L7 at hf
  refine sk_iload K dX2_bestPacked_7 4 rfl ?_
  refine sk_sipush (256 : Int32) K dX2_bestPacked_9 (by decide) ?_
  refine sk_icmp_ge 60 K dX2_bestPacked_12 (by decide) (fun h1 => ?_) (fun h1 => ?_)
  · rw [if_pos h1] at hf
    refine sk_iload_n K dX2_bestPacked_60 rfl 2 rfl ?_
    have hR2 : s1.1 = rr := hret1 _ (hx1 _ (Option.some.inj hf).symm).symm
    exact sk_iret K dX2_bestPacked_61 rfl rfl hR2 rfl rfl
  · rw [if_neg h1] at hf
    refine sk_iload K dX2_bestPacked_15 4 rfl ?_
    refine sk_iload_n K dX2_bestPacked_17 rfl 1 rfl ?_
    refine sk_iconst (-1 : Int32) K dX2_bestPacked_18 (by decide) ?_
    refine sk_ixor K dX2_bestPacked_19 ?_
    refine sk_iand K dX2_bestPacked_20 ?_
    refine sk_if_ne 54 K dX2_bestPacked_21 (by decide) (fun h3 => ?_) (fun h3 => ?_)
    · rw [if_neg h3] at hf
      refine sk_iinc (s1.2.2 + 1) [(4, .int (s1.2.2 + 1)), (0, .ref p0), (1, .int p1), (2, .int s1.1), (3, .int s1.2.1)] K dX2_bestPacked_54 4 rfl rfl (by decide) rfl ?_
      refine sk_goto 7 K dX2_bestPacked_57 (by decide) ?_
      refine sk_sub [(0, .ref p0), (1, .int p1), (2, .int s1.1), (3, .int s1.2.1), (4, .int (s1.2.2 + 1))] [1, 2, 3, 4, 0] rfl ?_
      exact ih1 _ (Option.some.inj hf).symm
    · rw [if_pos h3] at hf
      refine sk_aload_n K dX2_bestPacked_24 rfl 0 rfl ?_
      refine sk_iload K dX2_bestPacked_25 4 rfl ?_
      obtain ⟨h6, hf⟩ := sk_ib hf
      obtain ⟨v4, e5, hf⟩ := sk_ob hf
      refine sk_callV (As := [.int s1.2.2]) (st := []) K dX2_bestPacked_27 cl_X2_86 h6 (sX2_roomLeft C l e5) (by decide) rfl rfl (by decide) R1 R2 ?_
      refine sk_if_lt 54 K dX2_bestPacked_30 (by decide) (fun h7 => ?_) (fun h7 => ?_)
      · rw [if_pos h7] at hf
        refine sk_iinc (s1.2.2 + 1) [(4, .int (s1.2.2 + 1)), (0, .ref p0), (1, .int p1), (2, .int s1.1), (3, .int s1.2.1)] K dX2_bestPacked_54 4 rfl rfl (by decide) rfl ?_
        refine sk_goto 7 K dX2_bestPacked_57 (by decide) ?_
        refine sk_sub [(0, .ref p0), (1, .int p1), (2, .int s1.1), (3, .int s1.2.1), (4, .int (s1.2.2 + 1))] [1, 2, 3, 4, 0] rfl ?_
        exact ih1 _ (Option.some.inj hf).symm
      · rw [if_neg h7] at hf
        refine sk_aload_n K dX2_bestPacked_33 rfl 0 rfl ?_
        refine sk_iload K dX2_bestPacked_34 4 rfl ?_
        refine sk_iload_n K dX2_bestPacked_36 rfl 1 rfl ?_
        obtain ⟨h10, hf⟩ := sk_ib hf
        obtain ⟨v8, e9, hf⟩ := sk_ob hf
        refine sk_callV (As := [.int s1.2.2, .int p1]) (st := []) K dX2_bestPacked_37 cl_X2_90 h10 (sX2_gainsOf C l e9) (by decide) rfl rfl (by decide) R1 R2 ?_
        refine sk_istore [(5, .int v8), (0, .ref p0), (1, .int p1), (2, .int s1.1), (3, .int s1.2.1), (4, .int s1.2.2)] K dX2_bestPacked_40 (by decide) rfl ?_
        refine sk_iload K dX2_bestPacked_42 0 rfl ?_
        refine sk_iload_n K dX2_bestPacked_44 rfl 4 rfl ?_
        refine sk_icmp_le 54 K dX2_bestPacked_45 (by decide) (fun h11 => ?_) (fun h11 => ?_)
        · rw [if_pos h11] at hf
          refine sk_iinc (s1.2.2 + 1) [(4, .int (s1.2.2 + 1)), (5, .int v8), (0, .ref p0), (1, .int p1), (2, .int s1.1), (3, .int s1.2.1)] K dX2_bestPacked_54 5 rfl rfl (by decide) rfl ?_
          refine sk_goto 7 K dX2_bestPacked_57 (by decide) ?_
          refine sk_sub [(0, .ref p0), (1, .int p1), (2, .int s1.1), (3, .int s1.2.1), (4, .int (s1.2.2 + 1))] [2, 3, 4, 5, 0] rfl ?_
          exact ih1 _ (Option.some.inj hf).symm
        · rw [if_neg h11] at hf
          refine sk_iload K dX2_bestPacked_48 0 rfl ?_
          refine sk_istore_n [(3, .int v8), (5, .int v8), (0, .ref p0), (1, .int p1), (2, .int s1.1), (4, .int s1.2.2)] K dX2_bestPacked_50 rfl (by decide) rfl ?_
          refine sk_iload K dX2_bestPacked_51 5 rfl ?_
          refine sk_istore_n [(2, .int s1.2.2), (3, .int v8), (5, .int v8), (0, .ref p0), (1, .int p1), (4, .int s1.2.2)] K dX2_bestPacked_53 rfl (by decide) rfl ?_
          refine sk_iinc (s1.2.2 + 1) [(4, .int (s1.2.2 + 1)), (2, .int s1.2.2), (3, .int v8), (5, .int v8), (0, .ref p0), (1, .int p1)] K dX2_bestPacked_54 5 rfl rfl (by decide) rfl ?_
          refine sk_goto 7 K dX2_bestPacked_57 (by decide) ?_
          refine sk_sub [(0, .ref p0), (1, .int p1), (2, .int s1.2.2), (3, .int v8), (4, .int (s1.2.2 + 1))] [4, 5, 1, 2, 0] rfl ?_
          exact ih1 _ (Option.some.inj hf).symm
noncomputable def fX2_doorOf_L64 (S : sk_S) (d : sk_D) (p0 : Nat) (p1 : Int32) (s2 : Int32 × Int32) : Option ((Int32 × Int32) ⊕ (Int32)) :=
  (sk_gI S d p0 2 2).bind fun v2 => if v2 ≤ s2.2 then (some (.inr (-1 : Int32))) else ((sk_gR S p0 2 6).bind fun v6 => (sk_lI S d v6 20 p1).bind fun v8 => (sk_gR S p0 2 12).bind fun v10 => (sk_lI S d v10 20 s2.2).bind fun v12 => if (v8 + v12) = (9 : Int32) then (if s2.1 = 0 then (some (.inr s2.2)) else (some (.inl (s2.1 + (-1), s2.2 + 1)))) else (some (.inl (s2.1, s2.2 + 1))))
noncomputable def fX2_doorOf_L15 (S : sk_S) (d : sk_D) (p0 : Nat) (p1 : Int32) (p2 : Int32) (s1 : Int32 × Int32) : Option ((Int32 × Int32) ⊕ (Int32)) :=
  if p1 ≤ s1.2 then (some (.inr s1.1)) else (if ((p2 >>> (s1.2 &&& 31)) &&& (1 : Int32)) = (1 : Int32) then ((sk_gR S p0 2 6).bind fun v19 => (sk_lI S d v19 20 s1.2).bind fun v21 => (sk_gR S p0 2 6).bind fun v23 => (sk_lI S d v23 20 p1).bind fun v25 => if v21 = v25 then (some (.inl (s1.1 + (1 : Int32), s1.2 + 1))) else (some (.inl (s1.1 + (0 : Int32), s1.2 + 1)))) else (some (.inl (s1.1 + (0 : Int32), s1.2 + 1))))
noncomputable def fX2_doorOf (S : sk_S) (d : sk_D) (p0 : Nat) (p1 : Int32) (p2 : Int32) : Option (Int32) :=
  if ((p2 >>> (p1 &&& 31)) &&& (1 : Int32)) = 0 then (some (-1 : Int32)) else ((sk_itr (fX2_doorOf_L15 S d p0 p1 p2) ((0 : Int32), (0 : Int32))).bind fun y1 => (sk_itr (fX2_doorOf_L64 S d p0 p1) (y1, (0 : Int32))).bind fun x2 => some x2)
set_option maxRecDepth 100000 in
set_option maxHeartbeats 4000000 in
theorem sX2_doorOf (C : sk_C) (l : Launch) {S : sk_S} {d : sk_D} {p0 : Nat} {p1 : Int32} {p2 : Int32} {rr : Int32} (hf : fX2_doorOf S d p0 p1 p2 = some rr) : sk_Met C l 0 yX2_doorOf cX2_doorOf 5 (some .int) [.ref p0, .int p1, .int p2] S d (some (.int rr)) S d := by
  refine sk_Met.of (by decide) (by decide) (Nat.le_refl _) (Nat.le_refl _) (fun X K0 hX => ?_)
  have K : sk_Ok X C cX2_doorOf 5 RX2 "doorOf" (some .int) 0 l (some (.int rr)) S d := K0
  have R1 : X.2.2.2.2.2.2.2.2.2.2.2.1 ≤ S.1.1 ∧ X.2.2.2.2.2.2.2.2.2.2.2.2 ≤ S.1.2 := by rw [hX]; exact ⟨Nat.le_refl _, Nat.le_refl _⟩
  have R2 : S.1.1 ≤ S.1.1 ∧ S.1.2 ≤ S.1.2 := ⟨Nat.le_refl _, Nat.le_refl _⟩
  show sk_G X C 5 S d 0 [(0, .ref p0), (1, .int p1), (2, .int p2)] []
  unfold fX2_doorOf at hf
  refine sk_iload_n K dX2_doorOf_0 rfl 2 rfl ?_
  refine sk_iload_n K dX2_doorOf_1 rfl 1 rfl ?_
  refine sk_ishr K dX2_doorOf_2 ?_
  refine sk_iconst (1 : Int32) K dX2_doorOf_3 (by decide) ?_
  refine sk_iand K dX2_doorOf_4 ?_
  refine sk_if_ne 10 K dX2_doorOf_5 (by decide) (fun h1 => ?_) (fun h1 => ?_)
  · rw [if_neg h1] at hf
    refine sk_iconst (0 : Int32) K dX2_doorOf_10 (by decide) ?_
    refine sk_istore_n [(3, .int (0 : Int32)), (0, .ref p0), (1, .int p1), (2, .int p2)] K dX2_doorOf_11 rfl (by decide) rfl ?_
    refine sk_iconst (0 : Int32) K dX2_doorOf_12 (by decide) ?_
    refine sk_istore [(4, .int (0 : Int32)), (3, .int (0 : Int32)), (0, .ref p0), (1, .int p1), (2, .int p2)] K dX2_doorOf_13 (by decide) rfl ?_
    obtain ⟨x1, he1, hf⟩ := sk_ob hf
    have rest1 : ∀ y1, x1 = y1 → sk_G X C 5 S d 61 [(0, .ref p0), (1, .int p1), (3, .int y1)] [] := by
      intro y1 hy
      subst hy
      refine sk_iconst (0 : Int32) K dX2_doorOf_61 (by decide) ?_
      refine sk_istore [(4, .int (0 : Int32)), (0, .ref p0), (1, .int p1), (3, .int y1)] K dX2_doorOf_62 (by decide) rfl ?_
      obtain ⟨x2, he2, hf⟩ := sk_ob hf
      have hret2 : ∀ r, x2 = r → r = rr := by
        intro r hr
        subst hr
        exact Option.some.inj hf
      refine sk_loop (fun s2 => sk_G X C 5 S d 64 [(0, .ref p0), (1, .int p1), (3, .int s2.1), (4, .int s2.2)] []) he2 (fun s2 o2 hf ih2 hx2 => ?_)
      unfold fX2_doorOf_L64 at hf
      refine sk_iload K dX2_doorOf_64 3 rfl ?_
      refine sk_aload_n K dX2_doorOf_66 rfl 0 rfl ?_
      obtain ⟨v2, e3, hf⟩ := sk_ob hf
      refine sk_getI K dX2_doorOf_67 fl_X2_18 rfl e3 ?_
      refine sk_icmp_ge 108 K dX2_doorOf_70 (by decide) (fun h4 => ?_) (fun h4 => ?_)
      · rw [if_pos h4] at hf
        refine sk_iconst (-1 : Int32) K dX2_doorOf_108 (by decide) ?_
        have hR5 : (-1 : Int32) = rr := hret2 _ (hx2 _ (Option.some.inj hf).symm).symm
        exact sk_iret K dX2_doorOf_109 rfl rfl hR5 rfl rfl
      · rw [if_neg h4] at hf
        refine sk_aload_n K dX2_doorOf_73 rfl 0 rfl ?_
        obtain ⟨v6, e7, hf⟩ := sk_ob hf
        refine sk_getR K dX2_doorOf_74 fl_X2_31 rfl e7 ?_
        refine sk_iload_n K dX2_doorOf_77 rfl 1 rfl ?_
        obtain ⟨v8, e9, hf⟩ := sk_ob hf
        refine sk_ald20 K dX2_doorOf_78 e9 ?_
        refine sk_aload_n K dX2_doorOf_79 rfl 0 rfl ?_
        obtain ⟨v10, e11, hf⟩ := sk_ob hf
        refine sk_getR K dX2_doorOf_80 fl_X2_49 rfl e11 ?_
        refine sk_iload K dX2_doorOf_83 3 rfl ?_
        obtain ⟨v12, e13, hf⟩ := sk_ob hf
        refine sk_ald20 K dX2_doorOf_85 e13 ?_
        refine sk_iadd K dX2_doorOf_86 ?_
        refine sk_bipush (9 : Int32) K dX2_doorOf_87 (by decide) ?_
        refine sk_icmp_ne 102 K dX2_doorOf_89 (by decide) (fun h14 => ?_) (fun h14 => ?_)
        · rw [if_neg h14] at hf
          refine sk_iinc (s2.2 + 1) [(4, .int (s2.2 + 1)), (0, .ref p0), (1, .int p1), (3, .int s2.1)] K dX2_doorOf_102 3 rfl rfl (by decide) rfl ?_
          refine sk_goto 64 K dX2_doorOf_105 (by decide) ?_
          refine sk_sub [(0, .ref p0), (1, .int p1), (3, .int s2.1), (4, .int (s2.2 + 1))] [1, 2, 3, 0] rfl ?_
          exact ih2 _ (Option.some.inj hf).symm
        · rw [if_pos h14] at hf
          refine sk_iload_n K dX2_doorOf_92 rfl 2 rfl ?_
          refine sk_if_ne 99 K dX2_doorOf_93 (by decide) (fun h15 => ?_) (fun h15 => ?_)
          · rw [if_neg h15] at hf
            refine sk_iinc (s2.1 + (-1)) [(3, .int (s2.1 + (-1))), (0, .ref p0), (1, .int p1), (4, .int s2.2)] K dX2_doorOf_99 2 rfl rfl (by decide) rfl ?_
            refine sk_iinc (s2.2 + 1) [(4, .int (s2.2 + 1)), (3, .int (s2.1 + (-1))), (0, .ref p0), (1, .int p1)] K dX2_doorOf_102 3 rfl rfl (by decide) rfl ?_
            refine sk_goto 64 K dX2_doorOf_105 (by decide) ?_
            refine sk_sub [(0, .ref p0), (1, .int p1), (3, .int (s2.1 + (-1))), (4, .int (s2.2 + 1))] [2, 3, 1, 0] rfl ?_
            exact ih2 _ (Option.some.inj hf).symm
          · rw [if_pos h15] at hf
            refine sk_iload K dX2_doorOf_96 3 rfl ?_
            have hR16 : s2.2 = rr := hret2 _ (hx2 _ (Option.some.inj hf).symm).symm
            exact sk_iret K dX2_doorOf_98 rfl rfl hR16 rfl rfl
    refine sk_loop (fun s1 => sk_G X C 5 S d 15 [(0, .ref p0), (1, .int p1), (2, .int p2), (3, .int s1.1), (4, .int s1.2)] []) he1 (fun s1 o1 hf ih1 hx1 => ?_)
    unfold fX2_doorOf_L15 at hf
    refine sk_iload K dX2_doorOf_15 4 rfl ?_
    refine sk_iload_n K dX2_doorOf_17 rfl 1 rfl ?_
    refine sk_icmp_ge 61 K dX2_doorOf_18 (by decide) (fun h17 => ?_) (fun h17 => ?_)
    · rw [if_pos h17] at hf
      refine sk_sub [(0, .ref p0), (1, .int p1), (3, .int s1.1)] [0, 1, 3] rfl ?_
      exact rest1 _ (hx1 _ (Option.some.inj hf).symm).symm
    · rw [if_neg h17] at hf
      refine sk_iload_n K dX2_doorOf_21 rfl 3 rfl ?_
      refine sk_iload_n K dX2_doorOf_22 rfl 2 rfl ?_
      refine sk_iload K dX2_doorOf_23 4 rfl ?_
      refine sk_ishr K dX2_doorOf_25 ?_
      refine sk_iconst (1 : Int32) K dX2_doorOf_26 (by decide) ?_
      refine sk_iand K dX2_doorOf_27 ?_
      refine sk_iconst (1 : Int32) K dX2_doorOf_28 (by decide) ?_
      refine sk_icmp_ne 52 K dX2_doorOf_29 (by decide) (fun h18 => ?_) (fun h18 => ?_)
      · rw [if_neg h18] at hf
        refine sk_iconst (0 : Int32) K dX2_doorOf_52 (by decide) ?_
        refine sk_iadd K dX2_doorOf_53 ?_
        refine sk_istore_n [(3, .int (s1.1 + (0 : Int32))), (0, .ref p0), (1, .int p1), (2, .int p2), (4, .int s1.2)] K dX2_doorOf_54 rfl (by decide) rfl ?_
        refine sk_iinc (s1.2 + 1) [(4, .int (s1.2 + 1)), (3, .int (s1.1 + (0 : Int32))), (0, .ref p0), (1, .int p1), (2, .int p2)] K dX2_doorOf_55 4 rfl rfl (by decide) rfl ?_
        refine sk_goto 15 K dX2_doorOf_58 (by decide) ?_
        refine sk_sub [(0, .ref p0), (1, .int p1), (2, .int p2), (3, .int (s1.1 + (0 : Int32))), (4, .int (s1.2 + 1))] [2, 3, 4, 1, 0] rfl ?_
        exact ih1 _ (Option.some.inj hf).symm
      · rw [if_pos h18] at hf
        refine sk_aload_n K dX2_doorOf_32 rfl 0 rfl ?_
        obtain ⟨v19, e20, hf⟩ := sk_ob hf
        refine sk_getR K dX2_doorOf_33 fl_X2_31 rfl e20 ?_
        refine sk_iload K dX2_doorOf_36 4 rfl ?_
        obtain ⟨v21, e22, hf⟩ := sk_ob hf
        refine sk_ald20 K dX2_doorOf_38 e22 ?_
        refine sk_aload_n K dX2_doorOf_39 rfl 0 rfl ?_
        obtain ⟨v23, e24, hf⟩ := sk_ob hf
        refine sk_getR K dX2_doorOf_40 fl_X2_31 rfl e24 ?_
        refine sk_iload_n K dX2_doorOf_43 rfl 1 rfl ?_
        obtain ⟨v25, e26, hf⟩ := sk_ob hf
        refine sk_ald20 K dX2_doorOf_44 e26 ?_
        refine sk_icmp_ne 52 K dX2_doorOf_45 (by decide) (fun h27 => ?_) (fun h27 => ?_)
        · rw [if_neg h27] at hf
          refine sk_iconst (0 : Int32) K dX2_doorOf_52 (by decide) ?_
          refine sk_iadd K dX2_doorOf_53 ?_
          refine sk_istore_n [(3, .int (s1.1 + (0 : Int32))), (0, .ref p0), (1, .int p1), (2, .int p2), (4, .int s1.2)] K dX2_doorOf_54 rfl (by decide) rfl ?_
          refine sk_iinc (s1.2 + 1) [(4, .int (s1.2 + 1)), (3, .int (s1.1 + (0 : Int32))), (0, .ref p0), (1, .int p1), (2, .int p2)] K dX2_doorOf_55 4 rfl rfl (by decide) rfl ?_
          refine sk_goto 15 K dX2_doorOf_58 (by decide) ?_
          refine sk_sub [(0, .ref p0), (1, .int p1), (2, .int p2), (3, .int (s1.1 + (0 : Int32))), (4, .int (s1.2 + 1))] [2, 3, 4, 1, 0] rfl ?_
          exact ih1 _ (Option.some.inj hf).symm
        · rw [if_pos h27] at hf
          refine sk_iconst (1 : Int32) K dX2_doorOf_48 (by decide) ?_
          refine sk_goto 53 K dX2_doorOf_49 (by decide) ?_
          refine sk_iadd K dX2_doorOf_53 ?_
          refine sk_istore_n [(3, .int (s1.1 + (1 : Int32))), (0, .ref p0), (1, .int p1), (2, .int p2), (4, .int s1.2)] K dX2_doorOf_54 rfl (by decide) rfl ?_
          refine sk_iinc (s1.2 + 1) [(4, .int (s1.2 + 1)), (3, .int (s1.1 + (1 : Int32))), (0, .ref p0), (1, .int p1), (2, .int p2)] K dX2_doorOf_55 4 rfl rfl (by decide) rfl ?_
          refine sk_goto 15 K dX2_doorOf_58 (by decide) ?_
          refine sk_sub [(0, .ref p0), (1, .int p1), (2, .int p2), (3, .int (s1.1 + (1 : Int32))), (4, .int (s1.2 + 1))] [2, 3, 4, 1, 0] rfl ?_
          exact ih1 _ (Option.some.inj hf).symm
  · rw [if_pos h1] at hf
    refine sk_iconst (-1 : Int32) K dX2_doorOf_8 (by decide) ?_
    have hR28 : (-1 : Int32) = rr := Option.some.inj hf
    exact sk_iret K dX2_doorOf_9 rfl rfl hR28 rfl rfl
noncomputable def fX2_doorsJoined_L4 (S : sk_S) (d : sk_D) (p0 : Nat) (p1 : Int32) (s1 : Int32 × Int32) : Option ((Int32 × Int32) ⊕ (Int32)) :=
  (sk_gI S d p0 2 1).bind fun v1 => if v1 ≤ s1.2 then (some (.inr s1.1)) else (if S.2.1 p0 = (2, 0) then ((fX2_doorOf S d p0 s1.2 p1).bind fun v5 => if 0 ≤ v5 then (some (.inl (s1.1 ||| ((1 : Int32) <<< (v5 &&& 31)), s1.2 + 1))) else (some (.inl (s1.1 ||| (0 : Int32), s1.2 + 1)))) else none)
noncomputable def fX2_doorsJoined (S : sk_S) (d : sk_D) (p0 : Nat) (p1 : Int32) : Option (Int32) :=
  (sk_itr (fX2_doorsJoined_L4 S d p0 p1) ((0 : Int32), (0 : Int32))).bind fun x1 => some x1
set_option maxRecDepth 100000 in
set_option maxHeartbeats 4000000 in
theorem sX2_doorsJoined (C : sk_C) (l : Launch) {S : sk_S} {d : sk_D} {p0 : Nat} {p1 : Int32} {rr : Int32} (hf : fX2_doorsJoined S d p0 p1 = some rr) : sk_Met C l 1 yX2_doorsJoined cX2_doorsJoined 5 (some .int) [.ref p0, .int p1] S d (some (.int rr)) S d := by
  refine sk_Met.of (by decide) (by decide) (Nat.le_refl _) (Nat.le_refl _) (fun X K0 hX => ?_)
  have K : sk_Ok X C cX2_doorsJoined 5 RX2 "doorsJoined" (some .int) 1 l (some (.int rr)) S d := K0
  have R1 : X.2.2.2.2.2.2.2.2.2.2.2.1 ≤ S.1.1 ∧ X.2.2.2.2.2.2.2.2.2.2.2.2 ≤ S.1.2 := by rw [hX]; exact ⟨Nat.le_refl _, Nat.le_refl _⟩
  have R2 : S.1.1 ≤ S.1.1 ∧ S.1.2 ≤ S.1.2 := ⟨Nat.le_refl _, Nat.le_refl _⟩
  show sk_G X C 5 S d 0 [(0, .ref p0), (1, .int p1)] []
  unfold fX2_doorsJoined at hf
  refine sk_iconst (0 : Int32) K dX2_doorsJoined_0 (by decide) ?_
  refine sk_istore_n [(2, .int (0 : Int32)), (0, .ref p0), (1, .int p1)] K dX2_doorsJoined_1 rfl (by decide) rfl ?_
  refine sk_iconst (0 : Int32) K dX2_doorsJoined_2 (by decide) ?_
  refine sk_istore_n [(3, .int (0 : Int32)), (2, .int (0 : Int32)), (0, .ref p0), (1, .int p1)] K dX2_doorsJoined_3 rfl (by decide) rfl ?_
  obtain ⟨x1, he1, hf⟩ := sk_ob hf
  have hret1 : ∀ r, x1 = r → r = rr := by
    intro r hr
    subst hr
    exact Option.some.inj hf
  refine sk_loop (fun s1 => sk_G X C 5 S d 4 [(0, .ref p0), (1, .int p1), (2, .int s1.1), (3, .int s1.2)] []) he1 (fun s1 o1 hf ih1 hx1 => ?_)
  unfold fX2_doorsJoined_L4 at hf
  refine sk_iload_n K dX2_doorsJoined_4 rfl 3 rfl ?_
  refine sk_aload_n K dX2_doorsJoined_5 rfl 0 rfl ?_
  obtain ⟨v1, e2, hf⟩ := sk_ob hf
  refine sk_getI K dX2_doorsJoined_6 fl_X2_15 rfl e2 ?_
  refine sk_icmp_ge 42 K dX2_doorsJoined_9 (by decide) (fun h3 => ?_) (fun h3 => ?_)
  · rw [if_pos h3] at hf
    refine sk_iload_n K dX2_doorsJoined_42 rfl 2 rfl ?_
    have hR4 : s1.1 = rr := hret1 _ (hx1 _ (Option.some.inj hf).symm).symm
    exact sk_iret K dX2_doorsJoined_43 rfl rfl hR4 rfl rfl
  · rw [if_neg h3] at hf
    refine sk_aload_n K dX2_doorsJoined_12 rfl 0 rfl ?_
    refine sk_iload_n K dX2_doorsJoined_13 rfl 3 rfl ?_
    refine sk_iload_n K dX2_doorsJoined_14 rfl 1 rfl ?_
    obtain ⟨h7, hf⟩ := sk_ib hf
    obtain ⟨v5, e6, hf⟩ := sk_ob hf
    refine sk_callV (As := [.int s1.2, .int p1]) (st := []) K dX2_doorsJoined_15 cl_X2_93 h7 (sX2_doorOf C l e6) (by decide) rfl rfl (by decide) R1 R2 ?_
    refine sk_istore [(4, .int v5), (0, .ref p0), (1, .int p1), (2, .int s1.1), (3, .int s1.2)] K dX2_doorsJoined_18 (by decide) rfl ?_
    refine sk_iload_n K dX2_doorsJoined_20 rfl 3 rfl ?_
    refine sk_iload K dX2_doorsJoined_21 0 rfl ?_
    refine sk_if_ge 30 K dX2_doorsJoined_23 (by decide) (fun h8 => ?_) (fun h8 => ?_)
    · rw [if_pos h8] at hf
      refine sk_iconst (1 : Int32) K dX2_doorsJoined_30 (by decide) ?_
      refine sk_iload K dX2_doorsJoined_31 0 rfl ?_
      refine sk_ishl K dX2_doorsJoined_33 ?_
      refine sk_ior K dX2_doorsJoined_34 ?_
      refine sk_istore_n [(2, .int (s1.1 ||| ((1 : Int32) <<< (v5 &&& 31)))), (4, .int v5), (0, .ref p0), (1, .int p1), (3, .int s1.2)] K dX2_doorsJoined_35 rfl (by decide) rfl ?_
      refine sk_iinc (s1.2 + 1) [(3, .int (s1.2 + 1)), (2, .int (s1.1 ||| ((1 : Int32) <<< (v5 &&& 31)))), (4, .int v5), (0, .ref p0), (1, .int p1)] K dX2_doorsJoined_36 4 rfl rfl (by decide) rfl ?_
      refine sk_goto 4 K dX2_doorsJoined_39 (by decide) ?_
      refine sk_sub [(0, .ref p0), (1, .int p1), (2, .int (s1.1 ||| ((1 : Int32) <<< (v5 &&& 31)))), (3, .int (s1.2 + 1))] [3, 4, 1, 0] rfl ?_
      exact ih1 _ (Option.some.inj hf).symm
    · rw [if_neg h8] at hf
      refine sk_iconst (0 : Int32) K dX2_doorsJoined_26 (by decide) ?_
      refine sk_goto 34 K dX2_doorsJoined_27 (by decide) ?_
      refine sk_ior K dX2_doorsJoined_34 ?_
      refine sk_istore_n [(2, .int (s1.1 ||| (0 : Int32))), (4, .int v5), (0, .ref p0), (1, .int p1), (3, .int s1.2)] K dX2_doorsJoined_35 rfl (by decide) rfl ?_
      refine sk_iinc (s1.2 + 1) [(3, .int (s1.2 + 1)), (2, .int (s1.1 ||| (0 : Int32))), (4, .int v5), (0, .ref p0), (1, .int p1)] K dX2_doorsJoined_36 4 rfl rfl (by decide) rfl ?_
      refine sk_goto 4 K dX2_doorsJoined_39 (by decide) ?_
      refine sk_sub [(0, .ref p0), (1, .int p1), (2, .int (s1.1 ||| (0 : Int32))), (3, .int (s1.2 + 1))] [3, 4, 1, 0] rfl ?_
      exact ih1 _ (Option.some.inj hf).symm
noncomputable def fX3_total_L25 (S : sk_S) (p0 : Nat) (t1_a : Int32) (s2 : Int32 × sk_D) : Option ((Int32 × sk_D) ⊕ (sk_D)) :=
  if (8 : Int32) ≤ s2.1 then (some (.inr s2.2)) else ((sk_gI S s2.2 p0 3 2).bind fun v18 => if (t1_a &&& (v18 ^^^ (-1 : Int32))) = 0 then (if (t1_a &&& (((1 : Int32) <<< (s2.1 &&& 31)) ^^^ (-1 : Int32))) = t1_a then (some (.inl (s2.1 + 1, s2.2))) else ((sk_gR S p0 3 0).bind fun v22 => (sk_lI S s2.2 v22 20 s2.1).bind fun v24 => if (v24 &&& ((t1_a &&& (((1 : Int32) <<< (s2.1 &&& 31)) ^^^ (-1 : Int32))) ^^^ (-1 : Int32))) = 0 then ((sk_gR S p0 3 1).bind fun v27 => (sk_lI S s2.2 v27 20 t1_a).bind fun v29 => (sk_gR S p0 3 1).bind fun v31 => (sk_lI S s2.2 v31 20 (t1_a &&& (((1 : Int32) <<< (s2.1 &&& 31)) ^^^ (-1 : Int32)))).bind fun v33 => (sk_sI S s2.2 v27 20 t1_a (v29 + v33)).bind fun d35 => some (.inl (s2.1 + 1, d35))) else (some (.inl (s2.1 + 1, s2.2))))) else (some (.inr s2.2)))
noncomputable def fX3_total_L9 (S : sk_S) (p0 : Nat) (s1 : Int32 × sk_D) : Option ((Int32 × sk_D) ⊕ (Int32 × sk_D)) :=
  if (256 : Int32) ≤ s1.1 then ((sk_gR S p0 3 1).bind fun v6 => (sk_gI S s1.2 p0 3 2).bind fun v8 => (sk_lI S s1.2 v6 20 (v8 &&& (255 : Int32))).bind fun v10 => some (.inr (v10, s1.2))) else ((sk_gR S p0 3 1).bind fun v13 => (sk_sI S s1.2 v13 20 s1.1 (0 : Int32)).bind fun d15 => (sk_itr (fX3_total_L25 S p0 s1.1) ((0 : Int32), d15)).bind fun y2 => some (.inl (s1.1 + 1, y2)))
noncomputable def fX3_total (S : sk_S) (d : sk_D) (p0 : Nat) : Option (Int32 × sk_D) :=
  (sk_gR S p0 3 1).bind fun v1 => (sk_sI S d v1 20 (0 : Int32) (1 : Int32)).bind fun d3 => (sk_itr (fX3_total_L9 S p0) ((1 : Int32), d3)).bind fun x1 => some x1
set_option maxRecDepth 100000 in
set_option maxHeartbeats 4000000 in
theorem sX3_total (C : sk_C) (l : Launch) {S : sk_S} {d : sk_D} {p0 : Nat} {rr : Int32} {dd : sk_D} (hf : fX3_total S d p0 = some (rr, dd)) : sk_Met C l 0 yX3_total cX3_total 4 (some .int) [.ref p0] S d (some (.int rr)) S dd := by
  refine sk_Met.of (by decide) (by decide) (Nat.le_refl _) (Nat.le_refl _) (fun X K0 hX => ?_)
  have K : sk_Ok X C cX3_total 4 RX3 "total" (some .int) 0 l (some (.int rr)) S dd := K0
  have R1 : X.2.2.2.2.2.2.2.2.2.2.2.1 ≤ S.1.1 ∧ X.2.2.2.2.2.2.2.2.2.2.2.2 ≤ S.1.2 := by rw [hX]; exact ⟨Nat.le_refl _, Nat.le_refl _⟩
  have R2 : S.1.1 ≤ S.1.1 ∧ S.1.2 ≤ S.1.2 := ⟨Nat.le_refl _, Nat.le_refl _⟩
  show sk_G X C 4 S d 0 [(0, .ref p0)] []
  unfold fX3_total at hf
  refine sk_aload_n K dX3_total_0 rfl 0 rfl ?_
  obtain ⟨v1, e2, hf⟩ := sk_ob hf
  refine sk_getR K dX3_total_1 fl_X3_15 rfl e2 ?_
  refine sk_iconst (0 : Int32) K dX3_total_4 (by decide) ?_
  refine sk_iconst (1 : Int32) K dX3_total_5 (by decide) ?_
  obtain ⟨d3, e4, hf⟩ := sk_ob hf
  refine sk_ast20 d3 K dX3_total_6 e4 ?_
  refine sk_iconst (1 : Int32) K dX3_total_7 (by decide) ?_
  refine sk_istore_n [(1, .int (1 : Int32)), (0, .ref p0)] K dX3_total_8 rfl (by decide) rfl ?_
  obtain ⟨x1, he1, hf⟩ := sk_ob hf
  have hret1 : ∀ r, x1 = r → r = (rr, dd) := by
    intro r hr
    subst hr
    exact Option.some.inj hf
  refine sk_loop (fun s1 => sk_G X C 4 S s1.2 9 [(0, .ref p0), (1, .int s1.1)] []) he1 (fun s1 o1 hf ih1 hx1 => ?_)
  unfold fX3_total_L9 at hf
  refine sk_iload_n K dX3_total_9 rfl 1 rfl ?_
  refine sk_sipush (256 : Int32) K dX3_total_10 (by decide) ?_
  refine sk_icmp_ge 95 K dX3_total_13 (by decide) (fun h5 => ?_) (fun h5 => ?_)
  · rw [if_pos h5] at hf
    refine sk_aload_n K dX3_total_95 rfl 0 rfl ?_
    obtain ⟨v6, e7, hf⟩ := sk_ob hf
    refine sk_getR K dX3_total_96 fl_X3_15 rfl e7 ?_
    refine sk_aload_n K dX3_total_99 rfl 0 rfl ?_
    obtain ⟨v8, e9, hf⟩ := sk_ob hf
    refine sk_getI K dX3_total_100 fl_X3_18 rfl e9 ?_
    refine sk_sipush (255 : Int32) K dX3_total_103 (by decide) ?_
    refine sk_iand K dX3_total_106 ?_
    obtain ⟨v10, e11, hf⟩ := sk_ob hf
    refine sk_ald20 K dX3_total_107 e11 ?_
    have hR12 : (v10, s1.2) = (rr, dd) := hret1 _ (hx1 _ (Option.some.inj hf).symm).symm
    exact sk_iret K dX3_total_108 rfl rfl (congrArg (fun z => z.1) hR12) rfl (congrArg (fun z => z.2) hR12)
  · rw [if_neg h5] at hf
    refine sk_aload_n K dX3_total_16 rfl 0 rfl ?_
    obtain ⟨v13, e14, hf⟩ := sk_ob hf
    refine sk_getR K dX3_total_17 fl_X3_15 rfl e14 ?_
    refine sk_iload_n K dX3_total_20 rfl 1 rfl ?_
    refine sk_iconst (0 : Int32) K dX3_total_21 (by decide) ?_
    obtain ⟨d15, e16, hf⟩ := sk_ob hf
    refine sk_ast20 d15 K dX3_total_22 e16 ?_
    refine sk_iconst (0 : Int32) K dX3_total_23 (by decide) ?_
    refine sk_istore_n [(2, .int (0 : Int32)), (0, .ref p0), (1, .int s1.1)] K dX3_total_24 rfl (by decide) rfl ?_
    obtain ⟨x2, he2, hf⟩ := sk_ob hf
    have rest2 : ∀ y2, x2 = y2 → sk_G X C 4 S y2 89 [(0, .ref p0), (1, .int s1.1)] [] := by
      intro y2 hy
      subst hy
      refine sk_iinc (s1.1 + 1) [(1, .int (s1.1 + 1)), (0, .ref p0)] K dX3_total_89 1 rfl rfl (by decide) rfl ?_
      refine sk_goto 9 K dX3_total_92 (by decide) ?_
      refine sk_sub [(0, .ref p0), (1, .int (s1.1 + 1))] [1, 0] rfl ?_
      exact ih1 _ (Option.some.inj hf).symm
    refine sk_loop (fun s2 => sk_G X C 4 S s2.2 25 [(0, .ref p0), (1, .int s1.1), (2, .int s2.1)] []) he2 (fun s2 o2 hf ih2 hx2 => ?_)
    unfold fX3_total_L25 at hf
    refine sk_iload_n K dX3_total_25 rfl 2 rfl ?_
    refine sk_bipush (8 : Int32) K dX3_total_26 (by decide) ?_
    refine sk_icmp_ge 89 K dX3_total_28 (by decide) (fun h17 => ?_) (fun h17 => ?_)
    · rw [if_pos h17] at hf
      refine sk_sub [(0, .ref p0), (1, .int s1.1)] [0, 1] rfl ?_
      exact rest2 _ (hx2 _ (Option.some.inj hf).symm).symm
    · rw [if_neg h17] at hf
      refine sk_iload_n K dX3_total_31 rfl 1 rfl ?_
      refine sk_aload_n K dX3_total_32 rfl 0 rfl ?_
      obtain ⟨v18, e19, hf⟩ := sk_ob hf
      refine sk_getI K dX3_total_33 fl_X3_18 rfl e19 ?_
      refine sk_iconst (-1 : Int32) K dX3_total_36 (by decide) ?_
      refine sk_ixor K dX3_total_37 ?_
      refine sk_iand K dX3_total_38 ?_
      refine sk_if_ne 89 K dX3_total_39 (by decide) (fun h20 => ?_) (fun h20 => ?_)
      · rw [if_neg h20] at hf
        refine sk_sub [(0, .ref p0), (1, .int s1.1)] [0, 1] rfl ?_
        exact rest2 _ (hx2 _ (Option.some.inj hf).symm).symm
      · rw [if_pos h20] at hf
        refine sk_iload_n K dX3_total_42 rfl 1 rfl ?_
        refine sk_iconst (1 : Int32) K dX3_total_43 (by decide) ?_
        refine sk_iload_n K dX3_total_44 rfl 2 rfl ?_
        refine sk_ishl K dX3_total_45 ?_
        refine sk_iconst (-1 : Int32) K dX3_total_46 (by decide) ?_
        refine sk_ixor K dX3_total_47 ?_
        refine sk_iand K dX3_total_48 ?_
        refine sk_istore_n [(3, .int (s1.1 &&& (((1 : Int32) <<< (s2.1 &&& 31)) ^^^ (-1 : Int32)))), (0, .ref p0), (1, .int s1.1), (2, .int s2.1)] K dX3_total_49 rfl (by decide) rfl ?_
        refine sk_iload_n K dX3_total_50 rfl 0 rfl ?_
        refine sk_iload_n K dX3_total_51 rfl 2 rfl ?_
        refine sk_icmp_eq 83 K dX3_total_52 (by decide) (fun h21 => ?_) (fun h21 => ?_)
        · rw [if_pos h21] at hf
          refine sk_iinc (s2.1 + 1) [(2, .int (s2.1 + 1)), (3, .int (s1.1 &&& (((1 : Int32) <<< (s2.1 &&& 31)) ^^^ (-1 : Int32)))), (0, .ref p0), (1, .int s1.1)] K dX3_total_83 3 rfl rfl (by decide) rfl ?_
          refine sk_goto 25 K dX3_total_86 (by decide) ?_
          refine sk_sub [(0, .ref p0), (1, .int s1.1), (2, .int (s2.1 + 1))] [2, 3, 0] rfl ?_
          exact ih2 _ (Option.some.inj hf).symm
        · rw [if_neg h21] at hf
          refine sk_aload_n K dX3_total_55 rfl 1 rfl ?_
          obtain ⟨v22, e23, hf⟩ := sk_ob hf
          refine sk_getR K dX3_total_56 fl_X3_9 rfl e23 ?_
          refine sk_iload_n K dX3_total_59 rfl 3 rfl ?_
          obtain ⟨v24, e25, hf⟩ := sk_ob hf
          refine sk_ald20 K dX3_total_60 e25 ?_
          refine sk_iload_n K dX3_total_61 rfl 0 rfl ?_
          refine sk_iconst (-1 : Int32) K dX3_total_62 (by decide) ?_
          refine sk_ixor K dX3_total_63 ?_
          refine sk_iand K dX3_total_64 ?_
          refine sk_if_ne 83 K dX3_total_65 (by decide) (fun h26 => ?_) (fun h26 => ?_)
          · rw [if_neg h26] at hf
            refine sk_iinc (s2.1 + 1) [(2, .int (s2.1 + 1)), (3, .int (s1.1 &&& (((1 : Int32) <<< (s2.1 &&& 31)) ^^^ (-1 : Int32)))), (0, .ref p0), (1, .int s1.1)] K dX3_total_83 3 rfl rfl (by decide) rfl ?_
            refine sk_goto 25 K dX3_total_86 (by decide) ?_
            refine sk_sub [(0, .ref p0), (1, .int s1.1), (2, .int (s2.1 + 1))] [2, 3, 0] rfl ?_
            exact ih2 _ (Option.some.inj hf).symm
          · rw [if_pos h26] at hf
            refine sk_aload_n K dX3_total_68 rfl 1 rfl ?_
            obtain ⟨v27, e28, hf⟩ := sk_ob hf
            refine sk_getR K dX3_total_69 fl_X3_15 rfl e28 ?_
            refine sk_iload_n K dX3_total_72 rfl 2 rfl ?_
            refine sk_dup2 K dX3_total_73 rfl rfl ?_
            obtain ⟨v29, e30, hf⟩ := sk_ob hf
            refine sk_ald20 K dX3_total_74 e30 ?_
            refine sk_aload_n K dX3_total_75 rfl 1 rfl ?_
            obtain ⟨v31, e32, hf⟩ := sk_ob hf
            refine sk_getR K dX3_total_76 fl_X3_15 rfl e32 ?_
            refine sk_iload_n K dX3_total_79 rfl 0 rfl ?_
            obtain ⟨v33, e34, hf⟩ := sk_ob hf
            refine sk_ald20 K dX3_total_80 e34 ?_
            refine sk_iadd K dX3_total_81 ?_
            obtain ⟨d35, e36, hf⟩ := sk_ob hf
            refine sk_ast20 d35 K dX3_total_82 e36 ?_
            refine sk_iinc (s2.1 + 1) [(2, .int (s2.1 + 1)), (3, .int (s1.1 &&& (((1 : Int32) <<< (s2.1 &&& 31)) ^^^ (-1 : Int32)))), (0, .ref p0), (1, .int s1.1)] K dX3_total_83 3 rfl rfl (by decide) rfl ?_
            refine sk_goto 25 K dX3_total_86 (by decide) ?_
            refine sk_sub [(0, .ref p0), (1, .int s1.1), (2, .int (s2.1 + 1))] [2, 3, 0] rfl ?_
            exact ih2 _ (Option.some.inj hf).symm
noncomputable def fX4_begin (S : sk_S) (d : sk_D) (p0 : Nat) (p1 : Int32) : Option (sk_D) :=
  (sk_pI S d p0 4 1 p1).bind fun d1 => (sk_pI S d1 p0 4 2 (0 : Int32)).bind fun d3 => some d3
set_option maxRecDepth 100000 in
set_option maxHeartbeats 4000000 in
theorem sX4_begin (C : sk_C) (l : Launch) {S : sk_S} {d : sk_D} {p0 : Nat} {p1 : Int32} {dd : sk_D} (hf : fX4_begin S d p0 p1 = some dd) : sk_Met C l 0 yX4_begin cX4_begin 2 none [.ref p0, .int p1] S d none S dd := by
  refine sk_Met.of (by decide) (by decide) (Nat.le_refl _) (Nat.le_refl _) (fun X K0 hX => ?_)
  have K : sk_Ok X C cX4_begin 2 RX4 "begin" none 0 l none S dd := K0
  have R1 : X.2.2.2.2.2.2.2.2.2.2.2.1 ≤ S.1.1 ∧ X.2.2.2.2.2.2.2.2.2.2.2.2 ≤ S.1.2 := by rw [hX]; exact ⟨Nat.le_refl _, Nat.le_refl _⟩
  have R2 : S.1.1 ≤ S.1.1 ∧ S.1.2 ≤ S.1.2 := ⟨Nat.le_refl _, Nat.le_refl _⟩
  show sk_G X C 2 S d 0 [(0, .ref p0), (1, .int p1)] []
  unfold fX4_begin at hf
  refine sk_aload_n K dX4_begin_0 rfl 0 rfl ?_
  refine sk_iload_n K dX4_begin_1 rfl 1 rfl ?_
  obtain ⟨d1, e2, hf⟩ := sk_ob hf
  refine sk_putI d1 K dX4_begin_2 fl_X4_13 rfl rfl rfl e2 ?_
  refine sk_aload_n K dX4_begin_5 rfl 0 rfl ?_
  refine sk_iconst (0 : Int32) K dX4_begin_6 (by decide) ?_
  obtain ⟨d3, e4, hf⟩ := sk_ob hf
  refine sk_putI d3 K dX4_begin_7 fl_X4_17 rfl rfl rfl e4 ?_
  have hR5 : d3 = dd := Option.some.inj hf
  exact sk_vret K dX4_begin_10 rfl rfl rfl hR5
noncomputable def fX4_forgetEldest_L2 (S : sk_S) (p0 : Nat) (s1 : Int32 × sk_D) : Option ((Int32 × sk_D) ⊕ (sk_D)) :=
  if (10 : Int32) ≤ s1.1 then ((sk_pI S s1.2 p0 4 2 (9 : Int32)).bind fun d2 => some (.inr d2)) else ((sk_gR S p0 4 0).bind fun v5 => (sk_gR S p0 4 0).bind fun v7 => (sk_lI S s1.2 v7 20 s1.1).bind fun v9 => (sk_sI S s1.2 v5 20 (s1.1 - (1 : Int32)) v9).bind fun d11 => some (.inl (s1.1 + 1, d11)))
noncomputable def fX4_forgetEldest (S : sk_S) (d : sk_D) (p0 : Nat) : Option (sk_D) :=
  (sk_itr (fX4_forgetEldest_L2 S p0) ((1 : Int32), d)).bind fun x1 => some x1
set_option maxRecDepth 100000 in
set_option maxHeartbeats 4000000 in
theorem sX4_forgetEldest (C : sk_C) (l : Launch) {S : sk_S} {d : sk_D} {p0 : Nat} {dd : sk_D} (hf : fX4_forgetEldest S d p0 = some dd) : sk_Met C l 0 yX4_forgetEldest cX4_forgetEldest 2 none [.ref p0] S d none S dd := by
  refine sk_Met.of (by decide) (by decide) (Nat.le_refl _) (Nat.le_refl _) (fun X K0 hX => ?_)
  have K : sk_Ok X C cX4_forgetEldest 2 RX4 "forgetEldest" none 0 l none S dd := K0
  have R1 : X.2.2.2.2.2.2.2.2.2.2.2.1 ≤ S.1.1 ∧ X.2.2.2.2.2.2.2.2.2.2.2.2 ≤ S.1.2 := by rw [hX]; exact ⟨Nat.le_refl _, Nat.le_refl _⟩
  have R2 : S.1.1 ≤ S.1.1 ∧ S.1.2 ≤ S.1.2 := ⟨Nat.le_refl _, Nat.le_refl _⟩
  show sk_G X C 2 S d 0 [(0, .ref p0)] []
  unfold fX4_forgetEldest at hf
  refine sk_iconst (1 : Int32) K dX4_forgetEldest_0 (by decide) ?_
  refine sk_istore_n [(1, .int (1 : Int32)), (0, .ref p0)] K dX4_forgetEldest_1 rfl (by decide) rfl ?_
  obtain ⟨x1, he1, hf⟩ := sk_ob hf
  have hret1 : ∀ r, x1 = r → r = dd := by
    intro r hr
    subst hr
    exact Option.some.inj hf
  refine sk_loop (fun s1 => sk_G X C 2 S s1.2 2 [(0, .ref p0), (1, .int s1.1)] []) he1 (fun s1 o1 hf ih1 hx1 => ?_)
  unfold fX4_forgetEldest_L2 at hf
  refine sk_iload_n K dX4_forgetEldest_2 rfl 1 rfl ?_
  refine sk_bipush (10 : Int32) K dX4_forgetEldest_3 (by decide) ?_
  refine sk_icmp_ge 28 K dX4_forgetEldest_5 (by decide) (fun h1 => ?_) (fun h1 => ?_)
  · rw [if_pos h1] at hf
    refine sk_aload_n K dX4_forgetEldest_28 rfl 0 rfl ?_
    refine sk_bipush (9 : Int32) K dX4_forgetEldest_29 (by decide) ?_
    obtain ⟨d2, e3, hf⟩ := sk_ob hf
    refine sk_putI d2 K dX4_forgetEldest_31 fl_X4_17 rfl rfl rfl e3 ?_
    have hR4 : d2 = dd := hret1 _ (hx1 _ (Option.some.inj hf).symm).symm
    exact sk_vret K dX4_forgetEldest_34 rfl rfl rfl hR4
  · rw [if_neg h1] at hf
    refine sk_aload_n K dX4_forgetEldest_8 rfl 0 rfl ?_
    obtain ⟨v5, e6, hf⟩ := sk_ob hf
    refine sk_getR K dX4_forgetEldest_9 fl_X4_9 rfl e6 ?_
    refine sk_iload_n K dX4_forgetEldest_12 rfl 1 rfl ?_
    refine sk_iconst (1 : Int32) K dX4_forgetEldest_13 (by decide) ?_
    refine sk_isub K dX4_forgetEldest_14 ?_
    refine sk_aload_n K dX4_forgetEldest_15 rfl 0 rfl ?_
    obtain ⟨v7, e8, hf⟩ := sk_ob hf
    refine sk_getR K dX4_forgetEldest_16 fl_X4_9 rfl e8 ?_
    refine sk_iload_n K dX4_forgetEldest_19 rfl 1 rfl ?_
    obtain ⟨v9, e10, hf⟩ := sk_ob hf
    refine sk_ald20 K dX4_forgetEldest_20 e10 ?_
    obtain ⟨d11, e12, hf⟩ := sk_ob hf
    refine sk_ast20 d11 K dX4_forgetEldest_21 e12 ?_
    refine sk_iinc (s1.1 + 1) [(1, .int (s1.1 + 1)), (0, .ref p0)] K dX4_forgetEldest_22 1 rfl rfl (by decide) rfl ?_
    refine sk_goto 2 K dX4_forgetEldest_25 (by decide) ?_
    refine sk_sub [(0, .ref p0), (1, .int (s1.1 + 1))] [1, 0] rfl ?_
    exact ih1 _ (Option.some.inj hf).symm
noncomputable def fX4_goOn_J13 (S : sk_S) (v1 : Nat) (v2 : Int32) (d3 : sk_D) : Option (sk_D) :=
  (sk_gR S v1 4 0).bind fun v4 => (sk_gI S d3 v1 4 2).bind fun v6 => (sk_gI S d3 v1 4 1).bind fun v8 => (sk_sI S d3 v4 20 v6 v8).bind fun d10 => (sk_gI S d10 v1 4 2).bind fun v12 => (sk_pI S d10 v1 4 2 (v12 + (1 : Int32))).bind fun d14 => (sk_pI S d14 v1 4 1 v2).bind fun d16 => some d16
noncomputable def fX4_goOn (S : sk_S) (d : sk_D) (p0 : Nat) (p1 : Int32) : Option (sk_D) :=
  (sk_gI S d p0 4 2).bind fun v19 => if v19 < (10 : Int32) then (fX4_goOn_J13 S p0 p1 d) else (if S.2.1 p0 = (4, 0) then ((fX4_forgetEldest S d p0).bind fun d24 => fX4_goOn_J13 S p0 p1 d24) else none)
set_option maxRecDepth 100000 in
set_option maxHeartbeats 4000000 in
theorem sX4_goOn (C : sk_C) (l : Launch) {S : sk_S} {d : sk_D} {p0 : Nat} {p1 : Int32} {dd : sk_D} (hf : fX4_goOn S d p0 p1 = some dd) : sk_Met C l 1 yX4_goOn cX4_goOn 2 none [.ref p0, .int p1] S d none S dd := by
  refine sk_Met.of (by decide) (by decide) (Nat.le_refl _) (Nat.le_refl _) (fun X K0 hX => ?_)
  have K : sk_Ok X C cX4_goOn 2 RX4 "goOn" none 1 l none S dd := K0
  have R1 : X.2.2.2.2.2.2.2.2.2.2.2.1 ≤ S.1.1 ∧ X.2.2.2.2.2.2.2.2.2.2.2.2 ≤ S.1.2 := by rw [hX]; exact ⟨Nat.le_refl _, Nat.le_refl _⟩
  have R2 : S.1.1 ≤ S.1.1 ∧ S.1.2 ≤ S.1.2 := ⟨Nat.le_refl _, Nat.le_refl _⟩
  show sk_G X C 2 S d 0 [(0, .ref p0), (1, .int p1)] []
  unfold fX4_goOn at hf
  have j13_0 : ∀ (v1 : Nat) (v2 : Int32) (d3 : sk_D), fX4_goOn_J13 S v1 v2 d3 = some dd → sk_G X C 2 S d3 13 [(0, .ref v1), (1, .int v2)] [] := by
    intro v1 v2 d3 hf
    unfold fX4_goOn_J13 at hf
    refine sk_aload_n K dX4_goOn_13 rfl 0 rfl ?_
    obtain ⟨v4, e5, hf⟩ := sk_ob hf
    refine sk_getR K dX4_goOn_14 fl_X4_9 rfl e5 ?_
    refine sk_aload_n K dX4_goOn_17 rfl 0 rfl ?_
    obtain ⟨v6, e7, hf⟩ := sk_ob hf
    refine sk_getI K dX4_goOn_18 fl_X4_17 rfl e7 ?_
    refine sk_aload_n K dX4_goOn_21 rfl 0 rfl ?_
    obtain ⟨v8, e9, hf⟩ := sk_ob hf
    refine sk_getI K dX4_goOn_22 fl_X4_13 rfl e9 ?_
    obtain ⟨d10, e11, hf⟩ := sk_ob hf
    refine sk_ast20 d10 K dX4_goOn_25 e11 ?_
    refine sk_aload_n K dX4_goOn_26 rfl 0 rfl ?_
    refine sk_dup K dX4_goOn_27 rfl ?_
    obtain ⟨v12, e13, hf⟩ := sk_ob hf
    refine sk_getI K dX4_goOn_28 fl_X4_17 rfl e13 ?_
    refine sk_iconst (1 : Int32) K dX4_goOn_31 (by decide) ?_
    refine sk_iadd K dX4_goOn_32 ?_
    obtain ⟨d14, e15, hf⟩ := sk_ob hf
    refine sk_putI d14 K dX4_goOn_33 fl_X4_17 rfl rfl rfl e15 ?_
    refine sk_aload_n K dX4_goOn_36 rfl 0 rfl ?_
    refine sk_iload_n K dX4_goOn_37 rfl 1 rfl ?_
    obtain ⟨d16, e17, hf⟩ := sk_ob hf
    refine sk_putI d16 K dX4_goOn_38 fl_X4_13 rfl rfl rfl e17 ?_
    have hR18 : d16 = dd := Option.some.inj hf
    exact sk_vret K dX4_goOn_41 rfl rfl rfl hR18
  refine sk_aload_n K dX4_goOn_0 rfl 0 rfl ?_
  obtain ⟨v19, e20, hf⟩ := sk_ob hf
  refine sk_getI K dX4_goOn_1 fl_X4_17 rfl e20 ?_
  refine sk_bipush (10 : Int32) K dX4_goOn_4 (by decide) ?_
  refine sk_icmp_lt 13 K dX4_goOn_6 (by decide) (fun h21 => ?_) (fun h21 => ?_)
  · rw [if_pos h21] at hf
    refine sk_sub [(0, .ref p0), (1, .int p1)] [0, 1] rfl ?_
    exact j13_0 _ _ _ hf
  · rw [if_neg h21] at hf
    refine sk_aload_n K dX4_goOn_9 rfl 0 rfl ?_
    obtain ⟨h25, hf⟩ := sk_ib hf
    obtain ⟨d24, e23, hf⟩ := sk_ob hf
    refine sk_callV (As := []) (st := []) K dX4_goOn_10 cl_X4_20 h25 (sX4_forgetEldest C l e23) (by decide) rfl rfl (by decide) R1 R2 ?_
    refine sk_sub [(0, .ref p0), (1, .int p1)] [0, 1] rfl ?_
    exact j13_0 _ _ _ hf
noncomputable def fX4_goBack (S : sk_S) (d : sk_D) (p0 : Nat) (p1 : Int32) : Option (sk_D) :=
  if p1 ≤ 0 then (some d) else ((sk_gI S d p0 4 2).bind fun v3 => if v3 < p1 then (some d) else ((sk_gI S d p0 4 2).bind fun v7 => (sk_pI S d p0 4 2 (v7 - p1)).bind fun d9 => (sk_gR S p0 4 0).bind fun v11 => (sk_gI S d9 p0 4 2).bind fun v13 => (sk_lI S d9 v11 20 v13).bind fun v15 => (sk_pI S d9 p0 4 1 v15).bind fun d17 => some d17))
set_option maxRecDepth 100000 in
set_option maxHeartbeats 4000000 in
theorem sX4_goBack (C : sk_C) (l : Launch) {S : sk_S} {d : sk_D} {p0 : Nat} {p1 : Int32} {dd : sk_D} (hf : fX4_goBack S d p0 p1 = some dd) : sk_Met C l 0 yX4_goBack cX4_goBack 2 none [.ref p0, .int p1] S d none S dd := by
  refine sk_Met.of (by decide) (by decide) (Nat.le_refl _) (Nat.le_refl _) (fun X K0 hX => ?_)
  have K : sk_Ok X C cX4_goBack 2 RX4 "goBack" none 0 l none S dd := K0
  have R1 : X.2.2.2.2.2.2.2.2.2.2.2.1 ≤ S.1.1 ∧ X.2.2.2.2.2.2.2.2.2.2.2.2 ≤ S.1.2 := by rw [hX]; exact ⟨Nat.le_refl _, Nat.le_refl _⟩
  have R2 : S.1.1 ≤ S.1.1 ∧ S.1.2 ≤ S.1.2 := ⟨Nat.le_refl _, Nat.le_refl _⟩
  show sk_G X C 2 S d 0 [(0, .ref p0), (1, .int p1)] []
  unfold fX4_goBack at hf
  refine sk_iload_n K dX4_goBack_0 rfl 1 rfl ?_
  refine sk_if_le 35 K dX4_goBack_1 (by decide) (fun h1 => ?_) (fun h1 => ?_)
  · rw [if_pos h1] at hf
    have hR2 : d = dd := Option.some.inj hf
    exact sk_vret K dX4_goBack_35 rfl rfl rfl hR2
  · rw [if_neg h1] at hf
    refine sk_iload_n K dX4_goBack_4 rfl 1 rfl ?_
    refine sk_aload_n K dX4_goBack_5 rfl 0 rfl ?_
    obtain ⟨v3, e4, hf⟩ := sk_ob hf
    refine sk_getI K dX4_goBack_6 fl_X4_17 rfl e4 ?_
    refine sk_icmp_gt 35 K dX4_goBack_9 (by decide) (fun h5 => ?_) (fun h5 => ?_)
    · rw [if_pos h5] at hf
      have hR6 : d = dd := Option.some.inj hf
      exact sk_vret K dX4_goBack_35 rfl rfl rfl hR6
    · rw [if_neg h5] at hf
      refine sk_aload_n K dX4_goBack_12 rfl 0 rfl ?_
      refine sk_dup K dX4_goBack_13 rfl ?_
      obtain ⟨v7, e8, hf⟩ := sk_ob hf
      refine sk_getI K dX4_goBack_14 fl_X4_17 rfl e8 ?_
      refine sk_iload_n K dX4_goBack_17 rfl 1 rfl ?_
      refine sk_isub K dX4_goBack_18 ?_
      obtain ⟨d9, e10, hf⟩ := sk_ob hf
      refine sk_putI d9 K dX4_goBack_19 fl_X4_17 rfl rfl rfl e10 ?_
      refine sk_aload_n K dX4_goBack_22 rfl 0 rfl ?_
      refine sk_aload_n K dX4_goBack_23 rfl 0 rfl ?_
      obtain ⟨v11, e12, hf⟩ := sk_ob hf
      refine sk_getR K dX4_goBack_24 fl_X4_9 rfl e12 ?_
      refine sk_aload_n K dX4_goBack_27 rfl 0 rfl ?_
      obtain ⟨v13, e14, hf⟩ := sk_ob hf
      refine sk_getI K dX4_goBack_28 fl_X4_17 rfl e14 ?_
      obtain ⟨v15, e16, hf⟩ := sk_ob hf
      refine sk_ald20 K dX4_goBack_31 e16 ?_
      obtain ⟨d17, e18, hf⟩ := sk_ob hf
      refine sk_putI d17 K dX4_goBack_32 fl_X4_13 rfl rfl rfl e18 ?_
      have hR19 : d17 = dd := Option.some.inj hf
      exact sk_vret K dX4_goBack_35 rfl rfl rfl hR19
noncomputable def fX6_at (S : sk_S) (d : sk_D) (p0 : Nat) (p1 : Int32) : Option (Int64) :=
  if p1 < 0 then (some (0 : Int64)) else (if (40 : Int32) ≤ p1 then (some (0 : Int64)) else ((sk_gR S p0 6 0).bind fun v5 => (sk_lJ S d v5 p1).bind fun v7 => some v7))
set_option maxRecDepth 100000 in
set_option maxHeartbeats 4000000 in
theorem sX6_at (C : sk_C) (l : Launch) {S : sk_S} {d : sk_D} {p0 : Nat} {p1 : Int32} {rr : Int64} (hf : fX6_at S d p0 p1 = some rr) : sk_Met C l 0 yX6_at cX6_at 2 (some .long) [.ref p0, .int p1] S d (some (.long rr)) S d := by
  refine sk_Met.of (by decide) (by decide) (Nat.le_refl _) (Nat.le_refl _) (fun X K0 hX => ?_)
  have K : sk_Ok X C cX6_at 2 RX6 "at" (some .long) 0 l (some (.long rr)) S d := K0
  have R1 : X.2.2.2.2.2.2.2.2.2.2.2.1 ≤ S.1.1 ∧ X.2.2.2.2.2.2.2.2.2.2.2.2 ≤ S.1.2 := by rw [hX]; exact ⟨Nat.le_refl _, Nat.le_refl _⟩
  have R2 : S.1.1 ≤ S.1.1 ∧ S.1.2 ≤ S.1.2 := ⟨Nat.le_refl _, Nat.le_refl _⟩
  show sk_G X C 2 S d 0 [(0, .ref p0), (1, .int p1)] []
  unfold fX6_at at hf
  refine sk_iload_n K dX6_at_0 rfl 1 rfl ?_
  refine sk_if_lt 19 K dX6_at_1 (by decide) (fun h1 => ?_) (fun h1 => ?_)
  · rw [if_pos h1] at hf
    refine sk_lconst (0 : Int64) K dX6_at_19 (by decide) ?_
    have hR2 : (0 : Int64) = rr := Option.some.inj hf
    exact sk_lret K dX6_at_20 rfl rfl hR2 rfl rfl
  · rw [if_neg h1] at hf
    refine sk_iload_n K dX6_at_4 rfl 1 rfl ?_
    refine sk_bipush (40 : Int32) K dX6_at_5 (by decide) ?_
    refine sk_icmp_ge 19 K dX6_at_7 (by decide) (fun h3 => ?_) (fun h3 => ?_)
    · rw [if_pos h3] at hf
      refine sk_lconst (0 : Int64) K dX6_at_19 (by decide) ?_
      have hR4 : (0 : Int64) = rr := Option.some.inj hf
      exact sk_lret K dX6_at_20 rfl rfl hR4 rfl rfl
    · rw [if_neg h3] at hf
      refine sk_aload_n K dX6_at_10 rfl 0 rfl ?_
      obtain ⟨v5, e6, hf⟩ := sk_ob hf
      refine sk_getR K dX6_at_11 fl_X6_9 rfl e6 ?_
      refine sk_iload_n K dX6_at_14 rfl 1 rfl ?_
      obtain ⟨v7, e8, hf⟩ := sk_ob hf
      refine sk_ald21 K dX6_at_15 e8 ?_
      refine sk_goto 20 K dX6_at_16 (by decide) ?_
      have hR9 : v7 = rr := Option.some.inj hf
      exact sk_lret K dX6_at_20 rfl rfl hR9 rfl rfl
noncomputable def fX6_cut (S : sk_S) (d : sk_D) (p0 : Nat) (p1 : Int64) : Option (Int64) :=
  (sk_gI S d p0 6 1).bind fun v1 => if v1 = (0 : Int32) then (some p1.toInt32.toInt8.toInt32.toInt64) else (if v1 = (1 : Int32) then (some p1.toInt32.toInt16.toInt32.toInt64) else (if v1 = (2 : Int32) then (some p1.toInt32.toInt64) else (some p1)))
set_option maxRecDepth 100000 in
set_option maxHeartbeats 4000000 in
theorem sX6_cut (C : sk_C) (l : Launch) {S : sk_S} {d : sk_D} {p0 : Nat} {p1 : Int64} {rr : Int64} (hf : fX6_cut S d p0 p1 = some rr) : sk_Met C l 0 yX6_cut cX6_cut 3 (some .long) [.ref p0, .long p1] S d (some (.long rr)) S d := by
  refine sk_Met.of (by decide) (by decide) (Nat.le_refl _) (Nat.le_refl _) (fun X K0 hX => ?_)
  have K : sk_Ok X C cX6_cut 3 RX6 "cut" (some .long) 0 l (some (.long rr)) S d := K0
  have R1 : X.2.2.2.2.2.2.2.2.2.2.2.1 ≤ S.1.1 ∧ X.2.2.2.2.2.2.2.2.2.2.2.2 ≤ S.1.2 := by rw [hX]; exact ⟨Nat.le_refl _, Nat.le_refl _⟩
  have R2 : S.1.1 ≤ S.1.1 ∧ S.1.2 ≤ S.1.2 := ⟨Nat.le_refl _, Nat.le_refl _⟩
  show sk_G X C 3 S d 0 [(0, .ref p0), (1, .long p1)] []
  unfold fX6_cut at hf
  refine sk_aload_n K dX6_cut_0 rfl 0 rfl ?_
  obtain ⟨v1, e2, hf⟩ := sk_ob hf
  refine sk_getI K dX6_cut_1 fl_X6_13 rfl e2 ?_
  by_cases h3 : v1 = (0 : Int32)
  · rw [if_pos h3] at hf
    refine sk_tsIn (0 : Int32) (28) 32 K dX6_cut_4 h3 (by decide) (by decide) rfl (by decide) ?_
    refine sk_lload_n K dX6_cut_32 rfl 1 rfl ?_
    refine sk_l2i K dX6_cut_33 ?_
    refine sk_i2b K dX6_cut_34 ?_
    refine sk_i2l K dX6_cut_35 ?_
    have hR4 : p1.toInt32.toInt8.toInt32.toInt64 = rr := Option.some.inj hf
    exact sk_lret K dX6_cut_36 rfl rfl hR4 rfl rfl
  · rw [if_neg h3] at hf
    by_cases h5 : v1 = (1 : Int32)
    · rw [if_pos h5] at hf
      refine sk_tsIn (1 : Int32) (33) 37 K dX6_cut_4 h5 (by decide) (by decide) rfl (by decide) ?_
      refine sk_lload_n K dX6_cut_37 rfl 1 rfl ?_
      refine sk_l2i K dX6_cut_38 ?_
      refine sk_i2s K dX6_cut_39 ?_
      refine sk_i2l K dX6_cut_40 ?_
      have hR6 : p1.toInt32.toInt16.toInt32.toInt64 = rr := Option.some.inj hf
      exact sk_lret K dX6_cut_41 rfl rfl hR6 rfl rfl
    · rw [if_neg h5] at hf
      by_cases h7 : v1 = (2 : Int32)
      · rw [if_pos h7] at hf
        refine sk_tsIn (2 : Int32) (38) 42 K dX6_cut_4 h7 (by decide) (by decide) rfl (by decide) ?_
        refine sk_lload_n K dX6_cut_42 rfl 1 rfl ?_
        refine sk_l2i K dX6_cut_43 ?_
        refine sk_i2l K dX6_cut_44 ?_
        have hR8 : p1.toInt32.toInt64 = rr := Option.some.inj hf
        exact sk_lret K dX6_cut_45 rfl rfl hR8 rfl rfl
      · rw [if_neg h7] at hf
        refine sk_tsOut 46 K dX6_cut_4 (sk_tsout (0) 3 [(0 : Int32), (1 : Int32), (2 : Int32)] (by decide) (by simp [h3, h5, h7])) (by decide) ?_
        refine sk_lload_n K dX6_cut_46 rfl 1 rfl ?_
        have hR9 : p1 = rr := Option.some.inj hf
        exact sk_lret K dX6_cut_47 rfl rfl hR9 rfl rfl
noncomputable def fX6_put (S : sk_S) (d : sk_D) (p0 : Nat) (p1 : Int32) (p2 : Int64) : Option (sk_D) :=
  if p1 < 0 then (some d) else (if (40 : Int32) ≤ p1 then (some d) else ((sk_gR S p0 6 0).bind fun v5 => if S.2.1 p0 = (6, 0) then ((fX6_cut S d p0 p2).bind fun v7 => (sk_sJ S d v5 p1 v7).bind fun d10 => some d10) else none))
set_option maxRecDepth 100000 in
set_option maxHeartbeats 4000000 in
theorem sX6_put (C : sk_C) (l : Launch) {S : sk_S} {d : sk_D} {p0 : Nat} {p1 : Int32} {p2 : Int64} {dd : sk_D} (hf : fX6_put S d p0 p1 p2 = some dd) : sk_Met C l 1 yX6_put cX6_put 4 none [.ref p0, .int p1, .long p2] S d none S dd := by
  refine sk_Met.of (by decide) (by decide) (Nat.le_refl _) (Nat.le_refl _) (fun X K0 hX => ?_)
  have K : sk_Ok X C cX6_put 4 RX6 "put" none 1 l none S dd := K0
  have R1 : X.2.2.2.2.2.2.2.2.2.2.2.1 ≤ S.1.1 ∧ X.2.2.2.2.2.2.2.2.2.2.2.2 ≤ S.1.2 := by rw [hX]; exact ⟨Nat.le_refl _, Nat.le_refl _⟩
  have R2 : S.1.1 ≤ S.1.1 ∧ S.1.2 ≤ S.1.2 := ⟨Nat.le_refl _, Nat.le_refl _⟩
  show sk_G X C 4 S d 0 [(0, .ref p0), (1, .int p1), (2, .long p2)] []
  unfold fX6_put at hf
  refine sk_iload_n K dX6_put_0 rfl 1 rfl ?_
  refine sk_if_lt 21 K dX6_put_1 (by decide) (fun h1 => ?_) (fun h1 => ?_)
  · rw [if_pos h1] at hf
    have hR2 : d = dd := Option.some.inj hf
    exact sk_vret K dX6_put_21 rfl rfl rfl hR2
  · rw [if_neg h1] at hf
    refine sk_iload_n K dX6_put_4 rfl 1 rfl ?_
    refine sk_bipush (40 : Int32) K dX6_put_5 (by decide) ?_
    refine sk_icmp_ge 21 K dX6_put_7 (by decide) (fun h3 => ?_) (fun h3 => ?_)
    · rw [if_pos h3] at hf
      have hR4 : d = dd := Option.some.inj hf
      exact sk_vret K dX6_put_21 rfl rfl rfl hR4
    · rw [if_neg h3] at hf
      refine sk_aload_n K dX6_put_10 rfl 0 rfl ?_
      obtain ⟨v5, e6, hf⟩ := sk_ob hf
      refine sk_getR K dX6_put_11 fl_X6_9 rfl e6 ?_
      refine sk_iload_n K dX6_put_14 rfl 1 rfl ?_
      refine sk_aload_n K dX6_put_15 rfl 0 rfl ?_
      refine sk_lload_n K dX6_put_16 rfl 2 rfl ?_
      obtain ⟨h9, hf⟩ := sk_ib hf
      obtain ⟨v7, e8, hf⟩ := sk_ob hf
      refine sk_callV (As := [.long p2]) (st := [.int p1, .ref v5]) K dX6_put_17 cl_X6_30 h9 (sX6_cut C l e8) (by decide) rfl rfl (by decide) R1 R2 ?_
      obtain ⟨d10, e11, hf⟩ := sk_ob hf
      refine sk_ast21 d10 K dX6_put_20 e11 ?_
      have hR12 : d10 = dd := Option.some.inj hf
      exact sk_vret K dX6_put_21 rfl rfl rfl hR12
