noncomputable def fX5_kind (S : sk_S) (d : sk_D) (p0 : Nat) : Option (Int32) :=
  (sk_gI S d p0 5 1).bind fun v1 => if v1 = 0 then ((sk_gI S d p0 5 7).bind fun v5 => (sk_gI S d p0 5 6).bind fun v7 => if v5 < v7 then ((sk_gR S p0 5 3).bind fun v10 => (sk_gI S d p0 5 7).bind fun v12 => (sk_lI S d v10 20 v12).bind fun v14 => some v14) else (some (203 : Int32))) else (some (203 : Int32))
set_option maxRecDepth 100000 in
set_option maxHeartbeats 4000000 in
theorem sX5_kind (C : sk_C) (l : Launch) {S : sk_S} {d : sk_D} {p0 : Nat} {rr : Int32} (hf : fX5_kind S d p0 = some rr) : sk_Met C l 0 yX5_kind cX5_kind 1 (some .int) [.ref p0] S d (some (.int rr)) S d := by
  refine sk_Met.of (by decide) (Nat.le_of_ble_eq_true rfl) (Nat.le_refl _) (Nat.le_refl _) (fun X K0 hX => ?_)
  have K : sk_Ok X C cX5_kind 1 RX5 "kind" (some .int) 0 l (some (.int rr)) S d := K0
  have R1 : X.2.2.2.2.2.2.2.2.2.2.2.1 ≤ S.1.1 ∧ X.2.2.2.2.2.2.2.2.2.2.2.2 ≤ S.1.2 := by rw [hX]; exact ⟨Nat.le_refl _, Nat.le_refl _⟩
  have R2 : S.1.1 ≤ S.1.1 ∧ S.1.2 ≤ S.1.2 := ⟨Nat.le_refl _, Nat.le_refl _⟩
  show sk_G X C 1 S d 0 [(0, .ref p0)] []
  unfold fX5_kind at hf
  refine sk_aload_n K dX5_kind_0 rfl 0 rfl ?_
  obtain ⟨v1, e2, hf⟩ := sk_ob hf
  refine sk_getI K dX5_kind_1 fl_X5_18 rfl e2 ?_
  refine sk_if_ne 18 K dX5_kind_4 (by decide) (fun h3 => ?_) (fun h3 => ?_)
  · rw [if_neg h3] at hf
    refine sk_sipush (203 : Int32) K dX5_kind_18 (by decide) ?_
    refine sk_goto 33 K dX5_kind_21 (by decide) ?_
    have hR4 : (203 : Int32) = rr := Option.some.inj hf
    exact sk_iret K dX5_kind_33 rfl rfl hR4 rfl rfl
  · rw [if_pos h3] at hf
    refine sk_aload_n K dX5_kind_7 rfl 0 rfl ?_
    obtain ⟨v5, e6, hf⟩ := sk_ob hf
    refine sk_getI K dX5_kind_8 fl_X5_38 rfl e6 ?_
    refine sk_aload_n K dX5_kind_11 rfl 0 rfl ?_
    obtain ⟨v7, e8, hf⟩ := sk_ob hf
    refine sk_getI K dX5_kind_12 fl_X5_35 rfl e8 ?_
    refine sk_icmp_lt 24 K dX5_kind_15 (by decide) (fun h9 => ?_) (fun h9 => ?_)
    · rw [if_pos h9] at hf
      refine sk_aload_n K dX5_kind_24 rfl 0 rfl ?_
      obtain ⟨v10, e11, hf⟩ := sk_ob hf
      refine sk_getR K dX5_kind_25 fl_X5_25 rfl e11 ?_
      refine sk_aload_n K dX5_kind_28 rfl 0 rfl ?_
      obtain ⟨v12, e13, hf⟩ := sk_ob hf
      refine sk_getI K dX5_kind_29 fl_X5_38 rfl e13 ?_
      obtain ⟨v14, e15, hf⟩ := sk_ob hf
      refine sk_ald20 K dX5_kind_32 e15 ?_
      have hR16 : v14 = rr := Option.some.inj hf
      exact sk_iret K dX5_kind_33 rfl rfl hR16 rfl rfl
    · rw [if_neg h9] at hf
      refine sk_sipush (203 : Int32) K dX5_kind_18 (by decide) ?_
      refine sk_goto 33 K dX5_kind_21 (by decide) ?_
      have hR17 : (203 : Int32) = rr := Option.some.inj hf
      exact sk_iret K dX5_kind_33 rfl rfl hR17 rfl rfl
noncomputable def fX5_next (S : sk_S) (d : sk_D) (p0 : Nat) : Option (sk_D) :=
  (sk_gI S d p0 5 7).bind fun v1 => (sk_gI S d p0 5 6).bind fun v3 => if (v3 - (1 : Int32)) ≤ v1 then (some d) else ((sk_gI S d p0 5 7).bind fun v7 => (sk_pI S d p0 5 7 (v7 + (1 : Int32))).bind fun d9 => some d9)
set_option maxRecDepth 100000 in
set_option maxHeartbeats 4000000 in
theorem sX5_next (C : sk_C) (l : Launch) {S : sk_S} {d : sk_D} {p0 : Nat} {dd : sk_D} (hf : fX5_next S d p0 = some dd) : sk_Met C l 0 yX5_next cX5_next 1 none [.ref p0] S d none S dd := by
  refine sk_Met.of (by decide) (Nat.le_of_ble_eq_true rfl) (Nat.le_refl _) (Nat.le_refl _) (fun X K0 hX => ?_)
  have K : sk_Ok X C cX5_next 1 RX5 "next" none 0 l none S dd := K0
  have R1 : X.2.2.2.2.2.2.2.2.2.2.2.1 ≤ S.1.1 ∧ X.2.2.2.2.2.2.2.2.2.2.2.2 ≤ S.1.2 := by rw [hX]; exact ⟨Nat.le_refl _, Nat.le_refl _⟩
  have R2 : S.1.1 ≤ S.1.1 ∧ S.1.2 ≤ S.1.2 := ⟨Nat.le_refl _, Nat.le_refl _⟩
  show sk_G X C 1 S d 0 [(0, .ref p0)] []
  unfold fX5_next at hf
  refine sk_aload_n K dX5_next_0 rfl 0 rfl ?_
  obtain ⟨v1, e2, hf⟩ := sk_ob hf
  refine sk_getI K dX5_next_1 fl_X5_38 rfl e2 ?_
  refine sk_aload_n K dX5_next_4 rfl 0 rfl ?_
  obtain ⟨v3, e4, hf⟩ := sk_ob hf
  refine sk_getI K dX5_next_5 fl_X5_35 rfl e4 ?_
  refine sk_iconst (1 : Int32) K dX5_next_8 (by decide) ?_
  refine sk_isub K dX5_next_9 ?_
  refine sk_icmp_ge 23 K dX5_next_10 (by decide) (fun h5 => ?_) (fun h5 => ?_)
  · rw [if_pos h5] at hf
    have hR6 : d = dd := Option.some.inj hf
    exact sk_vret K dX5_next_23 rfl rfl rfl hR6
  · rw [if_neg h5] at hf
    refine sk_aload_n K dX5_next_13 rfl 0 rfl ?_
    refine sk_dup K dX5_next_14 rfl ?_
    obtain ⟨v7, e8, hf⟩ := sk_ob hf
    refine sk_getI K dX5_next_15 fl_X5_38 rfl e8 ?_
    refine sk_iconst (1 : Int32) K dX5_next_18 (by decide) ?_
    refine sk_iadd K dX5_next_19 ?_
    obtain ⟨d9, e10, hf⟩ := sk_ob hf
    refine sk_putI d9 K dX5_next_20 fl_X5_38 rfl rfl rfl e10 ?_
    have hR11 : d9 = dd := Option.some.inj hf
    exact sk_vret K dX5_next_23 rfl rfl rfl hR11
noncomputable def fX5_fail (S : sk_S) (d : sk_D) (p0 : Nat) (p1 : Int32) : Option (sk_D) :=
  (sk_gI S d p0 5 1).bind fun v1 => if v1 = 0 then ((sk_gI S d p0 5 7).bind fun v5 => (sk_gI S d p0 5 6).bind fun v7 => if v7 ≤ v5 then (some d) else ((sk_gR S p0 5 3).bind fun v11 => (sk_gI S d p0 5 7).bind fun v13 => (sk_lI S d v11 20 v13).bind fun v15 => if v15 = (203 : Int32) then ((sk_pI S d p0 5 1 (1 : Int32)).bind fun d29 => (sk_gR S p0 5 4).bind fun v31 => (sk_gI S d29 p0 5 7).bind fun v33 => (sk_lI S d29 v31 20 v33).bind fun v35 => (sk_pI S d29 p0 5 2 v35).bind fun d37 => some d37) else ((sk_pI S d p0 5 1 p1).bind fun d18 => (sk_gR S p0 5 4).bind fun v20 => (sk_gI S d18 p0 5 7).bind fun v22 => (sk_lI S d18 v20 20 v22).bind fun v24 => (sk_pI S d18 p0 5 2 v24).bind fun d26 => some d26))) else (some d)
set_option maxRecDepth 100000 in
set_option maxHeartbeats 4000000 in
theorem sX5_fail (C : sk_C) (l : Launch) {S : sk_S} {d : sk_D} {p0 : Nat} {p1 : Int32} {dd : sk_D} (hf : fX5_fail S d p0 p1 = some dd) : sk_Met C l 0 yX5_fail cX5_fail 2 none [.ref p0, .int p1] S d none S dd := by
  refine sk_Met.of (by decide) (Nat.le_of_ble_eq_true rfl) (Nat.le_refl _) (Nat.le_refl _) (fun X K0 hX => ?_)
  have K : sk_Ok X C cX5_fail 2 RX5 "fail" none 0 l none S dd := K0
  have R1 : X.2.2.2.2.2.2.2.2.2.2.2.1 ≤ S.1.1 ∧ X.2.2.2.2.2.2.2.2.2.2.2.2 ≤ S.1.2 := by rw [hX]; exact ⟨Nat.le_refl _, Nat.le_refl _⟩
  have R2 : S.1.1 ≤ S.1.1 ∧ S.1.2 ≤ S.1.2 := ⟨Nat.le_refl _, Nat.le_refl _⟩
  show sk_G X C 2 S d 0 [(0, .ref p0), (1, .int p1)] []
  unfold fX5_fail at hf
  refine sk_aload_n K dX5_fail_0 rfl 0 rfl ?_
  obtain ⟨v1, e2, hf⟩ := sk_ob hf
  refine sk_getI K dX5_fail_1 fl_X5_18 rfl e2 ?_
  refine sk_if_ne 55 K dX5_fail_4 (by decide) (fun h3 => ?_) (fun h3 => ?_)
  · rw [if_neg h3] at hf
    have hR4 : d = dd := Option.some.inj hf
    exact sk_vret K dX5_fail_55 rfl rfl rfl hR4
  · rw [if_pos h3] at hf
    refine sk_aload_n K dX5_fail_7 rfl 0 rfl ?_
    obtain ⟨v5, e6, hf⟩ := sk_ob hf
    refine sk_getI K dX5_fail_8 fl_X5_38 rfl e6 ?_
    refine sk_aload_n K dX5_fail_11 rfl 0 rfl ?_
    obtain ⟨v7, e8, hf⟩ := sk_ob hf
    refine sk_getI K dX5_fail_12 fl_X5_35 rfl e8 ?_
    refine sk_icmp_ge 55 K dX5_fail_15 (by decide) (fun h9 => ?_) (fun h9 => ?_)
    · rw [if_pos h9] at hf
      have hR10 : d = dd := Option.some.inj hf
      exact sk_vret K dX5_fail_55 rfl rfl rfl hR10
    · rw [if_neg h9] at hf
      refine sk_aload_n K dX5_fail_18 rfl 0 rfl ?_
      refine sk_aload_n K dX5_fail_19 rfl 0 rfl ?_
      obtain ⟨v11, e12, hf⟩ := sk_ob hf
      refine sk_getR K dX5_fail_20 fl_X5_25 rfl e12 ?_
      refine sk_aload_n K dX5_fail_23 rfl 0 rfl ?_
      obtain ⟨v13, e14, hf⟩ := sk_ob hf
      refine sk_getI K dX5_fail_24 fl_X5_38 rfl e14 ?_
      obtain ⟨v15, e16, hf⟩ := sk_ob hf
      refine sk_ald20 K dX5_fail_27 e16 ?_
      refine sk_sipush (203 : Int32) K dX5_fail_28 (by decide) ?_
      refine sk_icmp_ne 38 K dX5_fail_31 (by decide) (fun h17 => ?_) (fun h17 => ?_)
      · rw [if_neg h17] at hf
        refine sk_iload_n K dX5_fail_38 rfl 1 rfl ?_
        obtain ⟨d18, e19, hf⟩ := sk_ob hf
        refine sk_putI d18 K dX5_fail_39 fl_X5_18 rfl rfl rfl e19 ?_
        refine sk_aload_n K dX5_fail_42 rfl 0 rfl ?_
        refine sk_aload_n K dX5_fail_43 rfl 0 rfl ?_
        obtain ⟨v20, e21, hf⟩ := sk_ob hf
        refine sk_getR K dX5_fail_44 fl_X5_29 rfl e21 ?_
        refine sk_aload_n K dX5_fail_47 rfl 0 rfl ?_
        obtain ⟨v22, e23, hf⟩ := sk_ob hf
        refine sk_getI K dX5_fail_48 fl_X5_38 rfl e23 ?_
        obtain ⟨v24, e25, hf⟩ := sk_ob hf
        refine sk_ald20 K dX5_fail_51 e25 ?_
        obtain ⟨d26, e27, hf⟩ := sk_ob hf
        refine sk_putI d26 K dX5_fail_52 fl_X5_22 rfl rfl rfl e27 ?_
        have hR28 : d26 = dd := Option.some.inj hf
        exact sk_vret K dX5_fail_55 rfl rfl rfl hR28
      · rw [if_pos h17] at hf
        refine sk_iconst (1 : Int32) K dX5_fail_34 (by decide) ?_
        refine sk_goto 39 K dX5_fail_35 (by decide) ?_
        obtain ⟨d29, e30, hf⟩ := sk_ob hf
        refine sk_putI d29 K dX5_fail_39 fl_X5_18 rfl rfl rfl e30 ?_
        refine sk_aload_n K dX5_fail_42 rfl 0 rfl ?_
        refine sk_aload_n K dX5_fail_43 rfl 0 rfl ?_
        obtain ⟨v31, e32, hf⟩ := sk_ob hf
        refine sk_getR K dX5_fail_44 fl_X5_29 rfl e32 ?_
        refine sk_aload_n K dX5_fail_47 rfl 0 rfl ?_
        obtain ⟨v33, e34, hf⟩ := sk_ob hf
        refine sk_getI K dX5_fail_48 fl_X5_38 rfl e34 ?_
        obtain ⟨v35, e36, hf⟩ := sk_ob hf
        refine sk_ald20 K dX5_fail_51 e36 ?_
        obtain ⟨d37, e38, hf⟩ := sk_ob hf
        refine sk_putI d37 K dX5_fail_52 fl_X5_22 rfl rfl rfl e38 ?_
        have hR39 : d37 = dd := Option.some.inj hf
        exact sk_vret K dX5_fail_55 rfl rfl rfl hR39
noncomputable def fX5_expect (S : sk_S) (d : sk_D) (p0 : Nat) (p1 : Int32) : Option (sk_D) :=
  if S.2.1 p0 = (5, 0) then ((fX5_kind S d p0).bind fun v1 => if v1 = p1 then (if S.2.1 p0 = (5, 0) then ((fX5_next S d p0).bind fun d12 => some d12) else none) else (if S.2.1 p0 = (5, 0) then ((fX5_fail S d p0 (2 : Int32)).bind fun d7 => some d7) else none)) else none
set_option maxRecDepth 100000 in
set_option maxHeartbeats 4000000 in
theorem sX5_expect (C : sk_C) (l : Launch) {S : sk_S} {d : sk_D} {p0 : Nat} {p1 : Int32} {dd : sk_D} (hf : fX5_expect S d p0 p1 = some dd) : sk_Met C l 1 yX5_expect cX5_expect 2 none [.ref p0, .int p1] S d none S dd := by
  refine sk_Met.of (by decide) (Nat.le_of_ble_eq_true rfl) (Nat.le_refl _) (Nat.le_refl _) (fun X K0 hX => ?_)
  have K : sk_Ok X C cX5_expect 2 RX5 "expect" none 1 l none S dd := K0
  have R1 : X.2.2.2.2.2.2.2.2.2.2.2.1 ≤ S.1.1 ∧ X.2.2.2.2.2.2.2.2.2.2.2.2 ≤ S.1.2 := by rw [hX]; exact ⟨Nat.le_refl _, Nat.le_refl _⟩
  have R2 : S.1.1 ≤ S.1.1 ∧ S.1.2 ≤ S.1.2 := ⟨Nat.le_refl _, Nat.le_refl _⟩
  show sk_G X C 2 S d 0 [(0, .ref p0), (1, .int p1)] []
  unfold fX5_expect at hf
  refine sk_aload_n K dX5_expect_0 rfl 0 rfl ?_
  obtain ⟨h3, hf⟩ := sk_ib hf
  obtain ⟨v1, e2, hf⟩ := sk_ob hf
  refine sk_callV (As := []) (st := []) K dX5_expect_1 cl_X5_61 h3 (sX5_kind C l e2) (by decide) rfl rfl (Nat.le_of_ble_eq_true rfl) R1 R2 ?_
  refine sk_iload_n K dX5_expect_4 rfl 1 rfl ?_
  refine sk_icmp_ne 15 K dX5_expect_5 (by decide) (fun h4 => ?_) (fun h4 => ?_)
  · rw [if_neg h4] at hf
    refine sk_aload_n K dX5_expect_15 rfl 0 rfl ?_
    refine sk_iconst (2 : Int32) K dX5_expect_16 (by decide) ?_
    obtain ⟨h8, hf⟩ := sk_ib hf
    obtain ⟨d7, e6, hf⟩ := sk_ob hf
    refine sk_callV (As := [.int (2 : Int32)]) (st := []) K dX5_expect_17 cl_X5_103 h8 (sX5_fail C l e6) (by decide) rfl rfl (Nat.le_of_ble_eq_true rfl) R1 R2 ?_
    have hR9 : d7 = dd := Option.some.inj hf
    exact sk_vret K dX5_expect_20 rfl rfl rfl hR9
  · rw [if_pos h4] at hf
    refine sk_aload_n K dX5_expect_8 rfl 0 rfl ?_
    obtain ⟨h13, hf⟩ := sk_ib hf
    obtain ⟨d12, e11, hf⟩ := sk_ob hf
    refine sk_callV (As := []) (st := []) K dX5_expect_9 cl_X5_100 h13 (sX5_next C l e11) (by decide) rfl rfl (Nat.le_of_ble_eq_true rfl) R1 R2 ?_
    refine sk_goto 20 K dX5_expect_12 (by decide) ?_
    have hR14 : d12 = dd := Option.some.inj hf
    exact sk_vret K dX5_expect_20 rfl rfl rfl hR14
noncomputable def fX5_number_J37 (S : sk_S) (p0 : Nat) (p1 : Int32) (d1 : sk_D) : Option (Int32 × sk_D) :=
  if S.2.1 p0 = (5, 0) then ((fX5_fail S d1 p0 (3 : Int32)).bind fun d4 => some (p1, d4)) else none
noncomputable def fX5_number (S : sk_S) (d : sk_D) (p0 : Nat) (p1 : Int32) (p2 : Int32) : Option (Int32 × sk_D) :=
  if S.2.1 p0 = (5, 0) then ((fX5_kind S d p0).bind fun v7 => if v7 = (200 : Int32) then ((sk_gR S p0 5 5).bind fun v11 => (sk_gI S d p0 5 7).bind fun v13 => (sk_lI S d v11 20 v13).bind fun v15 => if v15 < p1 then (fX5_number_J37 S p0 p1 d) else (if v15 ≤ p2 then (if S.2.1 p0 = (5, 0) then ((fX5_next S d p0).bind fun d21 => some (v15, d21)) else none) else (fX5_number_J37 S p0 p1 d))) else (if S.2.1 p0 = (5, 0) then ((fX5_fail S d p0 (2 : Int32)).bind fun d26 => some (p1, d26)) else none)) else none
set_option maxRecDepth 100000 in
set_option maxHeartbeats 4000000 in
theorem sX5_number (C : sk_C) (l : Launch) {S : sk_S} {d : sk_D} {p0 : Nat} {p1 : Int32} {p2 : Int32} {rr : Int32} {dd : sk_D} (hf : fX5_number S d p0 p1 p2 = some (rr, dd)) : sk_Met C l 1 yX5_number cX5_number 4 (some .int) [.ref p0, .int p1, .int p2] S d (some (.int rr)) S dd := by
  refine sk_Met.of (by decide) (Nat.le_of_ble_eq_true rfl) (Nat.le_refl _) (Nat.le_refl _) (fun X K0 hX => ?_)
  have K : sk_Ok X C cX5_number 4 RX5 "number" (some .int) 1 l (some (.int rr)) S dd := K0
  have R1 : X.2.2.2.2.2.2.2.2.2.2.2.1 ≤ S.1.1 ∧ X.2.2.2.2.2.2.2.2.2.2.2.2 ≤ S.1.2 := by rw [hX]; exact ⟨Nat.le_refl _, Nat.le_refl _⟩
  have R2 : S.1.1 ≤ S.1.1 ∧ S.1.2 ≤ S.1.2 := ⟨Nat.le_refl _, Nat.le_refl _⟩
  show sk_G X C 4 S d 0 [(0, .ref p0), (1, .int p1), (2, .int p2)] []
  unfold fX5_number at hf
  have j37_0 : ∀ (d1 : sk_D), fX5_number_J37 S p0 p1 d1 = some (rr, dd) → sk_G X C 4 S d1 37 [(0, .ref p0), (1, .int p1)] [] := by
    intro d1 hf
    unfold fX5_number_J37 at hf
    refine sk_aload_n K dX5_number_37 rfl 0 rfl ?_
    refine sk_iconst (3 : Int32) K dX5_number_38 (by decide) ?_
    obtain ⟨h5, hf⟩ := sk_ib hf
    obtain ⟨d4, e3, hf⟩ := sk_ob hf
    refine sk_callV (As := [.int (3 : Int32)]) (st := []) K dX5_number_39 cl_X5_103 h5 (sX5_fail C l e3) (by decide) rfl rfl (Nat.le_of_ble_eq_true rfl) R1 R2 ?_
    refine sk_iload_n K dX5_number_42 rfl 1 rfl ?_
    have hR6 : (p1, d4) = (rr, dd) := Option.some.inj hf
    exact sk_iret K dX5_number_43 rfl rfl (congrArg (fun z => z.1) hR6) rfl (congrArg (fun z => z.2) hR6)
  refine sk_aload_n K dX5_number_0 rfl 0 rfl ?_
  obtain ⟨h9, hf⟩ := sk_ib hf
  obtain ⟨v7, e8, hf⟩ := sk_ob hf
  refine sk_callV (As := []) (st := []) K dX5_number_1 cl_X5_61 h9 (sX5_kind C l e8) (by decide) rfl rfl (Nat.le_of_ble_eq_true rfl) R1 R2 ?_
  refine sk_sipush (200 : Int32) K dX5_number_4 (by decide) ?_
  refine sk_icmp_eq 17 K dX5_number_7 (by decide) (fun h10 => ?_) (fun h10 => ?_)
  · rw [if_pos h10] at hf
    refine sk_aload_n K dX5_number_17 rfl 0 rfl ?_
    obtain ⟨v11, e12, hf⟩ := sk_ob hf
    refine sk_getR K dX5_number_18 fl_X5_32 rfl e12 ?_
    refine sk_aload_n K dX5_number_21 rfl 0 rfl ?_
    obtain ⟨v13, e14, hf⟩ := sk_ob hf
    refine sk_getI K dX5_number_22 fl_X5_38 rfl e14 ?_
    obtain ⟨v15, e16, hf⟩ := sk_ob hf
    refine sk_ald20 K dX5_number_25 e16 ?_
    refine sk_istore_n [(3, .int v15), (0, .ref p0), (1, .int p1), (2, .int p2)] K dX5_number_26 rfl (by decide) rfl ?_
    refine sk_iload_n K dX5_number_27 rfl 0 rfl ?_
    refine sk_iload_n K dX5_number_28 rfl 2 rfl ?_
    refine sk_icmp_lt 37 K dX5_number_29 (by decide) (fun h17 => ?_) (fun h17 => ?_)
    · rw [if_pos h17] at hf
      refine sk_sub [(0, .ref p0), (1, .int p1)] [1, 2] rfl ?_
      have h9 := j37_0 _ hf
      exact h9
    · rw [if_neg h17] at hf
      refine sk_iload_n K dX5_number_32 rfl 0 rfl ?_
      refine sk_iload_n K dX5_number_33 rfl 3 rfl ?_
      refine sk_icmp_le 44 K dX5_number_34 (by decide) (fun h18 => ?_) (fun h18 => ?_)
      · rw [if_pos h18] at hf
        refine sk_aload_n K dX5_number_44 rfl 1 rfl ?_
        obtain ⟨h22, hf⟩ := sk_ib hf
        obtain ⟨d21, e20, hf⟩ := sk_ob hf
        refine sk_callV (As := []) (st := []) K dX5_number_45 cl_X5_100 h22 (sX5_next C l e20) (by decide) rfl rfl (Nat.le_of_ble_eq_true rfl) R1 R2 ?_
        refine sk_iload_n K dX5_number_48 rfl 0 rfl ?_
        have hR23 : (v15, d21) = (rr, dd) := Option.some.inj hf
        exact sk_iret K dX5_number_49 rfl rfl (congrArg (fun z => z.1) hR23) rfl (congrArg (fun z => z.2) hR23)
      · rw [if_neg h18] at hf
        refine sk_sub [(0, .ref p0), (1, .int p1)] [1, 2] rfl ?_
        have h9 := j37_0 _ hf
        exact h9
  · rw [if_neg h10] at hf
    refine sk_aload_n K dX5_number_10 rfl 0 rfl ?_
    refine sk_iconst (2 : Int32) K dX5_number_11 (by decide) ?_
    obtain ⟨h27, hf⟩ := sk_ib hf
    obtain ⟨d26, e25, hf⟩ := sk_ob hf
    refine sk_callV (As := [.int (2 : Int32)]) (st := []) K dX5_number_12 cl_X5_103 h27 (sX5_fail C l e25) (by decide) rfl rfl (Nat.le_of_ble_eq_true rfl) R1 R2 ?_
    refine sk_iload_n K dX5_number_15 rfl 1 rfl ?_
    have hR28 : (p1, d26) = (rr, dd) := Option.some.inj hf
    exact sk_iret K dX5_number_16 rfl rfl (congrArg (fun z => z.1) hR28) rfl (congrArg (fun z => z.2) hR28)
noncomputable def fX5_endLine (S : sk_S) (d : sk_D) (p0 : Nat) : Option (sk_D) :=
  if S.2.1 p0 = (5, 0) then ((fX5_expect S d p0 (59 : Int32)).bind fun d3 => (sk_gR S p0 5 0).bind fun v5 => (sk_gI S d3 v5 2 4).bind fun v7 => (sk_pI S d3 v5 2 4 (v7 + (1 : Int32))).bind fun d9 => some d9) else none
set_option maxRecDepth 100000 in
set_option maxHeartbeats 4000000 in
theorem sX5_endLine (C : sk_C) (l : Launch) {S : sk_S} {d : sk_D} {p0 : Nat} {dd : sk_D} (hf : fX5_endLine S d p0 = some dd) : sk_Met C l 2 yX5_endLine cX5_endLine 1 none [.ref p0] S d none S dd := by
  refine sk_Met.of (by decide) (Nat.le_of_ble_eq_true rfl) (Nat.le_refl _) (Nat.le_refl _) (fun X K0 hX => ?_)
  have K : sk_Ok X C cX5_endLine 1 RX5 "endLine" none 2 l none S dd := K0
  have R1 : X.2.2.2.2.2.2.2.2.2.2.2.1 ≤ S.1.1 ∧ X.2.2.2.2.2.2.2.2.2.2.2.2 ≤ S.1.2 := by rw [hX]; exact ⟨Nat.le_refl _, Nat.le_refl _⟩
  have R2 : S.1.1 ≤ S.1.1 ∧ S.1.2 ≤ S.1.2 := ⟨Nat.le_refl _, Nat.le_refl _⟩
  show sk_G X C 1 S d 0 [(0, .ref p0)] []
  unfold fX5_endLine at hf
  refine sk_aload_n K dX5_endLine_0 rfl 0 rfl ?_
  refine sk_bipush (59 : Int32) K dX5_endLine_1 (by decide) ?_
  obtain ⟨h4, hf⟩ := sk_ib hf
  obtain ⟨d3, e2, hf⟩ := sk_ob hf
  refine sk_callV (As := [.int (59 : Int32)]) (st := []) K dX5_endLine_3 cl_X5_107 h4 (sX5_expect C l e2) (by decide) rfl rfl (Nat.le_of_ble_eq_true rfl) R1 R2 ?_
  refine sk_aload_n K dX5_endLine_6 rfl 0 rfl ?_
  obtain ⟨v5, e6, hf⟩ := sk_ob hf
  refine sk_getR K dX5_endLine_7 fl_X5_12 rfl e6 ?_
  refine sk_dup K dX5_endLine_10 rfl ?_
  obtain ⟨v7, e8, hf⟩ := sk_ob hf
  refine sk_getI K dX5_endLine_11 fl_X5_119 rfl e8 ?_
  refine sk_iconst (1 : Int32) K dX5_endLine_14 (by decide) ?_
  refine sk_iadd K dX5_endLine_15 ?_
  obtain ⟨d9, e10, hf⟩ := sk_ob hf
  refine sk_putI d9 K dX5_endLine_16 fl_X5_119 rfl rfl rfl e10 ?_
  have hR11 : d9 = dd := Option.some.inj hf
  exact sk_vret K dX5_endLine_19 rfl rfl rfl hR11
noncomputable def fX5_lifeLine (S : sk_S) (d : sk_D) (p0 : Nat) : Option (sk_D) :=
  if S.2.1 p0 = (5, 0) then ((fX5_expect S d p0 (0 : Int32)).bind fun d3 => if S.2.1 p0 = (5, 0) then ((fX5_expect S d3 p0 (1 : Int32)).bind fun d7 => (sk_gR S p0 5 0).bind fun v9 => if S.2.1 p0 = (5, 0) then ((fX5_number S d7 p0 (0 : Int32) (40 : Int32)).bind fun b15 => (sk_pI S b15.2 v9 2 0 b15.1).bind fun d16 => if S.2.1 p0 = (5, 0) then ((fX5_endLine S d16 p0).bind fun d20 => some d20) else none) else none) else none) else none
set_option maxRecDepth 100000 in
set_option maxHeartbeats 4000000 in
theorem sX5_lifeLine (C : sk_C) (l : Launch) {S : sk_S} {d : sk_D} {p0 : Nat} {dd : sk_D} (hf : fX5_lifeLine S d p0 = some dd) : sk_Met C l 3 yX5_lifeLine cX5_lifeLine 1 none [.ref p0] S d none S dd := by
  refine sk_Met.of (by decide) (Nat.le_of_ble_eq_true rfl) (Nat.le_refl _) (Nat.le_refl _) (fun X K0 hX => ?_)
  have K : sk_Ok X C cX5_lifeLine 1 RX5 "lifeLine" none 3 l none S dd := K0
  have R1 : X.2.2.2.2.2.2.2.2.2.2.2.1 ≤ S.1.1 ∧ X.2.2.2.2.2.2.2.2.2.2.2.2 ≤ S.1.2 := by rw [hX]; exact ⟨Nat.le_refl _, Nat.le_refl _⟩
  have R2 : S.1.1 ≤ S.1.1 ∧ S.1.2 ≤ S.1.2 := ⟨Nat.le_refl _, Nat.le_refl _⟩
  show sk_G X C 1 S d 0 [(0, .ref p0)] []
  unfold fX5_lifeLine at hf
  refine sk_aload_n K dX5_lifeLine_0 rfl 0 rfl ?_
  refine sk_iconst (0 : Int32) K dX5_lifeLine_1 (by decide) ?_
  obtain ⟨h4, hf⟩ := sk_ib hf
  obtain ⟨d3, e2, hf⟩ := sk_ob hf
  refine sk_callV (As := [.int (0 : Int32)]) (st := []) K dX5_lifeLine_2 cl_X5_107 h4 (sX5_expect C l e2) (by decide) rfl rfl (Nat.le_of_ble_eq_true rfl) R1 R2 ?_
  refine sk_aload_n K dX5_lifeLine_5 rfl 0 rfl ?_
  refine sk_iconst (1 : Int32) K dX5_lifeLine_6 (by decide) ?_
  obtain ⟨h8, hf⟩ := sk_ib hf
  obtain ⟨d7, e6, hf⟩ := sk_ob hf
  refine sk_callV (As := [.int (1 : Int32)]) (st := []) K dX5_lifeLine_7 cl_X5_107 h8 (sX5_expect C l e6) (by decide) rfl rfl (Nat.le_of_ble_eq_true rfl) R1 R2 ?_
  refine sk_aload_n K dX5_lifeLine_10 rfl 0 rfl ?_
  obtain ⟨v9, e10, hf⟩ := sk_ob hf
  refine sk_getR K dX5_lifeLine_11 fl_X5_12 rfl e10 ?_
  refine sk_aload_n K dX5_lifeLine_14 rfl 0 rfl ?_
  refine sk_iconst (0 : Int32) K dX5_lifeLine_15 (by decide) ?_
  refine sk_bipush (40 : Int32) K dX5_lifeLine_16 (by decide) ?_
  obtain ⟨h14, hf⟩ := sk_ib hf
  obtain ⟨⟨v11, d13⟩, e12, hf⟩ := sk_ob hf
  try dsimp only at hf
  refine sk_callV (As := [.int (0 : Int32), .int (40 : Int32)]) (st := [.ref v9]) K dX5_lifeLine_18 cl_X5_110 h14 (sX5_number C l e12) (by decide) rfl rfl (Nat.le_of_ble_eq_true rfl) R1 R2 ?_
  obtain ⟨d16, e17, hf⟩ := sk_ob hf
  refine sk_putI d16 K dX5_lifeLine_21 fl_X5_113 rfl rfl rfl e17 ?_
  refine sk_aload_n K dX5_lifeLine_24 rfl 0 rfl ?_
  obtain ⟨h21, hf⟩ := sk_ib hf
  obtain ⟨d20, e19, hf⟩ := sk_ob hf
  refine sk_callV (As := []) (st := []) K dX5_lifeLine_25 cl_X5_116 h21 (sX5_endLine C l e19) (by decide) rfl rfl (Nat.le_of_ble_eq_true rfl) R1 R2 ?_
  have hR22 : d20 = dd := Option.some.inj hf
  exact sk_vret K dX5_lifeLine_28 rfl rfl rfl hR22
noncomputable def fX5_flag_J39 (S : sk_S) (p0 : Nat) (d1 : sk_D) : Option (sk_D) :=
  if S.2.1 p0 = (5, 0) then ((fX5_fail S d1 p0 (2 : Int32)).bind fun d4 => some d4) else none
noncomputable def fX5_flag_J28 (S : sk_S) (p0 : Nat) (p1 : Int32) (v7 : Int32) (d8 : sk_D) : Option (sk_D) :=
  (sk_gR S p0 5 0).bind fun v9 => if S.2.1 v9 = (2, 0) then ((fX2_has S d8 v9 p1).bind fun v11 => if v11 = true then (if S.2.1 p0 = (5, 0) then ((fX5_next S d8 p0).bind fun d17 => if v7 = (4 : Int32) then ((sk_gR S p0 5 0).bind fun v20 => (sk_gR S v20 2 6).bind fun v22 => if S.2.1 p0 = (5, 0) then ((fX5_number S d17 p0 (0 : Int32) (9 : Int32)).bind fun b28 => (sk_sI S b28.2 v22 20 p1 b28.1).bind fun d29 => some d29) else none) else (if v7 = (5 : Int32) then ((sk_gR S p0 5 0).bind fun v33 => (sk_gR S v33 2 10).bind fun v35 => (sk_lI S d17 v35 20 p1).bind fun v37 => if S.2.1 p0 = (5, 0) then ((fX5_number S d17 p0 (0 : Int32) (p1 - (1 : Int32))).bind fun b43 => (sk_sI S b43.2 v35 20 p1 (v37 ||| ((1 : Int32) <<< (b43.1 &&& 31)))).bind fun d44 => some d44) else none) else (if v7 = (6 : Int32) then ((sk_gR S p0 5 0).bind fun v48 => (sk_gR S v48 2 10).bind fun v50 => (sk_lI S d17 v50 20 p1).bind fun v52 => if S.2.1 p0 = (5, 0) then ((fX5_number S d17 p0 (0 : Int32) (p1 - (1 : Int32))).bind fun b58 => (sk_sI S b58.2 v50 20 p1 (v52 ||| ((1 : Int32) <<< (b58.1 &&& 31)))).bind fun d59 => some d59) else none) else (if v7 = (7 : Int32) then ((sk_gR S p0 5 0).bind fun v63 => (sk_gR S v63 2 10).bind fun v65 => (sk_lI S d17 v65 20 p1).bind fun v67 => if S.2.1 p0 = (5, 0) then ((fX5_number S d17 p0 (0 : Int32) (p1 - (1 : Int32))).bind fun b73 => (sk_sI S b73.2 v65 20 p1 (v67 ||| ((1 : Int32) <<< (b73.1 &&& 31)))).bind fun d74 => some d74) else none) else (if v7 = (8 : Int32) then ((sk_gR S p0 5 0).bind fun v78 => (sk_gR S v78 2 7).bind fun v80 => if S.2.1 p0 = (5, 0) then ((fX5_number S d17 p0 (0 : Int32) (10 : Int32)).bind fun b86 => (sk_sI S b86.2 v80 20 p1 b86.1).bind fun d87 => some d87) else none) else (if v7 = (9 : Int32) then ((sk_gR S p0 5 0).bind fun v91 => (sk_gR S v91 2 8).bind fun v93 => if S.2.1 p0 = (5, 0) then ((fX5_number S d17 p0 (0 : Int32) (10 : Int32)).bind fun b99 => (sk_sI S b99.2 v93 20 p1 b99.1).bind fun d100 => some d100) else none) else (if v7 = (10 : Int32) then ((sk_gR S p0 5 0).bind fun v104 => (sk_gR S v104 2 9).bind fun v106 => if S.2.1 p0 = (5, 0) then ((fX5_number S d17 p0 (0 : Int32) (9 : Int32)).bind fun b112 => (sk_sI S b112.2 v106 20 p1 b112.1).bind fun d113 => some d113) else none) else ((sk_gR S p0 5 0).bind fun v116 => (sk_gR S v116 2 10).bind fun v118 => (sk_lI S d17 v118 20 p1).bind fun v120 => if S.2.1 p0 = (5, 0) then ((fX5_number S d17 p0 (0 : Int32) (p1 - (1 : Int32))).bind fun b126 => (sk_sI S b126.2 v118 20 p1 (v120 ||| ((1 : Int32) <<< (b126.1 &&& 31)))).bind fun d127 => some d127) else none)))))))) else none) else (fX5_flag_J39 S p0 d8)) else none
noncomputable def fX5_flag (S : sk_S) (d : sk_D) (p0 : Nat) (p1 : Int32) : Option (sk_D) :=
  if S.2.1 p0 = (5, 0) then ((fX5_kind S d p0).bind fun v130 => if v130 = (4 : Int32) then (fX5_flag_J28 S p0 p1 v130 d) else (if v130 = (11 : Int32) then (fX5_flag_J28 S p0 p1 v130 d) else (if v130 < (8 : Int32) then (fX5_flag_J39 S p0 d) else (if (10 : Int32) < v130 then (fX5_flag_J39 S p0 d) else (fX5_flag_J28 S p0 p1 v130 d))))) else none
set_option maxRecDepth 100000 in
set_option maxHeartbeats 4000000 in
theorem sX5_flag (C : sk_C) (l : Launch) {S : sk_S} {d : sk_D} {p0 : Nat} {p1 : Int32} {dd : sk_D} (hf : fX5_flag S d p0 p1 = some dd) : sk_Met C l 2 yX5_flag cX5_flag 3 none [.ref p0, .int p1] S d none S dd := by
  refine sk_Met.of (by decide) (Nat.le_of_ble_eq_true rfl) (Nat.le_refl _) (Nat.le_refl _) (fun X K0 hX => ?_)
  have K : sk_Ok X C cX5_flag 3 RX5 "flag" none 2 l none S dd := K0
  have R1 : X.2.2.2.2.2.2.2.2.2.2.2.1 ≤ S.1.1 ∧ X.2.2.2.2.2.2.2.2.2.2.2.2 ≤ S.1.2 := by rw [hX]; exact ⟨Nat.le_refl _, Nat.le_refl _⟩
  have R2 : S.1.1 ≤ S.1.1 ∧ S.1.2 ≤ S.1.2 := ⟨Nat.le_refl _, Nat.le_refl _⟩
  show sk_G X C 3 S d 0 [(0, .ref p0), (1, .int p1)] []
  unfold fX5_flag at hf
  have j39_0 : ∀ (d1 : sk_D), fX5_flag_J39 S p0 d1 = some dd → sk_G X C 3 S d1 39 [(0, .ref p0)] [] := by
    intro d1 hf
    unfold fX5_flag_J39 at hf
    refine sk_aload_n K dX5_flag_39 rfl 0 rfl ?_
    refine sk_iconst (2 : Int32) K dX5_flag_40 (by decide) ?_
    obtain ⟨h5, hf⟩ := sk_ib hf
    obtain ⟨d4, e3, hf⟩ := sk_ob hf
    refine sk_callV (As := [.int (2 : Int32)]) (st := []) K dX5_flag_41 cl_X5_103 h5 (sX5_fail C l e3) (by decide) rfl rfl (Nat.le_of_ble_eq_true rfl) R1 R2 ?_
    have hR6 : d4 = dd := Option.some.inj hf
    exact sk_vret K dX5_flag_44 rfl rfl rfl hR6
  have j28_0 : ∀ (v7 : Int32) (d8 : sk_D), fX5_flag_J28 S p0 p1 v7 d8 = some dd → sk_G X C 3 S d8 28 [(0, .ref p0), (1, .int p1), (2, .int v7)] [] := by
    intro v7 d8 hf
    unfold fX5_flag_J28 at hf
    refine sk_aload_n K dX5_flag_28 rfl 0 rfl ?_
    obtain ⟨v9, e10, hf⟩ := sk_ob hf
    refine sk_getR K dX5_flag_29 fl_X5_12 rfl e10 ?_
    refine sk_iload_n K dX5_flag_32 rfl 1 rfl ?_
    obtain ⟨h13, hf⟩ := sk_ib hf
    obtain ⟨v11, e12, hf⟩ := sk_ob hf
    refine sk_callV (As := [.int p1]) (st := []) K dX5_flag_33 cl_X5_161 h13 (sX2_has C l e12) (by decide) rfl rfl (Nat.le_of_ble_eq_true rfl) R1 R2 ?_
    refine sk_ifneB 45 K dX5_flag_36 (by decide) (fun h14 => ?_) (fun h14 => ?_)
    · rw [if_pos h14] at hf
      refine sk_aload_n K dX5_flag_45 rfl 0 rfl ?_
      obtain ⟨h18, hf⟩ := sk_ib hf
      obtain ⟨d17, e16, hf⟩ := sk_ob hf
      refine sk_callV (As := []) (st := []) K dX5_flag_46 cl_X5_100 h18 (sX5_next C l e16) (by decide) rfl rfl (Nat.le_of_ble_eq_true rfl) R1 R2 ?_
      refine sk_iload_n K dX5_flag_49 rfl 2 rfl ?_
      by_cases h19 : v7 = (4 : Int32)
      · rw [if_pos h19] at hf
        refine sk_tsIn (4 : Int32) (42) 92 K dX5_flag_50 h19 (by decide) (by decide) rfl (by decide) ?_
        refine sk_aload_n K dX5_flag_92 rfl 0 rfl ?_
        obtain ⟨v20, e21, hf⟩ := sk_ob hf
        refine sk_getR K dX5_flag_93 fl_X5_12 rfl e21 ?_
        obtain ⟨v22, e23, hf⟩ := sk_ob hf
        refine sk_getR K dX5_flag_96 fl_X5_165 rfl e23 ?_
        refine sk_iload_n K dX5_flag_99 rfl 1 rfl ?_
        refine sk_aload_n K dX5_flag_100 rfl 0 rfl ?_
        refine sk_iconst (0 : Int32) K dX5_flag_101 (by decide) ?_
        refine sk_bipush (9 : Int32) K dX5_flag_102 (by decide) ?_
        obtain ⟨h27, hf⟩ := sk_ib hf
        obtain ⟨⟨v24, d26⟩, e25, hf⟩ := sk_ob hf
        try dsimp only at hf
        refine sk_callV (As := [.int (0 : Int32), .int (9 : Int32)]) (st := [.int p1, .ref v22]) K dX5_flag_104 cl_X5_110 h27 (sX5_number C l e25) (by decide) rfl rfl (Nat.le_of_ble_eq_true rfl) R1 R2 ?_
        obtain ⟨d29, e30, hf⟩ := sk_ob hf
        refine sk_ast20 d29 K dX5_flag_107 e30 ?_
        refine sk_goto 190 K dX5_flag_108 (by decide) ?_
        have hR31 : d29 = dd := Option.some.inj hf
        exact sk_vret K dX5_flag_190 rfl rfl rfl hR31
      · rw [if_neg h19] at hf
        by_cases h32 : v7 = (5 : Int32)
        · rw [if_pos h32] at hf
          refine sk_tsIn (5 : Int32) (118) 168 K dX5_flag_50 h32 (by decide) (by decide) rfl (by decide) ?_
          refine sk_aload_n K dX5_flag_168 rfl 0 rfl ?_
          obtain ⟨v33, e34, hf⟩ := sk_ob hf
          refine sk_getR K dX5_flag_169 fl_X5_12 rfl e34 ?_
          obtain ⟨v35, e36, hf⟩ := sk_ob hf
          refine sk_getR K dX5_flag_172 fl_X5_177 rfl e36 ?_
          refine sk_iload_n K dX5_flag_175 rfl 1 rfl ?_
          refine sk_dup2 K dX5_flag_176 rfl rfl ?_
          obtain ⟨v37, e38, hf⟩ := sk_ob hf
          refine sk_ald20 K dX5_flag_177 e38 ?_
          refine sk_iconst (1 : Int32) K dX5_flag_178 (by decide) ?_
          refine sk_aload_n K dX5_flag_179 rfl 0 rfl ?_
          refine sk_iconst (0 : Int32) K dX5_flag_180 (by decide) ?_
          refine sk_iload_n K dX5_flag_181 rfl 1 rfl ?_
          refine sk_iconst (1 : Int32) K dX5_flag_182 (by decide) ?_
          refine sk_isub K dX5_flag_183 ?_
          obtain ⟨h42, hf⟩ := sk_ib hf
          obtain ⟨⟨v39, d41⟩, e40, hf⟩ := sk_ob hf
          try dsimp only at hf
          refine sk_callV (As := [.int (0 : Int32), .int (p1 - (1 : Int32))]) (st := [.int (1 : Int32), .int v37, .int p1, .ref v35]) K dX5_flag_184 cl_X5_110 h42 (sX5_number C l e40) (by decide) rfl rfl (Nat.le_of_ble_eq_true rfl) R1 R2 ?_
          refine sk_ishl K dX5_flag_187 ?_
          refine sk_ior K dX5_flag_188 ?_
          obtain ⟨d44, e45, hf⟩ := sk_ob hf
          refine sk_ast20 d44 K dX5_flag_189 e45 ?_
          have hR46 : d44 = dd := Option.some.inj hf
          exact sk_vret K dX5_flag_190 rfl rfl rfl hR46
        · rw [if_neg h32] at hf
          by_cases h47 : v7 = (6 : Int32)
          · rw [if_pos h47] at hf
            refine sk_tsIn (6 : Int32) (118) 168 K dX5_flag_50 h47 (by decide) (by decide) rfl (by decide) ?_
            refine sk_aload_n K dX5_flag_168 rfl 0 rfl ?_
            obtain ⟨v48, e49, hf⟩ := sk_ob hf
            refine sk_getR K dX5_flag_169 fl_X5_12 rfl e49 ?_
            obtain ⟨v50, e51, hf⟩ := sk_ob hf
            refine sk_getR K dX5_flag_172 fl_X5_177 rfl e51 ?_
            refine sk_iload_n K dX5_flag_175 rfl 1 rfl ?_
            refine sk_dup2 K dX5_flag_176 rfl rfl ?_
            obtain ⟨v52, e53, hf⟩ := sk_ob hf
            refine sk_ald20 K dX5_flag_177 e53 ?_
            refine sk_iconst (1 : Int32) K dX5_flag_178 (by decide) ?_
            refine sk_aload_n K dX5_flag_179 rfl 0 rfl ?_
            refine sk_iconst (0 : Int32) K dX5_flag_180 (by decide) ?_
            refine sk_iload_n K dX5_flag_181 rfl 1 rfl ?_
            refine sk_iconst (1 : Int32) K dX5_flag_182 (by decide) ?_
            refine sk_isub K dX5_flag_183 ?_
            obtain ⟨h57, hf⟩ := sk_ib hf
            obtain ⟨⟨v54, d56⟩, e55, hf⟩ := sk_ob hf
            try dsimp only at hf
            refine sk_callV (As := [.int (0 : Int32), .int (p1 - (1 : Int32))]) (st := [.int (1 : Int32), .int v52, .int p1, .ref v50]) K dX5_flag_184 cl_X5_110 h57 (sX5_number C l e55) (by decide) rfl rfl (Nat.le_of_ble_eq_true rfl) R1 R2 ?_
            refine sk_ishl K dX5_flag_187 ?_
            refine sk_ior K dX5_flag_188 ?_
            obtain ⟨d59, e60, hf⟩ := sk_ob hf
            refine sk_ast20 d59 K dX5_flag_189 e60 ?_
            have hR61 : d59 = dd := Option.some.inj hf
            exact sk_vret K dX5_flag_190 rfl rfl rfl hR61
          · rw [if_neg h47] at hf
            by_cases h62 : v7 = (7 : Int32)
            · rw [if_pos h62] at hf
              refine sk_tsIn (7 : Int32) (118) 168 K dX5_flag_50 h62 (by decide) (by decide) rfl (by decide) ?_
              refine sk_aload_n K dX5_flag_168 rfl 0 rfl ?_
              obtain ⟨v63, e64, hf⟩ := sk_ob hf
              refine sk_getR K dX5_flag_169 fl_X5_12 rfl e64 ?_
              obtain ⟨v65, e66, hf⟩ := sk_ob hf
              refine sk_getR K dX5_flag_172 fl_X5_177 rfl e66 ?_
              refine sk_iload_n K dX5_flag_175 rfl 1 rfl ?_
              refine sk_dup2 K dX5_flag_176 rfl rfl ?_
              obtain ⟨v67, e68, hf⟩ := sk_ob hf
              refine sk_ald20 K dX5_flag_177 e68 ?_
              refine sk_iconst (1 : Int32) K dX5_flag_178 (by decide) ?_
              refine sk_aload_n K dX5_flag_179 rfl 0 rfl ?_
              refine sk_iconst (0 : Int32) K dX5_flag_180 (by decide) ?_
              refine sk_iload_n K dX5_flag_181 rfl 1 rfl ?_
              refine sk_iconst (1 : Int32) K dX5_flag_182 (by decide) ?_
              refine sk_isub K dX5_flag_183 ?_
              obtain ⟨h72, hf⟩ := sk_ib hf
              obtain ⟨⟨v69, d71⟩, e70, hf⟩ := sk_ob hf
              try dsimp only at hf
              refine sk_callV (As := [.int (0 : Int32), .int (p1 - (1 : Int32))]) (st := [.int (1 : Int32), .int v67, .int p1, .ref v65]) K dX5_flag_184 cl_X5_110 h72 (sX5_number C l e70) (by decide) rfl rfl (Nat.le_of_ble_eq_true rfl) R1 R2 ?_
              refine sk_ishl K dX5_flag_187 ?_
              refine sk_ior K dX5_flag_188 ?_
              obtain ⟨d74, e75, hf⟩ := sk_ob hf
              refine sk_ast20 d74 K dX5_flag_189 e75 ?_
              have hR76 : d74 = dd := Option.some.inj hf
              exact sk_vret K dX5_flag_190 rfl rfl rfl hR76
            · rw [if_neg h62] at hf
              by_cases h77 : v7 = (8 : Int32)
              · rw [if_pos h77] at hf
                refine sk_tsIn (8 : Int32) (61) 111 K dX5_flag_50 h77 (by decide) (by decide) rfl (by decide) ?_
                refine sk_aload_n K dX5_flag_111 rfl 0 rfl ?_
                obtain ⟨v78, e79, hf⟩ := sk_ob hf
                refine sk_getR K dX5_flag_112 fl_X5_12 rfl e79 ?_
                obtain ⟨v80, e81, hf⟩ := sk_ob hf
                refine sk_getR K dX5_flag_115 fl_X5_168 rfl e81 ?_
                refine sk_iload_n K dX5_flag_118 rfl 1 rfl ?_
                refine sk_aload_n K dX5_flag_119 rfl 0 rfl ?_
                refine sk_iconst (0 : Int32) K dX5_flag_120 (by decide) ?_
                refine sk_bipush (10 : Int32) K dX5_flag_121 (by decide) ?_
                obtain ⟨h85, hf⟩ := sk_ib hf
                obtain ⟨⟨v82, d84⟩, e83, hf⟩ := sk_ob hf
                try dsimp only at hf
                refine sk_callV (As := [.int (0 : Int32), .int (10 : Int32)]) (st := [.int p1, .ref v80]) K dX5_flag_123 cl_X5_110 h85 (sX5_number C l e83) (by decide) rfl rfl (Nat.le_of_ble_eq_true rfl) R1 R2 ?_
                obtain ⟨d87, e88, hf⟩ := sk_ob hf
                refine sk_ast20 d87 K dX5_flag_126 e88 ?_
                refine sk_goto 190 K dX5_flag_127 (by decide) ?_
                have hR89 : d87 = dd := Option.some.inj hf
                exact sk_vret K dX5_flag_190 rfl rfl rfl hR89
              · rw [if_neg h77] at hf
                by_cases h90 : v7 = (9 : Int32)
                · rw [if_pos h90] at hf
                  refine sk_tsIn (9 : Int32) (80) 130 K dX5_flag_50 h90 (by decide) (by decide) rfl (by decide) ?_
                  refine sk_aload_n K dX5_flag_130 rfl 0 rfl ?_
                  obtain ⟨v91, e92, hf⟩ := sk_ob hf
                  refine sk_getR K dX5_flag_131 fl_X5_12 rfl e92 ?_
                  obtain ⟨v93, e94, hf⟩ := sk_ob hf
                  refine sk_getR K dX5_flag_134 fl_X5_171 rfl e94 ?_
                  refine sk_iload_n K dX5_flag_137 rfl 1 rfl ?_
                  refine sk_aload_n K dX5_flag_138 rfl 0 rfl ?_
                  refine sk_iconst (0 : Int32) K dX5_flag_139 (by decide) ?_
                  refine sk_bipush (10 : Int32) K dX5_flag_140 (by decide) ?_
                  obtain ⟨h98, hf⟩ := sk_ib hf
                  obtain ⟨⟨v95, d97⟩, e96, hf⟩ := sk_ob hf
                  try dsimp only at hf
                  refine sk_callV (As := [.int (0 : Int32), .int (10 : Int32)]) (st := [.int p1, .ref v93]) K dX5_flag_142 cl_X5_110 h98 (sX5_number C l e96) (by decide) rfl rfl (Nat.le_of_ble_eq_true rfl) R1 R2 ?_
                  obtain ⟨d100, e101, hf⟩ := sk_ob hf
                  refine sk_ast20 d100 K dX5_flag_145 e101 ?_
                  refine sk_goto 190 K dX5_flag_146 (by decide) ?_
                  have hR102 : d100 = dd := Option.some.inj hf
                  exact sk_vret K dX5_flag_190 rfl rfl rfl hR102
                · rw [if_neg h90] at hf
                  by_cases h103 : v7 = (10 : Int32)
                  · rw [if_pos h103] at hf
                    refine sk_tsIn (10 : Int32) (99) 149 K dX5_flag_50 h103 (by decide) (by decide) rfl (by decide) ?_
                    refine sk_aload_n K dX5_flag_149 rfl 0 rfl ?_
                    obtain ⟨v104, e105, hf⟩ := sk_ob hf
                    refine sk_getR K dX5_flag_150 fl_X5_12 rfl e105 ?_
                    obtain ⟨v106, e107, hf⟩ := sk_ob hf
                    refine sk_getR K dX5_flag_153 fl_X5_174 rfl e107 ?_
                    refine sk_iload_n K dX5_flag_156 rfl 1 rfl ?_
                    refine sk_aload_n K dX5_flag_157 rfl 0 rfl ?_
                    refine sk_iconst (0 : Int32) K dX5_flag_158 (by decide) ?_
                    refine sk_bipush (9 : Int32) K dX5_flag_159 (by decide) ?_
                    obtain ⟨h111, hf⟩ := sk_ib hf
                    obtain ⟨⟨v108, d110⟩, e109, hf⟩ := sk_ob hf
                    try dsimp only at hf
                    refine sk_callV (As := [.int (0 : Int32), .int (9 : Int32)]) (st := [.int p1, .ref v106]) K dX5_flag_161 cl_X5_110 h111 (sX5_number C l e109) (by decide) rfl rfl (Nat.le_of_ble_eq_true rfl) R1 R2 ?_
                    obtain ⟨d113, e114, hf⟩ := sk_ob hf
                    refine sk_ast20 d113 K dX5_flag_164 e114 ?_
                    refine sk_goto 190 K dX5_flag_165 (by decide) ?_
                    have hR115 : d113 = dd := Option.some.inj hf
                    exact sk_vret K dX5_flag_190 rfl rfl rfl hR115
                  · rw [if_neg h103] at hf
                    refine sk_tsOut 168 K dX5_flag_50 (sk_tsout (4) 7 [(4 : Int32), (5 : Int32), (6 : Int32), (7 : Int32), (8 : Int32), (9 : Int32), (10 : Int32)] (by decide) (by simp [h19, h32, h47, h62, h77, h90, h103])) (by decide) ?_
                    refine sk_aload_n K dX5_flag_168 rfl 0 rfl ?_
                    obtain ⟨v116, e117, hf⟩ := sk_ob hf
                    refine sk_getR K dX5_flag_169 fl_X5_12 rfl e117 ?_
                    obtain ⟨v118, e119, hf⟩ := sk_ob hf
                    refine sk_getR K dX5_flag_172 fl_X5_177 rfl e119 ?_
                    refine sk_iload_n K dX5_flag_175 rfl 1 rfl ?_
                    refine sk_dup2 K dX5_flag_176 rfl rfl ?_
                    obtain ⟨v120, e121, hf⟩ := sk_ob hf
                    refine sk_ald20 K dX5_flag_177 e121 ?_
                    refine sk_iconst (1 : Int32) K dX5_flag_178 (by decide) ?_
                    refine sk_aload_n K dX5_flag_179 rfl 0 rfl ?_
                    refine sk_iconst (0 : Int32) K dX5_flag_180 (by decide) ?_
                    refine sk_iload_n K dX5_flag_181 rfl 1 rfl ?_
                    refine sk_iconst (1 : Int32) K dX5_flag_182 (by decide) ?_
                    refine sk_isub K dX5_flag_183 ?_
                    obtain ⟨h125, hf⟩ := sk_ib hf
                    obtain ⟨⟨v122, d124⟩, e123, hf⟩ := sk_ob hf
                    try dsimp only at hf
                    refine sk_callV (As := [.int (0 : Int32), .int (p1 - (1 : Int32))]) (st := [.int (1 : Int32), .int v120, .int p1, .ref v118]) K dX5_flag_184 cl_X5_110 h125 (sX5_number C l e123) (by decide) rfl rfl (Nat.le_of_ble_eq_true rfl) R1 R2 ?_
                    refine sk_ishl K dX5_flag_187 ?_
                    refine sk_ior K dX5_flag_188 ?_
                    obtain ⟨d127, e128, hf⟩ := sk_ob hf
                    refine sk_ast20 d127 K dX5_flag_189 e128 ?_
                    have hR129 : d127 = dd := Option.some.inj hf
                    exact sk_vret K dX5_flag_190 rfl rfl rfl hR129
    · rw [if_neg h14] at hf
      refine sk_sub [(0, .ref p0)] [0] rfl ?_
      have h9 := j39_0 _ hf
      exact h9
  refine sk_aload_n K dX5_flag_0 rfl 0 rfl ?_
  obtain ⟨h132, hf⟩ := sk_ib hf
  obtain ⟨v130, e131, hf⟩ := sk_ob hf
  refine sk_callV (As := []) (st := []) K dX5_flag_1 cl_X5_61 h132 (sX5_kind C l e131) (by decide) rfl rfl (Nat.le_of_ble_eq_true rfl) R1 R2 ?_
  refine sk_istore_n [(2, .int v130), (0, .ref p0), (1, .int p1)] K dX5_flag_4 rfl (by decide) rfl ?_
  refine sk_iload_n K dX5_flag_5 rfl 0 rfl ?_
  refine sk_iconst (4 : Int32) K dX5_flag_6 (by decide) ?_
  refine sk_icmp_eq 28 K dX5_flag_7 (by decide) (fun h133 => ?_) (fun h133 => ?_)
  · rw [if_pos h133] at hf
    refine sk_sub [(0, .ref p0), (1, .int p1), (2, .int v130)] [1, 2, 0] rfl ?_
    have h9 := j28_0 _ _ hf
    exact h9
  · rw [if_neg h133] at hf
    refine sk_iload_n K dX5_flag_10 rfl 0 rfl ?_
    refine sk_bipush (11 : Int32) K dX5_flag_11 (by decide) ?_
    refine sk_icmp_eq 28 K dX5_flag_13 (by decide) (fun h134 => ?_) (fun h134 => ?_)
    · rw [if_pos h134] at hf
      refine sk_sub [(0, .ref p0), (1, .int p1), (2, .int v130)] [1, 2, 0] rfl ?_
      have h9 := j28_0 _ _ hf
      exact h9
    · rw [if_neg h134] at hf
      refine sk_iload_n K dX5_flag_16 rfl 0 rfl ?_
      refine sk_bipush (8 : Int32) K dX5_flag_17 (by decide) ?_
      refine sk_icmp_lt 39 K dX5_flag_19 (by decide) (fun h135 => ?_) (fun h135 => ?_)
      · rw [if_pos h135] at hf
        refine sk_sub [(0, .ref p0)] [1] rfl ?_
        have h9 := j39_0 _ hf
        exact h9
      · rw [if_neg h135] at hf
        refine sk_iload_n K dX5_flag_22 rfl 0 rfl ?_
        refine sk_bipush (10 : Int32) K dX5_flag_23 (by decide) ?_
        refine sk_icmp_gt 39 K dX5_flag_25 (by decide) (fun h136 => ?_) (fun h136 => ?_)
        · rw [if_pos h136] at hf
          refine sk_sub [(0, .ref p0)] [1] rfl ?_
          have h9 := j39_0 _ hf
          exact h9
        · rw [if_neg h136] at hf
          refine sk_sub [(0, .ref p0), (1, .int p1), (2, .int v130)] [1, 2, 0] rfl ?_
          have h9 := j28_0 _ _ hf
          exact h9
noncomputable def fX5_doingLine_L60 (S : sk_S) (p0 : Nat) (v16 : Int32) (s1 : Int32 × sk_D) : Option ((Int32 × sk_D) ⊕ (sk_D)) :=
  if (900 : Int32) ≤ s1.1 then (some (.inr s1.2)) else ((sk_gI S s1.2 p0 5 1).bind fun v37 => if v37 = 0 then (if S.2.1 p0 = (5, 0) then ((fX5_kind S s1.2 p0).bind fun v41 => if v41 = (59 : Int32) then (some (.inr s1.2)) else (if S.2.1 p0 = (5, 0) then ((fX5_flag S s1.2 p0 v16).bind fun d48 => some (.inl (s1.1 + 1, d48))) else none)) else none) else (some (.inr s1.2)))
noncomputable def fX5_doingLine (S : sk_S) (d : sk_D) (p0 : Nat) : Option (sk_D) :=
  (sk_gR S p0 5 0).bind fun v1 => (sk_gI S d v1 2 1).bind fun v3 => if v3 < (8 : Int32) then (if S.2.1 p0 = (5, 0) then ((fX5_next S d p0).bind fun d8 => if S.2.1 p0 = (5, 0) then ((fX5_expect S d8 p0 (3 : Int32)).bind fun d12 => (sk_gR S p0 5 0).bind fun v14 => (sk_gI S d12 v14 2 1).bind fun v16 => (sk_gR S p0 5 0).bind fun v18 => if S.2.1 v18 = (2, 0) then ((fX2_addDoing S d12 v18).bind fun d22 => (sk_gR S p0 5 0).bind fun v24 => (sk_gR S v24 2 5).bind fun v26 => if S.2.1 p0 = (5, 0) then ((fX5_number S d22 p0 (1 : Int32) (9 : Int32)).bind fun b32 => (sk_sI S b32.2 v26 20 v16 b32.1).bind fun d33 => (sk_itr (fX5_doingLine_L60 S p0 v16) ((0 : Int32), d33)).bind fun x1 => some x1) else none) else none) else none) else none) else (if S.2.1 p0 = (5, 0) then ((fX5_fail S d p0 (4 : Int32)).bind fun d52 => some d52) else none)
set_option maxRecDepth 100000 in
set_option maxHeartbeats 4000000 in
theorem sX5_doingLine (C : sk_C) (l : Launch) {S : sk_S} {d : sk_D} {p0 : Nat} {dd : sk_D} (hf : fX5_doingLine S d p0 = some dd) : sk_Met C l 3 yX5_doingLine cX5_doingLine 3 none [.ref p0] S d none S dd := by
  refine sk_Met.of (by decide) (Nat.le_of_ble_eq_true rfl) (Nat.le_refl _) (Nat.le_refl _) (fun X K0 hX => ?_)
  have K : sk_Ok X C cX5_doingLine 3 RX5 "doingLine" none 3 l none S dd := K0
  have R1 : X.2.2.2.2.2.2.2.2.2.2.2.1 ≤ S.1.1 ∧ X.2.2.2.2.2.2.2.2.2.2.2.2 ≤ S.1.2 := by rw [hX]; exact ⟨Nat.le_refl _, Nat.le_refl _⟩
  have R2 : S.1.1 ≤ S.1.1 ∧ S.1.2 ≤ S.1.2 := ⟨Nat.le_refl _, Nat.le_refl _⟩
  show sk_G X C 3 S d 0 [(0, .ref p0)] []
  unfold fX5_doingLine at hf
  refine sk_aload_n K dX5_doingLine_0 rfl 0 rfl ?_
  obtain ⟨v1, e2, hf⟩ := sk_ob hf
  refine sk_getR K dX5_doingLine_1 fl_X5_12 rfl e2 ?_
  obtain ⟨v3, e4, hf⟩ := sk_ob hf
  refine sk_getI K dX5_doingLine_4 fl_X5_149 rfl e4 ?_
  refine sk_bipush (8 : Int32) K dX5_doingLine_7 (by decide) ?_
  refine sk_icmp_lt 18 K dX5_doingLine_9 (by decide) (fun h5 => ?_) (fun h5 => ?_)
  · rw [if_pos h5] at hf
    refine sk_aload_n K dX5_doingLine_18 rfl 0 rfl ?_
    obtain ⟨h9, hf⟩ := sk_ib hf
    obtain ⟨d8, e7, hf⟩ := sk_ob hf
    refine sk_callV (As := []) (st := []) K dX5_doingLine_19 cl_X5_100 h9 (sX5_next C l e7) (by decide) rfl rfl (Nat.le_of_ble_eq_true rfl) R1 R2 ?_
    refine sk_aload_n K dX5_doingLine_22 rfl 0 rfl ?_
    refine sk_iconst (3 : Int32) K dX5_doingLine_23 (by decide) ?_
    obtain ⟨h13, hf⟩ := sk_ib hf
    obtain ⟨d12, e11, hf⟩ := sk_ob hf
    refine sk_callV (As := [.int (3 : Int32)]) (st := []) K dX5_doingLine_24 cl_X5_107 h13 (sX5_expect C l e11) (by decide) rfl rfl (Nat.le_of_ble_eq_true rfl) R1 R2 ?_
    refine sk_aload_n K dX5_doingLine_27 rfl 0 rfl ?_
    obtain ⟨v14, e15, hf⟩ := sk_ob hf
    refine sk_getR K dX5_doingLine_28 fl_X5_12 rfl e15 ?_
    obtain ⟨v16, e17, hf⟩ := sk_ob hf
    refine sk_getI K dX5_doingLine_31 fl_X5_149 rfl e17 ?_
    refine sk_istore_n [(1, .int v16), (0, .ref p0)] K dX5_doingLine_34 rfl (by decide) rfl ?_
    refine sk_aload_n K dX5_doingLine_35 rfl 1 rfl ?_
    obtain ⟨v18, e19, hf⟩ := sk_ob hf
    refine sk_getR K dX5_doingLine_36 fl_X5_12 rfl e19 ?_
    obtain ⟨h23, hf⟩ := sk_ib hf
    obtain ⟨d22, e21, hf⟩ := sk_ob hf
    refine sk_callV (As := []) (st := []) K dX5_doingLine_39 cl_X5_152 h23 (sX2_addDoing C l e21) (by decide) rfl rfl (Nat.le_of_ble_eq_true rfl) R1 R2 ?_
    refine sk_aload_n K dX5_doingLine_42 rfl 1 rfl ?_
    obtain ⟨v24, e25, hf⟩ := sk_ob hf
    refine sk_getR K dX5_doingLine_43 fl_X5_12 rfl e25 ?_
    obtain ⟨v26, e27, hf⟩ := sk_ob hf
    refine sk_getR K dX5_doingLine_46 fl_X5_155 rfl e27 ?_
    refine sk_iload_n K dX5_doingLine_49 rfl 0 rfl ?_
    refine sk_aload_n K dX5_doingLine_50 rfl 1 rfl ?_
    refine sk_iconst (1 : Int32) K dX5_doingLine_51 (by decide) ?_
    refine sk_bipush (9 : Int32) K dX5_doingLine_52 (by decide) ?_
    obtain ⟨h31, hf⟩ := sk_ib hf
    obtain ⟨⟨v28, d30⟩, e29, hf⟩ := sk_ob hf
    try dsimp only at hf
    refine sk_callV (As := [.int (1 : Int32), .int (9 : Int32)]) (st := [.int v16, .ref v26]) K dX5_doingLine_54 cl_X5_110 h31 (sX5_number C l e29) (by decide) rfl rfl (Nat.le_of_ble_eq_true rfl) R1 R2 ?_
    obtain ⟨d33, e34, hf⟩ := sk_ob hf
    refine sk_ast20 d33 K dX5_doingLine_57 e34 ?_
    refine sk_iconst (0 : Int32) K dX5_doingLine_58 (by decide) ?_
    refine sk_istore_n [(2, .int (0 : Int32)), (1, .int v16), (0, .ref p0)] K dX5_doingLine_59 rfl (by decide) rfl ?_
    obtain ⟨x1, he1, hf⟩ := sk_ob hf
    have hret1 : ∀ r, r = x1 → r = dd := by
      intro r hr
      subst hr
      exact Option.some.inj hf
    refine sk_sub [(0, .ref p0), (1, .int v16), (2, .int (0 : Int32))] [2, 1, 0] rfl ?_
    refine sk_loop (fun s1 => sk_G X C 3 S s1.2 60 [(0, .ref p0), (1, .int v16), (2, .int s1.1)] []) he1 (fun s1 o1 hf ih1 hx1 => ?_)
    unfold fX5_doingLine_L60 at hf
    refine sk_iload_n K dX5_doingLine_60 rfl 2 rfl ?_
    refine sk_sipush (900 : Int32) K dX5_doingLine_61 (by decide) ?_
    refine sk_icmp_ge 94 K dX5_doingLine_64 (by decide) (fun h35 => ?_) (fun h35 => ?_)
    · rw [if_pos h35] at hf
      have hR36 : s1.2 = dd := hret1 _ (hx1 _ (Option.some.inj hf).symm)
      exact sk_vret K dX5_doingLine_94 rfl rfl rfl hR36
    · rw [if_neg h35] at hf
      refine sk_aload_n K dX5_doingLine_67 rfl 0 rfl ?_
      obtain ⟨v37, e38, hf⟩ := sk_ob hf
      refine sk_getI K dX5_doingLine_68 fl_X5_18 rfl e38 ?_
      refine sk_if_ne 94 K dX5_doingLine_71 (by decide) (fun h39 => ?_) (fun h39 => ?_)
      · rw [if_neg h39] at hf
        have hR40 : s1.2 = dd := hret1 _ (hx1 _ (Option.some.inj hf).symm)
        exact sk_vret K dX5_doingLine_94 rfl rfl rfl hR40
      · rw [if_pos h39] at hf
        refine sk_aload_n K dX5_doingLine_74 rfl 0 rfl ?_
        obtain ⟨h43, hf⟩ := sk_ib hf
        obtain ⟨v41, e42, hf⟩ := sk_ob hf
        refine sk_callV (As := []) (st := []) K dX5_doingLine_75 cl_X5_61 h43 (sX5_kind C l e42) (by decide) rfl rfl (Nat.le_of_ble_eq_true rfl) R1 R2 ?_
        refine sk_bipush (59 : Int32) K dX5_doingLine_78 (by decide) ?_
        refine sk_icmp_eq 94 K dX5_doingLine_80 (by decide) (fun h44 => ?_) (fun h44 => ?_)
        · rw [if_pos h44] at hf
          have hR45 : s1.2 = dd := hret1 _ (hx1 _ (Option.some.inj hf).symm)
          exact sk_vret K dX5_doingLine_94 rfl rfl rfl hR45
        · rw [if_neg h44] at hf
          refine sk_aload_n K dX5_doingLine_83 rfl 0 rfl ?_
          refine sk_iload_n K dX5_doingLine_84 rfl 1 rfl ?_
          obtain ⟨h49, hf⟩ := sk_ib hf
          obtain ⟨d48, e47, hf⟩ := sk_ob hf
          refine sk_callV (As := [.int v16]) (st := []) K dX5_doingLine_85 cl_X5_158 h49 (sX5_flag C l e47) (by decide) rfl rfl (Nat.le_of_ble_eq_true rfl) R1 R2 ?_
          refine sk_iinc (s1.1 + 1) [(2, .int (s1.1 + 1)), (0, .ref p0), (1, .int v16)] K dX5_doingLine_88 2 rfl rfl (by decide) rfl ?_
          refine sk_goto 60 K dX5_doingLine_91 (by decide) ?_
          refine sk_sub [(0, .ref p0), (1, .int v16), (2, .int (s1.1 + 1))] [1, 2, 0] rfl ?_
          have h9 := ih1 _ (Option.some.inj hf).symm
          exact h9
  · rw [if_neg h5] at hf
    refine sk_aload_n K dX5_doingLine_12 rfl 0 rfl ?_
    refine sk_iconst (4 : Int32) K dX5_doingLine_13 (by decide) ?_
    obtain ⟨h53, hf⟩ := sk_ib hf
    obtain ⟨d52, e51, hf⟩ := sk_ob hf
    refine sk_callV (As := [.int (4 : Int32)]) (st := []) K dX5_doingLine_14 cl_X5_103 h53 (sX5_fail C l e51) (by decide) rfl rfl (Nat.le_of_ble_eq_true rfl) R1 R2 ?_
    have hR54 : d52 = dd := Option.some.inj hf
    exact sk_vret K dX5_doingLine_17 rfl rfl rfl hR54
noncomputable def fX5_doorLine (S : sk_S) (d : sk_D) (p0 : Nat) : Option (sk_D) :=
  (sk_gR S p0 5 0).bind fun v1 => (sk_gI S d v1 2 2).bind fun v3 => if v3 < (8 : Int32) then (if S.2.1 p0 = (5, 0) then ((fX5_next S d p0).bind fun d8 => (sk_gR S p0 5 0).bind fun v10 => if S.2.1 p0 = (5, 0) then ((fX5_number S d8 p0 (0 : Int32) (9 : Int32)).bind fun b16 => if S.2.1 v10 = (2, 0) then ((fX2_addDoor S b16.2 v10 b16.1).bind fun d19 => some d19) else none) else none) else none) else (if S.2.1 p0 = (5, 0) then ((fX5_fail S d p0 (4 : Int32)).bind fun d24 => some d24) else none)
set_option maxRecDepth 100000 in
set_option maxHeartbeats 4000000 in
theorem sX5_doorLine (C : sk_C) (l : Launch) {S : sk_S} {d : sk_D} {p0 : Nat} {dd : sk_D} (hf : fX5_doorLine S d p0 = some dd) : sk_Met C l 2 yX5_doorLine cX5_doorLine 1 none [.ref p0] S d none S dd := by
  refine sk_Met.of (by decide) (Nat.le_of_ble_eq_true rfl) (Nat.le_refl _) (Nat.le_refl _) (fun X K0 hX => ?_)
  have K : sk_Ok X C cX5_doorLine 1 RX5 "doorLine" none 2 l none S dd := K0
  have R1 : X.2.2.2.2.2.2.2.2.2.2.2.1 ≤ S.1.1 ∧ X.2.2.2.2.2.2.2.2.2.2.2.2 ≤ S.1.2 := by rw [hX]; exact ⟨Nat.le_refl _, Nat.le_refl _⟩
  have R2 : S.1.1 ≤ S.1.1 ∧ S.1.2 ≤ S.1.2 := ⟨Nat.le_refl _, Nat.le_refl _⟩
  show sk_G X C 1 S d 0 [(0, .ref p0)] []
  unfold fX5_doorLine at hf
  refine sk_aload_n K dX5_doorLine_0 rfl 0 rfl ?_
  obtain ⟨v1, e2, hf⟩ := sk_ob hf
  refine sk_getR K dX5_doorLine_1 fl_X5_12 rfl e2 ?_
  obtain ⟨v3, e4, hf⟩ := sk_ob hf
  refine sk_getI K dX5_doorLine_4 fl_X5_180 rfl e4 ?_
  refine sk_bipush (8 : Int32) K dX5_doorLine_7 (by decide) ?_
  refine sk_icmp_lt 18 K dX5_doorLine_9 (by decide) (fun h5 => ?_) (fun h5 => ?_)
  · rw [if_pos h5] at hf
    refine sk_aload_n K dX5_doorLine_18 rfl 0 rfl ?_
    obtain ⟨h9, hf⟩ := sk_ib hf
    obtain ⟨d8, e7, hf⟩ := sk_ob hf
    refine sk_callV (As := []) (st := []) K dX5_doorLine_19 cl_X5_100 h9 (sX5_next C l e7) (by decide) rfl rfl (Nat.le_of_ble_eq_true rfl) R1 R2 ?_
    refine sk_aload_n K dX5_doorLine_22 rfl 0 rfl ?_
    obtain ⟨v10, e11, hf⟩ := sk_ob hf
    refine sk_getR K dX5_doorLine_23 fl_X5_12 rfl e11 ?_
    refine sk_aload_n K dX5_doorLine_26 rfl 0 rfl ?_
    refine sk_iconst (0 : Int32) K dX5_doorLine_27 (by decide) ?_
    refine sk_bipush (9 : Int32) K dX5_doorLine_28 (by decide) ?_
    obtain ⟨h15, hf⟩ := sk_ib hf
    obtain ⟨⟨v12, d14⟩, e13, hf⟩ := sk_ob hf
    try dsimp only at hf
    refine sk_callV (As := [.int (0 : Int32), .int (9 : Int32)]) (st := [.ref v10]) K dX5_doorLine_30 cl_X5_110 h15 (sX5_number C l e13) (by decide) rfl rfl (Nat.le_of_ble_eq_true rfl) R1 R2 ?_
    obtain ⟨h20, hf⟩ := sk_ib hf
    obtain ⟨d19, e18, hf⟩ := sk_ob hf
    refine sk_callV (As := [.int v12]) (st := []) K dX5_doorLine_33 cl_X5_183 h20 (sX2_addDoor C l e18) (by decide) rfl rfl (Nat.le_of_ble_eq_true rfl) R1 R2 ?_
    have hR21 : d19 = dd := Option.some.inj hf
    exact sk_vret K dX5_doorLine_36 rfl rfl rfl hR21
  · rw [if_neg h5] at hf
    refine sk_aload_n K dX5_doorLine_12 rfl 0 rfl ?_
    refine sk_iconst (4 : Int32) K dX5_doorLine_13 (by decide) ?_
    obtain ⟨h25, hf⟩ := sk_ib hf
    obtain ⟨d24, e23, hf⟩ := sk_ob hf
    refine sk_callV (As := [.int (4 : Int32)]) (st := []) K dX5_doorLine_14 cl_X5_103 h25 (sX5_fail C l e23) (by decide) rfl rfl (Nat.le_of_ble_eq_true rfl) R1 R2 ?_
    have hR26 : d24 = dd := Option.some.inj hf
    exact sk_vret K dX5_doorLine_17 rfl rfl rfl hR26
noncomputable def fX5_clashPair_J43 (S : sk_S) (p0 : Nat) (v1 : Int32) (d2 : sk_D) : Option (sk_D) :=
  (sk_gR S p0 5 0).bind fun v3 => (sk_gR S p0 5 0).bind fun v5 => (sk_gI S d2 v5 2 1).bind fun v7 => if S.2.1 p0 = (5, 0) then ((fX5_number S d2 p0 (0 : Int32) (v7 - (1 : Int32))).bind fun b13 => if S.2.1 v3 = (2, 0) then ((fX2_addClash S b13.2 v3 v1 b13.1).bind fun d16 => some d16) else none) else none
noncomputable def fX5_clashPair (S : sk_S) (d : sk_D) (p0 : Nat) : Option (sk_D) :=
  (sk_gR S p0 5 0).bind fun v19 => (sk_gI S d v19 2 1).bind fun v21 => if S.2.1 p0 = (5, 0) then ((fX5_number S d p0 (0 : Int32) (v21 - (1 : Int32))).bind fun b27 => if S.2.1 p0 = (5, 0) then ((fX5_kind S b27.2 p0).bind fun v28 => if v28 = (200 : Int32) then ((sk_gR S p0 5 5).bind fun v32 => (sk_gI S b27.2 p0 5 7).bind fun v34 => (sk_lI S b27.2 v32 20 v34).bind fun v36 => if v36 = b27.1 then (if S.2.1 p0 = (5, 0) then ((fX5_fail S b27.2 p0 (3 : Int32)).bind fun d41 => fX5_clashPair_J43 S p0 b27.1 d41) else none) else (fX5_clashPair_J43 S p0 b27.1 b27.2)) else (fX5_clashPair_J43 S p0 b27.1 b27.2)) else none) else none
set_option maxRecDepth 100000 in
set_option maxHeartbeats 4000000 in
theorem sX5_clashPair (C : sk_C) (l : Launch) {S : sk_S} {d : sk_D} {p0 : Nat} {dd : sk_D} (hf : fX5_clashPair S d p0 = some dd) : sk_Met C l 2 yX5_clashPair cX5_clashPair 2 none [.ref p0] S d none S dd := by
  refine sk_Met.of (by decide) (Nat.le_of_ble_eq_true rfl) (Nat.le_refl _) (Nat.le_refl _) (fun X K0 hX => ?_)
  have K : sk_Ok X C cX5_clashPair 2 RX5 "clashPair" none 2 l none S dd := K0
  have R1 : X.2.2.2.2.2.2.2.2.2.2.2.1 ≤ S.1.1 ∧ X.2.2.2.2.2.2.2.2.2.2.2.2 ≤ S.1.2 := by rw [hX]; exact ⟨Nat.le_refl _, Nat.le_refl _⟩
  have R2 : S.1.1 ≤ S.1.1 ∧ S.1.2 ≤ S.1.2 := ⟨Nat.le_refl _, Nat.le_refl _⟩
  show sk_G X C 2 S d 0 [(0, .ref p0)] []
  unfold fX5_clashPair at hf
  have j43_0 : ∀ (v1 : Int32) (d2 : sk_D), fX5_clashPair_J43 S p0 v1 d2 = some dd → sk_G X C 2 S d2 43 [(0, .ref p0), (1, .int v1)] [] := by
    intro v1 d2 hf
    unfold fX5_clashPair_J43 at hf
    refine sk_aload_n K dX5_clashPair_43 rfl 0 rfl ?_
    obtain ⟨v3, e4, hf⟩ := sk_ob hf
    refine sk_getR K dX5_clashPair_44 fl_X5_12 rfl e4 ?_
    refine sk_iload_n K dX5_clashPair_47 rfl 1 rfl ?_
    refine sk_aload_n K dX5_clashPair_48 rfl 0 rfl ?_
    refine sk_iconst (0 : Int32) K dX5_clashPair_49 (by decide) ?_
    refine sk_aload_n K dX5_clashPair_50 rfl 0 rfl ?_
    obtain ⟨v5, e6, hf⟩ := sk_ob hf
    refine sk_getR K dX5_clashPair_51 fl_X5_12 rfl e6 ?_
    obtain ⟨v7, e8, hf⟩ := sk_ob hf
    refine sk_getI K dX5_clashPair_54 fl_X5_149 rfl e8 ?_
    refine sk_iconst (1 : Int32) K dX5_clashPair_57 (by decide) ?_
    refine sk_isub K dX5_clashPair_58 ?_
    obtain ⟨h12, hf⟩ := sk_ib hf
    obtain ⟨⟨v9, d11⟩, e10, hf⟩ := sk_ob hf
    try dsimp only at hf
    refine sk_callV (As := [.int (0 : Int32), .int (v7 - (1 : Int32))]) (st := [.int v1, .ref v3]) K dX5_clashPair_59 cl_X5_110 h12 (sX5_number C l e10) (by decide) rfl rfl (Nat.le_of_ble_eq_true rfl) R1 R2 ?_
    obtain ⟨h17, hf⟩ := sk_ib hf
    obtain ⟨d16, e15, hf⟩ := sk_ob hf
    refine sk_callV (As := [.int v1, .int v9]) (st := []) K dX5_clashPair_62 cl_X5_186 h17 (sX2_addClash C l e15) (by decide) rfl rfl (Nat.le_of_ble_eq_true rfl) R1 R2 ?_
    have hR18 : d16 = dd := Option.some.inj hf
    exact sk_vret K dX5_clashPair_65 rfl rfl rfl hR18
  refine sk_aload_n K dX5_clashPair_0 rfl 0 rfl ?_
  refine sk_iconst (0 : Int32) K dX5_clashPair_1 (by decide) ?_
  refine sk_aload_n K dX5_clashPair_2 rfl 0 rfl ?_
  obtain ⟨v19, e20, hf⟩ := sk_ob hf
  refine sk_getR K dX5_clashPair_3 fl_X5_12 rfl e20 ?_
  obtain ⟨v21, e22, hf⟩ := sk_ob hf
  refine sk_getI K dX5_clashPair_6 fl_X5_149 rfl e22 ?_
  refine sk_iconst (1 : Int32) K dX5_clashPair_9 (by decide) ?_
  refine sk_isub K dX5_clashPair_10 ?_
  obtain ⟨h26, hf⟩ := sk_ib hf
  obtain ⟨⟨v23, d25⟩, e24, hf⟩ := sk_ob hf
  try dsimp only at hf
  refine sk_callV (As := [.int (0 : Int32), .int (v21 - (1 : Int32))]) (st := []) K dX5_clashPair_11 cl_X5_110 h26 (sX5_number C l e24) (by decide) rfl rfl (Nat.le_of_ble_eq_true rfl) R1 R2 ?_
  refine sk_istore_n [(1, .int v23), (0, .ref p0)] K dX5_clashPair_14 rfl (by decide) rfl ?_
  refine sk_aload_n K dX5_clashPair_15 rfl 1 rfl ?_
  obtain ⟨h30, hf⟩ := sk_ib hf
  obtain ⟨v28, e29, hf⟩ := sk_ob hf
  refine sk_callV (As := []) (st := []) K dX5_clashPair_16 cl_X5_61 h30 (sX5_kind C l e29) (by decide) rfl rfl (Nat.le_of_ble_eq_true rfl) R1 R2 ?_
  refine sk_sipush (200 : Int32) K dX5_clashPair_19 (by decide) ?_
  refine sk_icmp_ne 43 K dX5_clashPair_22 (by decide) (fun h31 => ?_) (fun h31 => ?_)
  · rw [if_neg h31] at hf
    refine sk_sub [(0, .ref p0), (1, .int v23)] [1, 0] rfl ?_
    have h9 := j43_0 _ _ hf
    exact h9
  · rw [if_pos h31] at hf
    refine sk_aload_n K dX5_clashPair_25 rfl 1 rfl ?_
    obtain ⟨v32, e33, hf⟩ := sk_ob hf
    refine sk_getR K dX5_clashPair_26 fl_X5_32 rfl e33 ?_
    refine sk_aload_n K dX5_clashPair_29 rfl 1 rfl ?_
    obtain ⟨v34, e35, hf⟩ := sk_ob hf
    refine sk_getI K dX5_clashPair_30 fl_X5_38 rfl e35 ?_
    obtain ⟨v36, e37, hf⟩ := sk_ob hf
    refine sk_ald20 K dX5_clashPair_33 e37 ?_
    refine sk_iload_n K dX5_clashPair_34 rfl 0 rfl ?_
    refine sk_icmp_ne 43 K dX5_clashPair_35 (by decide) (fun h38 => ?_) (fun h38 => ?_)
    · rw [if_neg h38] at hf
      refine sk_sub [(0, .ref p0), (1, .int v23)] [1, 0] rfl ?_
      have h9 := j43_0 _ _ hf
      exact h9
    · rw [if_pos h38] at hf
      refine sk_aload_n K dX5_clashPair_38 rfl 1 rfl ?_
      refine sk_iconst (3 : Int32) K dX5_clashPair_39 (by decide) ?_
      obtain ⟨h42, hf⟩ := sk_ib hf
      obtain ⟨d41, e40, hf⟩ := sk_ob hf
      refine sk_callV (As := [.int (3 : Int32)]) (st := []) K dX5_clashPair_40 cl_X5_103 h42 (sX5_fail C l e40) (by decide) rfl rfl (Nat.le_of_ble_eq_true rfl) R1 R2 ?_
      refine sk_sub [(0, .ref p0), (1, .int v23)] [1, 0] rfl ?_
      have h9 := j43_0 _ _ hf
      exact h9
noncomputable def fX5_lawBegins (S : sk_S) (d : sk_D) (p0 : Nat) (p1 : Nat) (p2 : Bool) : Option (sk_D) :=
  (sk_pI S d p0 5 8 (sk_b p2)).bind fun d1 => if S.2.1 p0 = (5, 0) then ((fX5_next S d1 p0).bind fun d5 => if S.2.1 p0 = (5, 0) then ((fX5_expect S d5 p0 (58 : Int32)).bind fun d9 => if S.2.1 p1 = (1, 0) then ((fX1_clear S d9 p1).bind fun d13 => some d13) else none) else none) else none
set_option maxRecDepth 100000 in
set_option maxHeartbeats 4000000 in
theorem sX5_lawBegins (C : sk_C) (l : Launch) {S : sk_S} {d : sk_D} {p0 : Nat} {p1 : Nat} {p2 : Bool} {dd : sk_D} (hf : fX5_lawBegins S d p0 p1 p2 = some dd) : sk_Met C l 2 yX5_lawBegins cX5_lawBegins 3 none [.ref p0, .ref p1, .int (sk_b p2)] S d none S dd := by
  refine sk_Met.of (by decide) (Nat.le_of_ble_eq_true rfl) (Nat.le_refl _) (Nat.le_refl _) (fun X K0 hX => ?_)
  have K : sk_Ok X C cX5_lawBegins 3 RX5 "lawBegins" none 2 l none S dd := K0
  have R1 : X.2.2.2.2.2.2.2.2.2.2.2.1 ≤ S.1.1 ∧ X.2.2.2.2.2.2.2.2.2.2.2.2 ≤ S.1.2 := by rw [hX]; exact ⟨Nat.le_refl _, Nat.le_refl _⟩
  have R2 : S.1.1 ≤ S.1.1 ∧ S.1.2 ≤ S.1.2 := ⟨Nat.le_refl _, Nat.le_refl _⟩
  show sk_G X C 3 S d 0 [(0, .ref p0), (1, .ref p1), (2, .int (sk_b p2))] []
  unfold fX5_lawBegins at hf
  refine sk_aload_n K dX5_lawBegins_0 rfl 0 rfl ?_
  refine sk_iload_n K dX5_lawBegins_1 rfl 2 rfl ?_
  obtain ⟨d1, e2, hf⟩ := sk_ob hf
  refine sk_putI d1 K dX5_lawBegins_2 fl_X5_41 rfl (sk_narB p2).1 (sk_narB p2).2 e2 ?_
  refine sk_aload_n K dX5_lawBegins_5 rfl 0 rfl ?_
  obtain ⟨h6, hf⟩ := sk_ib hf
  obtain ⟨d5, e4, hf⟩ := sk_ob hf
  refine sk_callV (As := []) (st := []) K dX5_lawBegins_6 cl_X5_100 h6 (sX5_next C l e4) (by decide) rfl rfl (Nat.le_of_ble_eq_true rfl) R1 R2 ?_
  refine sk_aload_n K dX5_lawBegins_9 rfl 0 rfl ?_
  refine sk_bipush (58 : Int32) K dX5_lawBegins_10 (by decide) ?_
  obtain ⟨h10, hf⟩ := sk_ib hf
  obtain ⟨d9, e8, hf⟩ := sk_ob hf
  refine sk_callV (As := [.int (58 : Int32)]) (st := []) K dX5_lawBegins_12 cl_X5_107 h10 (sX5_expect C l e8) (by decide) rfl rfl (Nat.le_of_ble_eq_true rfl) R1 R2 ?_
  refine sk_aload_n K dX5_lawBegins_15 rfl 1 rfl ?_
  obtain ⟨h14, hf⟩ := sk_ib hf
  obtain ⟨d13, e12, hf⟩ := sk_ob hf
  refine sk_callV (As := []) (st := []) K dX5_lawBegins_16 cl_X5_190 h14 (sX1_clear C l e12) (by decide) rfl rfl (Nat.le_of_ble_eq_true rfl) R1 R2 ?_
  have hR15 : d13 = dd := Option.some.inj hf
  exact sk_vret K dX5_lawBegins_19 rfl rfl rfl hR15
noncomputable def fX5_stepOf (S : sk_S) (d : sk_D) (p0 : Int32) : Option (Int32) :=
  if p0 = (2 : Int32) then (some (-1 : Int32)) else (if p0 = (3 : Int32) then (some (-2 : Int32)) else (if p0 = (4 : Int32) then (some (-3 : Int32)) else (if p0 = (5 : Int32) then (some (-4 : Int32)) else (if p0 = (6 : Int32) then (some (-5 : Int32)) else (if p0 = (7 : Int32) then (some (-6 : Int32)) else (some (0 : Int32)))))))
set_option maxRecDepth 100000 in
set_option maxHeartbeats 4000000 in
theorem sX5_stepOf (C : sk_C) (l : Launch) {S : sk_S} {d : sk_D} {p0 : Int32} {rr : Int32} (hf : fX5_stepOf S d p0 = some rr) : sk_Met C l 0 yX5_stepOf cX5_stepOf 1 (some .int) [.int p0] S d (some (.int rr)) S d := by
  refine sk_Met.of (by decide) (Nat.le_of_ble_eq_true rfl) (Nat.le_refl _) (Nat.le_refl _) (fun X K0 hX => ?_)
  have K : sk_Ok X C cX5_stepOf 1 RX5 "stepOf" (some .int) 0 l (some (.int rr)) S d := K0
  have R1 : X.2.2.2.2.2.2.2.2.2.2.2.1 ≤ S.1.1 ∧ X.2.2.2.2.2.2.2.2.2.2.2.2 ≤ S.1.2 := by rw [hX]; exact ⟨Nat.le_refl _, Nat.le_refl _⟩
  have R2 : S.1.1 ≤ S.1.1 ∧ S.1.2 ≤ S.1.2 := ⟨Nat.le_refl _, Nat.le_refl _⟩
  show sk_G X C 1 S d 0 [(0, .int p0)] []
  unfold fX5_stepOf at hf
  refine sk_iload_n K dX5_stepOf_0 rfl 0 rfl ?_
  by_cases h1 : p0 = (2 : Int32)
  · rw [if_pos h1] at hf
    refine sk_tsIn (2 : Int32) (39) 40 K dX5_stepOf_1 h1 (by decide) (by decide) rfl (by decide) ?_
    refine sk_iconst (-1 : Int32) K dX5_stepOf_40 (by decide) ?_
    have hR2 : (-1 : Int32) = rr := Option.some.inj hf
    exact sk_iret K dX5_stepOf_41 rfl rfl hR2 rfl rfl
  · rw [if_neg h1] at hf
    by_cases h3 : p0 = (3 : Int32)
    · rw [if_pos h3] at hf
      refine sk_tsIn (3 : Int32) (41) 42 K dX5_stepOf_1 h3 (by decide) (by decide) rfl (by decide) ?_
      refine sk_bipush (-2 : Int32) K dX5_stepOf_42 (by decide) ?_
      have hR4 : (-2 : Int32) = rr := Option.some.inj hf
      exact sk_iret K dX5_stepOf_44 rfl rfl hR4 rfl rfl
    · rw [if_neg h3] at hf
      by_cases h5 : p0 = (4 : Int32)
      · rw [if_pos h5] at hf
        refine sk_tsIn (4 : Int32) (44) 45 K dX5_stepOf_1 h5 (by decide) (by decide) rfl (by decide) ?_
        refine sk_bipush (-3 : Int32) K dX5_stepOf_45 (by decide) ?_
        have hR6 : (-3 : Int32) = rr := Option.some.inj hf
        exact sk_iret K dX5_stepOf_47 rfl rfl hR6 rfl rfl
      · rw [if_neg h5] at hf
        by_cases h7 : p0 = (5 : Int32)
        · rw [if_pos h7] at hf
          refine sk_tsIn (5 : Int32) (47) 48 K dX5_stepOf_1 h7 (by decide) (by decide) rfl (by decide) ?_
          refine sk_bipush (-4 : Int32) K dX5_stepOf_48 (by decide) ?_
          have hR8 : (-4 : Int32) = rr := Option.some.inj hf
          exact sk_iret K dX5_stepOf_50 rfl rfl hR8 rfl rfl
        · rw [if_neg h7] at hf
          by_cases h9 : p0 = (6 : Int32)
          · rw [if_pos h9] at hf
            refine sk_tsIn (6 : Int32) (50) 51 K dX5_stepOf_1 h9 (by decide) (by decide) rfl (by decide) ?_
            refine sk_bipush (-5 : Int32) K dX5_stepOf_51 (by decide) ?_
            have hR10 : (-5 : Int32) = rr := Option.some.inj hf
            exact sk_iret K dX5_stepOf_53 rfl rfl hR10 rfl rfl
          · rw [if_neg h9] at hf
            by_cases h11 : p0 = (7 : Int32)
            · rw [if_pos h11] at hf
              refine sk_tsIn (7 : Int32) (53) 54 K dX5_stepOf_1 h11 (by decide) (by decide) rfl (by decide) ?_
              refine sk_bipush (-6 : Int32) K dX5_stepOf_54 (by decide) ?_
              have hR12 : (-6 : Int32) = rr := Option.some.inj hf
              exact sk_iret K dX5_stepOf_56 rfl rfl hR12 rfl rfl
            · rw [if_neg h11] at hf
              refine sk_tsOut 57 K dX5_stepOf_1 (sk_tsout (2) 6 [(2 : Int32), (3 : Int32), (4 : Int32), (5 : Int32), (6 : Int32), (7 : Int32)] (by decide) (by simp [h1, h3, h5, h7, h9, h11])) (by decide) ?_
              refine sk_iconst (0 : Int32) K dX5_stepOf_57 (by decide) ?_
              have hR13 : (0 : Int32) = rr := Option.some.inj hf
              exact sk_iret K dX5_stepOf_58 rfl rfl hR13 rfl rfl
noncomputable def fX5_truth_L8 (rec : Nat → sk_D → Nat → Nat → Int32 → Option sk_D) (S : sk_S) (p0 : Nat) (p1 : Nat) (p2 : Int32) (s1 : Int32 × sk_D) : Option ((Int32 × sk_D) ⊕ (sk_D)) :=
  if (900 : Int32) ≤ s1.1 then (some (.inr s1.2)) else (if S.2.1 p0 = (5, 0) then ((fX5_kind S s1.2 p0).bind fun v7 => if v7 = (16 : Int32) then (if S.2.1 p0 = (5, 0) then ((fX5_next S s1.2 p0).bind fun d14 => if S.2.1 p0 = (5, 0) then ((rec 1 d14 p0 p1 p2).bind fun d18 => if S.2.1 p1 = (1, 0) then ((fX1_step S d18 p1 (-14 : Int32)).bind fun d22 => some (.inl (s1.1 + 1, d22))) else none) else none) else none) else (some (.inr s1.2))) else none)
noncomputable def fX5_truth_o (rec : Nat → sk_D → Nat → Nat → Int32 → Option sk_D) (S : sk_S) (d : sk_D) (p0 : Nat) (p1 : Nat) (p2 : Int32) : Option (sk_D) :=
  if S.2.1 p0 = (5, 0) then ((rec 1 d p0 p1 p2).bind fun d3 => (sk_itr (fX5_truth_L8 rec S p0 p1 p2) ((0 : Int32), d3)).bind fun x1 => some x1) else none
noncomputable def fX5_both_L8 (rec : Nat → sk_D → Nat → Nat → Int32 → Option sk_D) (S : sk_S) (p0 : Nat) (p1 : Nat) (p2 : Int32) (s1 : Int32 × sk_D) : Option ((Int32 × sk_D) ⊕ (sk_D)) :=
  if (900 : Int32) ≤ s1.1 then (some (.inr s1.2)) else (if S.2.1 p0 = (5, 0) then ((fX5_kind S s1.2 p0).bind fun v7 => if v7 = (17 : Int32) then (if S.2.1 p0 = (5, 0) then ((fX5_next S s1.2 p0).bind fun d14 => if S.2.1 p0 = (5, 0) then ((rec 2 d14 p0 p1 p2).bind fun d18 => if S.2.1 p1 = (1, 0) then ((fX1_step S d18 p1 (-13 : Int32)).bind fun d22 => some (.inl (s1.1 + 1, d22))) else none) else none) else none) else (some (.inr s1.2))) else none)
noncomputable def fX5_both_o (rec : Nat → sk_D → Nat → Nat → Int32 → Option sk_D) (S : sk_S) (d : sk_D) (p0 : Nat) (p1 : Nat) (p2 : Int32) : Option (sk_D) :=
  if S.2.1 p0 = (5, 0) then ((rec 2 d p0 p1 p2).bind fun d3 => (sk_itr (fX5_both_L8 rec S p0 p1 p2) ((0 : Int32), d3)).bind fun x1 => some x1) else none
noncomputable def fX5_unit_J26 (rec : Nat → sk_D → Nat → Nat → Int32 → Option sk_D) (S : sk_S) (p0 : Nat) (p1 : Nat) (p2 : Int32) (v1 : Int32) (d2 : sk_D) : Option (sk_D) :=
  if p2 < (6 : Int32) then (if v1 = (18 : Int32) then (if S.2.1 p0 = (5, 0) then ((rec 8 d2 p0 p1 p2).bind fun d20 => some d20) else none) else (if S.2.1 p0 = (5, 0) then ((fX5_next S d2 p0).bind fun d7 => if S.2.1 p0 = (5, 0) then ((rec 0 d7 p0 p1 (p2 + (1 : Int32))).bind fun d11 => if S.2.1 p0 = (5, 0) then ((fX5_expect S d11 p0 (93 : Int32)).bind fun d15 => some d15) else none) else none) else none)) else (if S.2.1 p0 = (5, 0) then ((fX5_fail S d2 p0 (4 : Int32)).bind fun d25 => some d25) else none)
noncomputable def fX5_unit_o (rec : Nat → sk_D → Nat → Nat → Int32 → Option sk_D) (S : sk_S) (d : sk_D) (p0 : Nat) (p1 : Nat) (p2 : Int32) : Option (sk_D) :=
  if S.2.1 p0 = (5, 0) then ((fX5_kind S d p0).bind fun v28 => if v28 = (18 : Int32) then (fX5_unit_J26 rec S p0 p1 p2 v28 d) else (if v28 = (91 : Int32) then (fX5_unit_J26 rec S p0 p1 p2 v28 d) else (if S.2.1 p0 = (5, 0) then ((rec 3 d p0 p1 p2).bind fun d35 => some d35) else none))) else none
noncomputable def fX5_compared_J70 (S : sk_S) (v1 : Nat) (v2 : Int32) (d3 : sk_D) : Option (sk_D) :=
  if S.2.1 v1 = (1, 0) then ((fX1_step S d3 v1 v2).bind fun d6 => some d6) else none
noncomputable def fX5_compared_J35 (rec : Nat → sk_D → Nat → Nat → Int32 → Option sk_D) (S : sk_S) (p0 : Nat) (p1 : Nat) (p2 : Int32) (v9 : Int32) (d10 : sk_D) : Option (sk_D) :=
  if S.2.1 p0 = (5, 0) then ((fX5_next S d10 p0).bind fun d13 => if S.2.1 p0 = (5, 0) then ((rec 4 d13 p0 p1 p2).bind fun d17 => if v9 = (61 : Int32) then (fX5_compared_J70 S p1 (-10 : Int32) d17) else (if v9 = (60 : Int32) then (fX5_compared_J70 S p1 (-11 : Int32) d17) else (fX5_compared_J70 S p1 (-12 : Int32) d17))) else none) else none
noncomputable def fX5_compared_o (rec : Nat → sk_D → Nat → Nat → Int32 → Option sk_D) (S : sk_S) (d : sk_D) (p0 : Nat) (p1 : Nat) (p2 : Int32) : Option (sk_D) :=
  if S.2.1 p0 = (5, 0) then ((rec 4 d p0 p1 p2).bind fun d23 => if S.2.1 p0 = (5, 0) then ((fX5_kind S d23 p0).bind fun v25 => if v25 = (61 : Int32) then (fX5_compared_J35 rec S p0 p1 p2 v25 d23) else (if v25 = (60 : Int32) then (fX5_compared_J35 rec S p0 p1 p2 v25 d23) else (if v25 = (62 : Int32) then (fX5_compared_J35 rec S p0 p1 p2 v25 d23) else (if S.2.1 p0 = (5, 0) then ((fX5_fail S d23 p0 (2 : Int32)).bind fun d33 => some d33) else none)))) else none) else none
noncomputable def fX5_sum_J49i8 (rec : Nat → sk_D → Nat → Nat → Int32 → Option sk_D) (S : sk_S) (p0 : Nat) (p1 : Nat) (p2 : Int32) (v5 : Int32) (v6 : Int32) (d7 : sk_D) : Option ((Int32 × sk_D) ⊕ (sk_D)) :=
  if S.2.1 p0 = (5, 0) then ((fX5_next S d7 p0).bind fun d10 => if S.2.1 p0 = (5, 0) then ((rec 5 d10 p0 p1 p2).bind fun d14 => if S.2.1 p1 = (1, 0) then ((fX1_step S d14 p1 v6).bind fun d18 => some (.inl (v5 + 1, d18))) else none) else none) else none
noncomputable def fX5_sum_J33i8 (rec : Nat → sk_D → Nat → Nat → Int32 → Option sk_D) (S : sk_S) (p0 : Nat) (p1 : Nat) (p2 : Int32) (v20 : Int32) (d21 : sk_D) : Option ((Int32 × sk_D) ⊕ (sk_D)) :=
  if S.2.1 p0 = (5, 0) then ((fX5_kind S d21 p0).bind fun v22 => if v22 = (43 : Int32) then (fX5_sum_J49i8 rec S p0 p1 p2 v20 (-7 : Int32) d21) else (fX5_sum_J49i8 rec S p0 p1 p2 v20 (-8 : Int32) d21)) else none
noncomputable def fX5_sum_L8 (rec : Nat → sk_D → Nat → Nat → Int32 → Option sk_D) (S : sk_S) (p0 : Nat) (p1 : Nat) (p2 : Int32) (s1 : Int32 × sk_D) : Option ((Int32 × sk_D) ⊕ (sk_D)) :=
  if (900 : Int32) ≤ s1.1 then (some (.inr s1.2)) else (if S.2.1 p0 = (5, 0) then ((fX5_kind S s1.2 p0).bind fun v28 => if v28 = (43 : Int32) then (fX5_sum_J33i8 rec S p0 p1 p2 s1.1 s1.2) else (if S.2.1 p0 = (5, 0) then ((fX5_kind S s1.2 p0).bind fun v32 => if v32 = (45 : Int32) then (fX5_sum_J33i8 rec S p0 p1 p2 s1.1 s1.2) else (some (.inr s1.2))) else none)) else none)
noncomputable def fX5_sum_o (rec : Nat → sk_D → Nat → Nat → Int32 → Option sk_D) (S : sk_S) (d : sk_D) (p0 : Nat) (p1 : Nat) (p2 : Int32) : Option (sk_D) :=
  if S.2.1 p0 = (5, 0) then ((rec 5 d p0 p1 p2).bind fun d3 => (sk_itr (fX5_sum_L8 rec S p0 p1 p2) ((0 : Int32), d3)).bind fun x1 => some x1) else none
noncomputable def fX5_term_L8 (rec : Nat → sk_D → Nat → Nat → Int32 → Option sk_D) (S : sk_S) (p0 : Nat) (p1 : Nat) (p2 : Int32) (s1 : Int32 × sk_D) : Option ((Int32 × sk_D) ⊕ (sk_D)) :=
  if (900 : Int32) ≤ s1.1 then (some (.inr s1.2)) else (if S.2.1 p0 = (5, 0) then ((fX5_kind S s1.2 p0).bind fun v7 => if v7 = (42 : Int32) then (if S.2.1 p0 = (5, 0) then ((fX5_next S s1.2 p0).bind fun d14 => if S.2.1 p0 = (5, 0) then ((rec 6 d14 p0 p1 p2).bind fun d18 => if S.2.1 p1 = (1, 0) then ((fX1_step S d18 p1 (-9 : Int32)).bind fun d22 => some (.inl (s1.1 + 1, d22))) else none) else none) else none) else (some (.inr s1.2))) else none)
noncomputable def fX5_term_o (rec : Nat → sk_D → Nat → Nat → Int32 → Option sk_D) (S : sk_S) (d : sk_D) (p0 : Nat) (p1 : Nat) (p2 : Int32) : Option (sk_D) :=
  if S.2.1 p0 = (5, 0) then ((rec 6 d p0 p1 p2).bind fun d3 => (sk_itr (fX5_term_L8 rec S p0 p1 p2) ((0 : Int32), d3)).bind fun x1 => some x1) else none
noncomputable def fX5_atom_J70 (S : sk_S) (p0 : Nat) (p1 : Nat) (v1 : Int32) (d2 : sk_D) : Option (sk_D) :=
  if S.2.1 p1 = (1, 0) then ((fX1_step S d2 p1 v1).bind fun d5 => if S.2.1 p0 = (5, 0) then ((fX5_next S d5 p0).bind fun d9 => some d9) else none) else none
noncomputable def fX5_atom_J64 (S : sk_S) (p0 : Nat) (d12 : sk_D) : Option (sk_D) :=
  if S.2.1 p0 = (5, 0) then ((fX5_fail S d12 p0 (2 : Int32)).bind fun d15 => some d15) else none
noncomputable def fX5_atom_o (rec : Nat → sk_D → Nat → Nat → Int32 → Option sk_D) (S : sk_S) (d : sk_D) (p0 : Nat) (p1 : Nat) (p2 : Int32) : Option (sk_D) :=
  if S.2.1 p0 = (5, 0) then ((fX5_kind S d p0).bind fun v18 => if v18 = (200 : Int32) then (if S.2.1 p0 = (5, 0) then ((fX5_number S d p0 (0 : Int32) (999 : Int32)).bind fun b45 => if S.2.1 p1 = (1, 0) then ((fX1_step S b45.2 p1 b45.1).bind fun d48 => some d48) else none) else none) else (if S.2.1 p0 = (5, 0) then ((fX5_kind S d p0).bind fun v22 => if v22 = (40 : Int32) then (if S.2.1 p0 = (5, 0) then ((rec 7 d p0 p1 p2).bind fun d38 => some d38) else none) else (if S.2.1 p0 = (5, 0) then ((fX5_kind S d p0).bind fun v26 => (fX5_stepOf S d v26).bind fun v29 => if v29 = 0 then (fX5_atom_J64 S p0 d) else (if v29 = (-6 : Int32) then ((sk_gI S d p0 5 8).bind fun v33 => if v33 = 0 then (fX5_atom_J64 S p0 d) else (fX5_atom_J70 S p0 p1 v29 d)) else (fX5_atom_J70 S p0 p1 v29 d))) else none)) else none)) else none
noncomputable def fX5_bracketed_o (rec : Nat → sk_D → Nat → Nat → Int32 → Option sk_D) (S : sk_S) (d : sk_D) (p0 : Nat) (p1 : Nat) (p2 : Int32) : Option (sk_D) :=
  if p2 < (6 : Int32) then (if S.2.1 p0 = (5, 0) then ((fX5_next S d p0).bind fun d4 => if S.2.1 p0 = (5, 0) then ((rec 4 d4 p0 p1 (p2 + (1 : Int32))).bind fun d8 => if S.2.1 p0 = (5, 0) then ((fX5_expect S d8 p0 (41 : Int32)).bind fun d12 => some d12) else none) else none) else none) else (if S.2.1 p0 = (5, 0) then ((fX5_fail S d p0 (4 : Int32)).bind fun d17 => some d17) else none)
noncomputable def fX5_negated_o (rec : Nat → sk_D → Nat → Nat → Int32 → Option sk_D) (S : sk_S) (d : sk_D) (p0 : Nat) (p1 : Nat) (p2 : Int32) : Option (sk_D) :=
  if S.2.1 p0 = (5, 0) then ((fX5_next S d p0).bind fun d3 => if S.2.1 p0 = (5, 0) then ((rec 2 d3 p0 p1 (p2 + (1 : Int32))).bind fun d7 => if S.2.1 p1 = (1, 0) then ((fX1_step S d7 p1 (-15 : Int32)).bind fun d11 => some d11) else none) else none) else none
noncomputable def gX5 (S : sk_S) : Nat → Nat → sk_D → Nat → Nat → Int32 → Option sk_D
  | 0 => fun _ _ _ _ _ => none
  | n + 1 => fun t d x0 x1 x2 => match t with
    | 0 => fX5_truth_o (gX5 S n) S d x0 x1 x2
    | 1 => fX5_both_o (gX5 S n) S d x0 x1 x2
    | 2 => fX5_unit_o (gX5 S n) S d x0 x1 x2
    | 3 => fX5_compared_o (gX5 S n) S d x0 x1 x2
    | 4 => fX5_sum_o (gX5 S n) S d x0 x1 x2
    | 5 => fX5_term_o (gX5 S n) S d x0 x1 x2
    | 6 => fX5_atom_o (gX5 S n) S d x0 x1 x2
    | 7 => fX5_bracketed_o (gX5 S n) S d x0 x1 x2
    | _ => fX5_negated_o (gX5 S n) S d x0 x1 x2
def mX5 (C : sk_C) (l : Launch) (S : sk_S) (n : Nat) : Prop := (∀ (d : sk_D) (p0 : Nat) (p1 : Nat) (p2 : Int32) (dd : sk_D), gX5 S n 0 d p0 p1 p2 = some dd → sk_Met C l (2 + n) yX5_truth cX5_truth 4 none [.ref p0, .ref p1, .int p2] S d none S dd) ∧ (∀ (d : sk_D) (p0 : Nat) (p1 : Nat) (p2 : Int32) (dd : sk_D), gX5 S n 1 d p0 p1 p2 = some dd → sk_Met C l (2 + n) yX5_both cX5_both 4 none [.ref p0, .ref p1, .int p2] S d none S dd) ∧ (∀ (d : sk_D) (p0 : Nat) (p1 : Nat) (p2 : Int32) (dd : sk_D), gX5 S n 2 d p0 p1 p2 = some dd → sk_Met C l (2 + n) yX5_unit cX5_unit 4 none [.ref p0, .ref p1, .int p2] S d none S dd) ∧ (∀ (d : sk_D) (p0 : Nat) (p1 : Nat) (p2 : Int32) (dd : sk_D), gX5 S n 3 d p0 p1 p2 = some dd → sk_Met C l (2 + n) yX5_compared cX5_compared 4 none [.ref p0, .ref p1, .int p2] S d none S dd) ∧ (∀ (d : sk_D) (p0 : Nat) (p1 : Nat) (p2 : Int32) (dd : sk_D), gX5 S n 4 d p0 p1 p2 = some dd → sk_Met C l (2 + n) yX5_sum cX5_sum 5 none [.ref p0, .ref p1, .int p2] S d none S dd) ∧ (∀ (d : sk_D) (p0 : Nat) (p1 : Nat) (p2 : Int32) (dd : sk_D), gX5 S n 5 d p0 p1 p2 = some dd → sk_Met C l (2 + n) yX5_term cX5_term 4 none [.ref p0, .ref p1, .int p2] S d none S dd) ∧ (∀ (d : sk_D) (p0 : Nat) (p1 : Nat) (p2 : Int32) (dd : sk_D), gX5 S n 6 d p0 p1 p2 = some dd → sk_Met C l (2 + n) yX5_atom cX5_atom 4 none [.ref p0, .ref p1, .int p2] S d none S dd) ∧ (∀ (d : sk_D) (p0 : Nat) (p1 : Nat) (p2 : Int32) (dd : sk_D), gX5 S n 7 d p0 p1 p2 = some dd → sk_Met C l (2 + n) yX5_bracketed cX5_bracketed 3 none [.ref p0, .ref p1, .int p2] S d none S dd) ∧ (∀ (d : sk_D) (p0 : Nat) (p1 : Nat) (p2 : Int32) (dd : sk_D), gX5 S n 8 d p0 p1 p2 = some dd → sk_Met C l (2 + n) yX5_negated cX5_negated 3 none [.ref p0, .ref p1, .int p2] S d none S dd)
set_option maxRecDepth 100000 in
set_option maxHeartbeats 4000000 in
theorem sX5_truth_o (C : sk_C) (l : Launch) {S : sk_S} (n : Nat) (ih : mX5 C l S n) {d : sk_D} {p0 : Nat} {p1 : Nat} {p2 : Int32} {dd : sk_D} (hf : fX5_truth_o (gX5 S n) S d p0 p1 p2 = some dd) : sk_Met C l (2 + (n + 1)) yX5_truth cX5_truth 4 none [.ref p0, .ref p1, .int p2] S d none S dd := by
  refine sk_Met.of (by decide) (Nat.le_of_ble_eq_true rfl) (Nat.le_refl _) (Nat.le_refl _) (fun X K0 hX => ?_)
  have K : sk_Ok X C cX5_truth 4 RX5 "truth" none (2 + (n + 1)) l none S dd := K0
  have R1 : X.2.2.2.2.2.2.2.2.2.2.2.1 ≤ S.1.1 ∧ X.2.2.2.2.2.2.2.2.2.2.2.2 ≤ S.1.2 := by rw [hX]; exact ⟨Nat.le_refl _, Nat.le_refl _⟩
  have R2 : S.1.1 ≤ S.1.1 ∧ S.1.2 ≤ S.1.2 := ⟨Nat.le_refl _, Nat.le_refl _⟩
  show sk_G X C 4 S d 0 [(0, .ref p0), (1, .ref p1), (2, .int p2)] []
  unfold fX5_truth_o at hf
  refine sk_aload_n K dX5_truth_0 rfl 0 rfl ?_
  refine sk_aload_n K dX5_truth_1 rfl 1 rfl ?_
  refine sk_iload_n K dX5_truth_2 rfl 2 rfl ?_
  obtain ⟨h4, hf⟩ := sk_ib hf
  obtain ⟨d3, e2, hf⟩ := sk_ob hf
  refine sk_callV (As := [.ref p1, .int p2]) (st := []) K dX5_truth_3 cl_X5_193 h4 (ih.2.1 _ _ _ _ _ e2) (by omega) rfl rfl (Nat.le_of_ble_eq_true rfl) R1 R2 ?_
  refine sk_iconst (0 : Int32) K dX5_truth_6 (by decide) ?_
  refine sk_istore_n [(3, .int (0 : Int32)), (0, .ref p0), (1, .ref p1), (2, .int p2)] K dX5_truth_7 rfl (by decide) rfl ?_
  obtain ⟨x1, he1, hf⟩ := sk_ob hf
  have hret1 : ∀ r, r = x1 → r = dd := by
    intro r hr
    subst hr
    exact Option.some.inj hf
  refine sk_sub [(0, .ref p0), (1, .ref p1), (2, .int p2), (3, .int (0 : Int32))] [1, 2, 3, 0] rfl ?_
  refine sk_loop (fun s1 => sk_G X C 4 S s1.2 8 [(0, .ref p0), (1, .ref p1), (2, .int p2), (3, .int s1.1)] []) he1 (fun s1 o1 hf ih1 hx1 => ?_)
  unfold fX5_truth_L8 at hf
  refine sk_iload_n K dX5_truth_8 rfl 3 rfl ?_
  refine sk_sipush (900 : Int32) K dX5_truth_9 (by decide) ?_
  refine sk_icmp_ge 46 K dX5_truth_12 (by decide) (fun h5 => ?_) (fun h5 => ?_)
  · rw [if_pos h5] at hf
    have hR6 : s1.2 = dd := hret1 _ (hx1 _ (Option.some.inj hf).symm)
    exact sk_vret K dX5_truth_46 rfl rfl rfl hR6
  · rw [if_neg h5] at hf
    refine sk_aload_n K dX5_truth_15 rfl 0 rfl ?_
    obtain ⟨h9, hf⟩ := sk_ib hf
    obtain ⟨v7, e8, hf⟩ := sk_ob hf
    refine sk_callV (As := []) (st := []) K dX5_truth_16 cl_X5_61 h9 (sX5_kind C l e8) (by omega) rfl rfl (Nat.le_of_ble_eq_true rfl) R1 R2 ?_
    refine sk_bipush (16 : Int32) K dX5_truth_19 (by decide) ?_
    refine sk_icmp_ne 46 K dX5_truth_21 (by decide) (fun h10 => ?_) (fun h10 => ?_)
    · rw [if_neg h10] at hf
      have hR11 : s1.2 = dd := hret1 _ (hx1 _ (Option.some.inj hf).symm)
      exact sk_vret K dX5_truth_46 rfl rfl rfl hR11
    · rw [if_pos h10] at hf
      refine sk_aload_n K dX5_truth_24 rfl 0 rfl ?_
      obtain ⟨h15, hf⟩ := sk_ib hf
      obtain ⟨d14, e13, hf⟩ := sk_ob hf
      refine sk_callV (As := []) (st := []) K dX5_truth_25 cl_X5_100 h15 (sX5_next C l e13) (by omega) rfl rfl (Nat.le_of_ble_eq_true rfl) R1 R2 ?_
      refine sk_aload_n K dX5_truth_28 rfl 0 rfl ?_
      refine sk_aload_n K dX5_truth_29 rfl 1 rfl ?_
      refine sk_iload_n K dX5_truth_30 rfl 2 rfl ?_
      obtain ⟨h19, hf⟩ := sk_ib hf
      obtain ⟨d18, e17, hf⟩ := sk_ob hf
      refine sk_callV (As := [.ref p1, .int p2]) (st := []) K dX5_truth_31 cl_X5_193 h19 (ih.2.1 _ _ _ _ _ e17) (by omega) rfl rfl (Nat.le_of_ble_eq_true rfl) R1 R2 ?_
      refine sk_aload_n K dX5_truth_34 rfl 1 rfl ?_
      refine sk_bipush (-14 : Int32) K dX5_truth_35 (by decide) ?_
      obtain ⟨h23, hf⟩ := sk_ib hf
      obtain ⟨d22, e21, hf⟩ := sk_ob hf
      refine sk_callV (As := [.int (-14 : Int32)]) (st := []) K dX5_truth_37 cl_X5_196 h23 (sX1_step C l e21) (by omega) rfl rfl (Nat.le_of_ble_eq_true rfl) R1 R2 ?_
      refine sk_iinc (s1.1 + 1) [(3, .int (s1.1 + 1)), (0, .ref p0), (1, .ref p1), (2, .int p2)] K dX5_truth_40 3 rfl rfl (by decide) rfl ?_
      refine sk_goto 8 K dX5_truth_43 (by decide) ?_
      refine sk_sub [(0, .ref p0), (1, .ref p1), (2, .int p2), (3, .int (s1.1 + 1))] [1, 2, 3, 0] rfl ?_
      have h9 := ih1 _ (Option.some.inj hf).symm
      exact h9
set_option maxRecDepth 100000 in
set_option maxHeartbeats 4000000 in
theorem sX5_both_o (C : sk_C) (l : Launch) {S : sk_S} (n : Nat) (ih : mX5 C l S n) {d : sk_D} {p0 : Nat} {p1 : Nat} {p2 : Int32} {dd : sk_D} (hf : fX5_both_o (gX5 S n) S d p0 p1 p2 = some dd) : sk_Met C l (2 + (n + 1)) yX5_both cX5_both 4 none [.ref p0, .ref p1, .int p2] S d none S dd := by
  refine sk_Met.of (by decide) (Nat.le_of_ble_eq_true rfl) (Nat.le_refl _) (Nat.le_refl _) (fun X K0 hX => ?_)
  have K : sk_Ok X C cX5_both 4 RX5 "both" none (2 + (n + 1)) l none S dd := K0
  have R1 : X.2.2.2.2.2.2.2.2.2.2.2.1 ≤ S.1.1 ∧ X.2.2.2.2.2.2.2.2.2.2.2.2 ≤ S.1.2 := by rw [hX]; exact ⟨Nat.le_refl _, Nat.le_refl _⟩
  have R2 : S.1.1 ≤ S.1.1 ∧ S.1.2 ≤ S.1.2 := ⟨Nat.le_refl _, Nat.le_refl _⟩
  show sk_G X C 4 S d 0 [(0, .ref p0), (1, .ref p1), (2, .int p2)] []
  unfold fX5_both_o at hf
  refine sk_aload_n K dX5_both_0 rfl 0 rfl ?_
  refine sk_aload_n K dX5_both_1 rfl 1 rfl ?_
  refine sk_iload_n K dX5_both_2 rfl 2 rfl ?_
  obtain ⟨h4, hf⟩ := sk_ib hf
  obtain ⟨d3, e2, hf⟩ := sk_ob hf
  refine sk_callV (As := [.ref p1, .int p2]) (st := []) K dX5_both_3 cl_X5_199 h4 (ih.2.2.1 _ _ _ _ _ e2) (by omega) rfl rfl (Nat.le_of_ble_eq_true rfl) R1 R2 ?_
  refine sk_iconst (0 : Int32) K dX5_both_6 (by decide) ?_
  refine sk_istore_n [(3, .int (0 : Int32)), (0, .ref p0), (1, .ref p1), (2, .int p2)] K dX5_both_7 rfl (by decide) rfl ?_
  obtain ⟨x1, he1, hf⟩ := sk_ob hf
  have hret1 : ∀ r, r = x1 → r = dd := by
    intro r hr
    subst hr
    exact Option.some.inj hf
  refine sk_sub [(0, .ref p0), (1, .ref p1), (2, .int p2), (3, .int (0 : Int32))] [1, 2, 3, 0] rfl ?_
  refine sk_loop (fun s1 => sk_G X C 4 S s1.2 8 [(0, .ref p0), (1, .ref p1), (2, .int p2), (3, .int s1.1)] []) he1 (fun s1 o1 hf ih1 hx1 => ?_)
  unfold fX5_both_L8 at hf
  refine sk_iload_n K dX5_both_8 rfl 3 rfl ?_
  refine sk_sipush (900 : Int32) K dX5_both_9 (by decide) ?_
  refine sk_icmp_ge 46 K dX5_both_12 (by decide) (fun h5 => ?_) (fun h5 => ?_)
  · rw [if_pos h5] at hf
    have hR6 : s1.2 = dd := hret1 _ (hx1 _ (Option.some.inj hf).symm)
    exact sk_vret K dX5_both_46 rfl rfl rfl hR6
  · rw [if_neg h5] at hf
    refine sk_aload_n K dX5_both_15 rfl 0 rfl ?_
    obtain ⟨h9, hf⟩ := sk_ib hf
    obtain ⟨v7, e8, hf⟩ := sk_ob hf
    refine sk_callV (As := []) (st := []) K dX5_both_16 cl_X5_61 h9 (sX5_kind C l e8) (by omega) rfl rfl (Nat.le_of_ble_eq_true rfl) R1 R2 ?_
    refine sk_bipush (17 : Int32) K dX5_both_19 (by decide) ?_
    refine sk_icmp_ne 46 K dX5_both_21 (by decide) (fun h10 => ?_) (fun h10 => ?_)
    · rw [if_neg h10] at hf
      have hR11 : s1.2 = dd := hret1 _ (hx1 _ (Option.some.inj hf).symm)
      exact sk_vret K dX5_both_46 rfl rfl rfl hR11
    · rw [if_pos h10] at hf
      refine sk_aload_n K dX5_both_24 rfl 0 rfl ?_
      obtain ⟨h15, hf⟩ := sk_ib hf
      obtain ⟨d14, e13, hf⟩ := sk_ob hf
      refine sk_callV (As := []) (st := []) K dX5_both_25 cl_X5_100 h15 (sX5_next C l e13) (by omega) rfl rfl (Nat.le_of_ble_eq_true rfl) R1 R2 ?_
      refine sk_aload_n K dX5_both_28 rfl 0 rfl ?_
      refine sk_aload_n K dX5_both_29 rfl 1 rfl ?_
      refine sk_iload_n K dX5_both_30 rfl 2 rfl ?_
      obtain ⟨h19, hf⟩ := sk_ib hf
      obtain ⟨d18, e17, hf⟩ := sk_ob hf
      refine sk_callV (As := [.ref p1, .int p2]) (st := []) K dX5_both_31 cl_X5_199 h19 (ih.2.2.1 _ _ _ _ _ e17) (by omega) rfl rfl (Nat.le_of_ble_eq_true rfl) R1 R2 ?_
      refine sk_aload_n K dX5_both_34 rfl 1 rfl ?_
      refine sk_bipush (-13 : Int32) K dX5_both_35 (by decide) ?_
      obtain ⟨h23, hf⟩ := sk_ib hf
      obtain ⟨d22, e21, hf⟩ := sk_ob hf
      refine sk_callV (As := [.int (-13 : Int32)]) (st := []) K dX5_both_37 cl_X5_196 h23 (sX1_step C l e21) (by omega) rfl rfl (Nat.le_of_ble_eq_true rfl) R1 R2 ?_
      refine sk_iinc (s1.1 + 1) [(3, .int (s1.1 + 1)), (0, .ref p0), (1, .ref p1), (2, .int p2)] K dX5_both_40 3 rfl rfl (by decide) rfl ?_
      refine sk_goto 8 K dX5_both_43 (by decide) ?_
      refine sk_sub [(0, .ref p0), (1, .ref p1), (2, .int p2), (3, .int (s1.1 + 1))] [1, 2, 3, 0] rfl ?_
      have h9 := ih1 _ (Option.some.inj hf).symm
      exact h9
set_option maxRecDepth 100000 in
set_option maxHeartbeats 4000000 in
theorem sX5_unit_o (C : sk_C) (l : Launch) {S : sk_S} (n : Nat) (ih : mX5 C l S n) {d : sk_D} {p0 : Nat} {p1 : Nat} {p2 : Int32} {dd : sk_D} (hf : fX5_unit_o (gX5 S n) S d p0 p1 p2 = some dd) : sk_Met C l (2 + (n + 1)) yX5_unit cX5_unit 4 none [.ref p0, .ref p1, .int p2] S d none S dd := by
  refine sk_Met.of (by decide) (Nat.le_of_ble_eq_true rfl) (Nat.le_refl _) (Nat.le_refl _) (fun X K0 hX => ?_)
  have K : sk_Ok X C cX5_unit 4 RX5 "unit" none (2 + (n + 1)) l none S dd := K0
  have R1 : X.2.2.2.2.2.2.2.2.2.2.2.1 ≤ S.1.1 ∧ X.2.2.2.2.2.2.2.2.2.2.2.2 ≤ S.1.2 := by rw [hX]; exact ⟨Nat.le_refl _, Nat.le_refl _⟩
  have R2 : S.1.1 ≤ S.1.1 ∧ S.1.2 ≤ S.1.2 := ⟨Nat.le_refl _, Nat.le_refl _⟩
  show sk_G X C 4 S d 0 [(0, .ref p0), (1, .ref p1), (2, .int p2)] []
  unfold fX5_unit_o at hf
  have j26_0 : ∀ (v1 : Int32) (d2 : sk_D), fX5_unit_J26 (gX5 S n) S p0 p1 p2 v1 d2 = some dd → sk_G X C 4 S d2 26 [(0, .ref p0), (1, .ref p1), (2, .int p2), (3, .int v1)] [] := by
    intro v1 d2 hf
    unfold fX5_unit_J26 at hf
    refine sk_iload_n K dX5_unit_26 rfl 2 rfl ?_
    refine sk_bipush (6 : Int32) K dX5_unit_27 (by decide) ?_
    refine sk_icmp_lt 40 K dX5_unit_29 (by decide) (fun h3 => ?_) (fun h3 => ?_)
    · rw [if_pos h3] at hf
      refine sk_iload_n K dX5_unit_40 rfl 3 rfl ?_
      refine sk_bipush (18 : Int32) K dX5_unit_41 (by decide) ?_
      refine sk_icmp_ne 55 K dX5_unit_43 (by decide) (fun h4 => ?_) (fun h4 => ?_)
      · rw [if_neg h4] at hf
        refine sk_aload_n K dX5_unit_55 rfl 0 rfl ?_
        obtain ⟨h8, hf⟩ := sk_ib hf
        obtain ⟨d7, e6, hf⟩ := sk_ob hf
        refine sk_callV (As := []) (st := []) K dX5_unit_56 cl_X5_100 h8 (sX5_next C l e6) (by omega) rfl rfl (Nat.le_of_ble_eq_true rfl) R1 R2 ?_
        refine sk_aload_n K dX5_unit_59 rfl 0 rfl ?_
        refine sk_aload_n K dX5_unit_60 rfl 1 rfl ?_
        refine sk_iload_n K dX5_unit_61 rfl 2 rfl ?_
        refine sk_iconst (1 : Int32) K dX5_unit_62 (by decide) ?_
        refine sk_iadd K dX5_unit_63 ?_
        obtain ⟨h12, hf⟩ := sk_ib hf
        obtain ⟨d11, e10, hf⟩ := sk_ob hf
        refine sk_callV (As := [.ref p1, .int (p2 + (1 : Int32))]) (st := []) K dX5_unit_64 cl_X5_142 h12 (ih.1 _ _ _ _ _ e10) (by omega) rfl rfl (Nat.le_of_ble_eq_true rfl) R1 R2 ?_
        refine sk_aload_n K dX5_unit_67 rfl 0 rfl ?_
        refine sk_bipush (93 : Int32) K dX5_unit_68 (by decide) ?_
        obtain ⟨h16, hf⟩ := sk_ib hf
        obtain ⟨d15, e14, hf⟩ := sk_ob hf
        refine sk_callV (As := [.int (93 : Int32)]) (st := []) K dX5_unit_70 cl_X5_107 h16 (sX5_expect C l e14) (by omega) rfl rfl (Nat.le_of_ble_eq_true rfl) R1 R2 ?_
        have hR17 : d15 = dd := Option.some.inj hf
        exact sk_vret K dX5_unit_73 rfl rfl rfl hR17
      · rw [if_pos h4] at hf
        refine sk_aload_n K dX5_unit_46 rfl 0 rfl ?_
        refine sk_aload_n K dX5_unit_47 rfl 1 rfl ?_
        refine sk_iload_n K dX5_unit_48 rfl 2 rfl ?_
        obtain ⟨h21, hf⟩ := sk_ib hf
        obtain ⟨d20, e19, hf⟩ := sk_ob hf
        refine sk_callV (As := [.ref p1, .int p2]) (st := []) K dX5_unit_49 cl_X5_205 h21 (ih.2.2.2.2.2.2.2.2 _ _ _ _ _ e19) (by omega) rfl rfl (Nat.le_of_ble_eq_true rfl) R1 R2 ?_
        refine sk_goto 73 K dX5_unit_52 (by decide) ?_
        have hR22 : d20 = dd := Option.some.inj hf
        exact sk_vret K dX5_unit_73 rfl rfl rfl hR22
    · rw [if_neg h3] at hf
      refine sk_aload_n K dX5_unit_32 rfl 0 rfl ?_
      refine sk_iconst (4 : Int32) K dX5_unit_33 (by decide) ?_
      obtain ⟨h26, hf⟩ := sk_ib hf
      obtain ⟨d25, e24, hf⟩ := sk_ob hf
      refine sk_callV (As := [.int (4 : Int32)]) (st := []) K dX5_unit_34 cl_X5_103 h26 (sX5_fail C l e24) (by omega) rfl rfl (Nat.le_of_ble_eq_true rfl) R1 R2 ?_
      refine sk_goto 73 K dX5_unit_37 (by decide) ?_
      have hR27 : d25 = dd := Option.some.inj hf
      exact sk_vret K dX5_unit_73 rfl rfl rfl hR27
  refine sk_aload_n K dX5_unit_0 rfl 0 rfl ?_
  obtain ⟨h30, hf⟩ := sk_ib hf
  obtain ⟨v28, e29, hf⟩ := sk_ob hf
  refine sk_callV (As := []) (st := []) K dX5_unit_1 cl_X5_61 h30 (sX5_kind C l e29) (by omega) rfl rfl (Nat.le_of_ble_eq_true rfl) R1 R2 ?_
  refine sk_istore_n [(3, .int v28), (0, .ref p0), (1, .ref p1), (2, .int p2)] K dX5_unit_4 rfl (by decide) rfl ?_
  refine sk_iload_n K dX5_unit_5 rfl 0 rfl ?_
  refine sk_bipush (18 : Int32) K dX5_unit_6 (by decide) ?_
  refine sk_icmp_eq 26 K dX5_unit_8 (by decide) (fun h31 => ?_) (fun h31 => ?_)
  · rw [if_pos h31] at hf
    refine sk_sub [(0, .ref p0), (1, .ref p1), (2, .int p2), (3, .int v28)] [1, 2, 3, 0] rfl ?_
    have h9 := j26_0 _ _ hf
    exact h9
  · rw [if_neg h31] at hf
    refine sk_iload_n K dX5_unit_11 rfl 0 rfl ?_
    refine sk_bipush (91 : Int32) K dX5_unit_12 (by decide) ?_
    refine sk_icmp_eq 26 K dX5_unit_14 (by decide) (fun h32 => ?_) (fun h32 => ?_)
    · rw [if_pos h32] at hf
      refine sk_sub [(0, .ref p0), (1, .ref p1), (2, .int p2), (3, .int v28)] [1, 2, 3, 0] rfl ?_
      have h9 := j26_0 _ _ hf
      exact h9
    · rw [if_neg h32] at hf
      refine sk_aload_n K dX5_unit_17 rfl 1 rfl ?_
      refine sk_aload_n K dX5_unit_18 rfl 2 rfl ?_
      refine sk_iload_n K dX5_unit_19 rfl 3 rfl ?_
      obtain ⟨h36, hf⟩ := sk_ib hf
      obtain ⟨d35, e34, hf⟩ := sk_ob hf
      refine sk_callV (As := [.ref p1, .int p2]) (st := []) K dX5_unit_20 cl_X5_202 h36 (ih.2.2.2.1 _ _ _ _ _ e34) (by omega) rfl rfl (Nat.le_of_ble_eq_true rfl) R1 R2 ?_
      refine sk_goto 73 K dX5_unit_23 (by decide) ?_
      have hR37 : d35 = dd := Option.some.inj hf
      exact sk_vret K dX5_unit_73 rfl rfl rfl hR37
set_option maxRecDepth 100000 in
set_option maxHeartbeats 4000000 in
theorem sX5_compared_o (C : sk_C) (l : Launch) {S : sk_S} (n : Nat) (ih : mX5 C l S n) {d : sk_D} {p0 : Nat} {p1 : Nat} {p2 : Int32} {dd : sk_D} (hf : fX5_compared_o (gX5 S n) S d p0 p1 p2 = some dd) : sk_Met C l (2 + (n + 1)) yX5_compared cX5_compared 4 none [.ref p0, .ref p1, .int p2] S d none S dd := by
  refine sk_Met.of (by decide) (Nat.le_of_ble_eq_true rfl) (Nat.le_refl _) (Nat.le_refl _) (fun X K0 hX => ?_)
  have K : sk_Ok X C cX5_compared 4 RX5 "compared" none (2 + (n + 1)) l none S dd := K0
  have R1 : X.2.2.2.2.2.2.2.2.2.2.2.1 ≤ S.1.1 ∧ X.2.2.2.2.2.2.2.2.2.2.2.2 ≤ S.1.2 := by rw [hX]; exact ⟨Nat.le_refl _, Nat.le_refl _⟩
  have R2 : S.1.1 ≤ S.1.1 ∧ S.1.2 ≤ S.1.2 := ⟨Nat.le_refl _, Nat.le_refl _⟩
  show sk_G X C 4 S d 0 [(0, .ref p0), (1, .ref p1), (2, .int p2)] []
  unfold fX5_compared_o at hf
  have j70_0 : ∀ (v1 : Nat) (v2 : Int32) (d3 : sk_D), fX5_compared_J70 S v1 v2 d3 = some dd → sk_G X C 4 S d3 70 [] [.int v2, .ref v1] := by
    intro v1 v2 d3 hf
    unfold fX5_compared_J70 at hf
    obtain ⟨h7, hf⟩ := sk_ib hf
    obtain ⟨d6, e5, hf⟩ := sk_ob hf
    refine sk_callV (As := [.int v2]) (st := []) K dX5_compared_70 cl_X5_196 h7 (sX1_step C l e5) (by omega) rfl rfl (Nat.le_of_ble_eq_true rfl) R1 R2 ?_
    have hR8 : d6 = dd := Option.some.inj hf
    exact sk_vret K dX5_compared_73 rfl rfl rfl hR8
  have j35_0 : ∀ (v9 : Int32) (d10 : sk_D), fX5_compared_J35 (gX5 S n) S p0 p1 p2 v9 d10 = some dd → sk_G X C 4 S d10 35 [(0, .ref p0), (1, .ref p1), (2, .int p2), (3, .int v9)] [] := by
    intro v9 d10 hf
    unfold fX5_compared_J35 at hf
    refine sk_aload_n K dX5_compared_35 rfl 0 rfl ?_
    obtain ⟨h14, hf⟩ := sk_ib hf
    obtain ⟨d13, e12, hf⟩ := sk_ob hf
    refine sk_callV (As := []) (st := []) K dX5_compared_36 cl_X5_100 h14 (sX5_next C l e12) (by omega) rfl rfl (Nat.le_of_ble_eq_true rfl) R1 R2 ?_
    refine sk_aload_n K dX5_compared_39 rfl 0 rfl ?_
    refine sk_aload_n K dX5_compared_40 rfl 1 rfl ?_
    refine sk_iload_n K dX5_compared_41 rfl 2 rfl ?_
    obtain ⟨h18, hf⟩ := sk_ib hf
    obtain ⟨d17, e16, hf⟩ := sk_ob hf
    refine sk_callV (As := [.ref p1, .int p2]) (st := []) K dX5_compared_42 cl_X5_208 h18 (ih.2.2.2.2.1 _ _ _ _ _ e16) (by omega) rfl rfl (Nat.le_of_ble_eq_true rfl) R1 R2 ?_
    refine sk_aload_n K dX5_compared_45 rfl 1 rfl ?_
    refine sk_iload_n K dX5_compared_46 rfl 3 rfl ?_
    refine sk_bipush (61 : Int32) K dX5_compared_47 (by decide) ?_
    refine sk_icmp_ne 57 K dX5_compared_49 (by decide) (fun h19 => ?_) (fun h19 => ?_)
    · rw [if_neg h19] at hf
      refine sk_iload_n K dX5_compared_57 rfl 3 rfl ?_
      refine sk_bipush (60 : Int32) K dX5_compared_58 (by decide) ?_
      refine sk_icmp_ne 68 K dX5_compared_60 (by decide) (fun h20 => ?_) (fun h20 => ?_)
      · rw [if_neg h20] at hf
        refine sk_bipush (-12 : Int32) K dX5_compared_68 (by decide) ?_
        refine sk_sub [] [] rfl ?_
        have h9 := j70_0 _ _ _ hf
        exact h9
      · rw [if_pos h20] at hf
        refine sk_bipush (-11 : Int32) K dX5_compared_63 (by decide) ?_
        refine sk_goto 70 K dX5_compared_65 (by decide) ?_
        refine sk_sub [] [] rfl ?_
        have h9 := j70_0 _ _ _ hf
        exact h9
    · rw [if_pos h19] at hf
      refine sk_bipush (-10 : Int32) K dX5_compared_52 (by decide) ?_
      refine sk_goto 70 K dX5_compared_54 (by decide) ?_
      refine sk_sub [] [] rfl ?_
      have h9 := j70_0 _ _ _ hf
      exact h9
  refine sk_aload_n K dX5_compared_0 rfl 0 rfl ?_
  refine sk_aload_n K dX5_compared_1 rfl 1 rfl ?_
  refine sk_iload_n K dX5_compared_2 rfl 2 rfl ?_
  obtain ⟨h24, hf⟩ := sk_ib hf
  obtain ⟨d23, e22, hf⟩ := sk_ob hf
  refine sk_callV (As := [.ref p1, .int p2]) (st := []) K dX5_compared_3 cl_X5_208 h24 (ih.2.2.2.2.1 _ _ _ _ _ e22) (by omega) rfl rfl (Nat.le_of_ble_eq_true rfl) R1 R2 ?_
  refine sk_aload_n K dX5_compared_6 rfl 0 rfl ?_
  obtain ⟨h27, hf⟩ := sk_ib hf
  obtain ⟨v25, e26, hf⟩ := sk_ob hf
  refine sk_callV (As := []) (st := []) K dX5_compared_7 cl_X5_61 h27 (sX5_kind C l e26) (by omega) rfl rfl (Nat.le_of_ble_eq_true rfl) R1 R2 ?_
  refine sk_istore_n [(3, .int v25), (0, .ref p0), (1, .ref p1), (2, .int p2)] K dX5_compared_10 rfl (by decide) rfl ?_
  refine sk_iload_n K dX5_compared_11 rfl 0 rfl ?_
  refine sk_bipush (61 : Int32) K dX5_compared_12 (by decide) ?_
  refine sk_icmp_eq 35 K dX5_compared_14 (by decide) (fun h28 => ?_) (fun h28 => ?_)
  · rw [if_pos h28] at hf
    refine sk_sub [(0, .ref p0), (1, .ref p1), (2, .int p2), (3, .int v25)] [1, 2, 3, 0] rfl ?_
    have h9 := j35_0 _ _ hf
    exact h9
  · rw [if_neg h28] at hf
    refine sk_iload_n K dX5_compared_17 rfl 0 rfl ?_
    refine sk_bipush (60 : Int32) K dX5_compared_18 (by decide) ?_
    refine sk_icmp_eq 35 K dX5_compared_20 (by decide) (fun h29 => ?_) (fun h29 => ?_)
    · rw [if_pos h29] at hf
      refine sk_sub [(0, .ref p0), (1, .ref p1), (2, .int p2), (3, .int v25)] [1, 2, 3, 0] rfl ?_
      have h9 := j35_0 _ _ hf
      exact h9
    · rw [if_neg h29] at hf
      refine sk_iload_n K dX5_compared_23 rfl 0 rfl ?_
      refine sk_bipush (62 : Int32) K dX5_compared_24 (by decide) ?_
      refine sk_icmp_eq 35 K dX5_compared_26 (by decide) (fun h30 => ?_) (fun h30 => ?_)
      · rw [if_pos h30] at hf
        refine sk_sub [(0, .ref p0), (1, .ref p1), (2, .int p2), (3, .int v25)] [1, 2, 3, 0] rfl ?_
        have h9 := j35_0 _ _ hf
        exact h9
      · rw [if_neg h30] at hf
        refine sk_aload_n K dX5_compared_29 rfl 1 rfl ?_
        refine sk_iconst (2 : Int32) K dX5_compared_30 (by decide) ?_
        obtain ⟨h34, hf⟩ := sk_ib hf
        obtain ⟨d33, e32, hf⟩ := sk_ob hf
        refine sk_callV (As := [.int (2 : Int32)]) (st := []) K dX5_compared_31 cl_X5_103 h34 (sX5_fail C l e32) (by omega) rfl rfl (Nat.le_of_ble_eq_true rfl) R1 R2 ?_
        have hR35 : d33 = dd := Option.some.inj hf
        exact sk_vret K dX5_compared_34 rfl rfl rfl hR35
set_option maxRecDepth 100000 in
set_option maxHeartbeats 4000000 in
theorem sX5_sum_o (C : sk_C) (l : Launch) {S : sk_S} (n : Nat) (ih : mX5 C l S n) {d : sk_D} {p0 : Nat} {p1 : Nat} {p2 : Int32} {dd : sk_D} (hf : fX5_sum_o (gX5 S n) S d p0 p1 p2 = some dd) : sk_Met C l (2 + (n + 1)) yX5_sum cX5_sum 5 none [.ref p0, .ref p1, .int p2] S d none S dd := by
  refine sk_Met.of (by decide) (Nat.le_of_ble_eq_true rfl) (Nat.le_refl _) (Nat.le_refl _) (fun X K0 hX => ?_)
  have K : sk_Ok X C cX5_sum 5 RX5 "sum" none (2 + (n + 1)) l none S dd := K0
  have R1 : X.2.2.2.2.2.2.2.2.2.2.2.1 ≤ S.1.1 ∧ X.2.2.2.2.2.2.2.2.2.2.2.2 ≤ S.1.2 := by rw [hX]; exact ⟨Nat.le_refl _, Nat.le_refl _⟩
  have R2 : S.1.1 ≤ S.1.1 ∧ S.1.2 ≤ S.1.2 := ⟨Nat.le_refl _, Nat.le_refl _⟩
  show sk_G X C 5 S d 0 [(0, .ref p0), (1, .ref p1), (2, .int p2)] []
  unfold fX5_sum_o at hf
  refine sk_aload_n K dX5_sum_0 rfl 0 rfl ?_
  refine sk_aload_n K dX5_sum_1 rfl 1 rfl ?_
  refine sk_iload_n K dX5_sum_2 rfl 2 rfl ?_
  obtain ⟨h4, hf⟩ := sk_ib hf
  obtain ⟨d3, e2, hf⟩ := sk_ob hf
  refine sk_callV (As := [.ref p1, .int p2]) (st := []) K dX5_sum_3 cl_X5_211 h4 (ih.2.2.2.2.2.1 _ _ _ _ _ e2) (by omega) rfl rfl (Nat.le_of_ble_eq_true rfl) R1 R2 ?_
  refine sk_iconst (0 : Int32) K dX5_sum_6 (by decide) ?_
  refine sk_istore_n [(3, .int (0 : Int32)), (0, .ref p0), (1, .ref p1), (2, .int p2)] K dX5_sum_7 rfl (by decide) rfl ?_
  obtain ⟨x1, he1, hf⟩ := sk_ob hf
  have hret1 : ∀ r, r = x1 → r = dd := by
    intro r hr
    subst hr
    exact Option.some.inj hf
  refine sk_sub [(0, .ref p0), (1, .ref p1), (2, .int p2), (3, .int (0 : Int32))] [1, 2, 3, 0] rfl ?_
  refine sk_loop (fun s1 => sk_G X C 5 S s1.2 8 [(0, .ref p0), (1, .ref p1), (2, .int p2), (3, .int s1.1)] []) he1 (fun s1 o1 hf ih1 hx1 => ?_)
  unfold fX5_sum_L8 at hf
  have j49_1 : ∀ (v5 : Int32) (v6 : Int32) (d7 : sk_D), fX5_sum_J49i8 (gX5 S n) S p0 p1 p2 v5 v6 d7 = some o1 → sk_G X C 5 S d7 49 [(0, .ref p0), (1, .ref p1), (2, .int p2), (3, .int v5)] [.int v6] := by
    intro v5 v6 d7 hf
    unfold fX5_sum_J49i8 at hf
    refine sk_istore [(4, .int v6), (0, .ref p0), (1, .ref p1), (2, .int p2), (3, .int v5)] K dX5_sum_49 (by decide) rfl ?_
    refine sk_aload_n K dX5_sum_51 rfl 1 rfl ?_
    obtain ⟨h11, hf⟩ := sk_ib hf
    obtain ⟨d10, e9, hf⟩ := sk_ob hf
    refine sk_callV (As := []) (st := []) K dX5_sum_52 cl_X5_100 h11 (sX5_next C l e9) (by omega) rfl rfl (Nat.le_of_ble_eq_true rfl) R1 R2 ?_
    refine sk_aload_n K dX5_sum_55 rfl 1 rfl ?_
    refine sk_aload_n K dX5_sum_56 rfl 2 rfl ?_
    refine sk_iload_n K dX5_sum_57 rfl 3 rfl ?_
    obtain ⟨h15, hf⟩ := sk_ib hf
    obtain ⟨d14, e13, hf⟩ := sk_ob hf
    refine sk_callV (As := [.ref p1, .int p2]) (st := []) K dX5_sum_58 cl_X5_211 h15 (ih.2.2.2.2.2.1 _ _ _ _ _ e13) (by omega) rfl rfl (Nat.le_of_ble_eq_true rfl) R1 R2 ?_
    refine sk_aload_n K dX5_sum_61 rfl 2 rfl ?_
    refine sk_iload K dX5_sum_62 0 rfl ?_
    obtain ⟨h19, hf⟩ := sk_ib hf
    obtain ⟨d18, e17, hf⟩ := sk_ob hf
    refine sk_callV (As := [.int v6]) (st := []) K dX5_sum_64 cl_X5_196 h19 (sX1_step C l e17) (by omega) rfl rfl (Nat.le_of_ble_eq_true rfl) R1 R2 ?_
    refine sk_iinc (v5 + 1) [(3, .int (v5 + 1)), (4, .int v6), (0, .ref p0), (1, .ref p1), (2, .int p2)] K dX5_sum_67 4 rfl rfl (by decide) rfl ?_
    refine sk_goto 8 K dX5_sum_70 (by decide) ?_
    refine sk_sub [(0, .ref p0), (1, .ref p1), (2, .int p2), (3, .int (v5 + 1))] [2, 3, 4, 0] rfl ?_
    have h9 := ih1 _ (Option.some.inj hf).symm
    exact h9
  have j33_1 : ∀ (v20 : Int32) (d21 : sk_D), fX5_sum_J33i8 (gX5 S n) S p0 p1 p2 v20 d21 = some o1 → sk_G X C 5 S d21 33 [(0, .ref p0), (1, .ref p1), (2, .int p2), (3, .int v20)] [] := by
    intro v20 d21 hf
    unfold fX5_sum_J33i8 at hf
    refine sk_aload_n K dX5_sum_33 rfl 0 rfl ?_
    obtain ⟨h24, hf⟩ := sk_ib hf
    obtain ⟨v22, e23, hf⟩ := sk_ob hf
    refine sk_callV (As := []) (st := []) K dX5_sum_34 cl_X5_61 h24 (sX5_kind C l e23) (by omega) rfl rfl (Nat.le_of_ble_eq_true rfl) R1 R2 ?_
    refine sk_bipush (43 : Int32) K dX5_sum_37 (by decide) ?_
    refine sk_icmp_ne 47 K dX5_sum_39 (by decide) (fun h25 => ?_) (fun h25 => ?_)
    · rw [if_neg h25] at hf
      refine sk_bipush (-8 : Int32) K dX5_sum_47 (by decide) ?_
      refine sk_sub [(0, .ref p0), (1, .ref p1), (2, .int p2), (3, .int v20)] [0, 1, 2, 3] rfl ?_
      have h9 := j49_1 _ _ _ hf
      exact h9
    · rw [if_pos h25] at hf
      refine sk_bipush (-7 : Int32) K dX5_sum_42 (by decide) ?_
      refine sk_goto 49 K dX5_sum_44 (by decide) ?_
      refine sk_sub [(0, .ref p0), (1, .ref p1), (2, .int p2), (3, .int v20)] [0, 1, 2, 3] rfl ?_
      have h9 := j49_1 _ _ _ hf
      exact h9
  refine sk_iload_n K dX5_sum_8 rfl 3 rfl ?_
  refine sk_sipush (900 : Int32) K dX5_sum_9 (by decide) ?_
  refine sk_icmp_ge 73 K dX5_sum_12 (by decide) (fun h26 => ?_) (fun h26 => ?_)
  · rw [if_pos h26] at hf
    have hR27 : s1.2 = dd := hret1 _ (hx1 _ (Option.some.inj hf).symm)
    exact sk_vret K dX5_sum_73 rfl rfl rfl hR27
  · rw [if_neg h26] at hf
    refine sk_aload_n K dX5_sum_15 rfl 0 rfl ?_
    obtain ⟨h30, hf⟩ := sk_ib hf
    obtain ⟨v28, e29, hf⟩ := sk_ob hf
    refine sk_callV (As := []) (st := []) K dX5_sum_16 cl_X5_61 h30 (sX5_kind C l e29) (by omega) rfl rfl (Nat.le_of_ble_eq_true rfl) R1 R2 ?_
    refine sk_bipush (43 : Int32) K dX5_sum_19 (by decide) ?_
    refine sk_icmp_eq 33 K dX5_sum_21 (by decide) (fun h31 => ?_) (fun h31 => ?_)
    · rw [if_pos h31] at hf
      refine sk_sub [(0, .ref p0), (1, .ref p1), (2, .int p2), (3, .int s1.1)] [0, 1, 2, 3] rfl ?_
      have h9 := j33_1 _ _ hf
      exact h9
    · rw [if_neg h31] at hf
      refine sk_aload_n K dX5_sum_24 rfl 0 rfl ?_
      obtain ⟨h34, hf⟩ := sk_ib hf
      obtain ⟨v32, e33, hf⟩ := sk_ob hf
      refine sk_callV (As := []) (st := []) K dX5_sum_25 cl_X5_61 h34 (sX5_kind C l e33) (by omega) rfl rfl (Nat.le_of_ble_eq_true rfl) R1 R2 ?_
      refine sk_bipush (45 : Int32) K dX5_sum_28 (by decide) ?_
      refine sk_icmp_ne 73 K dX5_sum_30 (by decide) (fun h35 => ?_) (fun h35 => ?_)
      · rw [if_neg h35] at hf
        have hR36 : s1.2 = dd := hret1 _ (hx1 _ (Option.some.inj hf).symm)
        exact sk_vret K dX5_sum_73 rfl rfl rfl hR36
      · rw [if_pos h35] at hf
        refine sk_sub [(0, .ref p0), (1, .ref p1), (2, .int p2), (3, .int s1.1)] [0, 1, 2, 3] rfl ?_
        have h9 := j33_1 _ _ hf
        exact h9
set_option maxRecDepth 100000 in
set_option maxHeartbeats 4000000 in
theorem sX5_term_o (C : sk_C) (l : Launch) {S : sk_S} (n : Nat) (ih : mX5 C l S n) {d : sk_D} {p0 : Nat} {p1 : Nat} {p2 : Int32} {dd : sk_D} (hf : fX5_term_o (gX5 S n) S d p0 p1 p2 = some dd) : sk_Met C l (2 + (n + 1)) yX5_term cX5_term 4 none [.ref p0, .ref p1, .int p2] S d none S dd := by
  refine sk_Met.of (by decide) (Nat.le_of_ble_eq_true rfl) (Nat.le_refl _) (Nat.le_refl _) (fun X K0 hX => ?_)
  have K : sk_Ok X C cX5_term 4 RX5 "term" none (2 + (n + 1)) l none S dd := K0
  have R1 : X.2.2.2.2.2.2.2.2.2.2.2.1 ≤ S.1.1 ∧ X.2.2.2.2.2.2.2.2.2.2.2.2 ≤ S.1.2 := by rw [hX]; exact ⟨Nat.le_refl _, Nat.le_refl _⟩
  have R2 : S.1.1 ≤ S.1.1 ∧ S.1.2 ≤ S.1.2 := ⟨Nat.le_refl _, Nat.le_refl _⟩
  show sk_G X C 4 S d 0 [(0, .ref p0), (1, .ref p1), (2, .int p2)] []
  unfold fX5_term_o at hf
  refine sk_aload_n K dX5_term_0 rfl 0 rfl ?_
  refine sk_aload_n K dX5_term_1 rfl 1 rfl ?_
  refine sk_iload_n K dX5_term_2 rfl 2 rfl ?_
  obtain ⟨h4, hf⟩ := sk_ib hf
  obtain ⟨d3, e2, hf⟩ := sk_ob hf
  refine sk_callV (As := [.ref p1, .int p2]) (st := []) K dX5_term_3 cl_X5_214 h4 (ih.2.2.2.2.2.2.1 _ _ _ _ _ e2) (by omega) rfl rfl (Nat.le_of_ble_eq_true rfl) R1 R2 ?_
  refine sk_iconst (0 : Int32) K dX5_term_6 (by decide) ?_
  refine sk_istore_n [(3, .int (0 : Int32)), (0, .ref p0), (1, .ref p1), (2, .int p2)] K dX5_term_7 rfl (by decide) rfl ?_
  obtain ⟨x1, he1, hf⟩ := sk_ob hf
  have hret1 : ∀ r, r = x1 → r = dd := by
    intro r hr
    subst hr
    exact Option.some.inj hf
  refine sk_sub [(0, .ref p0), (1, .ref p1), (2, .int p2), (3, .int (0 : Int32))] [1, 2, 3, 0] rfl ?_
  refine sk_loop (fun s1 => sk_G X C 4 S s1.2 8 [(0, .ref p0), (1, .ref p1), (2, .int p2), (3, .int s1.1)] []) he1 (fun s1 o1 hf ih1 hx1 => ?_)
  unfold fX5_term_L8 at hf
  refine sk_iload_n K dX5_term_8 rfl 3 rfl ?_
  refine sk_sipush (900 : Int32) K dX5_term_9 (by decide) ?_
  refine sk_icmp_ge 46 K dX5_term_12 (by decide) (fun h5 => ?_) (fun h5 => ?_)
  · rw [if_pos h5] at hf
    have hR6 : s1.2 = dd := hret1 _ (hx1 _ (Option.some.inj hf).symm)
    exact sk_vret K dX5_term_46 rfl rfl rfl hR6
  · rw [if_neg h5] at hf
    refine sk_aload_n K dX5_term_15 rfl 0 rfl ?_
    obtain ⟨h9, hf⟩ := sk_ib hf
    obtain ⟨v7, e8, hf⟩ := sk_ob hf
    refine sk_callV (As := []) (st := []) K dX5_term_16 cl_X5_61 h9 (sX5_kind C l e8) (by omega) rfl rfl (Nat.le_of_ble_eq_true rfl) R1 R2 ?_
    refine sk_bipush (42 : Int32) K dX5_term_19 (by decide) ?_
    refine sk_icmp_ne 46 K dX5_term_21 (by decide) (fun h10 => ?_) (fun h10 => ?_)
    · rw [if_neg h10] at hf
      have hR11 : s1.2 = dd := hret1 _ (hx1 _ (Option.some.inj hf).symm)
      exact sk_vret K dX5_term_46 rfl rfl rfl hR11
    · rw [if_pos h10] at hf
      refine sk_aload_n K dX5_term_24 rfl 0 rfl ?_
      obtain ⟨h15, hf⟩ := sk_ib hf
      obtain ⟨d14, e13, hf⟩ := sk_ob hf
      refine sk_callV (As := []) (st := []) K dX5_term_25 cl_X5_100 h15 (sX5_next C l e13) (by omega) rfl rfl (Nat.le_of_ble_eq_true rfl) R1 R2 ?_
      refine sk_aload_n K dX5_term_28 rfl 0 rfl ?_
      refine sk_aload_n K dX5_term_29 rfl 1 rfl ?_
      refine sk_iload_n K dX5_term_30 rfl 2 rfl ?_
      obtain ⟨h19, hf⟩ := sk_ib hf
      obtain ⟨d18, e17, hf⟩ := sk_ob hf
      refine sk_callV (As := [.ref p1, .int p2]) (st := []) K dX5_term_31 cl_X5_214 h19 (ih.2.2.2.2.2.2.1 _ _ _ _ _ e17) (by omega) rfl rfl (Nat.le_of_ble_eq_true rfl) R1 R2 ?_
      refine sk_aload_n K dX5_term_34 rfl 1 rfl ?_
      refine sk_bipush (-9 : Int32) K dX5_term_35 (by decide) ?_
      obtain ⟨h23, hf⟩ := sk_ib hf
      obtain ⟨d22, e21, hf⟩ := sk_ob hf
      refine sk_callV (As := [.int (-9 : Int32)]) (st := []) K dX5_term_37 cl_X5_196 h23 (sX1_step C l e21) (by omega) rfl rfl (Nat.le_of_ble_eq_true rfl) R1 R2 ?_
      refine sk_iinc (s1.1 + 1) [(3, .int (s1.1 + 1)), (0, .ref p0), (1, .ref p1), (2, .int p2)] K dX5_term_40 3 rfl rfl (by decide) rfl ?_
      refine sk_goto 8 K dX5_term_43 (by decide) ?_
      refine sk_sub [(0, .ref p0), (1, .ref p1), (2, .int p2), (3, .int (s1.1 + 1))] [1, 2, 3, 0] rfl ?_
      have h9 := ih1 _ (Option.some.inj hf).symm
      exact h9
set_option maxRecDepth 100000 in
set_option maxHeartbeats 4000000 in
theorem sX5_atom_o (C : sk_C) (l : Launch) {S : sk_S} (n : Nat) (ih : mX5 C l S n) {d : sk_D} {p0 : Nat} {p1 : Nat} {p2 : Int32} {dd : sk_D} (hf : fX5_atom_o (gX5 S n) S d p0 p1 p2 = some dd) : sk_Met C l (2 + (n + 1)) yX5_atom cX5_atom 4 none [.ref p0, .ref p1, .int p2] S d none S dd := by
  refine sk_Met.of (by decide) (Nat.le_of_ble_eq_true rfl) (Nat.le_refl _) (Nat.le_refl _) (fun X K0 hX => ?_)
  have K : sk_Ok X C cX5_atom 4 RX5 "atom" none (2 + (n + 1)) l none S dd := K0
  have R1 : X.2.2.2.2.2.2.2.2.2.2.2.1 ≤ S.1.1 ∧ X.2.2.2.2.2.2.2.2.2.2.2.2 ≤ S.1.2 := by rw [hX]; exact ⟨Nat.le_refl _, Nat.le_refl _⟩
  have R2 : S.1.1 ≤ S.1.1 ∧ S.1.2 ≤ S.1.2 := ⟨Nat.le_refl _, Nat.le_refl _⟩
  show sk_G X C 4 S d 0 [(0, .ref p0), (1, .ref p1), (2, .int p2)] []
  unfold fX5_atom_o at hf
  have j70_0 : ∀ (v1 : Int32) (d2 : sk_D), fX5_atom_J70 S p0 p1 v1 d2 = some dd → sk_G X C 4 S d2 70 [(0, .ref p0), (1, .ref p1), (3, .int v1)] [] := by
    intro v1 d2 hf
    unfold fX5_atom_J70 at hf
    refine sk_aload_n K dX5_atom_70 rfl 1 rfl ?_
    refine sk_iload_n K dX5_atom_71 rfl 2 rfl ?_
    obtain ⟨h6, hf⟩ := sk_ib hf
    obtain ⟨d5, e4, hf⟩ := sk_ob hf
    refine sk_callV (As := [.int v1]) (st := []) K dX5_atom_72 cl_X5_196 h6 (sX1_step C l e4) (by omega) rfl rfl (Nat.le_of_ble_eq_true rfl) R1 R2 ?_
    refine sk_aload_n K dX5_atom_75 rfl 0 rfl ?_
    obtain ⟨h10, hf⟩ := sk_ib hf
    obtain ⟨d9, e8, hf⟩ := sk_ob hf
    refine sk_callV (As := []) (st := []) K dX5_atom_76 cl_X5_100 h10 (sX5_next C l e8) (by omega) rfl rfl (Nat.le_of_ble_eq_true rfl) R1 R2 ?_
    have hR11 : d9 = dd := Option.some.inj hf
    exact sk_vret K dX5_atom_79 rfl rfl rfl hR11
  have j64_0 : ∀ (d12 : sk_D), fX5_atom_J64 S p0 d12 = some dd → sk_G X C 4 S d12 64 [(0, .ref p0)] [] := by
    intro d12 hf
    unfold fX5_atom_J64 at hf
    refine sk_aload_n K dX5_atom_64 rfl 0 rfl ?_
    refine sk_iconst (2 : Int32) K dX5_atom_65 (by decide) ?_
    obtain ⟨h16, hf⟩ := sk_ib hf
    obtain ⟨d15, e14, hf⟩ := sk_ob hf
    refine sk_callV (As := [.int (2 : Int32)]) (st := []) K dX5_atom_66 cl_X5_103 h16 (sX5_fail C l e14) (by omega) rfl rfl (Nat.le_of_ble_eq_true rfl) R1 R2 ?_
    have hR17 : d15 = dd := Option.some.inj hf
    exact sk_vret K dX5_atom_69 rfl rfl rfl hR17
  refine sk_aload_n K dX5_atom_0 rfl 0 rfl ?_
  obtain ⟨h20, hf⟩ := sk_ib hf
  obtain ⟨v18, e19, hf⟩ := sk_ob hf
  refine sk_callV (As := []) (st := []) K dX5_atom_1 cl_X5_61 h20 (sX5_kind C l e19) (by omega) rfl rfl (Nat.le_of_ble_eq_true rfl) R1 R2 ?_
  refine sk_sipush (200 : Int32) K dX5_atom_4 (by decide) ?_
  refine sk_icmp_ne 23 K dX5_atom_7 (by decide) (fun h21 => ?_) (fun h21 => ?_)
  · rw [if_neg h21] at hf
    refine sk_aload_n K dX5_atom_23 rfl 0 rfl ?_
    obtain ⟨h24, hf⟩ := sk_ib hf
    obtain ⟨v22, e23, hf⟩ := sk_ob hf
    refine sk_callV (As := []) (st := []) K dX5_atom_24 cl_X5_61 h24 (sX5_kind C l e23) (by omega) rfl rfl (Nat.le_of_ble_eq_true rfl) R1 R2 ?_
    refine sk_bipush (40 : Int32) K dX5_atom_27 (by decide) ?_
    refine sk_icmp_ne 39 K dX5_atom_29 (by decide) (fun h25 => ?_) (fun h25 => ?_)
    · rw [if_neg h25] at hf
      refine sk_aload_n K dX5_atom_39 rfl 0 rfl ?_
      obtain ⟨h28, hf⟩ := sk_ib hf
      obtain ⟨v26, e27, hf⟩ := sk_ob hf
      refine sk_callV (As := []) (st := []) K dX5_atom_40 cl_X5_61 h28 (sX5_kind C l e27) (by omega) rfl rfl (Nat.le_of_ble_eq_true rfl) R1 R2 ?_
      obtain ⟨v29, e30, hf⟩ := sk_ob hf
      refine sk_callS (As := [.int v26]) (st := []) K dX5_atom_43 cl_X5_220 (sX5_stepOf C l e30) (by omega) rfl rfl (Nat.le_of_ble_eq_true rfl) R1 R2 ?_
      refine sk_istore_n [(3, .int v29), (0, .ref p0), (1, .ref p1), (2, .int p2)] K dX5_atom_46 rfl (by decide) rfl ?_
      refine sk_iload_n K dX5_atom_47 rfl 0 rfl ?_
      refine sk_if_eq 64 K dX5_atom_48 (by decide) (fun h31 => ?_) (fun h31 => ?_)
      · rw [if_pos h31] at hf
        refine sk_sub [(0, .ref p0)] [1] rfl ?_
        have h9 := j64_0 _ hf
        exact h9
      · rw [if_neg h31] at hf
        refine sk_iload_n K dX5_atom_51 rfl 0 rfl ?_
        refine sk_bipush (-6 : Int32) K dX5_atom_52 (by decide) ?_
        refine sk_icmp_ne 70 K dX5_atom_54 (by decide) (fun h32 => ?_) (fun h32 => ?_)
        · rw [if_neg h32] at hf
          refine sk_sub [(0, .ref p0), (1, .ref p1), (3, .int v29)] [1, 2, 0] rfl ?_
          have h9 := j70_0 _ _ hf
          exact h9
        · rw [if_pos h32] at hf
          refine sk_aload_n K dX5_atom_57 rfl 1 rfl ?_
          obtain ⟨v33, e34, hf⟩ := sk_ob hf
          refine sk_getI K dX5_atom_58 fl_X5_41 rfl e34 ?_
          refine sk_if_ne 70 K dX5_atom_61 (by decide) (fun h35 => ?_) (fun h35 => ?_)
          · rw [if_neg h35] at hf
            refine sk_sub [(0, .ref p0), (1, .ref p1), (3, .int v29)] [1, 2, 0] rfl ?_
            have h9 := j70_0 _ _ hf
            exact h9
          · rw [if_pos h35] at hf
            refine sk_sub [(0, .ref p0)] [1] rfl ?_
            have h9 := j64_0 _ hf
            exact h9
    · rw [if_pos h25] at hf
      refine sk_aload_n K dX5_atom_32 rfl 0 rfl ?_
      refine sk_aload_n K dX5_atom_33 rfl 1 rfl ?_
      refine sk_iload_n K dX5_atom_34 rfl 2 rfl ?_
      obtain ⟨h39, hf⟩ := sk_ib hf
      obtain ⟨d38, e37, hf⟩ := sk_ob hf
      refine sk_callV (As := [.ref p1, .int p2]) (st := []) K dX5_atom_35 cl_X5_217 h39 (ih.2.2.2.2.2.2.2.1 _ _ _ _ _ e37) (by omega) rfl rfl (Nat.le_of_ble_eq_true rfl) R1 R2 ?_
      have hR40 : d38 = dd := Option.some.inj hf
      exact sk_vret K dX5_atom_38 rfl rfl rfl hR40
  · rw [if_pos h21] at hf
    refine sk_aload_n K dX5_atom_10 rfl 1 rfl ?_
    refine sk_aload_n K dX5_atom_11 rfl 0 rfl ?_
    refine sk_iconst (0 : Int32) K dX5_atom_12 (by decide) ?_
    refine sk_sipush (999 : Int32) K dX5_atom_13 (by decide) ?_
    obtain ⟨h44, hf⟩ := sk_ib hf
    obtain ⟨⟨v41, d43⟩, e42, hf⟩ := sk_ob hf
    try dsimp only at hf
    refine sk_callV (As := [.int (0 : Int32), .int (999 : Int32)]) (st := [.ref p1]) K dX5_atom_16 cl_X5_110 h44 (sX5_number C l e42) (by omega) rfl rfl (Nat.le_of_ble_eq_true rfl) R1 R2 ?_
    obtain ⟨h49, hf⟩ := sk_ib hf
    obtain ⟨d48, e47, hf⟩ := sk_ob hf
    refine sk_callV (As := [.int v41]) (st := []) K dX5_atom_19 cl_X5_196 h49 (sX1_step C l e47) (by omega) rfl rfl (Nat.le_of_ble_eq_true rfl) R1 R2 ?_
    have hR50 : d48 = dd := Option.some.inj hf
    exact sk_vret K dX5_atom_22 rfl rfl rfl hR50
set_option maxRecDepth 100000 in
set_option maxHeartbeats 4000000 in
theorem sX5_bracketed_o (C : sk_C) (l : Launch) {S : sk_S} (n : Nat) (ih : mX5 C l S n) {d : sk_D} {p0 : Nat} {p1 : Nat} {p2 : Int32} {dd : sk_D} (hf : fX5_bracketed_o (gX5 S n) S d p0 p1 p2 = some dd) : sk_Met C l (2 + (n + 1)) yX5_bracketed cX5_bracketed 3 none [.ref p0, .ref p1, .int p2] S d none S dd := by
  refine sk_Met.of (by decide) (Nat.le_of_ble_eq_true rfl) (Nat.le_refl _) (Nat.le_refl _) (fun X K0 hX => ?_)
  have K : sk_Ok X C cX5_bracketed 3 RX5 "bracketed" none (2 + (n + 1)) l none S dd := K0
  have R1 : X.2.2.2.2.2.2.2.2.2.2.2.1 ≤ S.1.1 ∧ X.2.2.2.2.2.2.2.2.2.2.2.2 ≤ S.1.2 := by rw [hX]; exact ⟨Nat.le_refl _, Nat.le_refl _⟩
  have R2 : S.1.1 ≤ S.1.1 ∧ S.1.2 ≤ S.1.2 := ⟨Nat.le_refl _, Nat.le_refl _⟩
  show sk_G X C 3 S d 0 [(0, .ref p0), (1, .ref p1), (2, .int p2)] []
  unfold fX5_bracketed_o at hf
  refine sk_iload_n K dX5_bracketed_0 rfl 2 rfl ?_
  refine sk_bipush (6 : Int32) K dX5_bracketed_1 (by decide) ?_
  refine sk_icmp_lt 12 K dX5_bracketed_3 (by decide) (fun h1 => ?_) (fun h1 => ?_)
  · rw [if_pos h1] at hf
    refine sk_aload_n K dX5_bracketed_12 rfl 0 rfl ?_
    obtain ⟨h5, hf⟩ := sk_ib hf
    obtain ⟨d4, e3, hf⟩ := sk_ob hf
    refine sk_callV (As := []) (st := []) K dX5_bracketed_13 cl_X5_100 h5 (sX5_next C l e3) (by omega) rfl rfl (Nat.le_of_ble_eq_true rfl) R1 R2 ?_
    refine sk_aload_n K dX5_bracketed_16 rfl 0 rfl ?_
    refine sk_aload_n K dX5_bracketed_17 rfl 1 rfl ?_
    refine sk_iload_n K dX5_bracketed_18 rfl 2 rfl ?_
    refine sk_iconst (1 : Int32) K dX5_bracketed_19 (by decide) ?_
    refine sk_iadd K dX5_bracketed_20 ?_
    obtain ⟨h9, hf⟩ := sk_ib hf
    obtain ⟨d8, e7, hf⟩ := sk_ob hf
    refine sk_callV (As := [.ref p1, .int (p2 + (1 : Int32))]) (st := []) K dX5_bracketed_21 cl_X5_208 h9 (ih.2.2.2.2.1 _ _ _ _ _ e7) (by omega) rfl rfl (Nat.le_of_ble_eq_true rfl) R1 R2 ?_
    refine sk_aload_n K dX5_bracketed_24 rfl 0 rfl ?_
    refine sk_bipush (41 : Int32) K dX5_bracketed_25 (by decide) ?_
    obtain ⟨h13, hf⟩ := sk_ib hf
    obtain ⟨d12, e11, hf⟩ := sk_ob hf
    refine sk_callV (As := [.int (41 : Int32)]) (st := []) K dX5_bracketed_27 cl_X5_107 h13 (sX5_expect C l e11) (by omega) rfl rfl (Nat.le_of_ble_eq_true rfl) R1 R2 ?_
    have hR14 : d12 = dd := Option.some.inj hf
    exact sk_vret K dX5_bracketed_30 rfl rfl rfl hR14
  · rw [if_neg h1] at hf
    refine sk_aload_n K dX5_bracketed_6 rfl 0 rfl ?_
    refine sk_iconst (4 : Int32) K dX5_bracketed_7 (by decide) ?_
    obtain ⟨h18, hf⟩ := sk_ib hf
    obtain ⟨d17, e16, hf⟩ := sk_ob hf
    refine sk_callV (As := [.int (4 : Int32)]) (st := []) K dX5_bracketed_8 cl_X5_103 h18 (sX5_fail C l e16) (by omega) rfl rfl (Nat.le_of_ble_eq_true rfl) R1 R2 ?_
    have hR19 : d17 = dd := Option.some.inj hf
    exact sk_vret K dX5_bracketed_11 rfl rfl rfl hR19
set_option maxRecDepth 100000 in
set_option maxHeartbeats 4000000 in
theorem sX5_negated_o (C : sk_C) (l : Launch) {S : sk_S} (n : Nat) (ih : mX5 C l S n) {d : sk_D} {p0 : Nat} {p1 : Nat} {p2 : Int32} {dd : sk_D} (hf : fX5_negated_o (gX5 S n) S d p0 p1 p2 = some dd) : sk_Met C l (2 + (n + 1)) yX5_negated cX5_negated 3 none [.ref p0, .ref p1, .int p2] S d none S dd := by
  refine sk_Met.of (by decide) (Nat.le_of_ble_eq_true rfl) (Nat.le_refl _) (Nat.le_refl _) (fun X K0 hX => ?_)
  have K : sk_Ok X C cX5_negated 3 RX5 "negated" none (2 + (n + 1)) l none S dd := K0
  have R1 : X.2.2.2.2.2.2.2.2.2.2.2.1 ≤ S.1.1 ∧ X.2.2.2.2.2.2.2.2.2.2.2.2 ≤ S.1.2 := by rw [hX]; exact ⟨Nat.le_refl _, Nat.le_refl _⟩
  have R2 : S.1.1 ≤ S.1.1 ∧ S.1.2 ≤ S.1.2 := ⟨Nat.le_refl _, Nat.le_refl _⟩
  show sk_G X C 3 S d 0 [(0, .ref p0), (1, .ref p1), (2, .int p2)] []
  unfold fX5_negated_o at hf
  refine sk_aload_n K dX5_negated_0 rfl 0 rfl ?_
  obtain ⟨h4, hf⟩ := sk_ib hf
  obtain ⟨d3, e2, hf⟩ := sk_ob hf
  refine sk_callV (As := []) (st := []) K dX5_negated_1 cl_X5_100 h4 (sX5_next C l e2) (by omega) rfl rfl (Nat.le_of_ble_eq_true rfl) R1 R2 ?_
  refine sk_aload_n K dX5_negated_4 rfl 0 rfl ?_
  refine sk_aload_n K dX5_negated_5 rfl 1 rfl ?_
  refine sk_iload_n K dX5_negated_6 rfl 2 rfl ?_
  refine sk_iconst (1 : Int32) K dX5_negated_7 (by decide) ?_
  refine sk_iadd K dX5_negated_8 ?_
  obtain ⟨h8, hf⟩ := sk_ib hf
  obtain ⟨d7, e6, hf⟩ := sk_ob hf
  refine sk_callV (As := [.ref p1, .int (p2 + (1 : Int32))]) (st := []) K dX5_negated_9 cl_X5_199 h8 (ih.2.2.1 _ _ _ _ _ e6) (by omega) rfl rfl (Nat.le_of_ble_eq_true rfl) R1 R2 ?_
  refine sk_aload_n K dX5_negated_12 rfl 1 rfl ?_
  refine sk_bipush (-15 : Int32) K dX5_negated_13 (by decide) ?_
  obtain ⟨h12, hf⟩ := sk_ib hf
  obtain ⟨d11, e10, hf⟩ := sk_ob hf
  refine sk_callV (As := [.int (-15 : Int32)]) (st := []) K dX5_negated_15 cl_X5_196 h12 (sX1_step C l e10) (by omega) rfl rfl (Nat.le_of_ble_eq_true rfl) R1 R2 ?_
  have hR13 : d11 = dd := Option.some.inj hf
  exact sk_vret K dX5_negated_18 rfl rfl rfl hR13
theorem gX5_all (C : sk_C) (l : Launch) (S : sk_S) : ∀ n : Nat, mX5 C l S n := by
  intro n
  induction n with
  | zero =>
    exact ⟨(fun _ _ _ _ _ hf => by cases hf), (fun _ _ _ _ _ hf => by cases hf), (fun _ _ _ _ _ hf => by cases hf), (fun _ _ _ _ _ hf => by cases hf), (fun _ _ _ _ _ hf => by cases hf), (fun _ _ _ _ _ hf => by cases hf), (fun _ _ _ _ _ hf => by cases hf), (fun _ _ _ _ _ hf => by cases hf), (fun _ _ _ _ _ hf => by cases hf)⟩
  | succ n ih =>
    exact ⟨(fun _ _ _ _ _ hf => sX5_truth_o C l n ih hf), (fun _ _ _ _ _ hf => sX5_both_o C l n ih hf), (fun _ _ _ _ _ hf => sX5_unit_o C l n ih hf), (fun _ _ _ _ _ hf => sX5_compared_o C l n ih hf), (fun _ _ _ _ _ hf => sX5_sum_o C l n ih hf), (fun _ _ _ _ _ hf => sX5_term_o C l n ih hf), (fun _ _ _ _ _ hf => sX5_atom_o C l n ih hf), (fun _ _ _ _ _ hf => sX5_bracketed_o C l n ih hf), (fun _ _ _ _ _ hf => sX5_negated_o C l n ih hf)⟩
noncomputable def fX5_truth (S : sk_S) (d : sk_D) (p0 : Nat) (p1 : Nat) (p2 : Int32) : Option (sk_D) := gX5 S 100 0 d p0 p1 p2
theorem sX5_truth (C : sk_C) (l : Launch) {S : sk_S} {d : sk_D} {p0 : Nat} {p1 : Nat} {p2 : Int32} {dd : sk_D} (hf : fX5_truth S d p0 p1 p2 = some dd) : sk_Met C l 102 yX5_truth cX5_truth 4 none [.ref p0, .ref p1, .int p2] S d none S dd := (gX5_all C l S 100).1 _ _ _ _ _ hf
noncomputable def fX5_both (S : sk_S) (d : sk_D) (p0 : Nat) (p1 : Nat) (p2 : Int32) : Option (sk_D) := gX5 S 100 1 d p0 p1 p2
theorem sX5_both (C : sk_C) (l : Launch) {S : sk_S} {d : sk_D} {p0 : Nat} {p1 : Nat} {p2 : Int32} {dd : sk_D} (hf : fX5_both S d p0 p1 p2 = some dd) : sk_Met C l 102 yX5_both cX5_both 4 none [.ref p0, .ref p1, .int p2] S d none S dd := (gX5_all C l S 100).2.1 _ _ _ _ _ hf
noncomputable def fX5_unit (S : sk_S) (d : sk_D) (p0 : Nat) (p1 : Nat) (p2 : Int32) : Option (sk_D) := gX5 S 100 2 d p0 p1 p2
theorem sX5_unit (C : sk_C) (l : Launch) {S : sk_S} {d : sk_D} {p0 : Nat} {p1 : Nat} {p2 : Int32} {dd : sk_D} (hf : fX5_unit S d p0 p1 p2 = some dd) : sk_Met C l 102 yX5_unit cX5_unit 4 none [.ref p0, .ref p1, .int p2] S d none S dd := (gX5_all C l S 100).2.2.1 _ _ _ _ _ hf
noncomputable def fX5_compared (S : sk_S) (d : sk_D) (p0 : Nat) (p1 : Nat) (p2 : Int32) : Option (sk_D) := gX5 S 100 3 d p0 p1 p2
theorem sX5_compared (C : sk_C) (l : Launch) {S : sk_S} {d : sk_D} {p0 : Nat} {p1 : Nat} {p2 : Int32} {dd : sk_D} (hf : fX5_compared S d p0 p1 p2 = some dd) : sk_Met C l 102 yX5_compared cX5_compared 4 none [.ref p0, .ref p1, .int p2] S d none S dd := (gX5_all C l S 100).2.2.2.1 _ _ _ _ _ hf
noncomputable def fX5_sum (S : sk_S) (d : sk_D) (p0 : Nat) (p1 : Nat) (p2 : Int32) : Option (sk_D) := gX5 S 100 4 d p0 p1 p2
theorem sX5_sum (C : sk_C) (l : Launch) {S : sk_S} {d : sk_D} {p0 : Nat} {p1 : Nat} {p2 : Int32} {dd : sk_D} (hf : fX5_sum S d p0 p1 p2 = some dd) : sk_Met C l 102 yX5_sum cX5_sum 5 none [.ref p0, .ref p1, .int p2] S d none S dd := (gX5_all C l S 100).2.2.2.2.1 _ _ _ _ _ hf
noncomputable def fX5_term (S : sk_S) (d : sk_D) (p0 : Nat) (p1 : Nat) (p2 : Int32) : Option (sk_D) := gX5 S 100 5 d p0 p1 p2
theorem sX5_term (C : sk_C) (l : Launch) {S : sk_S} {d : sk_D} {p0 : Nat} {p1 : Nat} {p2 : Int32} {dd : sk_D} (hf : fX5_term S d p0 p1 p2 = some dd) : sk_Met C l 102 yX5_term cX5_term 4 none [.ref p0, .ref p1, .int p2] S d none S dd := (gX5_all C l S 100).2.2.2.2.2.1 _ _ _ _ _ hf
noncomputable def fX5_atom (S : sk_S) (d : sk_D) (p0 : Nat) (p1 : Nat) (p2 : Int32) : Option (sk_D) := gX5 S 100 6 d p0 p1 p2
theorem sX5_atom (C : sk_C) (l : Launch) {S : sk_S} {d : sk_D} {p0 : Nat} {p1 : Nat} {p2 : Int32} {dd : sk_D} (hf : fX5_atom S d p0 p1 p2 = some dd) : sk_Met C l 102 yX5_atom cX5_atom 4 none [.ref p0, .ref p1, .int p2] S d none S dd := (gX5_all C l S 100).2.2.2.2.2.2.1 _ _ _ _ _ hf
noncomputable def fX5_bracketed (S : sk_S) (d : sk_D) (p0 : Nat) (p1 : Nat) (p2 : Int32) : Option (sk_D) := gX5 S 100 7 d p0 p1 p2
theorem sX5_bracketed (C : sk_C) (l : Launch) {S : sk_S} {d : sk_D} {p0 : Nat} {p1 : Nat} {p2 : Int32} {dd : sk_D} (hf : fX5_bracketed S d p0 p1 p2 = some dd) : sk_Met C l 102 yX5_bracketed cX5_bracketed 3 none [.ref p0, .ref p1, .int p2] S d none S dd := (gX5_all C l S 100).2.2.2.2.2.2.2.1 _ _ _ _ _ hf
noncomputable def fX5_negated (S : sk_S) (d : sk_D) (p0 : Nat) (p1 : Nat) (p2 : Int32) : Option (sk_D) := gX5 S 100 8 d p0 p1 p2
theorem sX5_negated (C : sk_C) (l : Launch) {S : sk_S} {d : sk_D} {p0 : Nat} {p1 : Nat} {p2 : Int32} {dd : sk_D} (hf : fX5_negated S d p0 p1 p2 = some dd) : sk_Met C l 102 yX5_negated cX5_negated 3 none [.ref p0, .ref p1, .int p2] S d none S dd := (gX5_all C l S 100).2.2.2.2.2.2.2.2 _ _ _ _ _ hf
