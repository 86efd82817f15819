noncomputable def fX11_fails (S : sk_S) (d : sk_D) (p0 : Nat) (p1 : Int32) : Option (sk_D) :=
  (sk_gI S d p0 10 11).bind fun v1 => if v1 = 0 then ((sk_gI S d p0 10 9).bind fun v4 => if v4 = (25 : Int32) then ((sk_pI S d p0 10 11 (1 : Int32)).bind fun d14 => (sk_gI S d14 p0 10 6).bind fun v16 => (sk_pI S d14 p0 10 12 v16).bind fun d18 => some d18) else ((sk_pI S d p0 10 11 p1).bind fun d7 => (sk_gI S d7 p0 10 6).bind fun v9 => (sk_pI S d7 p0 10 12 v9).bind fun d11 => some d11)) else (some d)
set_option maxRecDepth 100000 in
set_option maxHeartbeats 4000000 in
theorem sX11_fails (C : sk_C) (l : Launch) {S : sk_S} {d : sk_D} {p0 : Nat} {p1 : Int32} {dd : sk_D} (hf : fX11_fails S d p0 p1 = some dd) : sk_Met C l 0 yX11_fails cX11_fails 2 none [.ref p0, .int p1] S d none S dd := by
  refine sk_Met.of (by decide) (Nat.le_of_ble_eq_true rfl) (Nat.le_refl _) (Nat.le_refl _) (fun X K0 hX => ?_)
  have K : sk_Ok X C cX11_fails 2 RX11 "fails" none 0 l none S dd := K0
  have R1 : X.2.2.2.2.2.2.2.2.2.2.2.1 ≤ S.1.1 ∧ X.2.2.2.2.2.2.2.2.2.2.2.2 ≤ S.1.2 := by rw [hX]; exact ⟨Nat.le_refl _, Nat.le_refl _⟩
  have R2 : S.1.1 ≤ S.1.1 ∧ S.1.2 ≤ S.1.2 := ⟨Nat.le_refl _, Nat.le_refl _⟩
  show sk_G X C 2 S d 0 [(0, .ref p0), (1, .int p1)] []
  unfold fX11_fails at hf
  refine sk_aload_n K dX11_fails_0 rfl 0 rfl ?_
  obtain ⟨v1, e2, hf⟩ := sk_ob hf
  refine sk_getI K dX11_fails_1 fl_X11_134 rfl e2 ?_
  refine sk_if_eq 8 K dX11_fails_4 (by decide) (fun h3 => ?_) (fun h3 => ?_)
  · rw [if_pos h3] at hf
    refine sk_aload_n K dX11_fails_8 rfl 0 rfl ?_
    refine sk_aload_n K dX11_fails_9 rfl 0 rfl ?_
    obtain ⟨v4, e5, hf⟩ := sk_ob hf
    refine sk_getI K dX11_fails_10 fl_X11_116 rfl e5 ?_
    refine sk_bipush (25 : Int32) K dX11_fails_13 (by decide) ?_
    refine sk_icmp_ne 22 K dX11_fails_15 (by decide) (fun h6 => ?_) (fun h6 => ?_)
    · rw [if_neg h6] at hf
      refine sk_iload_n K dX11_fails_22 rfl 1 rfl ?_
      obtain ⟨d7, e8, hf⟩ := sk_ob hf
      refine sk_putI d7 K dX11_fails_23 fl_X11_134 rfl rfl rfl e8 ?_
      refine sk_aload_n K dX11_fails_26 rfl 0 rfl ?_
      refine sk_aload_n K dX11_fails_27 rfl 0 rfl ?_
      obtain ⟨v9, e10, hf⟩ := sk_ob hf
      refine sk_getI K dX11_fails_28 fl_X11_106 rfl e10 ?_
      obtain ⟨d11, e12, hf⟩ := sk_ob hf
      refine sk_putI d11 K dX11_fails_31 fl_X11_137 rfl rfl rfl e12 ?_
      have hR13 : d11 = dd := Option.some.inj hf
      exact sk_vret K dX11_fails_34 rfl rfl rfl hR13
    · rw [if_pos h6] at hf
      refine sk_iconst (1 : Int32) K dX11_fails_18 (by decide) ?_
      refine sk_goto 23 K dX11_fails_19 (by decide) ?_
      obtain ⟨d14, e15, hf⟩ := sk_ob hf
      refine sk_putI d14 K dX11_fails_23 fl_X11_134 rfl rfl rfl e15 ?_
      refine sk_aload_n K dX11_fails_26 rfl 0 rfl ?_
      refine sk_aload_n K dX11_fails_27 rfl 0 rfl ?_
      obtain ⟨v16, e17, hf⟩ := sk_ob hf
      refine sk_getI K dX11_fails_28 fl_X11_106 rfl e17 ?_
      obtain ⟨d18, e19, hf⟩ := sk_ob hf
      refine sk_putI d18 K dX11_fails_31 fl_X11_137 rfl rfl rfl e19 ?_
      have hR20 : d18 = dd := Option.some.inj hf
      exact sk_vret K dX11_fails_34 rfl rfl rfl hR20
  · rw [if_neg h3] at hf
    have hR21 : d = dd := Option.some.inj hf
    exact sk_vret K dX11_fails_7 rfl rfl rfl hR21
noncomputable def fX11_is (S : sk_S) (d : sk_D) (p0 : Nat) (p1 : Int32) : Option (Bool) :=
  (sk_gI S d p0 10 11).bind fun v1 => if v1 = 0 then ((sk_gI S d p0 10 9).bind fun v5 => if v5 = p1 then (some true) else (some false)) else (some false)
set_option maxRecDepth 100000 in
set_option maxHeartbeats 4000000 in
theorem sX11_is (C : sk_C) (l : Launch) {S : sk_S} {d : sk_D} {p0 : Nat} {p1 : Int32} {rr : Bool} (hf : fX11_is S d p0 p1 = some rr) : sk_Met C l 0 yX11_is cX11_is 2 (some .boolean) [.ref p0, .int p1] S d (some (.int (sk_b rr))) S d := by
  refine sk_Met.of (by decide) (Nat.le_of_ble_eq_true rfl) (Nat.le_refl _) (Nat.le_refl _) (fun X K0 hX => ?_)
  have K : sk_Ok X C cX11_is 2 RX11 "is" (some .boolean) 0 l (some (.int (sk_b rr))) S d := K0
  have R1 : X.2.2.2.2.2.2.2.2.2.2.2.1 ≤ S.1.1 ∧ X.2.2.2.2.2.2.2.2.2.2.2.2 ≤ S.1.2 := by rw [hX]; exact ⟨Nat.le_refl _, Nat.le_refl _⟩
  have R2 : S.1.1 ≤ S.1.1 ∧ S.1.2 ≤ S.1.2 := ⟨Nat.le_refl _, Nat.le_refl _⟩
  show sk_G X C 2 S d 0 [(0, .ref p0), (1, .int p1)] []
  unfold fX11_is at hf
  refine sk_aload_n K dX11_is_0 rfl 0 rfl ?_
  obtain ⟨v1, e2, hf⟩ := sk_ob hf
  refine sk_getI K dX11_is_1 fl_X11_134 rfl e2 ?_
  refine sk_if_ne 19 K dX11_is_4 (by decide) (fun h3 => ?_) (fun h3 => ?_)
  · rw [if_neg h3] at hf
    refine sk_iconst (0 : Int32) K dX11_is_19 (by decide) ?_
    have hR4 : false = rr := Option.some.inj hf
    exact sk_zret (x := false) K dX11_is_20 rfl rfl hR4 rfl rfl
  · rw [if_pos h3] at hf
    refine sk_aload_n K dX11_is_7 rfl 0 rfl ?_
    obtain ⟨v5, e6, hf⟩ := sk_ob hf
    refine sk_getI K dX11_is_8 fl_X11_116 rfl e6 ?_
    refine sk_iload_n K dX11_is_11 rfl 1 rfl ?_
    refine sk_icmp_ne 19 K dX11_is_12 (by decide) (fun h7 => ?_) (fun h7 => ?_)
    · rw [if_neg h7] at hf
      refine sk_iconst (0 : Int32) K dX11_is_19 (by decide) ?_
      have hR8 : false = rr := Option.some.inj hf
      exact sk_zret (x := false) K dX11_is_20 rfl rfl hR8 rfl rfl
    · rw [if_pos h7] at hf
      refine sk_iconst (1 : Int32) K dX11_is_15 (by decide) ?_
      refine sk_goto 20 K dX11_is_16 (by decide) ?_
      have hR9 : true = rr := Option.some.inj hf
      exact sk_zret (x := true) K dX11_is_20 rfl rfl hR9 rfl rfl
noncomputable def fX11_eats (S : sk_S) (d : sk_D) (p0 : Nat) (p1 : Int32) : Option (Bool × sk_D) :=
  if S.2.1 p0 = (10, 0) then ((fX11_is S d p0 p1).bind fun v1 => if v1 = true then (if S.2.1 p0 = (10, 0) then ((fX11_next S d p0).bind fun d7 => some (true, d7)) else none) else (some (false, d))) else none
set_option maxRecDepth 100000 in
set_option maxHeartbeats 4000000 in
theorem sX11_eats (C : sk_C) (l : Launch) {S : sk_S} {d : sk_D} {p0 : Nat} {p1 : Int32} {rr : Bool} {dd : sk_D} (hf : fX11_eats S d p0 p1 = some (rr, dd)) : sk_Met C l 9 yX11_eats cX11_eats 2 (some .boolean) [.ref p0, .int p1] S d (some (.int (sk_b rr))) S dd := by
  refine sk_Met.of (by decide) (Nat.le_of_ble_eq_true rfl) (Nat.le_refl _) (Nat.le_refl _) (fun X K0 hX => ?_)
  have K : sk_Ok X C cX11_eats 2 RX11 "eats" (some .boolean) 9 l (some (.int (sk_b rr))) S dd := K0
  have R1 : X.2.2.2.2.2.2.2.2.2.2.2.1 ≤ S.1.1 ∧ X.2.2.2.2.2.2.2.2.2.2.2.2 ≤ S.1.2 := by rw [hX]; exact ⟨Nat.le_refl _, Nat.le_refl _⟩
  have R2 : S.1.1 ≤ S.1.1 ∧ S.1.2 ≤ S.1.2 := ⟨Nat.le_refl _, Nat.le_refl _⟩
  show sk_G X C 2 S d 0 [(0, .ref p0), (1, .int p1)] []
  unfold fX11_eats at hf
  refine sk_aload_n K dX11_eats_0 rfl 0 rfl ?_
  refine sk_iload_n K dX11_eats_1 rfl 1 rfl ?_
  obtain ⟨h3, hf⟩ := sk_ib hf
  obtain ⟨v1, e2, hf⟩ := sk_ob hf
  refine sk_callV (As := [.int p1]) (st := []) K dX11_eats_2 cl_X11_140 h3 (sX11_is C l e2) (by decide) rfl rfl (Nat.le_of_ble_eq_true rfl) R1 R2 ?_
  refine sk_ifneB 10 K dX11_eats_5 (by decide) (fun h4 => ?_) (fun h4 => ?_)
  · rw [if_pos h4] at hf
    refine sk_aload_n K dX11_eats_10 rfl 0 rfl ?_
    obtain ⟨h8, hf⟩ := sk_ib hf
    obtain ⟨d7, e6, hf⟩ := sk_ob hf
    refine sk_callV (As := []) (st := []) K dX11_eats_11 cl_X11_143 h8 (sX11_next C l e6) (by decide) rfl rfl (Nat.le_of_ble_eq_true rfl) R1 R2 ?_
    refine sk_iconst (1 : Int32) K dX11_eats_14 (by decide) ?_
    have hR9 : (true, d7) = (rr, dd) := Option.some.inj hf
    exact sk_zret (x := true) K dX11_eats_15 rfl rfl (congrArg (fun z => z.1) hR9) rfl (congrArg (fun z => z.2) hR9)
  · rw [if_neg h4] at hf
    refine sk_iconst (0 : Int32) K dX11_eats_8 (by decide) ?_
    have hR10 : (false, d) = (rr, dd) := Option.some.inj hf
    exact sk_zret (x := false) K dX11_eats_9 rfl rfl (congrArg (fun z => z.1) hR10) rfl (congrArg (fun z => z.2) hR10)
noncomputable def fX11_takes_J37 (S : sk_S) (v1 : Nat) (d2 : sk_D) : Option (Int32 × sk_D) :=
  (sk_gI S d2 v1 10 10).bind fun v3 => (sk_gI S d2 v1 10 11).bind fun v5 => if v5 = 0 then (if S.2.1 v1 = (10, 0) then ((fX11_next S d2 v1).bind fun d11 => some (v3, d11)) else none) else (some (v3, d2))
noncomputable def fX11_takes (S : sk_S) (d : sk_D) (p0 : Nat) (p1 : Int32) (p2 : Int32) : Option (Int32 × sk_D) :=
  if S.2.1 p0 = (10, 0) then ((fX11_is S d p0 (23 : Int32)).bind fun v14 => if v14 = true then ((sk_gI S d p0 10 10).bind fun v18 => (fX11_within S d v18.toInt64 p1.toInt64 p2.toInt64).bind fun v20 => if v20 = true then (fX11_takes_J37 S p0 d) else (if S.2.1 p0 = (10, 0) then ((fX11_fails S d p0 (3 : Int32)).bind fun d25 => fX11_takes_J37 S p0 d25) else none)) else (if S.2.1 p0 = (10, 0) then ((fX11_fails S d p0 (2 : Int32)).bind fun d29 => fX11_takes_J37 S p0 d29) else none)) else none
set_option maxRecDepth 100000 in
set_option maxHeartbeats 4000000 in
theorem sX11_takes (C : sk_C) (l : Launch) {S : sk_S} {d : sk_D} {p0 : Nat} {p1 : Int32} {p2 : Int32} {rr : Int32} {dd : sk_D} (hf : fX11_takes S d p0 p1 p2 = some (rr, dd)) : sk_Met C l 9 yX11_takes cX11_takes 4 (some .int) [.ref p0, .int p1, .int p2] S d (some (.int rr)) S dd := by
  refine sk_Met.of (by decide) (Nat.le_of_ble_eq_true rfl) (Nat.le_refl _) (Nat.le_refl _) (fun X K0 hX => ?_)
  have K : sk_Ok X C cX11_takes 4 RX11 "takes" (some .int) 9 l (some (.int rr)) S dd := K0
  have R1 : X.2.2.2.2.2.2.2.2.2.2.2.1 ≤ S.1.1 ∧ X.2.2.2.2.2.2.2.2.2.2.2.2 ≤ S.1.2 := by rw [hX]; exact ⟨Nat.le_refl _, Nat.le_refl _⟩
  have R2 : S.1.1 ≤ S.1.1 ∧ S.1.2 ≤ S.1.2 := ⟨Nat.le_refl _, Nat.le_refl _⟩
  show sk_G X C 4 S d 0 [(0, .ref p0), (1, .int p1), (2, .int p2)] []
  unfold fX11_takes at hf
  have j37_0 : ∀ (v1 : Nat) (d2 : sk_D), fX11_takes_J37 S v1 d2 = some (rr, dd) → sk_G X C 4 S d2 37 [(0, .ref v1)] [] := by
    intro v1 d2 hf
    unfold fX11_takes_J37 at hf
    refine sk_aload_n K dX11_takes_37 rfl 0 rfl ?_
    obtain ⟨v3, e4, hf⟩ := sk_ob hf
    refine sk_getI K dX11_takes_38 fl_X11_129 rfl e4 ?_
    refine sk_istore_n [(3, .int v3), (0, .ref v1)] K dX11_takes_41 rfl (by decide) rfl ?_
    refine sk_aload_n K dX11_takes_42 rfl 1 rfl ?_
    obtain ⟨v5, e6, hf⟩ := sk_ob hf
    refine sk_getI K dX11_takes_43 fl_X11_134 rfl e6 ?_
    refine sk_if_ne 53 K dX11_takes_46 (by decide) (fun h7 => ?_) (fun h7 => ?_)
    · rw [if_neg h7] at hf
      refine sk_iload_n K dX11_takes_53 rfl 0 rfl ?_
      have hR8 : (v3, d2) = (rr, dd) := Option.some.inj hf
      exact sk_iret K dX11_takes_54 rfl rfl (congrArg (fun z => z.1) hR8) rfl (congrArg (fun z => z.2) hR8)
    · rw [if_pos h7] at hf
      refine sk_aload_n K dX11_takes_49 rfl 1 rfl ?_
      obtain ⟨h12, hf⟩ := sk_ib hf
      obtain ⟨d11, e10, hf⟩ := sk_ob hf
      refine sk_callV (As := []) (st := []) K dX11_takes_50 cl_X11_143 h12 (sX11_next C l e10) (by decide) rfl rfl (Nat.le_of_ble_eq_true rfl) R1 R2 ?_
      refine sk_iload_n K dX11_takes_53 rfl 0 rfl ?_
      have hR13 : (v3, d11) = (rr, dd) := Option.some.inj hf
      exact sk_iret K dX11_takes_54 rfl rfl (congrArg (fun z => z.1) hR13) rfl (congrArg (fun z => z.2) hR13)
  refine sk_aload_n K dX11_takes_0 rfl 0 rfl ?_
  refine sk_bipush (23 : Int32) K dX11_takes_1 (by decide) ?_
  obtain ⟨h16, hf⟩ := sk_ib hf
  obtain ⟨v14, e15, hf⟩ := sk_ob hf
  refine sk_callV (As := [.int (23 : Int32)]) (st := []) K dX11_takes_3 cl_X11_140 h16 (sX11_is C l e15) (by decide) rfl rfl (Nat.le_of_ble_eq_true rfl) R1 R2 ?_
  refine sk_ifneB 17 K dX11_takes_6 (by decide) (fun h17 => ?_) (fun h17 => ?_)
  · rw [if_pos h17] at hf
    refine sk_aload_n K dX11_takes_17 rfl 0 rfl ?_
    obtain ⟨v18, e19, hf⟩ := sk_ob hf
    refine sk_getI K dX11_takes_18 fl_X11_129 rfl e19 ?_
    refine sk_i2l K dX11_takes_21 ?_
    refine sk_iload_n K dX11_takes_22 rfl 1 rfl ?_
    refine sk_i2l K dX11_takes_23 ?_
    refine sk_iload_n K dX11_takes_24 rfl 2 rfl ?_
    refine sk_i2l K dX11_takes_25 ?_
    obtain ⟨v20, e21, hf⟩ := sk_ob hf
    refine sk_callS (As := [.long v18.toInt64, .long p1.toInt64, .long p2.toInt64]) (st := []) K dX11_takes_26 cl_X11_150 (sX11_within C l e21) (by decide) rfl rfl (Nat.le_of_ble_eq_true rfl) R1 R2 ?_
    refine sk_ifneB 37 K dX11_takes_29 (by decide) (fun h22 => ?_) (fun h22 => ?_)
    · rw [if_pos h22] at hf
      refine sk_sub [(0, .ref p0)] [0] rfl ?_
      have h9 := j37_0 _ _ hf
      exact h9
    · rw [if_neg h22] at hf
      refine sk_aload_n K dX11_takes_32 rfl 0 rfl ?_
      refine sk_iconst (3 : Int32) K dX11_takes_33 (by decide) ?_
      obtain ⟨h26, hf⟩ := sk_ib hf
      obtain ⟨d25, e24, hf⟩ := sk_ob hf
      refine sk_callV (As := [.int (3 : Int32)]) (st := []) K dX11_takes_34 cl_X11_146 h26 (sX11_fails C l e24) (by decide) rfl rfl (Nat.le_of_ble_eq_true rfl) R1 R2 ?_
      refine sk_sub [(0, .ref p0)] [0] rfl ?_
      have h9 := j37_0 _ _ hf
      exact h9
  · rw [if_neg h17] at hf
    refine sk_aload_n K dX11_takes_9 rfl 0 rfl ?_
    refine sk_iconst (2 : Int32) K dX11_takes_10 (by decide) ?_
    obtain ⟨h30, hf⟩ := sk_ib hf
    obtain ⟨d29, e28, hf⟩ := sk_ob hf
    refine sk_callV (As := [.int (2 : Int32)]) (st := []) K dX11_takes_11 cl_X11_146 h30 (sX11_fails C l e28) (by decide) rfl rfl (Nat.le_of_ble_eq_true rfl) R1 R2 ?_
    refine sk_goto 37 K dX11_takes_14 (by decide) ?_
    refine sk_sub [(0, .ref p0)] [0] rfl ?_
    have h9 := j37_0 _ _ hf
    exact h9
noncomputable def fX11_isIn (S : sk_S) (d : sk_D) (p0 : Int64) (p2 : Int32) : Option (Bool) :=
  if ((p0 >>> (p2.toInt64 &&& 63)) &&& (1 : Int64)) = (1 : Int64) then (some true) else (some false)
set_option maxRecDepth 100000 in
set_option maxHeartbeats 4000000 in
theorem sX11_isIn (C : sk_C) (l : Launch) {S : sk_S} {d : sk_D} {p0 : Int64} {p2 : Int32} {rr : Bool} (hf : fX11_isIn S d p0 p2 = some rr) : sk_Met C l 0 yX11_isIn cX11_isIn 3 (some .boolean) [.long p0, .int p2] S d (some (.int (sk_b rr))) S d := by
  refine sk_Met.of (by decide) (Nat.le_of_ble_eq_true rfl) (Nat.le_refl _) (Nat.le_refl _) (fun X K0 hX => ?_)
  have K : sk_Ok X C cX11_isIn 3 RX11 "isIn" (some .boolean) 0 l (some (.int (sk_b rr))) S d := K0
  have R1 : X.2.2.2.2.2.2.2.2.2.2.2.1 ≤ S.1.1 ∧ X.2.2.2.2.2.2.2.2.2.2.2.2 ≤ S.1.2 := by rw [hX]; exact ⟨Nat.le_refl _, Nat.le_refl _⟩
  have R2 : S.1.1 ≤ S.1.1 ∧ S.1.2 ≤ S.1.2 := ⟨Nat.le_refl _, Nat.le_refl _⟩
  show sk_G X C 3 S d 0 [(0, .long p0), (2, .int p2)] []
  unfold fX11_isIn at hf
  refine sk_lload_n K dX11_isIn_0 rfl 0 rfl ?_
  refine sk_iload_n K dX11_isIn_1 rfl 1 rfl ?_
  refine sk_lshr K dX11_isIn_2 ?_
  refine sk_lconst (1 : Int64) K dX11_isIn_3 (by decide) ?_
  refine sk_land K dX11_isIn_4 ?_
  refine sk_lconst (1 : Int64) K dX11_isIn_5 (by decide) ?_
  refine sk_lcmp_ne 14 K dX11_isIn_6 dX11_isIn_7 (by decide) (fun h1 => ?_) (fun h1 => ?_)
  · rw [if_neg h1] at hf
    refine sk_iconst (0 : Int32) K dX11_isIn_14 (by decide) ?_
    have hR2 : false = rr := Option.some.inj hf
    exact sk_zret (x := false) K dX11_isIn_15 rfl rfl hR2 rfl rfl
  · rw [if_pos h1] at hf
    refine sk_iconst (1 : Int32) K dX11_isIn_10 (by decide) ?_
    refine sk_goto 15 K dX11_isIn_11 (by decide) ?_
    have hR3 : true = rr := Option.some.inj hf
    exact sk_zret (x := true) K dX11_isIn_15 rfl rfl hR3 rfl rfl
noncomputable def fX11_wordOf (S : sk_S) (d : sk_D) (p0 : Nat) (p1 : Int32) : Option (Int32) :=
  if p1 = (2 : Int32) then (some (0 : Int32)) else (if p1 = (3 : Int32) then (some (1 : Int32)) else (if p1 = (4 : Int32) then (some (2 : Int32)) else (if p1 = (5 : Int32) then (some (-1 : Int32)) else (if p1 = (6 : Int32) then (some (-1 : Int32)) else (if p1 = (7 : Int32) then (some (-1 : Int32)) else (if p1 = (8 : Int32) then (some (-1 : Int32)) else (if p1 = (9 : Int32) then (some (-1 : Int32)) else (if p1 = (10 : Int32) then (some (-1 : Int32)) else (if p1 = (11 : Int32) then ((sk_gI S d p0 10 15).bind fun v20 => if v20 = (1 : Int32) then (some (5 : Int32)) else (some (-1 : Int32))) else (if p1 = (12 : Int32) then (some (-1 : Int32)) else (if p1 = (13 : Int32) then (some (-1 : Int32)) else (if p1 = (14 : Int32) then (some (3 : Int32)) else (if p1 = (15 : Int32) then (some (4 : Int32)) else (some (-1 : Int32)))))))))))))))
set_option maxRecDepth 100000 in
set_option maxHeartbeats 4000000 in
theorem sX11_wordOf (C : sk_C) (l : Launch) {S : sk_S} {d : sk_D} {p0 : Nat} {p1 : Int32} {rr : Int32} (hf : fX11_wordOf S d p0 p1 = some rr) : sk_Met C l 0 yX11_wordOf cX11_wordOf 2 (some .int) [.ref p0, .int p1] S d (some (.int rr)) S d := by
  refine sk_Met.of (by decide) (Nat.le_of_ble_eq_true rfl) (Nat.le_refl _) (Nat.le_refl _) (fun X K0 hX => ?_)
  have K : sk_Ok X C cX11_wordOf 2 RX11 "wordOf" (some .int) 0 l (some (.int rr)) S d := K0
  have R1 : X.2.2.2.2.2.2.2.2.2.2.2.1 ≤ S.1.1 ∧ X.2.2.2.2.2.2.2.2.2.2.2.2 ≤ S.1.2 := by rw [hX]; exact ⟨Nat.le_refl _, Nat.le_refl _⟩
  have R2 : S.1.1 ≤ S.1.1 ∧ S.1.2 ≤ S.1.2 := ⟨Nat.le_refl _, Nat.le_refl _⟩
  show sk_G X C 2 S d 0 [(0, .ref p0), (1, .int p1)] []
  unfold fX11_wordOf at hf
  refine sk_iload_n K dX11_wordOf_0 rfl 1 rfl ?_
  by_cases h1 : p1 = (2 : Int32)
  · rw [if_pos h1] at hf
    refine sk_tsIn (2 : Int32) (71) 72 K dX11_wordOf_1 h1 (by decide) (by decide) rfl (by decide) ?_
    refine sk_iconst (0 : Int32) K dX11_wordOf_72 (by decide) ?_
    have hR2 : (0 : Int32) = rr := Option.some.inj hf
    exact sk_iret K dX11_wordOf_73 rfl rfl hR2 rfl rfl
  · rw [if_neg h1] at hf
    by_cases h3 : p1 = (3 : Int32)
    · rw [if_pos h3] at hf
      refine sk_tsIn (3 : Int32) (73) 74 K dX11_wordOf_1 h3 (by decide) (by decide) rfl (by decide) ?_
      refine sk_iconst (1 : Int32) K dX11_wordOf_74 (by decide) ?_
      have hR4 : (1 : Int32) = rr := Option.some.inj hf
      exact sk_iret K dX11_wordOf_75 rfl rfl hR4 rfl rfl
    · rw [if_neg h3] at hf
      by_cases h5 : p1 = (4 : Int32)
      · rw [if_pos h5] at hf
        refine sk_tsIn (4 : Int32) (75) 76 K dX11_wordOf_1 h5 (by decide) (by decide) rfl (by decide) ?_
        refine sk_iconst (2 : Int32) K dX11_wordOf_76 (by decide) ?_
        have hR6 : (2 : Int32) = rr := Option.some.inj hf
        exact sk_iret K dX11_wordOf_77 rfl rfl hR6 rfl rfl
      · rw [if_neg h5] at hf
        by_cases h7 : p1 = (5 : Int32)
        · rw [if_pos h7] at hf
          refine sk_tsIn (5 : Int32) (95) 96 K dX11_wordOf_1 h7 (by decide) (by decide) rfl (by decide) ?_
          refine sk_iconst (-1 : Int32) K dX11_wordOf_96 (by decide) ?_
          have hR8 : (-1 : Int32) = rr := Option.some.inj hf
          exact sk_iret K dX11_wordOf_97 rfl rfl hR8 rfl rfl
        · rw [if_neg h7] at hf
          by_cases h9 : p1 = (6 : Int32)
          · rw [if_pos h9] at hf
            refine sk_tsIn (6 : Int32) (95) 96 K dX11_wordOf_1 h9 (by decide) (by decide) rfl (by decide) ?_
            refine sk_iconst (-1 : Int32) K dX11_wordOf_96 (by decide) ?_
            have hR10 : (-1 : Int32) = rr := Option.some.inj hf
            exact sk_iret K dX11_wordOf_97 rfl rfl hR10 rfl rfl
          · rw [if_neg h9] at hf
            by_cases h11 : p1 = (7 : Int32)
            · rw [if_pos h11] at hf
              refine sk_tsIn (7 : Int32) (95) 96 K dX11_wordOf_1 h11 (by decide) (by decide) rfl (by decide) ?_
              refine sk_iconst (-1 : Int32) K dX11_wordOf_96 (by decide) ?_
              have hR12 : (-1 : Int32) = rr := Option.some.inj hf
              exact sk_iret K dX11_wordOf_97 rfl rfl hR12 rfl rfl
            · rw [if_neg h11] at hf
              by_cases h13 : p1 = (8 : Int32)
              · rw [if_pos h13] at hf
                refine sk_tsIn (8 : Int32) (95) 96 K dX11_wordOf_1 h13 (by decide) (by decide) rfl (by decide) ?_
                refine sk_iconst (-1 : Int32) K dX11_wordOf_96 (by decide) ?_
                have hR14 : (-1 : Int32) = rr := Option.some.inj hf
                exact sk_iret K dX11_wordOf_97 rfl rfl hR14 rfl rfl
              · rw [if_neg h13] at hf
                by_cases h15 : p1 = (9 : Int32)
                · rw [if_pos h15] at hf
                  refine sk_tsIn (9 : Int32) (95) 96 K dX11_wordOf_1 h15 (by decide) (by decide) rfl (by decide) ?_
                  refine sk_iconst (-1 : Int32) K dX11_wordOf_96 (by decide) ?_
                  have hR16 : (-1 : Int32) = rr := Option.some.inj hf
                  exact sk_iret K dX11_wordOf_97 rfl rfl hR16 rfl rfl
                · rw [if_neg h15] at hf
                  by_cases h17 : p1 = (10 : Int32)
                  · rw [if_pos h17] at hf
                    refine sk_tsIn (10 : Int32) (95) 96 K dX11_wordOf_1 h17 (by decide) (by decide) rfl (by decide) ?_
                    refine sk_iconst (-1 : Int32) K dX11_wordOf_96 (by decide) ?_
                    have hR18 : (-1 : Int32) = rr := Option.some.inj hf
                    exact sk_iret K dX11_wordOf_97 rfl rfl hR18 rfl rfl
                  · rw [if_neg h17] at hf
                    by_cases h19 : p1 = (11 : Int32)
                    · rw [if_pos h19] at hf
                      refine sk_tsIn (11 : Int32) (81) 82 K dX11_wordOf_1 h19 (by decide) (by decide) rfl (by decide) ?_
                      refine sk_aload_n K dX11_wordOf_82 rfl 0 rfl ?_
                      obtain ⟨v20, e21, hf⟩ := sk_ob hf
                      refine sk_getI K dX11_wordOf_83 fl_X11_154 rfl e21 ?_
                      refine sk_iconst (1 : Int32) K dX11_wordOf_86 (by decide) ?_
                      refine sk_icmp_ne 94 K dX11_wordOf_87 (by decide) (fun h22 => ?_) (fun h22 => ?_)
                      · rw [if_neg h22] at hf
                        refine sk_iconst (-1 : Int32) K dX11_wordOf_94 (by decide) ?_
                        have hR23 : (-1 : Int32) = rr := Option.some.inj hf
                        exact sk_iret K dX11_wordOf_95 rfl rfl hR23 rfl rfl
                      · rw [if_pos h22] at hf
                        refine sk_iconst (5 : Int32) K dX11_wordOf_90 (by decide) ?_
                        refine sk_goto 95 K dX11_wordOf_91 (by decide) ?_
                        have hR24 : (5 : Int32) = rr := Option.some.inj hf
                        exact sk_iret K dX11_wordOf_95 rfl rfl hR24 rfl rfl
                    · rw [if_neg h19] at hf
                      by_cases h25 : p1 = (12 : Int32)
                      · rw [if_pos h25] at hf
                        refine sk_tsIn (12 : Int32) (95) 96 K dX11_wordOf_1 h25 (by decide) (by decide) rfl (by decide) ?_
                        refine sk_iconst (-1 : Int32) K dX11_wordOf_96 (by decide) ?_
                        have hR26 : (-1 : Int32) = rr := Option.some.inj hf
                        exact sk_iret K dX11_wordOf_97 rfl rfl hR26 rfl rfl
                      · rw [if_neg h25] at hf
                        by_cases h27 : p1 = (13 : Int32)
                        · rw [if_pos h27] at hf
                          refine sk_tsIn (13 : Int32) (95) 96 K dX11_wordOf_1 h27 (by decide) (by decide) rfl (by decide) ?_
                          refine sk_iconst (-1 : Int32) K dX11_wordOf_96 (by decide) ?_
                          have hR28 : (-1 : Int32) = rr := Option.some.inj hf
                          exact sk_iret K dX11_wordOf_97 rfl rfl hR28 rfl rfl
                        · rw [if_neg h27] at hf
                          by_cases h29 : p1 = (14 : Int32)
                          · rw [if_pos h29] at hf
                            refine sk_tsIn (14 : Int32) (77) 78 K dX11_wordOf_1 h29 (by decide) (by decide) rfl (by decide) ?_
                            refine sk_iconst (3 : Int32) K dX11_wordOf_78 (by decide) ?_
                            have hR30 : (3 : Int32) = rr := Option.some.inj hf
                            exact sk_iret K dX11_wordOf_79 rfl rfl hR30 rfl rfl
                          · rw [if_neg h29] at hf
                            by_cases h31 : p1 = (15 : Int32)
                            · rw [if_pos h31] at hf
                              refine sk_tsIn (15 : Int32) (79) 80 K dX11_wordOf_1 h31 (by decide) (by decide) rfl (by decide) ?_
                              refine sk_iconst (4 : Int32) K dX11_wordOf_80 (by decide) ?_
                              have hR32 : (4 : Int32) = rr := Option.some.inj hf
                              exact sk_iret K dX11_wordOf_81 rfl rfl hR32 rfl rfl
                            · rw [if_neg h31] at hf
                              refine sk_tsOut 96 K dX11_wordOf_1 (sk_tsout (2) 14 [(2 : Int32), (3 : Int32), (4 : Int32), (5 : Int32), (6 : Int32), (7 : Int32), (8 : Int32), (9 : Int32), (10 : Int32), (11 : Int32), (12 : Int32), (13 : Int32), (14 : Int32), (15 : Int32)] (by decide) (by simp [h1, h3, h5, h7, h9, h11, h13, h15, h17, h19, h25, h27, h29, h31])) (by decide) ?_
                              refine sk_iconst (-1 : Int32) K dX11_wordOf_96 (by decide) ?_
                              have hR33 : (-1 : Int32) = rr := Option.some.inj hf
                              exact sk_iret K dX11_wordOf_97 rfl rfl hR33 rfl rfl
noncomputable def fX11_codes (S : sk_S) (d : sk_D) (p0 : Nat) (p1 : Int32) : Option (sk_D) :=
  (sk_gI S d p0 10 11).bind fun v1 => if v1 = 0 then ((sk_gR S p0 10 4).bind fun v4 => (sk_gR S p0 10 4).bind fun v6 => (sk_lI S d v6 20 (174 : Int32)).bind fun v8 => (sk_sI S d v4 20 ((175 : Int32) + v8) p1).bind fun d10 => (sk_gR S p0 10 4).bind fun v12 => (sk_lI S d10 v12 20 (174 : Int32)).bind fun v14 => (sk_sI S d10 v12 20 (174 : Int32) (v14 + (1 : Int32))).bind fun d16 => some d16) else (some d)
set_option maxRecDepth 100000 in
set_option maxHeartbeats 4000000 in
theorem sX11_codes (C : sk_C) (l : Launch) {S : sk_S} {d : sk_D} {p0 : Nat} {p1 : Int32} {dd : sk_D} (hf : fX11_codes S d p0 p1 = some dd) : sk_Met C l 0 yX11_codes cX11_codes 2 none [.ref p0, .int p1] S d none S dd := by
  refine sk_Met.of (by decide) (Nat.le_of_ble_eq_true rfl) (Nat.le_refl _) (Nat.le_refl _) (fun X K0 hX => ?_)
  have K : sk_Ok X C cX11_codes 2 RX11 "codes" none 0 l none S dd := K0
  have R1 : X.2.2.2.2.2.2.2.2.2.2.2.1 ≤ S.1.1 ∧ X.2.2.2.2.2.2.2.2.2.2.2.2 ≤ S.1.2 := by rw [hX]; exact ⟨Nat.le_refl _, Nat.le_refl _⟩
  have R2 : S.1.1 ≤ S.1.1 ∧ S.1.2 ≤ S.1.2 := ⟨Nat.le_refl _, Nat.le_refl _⟩
  show sk_G X C 2 S d 0 [(0, .ref p0), (1, .int p1)] []
  unfold fX11_codes at hf
  refine sk_aload_n K dX11_codes_0 rfl 0 rfl ?_
  obtain ⟨v1, e2, hf⟩ := sk_ob hf
  refine sk_getI K dX11_codes_1 fl_X11_134 rfl e2 ?_
  refine sk_if_eq 8 K dX11_codes_4 (by decide) (fun h3 => ?_) (fun h3 => ?_)
  · rw [if_pos h3] at hf
    refine sk_aload_n K dX11_codes_8 rfl 0 rfl ?_
    obtain ⟨v4, e5, hf⟩ := sk_ob hf
    refine sk_getR K dX11_codes_9 fl_X11_24 rfl e5 ?_
    refine sk_sipush (175 : Int32) K dX11_codes_12 (by decide) ?_
    refine sk_aload_n K dX11_codes_15 rfl 0 rfl ?_
    obtain ⟨v6, e7, hf⟩ := sk_ob hf
    refine sk_getR K dX11_codes_16 fl_X11_24 rfl e7 ?_
    refine sk_sipush (174 : Int32) K dX11_codes_19 (by decide) ?_
    obtain ⟨v8, e9, hf⟩ := sk_ob hf
    refine sk_ald20 K dX11_codes_22 e9 ?_
    refine sk_iadd K dX11_codes_23 ?_
    refine sk_iload_n K dX11_codes_24 rfl 1 rfl ?_
    obtain ⟨d10, e11, hf⟩ := sk_ob hf
    refine sk_ast20 d10 K dX11_codes_25 e11 ?_
    refine sk_aload_n K dX11_codes_26 rfl 0 rfl ?_
    obtain ⟨v12, e13, hf⟩ := sk_ob hf
    refine sk_getR K dX11_codes_27 fl_X11_24 rfl e13 ?_
    refine sk_sipush (174 : Int32) K dX11_codes_30 (by decide) ?_
    refine sk_dup2 K dX11_codes_33 rfl rfl ?_
    obtain ⟨v14, e15, hf⟩ := sk_ob hf
    refine sk_ald20 K dX11_codes_34 e15 ?_
    refine sk_iconst (1 : Int32) K dX11_codes_35 (by decide) ?_
    refine sk_iadd K dX11_codes_36 ?_
    obtain ⟨d16, e17, hf⟩ := sk_ob hf
    refine sk_ast20 d16 K dX11_codes_37 e17 ?_
    have hR18 : d16 = dd := Option.some.inj hf
    exact sk_vret K dX11_codes_38 rfl rfl rfl hR18
  · rw [if_neg h3] at hf
    have hR19 : d = dd := Option.some.inj hf
    exact sk_vret K dX11_codes_7 rfl rfl rfl hR19
noncomputable def fX11_goesIn_J11 (S : sk_S) (v1 : Nat) (d2 : sk_D) : Option (Bool × sk_D) :=
  (sk_gI S d2 v1 10 11).bind fun v3 => if v3 = 0 then (if S.2.1 v1 = (10, 0) then ((fX11_next S d2 v1).bind fun d13 => (sk_gI S d13 v1 10 11).bind fun v15 => if v15 = 0 then (some (true, d13)) else (some (false, d13))) else none) else ((sk_gI S d2 v1 10 11).bind fun v6 => if v6 = 0 then (some (true, d2)) else (some (false, d2)))
noncomputable def fX11_goesIn (S : sk_S) (d : sk_D) (p0 : Nat) (p1 : Int32) : Option (Bool × sk_D) :=
  if p1 = (6 : Int32) then (if S.2.1 p0 = (10, 0) then ((fX11_fails S d p0 (4 : Int32)).bind fun d23 => fX11_goesIn_J11 S p0 d23) else none) else (fX11_goesIn_J11 S p0 d)
set_option maxRecDepth 100000 in
set_option maxHeartbeats 4000000 in
theorem sX11_goesIn (C : sk_C) (l : Launch) {S : sk_S} {d : sk_D} {p0 : Nat} {p1 : Int32} {rr : Bool} {dd : sk_D} (hf : fX11_goesIn S d p0 p1 = some (rr, dd)) : sk_Met C l 9 yX11_goesIn cX11_goesIn 2 (some .boolean) [.ref p0, .int p1] S d (some (.int (sk_b rr))) S dd := by
  refine sk_Met.of (by decide) (Nat.le_of_ble_eq_true rfl) (Nat.le_refl _) (Nat.le_refl _) (fun X K0 hX => ?_)
  have K : sk_Ok X C cX11_goesIn 2 RX11 "goesIn" (some .boolean) 9 l (some (.int (sk_b rr))) S dd := K0
  have R1 : X.2.2.2.2.2.2.2.2.2.2.2.1 ≤ S.1.1 ∧ X.2.2.2.2.2.2.2.2.2.2.2.2 ≤ S.1.2 := by rw [hX]; exact ⟨Nat.le_refl _, Nat.le_refl _⟩
  have R2 : S.1.1 ≤ S.1.1 ∧ S.1.2 ≤ S.1.2 := ⟨Nat.le_refl _, Nat.le_refl _⟩
  show sk_G X C 2 S d 0 [(0, .ref p0), (1, .int p1)] []
  unfold fX11_goesIn at hf
  have j11_0 : ∀ (v1 : Nat) (d2 : sk_D), fX11_goesIn_J11 S v1 d2 = some (rr, dd) → sk_G X C 2 S d2 11 [(0, .ref v1)] [] := by
    intro v1 d2 hf
    unfold fX11_goesIn_J11 at hf
    refine sk_aload_n K dX11_goesIn_11 rfl 0 rfl ?_
    obtain ⟨v3, e4, hf⟩ := sk_ob hf
    refine sk_getI K dX11_goesIn_12 fl_X11_134 rfl e4 ?_
    refine sk_if_ne 22 K dX11_goesIn_15 (by decide) (fun h5 => ?_) (fun h5 => ?_)
    · rw [if_neg h5] at hf
      refine sk_aload_n K dX11_goesIn_22 rfl 0 rfl ?_
      obtain ⟨v6, e7, hf⟩ := sk_ob hf
      refine sk_getI K dX11_goesIn_23 fl_X11_134 rfl e7 ?_
      refine sk_if_ne 33 K dX11_goesIn_26 (by decide) (fun h8 => ?_) (fun h8 => ?_)
      · rw [if_neg h8] at hf
        refine sk_iconst (0 : Int32) K dX11_goesIn_33 (by decide) ?_
        have hR9 : (false, d2) = (rr, dd) := Option.some.inj hf
        exact sk_zret (x := false) K dX11_goesIn_34 rfl rfl (congrArg (fun z => z.1) hR9) rfl (congrArg (fun z => z.2) hR9)
      · rw [if_pos h8] at hf
        refine sk_iconst (1 : Int32) K dX11_goesIn_29 (by decide) ?_
        refine sk_goto 34 K dX11_goesIn_30 (by decide) ?_
        have hR10 : (true, d2) = (rr, dd) := Option.some.inj hf
        exact sk_zret (x := true) K dX11_goesIn_34 rfl rfl (congrArg (fun z => z.1) hR10) rfl (congrArg (fun z => z.2) hR10)
    · rw [if_pos h5] at hf
      refine sk_aload_n K dX11_goesIn_18 rfl 0 rfl ?_
      obtain ⟨h14, hf⟩ := sk_ib hf
      obtain ⟨d13, e12, hf⟩ := sk_ob hf
      refine sk_callV (As := []) (st := []) K dX11_goesIn_19 cl_X11_143 h14 (sX11_next C l e12) (by decide) rfl rfl (Nat.le_of_ble_eq_true rfl) R1 R2 ?_
      refine sk_aload_n K dX11_goesIn_22 rfl 0 rfl ?_
      obtain ⟨v15, e16, hf⟩ := sk_ob hf
      refine sk_getI K dX11_goesIn_23 fl_X11_134 rfl e16 ?_
      refine sk_if_ne 33 K dX11_goesIn_26 (by decide) (fun h17 => ?_) (fun h17 => ?_)
      · rw [if_neg h17] at hf
        refine sk_iconst (0 : Int32) K dX11_goesIn_33 (by decide) ?_
        have hR18 : (false, d13) = (rr, dd) := Option.some.inj hf
        exact sk_zret (x := false) K dX11_goesIn_34 rfl rfl (congrArg (fun z => z.1) hR18) rfl (congrArg (fun z => z.2) hR18)
      · rw [if_pos h17] at hf
        refine sk_iconst (1 : Int32) K dX11_goesIn_29 (by decide) ?_
        refine sk_goto 34 K dX11_goesIn_30 (by decide) ?_
        have hR19 : (true, d13) = (rr, dd) := Option.some.inj hf
        exact sk_zret (x := true) K dX11_goesIn_34 rfl rfl (congrArg (fun z => z.1) hR19) rfl (congrArg (fun z => z.2) hR19)
  refine sk_iload_n K dX11_goesIn_0 rfl 1 rfl ?_
  refine sk_bipush (6 : Int32) K dX11_goesIn_1 (by decide) ?_
  refine sk_icmp_ne 11 K dX11_goesIn_3 (by decide) (fun h20 => ?_) (fun h20 => ?_)
  · rw [if_neg h20] at hf
    refine sk_sub [(0, .ref p0)] [0] rfl ?_
    have h9 := j11_0 _ _ hf
    exact h9
  · rw [if_pos h20] at hf
    refine sk_aload_n K dX11_goesIn_6 rfl 0 rfl ?_
    refine sk_iconst (4 : Int32) K dX11_goesIn_7 (by decide) ?_
    obtain ⟨h24, hf⟩ := sk_ib hf
    obtain ⟨d23, e22, hf⟩ := sk_ob hf
    refine sk_callV (As := [.int (4 : Int32)]) (st := []) K dX11_goesIn_8 cl_X11_146 h24 (sX11_fails C l e22) (by decide) rfl rfl (Nat.le_of_ble_eq_true rfl) R1 R2 ?_
    refine sk_sub [(0, .ref p0)] [0] rfl ?_
    have h9 := j11_0 _ _ hf
    exact h9
noncomputable def fX11_readFlag (S : sk_S) (d : sk_D) (p0 : Nat) (p1 : Int32) : Option (Bool × sk_D) :=
  if S.2.1 p0 = (10, 0) then ((fX11_eats S d p0 (4 : Int32)).bind fun b5 => if b5.1 = true then ((sk_gR S p0 10 4).bind fun v90 => if S.2.1 p0 = (10, 0) then ((fX11_takes S b5.2 p0 (0 : Int32) (9 : Int32)).bind fun b96 => (sk_sI S b96.2 v90 20 ((18 : Int32) + p1) b96.1).bind fun d97 => (sk_gI S d97 p0 10 11).bind fun v99 => if v99 = 0 then (some (true, d97)) else (some (false, d97))) else none) else (if S.2.1 p0 = (10, 0) then ((fX11_eats S b5.2 p0 (5 : Int32)).bind fun b11 => if b11.1 = true then ((sk_gR S p0 10 4).bind fun v76 => if S.2.1 p0 = (10, 0) then ((fX11_takes S b11.2 p0 (0 : Int32) (10 : Int32)).bind fun b82 => (sk_sI S b82.2 v76 20 ((26 : Int32) + p1) b82.1).bind fun d83 => (sk_gI S d83 p0 10 11).bind fun v85 => if v85 = 0 then (some (true, d83)) else (some (false, d83))) else none) else (if S.2.1 p0 = (10, 0) then ((fX11_eats S b11.2 p0 (6 : Int32)).bind fun b17 => if b17.1 = true then ((sk_gR S p0 10 4).bind fun v62 => if S.2.1 p0 = (10, 0) then ((fX11_takes S b17.2 p0 (0 : Int32) (10 : Int32)).bind fun b68 => (sk_sI S b68.2 v62 20 ((34 : Int32) + p1) b68.1).bind fun d69 => (sk_gI S d69 p0 10 11).bind fun v71 => if v71 = 0 then (some (true, d69)) else (some (false, d69))) else none) else (if S.2.1 p0 = (10, 0) then ((fX11_eats S b17.2 p0 (7 : Int32)).bind fun b23 => if b23.1 = true then ((sk_gR S p0 10 4).bind fun v48 => if S.2.1 p0 = (10, 0) then ((fX11_takes S b23.2 p0 (0 : Int32) (9 : Int32)).bind fun b54 => (sk_sI S b54.2 v48 20 ((42 : Int32) + p1) b54.1).bind fun d55 => (sk_gI S d55 p0 10 11).bind fun v57 => if v57 = 0 then (some (true, d55)) else (some (false, d55))) else none) else (if S.2.1 p0 = (10, 0) then ((fX11_eats S b23.2 p0 (8 : Int32)).bind fun b29 => if b29.1 = true then ((sk_gR S p0 10 4).bind fun v32 => (sk_lI S b29.2 v32 20 ((50 : Int32) + p1)).bind fun v34 => if S.2.1 p0 = (10, 0) then ((fX11_takes S b29.2 p0 (0 : Int32) (p1 - (1 : Int32))).bind fun b40 => (sk_sI S b40.2 v32 20 ((50 : Int32) + p1) (v34 ||| ((1 : Int32) <<< (b40.1 &&& 31)))).bind fun d41 => (sk_gI S d41 p0 10 11).bind fun v43 => if v43 = 0 then (some (true, d41)) else (some (false, d41))) else none) else (some (false, b29.2))) else none)) else none)) else none)) else none)) else none
set_option maxRecDepth 100000 in
set_option maxHeartbeats 4000000 in
theorem sX11_readFlag (C : sk_C) (l : Launch) {S : sk_S} {d : sk_D} {p0 : Nat} {p1 : Int32} {rr : Bool} {dd : sk_D} (hf : fX11_readFlag S d p0 p1 = some (rr, dd)) : sk_Met C l 10 yX11_readFlag cX11_readFlag 2 (some .boolean) [.ref p0, .int p1] S d (some (.int (sk_b rr))) S dd := by
  refine sk_Met.of (by decide) (Nat.le_of_ble_eq_true rfl) (Nat.le_refl _) (Nat.le_refl _) (fun X K0 hX => ?_)
  have K : sk_Ok X C cX11_readFlag 2 RX11 "readFlag" (some .boolean) 10 l (some (.int (sk_b rr))) S dd := K0
  have R1 : X.2.2.2.2.2.2.2.2.2.2.2.1 ≤ S.1.1 ∧ X.2.2.2.2.2.2.2.2.2.2.2.2 ≤ S.1.2 := by rw [hX]; exact ⟨Nat.le_refl _, Nat.le_refl _⟩
  have R2 : S.1.1 ≤ S.1.1 ∧ S.1.2 ≤ S.1.2 := ⟨Nat.le_refl _, Nat.le_refl _⟩
  show sk_G X C 2 S d 0 [(0, .ref p0), (1, .int p1)] []
  unfold fX11_readFlag at hf
  refine sk_aload_n K dX11_readFlag_0 rfl 0 rfl ?_
  refine sk_iconst (4 : Int32) K dX11_readFlag_1 (by decide) ?_
  obtain ⟨h4, hf⟩ := sk_ib hf
  obtain ⟨⟨v1, d3⟩, e2, hf⟩ := sk_ob hf
  try dsimp only at hf
  refine sk_callV (As := [.int (4 : Int32)]) (st := []) K dX11_readFlag_2 cl_X11_169 h4 (sX11_eats C l e2) (by decide) rfl rfl (Nat.le_of_ble_eq_true rfl) R1 R2 ?_
  refine sk_ifeqB 27 K dX11_readFlag_5 (by decide) (fun h6 => ?_) (fun h6 => ?_)
  · rw [if_neg h6] at hf
    refine sk_aload_n K dX11_readFlag_27 rfl 0 rfl ?_
    refine sk_iconst (5 : Int32) K dX11_readFlag_28 (by decide) ?_
    obtain ⟨h10, hf⟩ := sk_ib hf
    obtain ⟨⟨v7, d9⟩, e8, hf⟩ := sk_ob hf
    try dsimp only at hf
    refine sk_callV (As := [.int (5 : Int32)]) (st := []) K dX11_readFlag_29 cl_X11_169 h10 (sX11_eats C l e8) (by decide) rfl rfl (Nat.le_of_ble_eq_true rfl) R1 R2 ?_
    refine sk_ifeqB 54 K dX11_readFlag_32 (by decide) (fun h12 => ?_) (fun h12 => ?_)
    · rw [if_neg h12] at hf
      refine sk_aload_n K dX11_readFlag_54 rfl 0 rfl ?_
      refine sk_bipush (6 : Int32) K dX11_readFlag_55 (by decide) ?_
      obtain ⟨h16, hf⟩ := sk_ib hf
      obtain ⟨⟨v13, d15⟩, e14, hf⟩ := sk_ob hf
      try dsimp only at hf
      refine sk_callV (As := [.int (6 : Int32)]) (st := []) K dX11_readFlag_57 cl_X11_169 h16 (sX11_eats C l e14) (by decide) rfl rfl (Nat.le_of_ble_eq_true rfl) R1 R2 ?_
      refine sk_ifeqB 82 K dX11_readFlag_60 (by decide) (fun h18 => ?_) (fun h18 => ?_)
      · rw [if_neg h18] at hf
        refine sk_aload_n K dX11_readFlag_82 rfl 0 rfl ?_
        refine sk_bipush (7 : Int32) K dX11_readFlag_83 (by decide) ?_
        obtain ⟨h22, hf⟩ := sk_ib hf
        obtain ⟨⟨v19, d21⟩, e20, hf⟩ := sk_ob hf
        try dsimp only at hf
        refine sk_callV (As := [.int (7 : Int32)]) (st := []) K dX11_readFlag_85 cl_X11_169 h22 (sX11_eats C l e20) (by decide) rfl rfl (Nat.le_of_ble_eq_true rfl) R1 R2 ?_
        refine sk_ifeqB 110 K dX11_readFlag_88 (by decide) (fun h24 => ?_) (fun h24 => ?_)
        · rw [if_neg h24] at hf
          refine sk_aload_n K dX11_readFlag_110 rfl 0 rfl ?_
          refine sk_bipush (8 : Int32) K dX11_readFlag_111 (by decide) ?_
          obtain ⟨h28, hf⟩ := sk_ib hf
          obtain ⟨⟨v25, d27⟩, e26, hf⟩ := sk_ob hf
          try dsimp only at hf
          refine sk_callV (As := [.int (8 : Int32)]) (st := []) K dX11_readFlag_113 cl_X11_169 h28 (sX11_eats C l e26) (by decide) rfl rfl (Nat.le_of_ble_eq_true rfl) R1 R2 ?_
          refine sk_ifeqB 144 K dX11_readFlag_116 (by decide) (fun h30 => ?_) (fun h30 => ?_)
          · rw [if_neg h30] at hf
            refine sk_iconst (0 : Int32) K dX11_readFlag_144 (by decide) ?_
            have hR31 : (false, d27) = (rr, dd) := Option.some.inj hf
            exact sk_zret (x := false) K dX11_readFlag_145 rfl rfl (congrArg (fun z => z.1) hR31) rfl (congrArg (fun z => z.2) hR31)
          · rw [if_pos h30] at hf
            refine sk_aload_n K dX11_readFlag_119 rfl 0 rfl ?_
            obtain ⟨v32, e33, hf⟩ := sk_ob hf
            refine sk_getR K dX11_readFlag_120 fl_X11_24 rfl e33 ?_
            refine sk_bipush (50 : Int32) K dX11_readFlag_123 (by decide) ?_
            refine sk_iload_n K dX11_readFlag_125 rfl 1 rfl ?_
            refine sk_iadd K dX11_readFlag_126 ?_
            refine sk_dup2 K dX11_readFlag_127 rfl rfl ?_
            obtain ⟨v34, e35, hf⟩ := sk_ob hf
            refine sk_ald20 K dX11_readFlag_128 e35 ?_
            refine sk_iconst (1 : Int32) K dX11_readFlag_129 (by decide) ?_
            refine sk_aload_n K dX11_readFlag_130 rfl 0 rfl ?_
            refine sk_iconst (0 : Int32) K dX11_readFlag_131 (by decide) ?_
            refine sk_iload_n K dX11_readFlag_132 rfl 1 rfl ?_
            refine sk_iconst (1 : Int32) K dX11_readFlag_133 (by decide) ?_
            refine sk_isub K dX11_readFlag_134 ?_
            obtain ⟨h39, hf⟩ := sk_ib hf
            obtain ⟨⟨v36, d38⟩, e37, hf⟩ := sk_ob hf
            try dsimp only at hf
            refine sk_callV (As := [.int (0 : Int32), .int (p1 - (1 : Int32))]) (st := [.int (1 : Int32), .int v34, .int ((50 : Int32) + p1), .ref v32]) K dX11_readFlag_135 cl_X11_187 h39 (sX11_takes C l e37) (by decide) rfl rfl (Nat.le_of_ble_eq_true rfl) R1 R2 ?_
            refine sk_ishl K dX11_readFlag_138 ?_
            refine sk_ior K dX11_readFlag_139 ?_
            obtain ⟨d41, e42, hf⟩ := sk_ob hf
            refine sk_ast20 d41 K dX11_readFlag_140 e42 ?_
            refine sk_goto 146 K dX11_readFlag_141 (by decide) ?_
            refine sk_aload_n K dX11_readFlag_146 rfl 0 rfl ?_
            obtain ⟨v43, e44, hf⟩ := sk_ob hf
            refine sk_getI K dX11_readFlag_147 fl_X11_134 rfl e44 ?_
            refine sk_if_ne 157 K dX11_readFlag_150 (by decide) (fun h45 => ?_) (fun h45 => ?_)
            · rw [if_neg h45] at hf
              refine sk_iconst (0 : Int32) K dX11_readFlag_157 (by decide) ?_
              have hR46 : (false, d41) = (rr, dd) := Option.some.inj hf
              exact sk_zret (x := false) K dX11_readFlag_158 rfl rfl (congrArg (fun z => z.1) hR46) rfl (congrArg (fun z => z.2) hR46)
            · rw [if_pos h45] at hf
              refine sk_iconst (1 : Int32) K dX11_readFlag_153 (by decide) ?_
              refine sk_goto 158 K dX11_readFlag_154 (by decide) ?_
              have hR47 : (true, d41) = (rr, dd) := Option.some.inj hf
              exact sk_zret (x := true) K dX11_readFlag_158 rfl rfl (congrArg (fun z => z.1) hR47) rfl (congrArg (fun z => z.2) hR47)
        · rw [if_pos h24] at hf
          refine sk_aload_n K dX11_readFlag_91 rfl 0 rfl ?_
          obtain ⟨v48, e49, hf⟩ := sk_ob hf
          refine sk_getR K dX11_readFlag_92 fl_X11_24 rfl e49 ?_
          refine sk_bipush (42 : Int32) K dX11_readFlag_95 (by decide) ?_
          refine sk_iload_n K dX11_readFlag_97 rfl 1 rfl ?_
          refine sk_iadd K dX11_readFlag_98 ?_
          refine sk_aload_n K dX11_readFlag_99 rfl 0 rfl ?_
          refine sk_iconst (0 : Int32) K dX11_readFlag_100 (by decide) ?_
          refine sk_bipush (9 : Int32) K dX11_readFlag_101 (by decide) ?_
          obtain ⟨h53, hf⟩ := sk_ib hf
          obtain ⟨⟨v50, d52⟩, e51, hf⟩ := sk_ob hf
          try dsimp only at hf
          refine sk_callV (As := [.int (0 : Int32), .int (9 : Int32)]) (st := [.int ((42 : Int32) + p1), .ref v48]) K dX11_readFlag_103 cl_X11_187 h53 (sX11_takes C l e51) (by decide) rfl rfl (Nat.le_of_ble_eq_true rfl) R1 R2 ?_
          obtain ⟨d55, e56, hf⟩ := sk_ob hf
          refine sk_ast20 d55 K dX11_readFlag_106 e56 ?_
          refine sk_goto 146 K dX11_readFlag_107 (by decide) ?_
          refine sk_aload_n K dX11_readFlag_146 rfl 0 rfl ?_
          obtain ⟨v57, e58, hf⟩ := sk_ob hf
          refine sk_getI K dX11_readFlag_147 fl_X11_134 rfl e58 ?_
          refine sk_if_ne 157 K dX11_readFlag_150 (by decide) (fun h59 => ?_) (fun h59 => ?_)
          · rw [if_neg h59] at hf
            refine sk_iconst (0 : Int32) K dX11_readFlag_157 (by decide) ?_
            have hR60 : (false, d55) = (rr, dd) := Option.some.inj hf
            exact sk_zret (x := false) K dX11_readFlag_158 rfl rfl (congrArg (fun z => z.1) hR60) rfl (congrArg (fun z => z.2) hR60)
          · rw [if_pos h59] at hf
            refine sk_iconst (1 : Int32) K dX11_readFlag_153 (by decide) ?_
            refine sk_goto 158 K dX11_readFlag_154 (by decide) ?_
            have hR61 : (true, d55) = (rr, dd) := Option.some.inj hf
            exact sk_zret (x := true) K dX11_readFlag_158 rfl rfl (congrArg (fun z => z.1) hR61) rfl (congrArg (fun z => z.2) hR61)
      · rw [if_pos h18] at hf
        refine sk_aload_n K dX11_readFlag_63 rfl 0 rfl ?_
        obtain ⟨v62, e63, hf⟩ := sk_ob hf
        refine sk_getR K dX11_readFlag_64 fl_X11_24 rfl e63 ?_
        refine sk_bipush (34 : Int32) K dX11_readFlag_67 (by decide) ?_
        refine sk_iload_n K dX11_readFlag_69 rfl 1 rfl ?_
        refine sk_iadd K dX11_readFlag_70 ?_
        refine sk_aload_n K dX11_readFlag_71 rfl 0 rfl ?_
        refine sk_iconst (0 : Int32) K dX11_readFlag_72 (by decide) ?_
        refine sk_bipush (10 : Int32) K dX11_readFlag_73 (by decide) ?_
        obtain ⟨h67, hf⟩ := sk_ib hf
        obtain ⟨⟨v64, d66⟩, e65, hf⟩ := sk_ob hf
        try dsimp only at hf
        refine sk_callV (As := [.int (0 : Int32), .int (10 : Int32)]) (st := [.int ((34 : Int32) + p1), .ref v62]) K dX11_readFlag_75 cl_X11_187 h67 (sX11_takes C l e65) (by decide) rfl rfl (Nat.le_of_ble_eq_true rfl) R1 R2 ?_
        obtain ⟨d69, e70, hf⟩ := sk_ob hf
        refine sk_ast20 d69 K dX11_readFlag_78 e70 ?_
        refine sk_goto 146 K dX11_readFlag_79 (by decide) ?_
        refine sk_aload_n K dX11_readFlag_146 rfl 0 rfl ?_
        obtain ⟨v71, e72, hf⟩ := sk_ob hf
        refine sk_getI K dX11_readFlag_147 fl_X11_134 rfl e72 ?_
        refine sk_if_ne 157 K dX11_readFlag_150 (by decide) (fun h73 => ?_) (fun h73 => ?_)
        · rw [if_neg h73] at hf
          refine sk_iconst (0 : Int32) K dX11_readFlag_157 (by decide) ?_
          have hR74 : (false, d69) = (rr, dd) := Option.some.inj hf
          exact sk_zret (x := false) K dX11_readFlag_158 rfl rfl (congrArg (fun z => z.1) hR74) rfl (congrArg (fun z => z.2) hR74)
        · rw [if_pos h73] at hf
          refine sk_iconst (1 : Int32) K dX11_readFlag_153 (by decide) ?_
          refine sk_goto 158 K dX11_readFlag_154 (by decide) ?_
          have hR75 : (true, d69) = (rr, dd) := Option.some.inj hf
          exact sk_zret (x := true) K dX11_readFlag_158 rfl rfl (congrArg (fun z => z.1) hR75) rfl (congrArg (fun z => z.2) hR75)
    · rw [if_pos h12] at hf
      refine sk_aload_n K dX11_readFlag_35 rfl 0 rfl ?_
      obtain ⟨v76, e77, hf⟩ := sk_ob hf
      refine sk_getR K dX11_readFlag_36 fl_X11_24 rfl e77 ?_
      refine sk_bipush (26 : Int32) K dX11_readFlag_39 (by decide) ?_
      refine sk_iload_n K dX11_readFlag_41 rfl 1 rfl ?_
      refine sk_iadd K dX11_readFlag_42 ?_
      refine sk_aload_n K dX11_readFlag_43 rfl 0 rfl ?_
      refine sk_iconst (0 : Int32) K dX11_readFlag_44 (by decide) ?_
      refine sk_bipush (10 : Int32) K dX11_readFlag_45 (by decide) ?_
      obtain ⟨h81, hf⟩ := sk_ib hf
      obtain ⟨⟨v78, d80⟩, e79, hf⟩ := sk_ob hf
      try dsimp only at hf
      refine sk_callV (As := [.int (0 : Int32), .int (10 : Int32)]) (st := [.int ((26 : Int32) + p1), .ref v76]) K dX11_readFlag_47 cl_X11_187 h81 (sX11_takes C l e79) (by decide) rfl rfl (Nat.le_of_ble_eq_true rfl) R1 R2 ?_
      obtain ⟨d83, e84, hf⟩ := sk_ob hf
      refine sk_ast20 d83 K dX11_readFlag_50 e84 ?_
      refine sk_goto 146 K dX11_readFlag_51 (by decide) ?_
      refine sk_aload_n K dX11_readFlag_146 rfl 0 rfl ?_
      obtain ⟨v85, e86, hf⟩ := sk_ob hf
      refine sk_getI K dX11_readFlag_147 fl_X11_134 rfl e86 ?_
      refine sk_if_ne 157 K dX11_readFlag_150 (by decide) (fun h87 => ?_) (fun h87 => ?_)
      · rw [if_neg h87] at hf
        refine sk_iconst (0 : Int32) K dX11_readFlag_157 (by decide) ?_
        have hR88 : (false, d83) = (rr, dd) := Option.some.inj hf
        exact sk_zret (x := false) K dX11_readFlag_158 rfl rfl (congrArg (fun z => z.1) hR88) rfl (congrArg (fun z => z.2) hR88)
      · rw [if_pos h87] at hf
        refine sk_iconst (1 : Int32) K dX11_readFlag_153 (by decide) ?_
        refine sk_goto 158 K dX11_readFlag_154 (by decide) ?_
        have hR89 : (true, d83) = (rr, dd) := Option.some.inj hf
        exact sk_zret (x := true) K dX11_readFlag_158 rfl rfl (congrArg (fun z => z.1) hR89) rfl (congrArg (fun z => z.2) hR89)
  · rw [if_pos h6] at hf
    refine sk_aload_n K dX11_readFlag_8 rfl 0 rfl ?_
    obtain ⟨v90, e91, hf⟩ := sk_ob hf
    refine sk_getR K dX11_readFlag_9 fl_X11_24 rfl e91 ?_
    refine sk_bipush (18 : Int32) K dX11_readFlag_12 (by decide) ?_
    refine sk_iload_n K dX11_readFlag_14 rfl 1 rfl ?_
    refine sk_iadd K dX11_readFlag_15 ?_
    refine sk_aload_n K dX11_readFlag_16 rfl 0 rfl ?_
    refine sk_iconst (0 : Int32) K dX11_readFlag_17 (by decide) ?_
    refine sk_bipush (9 : Int32) K dX11_readFlag_18 (by decide) ?_
    obtain ⟨h95, hf⟩ := sk_ib hf
    obtain ⟨⟨v92, d94⟩, e93, hf⟩ := sk_ob hf
    try dsimp only at hf
    refine sk_callV (As := [.int (0 : Int32), .int (9 : Int32)]) (st := [.int ((18 : Int32) + p1), .ref v90]) K dX11_readFlag_20 cl_X11_187 h95 (sX11_takes C l e93) (by decide) rfl rfl (Nat.le_of_ble_eq_true rfl) R1 R2 ?_
    obtain ⟨d97, e98, hf⟩ := sk_ob hf
    refine sk_ast20 d97 K dX11_readFlag_23 e98 ?_
    refine sk_goto 146 K dX11_readFlag_24 (by decide) ?_
    refine sk_aload_n K dX11_readFlag_146 rfl 0 rfl ?_
    obtain ⟨v99, e100, hf⟩ := sk_ob hf
    refine sk_getI K dX11_readFlag_147 fl_X11_134 rfl e100 ?_
    refine sk_if_ne 157 K dX11_readFlag_150 (by decide) (fun h101 => ?_) (fun h101 => ?_)
    · rw [if_neg h101] at hf
      refine sk_iconst (0 : Int32) K dX11_readFlag_157 (by decide) ?_
      have hR102 : (false, d97) = (rr, dd) := Option.some.inj hf
      exact sk_zret (x := false) K dX11_readFlag_158 rfl rfl (congrArg (fun z => z.1) hR102) rfl (congrArg (fun z => z.2) hR102)
    · rw [if_pos h101] at hf
      refine sk_iconst (1 : Int32) K dX11_readFlag_153 (by decide) ?_
      refine sk_goto 158 K dX11_readFlag_154 (by decide) ?_
      have hR103 : (true, d97) = (rr, dd) := Option.some.inj hf
      exact sk_zret (x := true) K dX11_readFlag_158 rfl rfl (congrArg (fun z => z.1) hR103) rfl (congrArg (fun z => z.2) hR103)
noncomputable def fX11_readDoing_L79 (S : sk_S) (v1 : Nat) (v2 : Int32) (s1 : sk_D) : Option ((sk_D) ⊕ (sk_D)) :=
  (sk_gI S s1 v1 10 11).bind fun v32 => if v32 = 0 then (if S.2.1 v1 = (10, 0) then ((fX11_readFlag S s1 v1 v2).bind fun b39 => if b39.1 = true then (some (.inl b39.2)) else (some (.inr b39.2))) else none) else (some (.inr s1))
noncomputable def fX11_readDoing_J43 (S : sk_S) (v1 : Nat) (v2 : Int32) (d3 : sk_D) : Option (sk_D) :=
  (sk_gR S v1 10 4).bind fun v4 => if S.2.1 v1 = (10, 0) then ((fX11_takes S d3 v1 (1 : Int32) (9 : Int32)).bind fun b10 => (sk_sI S b10.2 v4 20 ((10 : Int32) + v2) b10.1).bind fun d11 => (sk_gR S v1 10 4).bind fun v13 => (sk_sI S d11 v13 20 ((26 : Int32) + v2) (5 : Int32)).bind fun d15 => (sk_gR S v1 10 4).bind fun v17 => (sk_sI S d15 v17 20 ((42 : Int32) + v2) (1 : Int32)).bind fun d19 => (sk_itr (fX11_readDoing_L79 S v1 v2) d19).bind fun y1 => (sk_gI S y1 v1 10 11).bind fun v21 => if v21 = 0 then ((sk_gR S v1 10 4).bind fun v25 => (sk_lI S y1 v25 20 (1 : Int32)).bind fun v27 => (sk_sI S y1 v25 20 (1 : Int32) (v27 + (1 : Int32))).bind fun d29 => some d29) else (some y1)) else none
noncomputable def fX11_readDoing_J18 (S : sk_S) (v41 : Nat) (v42 : Int32) (d43 : sk_D) : Option (sk_D) :=
  (sk_gI S d43 v41 10 11).bind fun v44 => if v44 = 0 then (if S.2.1 v41 = (10, 0) then ((fX11_next S d43 v41).bind fun d49 => if S.2.1 v41 = (10, 0) then ((fX11_eats S d49 v41 (3 : Int32)).bind fun b55 => if b55.1 = true then (fX11_readDoing_J43 S v41 v42 b55.2) else (if S.2.1 v41 = (10, 0) then ((fX11_fails S b55.2 v41 (2 : Int32)).bind fun d59 => fX11_readDoing_J43 S v41 v42 d59) else none)) else none) else none) else (some d43)
noncomputable def fX11_readDoing (S : sk_S) (d : sk_D) (p0 : Nat) : Option (sk_D) :=
  (sk_gR S p0 10 4).bind fun v62 => (sk_lI S d v62 20 (1 : Int32)).bind fun v64 => if v64 = (8 : Int32) then (if S.2.1 p0 = (10, 0) then ((fX11_fails S d p0 (4 : Int32)).bind fun d69 => fX11_readDoing_J18 S p0 v64 d69) else none) else (fX11_readDoing_J18 S p0 v64 d)
set_option maxRecDepth 100000 in
set_option maxHeartbeats 4000000 in
theorem sX11_readDoing (C : sk_C) (l : Launch) {S : sk_S} {d : sk_D} {p0 : Nat} {dd : sk_D} (hf : fX11_readDoing S d p0 = some dd) : sk_Met C l 11 yX11_readDoing cX11_readDoing 2 none [.ref p0] S d none S dd := by
  refine sk_Met.of (by decide) (Nat.le_of_ble_eq_true rfl) (Nat.le_refl _) (Nat.le_refl _) (fun X K0 hX => ?_)
  have K : sk_Ok X C cX11_readDoing 2 RX11 "readDoing" none 11 l none S dd := K0
  have R1 : X.2.2.2.2.2.2.2.2.2.2.2.1 ≤ S.1.1 ∧ X.2.2.2.2.2.2.2.2.2.2.2.2 ≤ S.1.2 := by rw [hX]; exact ⟨Nat.le_refl _, Nat.le_refl _⟩
  have R2 : S.1.1 ≤ S.1.1 ∧ S.1.2 ≤ S.1.2 := ⟨Nat.le_refl _, Nat.le_refl _⟩
  show sk_G X C 2 S d 0 [(0, .ref p0)] []
  unfold fX11_readDoing at hf
  have j43_0 : ∀ (v1 : Nat) (v2 : Int32) (d3 : sk_D), fX11_readDoing_J43 S v1 v2 d3 = some dd → sk_G X C 2 S d3 43 [(0, .ref v1), (1, .int v2)] [] := by
    intro v1 v2 d3 hf
    unfold fX11_readDoing_J43 at hf
    refine sk_aload_n K dX11_readDoing_43 rfl 0 rfl ?_
    obtain ⟨v4, e5, hf⟩ := sk_ob hf
    refine sk_getR K dX11_readDoing_44 fl_X11_24 rfl e5 ?_
    refine sk_bipush (10 : Int32) K dX11_readDoing_47 (by decide) ?_
    refine sk_iload_n K dX11_readDoing_49 rfl 1 rfl ?_
    refine sk_iadd K dX11_readDoing_50 ?_
    refine sk_aload_n K dX11_readDoing_51 rfl 0 rfl ?_
    refine sk_iconst (1 : Int32) K dX11_readDoing_52 (by decide) ?_
    refine sk_bipush (9 : Int32) K dX11_readDoing_53 (by decide) ?_
    obtain ⟨h9, hf⟩ := sk_ib hf
    obtain ⟨⟨v6, d8⟩, e7, hf⟩ := sk_ob hf
    try dsimp only at hf
    refine sk_callV (As := [.int (1 : Int32), .int (9 : Int32)]) (st := [.int ((10 : Int32) + v2), .ref v4]) K dX11_readDoing_55 cl_X11_187 h9 (sX11_takes C l e7) (by decide) rfl rfl (Nat.le_of_ble_eq_true rfl) R1 R2 ?_
    obtain ⟨d11, e12, hf⟩ := sk_ob hf
    refine sk_ast20 d11 K dX11_readDoing_58 e12 ?_
    refine sk_aload_n K dX11_readDoing_59 rfl 0 rfl ?_
    obtain ⟨v13, e14, hf⟩ := sk_ob hf
    refine sk_getR K dX11_readDoing_60 fl_X11_24 rfl e14 ?_
    refine sk_bipush (26 : Int32) K dX11_readDoing_63 (by decide) ?_
    refine sk_iload_n K dX11_readDoing_65 rfl 1 rfl ?_
    refine sk_iadd K dX11_readDoing_66 ?_
    refine sk_iconst (5 : Int32) K dX11_readDoing_67 (by decide) ?_
    obtain ⟨d15, e16, hf⟩ := sk_ob hf
    refine sk_ast20 d15 K dX11_readDoing_68 e16 ?_
    refine sk_aload_n K dX11_readDoing_69 rfl 0 rfl ?_
    obtain ⟨v17, e18, hf⟩ := sk_ob hf
    refine sk_getR K dX11_readDoing_70 fl_X11_24 rfl e18 ?_
    refine sk_bipush (42 : Int32) K dX11_readDoing_73 (by decide) ?_
    refine sk_iload_n K dX11_readDoing_75 rfl 1 rfl ?_
    refine sk_iadd K dX11_readDoing_76 ?_
    refine sk_iconst (1 : Int32) K dX11_readDoing_77 (by decide) ?_
    obtain ⟨d19, e20, hf⟩ := sk_ob hf
    refine sk_ast20 d19 K dX11_readDoing_78 e20 ?_
    obtain ⟨x1, he1, hf⟩ := sk_ob hf
    have rest1 : ∀ y1, y1 = x1 → sk_G X C 2 S y1 97 [(0, .ref v1)] [] := by
      intro y1 hy
      subst hy
      refine sk_aload_n K dX11_readDoing_97 rfl 0 rfl ?_
      obtain ⟨v21, e22, hf⟩ := sk_ob hf
      refine sk_getI K dX11_readDoing_98 fl_X11_134 rfl e22 ?_
      refine sk_if_ne 114 K dX11_readDoing_101 (by decide) (fun h23 => ?_) (fun h23 => ?_)
      · rw [if_neg h23] at hf
        have hR24 : y1 = dd := Option.some.inj hf
        exact sk_vret K dX11_readDoing_114 rfl rfl rfl hR24
      · rw [if_pos h23] at hf
        refine sk_aload_n K dX11_readDoing_104 rfl 0 rfl ?_
        obtain ⟨v25, e26, hf⟩ := sk_ob hf
        refine sk_getR K dX11_readDoing_105 fl_X11_24 rfl e26 ?_
        refine sk_iconst (1 : Int32) K dX11_readDoing_108 (by decide) ?_
        refine sk_dup2 K dX11_readDoing_109 rfl rfl ?_
        obtain ⟨v27, e28, hf⟩ := sk_ob hf
        refine sk_ald20 K dX11_readDoing_110 e28 ?_
        refine sk_iconst (1 : Int32) K dX11_readDoing_111 (by decide) ?_
        refine sk_iadd K dX11_readDoing_112 ?_
        obtain ⟨d29, e30, hf⟩ := sk_ob hf
        refine sk_ast20 d29 K dX11_readDoing_113 e30 ?_
        have hR31 : d29 = dd := Option.some.inj hf
        exact sk_vret K dX11_readDoing_114 rfl rfl rfl hR31
    refine sk_sub [(0, .ref v1), (1, .int v2)] [0, 1] rfl ?_
    refine sk_loop (fun s1 => sk_G X C 2 S s1 79 [(0, .ref v1), (1, .int v2)] []) he1 (fun s1 o1 hf ih1 hx1 => ?_)
    unfold fX11_readDoing_L79 at hf
    refine sk_aload_n K dX11_readDoing_79 rfl 0 rfl ?_
    obtain ⟨v32, e33, hf⟩ := sk_ob hf
    refine sk_getI K dX11_readDoing_80 fl_X11_134 rfl e33 ?_
    refine sk_if_ne 97 K dX11_readDoing_83 (by decide) (fun h34 => ?_) (fun h34 => ?_)
    · rw [if_neg h34] at hf
      refine sk_sub [(0, .ref v1)] [0] rfl ?_
      have h9 := rest1 _ (hx1 _ (Option.some.inj hf).symm)
      exact h9
    · rw [if_pos h34] at hf
      refine sk_aload_n K dX11_readDoing_86 rfl 0 rfl ?_
      refine sk_iload_n K dX11_readDoing_87 rfl 1 rfl ?_
      obtain ⟨h38, hf⟩ := sk_ib hf
      obtain ⟨⟨v35, d37⟩, e36, hf⟩ := sk_ob hf
      try dsimp only at hf
      refine sk_callV (As := [.int v2]) (st := []) K dX11_readDoing_88 cl_X11_191 h38 (sX11_readFlag C l e36) (by decide) rfl rfl (Nat.le_of_ble_eq_true rfl) R1 R2 ?_
      refine sk_ifeqB 97 K dX11_readDoing_91 (by decide) (fun h40 => ?_) (fun h40 => ?_)
      · rw [if_neg h40] at hf
        refine sk_sub [(0, .ref v1)] [0] rfl ?_
        have h9 := rest1 _ (hx1 _ (Option.some.inj hf).symm)
        exact h9
      · rw [if_pos h40] at hf
        refine sk_goto 79 K dX11_readDoing_94 (by decide) ?_
        refine sk_sub [(0, .ref v1), (1, .int v2)] [0, 1] rfl ?_
        have h9 := ih1 _ (Option.some.inj hf).symm
        exact h9
  have j18_0 : ∀ (v41 : Nat) (v42 : Int32) (d43 : sk_D), fX11_readDoing_J18 S v41 v42 d43 = some dd → sk_G X C 2 S d43 18 [(0, .ref v41), (1, .int v42)] [] := by
    intro v41 v42 d43 hf
    unfold fX11_readDoing_J18 at hf
    refine sk_aload_n K dX11_readDoing_18 rfl 0 rfl ?_
    obtain ⟨v44, e45, hf⟩ := sk_ob hf
    refine sk_getI K dX11_readDoing_19 fl_X11_134 rfl e45 ?_
    refine sk_if_eq 26 K dX11_readDoing_22 (by decide) (fun h46 => ?_) (fun h46 => ?_)
    · rw [if_pos h46] at hf
      refine sk_aload_n K dX11_readDoing_26 rfl 0 rfl ?_
      obtain ⟨h50, hf⟩ := sk_ib hf
      obtain ⟨d49, e48, hf⟩ := sk_ob hf
      refine sk_callV (As := []) (st := []) K dX11_readDoing_27 cl_X11_143 h50 (sX11_next C l e48) (by decide) rfl rfl (Nat.le_of_ble_eq_true rfl) R1 R2 ?_
      refine sk_aload_n K dX11_readDoing_30 rfl 0 rfl ?_
      refine sk_iconst (3 : Int32) K dX11_readDoing_31 (by decide) ?_
      obtain ⟨h54, hf⟩ := sk_ib hf
      obtain ⟨⟨v51, d53⟩, e52, hf⟩ := sk_ob hf
      try dsimp only at hf
      refine sk_callV (As := [.int (3 : Int32)]) (st := []) K dX11_readDoing_32 cl_X11_169 h54 (sX11_eats C l e52) (by decide) rfl rfl (Nat.le_of_ble_eq_true rfl) R1 R2 ?_
      refine sk_ifneB 43 K dX11_readDoing_35 (by decide) (fun h56 => ?_) (fun h56 => ?_)
      · rw [if_pos h56] at hf
        refine sk_sub [(0, .ref v41), (1, .int v42)] [0, 1] rfl ?_
        have h9 := j43_0 _ _ _ hf
        exact h9
      · rw [if_neg h56] at hf
        refine sk_aload_n K dX11_readDoing_38 rfl 0 rfl ?_
        refine sk_iconst (2 : Int32) K dX11_readDoing_39 (by decide) ?_
        obtain ⟨h60, hf⟩ := sk_ib hf
        obtain ⟨d59, e58, hf⟩ := sk_ob hf
        refine sk_callV (As := [.int (2 : Int32)]) (st := []) K dX11_readDoing_40 cl_X11_146 h60 (sX11_fails C l e58) (by decide) rfl rfl (Nat.le_of_ble_eq_true rfl) R1 R2 ?_
        refine sk_sub [(0, .ref v41), (1, .int v42)] [0, 1] rfl ?_
        have h9 := j43_0 _ _ _ hf
        exact h9
    · rw [if_neg h46] at hf
      have hR61 : d43 = dd := Option.some.inj hf
      exact sk_vret K dX11_readDoing_25 rfl rfl rfl hR61
  refine sk_aload_n K dX11_readDoing_0 rfl 0 rfl ?_
  obtain ⟨v62, e63, hf⟩ := sk_ob hf
  refine sk_getR K dX11_readDoing_1 fl_X11_24 rfl e63 ?_
  refine sk_iconst (1 : Int32) K dX11_readDoing_4 (by decide) ?_
  obtain ⟨v64, e65, hf⟩ := sk_ob hf
  refine sk_ald20 K dX11_readDoing_5 e65 ?_
  refine sk_istore_n [(1, .int v64), (0, .ref p0)] K dX11_readDoing_6 rfl (by decide) rfl ?_
  refine sk_iload_n K dX11_readDoing_7 rfl 0 rfl ?_
  refine sk_bipush (8 : Int32) K dX11_readDoing_8 (by decide) ?_
  refine sk_icmp_ne 18 K dX11_readDoing_10 (by decide) (fun h66 => ?_) (fun h66 => ?_)
  · rw [if_neg h66] at hf
    refine sk_sub [(0, .ref p0), (1, .int v64)] [1, 0] rfl ?_
    have h9 := j18_0 _ _ _ hf
    exact h9
  · rw [if_pos h66] at hf
    refine sk_aload_n K dX11_readDoing_13 rfl 1 rfl ?_
    refine sk_iconst (4 : Int32) K dX11_readDoing_14 (by decide) ?_
    obtain ⟨h70, hf⟩ := sk_ib hf
    obtain ⟨d69, e68, hf⟩ := sk_ob hf
    refine sk_callV (As := [.int (4 : Int32)]) (st := []) K dX11_readDoing_15 cl_X11_146 h70 (sX11_fails C l e68) (by decide) rfl rfl (Nat.le_of_ble_eq_true rfl) R1 R2 ?_
    refine sk_sub [(0, .ref p0), (1, .int v64)] [1, 0] rfl ?_
    have h9 := j18_0 _ _ _ hf
    exact h9
noncomputable def fX11_readDoor_J18 (S : sk_S) (v1 : Nat) (v2 : Int32) (d3 : sk_D) : Option (sk_D) :=
  (sk_gI S d3 v1 10 11).bind fun v4 => if v4 = 0 then (if S.2.1 v1 = (10, 0) then ((fX11_next S d3 v1).bind fun d9 => (sk_gR S v1 10 4).bind fun v11 => if S.2.1 v1 = (10, 0) then ((fX11_takes S d9 v1 (0 : Int32) (9 : Int32)).bind fun b17 => (sk_sI S b17.2 v11 20 ((66 : Int32) + v2) b17.1).bind fun d18 => (sk_gI S d18 v1 10 11).bind fun v20 => if v20 = 0 then ((sk_gR S v1 10 4).bind fun v24 => (sk_lI S d18 v24 20 (2 : Int32)).bind fun v26 => (sk_sI S d18 v24 20 (2 : Int32) (v26 + (1 : Int32))).bind fun d28 => some d28) else (some d18)) else none) else none) else (some d3)
noncomputable def fX11_readDoor (S : sk_S) (d : sk_D) (p0 : Nat) : Option (sk_D) :=
  (sk_gR S p0 10 4).bind fun v32 => (sk_lI S d v32 20 (2 : Int32)).bind fun v34 => if v34 = (8 : Int32) then (if S.2.1 p0 = (10, 0) then ((fX11_fails S d p0 (4 : Int32)).bind fun d39 => fX11_readDoor_J18 S p0 v34 d39) else none) else (fX11_readDoor_J18 S p0 v34 d)
set_option maxRecDepth 100000 in
set_option maxHeartbeats 4000000 in
theorem sX11_readDoor (C : sk_C) (l : Launch) {S : sk_S} {d : sk_D} {p0 : Nat} {dd : sk_D} (hf : fX11_readDoor S d p0 = some dd) : sk_Met C l 10 yX11_readDoor cX11_readDoor 2 none [.ref p0] S d none S dd := by
  refine sk_Met.of (by decide) (Nat.le_of_ble_eq_true rfl) (Nat.le_refl _) (Nat.le_refl _) (fun X K0 hX => ?_)
  have K : sk_Ok X C cX11_readDoor 2 RX11 "readDoor" none 10 l none S dd := K0
  have R1 : X.2.2.2.2.2.2.2.2.2.2.2.1 ≤ S.1.1 ∧ X.2.2.2.2.2.2.2.2.2.2.2.2 ≤ S.1.2 := by rw [hX]; exact ⟨Nat.le_refl _, Nat.le_refl _⟩
  have R2 : S.1.1 ≤ S.1.1 ∧ S.1.2 ≤ S.1.2 := ⟨Nat.le_refl _, Nat.le_refl _⟩
  show sk_G X C 2 S d 0 [(0, .ref p0)] []
  unfold fX11_readDoor at hf
  have j18_0 : ∀ (v1 : Nat) (v2 : Int32) (d3 : sk_D), fX11_readDoor_J18 S v1 v2 d3 = some dd → sk_G X C 2 S d3 18 [(0, .ref v1), (1, .int v2)] [] := by
    intro v1 v2 d3 hf
    unfold fX11_readDoor_J18 at hf
    refine sk_aload_n K dX11_readDoor_18 rfl 0 rfl ?_
    obtain ⟨v4, e5, hf⟩ := sk_ob hf
    refine sk_getI K dX11_readDoor_19 fl_X11_134 rfl e5 ?_
    refine sk_if_eq 26 K dX11_readDoor_22 (by decide) (fun h6 => ?_) (fun h6 => ?_)
    · rw [if_pos h6] at hf
      refine sk_aload_n K dX11_readDoor_26 rfl 0 rfl ?_
      obtain ⟨h10, hf⟩ := sk_ib hf
      obtain ⟨d9, e8, hf⟩ := sk_ob hf
      refine sk_callV (As := []) (st := []) K dX11_readDoor_27 cl_X11_143 h10 (sX11_next C l e8) (by decide) rfl rfl (Nat.le_of_ble_eq_true rfl) R1 R2 ?_
      refine sk_aload_n K dX11_readDoor_30 rfl 0 rfl ?_
      obtain ⟨v11, e12, hf⟩ := sk_ob hf
      refine sk_getR K dX11_readDoor_31 fl_X11_24 rfl e12 ?_
      refine sk_bipush (66 : Int32) K dX11_readDoor_34 (by decide) ?_
      refine sk_iload_n K dX11_readDoor_36 rfl 1 rfl ?_
      refine sk_iadd K dX11_readDoor_37 ?_
      refine sk_aload_n K dX11_readDoor_38 rfl 0 rfl ?_
      refine sk_iconst (0 : Int32) K dX11_readDoor_39 (by decide) ?_
      refine sk_bipush (9 : Int32) K dX11_readDoor_40 (by decide) ?_
      obtain ⟨h16, hf⟩ := sk_ib hf
      obtain ⟨⟨v13, d15⟩, e14, hf⟩ := sk_ob hf
      try dsimp only at hf
      refine sk_callV (As := [.int (0 : Int32), .int (9 : Int32)]) (st := [.int ((66 : Int32) + v2), .ref v11]) K dX11_readDoor_42 cl_X11_187 h16 (sX11_takes C l e14) (by decide) rfl rfl (Nat.le_of_ble_eq_true rfl) R1 R2 ?_
      obtain ⟨d18, e19, hf⟩ := sk_ob hf
      refine sk_ast20 d18 K dX11_readDoor_45 e19 ?_
      refine sk_aload_n K dX11_readDoor_46 rfl 0 rfl ?_
      obtain ⟨v20, e21, hf⟩ := sk_ob hf
      refine sk_getI K dX11_readDoor_47 fl_X11_134 rfl e21 ?_
      refine sk_if_ne 63 K dX11_readDoor_50 (by decide) (fun h22 => ?_) (fun h22 => ?_)
      · rw [if_neg h22] at hf
        have hR23 : d18 = dd := Option.some.inj hf
        exact sk_vret K dX11_readDoor_63 rfl rfl rfl hR23
      · rw [if_pos h22] at hf
        refine sk_aload_n K dX11_readDoor_53 rfl 0 rfl ?_
        obtain ⟨v24, e25, hf⟩ := sk_ob hf
        refine sk_getR K dX11_readDoor_54 fl_X11_24 rfl e25 ?_
        refine sk_iconst (2 : Int32) K dX11_readDoor_57 (by decide) ?_
        refine sk_dup2 K dX11_readDoor_58 rfl rfl ?_
        obtain ⟨v26, e27, hf⟩ := sk_ob hf
        refine sk_ald20 K dX11_readDoor_59 e27 ?_
        refine sk_iconst (1 : Int32) K dX11_readDoor_60 (by decide) ?_
        refine sk_iadd K dX11_readDoor_61 ?_
        obtain ⟨d28, e29, hf⟩ := sk_ob hf
        refine sk_ast20 d28 K dX11_readDoor_62 e29 ?_
        have hR30 : d28 = dd := Option.some.inj hf
        exact sk_vret K dX11_readDoor_63 rfl rfl rfl hR30
    · rw [if_neg h6] at hf
      have hR31 : d3 = dd := Option.some.inj hf
      exact sk_vret K dX11_readDoor_25 rfl rfl rfl hR31
  refine sk_aload_n K dX11_readDoor_0 rfl 0 rfl ?_
  obtain ⟨v32, e33, hf⟩ := sk_ob hf
  refine sk_getR K dX11_readDoor_1 fl_X11_24 rfl e33 ?_
  refine sk_iconst (2 : Int32) K dX11_readDoor_4 (by decide) ?_
  obtain ⟨v34, e35, hf⟩ := sk_ob hf
  refine sk_ald20 K dX11_readDoor_5 e35 ?_
  refine sk_istore_n [(1, .int v34), (0, .ref p0)] K dX11_readDoor_6 rfl (by decide) rfl ?_
  refine sk_iload_n K dX11_readDoor_7 rfl 0 rfl ?_
  refine sk_bipush (8 : Int32) K dX11_readDoor_8 (by decide) ?_
  refine sk_icmp_ne 18 K dX11_readDoor_10 (by decide) (fun h36 => ?_) (fun h36 => ?_)
  · rw [if_neg h36] at hf
    refine sk_sub [(0, .ref p0), (1, .int v34)] [1, 0] rfl ?_
    have h9 := j18_0 _ _ _ hf
    exact h9
  · rw [if_pos h36] at hf
    refine sk_aload_n K dX11_readDoor_13 rfl 1 rfl ?_
    refine sk_iconst (4 : Int32) K dX11_readDoor_14 (by decide) ?_
    obtain ⟨h40, hf⟩ := sk_ib hf
    obtain ⟨d39, e38, hf⟩ := sk_ob hf
    refine sk_callV (As := [.int (4 : Int32)]) (st := []) K dX11_readDoor_15 cl_X11_146 h40 (sX11_fails C l e38) (by decide) rfl rfl (Nat.le_of_ble_eq_true rfl) R1 R2 ?_
    refine sk_sub [(0, .ref p0), (1, .int v34)] [1, 0] rfl ?_
    have h9 := j18_0 _ _ _ hf
    exact h9
noncomputable def fX11_readClash_J40 (S : sk_S) (v1 : Nat) (v2 : Int32) (d3 : sk_D) : Option (sk_D) :=
  (sk_gR S v1 10 4).bind fun v4 => (sk_lI S d3 v4 20 (1 : Int32)).bind fun v6 => if S.2.1 v1 = (10, 0) then ((fX11_takes S d3 v1 (0 : Int32) (v6 - (1 : Int32))).bind fun b12 => (sk_gI S b12.2 v1 10 11).bind fun v13 => if v13 = 0 then ((sk_gR S v1 10 4).bind fun v16 => (sk_lI S b12.2 v16 20 ((58 : Int32) + v2)).bind fun v18 => (sk_sI S b12.2 v16 20 ((58 : Int32) + v2) (v18 ||| ((1 : Int32) <<< (b12.1 &&& 31)))).bind fun d20 => (sk_gR S v1 10 4).bind fun v22 => (sk_lI S d20 v22 20 ((58 : Int32) + b12.1)).bind fun v24 => (sk_sI S d20 v22 20 ((58 : Int32) + b12.1) (v24 ||| ((1 : Int32) <<< (v2 &&& 31)))).bind fun d26 => some d26) else (some b12.2)) else none
noncomputable def fX11_readClash (S : sk_S) (d : sk_D) (p0 : Nat) : Option (sk_D) :=
  if S.2.1 p0 = (10, 0) then ((fX11_next S d p0).bind fun d32 => (sk_gR S p0 10 4).bind fun v34 => (sk_lI S d32 v34 20 (1 : Int32)).bind fun v36 => if S.2.1 p0 = (10, 0) then ((fX11_takes S d32 p0 (0 : Int32) (v36 - (1 : Int32))).bind fun b42 => if S.2.1 p0 = (10, 0) then ((fX11_is S b42.2 p0 (23 : Int32)).bind fun v43 => if v43 = true then ((sk_gI S b42.2 p0 10 10).bind fun v47 => if v47 = b42.1 then (if S.2.1 p0 = (10, 0) then ((fX11_fails S b42.2 p0 (3 : Int32)).bind fun d52 => fX11_readClash_J40 S p0 b42.1 d52) else none) else (fX11_readClash_J40 S p0 b42.1 b42.2)) else (fX11_readClash_J40 S p0 b42.1 b42.2)) else none) else none) else none
set_option maxRecDepth 100000 in
set_option maxHeartbeats 4000000 in
theorem sX11_readClash (C : sk_C) (l : Launch) {S : sk_S} {d : sk_D} {p0 : Nat} {dd : sk_D} (hf : fX11_readClash S d p0 = some dd) : sk_Met C l 10 yX11_readClash cX11_readClash 3 none [.ref p0] S d none S dd := by
  refine sk_Met.of (by decide) (Nat.le_of_ble_eq_true rfl) (Nat.le_refl _) (Nat.le_refl _) (fun X K0 hX => ?_)
  have K : sk_Ok X C cX11_readClash 3 RX11 "readClash" none 10 l none S dd := K0
  have R1 : X.2.2.2.2.2.2.2.2.2.2.2.1 ≤ S.1.1 ∧ X.2.2.2.2.2.2.2.2.2.2.2.2 ≤ S.1.2 := by rw [hX]; exact ⟨Nat.le_refl _, Nat.le_refl _⟩
  have R2 : S.1.1 ≤ S.1.1 ∧ S.1.2 ≤ S.1.2 := ⟨Nat.le_refl _, Nat.le_refl _⟩
  show sk_G X C 3 S d 0 [(0, .ref p0)] []
  unfold fX11_readClash at hf
  have j40_0 : ∀ (v1 : Nat) (v2 : Int32) (d3 : sk_D), fX11_readClash_J40 S v1 v2 d3 = some dd → sk_G X C 3 S d3 40 [(0, .ref v1), (1, .int v2)] [] := by
    intro v1 v2 d3 hf
    unfold fX11_readClash_J40 at hf
    refine sk_aload_n K dX11_readClash_40 rfl 0 rfl ?_
    refine sk_iconst (0 : Int32) K dX11_readClash_41 (by decide) ?_
    refine sk_aload_n K dX11_readClash_42 rfl 0 rfl ?_
    obtain ⟨v4, e5, hf⟩ := sk_ob hf
    refine sk_getR K dX11_readClash_43 fl_X11_24 rfl e5 ?_
    refine sk_iconst (1 : Int32) K dX11_readClash_46 (by decide) ?_
    obtain ⟨v6, e7, hf⟩ := sk_ob hf
    refine sk_ald20 K dX11_readClash_47 e7 ?_
    refine sk_iconst (1 : Int32) K dX11_readClash_48 (by decide) ?_
    refine sk_isub K dX11_readClash_49 ?_
    obtain ⟨h11, hf⟩ := sk_ib hf
    obtain ⟨⟨v8, d10⟩, e9, hf⟩ := sk_ob hf
    try dsimp only at hf
    refine sk_callV (As := [.int (0 : Int32), .int (v6 - (1 : Int32))]) (st := []) K dX11_readClash_50 cl_X11_187 h11 (sX11_takes C l e9) (by decide) rfl rfl (Nat.le_of_ble_eq_true rfl) R1 R2 ?_
    refine sk_istore_n [(2, .int v8), (0, .ref v1), (1, .int v2)] K dX11_readClash_53 rfl (by decide) rfl ?_
    refine sk_aload_n K dX11_readClash_54 rfl 1 rfl ?_
    obtain ⟨v13, e14, hf⟩ := sk_ob hf
    refine sk_getI K dX11_readClash_55 fl_X11_134 rfl e14 ?_
    refine sk_if_eq 62 K dX11_readClash_58 (by decide) (fun h15 => ?_) (fun h15 => ?_)
    · rw [if_pos h15] at hf
      refine sk_aload_n K dX11_readClash_62 rfl 1 rfl ?_
      obtain ⟨v16, e17, hf⟩ := sk_ob hf
      refine sk_getR K dX11_readClash_63 fl_X11_24 rfl e17 ?_
      refine sk_bipush (58 : Int32) K dX11_readClash_66 (by decide) ?_
      refine sk_iload_n K dX11_readClash_68 rfl 2 rfl ?_
      refine sk_iadd K dX11_readClash_69 ?_
      refine sk_dup2 K dX11_readClash_70 rfl rfl ?_
      obtain ⟨v18, e19, hf⟩ := sk_ob hf
      refine sk_ald20 K dX11_readClash_71 e19 ?_
      refine sk_iconst (1 : Int32) K dX11_readClash_72 (by decide) ?_
      refine sk_iload_n K dX11_readClash_73 rfl 0 rfl ?_
      refine sk_ishl K dX11_readClash_74 ?_
      refine sk_ior K dX11_readClash_75 ?_
      obtain ⟨d20, e21, hf⟩ := sk_ob hf
      refine sk_ast20 d20 K dX11_readClash_76 e21 ?_
      refine sk_aload_n K dX11_readClash_77 rfl 1 rfl ?_
      obtain ⟨v22, e23, hf⟩ := sk_ob hf
      refine sk_getR K dX11_readClash_78 fl_X11_24 rfl e23 ?_
      refine sk_bipush (58 : Int32) K dX11_readClash_81 (by decide) ?_
      refine sk_iload_n K dX11_readClash_83 rfl 0 rfl ?_
      refine sk_iadd K dX11_readClash_84 ?_
      refine sk_dup2 K dX11_readClash_85 rfl rfl ?_
      obtain ⟨v24, e25, hf⟩ := sk_ob hf
      refine sk_ald20 K dX11_readClash_86 e25 ?_
      refine sk_iconst (1 : Int32) K dX11_readClash_87 (by decide) ?_
      refine sk_iload_n K dX11_readClash_88 rfl 2 rfl ?_
      refine sk_ishl K dX11_readClash_89 ?_
      refine sk_ior K dX11_readClash_90 ?_
      obtain ⟨d26, e27, hf⟩ := sk_ob hf
      refine sk_ast20 d26 K dX11_readClash_91 e27 ?_
      have hR28 : d26 = dd := Option.some.inj hf
      exact sk_vret K dX11_readClash_92 rfl rfl rfl hR28
    · rw [if_neg h15] at hf
      have hR29 : d10 = dd := Option.some.inj hf
      exact sk_vret K dX11_readClash_61 rfl rfl rfl hR29
  refine sk_aload_n K dX11_readClash_0 rfl 0 rfl ?_
  obtain ⟨h33, hf⟩ := sk_ib hf
  obtain ⟨d32, e31, hf⟩ := sk_ob hf
  refine sk_callV (As := []) (st := []) K dX11_readClash_1 cl_X11_143 h33 (sX11_next C l e31) (by decide) rfl rfl (Nat.le_of_ble_eq_true rfl) R1 R2 ?_
  refine sk_aload_n K dX11_readClash_4 rfl 0 rfl ?_
  refine sk_iconst (0 : Int32) K dX11_readClash_5 (by decide) ?_
  refine sk_aload_n K dX11_readClash_6 rfl 0 rfl ?_
  obtain ⟨v34, e35, hf⟩ := sk_ob hf
  refine sk_getR K dX11_readClash_7 fl_X11_24 rfl e35 ?_
  refine sk_iconst (1 : Int32) K dX11_readClash_10 (by decide) ?_
  obtain ⟨v36, e37, hf⟩ := sk_ob hf
  refine sk_ald20 K dX11_readClash_11 e37 ?_
  refine sk_iconst (1 : Int32) K dX11_readClash_12 (by decide) ?_
  refine sk_isub K dX11_readClash_13 ?_
  obtain ⟨h41, hf⟩ := sk_ib hf
  obtain ⟨⟨v38, d40⟩, e39, hf⟩ := sk_ob hf
  try dsimp only at hf
  refine sk_callV (As := [.int (0 : Int32), .int (v36 - (1 : Int32))]) (st := []) K dX11_readClash_14 cl_X11_187 h41 (sX11_takes C l e39) (by decide) rfl rfl (Nat.le_of_ble_eq_true rfl) R1 R2 ?_
  refine sk_istore_n [(1, .int v38), (0, .ref p0)] K dX11_readClash_17 rfl (by decide) rfl ?_
  refine sk_aload_n K dX11_readClash_18 rfl 1 rfl ?_
  refine sk_bipush (23 : Int32) K dX11_readClash_19 (by decide) ?_
  obtain ⟨h45, hf⟩ := sk_ib hf
  obtain ⟨v43, e44, hf⟩ := sk_ob hf
  refine sk_callV (As := [.int (23 : Int32)]) (st := []) K dX11_readClash_21 cl_X11_140 h45 (sX11_is C l e44) (by decide) rfl rfl (Nat.le_of_ble_eq_true rfl) R1 R2 ?_
  refine sk_ifeqB 40 K dX11_readClash_24 (by decide) (fun h46 => ?_) (fun h46 => ?_)
  · rw [if_neg h46] at hf
    refine sk_sub [(0, .ref p0), (1, .int v38)] [1, 0] rfl ?_
    have h9 := j40_0 _ _ _ hf
    exact h9
  · rw [if_pos h46] at hf
    refine sk_aload_n K dX11_readClash_27 rfl 1 rfl ?_
    obtain ⟨v47, e48, hf⟩ := sk_ob hf
    refine sk_getI K dX11_readClash_28 fl_X11_129 rfl e48 ?_
    refine sk_iload_n K dX11_readClash_31 rfl 0 rfl ?_
    refine sk_icmp_ne 40 K dX11_readClash_32 (by decide) (fun h49 => ?_) (fun h49 => ?_)
    · rw [if_neg h49] at hf
      refine sk_sub [(0, .ref p0), (1, .int v38)] [1, 0] rfl ?_
      have h9 := j40_0 _ _ _ hf
      exact h9
    · rw [if_pos h49] at hf
      refine sk_aload_n K dX11_readClash_35 rfl 1 rfl ?_
      refine sk_iconst (3 : Int32) K dX11_readClash_36 (by decide) ?_
      obtain ⟨h53, hf⟩ := sk_ib hf
      obtain ⟨d52, e51, hf⟩ := sk_ob hf
      refine sk_callV (As := [.int (3 : Int32)]) (st := []) K dX11_readClash_37 cl_X11_146 h53 (sX11_fails C l e51) (by decide) rfl rfl (Nat.le_of_ble_eq_true rfl) R1 R2 ?_
      refine sk_sub [(0, .ref p0), (1, .int v38)] [1, 0] rfl ?_
      have h9 := j40_0 _ _ _ hf
      exact h9
noncomputable def fX11_ends (S : sk_S) (d : sk_D) (p0 : Nat) : Option (sk_D) :=
  if S.2.1 p0 = (10, 0) then ((fX11_eats S d p0 (30 : Int32)).bind fun b5 => if b5.1 = true then ((sk_gR S p0 10 4).bind fun v7 => (sk_lI S b5.2 v7 20 (0 : Int32)).bind fun v9 => (sk_sI S b5.2 v7 20 (0 : Int32) (v9 + (1 : Int32))).bind fun d11 => some d11) else (if S.2.1 p0 = (10, 0) then ((fX11_fails S b5.2 p0 (2 : Int32)).bind fun d16 => (sk_gR S p0 10 4).bind fun v18 => (sk_lI S d16 v18 20 (0 : Int32)).bind fun v20 => (sk_sI S d16 v18 20 (0 : Int32) (v20 + (1 : Int32))).bind fun d22 => some d22) else none)) else none
set_option maxRecDepth 100000 in
set_option maxHeartbeats 4000000 in
theorem sX11_ends (C : sk_C) (l : Launch) {S : sk_S} {d : sk_D} {p0 : Nat} {dd : sk_D} (hf : fX11_ends S d p0 = some dd) : sk_Met C l 10 yX11_ends cX11_ends 1 none [.ref p0] S d none S dd := by
  refine sk_Met.of (by decide) (Nat.le_of_ble_eq_true rfl) (Nat.le_refl _) (Nat.le_refl _) (fun X K0 hX => ?_)
  have K : sk_Ok X C cX11_ends 1 RX11 "ends" none 10 l none S dd := K0
  have R1 : X.2.2.2.2.2.2.2.2.2.2.2.1 ≤ S.1.1 ∧ X.2.2.2.2.2.2.2.2.2.2.2.2 ≤ S.1.2 := by rw [hX]; exact ⟨Nat.le_refl _, Nat.le_refl _⟩
  have R2 : S.1.1 ≤ S.1.1 ∧ S.1.2 ≤ S.1.2 := ⟨Nat.le_refl _, Nat.le_refl _⟩
  show sk_G X C 1 S d 0 [(0, .ref p0)] []
  unfold fX11_ends at hf
  refine sk_aload_n K dX11_ends_0 rfl 0 rfl ?_
  refine sk_bipush (30 : Int32) K dX11_ends_1 (by decide) ?_
  obtain ⟨h4, hf⟩ := sk_ib hf
  obtain ⟨⟨v1, d3⟩, e2, hf⟩ := sk_ob hf
  try dsimp only at hf
  refine sk_callV (As := [.int (30 : Int32)]) (st := []) K dX11_ends_3 cl_X11_169 h4 (sX11_eats C l e2) (by decide) rfl rfl (Nat.le_of_ble_eq_true rfl) R1 R2 ?_
  refine sk_ifneB 14 K dX11_ends_6 (by decide) (fun h6 => ?_) (fun h6 => ?_)
  · rw [if_pos h6] at hf
    refine sk_aload_n K dX11_ends_14 rfl 0 rfl ?_
    obtain ⟨v7, e8, hf⟩ := sk_ob hf
    refine sk_getR K dX11_ends_15 fl_X11_24 rfl e8 ?_
    refine sk_iconst (0 : Int32) K dX11_ends_18 (by decide) ?_
    refine sk_dup2 K dX11_ends_19 rfl rfl ?_
    obtain ⟨v9, e10, hf⟩ := sk_ob hf
    refine sk_ald20 K dX11_ends_20 e10 ?_
    refine sk_iconst (1 : Int32) K dX11_ends_21 (by decide) ?_
    refine sk_iadd K dX11_ends_22 ?_
    obtain ⟨d11, e12, hf⟩ := sk_ob hf
    refine sk_ast20 d11 K dX11_ends_23 e12 ?_
    have hR13 : d11 = dd := Option.some.inj hf
    exact sk_vret K dX11_ends_24 rfl rfl rfl hR13
  · rw [if_neg h6] at hf
    refine sk_aload_n K dX11_ends_9 rfl 0 rfl ?_
    refine sk_iconst (2 : Int32) K dX11_ends_10 (by decide) ?_
    obtain ⟨h17, hf⟩ := sk_ib hf
    obtain ⟨d16, e15, hf⟩ := sk_ob hf
    refine sk_callV (As := [.int (2 : Int32)]) (st := []) K dX11_ends_11 cl_X11_146 h17 (sX11_fails C l e15) (by decide) rfl rfl (Nat.le_of_ble_eq_true rfl) R1 R2 ?_
    refine sk_aload_n K dX11_ends_14 rfl 0 rfl ?_
    obtain ⟨v18, e19, hf⟩ := sk_ob hf
    refine sk_getR K dX11_ends_15 fl_X11_24 rfl e19 ?_
    refine sk_iconst (0 : Int32) K dX11_ends_18 (by decide) ?_
    refine sk_dup2 K dX11_ends_19 rfl rfl ?_
    obtain ⟨v20, e21, hf⟩ := sk_ob hf
    refine sk_ald20 K dX11_ends_20 e21 ?_
    refine sk_iconst (1 : Int32) K dX11_ends_21 (by decide) ?_
    refine sk_iadd K dX11_ends_22 ?_
    obtain ⟨d22, e23, hf⟩ := sk_ob hf
    refine sk_ast20 d22 K dX11_ends_23 e23 ?_
    have hR24 : d22 = dd := Option.some.inj hf
    exact sk_vret K dX11_ends_24 rfl rfl rfl hR24
noncomputable def fX11_fault (S : sk_S) (d : sk_D) (p0 : Nat) (p1 : Int32) : Option (Int32 × sk_D) :=
  (sk_pI S d p0 10 0 (0 : Int32)).bind fun d1 => if p1 = 0 then ((sk_gI S d1 p0 10 13).bind fun v9 => some (v9, d1)) else (if p1 = (1 : Int32) then ((sk_gI S d1 p0 10 14).bind fun v6 => some (v6, d1)) else (some ((-1 : Int32), d1)))
set_option maxRecDepth 100000 in
set_option maxHeartbeats 4000000 in
theorem sX11_fault (C : sk_C) (l : Launch) {S : sk_S} {d : sk_D} {p0 : Nat} {p1 : Int32} {rr : Int32} {dd : sk_D} (hf : fX11_fault S d p0 p1 = some (rr, dd)) : sk_Met C l 0 yX11_fault cX11_fault 2 (some .int) [.ref p0, .int p1] S d (some (.int rr)) S dd := by
  refine sk_Met.of (by decide) (Nat.le_of_ble_eq_true rfl) (Nat.le_refl _) (Nat.le_refl _) (fun X K0 hX => ?_)
  have K : sk_Ok X C cX11_fault 2 RX11 "fault" (some .int) 0 l (some (.int rr)) S dd := K0
  have R1 : X.2.2.2.2.2.2.2.2.2.2.2.1 ≤ S.1.1 ∧ X.2.2.2.2.2.2.2.2.2.2.2.2 ≤ S.1.2 := by rw [hX]; exact ⟨Nat.le_refl _, Nat.le_refl _⟩
  have R2 : S.1.1 ≤ S.1.1 ∧ S.1.2 ≤ S.1.2 := ⟨Nat.le_refl _, Nat.le_refl _⟩
  show sk_G X C 2 S d 0 [(0, .ref p0), (1, .int p1)] []
  unfold fX11_fault at hf
  refine sk_aload_n K dX11_fault_0 rfl 0 rfl ?_
  refine sk_iconst (0 : Int32) K dX11_fault_1 (by decide) ?_
  obtain ⟨d1, e2, hf⟩ := sk_ob hf
  refine sk_putI d1 K dX11_fault_2 fl_X11_1 rfl rfl rfl e2 ?_
  refine sk_iload_n K dX11_fault_5 rfl 1 rfl ?_
  refine sk_if_ne 16 K dX11_fault_6 (by decide) (fun h3 => ?_) (fun h3 => ?_)
  · rw [if_neg h3] at hf
    refine sk_iload_n K dX11_fault_16 rfl 1 rfl ?_
    refine sk_iconst (1 : Int32) K dX11_fault_17 (by decide) ?_
    refine sk_icmp_ne 28 K dX11_fault_18 (by decide) (fun h4 => ?_) (fun h4 => ?_)
    · rw [if_neg h4] at hf
      refine sk_iconst (-1 : Int32) K dX11_fault_28 (by decide) ?_
      have hR5 : ((-1 : Int32), d1) = (rr, dd) := Option.some.inj hf
      exact sk_iret K dX11_fault_29 rfl rfl (congrArg (fun z => z.1) hR5) rfl (congrArg (fun z => z.2) hR5)
    · rw [if_pos h4] at hf
      refine sk_aload_n K dX11_fault_21 rfl 0 rfl ?_
      obtain ⟨v6, e7, hf⟩ := sk_ob hf
      refine sk_getI K dX11_fault_22 fl_X11_27 rfl e7 ?_
      refine sk_goto 29 K dX11_fault_25 (by decide) ?_
      have hR8 : (v6, d1) = (rr, dd) := Option.some.inj hf
      exact sk_iret K dX11_fault_29 rfl rfl (congrArg (fun z => z.1) hR8) rfl (congrArg (fun z => z.2) hR8)
  · rw [if_pos h3] at hf
    refine sk_aload_n K dX11_fault_9 rfl 0 rfl ?_
    obtain ⟨v9, e10, hf⟩ := sk_ob hf
    refine sk_getI K dX11_fault_10 fl_X11_212 rfl e10 ?_
    refine sk_goto 29 K dX11_fault_13 (by decide) ?_
    have hR11 : (v9, d1) = (rr, dd) := Option.some.inj hf
    exact sk_iret K dX11_fault_29 rfl rfl (congrArg (fun z => z.1) hR11) rfl (congrArg (fun z => z.2) hR11)
noncomputable def fX11_isDoing (S : sk_S) (d : sk_D) (p0 : Nat) (p1 : Int64) : Option (Bool) :=
  (sk_gR S p0 10 1).bind fun v1 => (sk_lI S d v1 20 (1 : Int32)).bind fun v3 => (fX11_within S d p1 (0 : Int64) ((v3 - (1 : Int32)).toInt64)).bind fun v5 => some v5
set_option maxRecDepth 100000 in
set_option maxHeartbeats 4000000 in
theorem sX11_isDoing (C : sk_C) (l : Launch) {S : sk_S} {d : sk_D} {p0 : Nat} {p1 : Int64} {rr : Bool} (hf : fX11_isDoing S d p0 p1 = some rr) : sk_Met C l 1 yX11_isDoing cX11_isDoing 3 (some .boolean) [.ref p0, .long p1] S d (some (.int (sk_b rr))) S d := by
  refine sk_Met.of (by decide) (Nat.le_of_ble_eq_true rfl) (Nat.le_refl _) (Nat.le_refl _) (fun X K0 hX => ?_)
  have K : sk_Ok X C cX11_isDoing 3 RX11 "isDoing" (some .boolean) 1 l (some (.int (sk_b rr))) S d := K0
  have R1 : X.2.2.2.2.2.2.2.2.2.2.2.1 ≤ S.1.1 ∧ X.2.2.2.2.2.2.2.2.2.2.2.2 ≤ S.1.2 := by rw [hX]; exact ⟨Nat.le_refl _, Nat.le_refl _⟩
  have R2 : S.1.1 ≤ S.1.1 ∧ S.1.2 ≤ S.1.2 := ⟨Nat.le_refl _, Nat.le_refl _⟩
  show sk_G X C 3 S d 0 [(0, .ref p0), (1, .long p1)] []
  unfold fX11_isDoing at hf
  refine sk_lload_n K dX11_isDoing_0 rfl 1 rfl ?_
  refine sk_lconst (0 : Int64) K dX11_isDoing_1 (by decide) ?_
  refine sk_aload_n K dX11_isDoing_2 rfl 0 rfl ?_
  obtain ⟨v1, e2, hf⟩ := sk_ob hf
  refine sk_getR K dX11_isDoing_3 fl_X11_13 rfl e2 ?_
  refine sk_iconst (1 : Int32) K dX11_isDoing_6 (by decide) ?_
  obtain ⟨v3, e4, hf⟩ := sk_ob hf
  refine sk_ald20 K dX11_isDoing_7 e4 ?_
  refine sk_iconst (1 : Int32) K dX11_isDoing_8 (by decide) ?_
  refine sk_isub K dX11_isDoing_9 ?_
  refine sk_i2l K dX11_isDoing_10 ?_
  obtain ⟨v5, e6, hf⟩ := sk_ob hf
  refine sk_callS (As := [.long p1, .long (0 : Int64), .long ((v3 - (1 : Int32)).toInt64)]) (st := []) K dX11_isDoing_11 cl_X11_150 (sX11_within C l e6) (by decide) rfl rfl (Nat.le_of_ble_eq_true rfl) R1 R2 ?_
  have hR7 : v5 = rr := Option.some.inj hf
  exact sk_zret K dX11_isDoing_14 rfl rfl hR7 rfl rfl
noncomputable def fX11_isSet (S : sk_S) (d : sk_D) (p0 : Nat) (p1 : Int32) : Option (Bool) :=
  if p1 < 0 then (some false) else ((sk_gR S p0 10 1).bind fun v3 => (sk_lI S d v3 20 (1 : Int32)).bind fun v5 => if ((1 : Int32) <<< (v5 &&& 31)) ≤ p1 then (some false) else (some true))
set_option maxRecDepth 100000 in
set_option maxHeartbeats 4000000 in
theorem sX11_isSet (C : sk_C) (l : Launch) {S : sk_S} {d : sk_D} {p0 : Nat} {p1 : Int32} {rr : Bool} (hf : fX11_isSet S d p0 p1 = some rr) : sk_Met C l 0 yX11_isSet cX11_isSet 2 (some .boolean) [.ref p0, .int p1] S d (some (.int (sk_b rr))) S d := by
  refine sk_Met.of (by decide) (Nat.le_of_ble_eq_true rfl) (Nat.le_refl _) (Nat.le_refl _) (fun X K0 hX => ?_)
  have K : sk_Ok X C cX11_isSet 2 RX11 "isSet" (some .boolean) 0 l (some (.int (sk_b rr))) S d := K0
  have R1 : X.2.2.2.2.2.2.2.2.2.2.2.1 ≤ S.1.1 ∧ X.2.2.2.2.2.2.2.2.2.2.2.2 ≤ S.1.2 := by rw [hX]; exact ⟨Nat.le_refl _, Nat.le_refl _⟩
  have R2 : S.1.1 ≤ S.1.1 ∧ S.1.2 ≤ S.1.2 := ⟨Nat.le_refl _, Nat.le_refl _⟩
  show sk_G X C 2 S d 0 [(0, .ref p0), (1, .int p1)] []
  unfold fX11_isSet at hf
  refine sk_iload_n K dX11_isSet_0 rfl 1 rfl ?_
  refine sk_if_lt 20 K dX11_isSet_1 (by decide) (fun h1 => ?_) (fun h1 => ?_)
  · rw [if_pos h1] at hf
    refine sk_iconst (0 : Int32) K dX11_isSet_20 (by decide) ?_
    have hR2 : false = rr := Option.some.inj hf
    exact sk_zret (x := false) K dX11_isSet_21 rfl rfl hR2 rfl rfl
  · rw [if_neg h1] at hf
    refine sk_iload_n K dX11_isSet_4 rfl 1 rfl ?_
    refine sk_iconst (1 : Int32) K dX11_isSet_5 (by decide) ?_
    refine sk_aload_n K dX11_isSet_6 rfl 0 rfl ?_
    obtain ⟨v3, e4, hf⟩ := sk_ob hf
    refine sk_getR K dX11_isSet_7 fl_X11_13 rfl e4 ?_
    refine sk_iconst (1 : Int32) K dX11_isSet_10 (by decide) ?_
    obtain ⟨v5, e6, hf⟩ := sk_ob hf
    refine sk_ald20 K dX11_isSet_11 e6 ?_
    refine sk_ishl K dX11_isSet_12 ?_
    refine sk_icmp_ge 20 K dX11_isSet_13 (by decide) (fun h7 => ?_) (fun h7 => ?_)
    · rw [if_pos h7] at hf
      refine sk_iconst (0 : Int32) K dX11_isSet_20 (by decide) ?_
      have hR8 : false = rr := Option.some.inj hf
      exact sk_zret (x := false) K dX11_isSet_21 rfl rfl hR8 rfl rfl
    · rw [if_neg h7] at hf
      refine sk_iconst (1 : Int32) K dX11_isSet_16 (by decide) ?_
      refine sk_goto 21 K dX11_isSet_17 (by decide) ?_
      have hR9 : true = rr := Option.some.inj hf
      exact sk_zret (x := true) K dX11_isSet_21 rfl rfl hR9 rfl rfl
noncomputable def fX11_bitsOf_L4 (p0 : Int32) (s1 : Int32 × Int32) : Option ((Int32 × Int32) ⊕ (Int32)) :=
  if (10 : Int32) ≤ s1.2 then (some (.inr s1.1)) else (some (.inl (s1.1 + ((p0 >>> (s1.2 &&& 31)) &&& (1 : Int32)), s1.2 + 1)))
noncomputable def fX11_bitsOf (S : sk_S) (d : sk_D) (p0 : Int32) : Option (Int32) :=
  (sk_itr (fX11_bitsOf_L4 p0) ((0 : Int32), (0 : Int32))).bind fun x1 => some x1
set_option maxRecDepth 100000 in
set_option maxHeartbeats 4000000 in
theorem sX11_bitsOf (C : sk_C) (l : Launch) {S : sk_S} {d : sk_D} {p0 : Int32} {rr : Int32} (hf : fX11_bitsOf S d p0 = some rr) : sk_Met C l 0 yX11_bitsOf cX11_bitsOf 3 (some .int) [.int p0] S d (some (.int rr)) S d := by
  refine sk_Met.of (by decide) (Nat.le_of_ble_eq_true rfl) (Nat.le_refl _) (Nat.le_refl _) (fun X K0 hX => ?_)
  have K : sk_Ok X C cX11_bitsOf 3 RX11 "bitsOf" (some .int) 0 l (some (.int rr)) S d := K0
  have R1 : X.2.2.2.2.2.2.2.2.2.2.2.1 ≤ S.1.1 ∧ X.2.2.2.2.2.2.2.2.2.2.2.2 ≤ S.1.2 := by rw [hX]; exact ⟨Nat.le_refl _, Nat.le_refl _⟩
  have R2 : S.1.1 ≤ S.1.1 ∧ S.1.2 ≤ S.1.2 := ⟨Nat.le_refl _, Nat.le_refl _⟩
  show sk_G X C 3 S d 0 [(0, .int p0)] []
  unfold fX11_bitsOf at hf
  refine sk_iconst (0 : Int32) K dX11_bitsOf_0 (by decide) ?_
  refine sk_istore_n [(1, .int (0 : Int32)), (0, .int p0)] K dX11_bitsOf_1 rfl (by decide) rfl ?_
  refine sk_iconst (0 : Int32) K dX11_bitsOf_2 (by decide) ?_
  refine sk_istore_n [(2, .int (0 : Int32)), (1, .int (0 : Int32)), (0, .int p0)] K dX11_bitsOf_3 rfl (by decide) rfl ?_
  obtain ⟨x1, he1, hf⟩ := sk_ob hf
  have hret1 : ∀ r, r = x1 → r = rr := by
    intro r hr
    subst hr
    exact Option.some.inj hf
  refine sk_sub [(0, .int p0), (1, .int (0 : Int32)), (2, .int (0 : Int32))] [2, 1, 0] rfl ?_
  refine sk_loop (fun s1 => sk_G X C 3 S d 4 [(0, .int p0), (1, .int s1.1), (2, .int s1.2)] []) he1 (fun s1 o1 hf ih1 hx1 => ?_)
  unfold fX11_bitsOf_L4 at hf
  refine sk_iload_n K dX11_bitsOf_4 rfl 2 rfl ?_
  refine sk_bipush (10 : Int32) K dX11_bitsOf_5 (by decide) ?_
  refine sk_icmp_ge 24 K dX11_bitsOf_7 (by decide) (fun h1 => ?_) (fun h1 => ?_)
  · rw [if_pos h1] at hf
    refine sk_iload_n K dX11_bitsOf_24 rfl 1 rfl ?_
    have hR2 : s1.1 = rr := hret1 _ (hx1 _ (Option.some.inj hf).symm)
    exact sk_iret K dX11_bitsOf_25 rfl rfl hR2 rfl rfl
  · rw [if_neg h1] at hf
    refine sk_iload_n K dX11_bitsOf_10 rfl 1 rfl ?_
    refine sk_iload_n K dX11_bitsOf_11 rfl 0 rfl ?_
    refine sk_iload_n K dX11_bitsOf_12 rfl 2 rfl ?_
    refine sk_ishr K dX11_bitsOf_13 ?_
    refine sk_iconst (1 : Int32) K dX11_bitsOf_14 (by decide) ?_
    refine sk_iand K dX11_bitsOf_15 ?_
    refine sk_iadd K dX11_bitsOf_16 ?_
    refine sk_istore_n [(1, .int (s1.1 + ((p0 >>> (s1.2 &&& 31)) &&& (1 : Int32)))), (0, .int p0), (2, .int s1.2)] K dX11_bitsOf_17 rfl (by decide) rfl ?_
    refine sk_iinc (s1.2 + 1) [(2, .int (s1.2 + 1)), (1, .int (s1.1 + ((p0 >>> (s1.2 &&& 31)) &&& (1 : Int32)))), (0, .int p0)] K dX11_bitsOf_18 2 rfl rfl (by decide) rfl ?_
    refine sk_goto 4 K dX11_bitsOf_21 (by decide) ?_
    refine sk_sub [(0, .int p0), (1, .int (s1.1 + ((p0 >>> (s1.2 &&& 31)) &&& (1 : Int32)))), (2, .int (s1.2 + 1))] [2, 1, 0] rfl ?_
    have h9 := ih1 _ (Option.some.inj hf).symm
    exact h9
noncomputable def fX11_howIn (S : sk_S) (d : sk_D) (p0 : Int32) (p1 : Int32) : Option (Int32) :=
  some ((p0 >>> (((2 : Int32) * p1) &&& 31)) &&& (3 : Int32))
set_option maxRecDepth 100000 in
set_option maxHeartbeats 4000000 in
theorem sX11_howIn (C : sk_C) (l : Launch) {S : sk_S} {d : sk_D} {p0 : Int32} {p1 : Int32} {rr : Int32} (hf : fX11_howIn S d p0 p1 = some rr) : sk_Met C l 0 yX11_howIn cX11_howIn 2 (some .int) [.int p0, .int p1] S d (some (.int rr)) S d := by
  refine sk_Met.of (by decide) (Nat.le_of_ble_eq_true rfl) (Nat.le_refl _) (Nat.le_refl _) (fun X K0 hX => ?_)
  have K : sk_Ok X C cX11_howIn 2 RX11 "howIn" (some .int) 0 l (some (.int rr)) S d := K0
  have R1 : X.2.2.2.2.2.2.2.2.2.2.2.1 ≤ S.1.1 ∧ X.2.2.2.2.2.2.2.2.2.2.2.2 ≤ S.1.2 := by rw [hX]; exact ⟨Nat.le_refl _, Nat.le_refl _⟩
  have R2 : S.1.1 ≤ S.1.1 ∧ S.1.2 ≤ S.1.2 := ⟨Nat.le_refl _, Nat.le_refl _⟩
  show sk_G X C 2 S d 0 [(0, .int p0), (1, .int p1)] []
  unfold fX11_howIn at hf
  refine sk_iload_n K dX11_howIn_0 rfl 0 rfl ?_
  refine sk_iconst (2 : Int32) K dX11_howIn_1 (by decide) ?_
  refine sk_iload_n K dX11_howIn_2 rfl 1 rfl ?_
  refine sk_imul K dX11_howIn_3 ?_
  refine sk_ishr K dX11_howIn_4 ?_
  refine sk_iconst (3 : Int32) K dX11_howIn_5 (by decide) ?_
  refine sk_iand K dX11_howIn_6 ?_
  have hR1 : ((p0 >>> (((2 : Int32) * p1) &&& 31)) &&& (3 : Int32)) = rr := Option.some.inj hf
  exact sk_iret K dX11_howIn_7 rfl rfl hR1 rfl rfl
noncomputable def fX11_withHow (S : sk_S) (d : sk_D) (p0 : Int32) (p1 : Int32) (p2 : Int32) : Option (Int32) :=
  some ((p0 &&& (((3 : Int32) <<< (((2 : Int32) * p1) &&& 31)) ^^^ (-1 : Int32))) ||| (p2 <<< (((2 : Int32) * p1) &&& 31)))
set_option maxRecDepth 100000 in
set_option maxHeartbeats 4000000 in
theorem sX11_withHow (C : sk_C) (l : Launch) {S : sk_S} {d : sk_D} {p0 : Int32} {p1 : Int32} {p2 : Int32} {rr : Int32} (hf : fX11_withHow S d p0 p1 p2 = some rr) : sk_Met C l 0 yX11_withHow cX11_withHow 3 (some .int) [.int p0, .int p1, .int p2] S d (some (.int rr)) S d := by
  refine sk_Met.of (by decide) (Nat.le_of_ble_eq_true rfl) (Nat.le_refl _) (Nat.le_refl _) (fun X K0 hX => ?_)
  have K : sk_Ok X C cX11_withHow 3 RX11 "withHow" (some .int) 0 l (some (.int rr)) S d := K0
  have R1 : X.2.2.2.2.2.2.2.2.2.2.2.1 ≤ S.1.1 ∧ X.2.2.2.2.2.2.2.2.2.2.2.2 ≤ S.1.2 := by rw [hX]; exact ⟨Nat.le_refl _, Nat.le_refl _⟩
  have R2 : S.1.1 ≤ S.1.1 ∧ S.1.2 ≤ S.1.2 := ⟨Nat.le_refl _, Nat.le_refl _⟩
  show sk_G X C 3 S d 0 [(0, .int p0), (1, .int p1), (2, .int p2)] []
  unfold fX11_withHow at hf
  refine sk_iload_n K dX11_withHow_0 rfl 0 rfl ?_
  refine sk_iconst (3 : Int32) K dX11_withHow_1 (by decide) ?_
  refine sk_iconst (2 : Int32) K dX11_withHow_2 (by decide) ?_
  refine sk_iload_n K dX11_withHow_3 rfl 1 rfl ?_
  refine sk_imul K dX11_withHow_4 ?_
  refine sk_ishl K dX11_withHow_5 ?_
  refine sk_iconst (-1 : Int32) K dX11_withHow_6 (by decide) ?_
  refine sk_ixor K dX11_withHow_7 ?_
  refine sk_iand K dX11_withHow_8 ?_
  refine sk_iload_n K dX11_withHow_9 rfl 2 rfl ?_
  refine sk_iconst (2 : Int32) K dX11_withHow_10 (by decide) ?_
  refine sk_iload_n K dX11_withHow_11 rfl 1 rfl ?_
  refine sk_imul K dX11_withHow_12 ?_
  refine sk_ishl K dX11_withHow_13 ?_
  refine sk_ior K dX11_withHow_14 ?_
  have hR1 : ((p0 &&& (((3 : Int32) <<< (((2 : Int32) * p1) &&& 31)) ^^^ (-1 : Int32))) ||| (p2 <<< (((2 : Int32) * p1) &&& 31))) = rr := Option.some.inj hf
  exact sk_iret K dX11_withHow_15 rfl rfl hR1 rfl rfl
noncomputable def fX11_standNow_L4 (S : sk_S) (d : sk_D) (p0 : Nat) (s1 : Int32 × Int32) : Option ((Int32 × Int32) ⊕ (Int32)) :=
  if (8 : Int32) ≤ s1.2 then (some (.inr s1.1)) else ((sk_gR S p0 10 1).bind fun v3 => (sk_lI S d v3 20 ((74 : Int32) + s1.2)).bind fun v5 => some (.inl (s1.1 ||| (v5 <<< (((2 : Int32) * s1.2) &&& 31)), s1.2 + 1)))
noncomputable def fX11_standNow (S : sk_S) (d : sk_D) (p0 : Nat) : Option (Int32) :=
  (sk_itr (fX11_standNow_L4 S d p0) ((0 : Int32), (0 : Int32))).bind fun x1 => some x1
set_option maxRecDepth 100000 in
set_option maxHeartbeats 4000000 in
theorem sX11_standNow (C : sk_C) (l : Launch) {S : sk_S} {d : sk_D} {p0 : Nat} {rr : Int32} (hf : fX11_standNow S d p0 = some rr) : sk_Met C l 0 yX11_standNow cX11_standNow 3 (some .int) [.ref p0] S d (some (.int rr)) S d := by
  refine sk_Met.of (by decide) (Nat.le_of_ble_eq_true rfl) (Nat.le_refl _) (Nat.le_refl _) (fun X K0 hX => ?_)
  have K : sk_Ok X C cX11_standNow 3 RX11 "standNow" (some .int) 0 l (some (.int rr)) S d := K0
  have R1 : X.2.2.2.2.2.2.2.2.2.2.2.1 ≤ S.1.1 ∧ X.2.2.2.2.2.2.2.2.2.2.2.2 ≤ S.1.2 := by rw [hX]; exact ⟨Nat.le_refl _, Nat.le_refl _⟩
  have R2 : S.1.1 ≤ S.1.1 ∧ S.1.2 ≤ S.1.2 := ⟨Nat.le_refl _, Nat.le_refl _⟩
  show sk_G X C 3 S d 0 [(0, .ref p0)] []
  unfold fX11_standNow at hf
  refine sk_iconst (0 : Int32) K dX11_standNow_0 (by decide) ?_
  refine sk_istore_n [(1, .int (0 : Int32)), (0, .ref p0)] K dX11_standNow_1 rfl (by decide) rfl ?_
  refine sk_iconst (0 : Int32) K dX11_standNow_2 (by decide) ?_
  refine sk_istore_n [(2, .int (0 : Int32)), (1, .int (0 : Int32)), (0, .ref p0)] K dX11_standNow_3 rfl (by decide) rfl ?_
  obtain ⟨x1, he1, hf⟩ := sk_ob hf
  have hret1 : ∀ r, r = x1 → r = rr := by
    intro r hr
    subst hr
    exact Option.some.inj hf
  refine sk_sub [(0, .ref p0), (1, .int (0 : Int32)), (2, .int (0 : Int32))] [2, 1, 0] rfl ?_
  refine sk_loop (fun s1 => sk_G X C 3 S d 4 [(0, .ref p0), (1, .int s1.1), (2, .int s1.2)] []) he1 (fun s1 o1 hf ih1 hx1 => ?_)
  unfold fX11_standNow_L4 at hf
  refine sk_iload_n K dX11_standNow_4 rfl 2 rfl ?_
  refine sk_bipush (8 : Int32) K dX11_standNow_5 (by decide) ?_
  refine sk_icmp_ge 32 K dX11_standNow_7 (by decide) (fun h1 => ?_) (fun h1 => ?_)
  · rw [if_pos h1] at hf
    refine sk_iload_n K dX11_standNow_32 rfl 1 rfl ?_
    have hR2 : s1.1 = rr := hret1 _ (hx1 _ (Option.some.inj hf).symm)
    exact sk_iret K dX11_standNow_33 rfl rfl hR2 rfl rfl
  · rw [if_neg h1] at hf
    refine sk_iload_n K dX11_standNow_10 rfl 1 rfl ?_
    refine sk_aload_n K dX11_standNow_11 rfl 0 rfl ?_
    obtain ⟨v3, e4, hf⟩ := sk_ob hf
    refine sk_getR K dX11_standNow_12 fl_X11_13 rfl e4 ?_
    refine sk_bipush (74 : Int32) K dX11_standNow_15 (by decide) ?_
    refine sk_iload_n K dX11_standNow_17 rfl 2 rfl ?_
    refine sk_iadd K dX11_standNow_18 ?_
    obtain ⟨v5, e6, hf⟩ := sk_ob hf
    refine sk_ald20 K dX11_standNow_19 e6 ?_
    refine sk_iconst (2 : Int32) K dX11_standNow_20 (by decide) ?_
    refine sk_iload_n K dX11_standNow_21 rfl 2 rfl ?_
    refine sk_imul K dX11_standNow_22 ?_
    refine sk_ishl K dX11_standNow_23 ?_
    refine sk_ior K dX11_standNow_24 ?_
    refine sk_istore_n [(1, .int (s1.1 ||| (v5 <<< (((2 : Int32) * s1.2) &&& 31)))), (0, .ref p0), (2, .int s1.2)] K dX11_standNow_25 rfl (by decide) rfl ?_
    refine sk_iinc (s1.2 + 1) [(2, .int (s1.2 + 1)), (1, .int (s1.1 ||| (v5 <<< (((2 : Int32) * s1.2) &&& 31)))), (0, .ref p0)] K dX11_standNow_26 2 rfl rfl (by decide) rfl ?_
    refine sk_goto 4 K dX11_standNow_29 (by decide) ?_
    refine sk_sub [(0, .ref p0), (1, .int (s1.1 ||| (v5 <<< (((2 : Int32) * s1.2) &&& 31)))), (2, .int (s1.2 + 1))] [2, 1, 0] rfl ?_
    have h9 := ih1 _ (Option.some.inj hf).symm
    exact h9
noncomputable def fX11_isStand_L2 (S : sk_S) (p0 : Nat) (p1 : Int32) (s1 : Int32 × sk_D) : Option ((Int32 × sk_D) ⊕ (sk_D)) :=
  if (8 : Int32) ≤ s1.1 then (some (.inr s1.2)) else ((sk_gR S p0 10 1).bind fun v3 => (fX11_howIn S s1.2 p1 s1.1).bind fun v5 => (sk_sI S s1.2 v3 20 ((74 : Int32) + s1.1) v5).bind fun d7 => some (.inl (s1.1 + 1, d7)))
noncomputable def fX11_isStand (S : sk_S) (d : sk_D) (p0 : Nat) (p1 : Int32) : Option (sk_D) :=
  (sk_itr (fX11_isStand_L2 S p0 p1) ((0 : Int32), d)).bind fun x1 => some x1
set_option maxRecDepth 100000 in
set_option maxHeartbeats 4000000 in
theorem sX11_isStand (C : sk_C) (l : Launch) {S : sk_S} {d : sk_D} {p0 : Nat} {p1 : Int32} {dd : sk_D} (hf : fX11_isStand S d p0 p1 = some dd) : sk_Met C l 1 yX11_isStand cX11_isStand 3 none [.ref p0, .int p1] S d none S dd := by
  refine sk_Met.of (by decide) (Nat.le_of_ble_eq_true rfl) (Nat.le_refl _) (Nat.le_refl _) (fun X K0 hX => ?_)
  have K : sk_Ok X C cX11_isStand 3 RX11 "isStand" none 1 l none S dd := K0
  have R1 : X.2.2.2.2.2.2.2.2.2.2.2.1 ≤ S.1.1 ∧ X.2.2.2.2.2.2.2.2.2.2.2.2 ≤ S.1.2 := by rw [hX]; exact ⟨Nat.le_refl _, Nat.le_refl _⟩
  have R2 : S.1.1 ≤ S.1.1 ∧ S.1.2 ≤ S.1.2 := ⟨Nat.le_refl _, Nat.le_refl _⟩
  show sk_G X C 3 S d 0 [(0, .ref p0), (1, .int p1)] []
  unfold fX11_isStand at hf
  refine sk_iconst (0 : Int32) K dX11_isStand_0 (by decide) ?_
  refine sk_istore_n [(2, .int (0 : Int32)), (0, .ref p0), (1, .int p1)] K dX11_isStand_1 rfl (by decide) rfl ?_
  obtain ⟨x1, he1, hf⟩ := sk_ob hf
  have hret1 : ∀ r, r = x1 → r = dd := by
    intro r hr
    subst hr
    exact Option.some.inj hf
  refine sk_sub [(0, .ref p0), (1, .int p1), (2, .int (0 : Int32))] [1, 2, 0] rfl ?_
  refine sk_loop (fun s1 => sk_G X C 3 S s1.2 2 [(0, .ref p0), (1, .int p1), (2, .int s1.1)] []) he1 (fun s1 o1 hf ih1 hx1 => ?_)
  unfold fX11_isStand_L2 at hf
  refine sk_iload_n K dX11_isStand_2 rfl 2 rfl ?_
  refine sk_bipush (8 : Int32) K dX11_isStand_3 (by decide) ?_
  refine sk_icmp_ge 28 K dX11_isStand_5 (by decide) (fun h1 => ?_) (fun h1 => ?_)
  · rw [if_pos h1] at hf
    have hR2 : s1.2 = dd := hret1 _ (hx1 _ (Option.some.inj hf).symm)
    exact sk_vret K dX11_isStand_28 rfl rfl rfl hR2
  · rw [if_neg h1] at hf
    refine sk_aload_n K dX11_isStand_8 rfl 0 rfl ?_
    obtain ⟨v3, e4, hf⟩ := sk_ob hf
    refine sk_getR K dX11_isStand_9 fl_X11_13 rfl e4 ?_
    refine sk_bipush (74 : Int32) K dX11_isStand_12 (by decide) ?_
    refine sk_iload_n K dX11_isStand_14 rfl 2 rfl ?_
    refine sk_iadd K dX11_isStand_15 ?_
    refine sk_iload_n K dX11_isStand_16 rfl 1 rfl ?_
    refine sk_iload_n K dX11_isStand_17 rfl 2 rfl ?_
    obtain ⟨v5, e6, hf⟩ := sk_ob hf
    refine sk_callS (As := [.int p1, .int s1.1]) (st := [.int ((74 : Int32) + s1.1), .ref v3]) K dX11_isStand_18 cl_X11_215 (sX11_howIn C l e6) (by decide) rfl rfl (Nat.le_of_ble_eq_true rfl) R1 R2 ?_
    obtain ⟨d7, e8, hf⟩ := sk_ob hf
    refine sk_ast20 d7 K dX11_isStand_21 e8 ?_
    refine sk_iinc (s1.1 + 1) [(2, .int (s1.1 + 1)), (0, .ref p0), (1, .int p1)] K dX11_isStand_22 2 rfl rfl (by decide) rfl ?_
    refine sk_goto 2 K dX11_isStand_25 (by decide) ?_
    refine sk_sub [(0, .ref p0), (1, .int p1), (2, .int (s1.1 + 1))] [1, 2, 0] rfl ?_
    have h9 := ih1 _ (Option.some.inj hf).symm
    exact h9
noncomputable def fX11_thoseIn_L5 (S : sk_S) (d : sk_D) (p0 : Nat) (p1 : Int32) (p2 : Int32) (s1 : Int32 × Int32) : Option ((Int32 × Int32) ⊕ (Int32)) :=
  (sk_gR S p0 10 1).bind fun v1 => (sk_lI S d v1 20 (1 : Int32)).bind fun v3 => if v3 ≤ s1.2 then (some (.inr s1.1)) else ((fX11_howIn S d p1 s1.2).bind fun v7 => if v7 = p2 then (some (.inl (s1.1 ||| ((1 : Int32) <<< (s1.2 &&& 31)), s1.2 + 1))) else (some (.inl (s1.1 ||| (0 : Int32), s1.2 + 1))))
noncomputable def fX11_thoseIn (S : sk_S) (d : sk_D) (p0 : Nat) (p1 : Int32) (p2 : Int32) : Option (Int32) :=
  (sk_itr (fX11_thoseIn_L5 S d p0 p1 p2) ((0 : Int32), (0 : Int32))).bind fun x1 => some x1
set_option maxRecDepth 100000 in
set_option maxHeartbeats 4000000 in
theorem sX11_thoseIn (C : sk_C) (l : Launch) {S : sk_S} {d : sk_D} {p0 : Nat} {p1 : Int32} {p2 : Int32} {rr : Int32} (hf : fX11_thoseIn S d p0 p1 p2 = some rr) : sk_Met C l 1 yX11_thoseIn cX11_thoseIn 5 (some .int) [.ref p0, .int p1, .int p2] S d (some (.int rr)) S d := by
  refine sk_Met.of (by decide) (Nat.le_of_ble_eq_true rfl) (Nat.le_refl _) (Nat.le_refl _) (fun X K0 hX => ?_)
  have K : sk_Ok X C cX11_thoseIn 5 RX11 "thoseIn" (some .int) 1 l (some (.int rr)) S d := K0
  have R1 : X.2.2.2.2.2.2.2.2.2.2.2.1 ≤ S.1.1 ∧ X.2.2.2.2.2.2.2.2.2.2.2.2 ≤ S.1.2 := by rw [hX]; exact ⟨Nat.le_refl _, Nat.le_refl _⟩
  have R2 : S.1.1 ≤ S.1.1 ∧ S.1.2 ≤ S.1.2 := ⟨Nat.le_refl _, Nat.le_refl _⟩
  show sk_G X C 5 S d 0 [(0, .ref p0), (1, .int p1), (2, .int p2)] []
  unfold fX11_thoseIn at hf
  refine sk_iconst (0 : Int32) K dX11_thoseIn_0 (by decide) ?_
  refine sk_istore_n [(3, .int (0 : Int32)), (0, .ref p0), (1, .int p1), (2, .int p2)] K dX11_thoseIn_1 rfl (by decide) rfl ?_
  refine sk_iconst (0 : Int32) K dX11_thoseIn_2 (by decide) ?_
  refine sk_istore [(4, .int (0 : Int32)), (3, .int (0 : Int32)), (0, .ref p0), (1, .int p1), (2, .int p2)] K dX11_thoseIn_3 (by decide) rfl ?_
  obtain ⟨x1, he1, hf⟩ := sk_ob hf
  have hret1 : ∀ r, r = x1 → r = rr := by
    intro r hr
    subst hr
    exact Option.some.inj hf
  refine sk_sub [(0, .ref p0), (1, .int p1), (2, .int p2), (3, .int (0 : Int32)), (4, .int (0 : Int32))] [2, 3, 4, 1, 0] rfl ?_
  refine sk_loop (fun s1 => sk_G X C 5 S d 5 [(0, .ref p0), (1, .int p1), (2, .int p2), (3, .int s1.1), (4, .int s1.2)] []) he1 (fun s1 o1 hf ih1 hx1 => ?_)
  unfold fX11_thoseIn_L5 at hf
  refine sk_iload K dX11_thoseIn_5 4 rfl ?_
  refine sk_aload_n K dX11_thoseIn_7 rfl 0 rfl ?_
  obtain ⟨v1, e2, hf⟩ := sk_ob hf
  refine sk_getR K dX11_thoseIn_8 fl_X11_13 rfl e2 ?_
  refine sk_iconst (1 : Int32) K dX11_thoseIn_11 (by decide) ?_
  obtain ⟨v3, e4, hf⟩ := sk_ob hf
  refine sk_ald20 K dX11_thoseIn_12 e4 ?_
  refine sk_icmp_ge 43 K dX11_thoseIn_13 (by decide) (fun h5 => ?_) (fun h5 => ?_)
  · rw [if_pos h5] at hf
    refine sk_iload_n K dX11_thoseIn_43 rfl 3 rfl ?_
    have hR6 : s1.1 = rr := hret1 _ (hx1 _ (Option.some.inj hf).symm)
    exact sk_iret K dX11_thoseIn_44 rfl rfl hR6 rfl rfl
  · rw [if_neg h5] at hf
    refine sk_iload_n K dX11_thoseIn_16 rfl 3 rfl ?_
    refine sk_iload_n K dX11_thoseIn_17 rfl 1 rfl ?_
    refine sk_iload K dX11_thoseIn_18 4 rfl ?_
    obtain ⟨v7, e8, hf⟩ := sk_ob hf
    refine sk_callS (As := [.int p1, .int s1.2]) (st := [.int s1.1]) K dX11_thoseIn_20 cl_X11_215 (sX11_howIn C l e8) (by decide) rfl rfl (Nat.le_of_ble_eq_true rfl) R1 R2 ?_
    refine sk_iload_n K dX11_thoseIn_23 rfl 2 rfl ?_
    refine sk_icmp_ne 34 K dX11_thoseIn_24 (by decide) (fun h9 => ?_) (fun h9 => ?_)
    · rw [if_neg h9] at hf
      refine sk_iconst (0 : Int32) K dX11_thoseIn_34 (by decide) ?_
      refine sk_ior K dX11_thoseIn_35 ?_
      refine sk_istore_n [(3, .int (s1.1 ||| (0 : Int32))), (0, .ref p0), (1, .int p1), (2, .int p2), (4, .int s1.2)] K dX11_thoseIn_36 rfl (by decide) rfl ?_
      refine sk_iinc (s1.2 + 1) [(4, .int (s1.2 + 1)), (3, .int (s1.1 ||| (0 : Int32))), (0, .ref p0), (1, .int p1), (2, .int p2)] K dX11_thoseIn_37 4 rfl rfl (by decide) rfl ?_
      refine sk_goto 5 K dX11_thoseIn_40 (by decide) ?_
      refine sk_sub [(0, .ref p0), (1, .int p1), (2, .int p2), (3, .int (s1.1 ||| (0 : Int32))), (4, .int (s1.2 + 1))] [2, 3, 4, 1, 0] rfl ?_
      have h9 := ih1 _ (Option.some.inj hf).symm
      exact h9
    · rw [if_pos h9] at hf
      refine sk_iconst (1 : Int32) K dX11_thoseIn_27 (by decide) ?_
      refine sk_iload K dX11_thoseIn_28 4 rfl ?_
      refine sk_ishl K dX11_thoseIn_30 ?_
      refine sk_goto 35 K dX11_thoseIn_31 (by decide) ?_
      refine sk_ior K dX11_thoseIn_35 ?_
      refine sk_istore_n [(3, .int (s1.1 ||| ((1 : Int32) <<< (s1.2 &&& 31)))), (0, .ref p0), (1, .int p1), (2, .int p2), (4, .int s1.2)] K dX11_thoseIn_36 rfl (by decide) rfl ?_
      refine sk_iinc (s1.2 + 1) [(4, .int (s1.2 + 1)), (3, .int (s1.1 ||| ((1 : Int32) <<< (s1.2 &&& 31)))), (0, .ref p0), (1, .int p1), (2, .int p2)] K dX11_thoseIn_37 4 rfl rfl (by decide) rfl ?_
      refine sk_goto 5 K dX11_thoseIn_40 (by decide) ?_
      refine sk_sub [(0, .ref p0), (1, .int p1), (2, .int p2), (3, .int (s1.1 ||| ((1 : Int32) <<< (s1.2 &&& 31)))), (4, .int (s1.2 + 1))] [2, 3, 4, 1, 0] rfl ?_
      have h9 := ih1 _ (Option.some.inj hf).symm
      exact h9
noncomputable def fX11_doneIn (S : sk_S) (d : sk_D) (p0 : Nat) (p1 : Int32) : Option (Int32) :=
  if S.2.1 p0 = (10, 0) then ((fX11_thoseIn S d p0 p1 (1 : Int32)).bind fun v1 => if S.2.1 p0 = (10, 0) then ((fX11_thoseIn S d p0 p1 (2 : Int32)).bind fun v4 => some (v1 ||| v4)) else none) else none
set_option maxRecDepth 100000 in
set_option maxHeartbeats 4000000 in
theorem sX11_doneIn (C : sk_C) (l : Launch) {S : sk_S} {d : sk_D} {p0 : Nat} {p1 : Int32} {rr : Int32} (hf : fX11_doneIn S d p0 p1 = some rr) : sk_Met C l 2 yX11_doneIn cX11_doneIn 2 (some .int) [.ref p0, .int p1] S d (some (.int rr)) S d := by
  refine sk_Met.of (by decide) (Nat.le_of_ble_eq_true rfl) (Nat.le_refl _) (Nat.le_refl _) (fun X K0 hX => ?_)
  have K : sk_Ok X C cX11_doneIn 2 RX11 "doneIn" (some .int) 2 l (some (.int rr)) S d := K0
  have R1 : X.2.2.2.2.2.2.2.2.2.2.2.1 ≤ S.1.1 ∧ X.2.2.2.2.2.2.2.2.2.2.2.2 ≤ S.1.2 := by rw [hX]; exact ⟨Nat.le_refl _, Nat.le_refl _⟩
  have R2 : S.1.1 ≤ S.1.1 ∧ S.1.2 ≤ S.1.2 := ⟨Nat.le_refl _, Nat.le_refl _⟩
  show sk_G X C 2 S d 0 [(0, .ref p0), (1, .int p1)] []
  unfold fX11_doneIn at hf
  refine sk_aload_n K dX11_doneIn_0 rfl 0 rfl ?_
  refine sk_iload_n K dX11_doneIn_1 rfl 1 rfl ?_
  refine sk_iconst (1 : Int32) K dX11_doneIn_2 (by decide) ?_
  obtain ⟨h3, hf⟩ := sk_ib hf
  obtain ⟨v1, e2, hf⟩ := sk_ob hf
  refine sk_callV (As := [.int p1, .int (1 : Int32)]) (st := []) K dX11_doneIn_3 cl_X11_218 h3 (sX11_thoseIn C l e2) (by decide) rfl rfl (Nat.le_of_ble_eq_true rfl) R1 R2 ?_
  refine sk_aload_n K dX11_doneIn_6 rfl 0 rfl ?_
  refine sk_iload_n K dX11_doneIn_7 rfl 1 rfl ?_
  refine sk_iconst (2 : Int32) K dX11_doneIn_8 (by decide) ?_
  obtain ⟨h6, hf⟩ := sk_ib hf
  obtain ⟨v4, e5, hf⟩ := sk_ob hf
  refine sk_callV (As := [.int p1, .int (2 : Int32)]) (st := [.int v1]) K dX11_doneIn_9 cl_X11_218 h6 (sX11_thoseIn C l e5) (by decide) rfl rfl (Nat.le_of_ble_eq_true rfl) R1 R2 ?_
  refine sk_ior K dX11_doneIn_12 ?_
  have hR7 : (v1 ||| v4) = rr := Option.some.inj hf
  exact sk_iret K dX11_doneIn_13 rfl rfl hR7 rfl rfl
noncomputable def fX11_stubsIn (S : sk_S) (d : sk_D) (p0 : Nat) (p1 : Int32) : Option (Int32) :=
  if S.2.1 p0 = (10, 0) then ((fX11_thoseIn S d p0 p1 (1 : Int32)).bind fun v1 => if S.2.1 p0 = (10, 0) then ((fX11_thoseIn S d p0 p1 (3 : Int32)).bind fun v4 => some (v1 ||| v4)) else none) else none
set_option maxRecDepth 100000 in
set_option maxHeartbeats 4000000 in
theorem sX11_stubsIn (C : sk_C) (l : Launch) {S : sk_S} {d : sk_D} {p0 : Nat} {p1 : Int32} {rr : Int32} (hf : fX11_stubsIn S d p0 p1 = some rr) : sk_Met C l 2 yX11_stubsIn cX11_stubsIn 2 (some .int) [.ref p0, .int p1] S d (some (.int rr)) S d := by
  refine sk_Met.of (by decide) (Nat.le_of_ble_eq_true rfl) (Nat.le_refl _) (Nat.le_refl _) (fun X K0 hX => ?_)
  have K : sk_Ok X C cX11_stubsIn 2 RX11 "stubsIn" (some .int) 2 l (some (.int rr)) S d := K0
  have R1 : X.2.2.2.2.2.2.2.2.2.2.2.1 ≤ S.1.1 ∧ X.2.2.2.2.2.2.2.2.2.2.2.2 ≤ S.1.2 := by rw [hX]; exact ⟨Nat.le_refl _, Nat.le_refl _⟩
  have R2 : S.1.1 ≤ S.1.1 ∧ S.1.2 ≤ S.1.2 := ⟨Nat.le_refl _, Nat.le_refl _⟩
  show sk_G X C 2 S d 0 [(0, .ref p0), (1, .int p1)] []
  unfold fX11_stubsIn at hf
  refine sk_aload_n K dX11_stubsIn_0 rfl 0 rfl ?_
  refine sk_iload_n K dX11_stubsIn_1 rfl 1 rfl ?_
  refine sk_iconst (1 : Int32) K dX11_stubsIn_2 (by decide) ?_
  obtain ⟨h3, hf⟩ := sk_ib hf
  obtain ⟨v1, e2, hf⟩ := sk_ob hf
  refine sk_callV (As := [.int p1, .int (1 : Int32)]) (st := []) K dX11_stubsIn_3 cl_X11_218 h3 (sX11_thoseIn C l e2) (by decide) rfl rfl (Nat.le_of_ble_eq_true rfl) R1 R2 ?_
  refine sk_aload_n K dX11_stubsIn_6 rfl 0 rfl ?_
  refine sk_iload_n K dX11_stubsIn_7 rfl 1 rfl ?_
  refine sk_iconst (3 : Int32) K dX11_stubsIn_8 (by decide) ?_
  obtain ⟨h6, hf⟩ := sk_ib hf
  obtain ⟨v4, e5, hf⟩ := sk_ob hf
  refine sk_callV (As := [.int p1, .int (3 : Int32)]) (st := [.int v1]) K dX11_stubsIn_9 cl_X11_218 h6 (sX11_thoseIn C l e5) (by decide) rfl rfl (Nat.le_of_ble_eq_true rfl) R1 R2 ?_
  refine sk_ior K dX11_stubsIn_12 ?_
  have hR7 : (v1 ||| v4) = rr := Option.some.inj hf
  exact sk_iret K dX11_stubsIn_13 rfl rfl hR7 rfl rfl
noncomputable def fX11_sizesOf_L4 (S : sk_S) (d : sk_D) (p0 : Nat) (p1 : Int32) (s1 : Int32 × Int32) : Option ((Int32 × Int32) ⊕ (Int32)) :=
  (sk_gR S p0 10 1).bind fun v1 => (sk_lI S d v1 20 (1 : Int32)).bind fun v3 => if v3 ≤ s1.2 then (some (.inr s1.1)) else ((fX11_isIn S d p1.toInt64 s1.2).bind fun v7 => if v7 = true then ((sk_gR S p0 10 1).bind fun v10 => (sk_lI S d v10 20 ((10 : Int32) + s1.2)).bind fun v12 => some (.inl (s1.1 + v12, s1.2 + 1))) else (some (.inl (s1.1 + (0 : Int32), s1.2 + 1))))
noncomputable def fX11_sizesOf (S : sk_S) (d : sk_D) (p0 : Nat) (p1 : Int32) : Option (Int32) :=
  (sk_itr (fX11_sizesOf_L4 S d p0 p1) ((0 : Int32), (0 : Int32))).bind fun x1 => some x1
set_option maxRecDepth 100000 in
set_option maxHeartbeats 4000000 in
theorem sX11_sizesOf (C : sk_C) (l : Launch) {S : sk_S} {d : sk_D} {p0 : Nat} {p1 : Int32} {rr : Int32} (hf : fX11_sizesOf S d p0 p1 = some rr) : sk_Met C l 1 yX11_sizesOf cX11_sizesOf 4 (some .int) [.ref p0, .int p1] S d (some (.int rr)) S d := by
  refine sk_Met.of (by decide) (Nat.le_of_ble_eq_true rfl) (Nat.le_refl _) (Nat.le_refl _) (fun X K0 hX => ?_)
  have K : sk_Ok X C cX11_sizesOf 4 RX11 "sizesOf" (some .int) 1 l (some (.int rr)) S d := K0
  have R1 : X.2.2.2.2.2.2.2.2.2.2.2.1 ≤ S.1.1 ∧ X.2.2.2.2.2.2.2.2.2.2.2.2 ≤ S.1.2 := by rw [hX]; exact ⟨Nat.le_refl _, Nat.le_refl _⟩
  have R2 : S.1.1 ≤ S.1.1 ∧ S.1.2 ≤ S.1.2 := ⟨Nat.le_refl _, Nat.le_refl _⟩
  show sk_G X C 4 S d 0 [(0, .ref p0), (1, .int p1)] []
  unfold fX11_sizesOf at hf
  refine sk_iconst (0 : Int32) K dX11_sizesOf_0 (by decide) ?_
  refine sk_istore_n [(2, .int (0 : Int32)), (0, .ref p0), (1, .int p1)] K dX11_sizesOf_1 rfl (by decide) rfl ?_
  refine sk_iconst (0 : Int32) K dX11_sizesOf_2 (by decide) ?_
  refine sk_istore_n [(3, .int (0 : Int32)), (2, .int (0 : Int32)), (0, .ref p0), (1, .int p1)] K dX11_sizesOf_3 rfl (by decide) rfl ?_
  obtain ⟨x1, he1, hf⟩ := sk_ob hf
  have hret1 : ∀ r, r = x1 → r = rr := by
    intro r hr
    subst hr
    exact Option.some.inj hf
  refine sk_sub [(0, .ref p0), (1, .int p1), (2, .int (0 : Int32)), (3, .int (0 : Int32))] [2, 3, 1, 0] rfl ?_
  refine sk_loop (fun s1 => sk_G X C 4 S d 4 [(0, .ref p0), (1, .int p1), (2, .int s1.1), (3, .int s1.2)] []) he1 (fun s1 o1 hf ih1 hx1 => ?_)
  unfold fX11_sizesOf_L4 at hf
  refine sk_iload_n K dX11_sizesOf_4 rfl 3 rfl ?_
  refine sk_aload_n K dX11_sizesOf_5 rfl 0 rfl ?_
  obtain ⟨v1, e2, hf⟩ := sk_ob hf
  refine sk_getR K dX11_sizesOf_6 fl_X11_13 rfl e2 ?_
  refine sk_iconst (1 : Int32) K dX11_sizesOf_9 (by decide) ?_
  obtain ⟨v3, e4, hf⟩ := sk_ob hf
  refine sk_ald20 K dX11_sizesOf_10 e4 ?_
  refine sk_icmp_ge 45 K dX11_sizesOf_11 (by decide) (fun h5 => ?_) (fun h5 => ?_)
  · rw [if_pos h5] at hf
    refine sk_iload_n K dX11_sizesOf_45 rfl 2 rfl ?_
    have hR6 : s1.1 = rr := hret1 _ (hx1 _ (Option.some.inj hf).symm)
    exact sk_iret K dX11_sizesOf_46 rfl rfl hR6 rfl rfl
  · rw [if_neg h5] at hf
    refine sk_iload_n K dX11_sizesOf_14 rfl 2 rfl ?_
    refine sk_iload_n K dX11_sizesOf_15 rfl 1 rfl ?_
    refine sk_i2l K dX11_sizesOf_16 ?_
    refine sk_iload_n K dX11_sizesOf_17 rfl 3 rfl ?_
    obtain ⟨v7, e8, hf⟩ := sk_ob hf
    refine sk_callS (As := [.long p1.toInt64, .int s1.2]) (st := [.int s1.1]) K dX11_sizesOf_18 cl_X11_221 (sX11_isIn C l e8) (by decide) rfl rfl (Nat.le_of_ble_eq_true rfl) R1 R2 ?_
    refine sk_ifeqB 36 K dX11_sizesOf_21 (by decide) (fun h9 => ?_) (fun h9 => ?_)
    · rw [if_neg h9] at hf
      refine sk_iconst (0 : Int32) K dX11_sizesOf_36 (by decide) ?_
      refine sk_iadd K dX11_sizesOf_37 ?_
      refine sk_istore_n [(2, .int (s1.1 + (0 : Int32))), (0, .ref p0), (1, .int p1), (3, .int s1.2)] K dX11_sizesOf_38 rfl (by decide) rfl ?_
      refine sk_iinc (s1.2 + 1) [(3, .int (s1.2 + 1)), (2, .int (s1.1 + (0 : Int32))), (0, .ref p0), (1, .int p1)] K dX11_sizesOf_39 3 rfl rfl (by decide) rfl ?_
      refine sk_goto 4 K dX11_sizesOf_42 (by decide) ?_
      refine sk_sub [(0, .ref p0), (1, .int p1), (2, .int (s1.1 + (0 : Int32))), (3, .int (s1.2 + 1))] [2, 3, 1, 0] rfl ?_
      have h9 := ih1 _ (Option.some.inj hf).symm
      exact h9
    · rw [if_pos h9] at hf
      refine sk_aload_n K dX11_sizesOf_24 rfl 0 rfl ?_
      obtain ⟨v10, e11, hf⟩ := sk_ob hf
      refine sk_getR K dX11_sizesOf_25 fl_X11_13 rfl e11 ?_
      refine sk_bipush (10 : Int32) K dX11_sizesOf_28 (by decide) ?_
      refine sk_iload_n K dX11_sizesOf_30 rfl 3 rfl ?_
      refine sk_iadd K dX11_sizesOf_31 ?_
      obtain ⟨v12, e13, hf⟩ := sk_ob hf
      refine sk_ald20 K dX11_sizesOf_32 e13 ?_
      refine sk_goto 37 K dX11_sizesOf_33 (by decide) ?_
      refine sk_iadd K dX11_sizesOf_37 ?_
      refine sk_istore_n [(2, .int (s1.1 + v12)), (0, .ref p0), (1, .int p1), (3, .int s1.2)] K dX11_sizesOf_38 rfl (by decide) rfl ?_
      refine sk_iinc (s1.2 + 1) [(3, .int (s1.2 + 1)), (2, .int (s1.1 + v12)), (0, .ref p0), (1, .int p1)] K dX11_sizesOf_39 3 rfl rfl (by decide) rfl ?_
      refine sk_goto 4 K dX11_sizesOf_42 (by decide) ?_
      refine sk_sub [(0, .ref p0), (1, .int p1), (2, .int (s1.1 + v12)), (3, .int (s1.2 + 1))] [2, 3, 1, 0] rfl ?_
      have h9 := ih1 _ (Option.some.inj hf).symm
      exact h9
noncomputable def fX11_leftIn (S : sk_S) (d : sk_D) (p0 : Nat) (p1 : Int32) : Option (Int32) :=
  (sk_gR S p0 10 1).bind fun v1 => (sk_lI S d v1 20 (3 : Int32)).bind fun v3 => if S.2.1 p0 = (10, 0) then ((fX11_stubsIn S d p0 p1).bind fun v5 => if S.2.1 p0 = (10, 0) then ((fX11_sizesOf S d p0 v5).bind fun v8 => some (v3 - v8)) else none) else none
set_option maxRecDepth 100000 in
set_option maxHeartbeats 4000000 in
theorem sX11_leftIn (C : sk_C) (l : Launch) {S : sk_S} {d : sk_D} {p0 : Nat} {p1 : Int32} {rr : Int32} (hf : fX11_leftIn S d p0 p1 = some rr) : sk_Met C l 3 yX11_leftIn cX11_leftIn 2 (some .int) [.ref p0, .int p1] S d (some (.int rr)) S d := by
  refine sk_Met.of (by decide) (Nat.le_of_ble_eq_true rfl) (Nat.le_refl _) (Nat.le_refl _) (fun X K0 hX => ?_)
  have K : sk_Ok X C cX11_leftIn 2 RX11 "leftIn" (some .int) 3 l (some (.int rr)) S d := K0
  have R1 : X.2.2.2.2.2.2.2.2.2.2.2.1 ≤ S.1.1 ∧ X.2.2.2.2.2.2.2.2.2.2.2.2 ≤ S.1.2 := by rw [hX]; exact ⟨Nat.le_refl _, Nat.le_refl _⟩
  have R2 : S.1.1 ≤ S.1.1 ∧ S.1.2 ≤ S.1.2 := ⟨Nat.le_refl _, Nat.le_refl _⟩
  show sk_G X C 2 S d 0 [(0, .ref p0), (1, .int p1)] []
  unfold fX11_leftIn at hf
  refine sk_aload_n K dX11_leftIn_0 rfl 0 rfl ?_
  obtain ⟨v1, e2, hf⟩ := sk_ob hf
  refine sk_getR K dX11_leftIn_1 fl_X11_13 rfl e2 ?_
  refine sk_iconst (3 : Int32) K dX11_leftIn_4 (by decide) ?_
  obtain ⟨v3, e4, hf⟩ := sk_ob hf
  refine sk_ald20 K dX11_leftIn_5 e4 ?_
  refine sk_aload_n K dX11_leftIn_6 rfl 0 rfl ?_
  refine sk_aload_n K dX11_leftIn_7 rfl 0 rfl ?_
  refine sk_iload_n K dX11_leftIn_8 rfl 1 rfl ?_
  obtain ⟨h7, hf⟩ := sk_ib hf
  obtain ⟨v5, e6, hf⟩ := sk_ob hf
  refine sk_callV (As := [.int p1]) (st := [.ref p0, .int v3]) K dX11_leftIn_9 cl_X11_225 h7 (sX11_stubsIn C l e6) (by decide) rfl rfl (Nat.le_of_ble_eq_true rfl) R1 R2 ?_
  obtain ⟨h10, hf⟩ := sk_ib hf
  obtain ⟨v8, e9, hf⟩ := sk_ob hf
  refine sk_callV (As := [.int v5]) (st := [.int v3]) K dX11_leftIn_12 cl_X11_228 h10 (sX11_sizesOf C l e9) (by decide) rfl rfl (Nat.le_of_ble_eq_true rfl) R1 R2 ?_
  refine sk_isub K dX11_leftIn_15 ?_
  have hR11 : (v3 - v8) = rr := Option.some.inj hf
  exact sk_iret K dX11_leftIn_16 rfl rfl hR11 rfl rfl
