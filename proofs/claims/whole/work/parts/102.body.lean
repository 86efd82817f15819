noncomputable def fX5_endLine (S : sk_S) (d : sk_D) (p0 : Nat) : Option (sk_D) :=
  if S.2.1 p0 = (5, 0) then ((fX5_expect S d p0 (59 : Int32)).bind fun d3 => (sk_gR S p0 5 0).bind fun v5 => (sk_gI S d3 v5 2 4).bind fun v7 => (sk_pI S d3 v5 2 4 (v7 + (1 : Int32))).bind fun d9 => some d9) else none
set_option maxRecDepth 100000 in
set_option maxHeartbeats 4000000 in
theorem sX5_endLine (C : sk_C) (l : Launch) {S : sk_S} {d : sk_D} {p0 : Nat} {dd : sk_D} (hf : fX5_endLine S d p0 = some dd) : sk_Met C l 2 yX5_endLine cX5_endLine 1 none [.ref p0] S d none S dd := by
  refine sk_Met.of (by decide) (Nat.le_of_ble_eq_true rfl) (Nat.le_refl _) (Nat.le_refl _) (fun X K0 hX => ?_)
  have K : sk_Ok X C cX5_endLine 1 RX5 "endLine" none 2 l none S dd := K0
  have R1 : X.2.2.2.2.2.2.2.2.2.2.2.1 ≤ S.1.1 ∧ X.2.2.2.2.2.2.2.2.2.2.2.2 ≤ S.1.2 := by rw [hX]; exact ⟨Nat.le_refl _, Nat.le_refl _⟩
  have R2 : S.1.1 ≤ S.1.1 ∧ S.1.2 ≤ S.1.2 := ⟨Nat.le_refl _, Nat.le_refl _⟩
  show sk_G X C 1 S d 0 [(0, .ref p0)] []
  unfold fX5_endLine at hf
  refine sk_aload_n K dX5_endLine_0 rfl 0 rfl ?_
  refine sk_bipush (59 : Int32) K dX5_endLine_1 (by decide) ?_
  obtain ⟨h4, hf⟩ := sk_ib hf
  obtain ⟨d3, e2, hf⟩ := sk_ob hf
  refine sk_callV (As := [.int (59 : Int32)]) (st := []) K dX5_endLine_3 cl_X5_107 h4 (sX5_expect C l e2) (by decide) rfl rfl (Nat.le_of_ble_eq_true rfl) R1 R2 ?_
  refine sk_aload_n K dX5_endLine_6 rfl 0 rfl ?_
  obtain ⟨v5, e6, hf⟩ := sk_ob hf
  refine sk_getR K dX5_endLine_7 fl_X5_12 rfl e6 ?_
  refine sk_dup K dX5_endLine_10 rfl ?_
  obtain ⟨v7, e8, hf⟩ := sk_ob hf
  refine sk_getI K dX5_endLine_11 fl_X5_119 rfl e8 ?_
  refine sk_iconst (1 : Int32) K dX5_endLine_14 (by decide) ?_
  refine sk_iadd K dX5_endLine_15 ?_
  obtain ⟨d9, e10, hf⟩ := sk_ob hf
  refine sk_putI d9 K dX5_endLine_16 fl_X5_119 rfl rfl rfl e10 ?_
  have hR11 : d9 = dd := Option.some.inj hf
  exact sk_vret K dX5_endLine_19 rfl rfl rfl hR11
noncomputable def fX5_lifeLine (S : sk_S) (d : sk_D) (p0 : Nat) : Option (sk_D) :=
  if S.2.1 p0 = (5, 0) then ((fX5_expect S d p0 (0 : Int32)).bind fun d3 => if S.2.1 p0 = (5, 0) then ((fX5_expect S d3 p0 (1 : Int32)).bind fun d7 => (sk_gR S p0 5 0).bind fun v9 => if S.2.1 p0 = (5, 0) then ((fX5_number S d7 p0 (0 : Int32) (40 : Int32)).bind fun b15 => (sk_pI S b15.2 v9 2 0 b15.1).bind fun d16 => if S.2.1 p0 = (5, 0) then ((fX5_endLine S d16 p0).bind fun d20 => some d20) else none) else none) else none) else none
set_option maxRecDepth 100000 in
set_option maxHeartbeats 4000000 in
theorem sX5_lifeLine (C : sk_C) (l : Launch) {S : sk_S} {d : sk_D} {p0 : Nat} {dd : sk_D} (hf : fX5_lifeLine S d p0 = some dd) : sk_Met C l 3 yX5_lifeLine cX5_lifeLine 1 none [.ref p0] S d none S dd := by
  refine sk_Met.of (by decide) (Nat.le_of_ble_eq_true rfl) (Nat.le_refl _) (Nat.le_refl _) (fun X K0 hX => ?_)
  have K : sk_Ok X C cX5_lifeLine 1 RX5 "lifeLine" none 3 l none S dd := K0
  have R1 : X.2.2.2.2.2.2.2.2.2.2.2.1 ≤ S.1.1 ∧ X.2.2.2.2.2.2.2.2.2.2.2.2 ≤ S.1.2 := by rw [hX]; exact ⟨Nat.le_refl _, Nat.le_refl _⟩
  have R2 : S.1.1 ≤ S.1.1 ∧ S.1.2 ≤ S.1.2 := ⟨Nat.le_refl _, Nat.le_refl _⟩
  show sk_G X C 1 S d 0 [(0, .ref p0)] []
  unfold fX5_lifeLine at hf
  refine sk_aload_n K dX5_lifeLine_0 rfl 0 rfl ?_
  refine sk_iconst (0 : Int32) K dX5_lifeLine_1 (by decide) ?_
  obtain ⟨h4, hf⟩ := sk_ib hf
  obtain ⟨d3, e2, hf⟩ := sk_ob hf
  refine sk_callV (As := [.int (0 : Int32)]) (st := []) K dX5_lifeLine_2 cl_X5_107 h4 (sX5_expect C l e2) (by decide) rfl rfl (Nat.le_of_ble_eq_true rfl) R1 R2 ?_
  refine sk_aload_n K dX5_lifeLine_5 rfl 0 rfl ?_
  refine sk_iconst (1 : Int32) K dX5_lifeLine_6 (by decide) ?_
  obtain ⟨h8, hf⟩ := sk_ib hf
  obtain ⟨d7, e6, hf⟩ := sk_ob hf
  refine sk_callV (As := [.int (1 : Int32)]) (st := []) K dX5_lifeLine_7 cl_X5_107 h8 (sX5_expect C l e6) (by decide) rfl rfl (Nat.le_of_ble_eq_true rfl) R1 R2 ?_
  refine sk_aload_n K dX5_lifeLine_10 rfl 0 rfl ?_
  obtain ⟨v9, e10, hf⟩ := sk_ob hf
  refine sk_getR K dX5_lifeLine_11 fl_X5_12 rfl e10 ?_
  refine sk_aload_n K dX5_lifeLine_14 rfl 0 rfl ?_
  refine sk_iconst (0 : Int32) K dX5_lifeLine_15 (by decide) ?_
  refine sk_bipush (40 : Int32) K dX5_lifeLine_16 (by decide) ?_
  obtain ⟨h14, hf⟩ := sk_ib hf
  obtain ⟨⟨v11, d13⟩, e12, hf⟩ := sk_ob hf
  try dsimp only at hf
  refine sk_callV (As := [.int (0 : Int32), .int (40 : Int32)]) (st := [.ref v9]) K dX5_lifeLine_18 cl_X5_110 h14 (sX5_number C l e12) (by decide) rfl rfl (Nat.le_of_ble_eq_true rfl) R1 R2 ?_
  obtain ⟨d16, e17, hf⟩ := sk_ob hf
  refine sk_putI d16 K dX5_lifeLine_21 fl_X5_113 rfl rfl rfl e17 ?_
  refine sk_aload_n K dX5_lifeLine_24 rfl 0 rfl ?_
  obtain ⟨h21, hf⟩ := sk_ib hf
  obtain ⟨d20, e19, hf⟩ := sk_ob hf
  refine sk_callV (As := []) (st := []) K dX5_lifeLine_25 cl_X5_116 h21 (sX5_endLine C l e19) (by decide) rfl rfl (Nat.le_of_ble_eq_true rfl) R1 R2 ?_
  have hR22 : d20 = dd := Option.some.inj hf
  exact sk_vret K dX5_lifeLine_28 rfl rfl rfl hR22
noncomputable def fX5_flag_J39 (S : sk_S) (v1 : Nat) (d2 : sk_D) : Option (sk_D) :=
  if S.2.1 v1 = (5, 0) then ((fX5_fail S d2 v1 (2 : Int32)).bind fun d5 => some d5) else none
noncomputable def fX5_flag_J28 (S : sk_S) (v8 : Nat) (v9 : Int32) (v10 : Int32) (d11 : sk_D) : Option (sk_D) :=
  (sk_gR S v8 5 0).bind fun v12 => if S.2.1 v12 = (2, 0) then ((fX2_has S d11 v12 v9).bind fun v14 => if v14 = true then (if S.2.1 v8 = (5, 0) then ((fX5_next S d11 v8).bind fun d20 => if v10 = (4 : Int32) then ((sk_gR S v8 5 0).bind fun v23 => (sk_gR S v23 2 6).bind fun v25 => if S.2.1 v8 = (5, 0) then ((fX5_number S d20 v8 (0 : Int32) (9 : Int32)).bind fun b31 => (sk_sI S b31.2 v25 20 v9 b31.1).bind fun d32 => some d32) else none) else (if v10 = (5 : Int32) then ((sk_gR S v8 5 0).bind fun v36 => (sk_gR S v36 2 10).bind fun v38 => (sk_lI S d20 v38 20 v9).bind fun v40 => if S.2.1 v8 = (5, 0) then ((fX5_number S d20 v8 (0 : Int32) (v9 - (1 : Int32))).bind fun b46 => (sk_sI S b46.2 v38 20 v9 (v40 ||| ((1 : Int32) <<< (b46.1 &&& 31)))).bind fun d47 => some d47) else none) else (if v10 = (6 : Int32) then ((sk_gR S v8 5 0).bind fun v51 => (sk_gR S v51 2 10).bind fun v53 => (sk_lI S d20 v53 20 v9).bind fun v55 => if S.2.1 v8 = (5, 0) then ((fX5_number S d20 v8 (0 : Int32) (v9 - (1 : Int32))).bind fun b61 => (sk_sI S b61.2 v53 20 v9 (v55 ||| ((1 : Int32) <<< (b61.1 &&& 31)))).bind fun d62 => some d62) else none) else (if v10 = (7 : Int32) then ((sk_gR S v8 5 0).bind fun v66 => (sk_gR S v66 2 10).bind fun v68 => (sk_lI S d20 v68 20 v9).bind fun v70 => if S.2.1 v8 = (5, 0) then ((fX5_number S d20 v8 (0 : Int32) (v9 - (1 : Int32))).bind fun b76 => (sk_sI S b76.2 v68 20 v9 (v70 ||| ((1 : Int32) <<< (b76.1 &&& 31)))).bind fun d77 => some d77) else none) else (if v10 = (8 : Int32) then ((sk_gR S v8 5 0).bind fun v81 => (sk_gR S v81 2 7).bind fun v83 => if S.2.1 v8 = (5, 0) then ((fX5_number S d20 v8 (0 : Int32) (10 : Int32)).bind fun b89 => (sk_sI S b89.2 v83 20 v9 b89.1).bind fun d90 => some d90) else none) else (if v10 = (9 : Int32) then ((sk_gR S v8 5 0).bind fun v94 => (sk_gR S v94 2 8).bind fun v96 => if S.2.1 v8 = (5, 0) then ((fX5_number S d20 v8 (0 : Int32) (10 : Int32)).bind fun b102 => (sk_sI S b102.2 v96 20 v9 b102.1).bind fun d103 => some d103) else none) else (if v10 = (10 : Int32) then ((sk_gR S v8 5 0).bind fun v107 => (sk_gR S v107 2 9).bind fun v109 => if S.2.1 v8 = (5, 0) then ((fX5_number S d20 v8 (0 : Int32) (9 : Int32)).bind fun b115 => (sk_sI S b115.2 v109 20 v9 b115.1).bind fun d116 => some d116) else none) else ((sk_gR S v8 5 0).bind fun v119 => (sk_gR S v119 2 10).bind fun v121 => (sk_lI S d20 v121 20 v9).bind fun v123 => if S.2.1 v8 = (5, 0) then ((fX5_number S d20 v8 (0 : Int32) (v9 - (1 : Int32))).bind fun b129 => (sk_sI S b129.2 v121 20 v9 (v123 ||| ((1 : Int32) <<< (b129.1 &&& 31)))).bind fun d130 => some d130) else none)))))))) else none) else (fX5_flag_J39 S v8 d11)) else none
noncomputable def fX5_flag (S : sk_S) (d : sk_D) (p0 : Nat) (p1 : Int32) : Option (sk_D) :=
  if S.2.1 p0 = (5, 0) then ((fX5_kind S d p0).bind fun v133 => if v133 = (4 : Int32) then (fX5_flag_J28 S p0 p1 v133 d) else (if v133 = (11 : Int32) then (fX5_flag_J28 S p0 p1 v133 d) else (if v133 < (8 : Int32) then (fX5_flag_J39 S p0 d) else (if (10 : Int32) < v133 then (fX5_flag_J39 S p0 d) else (fX5_flag_J28 S p0 p1 v133 d))))) else none
set_option maxRecDepth 100000 in
set_option maxHeartbeats 4000000 in
theorem sX5_flag (C : sk_C) (l : Launch) {S : sk_S} {d : sk_D} {p0 : Nat} {p1 : Int32} {dd : sk_D} (hf : fX5_flag S d p0 p1 = some dd) : sk_Met C l 2 yX5_flag cX5_flag 3 none [.ref p0, .int p1] S d none S dd := by
  refine sk_Met.of (by decide) (Nat.le_of_ble_eq_true rfl) (Nat.le_refl _) (Nat.le_refl _) (fun X K0 hX => ?_)
  have K : sk_Ok X C cX5_flag 3 RX5 "flag" none 2 l none S dd := K0
  have R1 : X.2.2.2.2.2.2.2.2.2.2.2.1 ≤ S.1.1 ∧ X.2.2.2.2.2.2.2.2.2.2.2.2 ≤ S.1.2 := by rw [hX]; exact ⟨Nat.le_refl _, Nat.le_refl _⟩
  have R2 : S.1.1 ≤ S.1.1 ∧ S.1.2 ≤ S.1.2 := ⟨Nat.le_refl _, Nat.le_refl _⟩
  show sk_G X C 3 S d 0 [(0, .ref p0), (1, .int p1)] []
  unfold fX5_flag at hf
  have j39_0 : ∀ (v1 : Nat) (d2 : sk_D), fX5_flag_J39 S v1 d2 = some dd → sk_G X C 3 S d2 39 [(0, .ref v1)] [] := by
    intro v1 d2 hf
    unfold fX5_flag_J39 at hf
    refine sk_aload_n K dX5_flag_39 rfl 0 rfl ?_
    refine sk_iconst (2 : Int32) K dX5_flag_40 (by decide) ?_
    obtain ⟨h6, hf⟩ := sk_ib hf
    obtain ⟨d5, e4, hf⟩ := sk_ob hf
    refine sk_callV (As := [.int (2 : Int32)]) (st := []) K dX5_flag_41 cl_X5_103 h6 (sX5_fail C l e4) (by decide) rfl rfl (Nat.le_of_ble_eq_true rfl) R1 R2 ?_
    have hR7 : d5 = dd := Option.some.inj hf
    exact sk_vret K dX5_flag_44 rfl rfl rfl hR7
  have j28_0 : ∀ (v8 : Nat) (v9 : Int32) (v10 : Int32) (d11 : sk_D), fX5_flag_J28 S v8 v9 v10 d11 = some dd → sk_G X C 3 S d11 28 [(0, .ref v8), (1, .int v9), (2, .int v10)] [] := by
    intro v8 v9 v10 d11 hf
    unfold fX5_flag_J28 at hf
    refine sk_aload_n K dX5_flag_28 rfl 0 rfl ?_
    obtain ⟨v12, e13, hf⟩ := sk_ob hf
    refine sk_getR K dX5_flag_29 fl_X5_12 rfl e13 ?_
    refine sk_iload_n K dX5_flag_32 rfl 1 rfl ?_
    obtain ⟨h16, hf⟩ := sk_ib hf
    obtain ⟨v14, e15, hf⟩ := sk_ob hf
    refine sk_callV (As := [.int v9]) (st := []) K dX5_flag_33 cl_X5_157 h16 (sX2_has C l e15) (by decide) rfl rfl (Nat.le_of_ble_eq_true rfl) R1 R2 ?_
    refine sk_ifneB 45 K dX5_flag_36 (by decide) (fun h17 => ?_) (fun h17 => ?_)
    · rw [if_pos h17] at hf
      refine sk_aload_n K dX5_flag_45 rfl 0 rfl ?_
      obtain ⟨h21, hf⟩ := sk_ib hf
      obtain ⟨d20, e19, hf⟩ := sk_ob hf
      refine sk_callV (As := []) (st := []) K dX5_flag_46 cl_X5_100 h21 (sX5_next C l e19) (by decide) rfl rfl (Nat.le_of_ble_eq_true rfl) R1 R2 ?_
      refine sk_iload_n K dX5_flag_49 rfl 2 rfl ?_
      by_cases h22 : v10 = (4 : Int32)
      · rw [if_pos h22] at hf
        refine sk_tsIn (4 : Int32) (42) 92 K dX5_flag_50 h22 (by decide) (by decide) rfl (by decide) ?_
        refine sk_aload_n K dX5_flag_92 rfl 0 rfl ?_
        obtain ⟨v23, e24, hf⟩ := sk_ob hf
        refine sk_getR K dX5_flag_93 fl_X5_12 rfl e24 ?_
        obtain ⟨v25, e26, hf⟩ := sk_ob hf
        refine sk_getR K dX5_flag_96 fl_X5_161 rfl e26 ?_
        refine sk_iload_n K dX5_flag_99 rfl 1 rfl ?_
        refine sk_aload_n K dX5_flag_100 rfl 0 rfl ?_
        refine sk_iconst (0 : Int32) K dX5_flag_101 (by decide) ?_
        refine sk_bipush (9 : Int32) K dX5_flag_102 (by decide) ?_
        obtain ⟨h30, hf⟩ := sk_ib hf
        obtain ⟨⟨v27, d29⟩, e28, hf⟩ := sk_ob hf
        try dsimp only at hf
        refine sk_callV (As := [.int (0 : Int32), .int (9 : Int32)]) (st := [.int v9, .ref v25]) K dX5_flag_104 cl_X5_110 h30 (sX5_number C l e28) (by decide) rfl rfl (Nat.le_of_ble_eq_true rfl) R1 R2 ?_
        obtain ⟨d32, e33, hf⟩ := sk_ob hf
        refine sk_ast20 d32 K dX5_flag_107 e33 ?_
        refine sk_goto 190 K dX5_flag_108 (by decide) ?_
        have hR34 : d32 = dd := Option.some.inj hf
        exact sk_vret K dX5_flag_190 rfl rfl rfl hR34
      · rw [if_neg h22] at hf
        by_cases h35 : v10 = (5 : Int32)
        · rw [if_pos h35] at hf
          refine sk_tsIn (5 : Int32) (118) 168 K dX5_flag_50 h35 (by decide) (by decide) rfl (by decide) ?_
          refine sk_aload_n K dX5_flag_168 rfl 0 rfl ?_
          obtain ⟨v36, e37, hf⟩ := sk_ob hf
          refine sk_getR K dX5_flag_169 fl_X5_12 rfl e37 ?_
          obtain ⟨v38, e39, hf⟩ := sk_ob hf
          refine sk_getR K dX5_flag_172 fl_X5_173 rfl e39 ?_
          refine sk_iload_n K dX5_flag_175 rfl 1 rfl ?_
          refine sk_dup2 K dX5_flag_176 rfl rfl ?_
          obtain ⟨v40, e41, hf⟩ := sk_ob hf
          refine sk_ald20 K dX5_flag_177 e41 ?_
          refine sk_iconst (1 : Int32) K dX5_flag_178 (by decide) ?_
          refine sk_aload_n K dX5_flag_179 rfl 0 rfl ?_
          refine sk_iconst (0 : Int32) K dX5_flag_180 (by decide) ?_
          refine sk_iload_n K dX5_flag_181 rfl 1 rfl ?_
          refine sk_iconst (1 : Int32) K dX5_flag_182 (by decide) ?_
          refine sk_isub K dX5_flag_183 ?_
          obtain ⟨h45, hf⟩ := sk_ib hf
          obtain ⟨⟨v42, d44⟩, e43, hf⟩ := sk_ob hf
          try dsimp only at hf
          refine sk_callV (As := [.int (0 : Int32), .int (v9 - (1 : Int32))]) (st := [.int (1 : Int32), .int v40, .int v9, .ref v38]) K dX5_flag_184 cl_X5_110 h45 (sX5_number C l e43) (by decide) rfl rfl (Nat.le_of_ble_eq_true rfl) R1 R2 ?_
          refine sk_ishl K dX5_flag_187 ?_
          refine sk_ior K dX5_flag_188 ?_
          obtain ⟨d47, e48, hf⟩ := sk_ob hf
          refine sk_ast20 d47 K dX5_flag_189 e48 ?_
          have hR49 : d47 = dd := Option.some.inj hf
          exact sk_vret K dX5_flag_190 rfl rfl rfl hR49
        · rw [if_neg h35] at hf
          by_cases h50 : v10 = (6 : Int32)
          · rw [if_pos h50] at hf
            refine sk_tsIn (6 : Int32) (118) 168 K dX5_flag_50 h50 (by decide) (by decide) rfl (by decide) ?_
            refine sk_aload_n K dX5_flag_168 rfl 0 rfl ?_
            obtain ⟨v51, e52, hf⟩ := sk_ob hf
            refine sk_getR K dX5_flag_169 fl_X5_12 rfl e52 ?_
            obtain ⟨v53, e54, hf⟩ := sk_ob hf
            refine sk_getR K dX5_flag_172 fl_X5_173 rfl e54 ?_
            refine sk_iload_n K dX5_flag_175 rfl 1 rfl ?_
            refine sk_dup2 K dX5_flag_176 rfl rfl ?_
            obtain ⟨v55, e56, hf⟩ := sk_ob hf
            refine sk_ald20 K dX5_flag_177 e56 ?_
            refine sk_iconst (1 : Int32) K dX5_flag_178 (by decide) ?_
            refine sk_aload_n K dX5_flag_179 rfl 0 rfl ?_
            refine sk_iconst (0 : Int32) K dX5_flag_180 (by decide) ?_
            refine sk_iload_n K dX5_flag_181 rfl 1 rfl ?_
            refine sk_iconst (1 : Int32) K dX5_flag_182 (by decide) ?_
            refine sk_isub K dX5_flag_183 ?_
            obtain ⟨h60, hf⟩ := sk_ib hf
            obtain ⟨⟨v57, d59⟩, e58, hf⟩ := sk_ob hf
            try dsimp only at hf
            refine sk_callV (As := [.int (0 : Int32), .int (v9 - (1 : Int32))]) (st := [.int (1 : Int32), .int v55, .int v9, .ref v53]) K dX5_flag_184 cl_X5_110 h60 (sX5_number C l e58) (by decide) rfl rfl (Nat.le_of_ble_eq_true rfl) R1 R2 ?_
            refine sk_ishl K dX5_flag_187 ?_
            refine sk_ior K dX5_flag_188 ?_
            obtain ⟨d62, e63, hf⟩ := sk_ob hf
            refine sk_ast20 d62 K dX5_flag_189 e63 ?_
            have hR64 : d62 = dd := Option.some.inj hf
            exact sk_vret K dX5_flag_190 rfl rfl rfl hR64
          · rw [if_neg h50] at hf
            by_cases h65 : v10 = (7 : Int32)
            · rw [if_pos h65] at hf
              refine sk_tsIn (7 : Int32) (118) 168 K dX5_flag_50 h65 (by decide) (by decide) rfl (by decide) ?_
              refine sk_aload_n K dX5_flag_168 rfl 0 rfl ?_
              obtain ⟨v66, e67, hf⟩ := sk_ob hf
              refine sk_getR K dX5_flag_169 fl_X5_12 rfl e67 ?_
              obtain ⟨v68, e69, hf⟩ := sk_ob hf
              refine sk_getR K dX5_flag_172 fl_X5_173 rfl e69 ?_
              refine sk_iload_n K dX5_flag_175 rfl 1 rfl ?_
              refine sk_dup2 K dX5_flag_176 rfl rfl ?_
              obtain ⟨v70, e71, hf⟩ := sk_ob hf
              refine sk_ald20 K dX5_flag_177 e71 ?_
              refine sk_iconst (1 : Int32) K dX5_flag_178 (by decide) ?_
              refine sk_aload_n K dX5_flag_179 rfl 0 rfl ?_
              refine sk_iconst (0 : Int32) K dX5_flag_180 (by decide) ?_
              refine sk_iload_n K dX5_flag_181 rfl 1 rfl ?_
              refine sk_iconst (1 : Int32) K dX5_flag_182 (by decide) ?_
              refine sk_isub K dX5_flag_183 ?_
              obtain ⟨h75, hf⟩ := sk_ib hf
              obtain ⟨⟨v72, d74⟩, e73, hf⟩ := sk_ob hf
              try dsimp only at hf
              refine sk_callV (As := [.int (0 : Int32), .int (v9 - (1 : Int32))]) (st := [.int (1 : Int32), .int v70, .int v9, .ref v68]) K dX5_flag_184 cl_X5_110 h75 (sX5_number C l e73) (by decide) rfl rfl (Nat.le_of_ble_eq_true rfl) R1 R2 ?_
              refine sk_ishl K dX5_flag_187 ?_
              refine sk_ior K dX5_flag_188 ?_
              obtain ⟨d77, e78, hf⟩ := sk_ob hf
              refine sk_ast20 d77 K dX5_flag_189 e78 ?_
              have hR79 : d77 = dd := Option.some.inj hf
              exact sk_vret K dX5_flag_190 rfl rfl rfl hR79
            · rw [if_neg h65] at hf
              by_cases h80 : v10 = (8 : Int32)
              · rw [if_pos h80] at hf
                refine sk_tsIn (8 : Int32) (61) 111 K dX5_flag_50 h80 (by decide) (by decide) rfl (by decide) ?_
                refine sk_aload_n K dX5_flag_111 rfl 0 rfl ?_
                obtain ⟨v81, e82, hf⟩ := sk_ob hf
                refine sk_getR K dX5_flag_112 fl_X5_12 rfl e82 ?_
                obtain ⟨v83, e84, hf⟩ := sk_ob hf
                refine sk_getR K dX5_flag_115 fl_X5_164 rfl e84 ?_
                refine sk_iload_n K dX5_flag_118 rfl 1 rfl ?_
                refine sk_aload_n K dX5_flag_119 rfl 0 rfl ?_
                refine sk_iconst (0 : Int32) K dX5_flag_120 (by decide) ?_
                refine sk_bipush (10 : Int32) K dX5_flag_121 (by decide) ?_
                obtain ⟨h88, hf⟩ := sk_ib hf
                obtain ⟨⟨v85, d87⟩, e86, hf⟩ := sk_ob hf
                try dsimp only at hf
                refine sk_callV (As := [.int (0 : Int32), .int (10 : Int32)]) (st := [.int v9, .ref v83]) K dX5_flag_123 cl_X5_110 h88 (sX5_number C l e86) (by decide) rfl rfl (Nat.le_of_ble_eq_true rfl) R1 R2 ?_
                obtain ⟨d90, e91, hf⟩ := sk_ob hf
                refine sk_ast20 d90 K dX5_flag_126 e91 ?_
                refine sk_goto 190 K dX5_flag_127 (by decide) ?_
                have hR92 : d90 = dd := Option.some.inj hf
                exact sk_vret K dX5_flag_190 rfl rfl rfl hR92
              · rw [if_neg h80] at hf
                by_cases h93 : v10 = (9 : Int32)
                · rw [if_pos h93] at hf
                  refine sk_tsIn (9 : Int32) (80) 130 K dX5_flag_50 h93 (by decide) (by decide) rfl (by decide) ?_
                  refine sk_aload_n K dX5_flag_130 rfl 0 rfl ?_
                  obtain ⟨v94, e95, hf⟩ := sk_ob hf
                  refine sk_getR K dX5_flag_131 fl_X5_12 rfl e95 ?_
                  obtain ⟨v96, e97, hf⟩ := sk_ob hf
                  refine sk_getR K dX5_flag_134 fl_X5_167 rfl e97 ?_
                  refine sk_iload_n K dX5_flag_137 rfl 1 rfl ?_
                  refine sk_aload_n K dX5_flag_138 rfl 0 rfl ?_
                  refine sk_iconst (0 : Int32) K dX5_flag_139 (by decide) ?_
                  refine sk_bipush (10 : Int32) K dX5_flag_140 (by decide) ?_
                  obtain ⟨h101, hf⟩ := sk_ib hf
                  obtain ⟨⟨v98, d100⟩, e99, hf⟩ := sk_ob hf
                  try dsimp only at hf
                  refine sk_callV (As := [.int (0 : Int32), .int (10 : Int32)]) (st := [.int v9, .ref v96]) K dX5_flag_142 cl_X5_110 h101 (sX5_number C l e99) (by decide) rfl rfl (Nat.le_of_ble_eq_true rfl) R1 R2 ?_
                  obtain ⟨d103, e104, hf⟩ := sk_ob hf
                  refine sk_ast20 d103 K dX5_flag_145 e104 ?_
                  refine sk_goto 190 K dX5_flag_146 (by decide) ?_
                  have hR105 : d103 = dd := Option.some.inj hf
                  exact sk_vret K dX5_flag_190 rfl rfl rfl hR105
                · rw [if_neg h93] at hf
                  by_cases h106 : v10 = (10 : Int32)
                  · rw [if_pos h106] at hf
                    refine sk_tsIn (10 : Int32) (99) 149 K dX5_flag_50 h106 (by decide) (by decide) rfl (by decide) ?_
                    refine sk_aload_n K dX5_flag_149 rfl 0 rfl ?_
                    obtain ⟨v107, e108, hf⟩ := sk_ob hf
                    refine sk_getR K dX5_flag_150 fl_X5_12 rfl e108 ?_
                    obtain ⟨v109, e110, hf⟩ := sk_ob hf
                    refine sk_getR K dX5_flag_153 fl_X5_170 rfl e110 ?_
                    refine sk_iload_n K dX5_flag_156 rfl 1 rfl ?_
                    refine sk_aload_n K dX5_flag_157 rfl 0 rfl ?_
                    refine sk_iconst (0 : Int32) K dX5_flag_158 (by decide) ?_
                    refine sk_bipush (9 : Int32) K dX5_flag_159 (by decide) ?_
                    obtain ⟨h114, hf⟩ := sk_ib hf
                    obtain ⟨⟨v111, d113⟩, e112, hf⟩ := sk_ob hf
                    try dsimp only at hf
                    refine sk_callV (As := [.int (0 : Int32), .int (9 : Int32)]) (st := [.int v9, .ref v109]) K dX5_flag_161 cl_X5_110 h114 (sX5_number C l e112) (by decide) rfl rfl (Nat.le_of_ble_eq_true rfl) R1 R2 ?_
                    obtain ⟨d116, e117, hf⟩ := sk_ob hf
                    refine sk_ast20 d116 K dX5_flag_164 e117 ?_
                    refine sk_goto 190 K dX5_flag_165 (by decide) ?_
                    have hR118 : d116 = dd := Option.some.inj hf
                    exact sk_vret K dX5_flag_190 rfl rfl rfl hR118
                  · rw [if_neg h106] at hf
                    refine sk_tsOut 168 K dX5_flag_50 (sk_tsout (4) 7 [(4 : Int32), (5 : Int32), (6 : Int32), (7 : Int32), (8 : Int32), (9 : Int32), (10 : Int32)] (by decide) (by simp [h22, h35, h50, h65, h80, h93, h106])) (by decide) ?_
                    refine sk_aload_n K dX5_flag_168 rfl 0 rfl ?_
                    obtain ⟨v119, e120, hf⟩ := sk_ob hf
                    refine sk_getR K dX5_flag_169 fl_X5_12 rfl e120 ?_
                    obtain ⟨v121, e122, hf⟩ := sk_ob hf
                    refine sk_getR K dX5_flag_172 fl_X5_173 rfl e122 ?_
                    refine sk_iload_n K dX5_flag_175 rfl 1 rfl ?_
                    refine sk_dup2 K dX5_flag_176 rfl rfl ?_
                    obtain ⟨v123, e124, hf⟩ := sk_ob hf
                    refine sk_ald20 K dX5_flag_177 e124 ?_
                    refine sk_iconst (1 : Int32) K dX5_flag_178 (by decide) ?_
                    refine sk_aload_n K dX5_flag_179 rfl 0 rfl ?_
                    refine sk_iconst (0 : Int32) K dX5_flag_180 (by decide) ?_
                    refine sk_iload_n K dX5_flag_181 rfl 1 rfl ?_
                    refine sk_iconst (1 : Int32) K dX5_flag_182 (by decide) ?_
                    refine sk_isub K dX5_flag_183 ?_
                    obtain ⟨h128, hf⟩ := sk_ib hf
                    obtain ⟨⟨v125, d127⟩, e126, hf⟩ := sk_ob hf
                    try dsimp only at hf
                    refine sk_callV (As := [.int (0 : Int32), .int (v9 - (1 : Int32))]) (st := [.int (1 : Int32), .int v123, .int v9, .ref v121]) K dX5_flag_184 cl_X5_110 h128 (sX5_number C l e126) (by decide) rfl rfl (Nat.le_of_ble_eq_true rfl) R1 R2 ?_
                    refine sk_ishl K dX5_flag_187 ?_
                    refine sk_ior K dX5_flag_188 ?_
                    obtain ⟨d130, e131, hf⟩ := sk_ob hf
                    refine sk_ast20 d130 K dX5_flag_189 e131 ?_
                    have hR132 : d130 = dd := Option.some.inj hf
                    exact sk_vret K dX5_flag_190 rfl rfl rfl hR132
    · rw [if_neg h17] at hf
      refine sk_sub [(0, .ref v8)] [0] rfl ?_
      have h9 := j39_0 _ _ hf
      exact h9
  refine sk_aload_n K dX5_flag_0 rfl 0 rfl ?_
  obtain ⟨h135, hf⟩ := sk_ib hf
  obtain ⟨v133, e134, hf⟩ := sk_ob hf
  refine sk_callV (As := []) (st := []) K dX5_flag_1 cl_X5_61 h135 (sX5_kind C l e134) (by decide) rfl rfl (Nat.le_of_ble_eq_true rfl) R1 R2 ?_
  refine sk_istore_n [(2, .int v133), (0, .ref p0), (1, .int p1)] K dX5_flag_4 rfl (by decide) rfl ?_
  refine sk_iload_n K dX5_flag_5 rfl 0 rfl ?_
  refine sk_iconst (4 : Int32) K dX5_flag_6 (by decide) ?_
  refine sk_icmp_eq 28 K dX5_flag_7 (by decide) (fun h136 => ?_) (fun h136 => ?_)
  · rw [if_pos h136] at hf
    refine sk_sub [(0, .ref p0), (1, .int p1), (2, .int v133)] [1, 2, 0] rfl ?_
    have h9 := j28_0 _ _ _ _ hf
    exact h9
  · rw [if_neg h136] at hf
    refine sk_iload_n K dX5_flag_10 rfl 0 rfl ?_
    refine sk_bipush (11 : Int32) K dX5_flag_11 (by decide) ?_
    refine sk_icmp_eq 28 K dX5_flag_13 (by decide) (fun h137 => ?_) (fun h137 => ?_)
    · rw [if_pos h137] at hf
      refine sk_sub [(0, .ref p0), (1, .int p1), (2, .int v133)] [1, 2, 0] rfl ?_
      have h9 := j28_0 _ _ _ _ hf
      exact h9
    · rw [if_neg h137] at hf
      refine sk_iload_n K dX5_flag_16 rfl 0 rfl ?_
      refine sk_bipush (8 : Int32) K dX5_flag_17 (by decide) ?_
      refine sk_icmp_lt 39 K dX5_flag_19 (by decide) (fun h138 => ?_) (fun h138 => ?_)
      · rw [if_pos h138] at hf
        refine sk_sub [(0, .ref p0)] [1] rfl ?_
        have h9 := j39_0 _ _ hf
        exact h9
      · rw [if_neg h138] at hf
        refine sk_iload_n K dX5_flag_22 rfl 0 rfl ?_
        refine sk_bipush (10 : Int32) K dX5_flag_23 (by decide) ?_
        refine sk_icmp_gt 39 K dX5_flag_25 (by decide) (fun h139 => ?_) (fun h139 => ?_)
        · rw [if_pos h139] at hf
          refine sk_sub [(0, .ref p0)] [1] rfl ?_
          have h9 := j39_0 _ _ hf
          exact h9
        · rw [if_neg h139] at hf
          refine sk_sub [(0, .ref p0), (1, .int p1), (2, .int v133)] [1, 2, 0] rfl ?_
          have h9 := j28_0 _ _ _ _ hf
          exact h9
noncomputable def fX5_doingLine_L60 (S : sk_S) (p0 : Nat) (v16 : Int32) (s1 : Int32 × sk_D) : Option ((Int32 × sk_D) ⊕ (sk_D)) :=
  if (900 : Int32) ≤ s1.1 then (some (.inr s1.2)) else ((sk_gI S s1.2 p0 5 1).bind fun v37 => if v37 = 0 then (if S.2.1 p0 = (5, 0) then ((fX5_kind S s1.2 p0).bind fun v41 => if v41 = (59 : Int32) then (some (.inr s1.2)) else (if S.2.1 p0 = (5, 0) then ((fX5_flag S s1.2 p0 v16).bind fun d48 => some (.inl (s1.1 + 1, d48))) else none)) else none) else (some (.inr s1.2)))
noncomputable def fX5_doingLine (S : sk_S) (d : sk_D) (p0 : Nat) : Option (sk_D) :=
  (sk_gR S p0 5 0).bind fun v1 => (sk_gI S d v1 2 1).bind fun v3 => if v3 < (8 : Int32) then (if S.2.1 p0 = (5, 0) then ((fX5_next S d p0).bind fun d8 => if S.2.1 p0 = (5, 0) then ((fX5_expect S d8 p0 (3 : Int32)).bind fun d12 => (sk_gR S p0 5 0).bind fun v14 => (sk_gI S d12 v14 2 1).bind fun v16 => (sk_gR S p0 5 0).bind fun v18 => if S.2.1 v18 = (2, 0) then ((fX2_addDoing S d12 v18).bind fun d22 => (sk_gR S p0 5 0).bind fun v24 => (sk_gR S v24 2 5).bind fun v26 => if S.2.1 p0 = (5, 0) then ((fX5_number S d22 p0 (1 : Int32) (9 : Int32)).bind fun b32 => (sk_sI S b32.2 v26 20 v16 b32.1).bind fun d33 => (sk_itr (fX5_doingLine_L60 S p0 v16) ((0 : Int32), d33)).bind fun x1 => some x1) else none) else none) else none) else none) else (if S.2.1 p0 = (5, 0) then ((fX5_fail S d p0 (4 : Int32)).bind fun d52 => some d52) else none)
set_option maxRecDepth 100000 in
set_option maxHeartbeats 4000000 in
theorem sX5_doingLine (C : sk_C) (l : Launch) {S : sk_S} {d : sk_D} {p0 : Nat} {dd : sk_D} (hf : fX5_doingLine S d p0 = some dd) : sk_Met C l 3 yX5_doingLine cX5_doingLine 3 none [.ref p0] S d none S dd := by
  refine sk_Met.of (by decide) (Nat.le_of_ble_eq_true rfl) (Nat.le_refl _) (Nat.le_refl _) (fun X K0 hX => ?_)
  have K : sk_Ok X C cX5_doingLine 3 RX5 "doingLine" none 3 l none S dd := K0
  have R1 : X.2.2.2.2.2.2.2.2.2.2.2.1 ≤ S.1.1 ∧ X.2.2.2.2.2.2.2.2.2.2.2.2 ≤ S.1.2 := by rw [hX]; exact ⟨Nat.le_refl _, Nat.le_refl _⟩
  have R2 : S.1.1 ≤ S.1.1 ∧ S.1.2 ≤ S.1.2 := ⟨Nat.le_refl _, Nat.le_refl _⟩
  show sk_G X C 3 S d 0 [(0, .ref p0)] []
  unfold fX5_doingLine at hf
  refine sk_aload_n K dX5_doingLine_0 rfl 0 rfl ?_
  obtain ⟨v1, e2, hf⟩ := sk_ob hf
  refine sk_getR K dX5_doingLine_1 fl_X5_12 rfl e2 ?_
  obtain ⟨v3, e4, hf⟩ := sk_ob hf
  refine sk_getI K dX5_doingLine_4 fl_X5_145 rfl e4 ?_
  refine sk_bipush (8 : Int32) K dX5_doingLine_7 (by decide) ?_
  refine sk_icmp_lt 18 K dX5_doingLine_9 (by decide) (fun h5 => ?_) (fun h5 => ?_)
  · rw [if_pos h5] at hf
    refine sk_aload_n K dX5_doingLine_18 rfl 0 rfl ?_
    obtain ⟨h9, hf⟩ := sk_ib hf
    obtain ⟨d8, e7, hf⟩ := sk_ob hf
    refine sk_callV (As := []) (st := []) K dX5_doingLine_19 cl_X5_100 h9 (sX5_next C l e7) (by decide) rfl rfl (Nat.le_of_ble_eq_true rfl) R1 R2 ?_
    refine sk_aload_n K dX5_doingLine_22 rfl 0 rfl ?_
    refine sk_iconst (3 : Int32) K dX5_doingLine_23 (by decide) ?_
    obtain ⟨h13, hf⟩ := sk_ib hf
    obtain ⟨d12, e11, hf⟩ := sk_ob hf
    refine sk_callV (As := [.int (3 : Int32)]) (st := []) K dX5_doingLine_24 cl_X5_107 h13 (sX5_expect C l e11) (by decide) rfl rfl (Nat.le_of_ble_eq_true rfl) R1 R2 ?_
    refine sk_aload_n K dX5_doingLine_27 rfl 0 rfl ?_
    obtain ⟨v14, e15, hf⟩ := sk_ob hf
    refine sk_getR K dX5_doingLine_28 fl_X5_12 rfl e15 ?_
    obtain ⟨v16, e17, hf⟩ := sk_ob hf
    refine sk_getI K dX5_doingLine_31 fl_X5_145 rfl e17 ?_
    refine sk_istore_n [(1, .int v16), (0, .ref p0)] K dX5_doingLine_34 rfl (by decide) rfl ?_
    refine sk_aload_n K dX5_doingLine_35 rfl 1 rfl ?_
    obtain ⟨v18, e19, hf⟩ := sk_ob hf
    refine sk_getR K dX5_doingLine_36 fl_X5_12 rfl e19 ?_
    obtain ⟨h23, hf⟩ := sk_ib hf
    obtain ⟨d22, e21, hf⟩ := sk_ob hf
    refine sk_callV (As := []) (st := []) K dX5_doingLine_39 cl_X5_148 h23 (sX2_addDoing C l e21) (by decide) rfl rfl (Nat.le_of_ble_eq_true rfl) R1 R2 ?_
    refine sk_aload_n K dX5_doingLine_42 rfl 1 rfl ?_
    obtain ⟨v24, e25, hf⟩ := sk_ob hf
    refine sk_getR K dX5_doingLine_43 fl_X5_12 rfl e25 ?_
    obtain ⟨v26, e27, hf⟩ := sk_ob hf
    refine sk_getR K dX5_doingLine_46 fl_X5_151 rfl e27 ?_
    refine sk_iload_n K dX5_doingLine_49 rfl 0 rfl ?_
    refine sk_aload_n K dX5_doingLine_50 rfl 1 rfl ?_
    refine sk_iconst (1 : Int32) K dX5_doingLine_51 (by decide) ?_
    refine sk_bipush (9 : Int32) K dX5_doingLine_52 (by decide) ?_
    obtain ⟨h31, hf⟩ := sk_ib hf
    obtain ⟨⟨v28, d30⟩, e29, hf⟩ := sk_ob hf
    try dsimp only at hf
    refine sk_callV (As := [.int (1 : Int32), .int (9 : Int32)]) (st := [.int v16, .ref v26]) K dX5_doingLine_54 cl_X5_110 h31 (sX5_number C l e29) (by decide) rfl rfl (Nat.le_of_ble_eq_true rfl) R1 R2 ?_
    obtain ⟨d33, e34, hf⟩ := sk_ob hf
    refine sk_ast20 d33 K dX5_doingLine_57 e34 ?_
    refine sk_iconst (0 : Int32) K dX5_doingLine_58 (by decide) ?_
    refine sk_istore_n [(2, .int (0 : Int32)), (1, .int v16), (0, .ref p0)] K dX5_doingLine_59 rfl (by decide) rfl ?_
    obtain ⟨x1, he1, hf⟩ := sk_ob hf
    have hret1 : ∀ r, r = x1 → r = dd := by
      intro r hr
      subst hr
      exact Option.some.inj hf
    refine sk_sub [(0, .ref p0), (1, .int v16), (2, .int (0 : Int32))] [2, 1, 0] rfl ?_
    refine sk_loop (fun s1 => sk_G X C 3 S s1.2 60 [(0, .ref p0), (1, .int v16), (2, .int s1.1)] []) he1 (fun s1 o1 hf ih1 hx1 => ?_)
    unfold fX5_doingLine_L60 at hf
    refine sk_iload_n K dX5_doingLine_60 rfl 2 rfl ?_
    refine sk_sipush (900 : Int32) K dX5_doingLine_61 (by decide) ?_
    refine sk_icmp_ge 94 K dX5_doingLine_64 (by decide) (fun h35 => ?_) (fun h35 => ?_)
    · rw [if_pos h35] at hf
      have hR36 : s1.2 = dd := hret1 _ (hx1 _ (Option.some.inj hf).symm)
      exact sk_vret K dX5_doingLine_94 rfl rfl rfl hR36
    · rw [if_neg h35] at hf
      refine sk_aload_n K dX5_doingLine_67 rfl 0 rfl ?_
      obtain ⟨v37, e38, hf⟩ := sk_ob hf
      refine sk_getI K dX5_doingLine_68 fl_X5_18 rfl e38 ?_
      refine sk_if_ne 94 K dX5_doingLine_71 (by decide) (fun h39 => ?_) (fun h39 => ?_)
      · rw [if_neg h39] at hf
        have hR40 : s1.2 = dd := hret1 _ (hx1 _ (Option.some.inj hf).symm)
        exact sk_vret K dX5_doingLine_94 rfl rfl rfl hR40
      · rw [if_pos h39] at hf
        refine sk_aload_n K dX5_doingLine_74 rfl 0 rfl ?_
        obtain ⟨h43, hf⟩ := sk_ib hf
        obtain ⟨v41, e42, hf⟩ := sk_ob hf
        refine sk_callV (As := []) (st := []) K dX5_doingLine_75 cl_X5_61 h43 (sX5_kind C l e42) (by decide) rfl rfl (Nat.le_of_ble_eq_true rfl) R1 R2 ?_
        refine sk_bipush (59 : Int32) K dX5_doingLine_78 (by decide) ?_
        refine sk_icmp_eq 94 K dX5_doingLine_80 (by decide) (fun h44 => ?_) (fun h44 => ?_)
        · rw [if_pos h44] at hf
          have hR45 : s1.2 = dd := hret1 _ (hx1 _ (Option.some.inj hf).symm)
          exact sk_vret K dX5_doingLine_94 rfl rfl rfl hR45
        · rw [if_neg h44] at hf
          refine sk_aload_n K dX5_doingLine_83 rfl 0 rfl ?_
          refine sk_iload_n K dX5_doingLine_84 rfl 1 rfl ?_
          obtain ⟨h49, hf⟩ := sk_ib hf
          obtain ⟨d48, e47, hf⟩ := sk_ob hf
          refine sk_callV (As := [.int v16]) (st := []) K dX5_doingLine_85 cl_X5_154 h49 (sX5_flag C l e47) (by decide) rfl rfl (Nat.le_of_ble_eq_true rfl) R1 R2 ?_
          refine sk_iinc (s1.1 + 1) [(2, .int (s1.1 + 1)), (0, .ref p0), (1, .int v16)] K dX5_doingLine_88 2 rfl rfl (by decide) rfl ?_
          refine sk_goto 60 K dX5_doingLine_91 (by decide) ?_
          refine sk_sub [(0, .ref p0), (1, .int v16), (2, .int (s1.1 + 1))] [1, 2, 0] rfl ?_
          have h9 := ih1 _ (Option.some.inj hf).symm
          exact h9
  · rw [if_neg h5] at hf
    refine sk_aload_n K dX5_doingLine_12 rfl 0 rfl ?_
    refine sk_iconst (4 : Int32) K dX5_doingLine_13 (by decide) ?_
    obtain ⟨h53, hf⟩ := sk_ib hf
    obtain ⟨d52, e51, hf⟩ := sk_ob hf
    refine sk_callV (As := [.int (4 : Int32)]) (st := []) K dX5_doingLine_14 cl_X5_103 h53 (sX5_fail C l e51) (by decide) rfl rfl (Nat.le_of_ble_eq_true rfl) R1 R2 ?_
    have hR54 : d52 = dd := Option.some.inj hf
    exact sk_vret K dX5_doingLine_17 rfl rfl rfl hR54
noncomputable def fX5_doorLine (S : sk_S) (d : sk_D) (p0 : Nat) : Option (sk_D) :=
  (sk_gR S p0 5 0).bind fun v1 => (sk_gI S d v1 2 2).bind fun v3 => if v3 < (8 : Int32) then (if S.2.1 p0 = (5, 0) then ((fX5_next S d p0).bind fun d8 => (sk_gR S p0 5 0).bind fun v10 => if S.2.1 p0 = (5, 0) then ((fX5_number S d8 p0 (0 : Int32) (9 : Int32)).bind fun b16 => if S.2.1 v10 = (2, 0) then ((fX2_addDoor S b16.2 v10 b16.1).bind fun d19 => some d19) else none) else none) else none) else (if S.2.1 p0 = (5, 0) then ((fX5_fail S d p0 (4 : Int32)).bind fun d24 => some d24) else none)
set_option maxRecDepth 100000 in
set_option maxHeartbeats 4000000 in
theorem sX5_doorLine (C : sk_C) (l : Launch) {S : sk_S} {d : sk_D} {p0 : Nat} {dd : sk_D} (hf : fX5_doorLine S d p0 = some dd) : sk_Met C l 2 yX5_doorLine cX5_doorLine 1 none [.ref p0] S d none S dd := by
  refine sk_Met.of (by decide) (Nat.le_of_ble_eq_true rfl) (Nat.le_refl _) (Nat.le_refl _) (fun X K0 hX => ?_)
  have K : sk_Ok X C cX5_doorLine 1 RX5 "doorLine" none 2 l none S dd := K0
  have R1 : X.2.2.2.2.2.2.2.2.2.2.2.1 ≤ S.1.1 ∧ X.2.2.2.2.2.2.2.2.2.2.2.2 ≤ S.1.2 := by rw [hX]; exact ⟨Nat.le_refl _, Nat.le_refl _⟩
  have R2 : S.1.1 ≤ S.1.1 ∧ S.1.2 ≤ S.1.2 := ⟨Nat.le_refl _, Nat.le_refl _⟩
  show sk_G X C 1 S d 0 [(0, .ref p0)] []
  unfold fX5_doorLine at hf
  refine sk_aload_n K dX5_doorLine_0 rfl 0 rfl ?_
  obtain ⟨v1, e2, hf⟩ := sk_ob hf
  refine sk_getR K dX5_doorLine_1 fl_X5_12 rfl e2 ?_
  obtain ⟨v3, e4, hf⟩ := sk_ob hf
  refine sk_getI K dX5_doorLine_4 fl_X5_176 rfl e4 ?_
  refine sk_bipush (8 : Int32) K dX5_doorLine_7 (by decide) ?_
  refine sk_icmp_lt 18 K dX5_doorLine_9 (by decide) (fun h5 => ?_) (fun h5 => ?_)
  · rw [if_pos h5] at hf
    refine sk_aload_n K dX5_doorLine_18 rfl 0 rfl ?_
    obtain ⟨h9, hf⟩ := sk_ib hf
    obtain ⟨d8, e7, hf⟩ := sk_ob hf
    refine sk_callV (As := []) (st := []) K dX5_doorLine_19 cl_X5_100 h9 (sX5_next C l e7) (by decide) rfl rfl (Nat.le_of_ble_eq_true rfl) R1 R2 ?_
    refine sk_aload_n K dX5_doorLine_22 rfl 0 rfl ?_
    obtain ⟨v10, e11, hf⟩ := sk_ob hf
    refine sk_getR K dX5_doorLine_23 fl_X5_12 rfl e11 ?_
    refine sk_aload_n K dX5_doorLine_26 rfl 0 rfl ?_
    refine sk_iconst (0 : Int32) K dX5_doorLine_27 (by decide) ?_
    refine sk_bipush (9 : Int32) K dX5_doorLine_28 (by decide) ?_
    obtain ⟨h15, hf⟩ := sk_ib hf
    obtain ⟨⟨v12, d14⟩, e13, hf⟩ := sk_ob hf
    try dsimp only at hf
    refine sk_callV (As := [.int (0 : Int32), .int (9 : Int32)]) (st := [.ref v10]) K dX5_doorLine_30 cl_X5_110 h15 (sX5_number C l e13) (by decide) rfl rfl (Nat.le_of_ble_eq_true rfl) R1 R2 ?_
    obtain ⟨h20, hf⟩ := sk_ib hf
    obtain ⟨d19, e18, hf⟩ := sk_ob hf
    refine sk_callV (As := [.int v12]) (st := []) K dX5_doorLine_33 cl_X5_179 h20 (sX2_addDoor C l e18) (by decide) rfl rfl (Nat.le_of_ble_eq_true rfl) R1 R2 ?_
    have hR21 : d19 = dd := Option.some.inj hf
    exact sk_vret K dX5_doorLine_36 rfl rfl rfl hR21
  · rw [if_neg h5] at hf
    refine sk_aload_n K dX5_doorLine_12 rfl 0 rfl ?_
    refine sk_iconst (4 : Int32) K dX5_doorLine_13 (by decide) ?_
    obtain ⟨h25, hf⟩ := sk_ib hf
    obtain ⟨d24, e23, hf⟩ := sk_ob hf
    refine sk_callV (As := [.int (4 : Int32)]) (st := []) K dX5_doorLine_14 cl_X5_103 h25 (sX5_fail C l e23) (by decide) rfl rfl (Nat.le_of_ble_eq_true rfl) R1 R2 ?_
    have hR26 : d24 = dd := Option.some.inj hf
    exact sk_vret K dX5_doorLine_17 rfl rfl rfl hR26
noncomputable def fX5_clashPair_J43 (S : sk_S) (v1 : Nat) (v2 : Int32) (d3 : sk_D) : Option (sk_D) :=
  (sk_gR S v1 5 0).bind fun v4 => (sk_gR S v1 5 0).bind fun v6 => (sk_gI S d3 v6 2 1).bind fun v8 => if S.2.1 v1 = (5, 0) then ((fX5_number S d3 v1 (0 : Int32) (v8 - (1 : Int32))).bind fun b14 => if S.2.1 v4 = (2, 0) then ((fX2_addClash S b14.2 v4 v2 b14.1).bind fun d17 => some d17) else none) else none
noncomputable def fX5_clashPair (S : sk_S) (d : sk_D) (p0 : Nat) : Option (sk_D) :=
  (sk_gR S p0 5 0).bind fun v20 => (sk_gI S d v20 2 1).bind fun v22 => if S.2.1 p0 = (5, 0) then ((fX5_number S d p0 (0 : Int32) (v22 - (1 : Int32))).bind fun b28 => if S.2.1 p0 = (5, 0) then ((fX5_kind S b28.2 p0).bind fun v29 => if v29 = (200 : Int32) then ((sk_gR S p0 5 5).bind fun v33 => (sk_gI S b28.2 p0 5 7).bind fun v35 => (sk_lI S b28.2 v33 20 v35).bind fun v37 => if v37 = b28.1 then (if S.2.1 p0 = (5, 0) then ((fX5_fail S b28.2 p0 (3 : Int32)).bind fun d42 => fX5_clashPair_J43 S p0 b28.1 d42) else none) else (fX5_clashPair_J43 S p0 b28.1 b28.2)) else (fX5_clashPair_J43 S p0 b28.1 b28.2)) else none) else none
set_option maxRecDepth 100000 in
set_option maxHeartbeats 4000000 in
theorem sX5_clashPair (C : sk_C) (l : Launch) {S : sk_S} {d : sk_D} {p0 : Nat} {dd : sk_D} (hf : fX5_clashPair S d p0 = some dd) : sk_Met C l 2 yX5_clashPair cX5_clashPair 2 none [.ref p0] S d none S dd := by
  refine sk_Met.of (by decide) (Nat.le_of_ble_eq_true rfl) (Nat.le_refl _) (Nat.le_refl _) (fun X K0 hX => ?_)
  have K : sk_Ok X C cX5_clashPair 2 RX5 "clashPair" none 2 l none S dd := K0
  have R1 : X.2.2.2.2.2.2.2.2.2.2.2.1 ≤ S.1.1 ∧ X.2.2.2.2.2.2.2.2.2.2.2.2 ≤ S.1.2 := by rw [hX]; exact ⟨Nat.le_refl _, Nat.le_refl _⟩
  have R2 : S.1.1 ≤ S.1.1 ∧ S.1.2 ≤ S.1.2 := ⟨Nat.le_refl _, Nat.le_refl _⟩
  show sk_G X C 2 S d 0 [(0, .ref p0)] []
  unfold fX5_clashPair at hf
  have j43_0 : ∀ (v1 : Nat) (v2 : Int32) (d3 : sk_D), fX5_clashPair_J43 S v1 v2 d3 = some dd → sk_G X C 2 S d3 43 [(0, .ref v1), (1, .int v2)] [] := by
    intro v1 v2 d3 hf
    unfold fX5_clashPair_J43 at hf
    refine sk_aload_n K dX5_clashPair_43 rfl 0 rfl ?_
    obtain ⟨v4, e5, hf⟩ := sk_ob hf
    refine sk_getR K dX5_clashPair_44 fl_X5_12 rfl e5 ?_
    refine sk_iload_n K dX5_clashPair_47 rfl 1 rfl ?_
    refine sk_aload_n K dX5_clashPair_48 rfl 0 rfl ?_
    refine sk_iconst (0 : Int32) K dX5_clashPair_49 (by decide) ?_
    refine sk_aload_n K dX5_clashPair_50 rfl 0 rfl ?_
    obtain ⟨v6, e7, hf⟩ := sk_ob hf
    refine sk_getR K dX5_clashPair_51 fl_X5_12 rfl e7 ?_
    obtain ⟨v8, e9, hf⟩ := sk_ob hf
    refine sk_getI K dX5_clashPair_54 fl_X5_145 rfl e9 ?_
    refine sk_iconst (1 : Int32) K dX5_clashPair_57 (by decide) ?_
    refine sk_isub K dX5_clashPair_58 ?_
    obtain ⟨h13, hf⟩ := sk_ib hf
    obtain ⟨⟨v10, d12⟩, e11, hf⟩ := sk_ob hf
    try dsimp only at hf
    refine sk_callV (As := [.int (0 : Int32), .int (v8 - (1 : Int32))]) (st := [.int v2, .ref v4]) K dX5_clashPair_59 cl_X5_110 h13 (sX5_number C l e11) (by decide) rfl rfl (Nat.le_of_ble_eq_true rfl) R1 R2 ?_
    obtain ⟨h18, hf⟩ := sk_ib hf
    obtain ⟨d17, e16, hf⟩ := sk_ob hf
    refine sk_callV (As := [.int v2, .int v10]) (st := []) K dX5_clashPair_62 cl_X5_182 h18 (sX2_addClash C l e16) (by decide) rfl rfl (Nat.le_of_ble_eq_true rfl) R1 R2 ?_
    have hR19 : d17 = dd := Option.some.inj hf
    exact sk_vret K dX5_clashPair_65 rfl rfl rfl hR19
  refine sk_aload_n K dX5_clashPair_0 rfl 0 rfl ?_
  refine sk_iconst (0 : Int32) K dX5_clashPair_1 (by decide) ?_
  refine sk_aload_n K dX5_clashPair_2 rfl 0 rfl ?_
  obtain ⟨v20, e21, hf⟩ := sk_ob hf
  refine sk_getR K dX5_clashPair_3 fl_X5_12 rfl e21 ?_
  obtain ⟨v22, e23, hf⟩ := sk_ob hf
  refine sk_getI K dX5_clashPair_6 fl_X5_145 rfl e23 ?_
  refine sk_iconst (1 : Int32) K dX5_clashPair_9 (by decide) ?_
  refine sk_isub K dX5_clashPair_10 ?_
  obtain ⟨h27, hf⟩ := sk_ib hf
  obtain ⟨⟨v24, d26⟩, e25, hf⟩ := sk_ob hf
  try dsimp only at hf
  refine sk_callV (As := [.int (0 : Int32), .int (v22 - (1 : Int32))]) (st := []) K dX5_clashPair_11 cl_X5_110 h27 (sX5_number C l e25) (by decide) rfl rfl (Nat.le_of_ble_eq_true rfl) R1 R2 ?_
  refine sk_istore_n [(1, .int v24), (0, .ref p0)] K dX5_clashPair_14 rfl (by decide) rfl ?_
  refine sk_aload_n K dX5_clashPair_15 rfl 1 rfl ?_
  obtain ⟨h31, hf⟩ := sk_ib hf
  obtain ⟨v29, e30, hf⟩ := sk_ob hf
  refine sk_callV (As := []) (st := []) K dX5_clashPair_16 cl_X5_61 h31 (sX5_kind C l e30) (by decide) rfl rfl (Nat.le_of_ble_eq_true rfl) R1 R2 ?_
  refine sk_sipush (200 : Int32) K dX5_clashPair_19 (by decide) ?_
  refine sk_icmp_ne 43 K dX5_clashPair_22 (by decide) (fun h32 => ?_) (fun h32 => ?_)
  · rw [if_neg h32] at hf
    refine sk_sub [(0, .ref p0), (1, .int v24)] [1, 0] rfl ?_
    have h9 := j43_0 _ _ _ hf
    exact h9
  · rw [if_pos h32] at hf
    refine sk_aload_n K dX5_clashPair_25 rfl 1 rfl ?_
    obtain ⟨v33, e34, hf⟩ := sk_ob hf
    refine sk_getR K dX5_clashPair_26 fl_X5_32 rfl e34 ?_
    refine sk_aload_n K dX5_clashPair_29 rfl 1 rfl ?_
    obtain ⟨v35, e36, hf⟩ := sk_ob hf
    refine sk_getI K dX5_clashPair_30 fl_X5_38 rfl e36 ?_
    obtain ⟨v37, e38, hf⟩ := sk_ob hf
    refine sk_ald20 K dX5_clashPair_33 e38 ?_
    refine sk_iload_n K dX5_clashPair_34 rfl 0 rfl ?_
    refine sk_icmp_ne 43 K dX5_clashPair_35 (by decide) (fun h39 => ?_) (fun h39 => ?_)
    · rw [if_neg h39] at hf
      refine sk_sub [(0, .ref p0), (1, .int v24)] [1, 0] rfl ?_
      have h9 := j43_0 _ _ _ hf
      exact h9
    · rw [if_pos h39] at hf
      refine sk_aload_n K dX5_clashPair_38 rfl 1 rfl ?_
      refine sk_iconst (3 : Int32) K dX5_clashPair_39 (by decide) ?_
      obtain ⟨h43, hf⟩ := sk_ib hf
      obtain ⟨d42, e41, hf⟩ := sk_ob hf
      refine sk_callV (As := [.int (3 : Int32)]) (st := []) K dX5_clashPair_40 cl_X5_103 h43 (sX5_fail C l e41) (by decide) rfl rfl (Nat.le_of_ble_eq_true rfl) R1 R2 ?_
      refine sk_sub [(0, .ref p0), (1, .int v24)] [1, 0] rfl ?_
      have h9 := j43_0 _ _ _ hf
      exact h9
noncomputable def fX5_stepOf (S : sk_S) (d : sk_D) (p0 : Int32) : Option (Int32) :=
  if p0 = (2 : Int32) then (some (-1 : Int32)) else (if p0 = (3 : Int32) then (some (-2 : Int32)) else (if p0 = (4 : Int32) then (some (-3 : Int32)) else (if p0 = (5 : Int32) then (some (-4 : Int32)) else (if p0 = (6 : Int32) then (some (-5 : Int32)) else (if p0 = (7 : Int32) then (some (-6 : Int32)) else (some (0 : Int32)))))))
set_option maxRecDepth 100000 in
set_option maxHeartbeats 4000000 in
theorem sX5_stepOf (C : sk_C) (l : Launch) {S : sk_S} {d : sk_D} {p0 : Int32} {rr : Int32} (hf : fX5_stepOf S d p0 = some rr) : sk_Met C l 0 yX5_stepOf cX5_stepOf 1 (some .int) [.int p0] S d (some (.int rr)) S d := by
  refine sk_Met.of (by decide) (Nat.le_of_ble_eq_true rfl) (Nat.le_refl _) (Nat.le_refl _) (fun X K0 hX => ?_)
  have K : sk_Ok X C cX5_stepOf 1 RX5 "stepOf" (some .int) 0 l (some (.int rr)) S d := K0
  have R1 : X.2.2.2.2.2.2.2.2.2.2.2.1 ≤ S.1.1 ∧ X.2.2.2.2.2.2.2.2.2.2.2.2 ≤ S.1.2 := by rw [hX]; exact ⟨Nat.le_refl _, Nat.le_refl _⟩
  have R2 : S.1.1 ≤ S.1.1 ∧ S.1.2 ≤ S.1.2 := ⟨Nat.le_refl _, Nat.le_refl _⟩
  show sk_G X C 1 S d 0 [(0, .int p0)] []
  unfold fX5_stepOf at hf
  refine sk_iload_n K dX5_stepOf_0 rfl 0 rfl ?_
  by_cases h1 : p0 = (2 : Int32)
  · rw [if_pos h1] at hf
    refine sk_tsIn (2 : Int32) (39) 40 K dX5_stepOf_1 h1 (by decide) (by decide) rfl (by decide) ?_
    refine sk_iconst (-1 : Int32) K dX5_stepOf_40 (by decide) ?_
    have hR2 : (-1 : Int32) = rr := Option.some.inj hf
    exact sk_iret K dX5_stepOf_41 rfl rfl hR2 rfl rfl
  · rw [if_neg h1] at hf
    by_cases h3 : p0 = (3 : Int32)
    · rw [if_pos h3] at hf
      refine sk_tsIn (3 : Int32) (41) 42 K dX5_stepOf_1 h3 (by decide) (by decide) rfl (by decide) ?_
      refine sk_bipush (-2 : Int32) K dX5_stepOf_42 (by decide) ?_
      have hR4 : (-2 : Int32) = rr := Option.some.inj hf
      exact sk_iret K dX5_stepOf_44 rfl rfl hR4 rfl rfl
    · rw [if_neg h3] at hf
      by_cases h5 : p0 = (4 : Int32)
      · rw [if_pos h5] at hf
        refine sk_tsIn (4 : Int32) (44) 45 K dX5_stepOf_1 h5 (by decide) (by decide) rfl (by decide) ?_
        refine sk_bipush (-3 : Int32) K dX5_stepOf_45 (by decide) ?_
        have hR6 : (-3 : Int32) = rr := Option.some.inj hf
        exact sk_iret K dX5_stepOf_47 rfl rfl hR6 rfl rfl
      · rw [if_neg h5] at hf
        by_cases h7 : p0 = (5 : Int32)
        · rw [if_pos h7] at hf
          refine sk_tsIn (5 : Int32) (47) 48 K dX5_stepOf_1 h7 (by decide) (by decide) rfl (by decide) ?_
          refine sk_bipush (-4 : Int32) K dX5_stepOf_48 (by decide) ?_
          have hR8 : (-4 : Int32) = rr := Option.some.inj hf
          exact sk_iret K dX5_stepOf_50 rfl rfl hR8 rfl rfl
        · rw [if_neg h7] at hf
          by_cases h9 : p0 = (6 : Int32)
          · rw [if_pos h9] at hf
            refine sk_tsIn (6 : Int32) (50) 51 K dX5_stepOf_1 h9 (by decide) (by decide) rfl (by decide) ?_
            refine sk_bipush (-5 : Int32) K dX5_stepOf_51 (by decide) ?_
            have hR10 : (-5 : Int32) = rr := Option.some.inj hf
            exact sk_iret K dX5_stepOf_53 rfl rfl hR10 rfl rfl
          · rw [if_neg h9] at hf
            by_cases h11 : p0 = (7 : Int32)
            · rw [if_pos h11] at hf
              refine sk_tsIn (7 : Int32) (53) 54 K dX5_stepOf_1 h11 (by decide) (by decide) rfl (by decide) ?_
              refine sk_bipush (-6 : Int32) K dX5_stepOf_54 (by decide) ?_
              have hR12 : (-6 : Int32) = rr := Option.some.inj hf
              exact sk_iret K dX5_stepOf_56 rfl rfl hR12 rfl rfl
            · rw [if_neg h11] at hf
              refine sk_tsOut 57 K dX5_stepOf_1 (sk_tsout (2) 6 [(2 : Int32), (3 : Int32), (4 : Int32), (5 : Int32), (6 : Int32), (7 : Int32)] (by decide) (by simp [h1, h3, h5, h7, h9, h11])) (by decide) ?_
              refine sk_iconst (0 : Int32) K dX5_stepOf_57 (by decide) ?_
              have hR13 : (0 : Int32) = rr := Option.some.inj hf
              exact sk_iret K dX5_stepOf_58 rfl rfl hR13 rfl rfl
noncomputable def fJ7_fill_d0a16_L6 (S : sk_S) (p0 : Nat) (p1 : Int64) (v1 : Int32) (s1 : Int32 × sk_D) : Option ((Int32 × sk_D) ⊕ (sk_D)) :=
  if v1 ≤ s1.1 then (some (.inr s1.2)) else ((sk_sJ S s1.2 p0 s1.1 p1).bind fun d5 => some (.inl (s1.1 + 1, d5)))
noncomputable def fJ7_fill_d0a16 (S : sk_S) (d : sk_D) (p0 : Nat) (p1 : Int64) : Option (sk_D) :=
  (sk_al S p0 21).bind fun v1 => (sk_itr (fJ7_fill_d0a16_L6 S p0 p1 v1) ((0 : Int32), d)).bind fun x1 => some x1
set_option maxRecDepth 100000 in
set_option maxHeartbeats 4000000 in
theorem sJ7_fill_d0a16 (C : sk_C) (l : Launch) {S : sk_S} {d : sk_D} {p0 : Nat} {p1 : Int64} {dd : sk_D} (hf : fJ7_fill_d0a16 S d p0 p1 = some dd) : sk_Met C l 0 yJ7_fill_d0a16 cJ7_fill_d0a16 5 none [.ref p0, .long p1] S d none S dd := by
  refine sk_Met.of (by decide) (Nat.le_of_ble_eq_true rfl) (Nat.le_refl _) (Nat.le_refl _) (fun X K0 hX => ?_)
  have K : sk_Ok X C cJ7_fill_d0a16 5 RJ7 "fill" none 0 l none S dd := K0
  have R1 : X.2.2.2.2.2.2.2.2.2.2.2.1 ≤ S.1.1 ∧ X.2.2.2.2.2.2.2.2.2.2.2.2 ≤ S.1.2 := by rw [hX]; exact ⟨Nat.le_refl _, Nat.le_refl _⟩
  have R2 : S.1.1 ≤ S.1.1 ∧ S.1.2 ≤ S.1.2 := ⟨Nat.le_refl _, Nat.le_refl _⟩
  show sk_G X C 5 S d 0 [(0, .ref p0), (1, .long p1)] []
  unfold fJ7_fill_d0a16 at hf
  refine sk_iconst (0 : Int32) K dJ7_fill_d0a16_0 (by decide) ?_
  refine sk_istore_n [(3, .int (0 : Int32)), (0, .ref p0), (1, .long p1)] K dJ7_fill_d0a16_1 rfl (by decide) rfl ?_
  refine sk_aload_n K dJ7_fill_d0a16_2 rfl 1 rfl ?_
  obtain ⟨v1, e2, hf⟩ := sk_ob hf
  refine sk_al21 K dJ7_fill_d0a16_3 e2 ?_
  refine sk_istore [(4, .int v1), (3, .int (0 : Int32)), (0, .ref p0), (1, .long p1)] K dJ7_fill_d0a16_4 (by decide) rfl ?_
  obtain ⟨x1, he1, hf⟩ := sk_ob hf
  have hret1 : ∀ r, r = x1 → r = dd := by
    intro r hr
    subst hr
    exact Option.some.inj hf
  refine sk_sub [(0, .ref p0), (1, .long p1), (3, .int (0 : Int32)), (4, .int v1)] [2, 3, 1, 0] rfl ?_
  refine sk_loop (fun s1 => sk_G X C 5 S s1.2 6 [(0, .ref p0), (1, .long p1), (3, .int s1.1), (4, .int v1)] []) he1 (fun s1 o1 hf ih1 hx1 => ?_)
  unfold fJ7_fill_d0a16_L6 at hf
  refine sk_iload_n K dJ7_fill_d0a16_6 rfl 2 rfl ?_
  refine sk_iload K dJ7_fill_d0a16_7 3 rfl ?_
  refine sk_icmp_ge 22 K dJ7_fill_d0a16_9 (by decide) (fun h3 => ?_) (fun h3 => ?_)
  · rw [if_pos h3] at hf
    have hR4 : s1.2 = dd := hret1 _ (hx1 _ (Option.some.inj hf).symm)
    exact sk_vret K dJ7_fill_d0a16_22 rfl rfl rfl hR4
  · rw [if_neg h3] at hf
    refine sk_aload_n K dJ7_fill_d0a16_12 rfl 0 rfl ?_
    refine sk_iload_n K dJ7_fill_d0a16_13 rfl 2 rfl ?_
    refine sk_lload_n K dJ7_fill_d0a16_14 rfl 1 rfl ?_
    obtain ⟨d5, e6, hf⟩ := sk_ob hf
    refine sk_ast21 d5 K dJ7_fill_d0a16_15 e6 ?_
    refine sk_iinc (s1.1 + 1) [(3, .int (s1.1 + 1)), (0, .ref p0), (1, .long p1), (4, .int v1)] K dJ7_fill_d0a16_16 2 rfl rfl (by decide) rfl ?_
    refine sk_goto 6 K dJ7_fill_d0a16_19 (by decide) ?_
    refine sk_sub [(0, .ref p0), (1, .long p1), (3, .int (s1.1 + 1)), (4, .int v1)] [1, 2, 0, 3] rfl ?_
    have h9 := ih1 _ (Option.some.inj hf).symm
    exact h9
noncomputable def fX6_begin (S : sk_S) (d : sk_D) (p0 : Nat) (p1 : Int32) (p2 : Int32) : Option (sk_D) :=
  (sk_gR S p0 6 0).bind fun v1 => (fJ7_fill_d0a16 S d v1 (0 : Int64)).bind fun d5 => (sk_pI S d5 p0 6 1 p1).bind fun d6 => (sk_pI S d6 p0 6 2 p2).bind fun d8 => (sk_pI S d8 p0 6 3 (1 : Int32)).bind fun d10 => some d10
set_option maxRecDepth 100000 in
set_option maxHeartbeats 4000000 in
theorem sX6_begin (C : sk_C) (l : Launch) {S : sk_S} {d : sk_D} {p0 : Nat} {p1 : Int32} {p2 : Int32} {dd : sk_D} (hf : fX6_begin S d p0 p1 p2 = some dd) : sk_Met C l 1 yX6_begin cX6_begin 3 none [.ref p0, .int p1, .int p2] S d none S dd := by
  refine sk_Met.of (by decide) (Nat.le_of_ble_eq_true rfl) (Nat.le_refl _) (Nat.le_refl _) (fun X K0 hX => ?_)
  have K : sk_Ok X C cX6_begin 3 RX6 "begin" none 1 l none S dd := K0
  have R1 : X.2.2.2.2.2.2.2.2.2.2.2.1 ≤ S.1.1 ∧ X.2.2.2.2.2.2.2.2.2.2.2.2 ≤ S.1.2 := by rw [hX]; exact ⟨Nat.le_refl _, Nat.le_refl _⟩
  have R2 : S.1.1 ≤ S.1.1 ∧ S.1.2 ≤ S.1.2 := ⟨Nat.le_refl _, Nat.le_refl _⟩
  show sk_G X C 3 S d 0 [(0, .ref p0), (1, .int p1), (2, .int p2)] []
  unfold fX6_begin at hf
  refine sk_aload_n K dX6_begin_0 rfl 0 rfl ?_
  obtain ⟨v1, e2, hf⟩ := sk_ob hf
  refine sk_getR K dX6_begin_1 fl_X6_9 rfl e2 ?_
  refine sk_lconst (0 : Int64) K dX6_begin_4 (by decide) ?_
  obtain ⟨d5, e4, hf⟩ := sk_ob hf
  refine sk_callS (As := [.ref v1, .long (0 : Int64)]) (st := []) K dX6_begin_5 cl_X6_24 (sJ7_fill_d0a16 C l e4) (by decide) rfl rfl (Nat.le_of_ble_eq_true rfl) R1 R2 ?_
  refine sk_aload_n K dX6_begin_8 rfl 0 rfl ?_
  refine sk_iload_n K dX6_begin_9 rfl 1 rfl ?_
  obtain ⟨d6, e7, hf⟩ := sk_ob hf
  refine sk_putI d6 K dX6_begin_10 fl_X6_13 rfl rfl rfl e7 ?_
  refine sk_aload_n K dX6_begin_13 rfl 0 rfl ?_
  refine sk_iload_n K dX6_begin_14 rfl 2 rfl ?_
  obtain ⟨d8, e9, hf⟩ := sk_ob hf
  refine sk_putI d8 K dX6_begin_15 fl_X6_17 rfl rfl rfl e9 ?_
  refine sk_aload_n K dX6_begin_18 rfl 0 rfl ?_
  refine sk_iconst (1 : Int32) K dX6_begin_19 (by decide) ?_
  obtain ⟨d10, e11, hf⟩ := sk_ob hf
  refine sk_putI d10 K dX6_begin_20 fl_X6_20 rfl (by decide) (by decide) e11 ?_
  have hR12 : d10 = dd := Option.some.inj hf
  exact sk_vret K dX6_begin_23 rfl rfl rfl hR12
noncomputable def fX6_at (S : sk_S) (d : sk_D) (p0 : Nat) (p1 : Int32) : Option (Int64) :=
  if p1 < 0 then (some (0 : Int64)) else (if (40 : Int32) ≤ p1 then (some (0 : Int64)) else ((sk_gR S p0 6 0).bind fun v5 => (sk_lJ S d v5 p1).bind fun v7 => some v7))
set_option maxRecDepth 100000 in
set_option maxHeartbeats 4000000 in
theorem sX6_at (C : sk_C) (l : Launch) {S : sk_S} {d : sk_D} {p0 : Nat} {p1 : Int32} {rr : Int64} (hf : fX6_at S d p0 p1 = some rr) : sk_Met C l 0 yX6_at cX6_at 2 (some .long) [.ref p0, .int p1] S d (some (.long rr)) S d := by
  refine sk_Met.of (by decide) (Nat.le_of_ble_eq_true rfl) (Nat.le_refl _) (Nat.le_refl _) (fun X K0 hX => ?_)
  have K : sk_Ok X C cX6_at 2 RX6 "at" (some .long) 0 l (some (.long rr)) S d := K0
  have R1 : X.2.2.2.2.2.2.2.2.2.2.2.1 ≤ S.1.1 ∧ X.2.2.2.2.2.2.2.2.2.2.2.2 ≤ S.1.2 := by rw [hX]; exact ⟨Nat.le_refl _, Nat.le_refl _⟩
  have R2 : S.1.1 ≤ S.1.1 ∧ S.1.2 ≤ S.1.2 := ⟨Nat.le_refl _, Nat.le_refl _⟩
  show sk_G X C 2 S d 0 [(0, .ref p0), (1, .int p1)] []
  unfold fX6_at at hf
  refine sk_iload_n K dX6_at_0 rfl 1 rfl ?_
  refine sk_if_lt 19 K dX6_at_1 (by decide) (fun h1 => ?_) (fun h1 => ?_)
  · rw [if_pos h1] at hf
    refine sk_lconst (0 : Int64) K dX6_at_19 (by decide) ?_
    have hR2 : (0 : Int64) = rr := Option.some.inj hf
    exact sk_lret K dX6_at_20 rfl rfl hR2 rfl rfl
  · rw [if_neg h1] at hf
    refine sk_iload_n K dX6_at_4 rfl 1 rfl ?_
    refine sk_bipush (40 : Int32) K dX6_at_5 (by decide) ?_
    refine sk_icmp_ge 19 K dX6_at_7 (by decide) (fun h3 => ?_) (fun h3 => ?_)
    · rw [if_pos h3] at hf
      refine sk_lconst (0 : Int64) K dX6_at_19 (by decide) ?_
      have hR4 : (0 : Int64) = rr := Option.some.inj hf
      exact sk_lret K dX6_at_20 rfl rfl hR4 rfl rfl
    · rw [if_neg h3] at hf
      refine sk_aload_n K dX6_at_10 rfl 0 rfl ?_
      obtain ⟨v5, e6, hf⟩ := sk_ob hf
      refine sk_getR K dX6_at_11 fl_X6_9 rfl e6 ?_
      refine sk_iload_n K dX6_at_14 rfl 1 rfl ?_
      obtain ⟨v7, e8, hf⟩ := sk_ob hf
      refine sk_ald21 K dX6_at_15 e8 ?_
      refine sk_goto 20 K dX6_at_16 (by decide) ?_
      have hR9 : v7 = rr := Option.some.inj hf
      exact sk_lret K dX6_at_20 rfl rfl hR9 rfl rfl
noncomputable def fX6_cut (S : sk_S) (d : sk_D) (p0 : Nat) (p1 : Int64) : Option (Int64) :=
  (sk_gI S d p0 6 1).bind fun v1 => if v1 = (0 : Int32) then (some p1.toInt32.toInt8.toInt32.toInt64) else (if v1 = (1 : Int32) then (some p1.toInt32.toInt16.toInt32.toInt64) else (if v1 = (2 : Int32) then (some p1.toInt32.toInt64) else (some p1)))
set_option maxRecDepth 100000 in
set_option maxHeartbeats 4000000 in
theorem sX6_cut (C : sk_C) (l : Launch) {S : sk_S} {d : sk_D} {p0 : Nat} {p1 : Int64} {rr : Int64} (hf : fX6_cut S d p0 p1 = some rr) : sk_Met C l 0 yX6_cut cX6_cut 3 (some .long) [.ref p0, .long p1] S d (some (.long rr)) S d := by
  refine sk_Met.of (by decide) (Nat.le_of_ble_eq_true rfl) (Nat.le_refl _) (Nat.le_refl _) (fun X K0 hX => ?_)
  have K : sk_Ok X C cX6_cut 3 RX6 "cut" (some .long) 0 l (some (.long rr)) S d := K0
  have R1 : X.2.2.2.2.2.2.2.2.2.2.2.1 ≤ S.1.1 ∧ X.2.2.2.2.2.2.2.2.2.2.2.2 ≤ S.1.2 := by rw [hX]; exact ⟨Nat.le_refl _, Nat.le_refl _⟩
  have R2 : S.1.1 ≤ S.1.1 ∧ S.1.2 ≤ S.1.2 := ⟨Nat.le_refl _, Nat.le_refl _⟩
  show sk_G X C 3 S d 0 [(0, .ref p0), (1, .long p1)] []
  unfold fX6_cut at hf
  refine sk_aload_n K dX6_cut_0 rfl 0 rfl ?_
  obtain ⟨v1, e2, hf⟩ := sk_ob hf
  refine sk_getI K dX6_cut_1 fl_X6_13 rfl e2 ?_
  by_cases h3 : v1 = (0 : Int32)
  · rw [if_pos h3] at hf
    refine sk_tsIn (0 : Int32) (28) 32 K dX6_cut_4 h3 (by decide) (by decide) rfl (by decide) ?_
    refine sk_lload_n K dX6_cut_32 rfl 1 rfl ?_
    refine sk_l2i K dX6_cut_33 ?_
    refine sk_i2b K dX6_cut_34 ?_
    refine sk_i2l K dX6_cut_35 ?_
    have hR4 : p1.toInt32.toInt8.toInt32.toInt64 = rr := Option.some.inj hf
    exact sk_lret K dX6_cut_36 rfl rfl hR4 rfl rfl
  · rw [if_neg h3] at hf
    by_cases h5 : v1 = (1 : Int32)
    · rw [if_pos h5] at hf
      refine sk_tsIn (1 : Int32) (33) 37 K dX6_cut_4 h5 (by decide) (by decide) rfl (by decide) ?_
      refine sk_lload_n K dX6_cut_37 rfl 1 rfl ?_
      refine sk_l2i K dX6_cut_38 ?_
      refine sk_i2s K dX6_cut_39 ?_
      refine sk_i2l K dX6_cut_40 ?_
      have hR6 : p1.toInt32.toInt16.toInt32.toInt64 = rr := Option.some.inj hf
      exact sk_lret K dX6_cut_41 rfl rfl hR6 rfl rfl
    · rw [if_neg h5] at hf
      by_cases h7 : v1 = (2 : Int32)
      · rw [if_pos h7] at hf
        refine sk_tsIn (2 : Int32) (38) 42 K dX6_cut_4 h7 (by decide) (by decide) rfl (by decide) ?_
        refine sk_lload_n K dX6_cut_42 rfl 1 rfl ?_
        refine sk_l2i K dX6_cut_43 ?_
        refine sk_i2l K dX6_cut_44 ?_
        have hR8 : p1.toInt32.toInt64 = rr := Option.some.inj hf
        exact sk_lret K dX6_cut_45 rfl rfl hR8 rfl rfl
      · rw [if_neg h7] at hf
        refine sk_tsOut 46 K dX6_cut_4 (sk_tsout (0) 3 [(0 : Int32), (1 : Int32), (2 : Int32)] (by decide) (by simp [h3, h5, h7])) (by decide) ?_
        refine sk_lload_n K dX6_cut_46 rfl 1 rfl ?_
        have hR9 : p1 = rr := Option.some.inj hf
        exact sk_lret K dX6_cut_47 rfl rfl hR9 rfl rfl
noncomputable def fX6_put (S : sk_S) (d : sk_D) (p0 : Nat) (p1 : Int32) (p2 : Int64) : Option (sk_D) :=
  if p1 < 0 then (some d) else (if (40 : Int32) ≤ p1 then (some d) else ((sk_gR S p0 6 0).bind fun v5 => if S.2.1 p0 = (6, 0) then ((fX6_cut S d p0 p2).bind fun v7 => (sk_sJ S d v5 p1 v7).bind fun d10 => some d10) else none))
set_option maxRecDepth 100000 in
set_option maxHeartbeats 4000000 in
theorem sX6_put (C : sk_C) (l : Launch) {S : sk_S} {d : sk_D} {p0 : Nat} {p1 : Int32} {p2 : Int64} {dd : sk_D} (hf : fX6_put S d p0 p1 p2 = some dd) : sk_Met C l 1 yX6_put cX6_put 4 none [.ref p0, .int p1, .long p2] S d none S dd := by
  refine sk_Met.of (by decide) (Nat.le_of_ble_eq_true rfl) (Nat.le_refl _) (Nat.le_refl _) (fun X K0 hX => ?_)
  have K : sk_Ok X C cX6_put 4 RX6 "put" none 1 l none S dd := K0
  have R1 : X.2.2.2.2.2.2.2.2.2.2.2.1 ≤ S.1.1 ∧ X.2.2.2.2.2.2.2.2.2.2.2.2 ≤ S.1.2 := by rw [hX]; exact ⟨Nat.le_refl _, Nat.le_refl _⟩
  have R2 : S.1.1 ≤ S.1.1 ∧ S.1.2 ≤ S.1.2 := ⟨Nat.le_refl _, Nat.le_refl _⟩
  show sk_G X C 4 S d 0 [(0, .ref p0), (1, .int p1), (2, .long p2)] []
  unfold fX6_put at hf
  refine sk_iload_n K dX6_put_0 rfl 1 rfl ?_
  refine sk_if_lt 21 K dX6_put_1 (by decide) (fun h1 => ?_) (fun h1 => ?_)
  · rw [if_pos h1] at hf
    have hR2 : d = dd := Option.some.inj hf
    exact sk_vret K dX6_put_21 rfl rfl rfl hR2
  · rw [if_neg h1] at hf
    refine sk_iload_n K dX6_put_4 rfl 1 rfl ?_
    refine sk_bipush (40 : Int32) K dX6_put_5 (by decide) ?_
    refine sk_icmp_ge 21 K dX6_put_7 (by decide) (fun h3 => ?_) (fun h3 => ?_)
    · rw [if_pos h3] at hf
      have hR4 : d = dd := Option.some.inj hf
      exact sk_vret K dX6_put_21 rfl rfl rfl hR4
    · rw [if_neg h3] at hf
      refine sk_aload_n K dX6_put_10 rfl 0 rfl ?_
      obtain ⟨v5, e6, hf⟩ := sk_ob hf
      refine sk_getR K dX6_put_11 fl_X6_9 rfl e6 ?_
      refine sk_iload_n K dX6_put_14 rfl 1 rfl ?_
      refine sk_aload_n K dX6_put_15 rfl 0 rfl ?_
      refine sk_lload_n K dX6_put_16 rfl 2 rfl ?_
      obtain ⟨h9, hf⟩ := sk_ib hf
      obtain ⟨v7, e8, hf⟩ := sk_ob hf
      refine sk_callV (As := [.long p2]) (st := [.int p1, .ref v5]) K dX6_put_17 cl_X6_30 h9 (sX6_cut C l e8) (by decide) rfl rfl (Nat.le_of_ble_eq_true rfl) R1 R2 ?_
      obtain ⟨d10, e11, hf⟩ := sk_ob hf
      refine sk_ast21 d10 K dX6_put_20 e11 ?_
      have hR12 : d10 = dd := Option.some.inj hf
      exact sk_vret K dX6_put_21 rfl rfl rfl hR12
noncomputable def fX10_shownIn (S : sk_S) (d : sk_D) (p0 : Int32) : Option (Int32) :=
  some ((p0 &&& (p0 >>> ((8 : Int32) &&& 31))) &&& (255 : Int32))
set_option maxRecDepth 100000 in
set_option maxHeartbeats 4000000 in
theorem sX10_shownIn (C : sk_C) (l : Launch) {S : sk_S} {d : sk_D} {p0 : Int32} {rr : Int32} (hf : fX10_shownIn S d p0 = some rr) : sk_Met C l 0 yX10_shownIn cX10_shownIn 1 (some .int) [.int p0] S d (some (.int rr)) S d := by
  refine sk_Met.of (by decide) (Nat.le_of_ble_eq_true rfl) (Nat.le_refl _) (Nat.le_refl _) (fun X K0 hX => ?_)
  have K : sk_Ok X C cX10_shownIn 1 RX10 "shownIn" (some .int) 0 l (some (.int rr)) S d := K0
  have R1 : X.2.2.2.2.2.2.2.2.2.2.2.1 ≤ S.1.1 ∧ X.2.2.2.2.2.2.2.2.2.2.2.2 ≤ S.1.2 := by rw [hX]; exact ⟨Nat.le_refl _, Nat.le_refl _⟩
  have R2 : S.1.1 ≤ S.1.1 ∧ S.1.2 ≤ S.1.2 := ⟨Nat.le_refl _, Nat.le_refl _⟩
  show sk_G X C 1 S d 0 [(0, .int p0)] []
  unfold fX10_shownIn at hf
  refine sk_iload_n K dX10_shownIn_0 rfl 0 rfl ?_
  refine sk_iload_n K dX10_shownIn_1 rfl 0 rfl ?_
  refine sk_bipush (8 : Int32) K dX10_shownIn_2 (by decide) ?_
  refine sk_ishr K dX10_shownIn_4 ?_
  refine sk_iand K dX10_shownIn_5 ?_
  refine sk_sipush (255 : Int32) K dX10_shownIn_6 (by decide) ?_
  refine sk_iand K dX10_shownIn_9 ?_
  have hR1 : ((p0 &&& (p0 >>> ((8 : Int32) &&& 31))) &&& (255 : Int32)) = rr := Option.some.inj hf
  exact sk_iret K dX10_shownIn_10 rfl rfl hR1 rfl rfl
noncomputable def fX10_doneIn (S : sk_S) (d : sk_D) (p0 : Int32) : Option (Int32) :=
  some (p0 &&& (255 : Int32))
set_option maxRecDepth 100000 in
set_option maxHeartbeats 4000000 in
theorem sX10_doneIn (C : sk_C) (l : Launch) {S : sk_S} {d : sk_D} {p0 : Int32} {rr : Int32} (hf : fX10_doneIn S d p0 = some rr) : sk_Met C l 0 yX10_doneIn cX10_doneIn 1 (some .int) [.int p0] S d (some (.int rr)) S d := by
  refine sk_Met.of (by decide) (Nat.le_of_ble_eq_true rfl) (Nat.le_refl _) (Nat.le_refl _) (fun X K0 hX => ?_)
  have K : sk_Ok X C cX10_doneIn 1 RX10 "doneIn" (some .int) 0 l (some (.int rr)) S d := K0
  have R1 : X.2.2.2.2.2.2.2.2.2.2.2.1 ≤ S.1.1 ∧ X.2.2.2.2.2.2.2.2.2.2.2.2 ≤ S.1.2 := by rw [hX]; exact ⟨Nat.le_refl _, Nat.le_refl _⟩
  have R2 : S.1.1 ≤ S.1.1 ∧ S.1.2 ≤ S.1.2 := ⟨Nat.le_refl _, Nat.le_refl _⟩
  show sk_G X C 1 S d 0 [(0, .int p0)] []
  unfold fX10_doneIn at hf
  refine sk_iload_n K dX10_doneIn_0 rfl 0 rfl ?_
  refine sk_sipush (255 : Int32) K dX10_doneIn_1 (by decide) ?_
  refine sk_iand K dX10_doneIn_4 ?_
  have hR1 : (p0 &&& (255 : Int32)) = rr := Option.some.inj hf
  exact sk_iret K dX10_doneIn_5 rfl rfl hR1 rfl rfl
noncomputable def fX10_liningIn (S : sk_S) (d : sk_D) (p0 : Int32) : Option (Int32) :=
  some ((p0 >>> ((8 : Int32) &&& 31)) &&& (255 : Int32))
set_option maxRecDepth 100000 in
set_option maxHeartbeats 4000000 in
theorem sX10_liningIn (C : sk_C) (l : Launch) {S : sk_S} {d : sk_D} {p0 : Int32} {rr : Int32} (hf : fX10_liningIn S d p0 = some rr) : sk_Met C l 0 yX10_liningIn cX10_liningIn 1 (some .int) [.int p0] S d (some (.int rr)) S d := by
  refine sk_Met.of (by decide) (Nat.le_of_ble_eq_true rfl) (Nat.le_refl _) (Nat.le_refl _) (fun X K0 hX => ?_)
  have K : sk_Ok X C cX10_liningIn 1 RX10 "liningIn" (some .int) 0 l (some (.int rr)) S d := K0
  have R1 : X.2.2.2.2.2.2.2.2.2.2.2.1 ≤ S.1.1 ∧ X.2.2.2.2.2.2.2.2.2.2.2.2 ≤ S.1.2 := by rw [hX]; exact ⟨Nat.le_refl _, Nat.le_refl _⟩
  have R2 : S.1.1 ≤ S.1.1 ∧ S.1.2 ≤ S.1.2 := ⟨Nat.le_refl _, Nat.le_refl _⟩
  show sk_G X C 1 S d 0 [(0, .int p0)] []
  unfold fX10_liningIn at hf
  refine sk_iload_n K dX10_liningIn_0 rfl 0 rfl ?_
  refine sk_bipush (8 : Int32) K dX10_liningIn_1 (by decide) ?_
  refine sk_ishr K dX10_liningIn_3 ?_
  refine sk_sipush (255 : Int32) K dX10_liningIn_4 (by decide) ?_
  refine sk_iand K dX10_liningIn_7 ?_
  have hR1 : ((p0 >>> ((8 : Int32) &&& 31)) &&& (255 : Int32)) = rr := Option.some.inj hf
  exact sk_iret K dX10_liningIn_8 rfl rfl hR1 rfl rfl
noncomputable def fX9_give (S : sk_S) (d : sk_D) (p0 : Nat) (p1 : Int32) (p2 : Int32) (p3 : Int32) : Option (sk_D) :=
  (sk_gR S p0 8 3).bind fun v1 => (sk_sI S d v1 20 (0 : Int32) p1).bind fun d3 => (sk_gR S p0 8 3).bind fun v5 => (sk_gR S p0 8 0).bind fun v7 => (sk_gR S v7 2 5).bind fun v9 => (sk_lI S d3 v9 20 p1).bind fun v11 => (sk_sI S d3 v5 20 (1 : Int32) v11).bind fun d13 => (sk_gR S p0 8 3).bind fun v15 => (sk_gR S p0 8 0).bind fun v17 => (sk_gR S v17 2 6).bind fun v19 => (sk_lI S d13 v19 20 p1).bind fun v21 => (sk_sI S d13 v15 20 (2 : Int32) v21).bind fun d23 => (sk_gR S p0 8 3).bind fun v25 => (fJ6_bitCount_0f7a4 S d23 p2).bind fun v27 => (sk_sI S d23 v25 20 (3 : Int32) v27).bind fun d29 => (sk_gR S p0 8 3).bind fun v31 => (sk_gR S p0 8 0).bind fun v33 => if S.2.1 v33 = (2, 0) then ((fX2_roomLeft S d29 v33 p2).bind fun v35 => (sk_sI S d29 v31 20 (4 : Int32) v35).bind fun d38 => (sk_gR S p0 8 3).bind fun v40 => (sk_sI S d38 v40 20 (5 : Int32) p3).bind fun d42 => some d42) else none
set_option maxRecDepth 100000 in
set_option maxHeartbeats 4000000 in
theorem sX9_give (C : sk_C) (l : Launch) {S : sk_S} {d : sk_D} {p0 : Nat} {p1 : Int32} {p2 : Int32} {p3 : Int32} {dd : sk_D} (hf : fX9_give S d p0 p1 p2 p3 = some dd) : sk_Met C l 1 yX9_give cX9_give 4 none [.ref p0, .int p1, .int p2, .int p3] S d none S dd := by
  refine sk_Met.of (by decide) (Nat.le_of_ble_eq_true rfl) (Nat.le_refl _) (Nat.le_refl _) (fun X K0 hX => ?_)
  have K : sk_Ok X C cX9_give 4 RX9 "give" none 1 l none S dd := K0
  have R1 : X.2.2.2.2.2.2.2.2.2.2.2.1 ≤ S.1.1 ∧ X.2.2.2.2.2.2.2.2.2.2.2.2 ≤ S.1.2 := by rw [hX]; exact ⟨Nat.le_refl _, Nat.le_refl _⟩
  have R2 : S.1.1 ≤ S.1.1 ∧ S.1.2 ≤ S.1.2 := ⟨Nat.le_refl _, Nat.le_refl _⟩
  show sk_G X C 4 S d 0 [(0, .ref p0), (1, .int p1), (2, .int p2), (3, .int p3)] []
  unfold fX9_give at hf
  refine sk_aload_n K dX9_give_0 rfl 0 rfl ?_
  obtain ⟨v1, e2, hf⟩ := sk_ob hf
  refine sk_getR K dX9_give_1 fl_X9_28 rfl e2 ?_
  refine sk_iconst (0 : Int32) K dX9_give_4 (by decide) ?_
  refine sk_iload_n K dX9_give_5 rfl 1 rfl ?_
  obtain ⟨d3, e4, hf⟩ := sk_ob hf
  refine sk_ast20 d3 K dX9_give_6 e4 ?_
  refine sk_aload_n K dX9_give_7 rfl 0 rfl ?_
  obtain ⟨v5, e6, hf⟩ := sk_ob hf
  refine sk_getR K dX9_give_8 fl_X9_28 rfl e6 ?_
  refine sk_iconst (1 : Int32) K dX9_give_11 (by decide) ?_
  refine sk_aload_n K dX9_give_12 rfl 0 rfl ?_
  obtain ⟨v7, e8, hf⟩ := sk_ob hf
  refine sk_getR K dX9_give_13 fl_X9_12 rfl e8 ?_
  obtain ⟨v9, e10, hf⟩ := sk_ob hf
  refine sk_getR K dX9_give_16 fl_X9_86 rfl e10 ?_
  refine sk_iload_n K dX9_give_19 rfl 1 rfl ?_
  obtain ⟨v11, e12, hf⟩ := sk_ob hf
  refine sk_ald20 K dX9_give_20 e12 ?_
  obtain ⟨d13, e14, hf⟩ := sk_ob hf
  refine sk_ast20 d13 K dX9_give_21 e14 ?_
  refine sk_aload_n K dX9_give_22 rfl 0 rfl ?_
  obtain ⟨v15, e16, hf⟩ := sk_ob hf
  refine sk_getR K dX9_give_23 fl_X9_28 rfl e16 ?_
  refine sk_iconst (2 : Int32) K dX9_give_26 (by decide) ?_
  refine sk_aload_n K dX9_give_27 rfl 0 rfl ?_
  obtain ⟨v17, e18, hf⟩ := sk_ob hf
  refine sk_getR K dX9_give_28 fl_X9_12 rfl e18 ?_
  obtain ⟨v19, e20, hf⟩ := sk_ob hf
  refine sk_getR K dX9_give_31 fl_X9_136 rfl e20 ?_
  refine sk_iload_n K dX9_give_34 rfl 1 rfl ?_
  obtain ⟨v21, e22, hf⟩ := sk_ob hf
  refine sk_ald20 K dX9_give_35 e22 ?_
  obtain ⟨d23, e24, hf⟩ := sk_ob hf
  refine sk_ast20 d23 K dX9_give_36 e24 ?_
  refine sk_aload_n K dX9_give_37 rfl 0 rfl ?_
  obtain ⟨v25, e26, hf⟩ := sk_ob hf
  refine sk_getR K dX9_give_38 fl_X9_28 rfl e26 ?_
  refine sk_iconst (3 : Int32) K dX9_give_41 (by decide) ?_
  refine sk_iload_n K dX9_give_42 rfl 2 rfl ?_
  obtain ⟨v27, e28, hf⟩ := sk_ob hf
  refine sk_callS (As := [.int p2]) (st := [.int (3 : Int32), .ref v25]) K dX9_give_43 cl_X9_139 (sJ6_bitCount_0f7a4 C l e28) (by decide) rfl rfl (Nat.le_of_ble_eq_true rfl) R1 R2 ?_
  obtain ⟨d29, e30, hf⟩ := sk_ob hf
  refine sk_ast20 d29 K dX9_give_46 e30 ?_
  refine sk_aload_n K dX9_give_47 rfl 0 rfl ?_
  obtain ⟨v31, e32, hf⟩ := sk_ob hf
  refine sk_getR K dX9_give_48 fl_X9_28 rfl e32 ?_
  refine sk_iconst (4 : Int32) K dX9_give_51 (by decide) ?_
  refine sk_aload_n K dX9_give_52 rfl 0 rfl ?_
  obtain ⟨v33, e34, hf⟩ := sk_ob hf
  refine sk_getR K dX9_give_53 fl_X9_12 rfl e34 ?_
  refine sk_iload_n K dX9_give_56 rfl 2 rfl ?_
  obtain ⟨h37, hf⟩ := sk_ib hf
  obtain ⟨v35, e36, hf⟩ := sk_ob hf
  refine sk_callV (As := [.int p2]) (st := [.int (4 : Int32), .ref v31]) K dX9_give_57 cl_X9_83 h37 (sX2_roomLeft C l e36) (by decide) rfl rfl (Nat.le_of_ble_eq_true rfl) R1 R2 ?_
  obtain ⟨d38, e39, hf⟩ := sk_ob hf
  refine sk_ast20 d38 K dX9_give_60 e39 ?_
  refine sk_aload_n K dX9_give_61 rfl 0 rfl ?_
  obtain ⟨v40, e41, hf⟩ := sk_ob hf
  refine sk_getR K dX9_give_62 fl_X9_28 rfl e41 ?_
  refine sk_iconst (5 : Int32) K dX9_give_65 (by decide) ?_
  refine sk_iload_n K dX9_give_66 rfl 3 rfl ?_
  obtain ⟨d42, e43, hf⟩ := sk_ob hf
  refine sk_ast20 d42 K dX9_give_67 e43 ?_
  have hR44 : d42 = dd := Option.some.inj hf
  exact sk_vret K dX9_give_68 rfl rfl rfl hR44
noncomputable def fX9_keepsStub_J94 (S : sk_S) (v1 : Nat) (v2 : Int32) (v3 : Int32) (d4 : sk_D) : Option (Bool × sk_D) :=
  (sk_gR S v1 8 1).bind fun v5 => if v3 = 0 then ((sk_sI S d4 v5 22 v2 (vp_nar .byte ((1 : Int32).toInt8.toInt32))).bind fun d8 => (sk_gR S v1 8 1).bind fun v10 => (sk_lI S d8 v10 22 v2).bind fun v12 => if v12 = (2 : Int32) then (some (true, d8)) else (some (false, d8))) else ((sk_sI S d4 v5 22 v2 (vp_nar .byte ((2 : Int32).toInt8.toInt32))).bind fun d17 => (sk_gR S v1 8 1).bind fun v19 => (sk_lI S d17 v19 22 v2).bind fun v21 => if v21 = (2 : Int32) then (some (true, d17)) else (some (false, d17)))
noncomputable def fX9_keepsStub_J93 (S : sk_S) (v26 : Nat) (v27 : Int32) (d28 : sk_D) : Option (Bool × sk_D) :=
  fX9_keepsStub_J94 S v26 v27 (0 : Int32) d28
noncomputable def fX9_keepsStub_J89 (S : sk_S) (v29 : Nat) (v30 : Int32) (d31 : sk_D) : Option (Bool × sk_D) :=
  fX9_keepsStub_J94 S v29 v30 (1 : Int32) d31
noncomputable def fX9_keepsStub (S : sk_S) (d : sk_D) (p0 : Nat) (p1 : Int32) (p2 : Int32) : Option (Bool × sk_D) :=
  if ((p1 * (256 : Int32)) + p2) < 0 then (some (false, d)) else ((sk_gR S p0 8 1).bind fun v34 => (sk_al S v34 22).bind fun v36 => if ((p1 * (256 : Int32)) + p2) < v36 then ((sk_gR S p0 8 1).bind fun v39 => (sk_lI S d v39 22 ((p1 * (256 : Int32)) + p2)).bind fun v41 => if v41 = 0 then (if S.2.1 p0 = (8, 0) then ((fX9_give S d p0 p1 p2 (0 : Int32)).bind fun d53 => (sk_gR S p0 8 0).bind fun v55 => if S.2.1 v55 = (2, 0) then ((fX2_roomLeft S d53 v55 p2).bind fun v57 => (sk_gR S p0 8 0).bind fun v60 => (sk_gR S v60 2 5).bind fun v62 => (sk_lI S d53 v62 20 p1).bind fun v64 => if v57 < v64 then (fX9_keepsStub_J93 S p0 ((p1 * (256 : Int32)) + p2) d53) else ((sk_gR S p0 8 0).bind fun v67 => (sk_gR S v67 2 13).bind fun v69 => if S.2.1 v69 = (1, 0) then ((fX1_told S d53 v69).bind fun v71 => if v71 = true then ((sk_gR S p0 8 0).bind fun v75 => (sk_gR S v75 2 13).bind fun v77 => (sk_gR S p0 8 3).bind fun v79 => if S.2.1 v77 = (1, 0) then ((fX1_holds S d53 v77 v79).bind fun b85 => if b85.1 = true then (fX9_keepsStub_J89 S p0 ((p1 * (256 : Int32)) + p2) b85.2) else (fX9_keepsStub_J93 S p0 ((p1 * (256 : Int32)) + p2) b85.2)) else none) else (fX9_keepsStub_J89 S p0 ((p1 * (256 : Int32)) + p2) d53)) else none)) else none) else none) else ((sk_gR S p0 8 1).bind fun v44 => (sk_lI S d v44 22 ((p1 * (256 : Int32)) + p2)).bind fun v46 => if v46 = (2 : Int32) then (some (true, d)) else (some (false, d)))) else (some (false, d)))
set_option maxRecDepth 100000 in
set_option maxHeartbeats 4000000 in
theorem sX9_keepsStub (C : sk_C) (l : Launch) {S : sk_S} {d : sk_D} {p0 : Nat} {p1 : Int32} {p2 : Int32} {rr : Bool} {dd : sk_D} (hf : fX9_keepsStub S d p0 p1 p2 = some (rr, dd)) : sk_Met C l 3 yX9_keepsStub cX9_keepsStub 5 (some .boolean) [.ref p0, .int p1, .int p2] S d (some (.int (sk_b rr))) S dd := by
  refine sk_Met.of (by decide) (Nat.le_of_ble_eq_true rfl) (Nat.le_refl _) (Nat.le_refl _) (fun X K0 hX => ?_)
  have K : sk_Ok X C cX9_keepsStub 5 RX9 "keepsStub" (some .boolean) 3 l (some (.int (sk_b rr))) S dd := K0
  have R1 : X.2.2.2.2.2.2.2.2.2.2.2.1 ≤ S.1.1 ∧ X.2.2.2.2.2.2.2.2.2.2.2.2 ≤ S.1.2 := by rw [hX]; exact ⟨Nat.le_refl _, Nat.le_refl _⟩
  have R2 : S.1.1 ≤ S.1.1 ∧ S.1.2 ≤ S.1.2 := ⟨Nat.le_refl _, Nat.le_refl _⟩
  show sk_G X C 5 S d 0 [(0, .ref p0), (1, .int p1), (2, .int p2)] []
  unfold fX9_keepsStub at hf
  have j94_0 : ∀ (v1 : Nat) (v2 : Int32) (v3 : Int32) (d4 : sk_D), fX9_keepsStub_J94 S v1 v2 v3 d4 = some (rr, dd) → sk_G X C 5 S d4 94 [(0, .ref v1), (3, .int v2)] [.int v3] := by
    intro v1 v2 v3 d4 hf
    unfold fX9_keepsStub_J94 at hf
    refine sk_istore [(4, .int v3), (0, .ref v1), (3, .int v2)] K dX9_keepsStub_94 (by decide) rfl ?_
    refine sk_aload_n K dX9_keepsStub_96 rfl 1 rfl ?_
    obtain ⟨v5, e6, hf⟩ := sk_ob hf
    refine sk_getR K dX9_keepsStub_97 fl_X9_18 rfl e6 ?_
    refine sk_iload_n K dX9_keepsStub_100 rfl 2 rfl ?_
    refine sk_iload K dX9_keepsStub_101 0 rfl ?_
    refine sk_if_eq 110 K dX9_keepsStub_103 (by decide) (fun h7 => ?_) (fun h7 => ?_)
    · rw [if_pos h7] at hf
      refine sk_iconst (1 : Int32) K dX9_keepsStub_110 (by decide) ?_
      refine sk_i2b K dX9_keepsStub_111 ?_
      obtain ⟨d8, e9, hf⟩ := sk_ob hf
      refine sk_ast22 d8 K dX9_keepsStub_112 e9 ?_
      refine sk_aload_n K dX9_keepsStub_113 rfl 1 rfl ?_
      obtain ⟨v10, e11, hf⟩ := sk_ob hf
      refine sk_getR K dX9_keepsStub_114 fl_X9_18 rfl e11 ?_
      refine sk_iload_n K dX9_keepsStub_117 rfl 2 rfl ?_
      obtain ⟨v12, e13, hf⟩ := sk_ob hf
      refine sk_ald22 K dX9_keepsStub_118 e13 ?_
      refine sk_iconst (2 : Int32) K dX9_keepsStub_119 (by decide) ?_
      refine sk_icmp_ne 127 K dX9_keepsStub_120 (by decide) (fun h14 => ?_) (fun h14 => ?_)
      · rw [if_neg h14] at hf
        refine sk_iconst (0 : Int32) K dX9_keepsStub_127 (by decide) ?_
        have hR15 : (false, d8) = (rr, dd) := Option.some.inj hf
        exact sk_zret (x := false) K dX9_keepsStub_128 rfl rfl (congrArg (fun z => z.1) hR15) rfl (congrArg (fun z => z.2) hR15)
      · rw [if_pos h14] at hf
        refine sk_iconst (1 : Int32) K dX9_keepsStub_123 (by decide) ?_
        refine sk_goto 128 K dX9_keepsStub_124 (by decide) ?_
        have hR16 : (true, d8) = (rr, dd) := Option.some.inj hf
        exact sk_zret (x := true) K dX9_keepsStub_128 rfl rfl (congrArg (fun z => z.1) hR16) rfl (congrArg (fun z => z.2) hR16)
    · rw [if_neg h7] at hf
      refine sk_iconst (2 : Int32) K dX9_keepsStub_106 (by decide) ?_
      refine sk_goto 111 K dX9_keepsStub_107 (by decide) ?_
      refine sk_i2b K dX9_keepsStub_111 ?_
      obtain ⟨d17, e18, hf⟩ := sk_ob hf
      refine sk_ast22 d17 K dX9_keepsStub_112 e18 ?_
      refine sk_aload_n K dX9_keepsStub_113 rfl 1 rfl ?_
      obtain ⟨v19, e20, hf⟩ := sk_ob hf
      refine sk_getR K dX9_keepsStub_114 fl_X9_18 rfl e20 ?_
      refine sk_iload_n K dX9_keepsStub_117 rfl 2 rfl ?_
      obtain ⟨v21, e22, hf⟩ := sk_ob hf
      refine sk_ald22 K dX9_keepsStub_118 e22 ?_
      refine sk_iconst (2 : Int32) K dX9_keepsStub_119 (by decide) ?_
      refine sk_icmp_ne 127 K dX9_keepsStub_120 (by decide) (fun h23 => ?_) (fun h23 => ?_)
      · rw [if_neg h23] at hf
        refine sk_iconst (0 : Int32) K dX9_keepsStub_127 (by decide) ?_
        have hR24 : (false, d17) = (rr, dd) := Option.some.inj hf
        exact sk_zret (x := false) K dX9_keepsStub_128 rfl rfl (congrArg (fun z => z.1) hR24) rfl (congrArg (fun z => z.2) hR24)
      · rw [if_pos h23] at hf
        refine sk_iconst (1 : Int32) K dX9_keepsStub_123 (by decide) ?_
        refine sk_goto 128 K dX9_keepsStub_124 (by decide) ?_
        have hR25 : (true, d17) = (rr, dd) := Option.some.inj hf
        exact sk_zret (x := true) K dX9_keepsStub_128 rfl rfl (congrArg (fun z => z.1) hR25) rfl (congrArg (fun z => z.2) hR25)
  have j93_0 : ∀ (v26 : Nat) (v27 : Int32) (d28 : sk_D), fX9_keepsStub_J93 S v26 v27 d28 = some (rr, dd) → sk_G X C 5 S d28 93 [(0, .ref v26), (3, .int v27)] [] := by
    intro v26 v27 d28 hf
    unfold fX9_keepsStub_J93 at hf
    refine sk_iconst (0 : Int32) K dX9_keepsStub_93 (by decide) ?_
    refine sk_sub [(0, .ref v26), (3, .int v27)] [0, 1] rfl ?_
    have h9 := j94_0 _ _ _ _ hf
    exact h9
  have j89_0 : ∀ (v29 : Nat) (v30 : Int32) (d31 : sk_D), fX9_keepsStub_J89 S v29 v30 d31 = some (rr, dd) → sk_G X C 5 S d31 89 [(0, .ref v29), (3, .int v30)] [] := by
    intro v29 v30 d31 hf
    unfold fX9_keepsStub_J89 at hf
    refine sk_iconst (1 : Int32) K dX9_keepsStub_89 (by decide) ?_
    refine sk_goto 94 K dX9_keepsStub_90 (by decide) ?_
    refine sk_sub [(0, .ref v29), (3, .int v30)] [0, 1] rfl ?_
    have h9 := j94_0 _ _ _ _ hf
    exact h9
  refine sk_iload_n K dX9_keepsStub_0 rfl 1 rfl ?_
  refine sk_sipush (256 : Int32) K dX9_keepsStub_1 (by decide) ?_
  refine sk_imul K dX9_keepsStub_4 ?_
  refine sk_iload_n K dX9_keepsStub_5 rfl 2 rfl ?_
  refine sk_iadd K dX9_keepsStub_6 ?_
  refine sk_istore_n [(3, .int ((p1 * (256 : Int32)) + p2)), (0, .ref p0), (1, .int p1), (2, .int p2)] K dX9_keepsStub_7 rfl (by decide) rfl ?_
  refine sk_iload_n K dX9_keepsStub_8 rfl 0 rfl ?_
  refine sk_if_lt 21 K dX9_keepsStub_9 (by decide) (fun h32 => ?_) (fun h32 => ?_)
  · rw [if_pos h32] at hf
    refine sk_iconst (0 : Int32) K dX9_keepsStub_21 (by decide) ?_
    have hR33 : (false, d) = (rr, dd) := Option.some.inj hf
    exact sk_zret (x := false) K dX9_keepsStub_22 rfl rfl (congrArg (fun z => z.1) hR33) rfl (congrArg (fun z => z.2) hR33)
  · rw [if_neg h32] at hf
    refine sk_iload_n K dX9_keepsStub_12 rfl 0 rfl ?_
    refine sk_aload_n K dX9_keepsStub_13 rfl 1 rfl ?_
    obtain ⟨v34, e35, hf⟩ := sk_ob hf
    refine sk_getR K dX9_keepsStub_14 fl_X9_18 rfl e35 ?_
    obtain ⟨v36, e37, hf⟩ := sk_ob hf
    refine sk_al22 K dX9_keepsStub_17 e37 ?_
    refine sk_icmp_lt 23 K dX9_keepsStub_18 (by decide) (fun h38 => ?_) (fun h38 => ?_)
    · rw [if_pos h38] at hf
      refine sk_aload_n K dX9_keepsStub_23 rfl 1 rfl ?_
      obtain ⟨v39, e40, hf⟩ := sk_ob hf
      refine sk_getR K dX9_keepsStub_24 fl_X9_18 rfl e40 ?_
      refine sk_iload_n K dX9_keepsStub_27 rfl 0 rfl ?_
      obtain ⟨v41, e42, hf⟩ := sk_ob hf
      refine sk_ald22 K dX9_keepsStub_28 e42 ?_
      refine sk_if_ne 113 K dX9_keepsStub_29 (by decide) (fun h43 => ?_) (fun h43 => ?_)
      · rw [if_neg h43] at hf
        refine sk_aload_n K dX9_keepsStub_113 rfl 1 rfl ?_
        obtain ⟨v44, e45, hf⟩ := sk_ob hf
        refine sk_getR K dX9_keepsStub_114 fl_X9_18 rfl e45 ?_
        refine sk_iload_n K dX9_keepsStub_117 rfl 0 rfl ?_
        obtain ⟨v46, e47, hf⟩ := sk_ob hf
        refine sk_ald22 K dX9_keepsStub_118 e47 ?_
        refine sk_iconst (2 : Int32) K dX9_keepsStub_119 (by decide) ?_
        refine sk_icmp_ne 127 K dX9_keepsStub_120 (by decide) (fun h48 => ?_) (fun h48 => ?_)
        · rw [if_neg h48] at hf
          refine sk_iconst (0 : Int32) K dX9_keepsStub_127 (by decide) ?_
          have hR49 : (false, d) = (rr, dd) := Option.some.inj hf
          exact sk_zret (x := false) K dX9_keepsStub_128 rfl rfl (congrArg (fun z => z.1) hR49) rfl (congrArg (fun z => z.2) hR49)
        · rw [if_pos h48] at hf
          refine sk_iconst (1 : Int32) K dX9_keepsStub_123 (by decide) ?_
          refine sk_goto 128 K dX9_keepsStub_124 (by decide) ?_
          have hR50 : (true, d) = (rr, dd) := Option.some.inj hf
          exact sk_zret (x := true) K dX9_keepsStub_128 rfl rfl (congrArg (fun z => z.1) hR50) rfl (congrArg (fun z => z.2) hR50)
      · rw [if_pos h43] at hf
        refine sk_aload_n K dX9_keepsStub_32 rfl 1 rfl ?_
        refine sk_iload_n K dX9_keepsStub_33 rfl 2 rfl ?_
        refine sk_iload_n K dX9_keepsStub_34 rfl 3 rfl ?_
        refine sk_iconst (0 : Int32) K dX9_keepsStub_35 (by decide) ?_
        obtain ⟨h54, hf⟩ := sk_ib hf
        obtain ⟨d53, e52, hf⟩ := sk_ob hf
        refine sk_callV (As := [.int p1, .int p2, .int (0 : Int32)]) (st := []) K dX9_keepsStub_36 cl_X9_116 h54 (sX9_give C l e52) (by decide) rfl rfl (Nat.le_of_ble_eq_true rfl) R1 R2 ?_
        refine sk_aload_n K dX9_keepsStub_39 rfl 1 rfl ?_
        obtain ⟨v55, e56, hf⟩ := sk_ob hf
        refine sk_getR K dX9_keepsStub_40 fl_X9_12 rfl e56 ?_
        refine sk_iload_n K dX9_keepsStub_43 rfl 3 rfl ?_
        obtain ⟨h59, hf⟩ := sk_ib hf
        obtain ⟨v57, e58, hf⟩ := sk_ob hf
        refine sk_callV (As := [.int p2]) (st := []) K dX9_keepsStub_44 cl_X9_83 h59 (sX2_roomLeft C l e58) (by decide) rfl rfl (Nat.le_of_ble_eq_true rfl) R1 R2 ?_
        refine sk_aload_n K dX9_keepsStub_47 rfl 1 rfl ?_
        obtain ⟨v60, e61, hf⟩ := sk_ob hf
        refine sk_getR K dX9_keepsStub_48 fl_X9_12 rfl e61 ?_
        obtain ⟨v62, e63, hf⟩ := sk_ob hf
        refine sk_getR K dX9_keepsStub_51 fl_X9_86 rfl e63 ?_
        refine sk_iload_n K dX9_keepsStub_54 rfl 2 rfl ?_
        obtain ⟨v64, e65, hf⟩ := sk_ob hf
        refine sk_ald20 K dX9_keepsStub_55 e65 ?_
        refine sk_icmp_lt 93 K dX9_keepsStub_56 (by decide) (fun h66 => ?_) (fun h66 => ?_)
        · rw [if_pos h66] at hf
          refine sk_sub [(0, .ref p0), (3, .int ((p1 * (256 : Int32)) + p2))] [1, 0] rfl ?_
          have h9 := j93_0 _ _ _ hf
          exact h9
        · rw [if_neg h66] at hf
          refine sk_aload_n K dX9_keepsStub_59 rfl 1 rfl ?_
          obtain ⟨v67, e68, hf⟩ := sk_ob hf
          refine sk_getR K dX9_keepsStub_60 fl_X9_12 rfl e68 ?_
          obtain ⟨v69, e70, hf⟩ := sk_ob hf
          refine sk_getR K dX9_keepsStub_63 fl_X9_120 rfl e70 ?_
          obtain ⟨h73, hf⟩ := sk_ib hf
          obtain ⟨v71, e72, hf⟩ := sk_ob hf
          refine sk_callV (As := []) (st := []) K dX9_keepsStub_66 cl_X9_124 h73 (sX1_told C l e72) (by decide) rfl rfl (Nat.le_of_ble_eq_true rfl) R1 R2 ?_
          refine sk_ifeqB 89 K dX9_keepsStub_69 (by decide) (fun h74 => ?_) (fun h74 => ?_)
          · rw [if_neg h74] at hf
            refine sk_sub [(0, .ref p0), (3, .int ((p1 * (256 : Int32)) + p2))] [1, 0] rfl ?_
            have h9 := j89_0 _ _ _ hf
            exact h9
          · rw [if_pos h74] at hf
            refine sk_aload_n K dX9_keepsStub_72 rfl 1 rfl ?_
            obtain ⟨v75, e76, hf⟩ := sk_ob hf
            refine sk_getR K dX9_keepsStub_73 fl_X9_12 rfl e76 ?_
            obtain ⟨v77, e78, hf⟩ := sk_ob hf
            refine sk_getR K dX9_keepsStub_76 fl_X9_120 rfl e78 ?_
            refine sk_aload_n K dX9_keepsStub_79 rfl 1 rfl ?_
            obtain ⟨v79, e80, hf⟩ := sk_ob hf
            refine sk_getR K dX9_keepsStub_80 fl_X9_28 rfl e80 ?_
            obtain ⟨h84, hf⟩ := sk_ib hf
            obtain ⟨⟨v81, d83⟩, e82, hf⟩ := sk_ob hf
            try dsimp only at hf
            refine sk_callV (As := [.ref v79]) (st := []) K dX9_keepsStub_83 cl_X9_128 h84 (sX1_holds C l e82) (by decide) rfl rfl (Nat.le_of_ble_eq_true rfl) R1 R2 ?_
            refine sk_ifeqB 93 K dX9_keepsStub_86 (by decide) (fun h86 => ?_) (fun h86 => ?_)
            · rw [if_neg h86] at hf
              refine sk_sub [(0, .ref p0), (3, .int ((p1 * (256 : Int32)) + p2))] [1, 0] rfl ?_
              have h9 := j93_0 _ _ _ hf
              exact h9
            · rw [if_pos h86] at hf
              refine sk_sub [(0, .ref p0), (3, .int ((p1 * (256 : Int32)) + p2))] [1, 0] rfl ?_
              have h9 := j89_0 _ _ _ hf
              exact h9
    · rw [if_neg h38] at hf
      refine sk_iconst (0 : Int32) K dX9_keepsStub_21 (by decide) ?_
      have hR87 : (false, d) = (rr, dd) := Option.some.inj hf
      exact sk_zret (x := false) K dX9_keepsStub_22 rfl rfl (congrArg (fun z => z.1) hR87) rfl (congrArg (fun z => z.2) hR87)
noncomputable def fX9_tryDo (S : sk_S) (d : sk_D) (p0 : Nat) (p1 : Int32) (p2 : Int32) : Option (Int32 × sk_D) :=
  (sk_gR S p0 8 0).bind fun v1 => if S.2.1 v1 = (2, 0) then ((fX2_has S d v1 p2).bind fun v3 => if v3 = true then ((fX10_doneIn S d p1).bind fun v7 => if ((v7 >>> (p2 &&& 31)) &&& (1 : Int32)) = (1 : Int32) then (some ((-2 : Int32), d)) else ((sk_gR S p0 8 0).bind fun v10 => (sk_gR S v10 2 10).bind fun v12 => (sk_lI S d v12 20 p2).bind fun v14 => if (v14 &&& (v7 ^^^ (-1 : Int32))) = 0 then ((fX10_liningIn S d ((p1 &&& (((256 : Int32) <<< (p2 &&& 31)) ^^^ (-1 : Int32))) ||| ((1 : Int32) <<< (p2 &&& 31)))).bind fun v17 => if S.2.1 p0 = (8, 0) then ((fX9_keepsStub S d p0 p2 v17).bind fun b23 => if b23.1 = true then (some (((p1 &&& (((256 : Int32) <<< (p2 &&& 31)) ^^^ (-1 : Int32))) ||| ((1 : Int32) <<< (p2 &&& 31))) ||| ((256 : Int32) <<< (p2 &&& 31)), b23.2)) else (some ((p1 &&& (((256 : Int32) <<< (p2 &&& 31)) ^^^ (-1 : Int32))) ||| ((1 : Int32) <<< (p2 &&& 31)), b23.2))) else none) else (some ((-3 : Int32), d)))) else (some ((-1 : Int32), d))) else none
set_option maxRecDepth 100000 in
set_option maxHeartbeats 4000000 in
theorem sX9_tryDo (C : sk_C) (l : Launch) {S : sk_S} {d : sk_D} {p0 : Nat} {p1 : Int32} {p2 : Int32} {rr : Int32} {dd : sk_D} (hf : fX9_tryDo S d p0 p1 p2 = some (rr, dd)) : sk_Met C l 4 yX9_tryDo cX9_tryDo 5 (some .int) [.ref p0, .int p1, .int p2] S d (some (.int rr)) S dd := by
  refine sk_Met.of (by decide) (Nat.le_of_ble_eq_true rfl) (Nat.le_refl _) (Nat.le_refl _) (fun X K0 hX => ?_)
  have K : sk_Ok X C cX9_tryDo 5 RX9 "tryDo" (some .int) 4 l (some (.int rr)) S dd := K0
  have R1 : X.2.2.2.2.2.2.2.2.2.2.2.1 ≤ S.1.1 ∧ X.2.2.2.2.2.2.2.2.2.2.2.2 ≤ S.1.2 := by rw [hX]; exact ⟨Nat.le_refl _, Nat.le_refl _⟩
  have R2 : S.1.1 ≤ S.1.1 ∧ S.1.2 ≤ S.1.2 := ⟨Nat.le_refl _, Nat.le_refl _⟩
  show sk_G X C 5 S d 0 [(0, .ref p0), (1, .int p1), (2, .int p2)] []
  unfold fX9_tryDo at hf
  refine sk_aload_n K dX9_tryDo_0 rfl 0 rfl ?_
  obtain ⟨v1, e2, hf⟩ := sk_ob hf
  refine sk_getR K dX9_tryDo_1 fl_X9_12 rfl e2 ?_
  refine sk_iload_n K dX9_tryDo_4 rfl 2 rfl ?_
  obtain ⟨h5, hf⟩ := sk_ib hf
  obtain ⟨v3, e4, hf⟩ := sk_ob hf
  refine sk_callV (As := [.int p2]) (st := []) K dX9_tryDo_5 cl_X9_63 h5 (sX2_has C l e4) (by decide) rfl rfl (Nat.le_of_ble_eq_true rfl) R1 R2 ?_
  refine sk_ifneB 13 K dX9_tryDo_8 (by decide) (fun h6 => ?_) (fun h6 => ?_)
  · rw [if_pos h6] at hf
    refine sk_iload_n K dX9_tryDo_13 rfl 1 rfl ?_
    obtain ⟨v7, e8, hf⟩ := sk_ob hf
    refine sk_callN (As := [.int p1]) (st := []) K dX9_tryDo_14 cl_X9_67 (sX10_doneIn C l e8) (by decide) rfl rfl (Nat.le_of_ble_eq_true rfl) R1 R2 ?_
    refine sk_istore_n [(3, .int v7), (0, .ref p0), (1, .int p1), (2, .int p2)] K dX9_tryDo_17 rfl (by decide) rfl ?_
    refine sk_iload_n K dX9_tryDo_18 rfl 0 rfl ?_
    refine sk_iload_n K dX9_tryDo_19 rfl 3 rfl ?_
    refine sk_ishr K dX9_tryDo_20 ?_
    refine sk_iconst (1 : Int32) K dX9_tryDo_21 (by decide) ?_
    refine sk_iand K dX9_tryDo_22 ?_
    refine sk_iconst (1 : Int32) K dX9_tryDo_23 (by decide) ?_
    refine sk_icmp_ne 30 K dX9_tryDo_24 (by decide) (fun h9 => ?_) (fun h9 => ?_)
    · rw [if_neg h9] at hf
      refine sk_aload_n K dX9_tryDo_30 rfl 1 rfl ?_
      obtain ⟨v10, e11, hf⟩ := sk_ob hf
      refine sk_getR K dX9_tryDo_31 fl_X9_12 rfl e11 ?_
      obtain ⟨v12, e13, hf⟩ := sk_ob hf
      refine sk_getR K dX9_tryDo_34 fl_X9_70 rfl e13 ?_
      refine sk_iload_n K dX9_tryDo_37 rfl 3 rfl ?_
      obtain ⟨v14, e15, hf⟩ := sk_ob hf
      refine sk_ald20 K dX9_tryDo_38 e15 ?_
      refine sk_iload_n K dX9_tryDo_39 rfl 0 rfl ?_
      refine sk_iconst (-1 : Int32) K dX9_tryDo_40 (by decide) ?_
      refine sk_ixor K dX9_tryDo_41 ?_
      refine sk_iand K dX9_tryDo_42 ?_
      refine sk_if_eq 49 K dX9_tryDo_43 (by decide) (fun h16 => ?_) (fun h16 => ?_)
      · rw [if_pos h16] at hf
        refine sk_iload_n K dX9_tryDo_49 rfl 2 rfl ?_
        refine sk_sipush (256 : Int32) K dX9_tryDo_50 (by decide) ?_
        refine sk_iload_n K dX9_tryDo_53 rfl 3 rfl ?_
        refine sk_ishl K dX9_tryDo_54 ?_
        refine sk_iconst (-1 : Int32) K dX9_tryDo_55 (by decide) ?_
        refine sk_ixor K dX9_tryDo_56 ?_
        refine sk_iand K dX9_tryDo_57 ?_
        refine sk_iconst (1 : Int32) K dX9_tryDo_58 (by decide) ?_
        refine sk_iload_n K dX9_tryDo_59 rfl 3 rfl ?_
        refine sk_ishl K dX9_tryDo_60 ?_
        refine sk_ior K dX9_tryDo_61 ?_
        refine sk_istore [(4, .int ((p1 &&& (((256 : Int32) <<< (p2 &&& 31)) ^^^ (-1 : Int32))) ||| ((1 : Int32) <<< (p2 &&& 31)))), (3, .int v7), (0, .ref p0), (1, .int p1), (2, .int p2)] K dX9_tryDo_62 (by decide) rfl ?_
        refine sk_aload_n K dX9_tryDo_64 rfl 2 rfl ?_
        refine sk_iload_n K dX9_tryDo_65 rfl 4 rfl ?_
        refine sk_iload K dX9_tryDo_66 0 rfl ?_
        obtain ⟨v17, e18, hf⟩ := sk_ob hf
        refine sk_callN (As := [.int ((p1 &&& (((256 : Int32) <<< (p2 &&& 31)) ^^^ (-1 : Int32))) ||| ((1 : Int32) <<< (p2 &&& 31)))]) (st := [.int p2, .ref p0]) K dX9_tryDo_68 cl_X9_73 (sX10_liningIn C l e18) (by decide) rfl rfl (Nat.le_of_ble_eq_true rfl) R1 R2 ?_
        obtain ⟨h22, hf⟩ := sk_ib hf
        obtain ⟨⟨v19, d21⟩, e20, hf⟩ := sk_ob hf
        try dsimp only at hf
        refine sk_callV (As := [.int p2, .int v17]) (st := []) K dX9_tryDo_71 cl_X9_76 h22 (sX9_keepsStub C l e20) (by decide) rfl rfl (Nat.le_of_ble_eq_true rfl) R1 R2 ?_
        refine sk_ifeqB 88 K dX9_tryDo_74 (by decide) (fun h24 => ?_) (fun h24 => ?_)
        · rw [if_neg h24] at hf
          refine sk_iload K dX9_tryDo_88 0 rfl ?_
          have hR25 : ((p1 &&& (((256 : Int32) <<< (p2 &&& 31)) ^^^ (-1 : Int32))) ||| ((1 : Int32) <<< (p2 &&& 31)), d21) = (rr, dd) := Option.some.inj hf
          exact sk_iret K dX9_tryDo_90 rfl rfl (congrArg (fun z => z.1) hR25) rfl (congrArg (fun z => z.2) hR25)
        · rw [if_pos h24] at hf
          refine sk_iload K dX9_tryDo_77 0 rfl ?_
          refine sk_sipush (256 : Int32) K dX9_tryDo_79 (by decide) ?_
          refine sk_iload_n K dX9_tryDo_82 rfl 4 rfl ?_
          refine sk_ishl K dX9_tryDo_83 ?_
          refine sk_ior K dX9_tryDo_84 ?_
          refine sk_goto 90 K dX9_tryDo_85 (by decide) ?_
          have hR26 : (((p1 &&& (((256 : Int32) <<< (p2 &&& 31)) ^^^ (-1 : Int32))) ||| ((1 : Int32) <<< (p2 &&& 31))) ||| ((256 : Int32) <<< (p2 &&& 31)), d21) = (rr, dd) := Option.some.inj hf
          exact sk_iret K dX9_tryDo_90 rfl rfl (congrArg (fun z => z.1) hR26) rfl (congrArg (fun z => z.2) hR26)
      · rw [if_neg h16] at hf
        refine sk_bipush (-3 : Int32) K dX9_tryDo_46 (by decide) ?_
        have hR27 : ((-3 : Int32), d) = (rr, dd) := Option.some.inj hf
        exact sk_iret K dX9_tryDo_48 rfl rfl (congrArg (fun z => z.1) hR27) rfl (congrArg (fun z => z.2) hR27)
    · rw [if_pos h9] at hf
      refine sk_bipush (-2 : Int32) K dX9_tryDo_27 (by decide) ?_
      have hR28 : ((-2 : Int32), d) = (rr, dd) := Option.some.inj hf
      exact sk_iret K dX9_tryDo_29 rfl rfl (congrArg (fun z => z.1) hR28) rfl (congrArg (fun z => z.2) hR28)
  · rw [if_neg h6] at hf
    refine sk_iconst (-1 : Int32) K dX9_tryDo_11 (by decide) ?_
    have hR29 : ((-1 : Int32), d) = (rr, dd) := Option.some.inj hf
    exact sk_iret K dX9_tryDo_12 rfl rfl (congrArg (fun z => z.1) hR29) rfl (congrArg (fun z => z.2) hR29)
noncomputable def fX9_tryDrop (S : sk_S) (d : sk_D) (p0 : Nat) (p1 : Int32) (p2 : Int32) : Option (Int32) :=
  (sk_gR S p0 8 0).bind fun v1 => if S.2.1 v1 = (2, 0) then ((fX2_has S d v1 p2).bind fun v3 => if v3 = true then ((fX10_liningIn S d p1).bind fun v7 => if ((v7 >>> (p2 &&& 31)) &&& (1 : Int32)) = 0 then (some (-2 : Int32)) else (some (p1 &&& (((256 : Int32) <<< (p2 &&& 31)) ^^^ (-1 : Int32))))) else (some (-1 : Int32))) else none
set_option maxRecDepth 100000 in
set_option maxHeartbeats 4000000 in
theorem sX9_tryDrop (C : sk_C) (l : Launch) {S : sk_S} {d : sk_D} {p0 : Nat} {p1 : Int32} {p2 : Int32} {rr : Int32} (hf : fX9_tryDrop S d p0 p1 p2 = some rr) : sk_Met C l 1 yX9_tryDrop cX9_tryDrop 3 (some .int) [.ref p0, .int p1, .int p2] S d (some (.int rr)) S d := by
  refine sk_Met.of (by decide) (Nat.le_of_ble_eq_true rfl) (Nat.le_refl _) (Nat.le_refl _) (fun X K0 hX => ?_)
  have K : sk_Ok X C cX9_tryDrop 3 RX9 "tryDrop" (some .int) 1 l (some (.int rr)) S d := K0
  have R1 : X.2.2.2.2.2.2.2.2.2.2.2.1 ≤ S.1.1 ∧ X.2.2.2.2.2.2.2.2.2.2.2.2 ≤ S.1.2 := by rw [hX]; exact ⟨Nat.le_refl _, Nat.le_refl _⟩
  have R2 : S.1.1 ≤ S.1.1 ∧ S.1.2 ≤ S.1.2 := ⟨Nat.le_refl _, Nat.le_refl _⟩
  show sk_G X C 3 S d 0 [(0, .ref p0), (1, .int p1), (2, .int p2)] []
  unfold fX9_tryDrop at hf
  refine sk_aload_n K dX9_tryDrop_0 rfl 0 rfl ?_
  obtain ⟨v1, e2, hf⟩ := sk_ob hf
  refine sk_getR K dX9_tryDrop_1 fl_X9_12 rfl e2 ?_
  refine sk_iload_n K dX9_tryDrop_4 rfl 2 rfl ?_
  obtain ⟨h5, hf⟩ := sk_ib hf
  obtain ⟨v3, e4, hf⟩ := sk_ob hf
  refine sk_callV (As := [.int p2]) (st := []) K dX9_tryDrop_5 cl_X9_63 h5 (sX2_has C l e4) (by decide) rfl rfl (Nat.le_of_ble_eq_true rfl) R1 R2 ?_
  refine sk_ifneB 13 K dX9_tryDrop_8 (by decide) (fun h6 => ?_) (fun h6 => ?_)
  · rw [if_pos h6] at hf
    refine sk_iload_n K dX9_tryDrop_13 rfl 1 rfl ?_
    obtain ⟨v7, e8, hf⟩ := sk_ob hf
    refine sk_callN (As := [.int p1]) (st := []) K dX9_tryDrop_14 cl_X9_73 (sX10_liningIn C l e8) (by decide) rfl rfl (Nat.le_of_ble_eq_true rfl) R1 R2 ?_
    refine sk_iload_n K dX9_tryDrop_17 rfl 2 rfl ?_
    refine sk_ishr K dX9_tryDrop_18 ?_
    refine sk_iconst (1 : Int32) K dX9_tryDrop_19 (by decide) ?_
    refine sk_iand K dX9_tryDrop_20 ?_
    refine sk_if_ne 29 K dX9_tryDrop_21 (by decide) (fun h9 => ?_) (fun h9 => ?_)
    · rw [if_neg h9] at hf
      refine sk_iload_n K dX9_tryDrop_29 rfl 1 rfl ?_
      refine sk_sipush (256 : Int32) K dX9_tryDrop_30 (by decide) ?_
      refine sk_iload_n K dX9_tryDrop_33 rfl 2 rfl ?_
      refine sk_ishl K dX9_tryDrop_34 ?_
      refine sk_iconst (-1 : Int32) K dX9_tryDrop_35 (by decide) ?_
      refine sk_ixor K dX9_tryDrop_36 ?_
      refine sk_iand K dX9_tryDrop_37 ?_
      have hR10 : (p1 &&& (((256 : Int32) <<< (p2 &&& 31)) ^^^ (-1 : Int32))) = rr := Option.some.inj hf
      exact sk_iret K dX9_tryDrop_38 rfl rfl hR10 rfl rfl
    · rw [if_pos h9] at hf
      refine sk_bipush (-2 : Int32) K dX9_tryDrop_24 (by decide) ?_
      refine sk_goto 38 K dX9_tryDrop_26 (by decide) ?_
      have hR11 : (-2 : Int32) = rr := Option.some.inj hf
      exact sk_iret K dX9_tryDrop_38 rfl rfl hR11 rfl rfl
  · rw [if_neg h6] at hf
    refine sk_iconst (-1 : Int32) K dX9_tryDrop_11 (by decide) ?_
    have hR12 : (-1 : Int32) = rr := Option.some.inj hf
    exact sk_iret K dX9_tryDrop_12 rfl rfl hR12 rfl rfl
noncomputable def fX7_moved (S : sk_S) (d : sk_D) (p0 : Nat) (p1 : Int32) (p2 : Int32) : Option (Int32 × sk_D) :=
  if p2 = (16 : Int32) then (some (p1, d)) else (if (8 : Int32) ≤ p2 then (if S.2.1 p0 = (8, 0) then ((fX9_tryDrop S d p0 p1 (p2 - (8 : Int32))).bind fun v3 => some (v3, d)) else none) else (if S.2.1 p0 = (8, 0) then ((fX9_tryDo S d p0 p1 p2).bind fun b11 => some (b11.1, b11.2)) else none))
set_option maxRecDepth 100000 in
set_option maxHeartbeats 4000000 in
theorem sX7_moved (C : sk_C) (l : Launch) {S : sk_S} {d : sk_D} {p0 : Nat} {p1 : Int32} {p2 : Int32} {rr : Int32} {dd : sk_D} (hf : fX7_moved S d p0 p1 p2 = some (rr, dd)) : sk_Met C l 5 yX7_moved cX7_moved 3 (some .int) [.ref p0, .int p1, .int p2] S d (some (.int rr)) S dd := by
  refine sk_Met.of (by decide) (Nat.le_of_ble_eq_true rfl) (Nat.le_refl _) (Nat.le_refl _) (fun X K0 hX => ?_)
  have K : sk_Ok X C cX7_moved 3 RX7 "moved" (some .int) 5 l (some (.int rr)) S dd := K0
  have R1 : X.2.2.2.2.2.2.2.2.2.2.2.1 ≤ S.1.1 ∧ X.2.2.2.2.2.2.2.2.2.2.2.2 ≤ S.1.2 := by rw [hX]; exact ⟨Nat.le_refl _, Nat.le_refl _⟩
  have R2 : S.1.1 ≤ S.1.1 ∧ S.1.2 ≤ S.1.2 := ⟨Nat.le_refl _, Nat.le_refl _⟩
  show sk_G X C 3 S d 0 [(0, .ref p0), (1, .int p1), (2, .int p2)] []
  unfold fX7_moved at hf
  refine sk_iload_n K dX7_moved_0 rfl 2 rfl ?_
  refine sk_bipush (16 : Int32) K dX7_moved_1 (by decide) ?_
  refine sk_icmp_ne 8 K dX7_moved_3 (by decide) (fun h1 => ?_) (fun h1 => ?_)
  · rw [if_neg h1] at hf
    refine sk_iload_n K dX7_moved_8 rfl 2 rfl ?_
    refine sk_bipush (8 : Int32) K dX7_moved_9 (by decide) ?_
    refine sk_icmp_ge 23 K dX7_moved_11 (by decide) (fun h2 => ?_) (fun h2 => ?_)
    · rw [if_pos h2] at hf
      refine sk_aload_n K dX7_moved_23 rfl 0 rfl ?_
      refine sk_iload_n K dX7_moved_24 rfl 1 rfl ?_
      refine sk_iload_n K dX7_moved_25 rfl 2 rfl ?_
      refine sk_bipush (8 : Int32) K dX7_moved_26 (by decide) ?_
      refine sk_isub K dX7_moved_28 ?_
      obtain ⟨h5, hf⟩ := sk_ib hf
      obtain ⟨v3, e4, hf⟩ := sk_ob hf
      refine sk_callV (As := [.int p1, .int (p2 - (8 : Int32))]) (st := []) K dX7_moved_29 cl_X7_35 h5 (sX9_tryDrop C l e4) (by decide) rfl rfl (Nat.le_of_ble_eq_true rfl) R1 R2 ?_
      have hR6 : (v3, d) = (rr, dd) := Option.some.inj hf
      exact sk_iret K dX7_moved_32 rfl rfl (congrArg (fun z => z.1) hR6) rfl (congrArg (fun z => z.2) hR6)
    · rw [if_neg h2] at hf
      refine sk_aload_n K dX7_moved_14 rfl 0 rfl ?_
      refine sk_iload_n K dX7_moved_15 rfl 1 rfl ?_
      refine sk_iload_n K dX7_moved_16 rfl 2 rfl ?_
      obtain ⟨h10, hf⟩ := sk_ib hf
      obtain ⟨⟨v7, d9⟩, e8, hf⟩ := sk_ob hf
      try dsimp only at hf
      refine sk_callV (As := [.int p1, .int p2]) (st := []) K dX7_moved_17 cl_X7_29 h10 (sX9_tryDo C l e8) (by decide) rfl rfl (Nat.le_of_ble_eq_true rfl) R1 R2 ?_
      refine sk_goto 32 K dX7_moved_20 (by decide) ?_
      have hR12 : (v7, d9) = (rr, dd) := Option.some.inj hf
      exact sk_iret K dX7_moved_32 rfl rfl (congrArg (fun z => z.1) hR12) rfl (congrArg (fun z => z.2) hR12)
  · rw [if_pos h1] at hf
    refine sk_iload_n K dX7_moved_6 rfl 1 rfl ?_
    have hR13 : (p1, d) = (rr, dd) := Option.some.inj hf
    exact sk_iret K dX7_moved_7 rfl rfl (congrArg (fun z => z.1) hR13) rfl (congrArg (fun z => z.2) hR13)
noncomputable def fX10_moodOf_J17 (v1 : Int32) (v2 : Int32) (v3 : Int32) : Option (Int32) :=
  if ((v1 >>> (v2 &&& 31)) &&& (1 : Int32)) = (1 : Int32) then (if v3 = 0 then (some (2 : Int32)) else (some (1 : Int32))) else (if v3 = 0 then (some (0 : Int32)) else (some (3 : Int32)))
noncomputable def fX10_moodOf (S : sk_S) (d : sk_D) (p0 : Int32) (p1 : Int32) : Option (Int32) :=
  if ((p0 >>> ((p1 + (8 : Int32)) &&& 31)) &&& (1 : Int32)) = (1 : Int32) then (fX10_moodOf_J17 p0 p1 (1 : Int32)) else (fX10_moodOf_J17 p0 p1 (0 : Int32))
set_option maxRecDepth 100000 in
set_option maxHeartbeats 4000000 in
theorem sX10_moodOf (C : sk_C) (l : Launch) {S : sk_S} {d : sk_D} {p0 : Int32} {p1 : Int32} {rr : Int32} (hf : fX10_moodOf S d p0 p1 = some rr) : sk_Met C l 0 yX10_moodOf cX10_moodOf 3 (some .int) [.int p0, .int p1] S d (some (.int rr)) S d := by
  refine sk_Met.of (by decide) (Nat.le_of_ble_eq_true rfl) (Nat.le_refl _) (Nat.le_refl _) (fun X K0 hX => ?_)
  have K : sk_Ok X C cX10_moodOf 3 RX10 "moodOf" (some .int) 0 l (some (.int rr)) S d := K0
  have R1 : X.2.2.2.2.2.2.2.2.2.2.2.1 ≤ S.1.1 ∧ X.2.2.2.2.2.2.2.2.2.2.2.2 ≤ S.1.2 := by rw [hX]; exact ⟨Nat.le_refl _, Nat.le_refl _⟩
  have R2 : S.1.1 ≤ S.1.1 ∧ S.1.2 ≤ S.1.2 := ⟨Nat.le_refl _, Nat.le_refl _⟩
  show sk_G X C 3 S d 0 [(0, .int p0), (1, .int p1)] []
  unfold fX10_moodOf at hf
  have j17_0 : ∀ (v1 : Int32) (v2 : Int32) (v3 : Int32), fX10_moodOf_J17 v1 v2 v3 = some rr → sk_G X C 3 S d 17 [(0, .int v1), (1, .int v2)] [.int v3] := by
    intro v1 v2 v3 hf
    unfold fX10_moodOf_J17 at hf
    refine sk_istore_n [(2, .int v3), (0, .int v1), (1, .int v2)] K dX10_moodOf_17 rfl (by decide) rfl ?_
    refine sk_iload_n K dX10_moodOf_18 rfl 1 rfl ?_
    refine sk_iload_n K dX10_moodOf_19 rfl 2 rfl ?_
    refine sk_ishr K dX10_moodOf_20 ?_
    refine sk_iconst (1 : Int32) K dX10_moodOf_21 (by decide) ?_
    refine sk_iand K dX10_moodOf_22 ?_
    refine sk_iconst (1 : Int32) K dX10_moodOf_23 (by decide) ?_
    refine sk_icmp_ne 37 K dX10_moodOf_24 (by decide) (fun h4 => ?_) (fun h4 => ?_)
    · rw [if_neg h4] at hf
      refine sk_iload_n K dX10_moodOf_37 rfl 0 rfl ?_
      refine sk_if_eq 45 K dX10_moodOf_38 (by decide) (fun h5 => ?_) (fun h5 => ?_)
      · rw [if_pos h5] at hf
        refine sk_iconst (0 : Int32) K dX10_moodOf_45 (by decide) ?_
        have hR6 : (0 : Int32) = rr := Option.some.inj hf
        exact sk_iret K dX10_moodOf_46 rfl rfl hR6 rfl rfl
      · rw [if_neg h5] at hf
        refine sk_iconst (3 : Int32) K dX10_moodOf_41 (by decide) ?_
        refine sk_goto 46 K dX10_moodOf_42 (by decide) ?_
        have hR7 : (3 : Int32) = rr := Option.some.inj hf
        exact sk_iret K dX10_moodOf_46 rfl rfl hR7 rfl rfl
    · rw [if_pos h4] at hf
      refine sk_iload_n K dX10_moodOf_27 rfl 0 rfl ?_
      refine sk_if_eq 35 K dX10_moodOf_28 (by decide) (fun h8 => ?_) (fun h8 => ?_)
      · rw [if_pos h8] at hf
        refine sk_iconst (2 : Int32) K dX10_moodOf_35 (by decide) ?_
        have hR9 : (2 : Int32) = rr := Option.some.inj hf
        exact sk_iret K dX10_moodOf_36 rfl rfl hR9 rfl rfl
      · rw [if_neg h8] at hf
        refine sk_iconst (1 : Int32) K dX10_moodOf_31 (by decide) ?_
        refine sk_goto 36 K dX10_moodOf_32 (by decide) ?_
        have hR10 : (1 : Int32) = rr := Option.some.inj hf
        exact sk_iret K dX10_moodOf_36 rfl rfl hR10 rfl rfl
  refine sk_iload_n K dX10_moodOf_0 rfl 0 rfl ?_
  refine sk_iload_n K dX10_moodOf_1 rfl 1 rfl ?_
  refine sk_bipush (8 : Int32) K dX10_moodOf_2 (by decide) ?_
  refine sk_iadd K dX10_moodOf_4 ?_
  refine sk_ishr K dX10_moodOf_5 ?_
  refine sk_iconst (1 : Int32) K dX10_moodOf_6 (by decide) ?_
  refine sk_iand K dX10_moodOf_7 ?_
  refine sk_iconst (1 : Int32) K dX10_moodOf_8 (by decide) ?_
  refine sk_icmp_ne 16 K dX10_moodOf_9 (by decide) (fun h11 => ?_) (fun h11 => ?_)
  · rw [if_neg h11] at hf
    refine sk_iconst (0 : Int32) K dX10_moodOf_16 (by decide) ?_
    refine sk_sub [(0, .int p0), (1, .int p1)] [0, 1] rfl ?_
    have h9 := j17_0 _ _ _ hf
    exact h9
  · rw [if_pos h11] at hf
    refine sk_iconst (1 : Int32) K dX10_moodOf_12 (by decide) ?_
    refine sk_goto 17 K dX10_moodOf_13 (by decide) ?_
    refine sk_sub [(0, .int p0), (1, .int p1)] [0, 1] rfl ?_
    have h9 := j17_0 _ _ _ hf
    exact h9
noncomputable def fX10_slipIn (S : sk_S) (d : sk_D) (p0 : Int32) : Option (Int32) :=
  some (p0 >>> ((16 : Int32) &&& 31))
set_option maxRecDepth 100000 in
set_option maxHeartbeats 4000000 in
theorem sX10_slipIn (C : sk_C) (l : Launch) {S : sk_S} {d : sk_D} {p0 : Int32} {rr : Int32} (hf : fX10_slipIn S d p0 = some rr) : sk_Met C l 0 yX10_slipIn cX10_slipIn 1 (some .int) [.int p0] S d (some (.int rr)) S d := by
  refine sk_Met.of (by decide) (Nat.le_of_ble_eq_true rfl) (Nat.le_refl _) (Nat.le_refl _) (fun X K0 hX => ?_)
  have K : sk_Ok X C cX10_slipIn 1 RX10 "slipIn" (some .int) 0 l (some (.int rr)) S d := K0
  have R1 : X.2.2.2.2.2.2.2.2.2.2.2.1 ≤ S.1.1 ∧ X.2.2.2.2.2.2.2.2.2.2.2.2 ≤ S.1.2 := by rw [hX]; exact ⟨Nat.le_refl _, Nat.le_refl _⟩
  have R2 : S.1.1 ≤ S.1.1 ∧ S.1.2 ≤ S.1.2 := ⟨Nat.le_refl _, Nat.le_refl _⟩
  show sk_G X C 1 S d 0 [(0, .int p0)] []
  unfold fX10_slipIn at hf
  refine sk_iload_n K dX10_slipIn_0 rfl 0 rfl ?_
  refine sk_bipush (16 : Int32) K dX10_slipIn_1 (by decide) ?_
  refine sk_ishr K dX10_slipIn_3 ?_
  have hR1 : (p0 >>> ((16 : Int32) &&& 31)) = rr := Option.some.inj hf
  exact sk_iret K dX10_slipIn_4 rfl rfl hR1 rfl rfl
noncomputable def fX9_passesStub_J95 (S : sk_S) (v1 : Nat) (v2 : Int32) (v3 : Int32) (d4 : sk_D) : Option (Bool × sk_D) :=
  (sk_gR S v1 8 2).bind fun v5 => (sk_lI S d4 v5 20 v3).bind fun v7 => if ((v7 >>> ((v2 + (16 : Int32)) &&& 31)) &&& (1 : Int32)) = (1 : Int32) then (some (true, d4)) else (some (false, d4))
noncomputable def fX9_passesStub_J91 (S : sk_S) (v12 : Nat) (v13 : Int32) (v14 : Int32) (v15 : Nat) (v16 : Int32) (v17 : Int32) (v18 : Int32) (d19 : sk_D) : Option (Bool × sk_D) :=
  (sk_sI S d19 v15 20 v16 (v17 ||| (v18 <<< (v13 &&& 31)))).bind fun d20 => fX9_passesStub_J95 S v12 v13 v14 d20
noncomputable def fX9_passesStub (S : sk_S) (d : sk_D) (p0 : Nat) (p1 : Int32) (p2 : Int32) (p3 : Int32) : Option (Bool × sk_D) :=
  if ((p1 * (256 : Int32)) + p2) < 0 then (some (false, d)) else ((sk_gR S p0 8 2).bind fun v24 => (sk_al S v24 20).bind fun v26 => if v26 ≤ ((p1 * (256 : Int32)) + p2) then (some (false, d)) else ((sk_gR S p0 8 0).bind fun v30 => (sk_gR S v30 2 14).bind fun v32 => if S.2.1 v32 = (1, 0) then ((fX1_told S d v32).bind fun v34 => if v34 = true then ((sk_gR S p0 8 2).bind fun v38 => (sk_lI S d v38 20 ((p1 * (256 : Int32)) + p2)).bind fun v40 => if ((v40 >>> (p3 &&& 31)) &&& (1 : Int32)) = 0 then (if S.2.1 p0 = (8, 0) then ((fX9_give S d p0 p1 p2 p3).bind fun d45 => (sk_gR S p0 8 2).bind fun v47 => (sk_lI S d45 v47 20 ((p1 * (256 : Int32)) + p2)).bind fun v49 => (sk_gR S p0 8 0).bind fun v51 => (sk_gR S v51 2 14).bind fun v53 => (sk_gR S p0 8 3).bind fun v55 => if S.2.1 v53 = (1, 0) then ((fX1_holds S d45 v53 v55).bind fun b61 => if b61.1 = true then (fX9_passesStub_J91 S p0 p3 ((p1 * (256 : Int32)) + p2) v47 ((p1 * (256 : Int32)) + p2) v49 (65537 : Int32) b61.2) else (fX9_passesStub_J91 S p0 p3 ((p1 * (256 : Int32)) + p2) v47 ((p1 * (256 : Int32)) + p2) v49 (1 : Int32) b61.2)) else none) else none) else (fX9_passesStub_J95 S p0 p3 ((p1 * (256 : Int32)) + p2) d)) else (some (false, d))) else none))
set_option maxRecDepth 100000 in
set_option maxHeartbeats 4000000 in
theorem sX9_passesStub (C : sk_C) (l : Launch) {S : sk_S} {d : sk_D} {p0 : Nat} {p1 : Int32} {p2 : Int32} {p3 : Int32} {rr : Bool} {dd : sk_D} (hf : fX9_passesStub S d p0 p1 p2 p3 = some (rr, dd)) : sk_Met C l 3 yX9_passesStub cX9_passesStub 5 (some .boolean) [.ref p0, .int p1, .int p2, .int p3] S d (some (.int (sk_b rr))) S dd := by
  refine sk_Met.of (by decide) (Nat.le_of_ble_eq_true rfl) (Nat.le_refl _) (Nat.le_refl _) (fun X K0 hX => ?_)
  have K : sk_Ok X C cX9_passesStub 5 RX9 "passesStub" (some .boolean) 3 l (some (.int (sk_b rr))) S dd := K0
  have R1 : X.2.2.2.2.2.2.2.2.2.2.2.1 ≤ S.1.1 ∧ X.2.2.2.2.2.2.2.2.2.2.2.2 ≤ S.1.2 := by rw [hX]; exact ⟨Nat.le_refl _, Nat.le_refl _⟩
  have R2 : S.1.1 ≤ S.1.1 ∧ S.1.2 ≤ S.1.2 := ⟨Nat.le_refl _, Nat.le_refl _⟩
  show sk_G X C 5 S d 0 [(0, .ref p0), (1, .int p1), (2, .int p2), (3, .int p3)] []
  unfold fX9_passesStub at hf
  have j95_0 : ∀ (v1 : Nat) (v2 : Int32) (v3 : Int32) (d4 : sk_D), fX9_passesStub_J95 S v1 v2 v3 d4 = some (rr, dd) → sk_G X C 5 S d4 95 [(0, .ref v1), (3, .int v2), (4, .int v3)] [] := by
    intro v1 v2 v3 d4 hf
    unfold fX9_passesStub_J95 at hf
    refine sk_aload_n K dX9_passesStub_95 rfl 0 rfl ?_
    obtain ⟨v5, e6, hf⟩ := sk_ob hf
    refine sk_getR K dX9_passesStub_96 fl_X9_22 rfl e6 ?_
    refine sk_iload K dX9_passesStub_99 2 rfl ?_
    obtain ⟨v7, e8, hf⟩ := sk_ob hf
    refine sk_ald20 K dX9_passesStub_101 e8 ?_
    refine sk_iload_n K dX9_passesStub_102 rfl 1 rfl ?_
    refine sk_bipush (16 : Int32) K dX9_passesStub_103 (by decide) ?_
    refine sk_iadd K dX9_passesStub_105 ?_
    refine sk_ishr K dX9_passesStub_106 ?_
    refine sk_iconst (1 : Int32) K dX9_passesStub_107 (by decide) ?_
    refine sk_iand K dX9_passesStub_108 ?_
    refine sk_iconst (1 : Int32) K dX9_passesStub_109 (by decide) ?_
    refine sk_icmp_ne 117 K dX9_passesStub_110 (by decide) (fun h9 => ?_) (fun h9 => ?_)
    · rw [if_neg h9] at hf
      refine sk_iconst (0 : Int32) K dX9_passesStub_117 (by decide) ?_
      have hR10 : (false, d4) = (rr, dd) := Option.some.inj hf
      exact sk_zret (x := false) K dX9_passesStub_118 rfl rfl (congrArg (fun z => z.1) hR10) rfl (congrArg (fun z => z.2) hR10)
    · rw [if_pos h9] at hf
      refine sk_iconst (1 : Int32) K dX9_passesStub_113 (by decide) ?_
      refine sk_goto 118 K dX9_passesStub_114 (by decide) ?_
      have hR11 : (true, d4) = (rr, dd) := Option.some.inj hf
      exact sk_zret (x := true) K dX9_passesStub_118 rfl rfl (congrArg (fun z => z.1) hR11) rfl (congrArg (fun z => z.2) hR11)
  have j91_0 : ∀ (v12 : Nat) (v13 : Int32) (v14 : Int32) (v15 : Nat) (v16 : Int32) (v17 : Int32) (v18 : Int32) (d19 : sk_D), fX9_passesStub_J91 S v12 v13 v14 v15 v16 v17 v18 d19 = some (rr, dd) → sk_G X C 5 S d19 91 [(0, .ref v12), (3, .int v13), (4, .int v14)] [.int v18, .int v17, .int v16, .ref v15] := by
    intro v12 v13 v14 v15 v16 v17 v18 d19 hf
    unfold fX9_passesStub_J91 at hf
    refine sk_iload_n K dX9_passesStub_91 rfl 1 rfl ?_
    refine sk_ishl K dX9_passesStub_92 ?_
    refine sk_ior K dX9_passesStub_93 ?_
    obtain ⟨d20, e21, hf⟩ := sk_ob hf
    refine sk_ast20 d20 K dX9_passesStub_94 e21 ?_
    refine sk_sub [(0, .ref v12), (3, .int v13), (4, .int v14)] [0, 1, 2] rfl ?_
    have h9 := j95_0 _ _ _ _ hf
    exact h9
  refine sk_iload_n K dX9_passesStub_0 rfl 1 rfl ?_
  refine sk_sipush (256 : Int32) K dX9_passesStub_1 (by decide) ?_
  refine sk_imul K dX9_passesStub_4 ?_
  refine sk_iload_n K dX9_passesStub_5 rfl 2 rfl ?_
  refine sk_iadd K dX9_passesStub_6 ?_
  refine sk_istore [(4, .int ((p1 * (256 : Int32)) + p2)), (0, .ref p0), (1, .int p1), (2, .int p2), (3, .int p3)] K dX9_passesStub_7 (by decide) rfl ?_
  refine sk_iload K dX9_passesStub_9 0 rfl ?_
  refine sk_if_lt 37 K dX9_passesStub_11 (by decide) (fun h22 => ?_) (fun h22 => ?_)
  · rw [if_pos h22] at hf
    refine sk_iconst (0 : Int32) K dX9_passesStub_37 (by decide) ?_
    have hR23 : (false, d) = (rr, dd) := Option.some.inj hf
    exact sk_zret (x := false) K dX9_passesStub_38 rfl rfl (congrArg (fun z => z.1) hR23) rfl (congrArg (fun z => z.2) hR23)
  · rw [if_neg h22] at hf
    refine sk_iload K dX9_passesStub_14 0 rfl ?_
    refine sk_aload_n K dX9_passesStub_16 rfl 1 rfl ?_
    obtain ⟨v24, e25, hf⟩ := sk_ob hf
    refine sk_getR K dX9_passesStub_17 fl_X9_22 rfl e25 ?_
    obtain ⟨v26, e27, hf⟩ := sk_ob hf
    refine sk_al20 K dX9_passesStub_20 e27 ?_
    refine sk_icmp_ge 37 K dX9_passesStub_21 (by decide) (fun h28 => ?_) (fun h28 => ?_)
    · rw [if_pos h28] at hf
      refine sk_iconst (0 : Int32) K dX9_passesStub_37 (by decide) ?_
      have hR29 : (false, d) = (rr, dd) := Option.some.inj hf
      exact sk_zret (x := false) K dX9_passesStub_38 rfl rfl (congrArg (fun z => z.1) hR29) rfl (congrArg (fun z => z.2) hR29)
    · rw [if_neg h28] at hf
      refine sk_aload_n K dX9_passesStub_24 rfl 1 rfl ?_
      obtain ⟨v30, e31, hf⟩ := sk_ob hf
      refine sk_getR K dX9_passesStub_25 fl_X9_12 rfl e31 ?_
      obtain ⟨v32, e33, hf⟩ := sk_ob hf
      refine sk_getR K dX9_passesStub_28 fl_X9_132 rfl e33 ?_
      obtain ⟨h36, hf⟩ := sk_ib hf
      obtain ⟨v34, e35, hf⟩ := sk_ob hf
      refine sk_callV (As := []) (st := []) K dX9_passesStub_31 cl_X9_124 h36 (sX1_told C l e35) (by decide) rfl rfl (Nat.le_of_ble_eq_true rfl) R1 R2 ?_
      refine sk_ifneB 39 K dX9_passesStub_34 (by decide) (fun h37 => ?_) (fun h37 => ?_)
      · rw [if_pos h37] at hf
        refine sk_aload_n K dX9_passesStub_39 rfl 1 rfl ?_
        obtain ⟨v38, e39, hf⟩ := sk_ob hf
        refine sk_getR K dX9_passesStub_40 fl_X9_22 rfl e39 ?_
        refine sk_iload K dX9_passesStub_43 0 rfl ?_
        obtain ⟨v40, e41, hf⟩ := sk_ob hf
        refine sk_ald20 K dX9_passesStub_45 e41 ?_
        refine sk_iload_n K dX9_passesStub_46 rfl 4 rfl ?_
        refine sk_ishr K dX9_passesStub_47 ?_
        refine sk_iconst (1 : Int32) K dX9_passesStub_48 (by decide) ?_
        refine sk_iand K dX9_passesStub_49 ?_
        refine sk_if_ne 95 K dX9_passesStub_50 (by decide) (fun h42 => ?_) (fun h42 => ?_)
        · rw [if_neg h42] at hf
          refine sk_sub [(0, .ref p0), (3, .int p3), (4, .int ((p1 * (256 : Int32)) + p2))] [1, 4, 0] rfl ?_
          have h9 := j95_0 _ _ _ _ hf
          exact h9
        · rw [if_pos h42] at hf
          refine sk_aload_n K dX9_passesStub_53 rfl 1 rfl ?_
          refine sk_iload_n K dX9_passesStub_54 rfl 2 rfl ?_
          refine sk_iload_n K dX9_passesStub_55 rfl 3 rfl ?_
          refine sk_iload_n K dX9_passesStub_56 rfl 4 rfl ?_
          obtain ⟨h46, hf⟩ := sk_ib hf
          obtain ⟨d45, e44, hf⟩ := sk_ob hf
          refine sk_callV (As := [.int p1, .int p2, .int p3]) (st := []) K dX9_passesStub_57 cl_X9_116 h46 (sX9_give C l e44) (by decide) rfl rfl (Nat.le_of_ble_eq_true rfl) R1 R2 ?_
          refine sk_aload_n K dX9_passesStub_60 rfl 1 rfl ?_
          obtain ⟨v47, e48, hf⟩ := sk_ob hf
          refine sk_getR K dX9_passesStub_61 fl_X9_22 rfl e48 ?_
          refine sk_iload K dX9_passesStub_64 0 rfl ?_
          refine sk_dup2 K dX9_passesStub_66 rfl rfl ?_
          obtain ⟨v49, e50, hf⟩ := sk_ob hf
          refine sk_ald20 K dX9_passesStub_67 e50 ?_
          refine sk_aload_n K dX9_passesStub_68 rfl 1 rfl ?_
          obtain ⟨v51, e52, hf⟩ := sk_ob hf
          refine sk_getR K dX9_passesStub_69 fl_X9_12 rfl e52 ?_
          obtain ⟨v53, e54, hf⟩ := sk_ob hf
          refine sk_getR K dX9_passesStub_72 fl_X9_132 rfl e54 ?_
          refine sk_aload_n K dX9_passesStub_75 rfl 1 rfl ?_
          obtain ⟨v55, e56, hf⟩ := sk_ob hf
          refine sk_getR K dX9_passesStub_76 fl_X9_28 rfl e56 ?_
          obtain ⟨h60, hf⟩ := sk_ib hf
          obtain ⟨⟨v57, d59⟩, e58, hf⟩ := sk_ob hf
          try dsimp only at hf
          refine sk_callV (As := [.ref v55]) (st := [.int v49, .int ((p1 * (256 : Int32)) + p2), .ref v47]) K dX9_passesStub_79 cl_X9_128 h60 (sX1_holds C l e58) (by decide) rfl rfl (Nat.le_of_ble_eq_true rfl) R1 R2 ?_
          refine sk_ifeqB 90 K dX9_passesStub_82 (by decide) (fun h62 => ?_) (fun h62 => ?_)
          · rw [if_neg h62] at hf
            refine sk_iconst (1 : Int32) K dX9_passesStub_90 (by decide) ?_
            refine sk_sub [(0, .ref p0), (3, .int p3), (4, .int ((p1 * (256 : Int32)) + p2))] [1, 4, 0] rfl ?_
            have h9 := j91_0 _ _ _ _ _ _ _ _ hf
            exact h9
          · rw [if_pos h62] at hf
            refine sk_ldc K dX9_passesStub_85 qw_873 ?_
            refine sk_goto 91 K dX9_passesStub_87 (by decide) ?_
            refine sk_sub [(0, .ref p0), (3, .int p3), (4, .int ((p1 * (256 : Int32)) + p2))] [1, 4, 0] rfl ?_
            have h9 := j91_0 _ _ _ _ _ _ _ _ hf
            exact h9
      · rw [if_neg h37] at hf
        refine sk_iconst (0 : Int32) K dX9_passesStub_37 (by decide) ?_
        have hR63 : (false, d) = (rr, dd) := Option.some.inj hf
        exact sk_zret (x := false) K dX9_passesStub_38 rfl rfl (congrArg (fun z => z.1) hR63) rfl (congrArg (fun z => z.2) hR63)
