noncomputable def fX10_doing (S : sk_S) (d : sk_D) (p0 : Nat) (p1 : Int32) (p2 : Int32) : Option (Int32) :=
  (sk_gR S p0 9 0).bind fun v1 => (sk_gR S v1 8 0).bind fun v3 => if S.2.1 v3 = (2, 0) then ((fX2_has S d v3 p1).bind fun v5 => if v5 = true then (if p2 = (0 : Int32) then ((sk_gR S p0 9 5).bind fun v10 => (sk_gI S d v10 4 1).bind fun v12 => (fX10_moodOf S d v12 p1).bind fun v14 => some v14) else (if p2 = (1 : Int32) then ((sk_gR S v3 2 5).bind fun v18 => (sk_lI S d v18 20 p1).bind fun v20 => some v20) else (if p2 = (2 : Int32) then ((sk_gR S v3 2 6).bind fun v24 => (sk_lI S d v24 20 p1).bind fun v26 => some v26) else (if p2 = (3 : Int32) then ((sk_gR S v3 2 7).bind fun v30 => (sk_lI S d v30 20 p1).bind fun v32 => some v32) else (if p2 = (4 : Int32) then ((sk_gR S v3 2 8).bind fun v36 => (sk_lI S d v36 20 p1).bind fun v38 => some v38) else (if p2 = (5 : Int32) then ((sk_gR S v3 2 9).bind fun v42 => (sk_lI S d v42 20 p1).bind fun v44 => some v44) else (if p2 = (6 : Int32) then ((sk_gR S v3 2 10).bind fun v48 => (sk_lI S d v48 20 p1).bind fun v50 => some v50) else (if p2 = (7 : Int32) then ((sk_gR S v3 2 11).bind fun v54 => (sk_lI S d v54 20 p1).bind fun v56 => some v56) else (some (-2 : Int32)))))))))) else (some (-2 : Int32))) else none
set_option maxRecDepth 100000 in
set_option maxHeartbeats 4000000 in
theorem sX10_doing (C : sk_C) (l : Launch) {S : sk_S} {d : sk_D} {p0 : Nat} {p1 : Int32} {p2 : Int32} {rr : Int32} (hf : fX10_doing S d p0 p1 p2 = some rr) : sk_Met C l 1 yX10_doing cX10_doing 4 (some .int) [.ref p0, .int p1, .int p2] S d (some (.int rr)) S d := by
  refine sk_Met.of (by decide) (Nat.le_of_ble_eq_true rfl) (Nat.le_refl _) (Nat.le_refl _) (fun X K0 hX => ?_)
  have K : sk_Ok X C cX10_doing 4 RX10 "doing" (some .int) 1 l (some (.int rr)) S d := K0
  have R1 : X.2.2.2.2.2.2.2.2.2.2.2.1 ≤ S.1.1 ∧ X.2.2.2.2.2.2.2.2.2.2.2.2 ≤ S.1.2 := by rw [hX]; exact ⟨Nat.le_refl _, Nat.le_refl _⟩
  have R2 : S.1.1 ≤ S.1.1 ∧ S.1.2 ≤ S.1.2 := ⟨Nat.le_refl _, Nat.le_refl _⟩
  show sk_G X C 4 S d 0 [(0, .ref p0), (1, .int p1), (2, .int p2)] []
  unfold fX10_doing at hf
  refine sk_aload_n K dX10_doing_0 rfl 0 rfl ?_
  obtain ⟨v1, e2, hf⟩ := sk_ob hf
  refine sk_getR K dX10_doing_1 fl_X10_10 rfl e2 ?_
  obtain ⟨v3, e4, hf⟩ := sk_ob hf
  refine sk_getR K dX10_doing_4 fl_X10_98 rfl e4 ?_
  refine sk_astore_n [(3, .ref v3), (0, .ref p0), (1, .int p1), (2, .int p2)] K dX10_doing_7 rfl (by decide) rfl ?_
  refine sk_aload_n K dX10_doing_8 rfl 0 rfl ?_
  refine sk_iload_n K dX10_doing_9 rfl 2 rfl ?_
  obtain ⟨h7, hf⟩ := sk_ib hf
  obtain ⟨v5, e6, hf⟩ := sk_ob hf
  refine sk_callV (As := [.int p1]) (st := []) K dX10_doing_10 cl_X10_116 h7 (sX2_has C l e6) (by decide) rfl rfl (Nat.le_of_ble_eq_true rfl) R1 R2 ?_
  refine sk_ifneB 19 K dX10_doing_13 (by decide) (fun h8 => ?_) (fun h8 => ?_)
  · rw [if_pos h8] at hf
    refine sk_iload_n K dX10_doing_19 rfl 3 rfl ?_
    by_cases h9 : p2 = (0 : Int32)
    · rw [if_pos h9] at hf
      refine sk_tsIn (0 : Int32) (48) 68 K dX10_doing_20 h9 (by decide) (by decide) rfl (by decide) ?_
      refine sk_aload_n K dX10_doing_68 rfl 1 rfl ?_
      obtain ⟨v10, e11, hf⟩ := sk_ob hf
      refine sk_getR K dX10_doing_69 fl_X10_47 rfl e11 ?_
      obtain ⟨v12, e13, hf⟩ := sk_ob hf
      refine sk_getI K dX10_doing_72 fl_X10_120 rfl e13 ?_
      refine sk_iload_n K dX10_doing_75 rfl 2 rfl ?_
      obtain ⟨v14, e15, hf⟩ := sk_ob hf
      refine sk_callS (As := [.int v12, .int p1]) (st := []) K dX10_doing_76 cl_X10_123 (sX10_moodOf C l e15) (by decide) rfl rfl (Nat.le_of_ble_eq_true rfl) R1 R2 ?_
      have hR16 : v14 = rr := Option.some.inj hf
      exact sk_iret K dX10_doing_79 rfl rfl hR16 rfl rfl
    · rw [if_neg h9] at hf
      by_cases h17 : p2 = (1 : Int32)
      · rw [if_pos h17] at hf
        refine sk_tsIn (1 : Int32) (60) 80 K dX10_doing_20 h17 (by decide) (by decide) rfl (by decide) ?_
        refine sk_aload_n K dX10_doing_80 rfl 0 rfl ?_
        obtain ⟨v18, e19, hf⟩ := sk_ob hf
        refine sk_getR K dX10_doing_81 fl_X10_127 rfl e19 ?_
        refine sk_iload_n K dX10_doing_84 rfl 2 rfl ?_
        obtain ⟨v20, e21, hf⟩ := sk_ob hf
        refine sk_ald20 K dX10_doing_85 e21 ?_
        have hR22 : v20 = rr := Option.some.inj hf
        exact sk_iret K dX10_doing_86 rfl rfl hR22 rfl rfl
      · rw [if_neg h17] at hf
        by_cases h23 : p2 = (2 : Int32)
        · rw [if_pos h23] at hf
          refine sk_tsIn (2 : Int32) (67) 87 K dX10_doing_20 h23 (by decide) (by decide) rfl (by decide) ?_
          refine sk_aload_n K dX10_doing_87 rfl 0 rfl ?_
          obtain ⟨v24, e25, hf⟩ := sk_ob hf
          refine sk_getR K dX10_doing_88 fl_X10_130 rfl e25 ?_
          refine sk_iload_n K dX10_doing_91 rfl 2 rfl ?_
          obtain ⟨v26, e27, hf⟩ := sk_ob hf
          refine sk_ald20 K dX10_doing_92 e27 ?_
          have hR28 : v26 = rr := Option.some.inj hf
          exact sk_iret K dX10_doing_93 rfl rfl hR28 rfl rfl
        · rw [if_neg h23] at hf
          by_cases h29 : p2 = (3 : Int32)
          · rw [if_pos h29] at hf
            refine sk_tsIn (3 : Int32) (74) 94 K dX10_doing_20 h29 (by decide) (by decide) rfl (by decide) ?_
            refine sk_aload_n K dX10_doing_94 rfl 0 rfl ?_
            obtain ⟨v30, e31, hf⟩ := sk_ob hf
            refine sk_getR K dX10_doing_95 fl_X10_133 rfl e31 ?_
            refine sk_iload_n K dX10_doing_98 rfl 2 rfl ?_
            obtain ⟨v32, e33, hf⟩ := sk_ob hf
            refine sk_ald20 K dX10_doing_99 e33 ?_
            have hR34 : v32 = rr := Option.some.inj hf
            exact sk_iret K dX10_doing_100 rfl rfl hR34 rfl rfl
          · rw [if_neg h29] at hf
            by_cases h35 : p2 = (4 : Int32)
            · rw [if_pos h35] at hf
              refine sk_tsIn (4 : Int32) (81) 101 K dX10_doing_20 h35 (by decide) (by decide) rfl (by decide) ?_
              refine sk_aload_n K dX10_doing_101 rfl 0 rfl ?_
              obtain ⟨v36, e37, hf⟩ := sk_ob hf
              refine sk_getR K dX10_doing_102 fl_X10_136 rfl e37 ?_
              refine sk_iload_n K dX10_doing_105 rfl 2 rfl ?_
              obtain ⟨v38, e39, hf⟩ := sk_ob hf
              refine sk_ald20 K dX10_doing_106 e39 ?_
              have hR40 : v38 = rr := Option.some.inj hf
              exact sk_iret K dX10_doing_107 rfl rfl hR40 rfl rfl
            · rw [if_neg h35] at hf
              by_cases h41 : p2 = (5 : Int32)
              · rw [if_pos h41] at hf
                refine sk_tsIn (5 : Int32) (88) 108 K dX10_doing_20 h41 (by decide) (by decide) rfl (by decide) ?_
                refine sk_aload_n K dX10_doing_108 rfl 0 rfl ?_
                obtain ⟨v42, e43, hf⟩ := sk_ob hf
                refine sk_getR K dX10_doing_109 fl_X10_139 rfl e43 ?_
                refine sk_iload_n K dX10_doing_112 rfl 2 rfl ?_
                obtain ⟨v44, e45, hf⟩ := sk_ob hf
                refine sk_ald20 K dX10_doing_113 e45 ?_
                have hR46 : v44 = rr := Option.some.inj hf
                exact sk_iret K dX10_doing_114 rfl rfl hR46 rfl rfl
              · rw [if_neg h41] at hf
                by_cases h47 : p2 = (6 : Int32)
                · rw [if_pos h47] at hf
                  refine sk_tsIn (6 : Int32) (95) 115 K dX10_doing_20 h47 (by decide) (by decide) rfl (by decide) ?_
                  refine sk_aload_n K dX10_doing_115 rfl 0 rfl ?_
                  obtain ⟨v48, e49, hf⟩ := sk_ob hf
                  refine sk_getR K dX10_doing_116 fl_X10_142 rfl e49 ?_
                  refine sk_iload_n K dX10_doing_119 rfl 2 rfl ?_
                  obtain ⟨v50, e51, hf⟩ := sk_ob hf
                  refine sk_ald20 K dX10_doing_120 e51 ?_
                  have hR52 : v50 = rr := Option.some.inj hf
                  exact sk_iret K dX10_doing_121 rfl rfl hR52 rfl rfl
                · rw [if_neg h47] at hf
                  by_cases h53 : p2 = (7 : Int32)
                  · rw [if_pos h53] at hf
                    refine sk_tsIn (7 : Int32) (102) 122 K dX10_doing_20 h53 (by decide) (by decide) rfl (by decide) ?_
                    refine sk_aload_n K dX10_doing_122 rfl 0 rfl ?_
                    obtain ⟨v54, e55, hf⟩ := sk_ob hf
                    refine sk_getR K dX10_doing_123 fl_X10_145 rfl e55 ?_
                    refine sk_iload_n K dX10_doing_126 rfl 2 rfl ?_
                    obtain ⟨v56, e57, hf⟩ := sk_ob hf
                    refine sk_ald20 K dX10_doing_127 e57 ?_
                    have hR58 : v56 = rr := Option.some.inj hf
                    exact sk_iret K dX10_doing_128 rfl rfl hR58 rfl rfl
                  · rw [if_neg h53] at hf
                    refine sk_tsOut 129 K dX10_doing_20 (sk_tsout (0) 8 [(0 : Int32), (1 : Int32), (2 : Int32), (3 : Int32), (4 : Int32), (5 : Int32), (6 : Int32), (7 : Int32)] (by decide) (by simp [h9, h17, h23, h29, h35, h41, h47, h53])) (by decide) ?_
                    refine sk_bipush (-2 : Int32) K dX10_doing_129 (by decide) ?_
                    have hR59 : (-2 : Int32) = rr := Option.some.inj hf
                    exact sk_iret K dX10_doing_131 rfl rfl hR59 rfl rfl
  · rw [if_neg h8] at hf
    refine sk_bipush (-2 : Int32) K dX10_doing_16 (by decide) ?_
    have hR60 : (-2 : Int32) = rr := Option.some.inj hf
    exact sk_iret K dX10_doing_18 rfl rfl hR60 rfl rfl
noncomputable def fX10_door (S : sk_S) (d : sk_D) (p0 : Nat) (p1 : Int32) : Option (Int32) :=
  if p1 < 0 then (some (-2 : Int32)) else ((sk_gR S p0 9 0).bind fun v3 => (sk_gR S v3 8 0).bind fun v5 => (sk_gI S d v5 2 2).bind fun v7 => if p1 < v7 then ((sk_gR S p0 9 0).bind fun v10 => (sk_gR S v10 8 0).bind fun v12 => (sk_gR S v12 2 12).bind fun v14 => (sk_lI S d v14 20 p1).bind fun v16 => some v16) else (some (-2 : Int32)))
set_option maxRecDepth 100000 in
set_option maxHeartbeats 4000000 in
theorem sX10_door (C : sk_C) (l : Launch) {S : sk_S} {d : sk_D} {p0 : Nat} {p1 : Int32} {rr : Int32} (hf : fX10_door S d p0 p1 = some rr) : sk_Met C l 0 yX10_door cX10_door 2 (some .int) [.ref p0, .int p1] S d (some (.int rr)) S d := by
  refine sk_Met.of (by decide) (Nat.le_of_ble_eq_true rfl) (Nat.le_refl _) (Nat.le_refl _) (fun X K0 hX => ?_)
  have K : sk_Ok X C cX10_door 2 RX10 "door" (some .int) 0 l (some (.int rr)) S d := K0
  have R1 : X.2.2.2.2.2.2.2.2.2.2.2.1 ≤ S.1.1 ∧ X.2.2.2.2.2.2.2.2.2.2.2.2 ≤ S.1.2 := by rw [hX]; exact ⟨Nat.le_refl _, Nat.le_refl _⟩
  have R2 : S.1.1 ≤ S.1.1 ∧ S.1.2 ≤ S.1.2 := ⟨Nat.le_refl _, Nat.le_refl _⟩
  show sk_G X C 2 S d 0 [(0, .ref p0), (1, .int p1)] []
  unfold fX10_door at hf
  refine sk_iload_n K dX10_door_0 rfl 1 rfl ?_
  refine sk_if_lt 18 K dX10_door_1 (by decide) (fun h1 => ?_) (fun h1 => ?_)
  · rw [if_pos h1] at hf
    refine sk_bipush (-2 : Int32) K dX10_door_18 (by decide) ?_
    refine sk_goto 35 K dX10_door_20 (by decide) ?_
    have hR2 : (-2 : Int32) = rr := Option.some.inj hf
    exact sk_iret K dX10_door_35 rfl rfl hR2 rfl rfl
  · rw [if_neg h1] at hf
    refine sk_iload_n K dX10_door_4 rfl 1 rfl ?_
    refine sk_aload_n K dX10_door_5 rfl 0 rfl ?_
    obtain ⟨v3, e4, hf⟩ := sk_ob hf
    refine sk_getR K dX10_door_6 fl_X10_10 rfl e4 ?_
    obtain ⟨v5, e6, hf⟩ := sk_ob hf
    refine sk_getR K dX10_door_9 fl_X10_98 rfl e6 ?_
    obtain ⟨v7, e8, hf⟩ := sk_ob hf
    refine sk_getI K dX10_door_12 fl_X10_148 rfl e8 ?_
    refine sk_icmp_lt 23 K dX10_door_15 (by decide) (fun h9 => ?_) (fun h9 => ?_)
    · rw [if_pos h9] at hf
      refine sk_aload_n K dX10_door_23 rfl 0 rfl ?_
      obtain ⟨v10, e11, hf⟩ := sk_ob hf
      refine sk_getR K dX10_door_24 fl_X10_10 rfl e11 ?_
      obtain ⟨v12, e13, hf⟩ := sk_ob hf
      refine sk_getR K dX10_door_27 fl_X10_98 rfl e13 ?_
      obtain ⟨v14, e15, hf⟩ := sk_ob hf
      refine sk_getR K dX10_door_30 fl_X10_151 rfl e15 ?_
      refine sk_iload_n K dX10_door_33 rfl 1 rfl ?_
      obtain ⟨v16, e17, hf⟩ := sk_ob hf
      refine sk_ald20 K dX10_door_34 e17 ?_
      have hR18 : v16 = rr := Option.some.inj hf
      exact sk_iret K dX10_door_35 rfl rfl hR18 rfl rfl
    · rw [if_neg h9] at hf
      refine sk_bipush (-2 : Int32) K dX10_door_18 (by decide) ?_
      refine sk_goto 35 K dX10_door_20 (by decide) ?_
      have hR19 : (-2 : Int32) = rr := Option.some.inj hf
      exact sk_iret K dX10_door_35 rfl rfl hR19 rfl rfl
noncomputable def fX10_notDone (S : sk_S) (d : sk_D) (p0 : Nat) (p1 : Int32) : Option (Int32) :=
  (sk_gR S p0 9 0).bind fun v1 => (sk_gR S v1 8 0).bind fun v3 => if S.2.1 v3 = (2, 0) then ((fX2_has S d v3 p1).bind fun v5 => if v5 = true then ((sk_gR S p0 9 5).bind fun v9 => (sk_gI S d v9 4 1).bind fun v11 => (fX10_doneIn S d v11).bind fun v13 => if ((v13 >>> (p1 &&& 31)) &&& (1 : Int32)) = 0 then (some (-5 : Int32)) else (some (0 : Int32))) else (some (-2 : Int32))) else none
set_option maxRecDepth 100000 in
set_option maxHeartbeats 4000000 in
theorem sX10_notDone (C : sk_C) (l : Launch) {S : sk_S} {d : sk_D} {p0 : Nat} {p1 : Int32} {rr : Int32} (hf : fX10_notDone S d p0 p1 = some rr) : sk_Met C l 1 yX10_notDone cX10_notDone 2 (some .int) [.ref p0, .int p1] S d (some (.int rr)) S d := by
  refine sk_Met.of (by decide) (Nat.le_of_ble_eq_true rfl) (Nat.le_refl _) (Nat.le_refl _) (fun X K0 hX => ?_)
  have K : sk_Ok X C cX10_notDone 2 RX10 "notDone" (some .int) 1 l (some (.int rr)) S d := K0
  have R1 : X.2.2.2.2.2.2.2.2.2.2.2.1 ≤ S.1.1 ∧ X.2.2.2.2.2.2.2.2.2.2.2.2 ≤ S.1.2 := by rw [hX]; exact ⟨Nat.le_refl _, Nat.le_refl _⟩
  have R2 : S.1.1 ≤ S.1.1 ∧ S.1.2 ≤ S.1.2 := ⟨Nat.le_refl _, Nat.le_refl _⟩
  show sk_G X C 2 S d 0 [(0, .ref p0), (1, .int p1)] []
  unfold fX10_notDone at hf
  refine sk_aload_n K dX10_notDone_0 rfl 0 rfl ?_
  obtain ⟨v1, e2, hf⟩ := sk_ob hf
  refine sk_getR K dX10_notDone_1 fl_X10_10 rfl e2 ?_
  obtain ⟨v3, e4, hf⟩ := sk_ob hf
  refine sk_getR K dX10_notDone_4 fl_X10_98 rfl e4 ?_
  refine sk_iload_n K dX10_notDone_7 rfl 1 rfl ?_
  obtain ⟨h7, hf⟩ := sk_ib hf
  obtain ⟨v5, e6, hf⟩ := sk_ob hf
  refine sk_callV (As := [.int p1]) (st := []) K dX10_notDone_8 cl_X10_116 h7 (sX2_has C l e6) (by decide) rfl rfl (Nat.le_of_ble_eq_true rfl) R1 R2 ?_
  refine sk_ifneB 17 K dX10_notDone_11 (by decide) (fun h8 => ?_) (fun h8 => ?_)
  · rw [if_pos h8] at hf
    refine sk_aload_n K dX10_notDone_17 rfl 0 rfl ?_
    obtain ⟨v9, e10, hf⟩ := sk_ob hf
    refine sk_getR K dX10_notDone_18 fl_X10_47 rfl e10 ?_
    obtain ⟨v11, e12, hf⟩ := sk_ob hf
    refine sk_getI K dX10_notDone_21 fl_X10_120 rfl e12 ?_
    obtain ⟨v13, e14, hf⟩ := sk_ob hf
    refine sk_callS (As := [.int v11]) (st := []) K dX10_notDone_24 cl_X10_158 (sX10_doneIn C l e14) (by decide) rfl rfl (Nat.le_of_ble_eq_true rfl) R1 R2 ?_
    refine sk_iload_n K dX10_notDone_27 rfl 1 rfl ?_
    refine sk_ishr K dX10_notDone_28 ?_
    refine sk_iconst (1 : Int32) K dX10_notDone_29 (by decide) ?_
    refine sk_iand K dX10_notDone_30 ?_
    refine sk_if_ne 39 K dX10_notDone_31 (by decide) (fun h15 => ?_) (fun h15 => ?_)
    · rw [if_neg h15] at hf
      refine sk_iconst (0 : Int32) K dX10_notDone_39 (by decide) ?_
      have hR16 : (0 : Int32) = rr := Option.some.inj hf
      exact sk_iret K dX10_notDone_40 rfl rfl hR16 rfl rfl
    · rw [if_pos h15] at hf
      refine sk_bipush (-5 : Int32) K dX10_notDone_34 (by decide) ?_
      refine sk_goto 40 K dX10_notDone_36 (by decide) ?_
      have hR17 : (-5 : Int32) = rr := Option.some.inj hf
      exact sk_iret K dX10_notDone_40 rfl rfl hR17 rfl rfl
  · rw [if_neg h8] at hf
    refine sk_bipush (-2 : Int32) K dX10_notDone_14 (by decide) ?_
    have hR18 : (-2 : Int32) = rr := Option.some.inj hf
    exact sk_iret K dX10_notDone_16 rfl rfl hR18 rfl rfl
noncomputable def fX10_putBack (S : sk_S) (d : sk_D) (p0 : Nat) (p1 : Int32) : Option (Int32) :=
  if S.2.1 p0 = (9, 0) then ((fX10_notDone S d p0 p1).bind fun v1 => if v1 = 0 then ((sk_gR S p0 9 0).bind fun v5 => (sk_gR S v5 8 0).bind fun v7 => (sk_gR S p0 9 5).bind fun v9 => (sk_gI S d v9 4 1).bind fun v11 => (fX10_doneIn S d v11).bind fun v13 => if S.2.1 v7 = (2, 0) then ((fX2_needing S d v7 p1 v13).bind fun v15 => some v15) else none) else (some v1)) else none
set_option maxRecDepth 100000 in
set_option maxHeartbeats 4000000 in
theorem sX10_putBack (C : sk_C) (l : Launch) {S : sk_S} {d : sk_D} {p0 : Nat} {p1 : Int32} {rr : Int32} (hf : fX10_putBack S d p0 p1 = some rr) : sk_Met C l 2 yX10_putBack cX10_putBack 3 (some .int) [.ref p0, .int p1] S d (some (.int rr)) S d := by
  refine sk_Met.of (by decide) (Nat.le_of_ble_eq_true rfl) (Nat.le_refl _) (Nat.le_refl _) (fun X K0 hX => ?_)
  have K : sk_Ok X C cX10_putBack 3 RX10 "putBack" (some .int) 2 l (some (.int rr)) S d := K0
  have R1 : X.2.2.2.2.2.2.2.2.2.2.2.1 ≤ S.1.1 ∧ X.2.2.2.2.2.2.2.2.2.2.2.2 ≤ S.1.2 := by rw [hX]; exact ⟨Nat.le_refl _, Nat.le_refl _⟩
  have R2 : S.1.1 ≤ S.1.1 ∧ S.1.2 ≤ S.1.2 := ⟨Nat.le_refl _, Nat.le_refl _⟩
  show sk_G X C 3 S d 0 [(0, .ref p0), (1, .int p1)] []
  unfold fX10_putBack at hf
  refine sk_aload_n K dX10_putBack_0 rfl 0 rfl ?_
  refine sk_iload_n K dX10_putBack_1 rfl 1 rfl ?_
  obtain ⟨h3, hf⟩ := sk_ib hf
  obtain ⟨v1, e2, hf⟩ := sk_ob hf
  refine sk_callV (As := [.int p1]) (st := []) K dX10_putBack_2 cl_X10_154 h3 (sX10_notDone C l e2) (by decide) rfl rfl (Nat.le_of_ble_eq_true rfl) R1 R2 ?_
  refine sk_istore_n [(2, .int v1), (0, .ref p0), (1, .int p1)] K dX10_putBack_5 rfl (by decide) rfl ?_
  refine sk_iload_n K dX10_putBack_6 rfl 0 rfl ?_
  refine sk_if_eq 14 K dX10_putBack_7 (by decide) (fun h4 => ?_) (fun h4 => ?_)
  · rw [if_pos h4] at hf
    refine sk_aload_n K dX10_putBack_14 rfl 1 rfl ?_
    obtain ⟨v5, e6, hf⟩ := sk_ob hf
    refine sk_getR K dX10_putBack_15 fl_X10_10 rfl e6 ?_
    obtain ⟨v7, e8, hf⟩ := sk_ob hf
    refine sk_getR K dX10_putBack_18 fl_X10_98 rfl e8 ?_
    refine sk_iload_n K dX10_putBack_21 rfl 2 rfl ?_
    refine sk_aload_n K dX10_putBack_22 rfl 1 rfl ?_
    obtain ⟨v9, e10, hf⟩ := sk_ob hf
    refine sk_getR K dX10_putBack_23 fl_X10_47 rfl e10 ?_
    obtain ⟨v11, e12, hf⟩ := sk_ob hf
    refine sk_getI K dX10_putBack_26 fl_X10_120 rfl e12 ?_
    obtain ⟨v13, e14, hf⟩ := sk_ob hf
    refine sk_callS (As := [.int v11]) (st := [.int p1, .ref v7]) K dX10_putBack_29 cl_X10_158 (sX10_doneIn C l e14) (by decide) rfl rfl (Nat.le_of_ble_eq_true rfl) R1 R2 ?_
    obtain ⟨h17, hf⟩ := sk_ib hf
    obtain ⟨v15, e16, hf⟩ := sk_ob hf
    refine sk_callV (As := [.int p1, .int v13]) (st := []) K dX10_putBack_32 cl_X10_161 h17 (sX2_needing C l e16) (by decide) rfl rfl (Nat.le_of_ble_eq_true rfl) R1 R2 ?_
    have hR18 : v15 = rr := Option.some.inj hf
    exact sk_iret K dX10_putBack_35 rfl rfl hR18 rfl rfl
  · rw [if_neg h4] at hf
    refine sk_iload_n K dX10_putBack_10 rfl 0 rfl ?_
    refine sk_goto 35 K dX10_putBack_11 (by decide) ?_
    have hR19 : v1 = rr := Option.some.inj hf
    exact sk_iret K dX10_putBack_35 rfl rfl hR19 rfl rfl
noncomputable def fX10_open_L24 (S : sk_S) (d : sk_D) (v3 : Nat) (v9 : Int32) (s1 : Int32 × Int32) : Option ((Int32 × Int32) ⊕ (Int32)) :=
  (sk_gI S d v3 2 1).bind fun v11 => if v11 ≤ s1.2 then (some (.inr s1.1)) else (if ((v9 >>> (s1.2 &&& 31)) &&& (1 : Int32)) = 0 then ((sk_gR S v3 2 10).bind fun v16 => (sk_lI S d v16 20 s1.2).bind fun v18 => if (v18 &&& (v9 ^^^ (-1 : Int32))) = 0 then (some (.inl (s1.1 ||| ((1 : Int32) <<< (s1.2 &&& 31)), s1.2 + 1))) else (some (.inl (s1.1, s1.2 + 1)))) else (some (.inl (s1.1, s1.2 + 1))))
noncomputable def fX10_open (S : sk_S) (d : sk_D) (p0 : Nat) : Option (Int32) :=
  (sk_gR S p0 9 0).bind fun v1 => (sk_gR S v1 8 0).bind fun v3 => (sk_gR S p0 9 5).bind fun v5 => (sk_gI S d v5 4 1).bind fun v7 => (fX10_doneIn S d v7).bind fun v9 => (sk_itr (fX10_open_L24 S d v3 v9) ((0 : Int32), (0 : Int32))).bind fun x1 => some x1
set_option maxRecDepth 100000 in
set_option maxHeartbeats 4000000 in
theorem sX10_open (C : sk_C) (l : Launch) {S : sk_S} {d : sk_D} {p0 : Nat} {rr : Int32} (hf : fX10_open S d p0 = some rr) : sk_Met C l 1 yX10_open cX10_open 5 (some .int) [.ref p0] S d (some (.int rr)) S d := by
  refine sk_Met.of (by decide) (Nat.le_of_ble_eq_true rfl) (Nat.le_refl _) (Nat.le_refl _) (fun X K0 hX => ?_)
  have K : sk_Ok X C cX10_open 5 RX10 "open" (some .int) 1 l (some (.int rr)) S d := K0
  have R1 : X.2.2.2.2.2.2.2.2.2.2.2.1 ≤ S.1.1 ∧ X.2.2.2.2.2.2.2.2.2.2.2.2 ≤ S.1.2 := by rw [hX]; exact ⟨Nat.le_refl _, Nat.le_refl _⟩
  have R2 : S.1.1 ≤ S.1.1 ∧ S.1.2 ≤ S.1.2 := ⟨Nat.le_refl _, Nat.le_refl _⟩
  show sk_G X C 5 S d 0 [(0, .ref p0)] []
  unfold fX10_open at hf
  refine sk_aload_n K dX10_open_0 rfl 0 rfl ?_
  obtain ⟨v1, e2, hf⟩ := sk_ob hf
  refine sk_getR K dX10_open_1 fl_X10_10 rfl e2 ?_
  obtain ⟨v3, e4, hf⟩ := sk_ob hf
  refine sk_getR K dX10_open_4 fl_X10_98 rfl e4 ?_
  refine sk_astore_n [(1, .ref v3), (0, .ref p0)] K dX10_open_7 rfl (by decide) rfl ?_
  refine sk_aload_n K dX10_open_8 rfl 1 rfl ?_
  obtain ⟨v5, e6, hf⟩ := sk_ob hf
  refine sk_getR K dX10_open_9 fl_X10_47 rfl e6 ?_
  obtain ⟨v7, e8, hf⟩ := sk_ob hf
  refine sk_getI K dX10_open_12 fl_X10_120 rfl e8 ?_
  obtain ⟨v9, e10, hf⟩ := sk_ob hf
  refine sk_callS (As := [.int v7]) (st := []) K dX10_open_15 cl_X10_158 (sX10_doneIn C l e10) (by decide) rfl rfl (Nat.le_of_ble_eq_true rfl) R1 R2 ?_
  refine sk_istore_n [(2, .int v9), (1, .ref v3), (0, .ref p0)] K dX10_open_18 rfl (by decide) rfl ?_
  refine sk_iconst (0 : Int32) K dX10_open_19 (by decide) ?_
  refine sk_istore_n [(3, .int (0 : Int32)), (2, .int v9), (1, .ref v3), (0, .ref p0)] K dX10_open_20 rfl (by decide) rfl ?_
  refine sk_iconst (0 : Int32) K dX10_open_21 (by decide) ?_
  refine sk_istore [(4, .int (0 : Int32)), (3, .int (0 : Int32)), (2, .int v9), (1, .ref v3), (0, .ref p0)] K dX10_open_22 (by decide) rfl ?_
  obtain ⟨x1, he1, hf⟩ := sk_ob hf
  have hret1 : ∀ r, r = x1 → r = rr := by
    intro r hr
    subst hr
    exact Option.some.inj hf
  refine sk_sub [(1, .ref v3), (2, .int v9), (3, .int (0 : Int32)), (4, .int (0 : Int32))] [3, 2, 1, 0] rfl ?_
  refine sk_loop (fun s1 => sk_G X C 5 S d 24 [(1, .ref v3), (2, .int v9), (3, .int s1.1), (4, .int s1.2)] []) he1 (fun s1 o1 hf ih1 hx1 => ?_)
  unfold fX10_open_L24 at hf
  refine sk_iload K dX10_open_24 3 rfl ?_
  refine sk_aload_n K dX10_open_26 rfl 0 rfl ?_
  obtain ⟨v11, e12, hf⟩ := sk_ob hf
  refine sk_getI K dX10_open_27 fl_X10_164 rfl e12 ?_
  refine sk_icmp_ge 69 K dX10_open_30 (by decide) (fun h13 => ?_) (fun h13 => ?_)
  · rw [if_pos h13] at hf
    refine sk_iload_n K dX10_open_69 rfl 2 rfl ?_
    have hR14 : s1.1 = rr := hret1 _ (hx1 _ (Option.some.inj hf).symm)
    exact sk_iret K dX10_open_70 rfl rfl hR14 rfl rfl
  · rw [if_neg h13] at hf
    refine sk_iload_n K dX10_open_33 rfl 1 rfl ?_
    refine sk_iload K dX10_open_34 3 rfl ?_
    refine sk_ishr K dX10_open_36 ?_
    refine sk_iconst (1 : Int32) K dX10_open_37 (by decide) ?_
    refine sk_iand K dX10_open_38 ?_
    refine sk_if_ne 63 K dX10_open_39 (by decide) (fun h15 => ?_) (fun h15 => ?_)
    · rw [if_neg h15] at hf
      refine sk_iinc (s1.2 + 1) [(4, .int (s1.2 + 1)), (1, .ref v3), (2, .int v9), (3, .int s1.1)] K dX10_open_63 3 rfl rfl (by decide) rfl ?_
      refine sk_goto 24 K dX10_open_66 (by decide) ?_
      refine sk_sub [(1, .ref v3), (2, .int v9), (3, .int s1.1), (4, .int (s1.2 + 1))] [1, 2, 3, 0] rfl ?_
      have h9 := ih1 _ (Option.some.inj hf).symm
      exact h9
    · rw [if_pos h15] at hf
      refine sk_aload_n K dX10_open_42 rfl 0 rfl ?_
      obtain ⟨v16, e17, hf⟩ := sk_ob hf
      refine sk_getR K dX10_open_43 fl_X10_142 rfl e17 ?_
      refine sk_iload K dX10_open_46 3 rfl ?_
      obtain ⟨v18, e19, hf⟩ := sk_ob hf
      refine sk_ald20 K dX10_open_48 e19 ?_
      refine sk_iload_n K dX10_open_49 rfl 1 rfl ?_
      refine sk_iconst (-1 : Int32) K dX10_open_50 (by decide) ?_
      refine sk_ixor K dX10_open_51 ?_
      refine sk_iand K dX10_open_52 ?_
      refine sk_if_ne 63 K dX10_open_53 (by decide) (fun h20 => ?_) (fun h20 => ?_)
      · rw [if_neg h20] at hf
        refine sk_iinc (s1.2 + 1) [(4, .int (s1.2 + 1)), (1, .ref v3), (2, .int v9), (3, .int s1.1)] K dX10_open_63 3 rfl rfl (by decide) rfl ?_
        refine sk_goto 24 K dX10_open_66 (by decide) ?_
        refine sk_sub [(1, .ref v3), (2, .int v9), (3, .int s1.1), (4, .int (s1.2 + 1))] [1, 2, 3, 0] rfl ?_
        have h9 := ih1 _ (Option.some.inj hf).symm
        exact h9
      · rw [if_pos h20] at hf
        refine sk_iload_n K dX10_open_56 rfl 2 rfl ?_
        refine sk_iconst (1 : Int32) K dX10_open_57 (by decide) ?_
        refine sk_iload K dX10_open_58 3 rfl ?_
        refine sk_ishl K dX10_open_60 ?_
        refine sk_ior K dX10_open_61 ?_
        refine sk_istore_n [(3, .int (s1.1 ||| ((1 : Int32) <<< (s1.2 &&& 31)))), (1, .ref v3), (2, .int v9), (4, .int s1.2)] K dX10_open_62 rfl (by decide) rfl ?_
        refine sk_iinc (s1.2 + 1) [(4, .int (s1.2 + 1)), (3, .int (s1.1 ||| ((1 : Int32) <<< (s1.2 &&& 31)))), (1, .ref v3), (2, .int v9)] K dX10_open_63 3 rfl rfl (by decide) rfl ?_
        refine sk_goto 24 K dX10_open_66 (by decide) ?_
        refine sk_sub [(1, .ref v3), (2, .int v9), (3, .int (s1.1 ||| ((1 : Int32) <<< (s1.2 &&& 31)))), (4, .int (s1.2 + 1))] [2, 3, 1, 0] rfl ?_
        have h9 := ih1 _ (Option.some.inj hf).symm
        exact h9
noncomputable def fX10_enact_J35 (S : sk_S) (p0 : Nat) (v1 : Int32) (d2 : sk_D) : Option (Int32 × sk_D) :=
  if 0 ≤ v1 then ((sk_gR S p0 9 5).bind fun v4 => if S.2.1 v4 = (4, 0) then ((fX4_goOn S d2 v4 v1).bind fun d8 => some ((0 : Int32), d8)) else none) else (some (v1, d2))
noncomputable def fX10_enact_J10 (S : sk_S) (p0 : Nat) (d12 : sk_D) : Option (Int32 × sk_D) :=
  fX10_enact_J35 S p0 (-1 : Int32) d12
noncomputable def fX10_enact (S : sk_S) (d : sk_D) (p0 : Nat) (p1 : Int32) (p2 : Int32) : Option (Int32 × sk_D) :=
  if p2 < 0 then (fX10_enact_J10 S p0 d) else (if p2 ≤ (9 : Int32) then ((sk_gR S p0 9 0).bind fun v15 => (sk_gR S p0 9 5).bind fun v17 => (sk_gI S d v17 4 1).bind fun v19 => if S.2.1 v15 = (8, 0) then ((fX9_tryDeed S d v15 v19 (((p1 * (10 : Int32)) + p2).toInt64)).bind fun b25 => fX10_enact_J35 S p0 b25.1 b25.2) else none) else (fX10_enact_J10 S p0 d))
set_option maxRecDepth 100000 in
set_option maxHeartbeats 4000000 in
theorem sX10_enact (C : sk_C) (l : Launch) {S : sk_S} {d : sk_D} {p0 : Nat} {p1 : Int32} {p2 : Int32} {rr : Int32} {dd : sk_D} (hf : fX10_enact S d p0 p1 p2 = some (rr, dd)) : sk_Met C l 5 yX10_enact cX10_enact 4 (some .int) [.ref p0, .int p1, .int p2] S d (some (.int rr)) S dd := by
  refine sk_Met.of (by decide) (Nat.le_of_ble_eq_true rfl) (Nat.le_refl _) (Nat.le_refl _) (fun X K0 hX => ?_)
  have K : sk_Ok X C cX10_enact 4 RX10 "enact" (some .int) 5 l (some (.int rr)) S dd := K0
  have R1 : X.2.2.2.2.2.2.2.2.2.2.2.1 ≤ S.1.1 ∧ X.2.2.2.2.2.2.2.2.2.2.2.2 ≤ S.1.2 := by rw [hX]; exact ⟨Nat.le_refl _, Nat.le_refl _⟩
  have R2 : S.1.1 ≤ S.1.1 ∧ S.1.2 ≤ S.1.2 := ⟨Nat.le_refl _, Nat.le_refl _⟩
  show sk_G X C 4 S d 0 [(0, .ref p0), (1, .int p1), (2, .int p2)] []
  unfold fX10_enact at hf
  have j35_0 : ∀ (v1 : Int32) (d2 : sk_D), fX10_enact_J35 S p0 v1 d2 = some (rr, dd) → sk_G X C 4 S d2 35 [(0, .ref p0)] [.int v1] := by
    intro v1 d2 hf
    unfold fX10_enact_J35 at hf
    refine sk_istore_n [(3, .int v1), (0, .ref p0)] K dX10_enact_35 rfl (by decide) rfl ?_
    refine sk_iload_n K dX10_enact_36 rfl 0 rfl ?_
    refine sk_if_ge 42 K dX10_enact_37 (by decide) (fun h3 => ?_) (fun h3 => ?_)
    · rw [if_pos h3] at hf
      refine sk_aload_n K dX10_enact_42 rfl 1 rfl ?_
      obtain ⟨v4, e5, hf⟩ := sk_ob hf
      refine sk_getR K dX10_enact_43 fl_X10_47 rfl e5 ?_
      refine sk_iload_n K dX10_enact_46 rfl 0 rfl ?_
      obtain ⟨h9, hf⟩ := sk_ib hf
      obtain ⟨d8, e7, hf⟩ := sk_ob hf
      refine sk_callV (As := [.int v1]) (st := []) K dX10_enact_47 cl_X10_191 h9 (sX4_goOn C l e7) (by decide) rfl rfl (Nat.le_of_ble_eq_true rfl) R1 R2 ?_
      refine sk_iconst (0 : Int32) K dX10_enact_50 (by decide) ?_
      have hR10 : ((0 : Int32), d8) = (rr, dd) := Option.some.inj hf
      exact sk_iret K dX10_enact_51 rfl rfl (congrArg (fun z => z.1) hR10) rfl (congrArg (fun z => z.2) hR10)
    · rw [if_neg h3] at hf
      refine sk_iload_n K dX10_enact_40 rfl 0 rfl ?_
      have hR11 : (v1, d2) = (rr, dd) := Option.some.inj hf
      exact sk_iret K dX10_enact_41 rfl rfl (congrArg (fun z => z.1) hR11) rfl (congrArg (fun z => z.2) hR11)
  have j10_0 : ∀ (d12 : sk_D), fX10_enact_J10 S p0 d12 = some (rr, dd) → sk_G X C 4 S d12 10 [(0, .ref p0)] [] := by
    intro d12 hf
    unfold fX10_enact_J10 at hf
    refine sk_iconst (-1 : Int32) K dX10_enact_10 (by decide) ?_
    refine sk_goto 35 K dX10_enact_11 (by decide) ?_
    refine sk_sub [(0, .ref p0)] [0] rfl ?_
    have h9 := j35_0 _ _ hf
    exact h9
  refine sk_iload_n K dX10_enact_0 rfl 2 rfl ?_
  refine sk_if_lt 10 K dX10_enact_1 (by decide) (fun h13 => ?_) (fun h13 => ?_)
  · rw [if_pos h13] at hf
    refine sk_sub [(0, .ref p0)] [0] rfl ?_
    have h9 := j10_0 _ hf
    exact h9
  · rw [if_neg h13] at hf
    refine sk_iload_n K dX10_enact_4 rfl 2 rfl ?_
    refine sk_bipush (9 : Int32) K dX10_enact_5 (by decide) ?_
    refine sk_icmp_le 14 K dX10_enact_7 (by decide) (fun h14 => ?_) (fun h14 => ?_)
    · rw [if_pos h14] at hf
      refine sk_aload_n K dX10_enact_14 rfl 0 rfl ?_
      obtain ⟨v15, e16, hf⟩ := sk_ob hf
      refine sk_getR K dX10_enact_15 fl_X10_10 rfl e16 ?_
      refine sk_aload_n K dX10_enact_18 rfl 0 rfl ?_
      obtain ⟨v17, e18, hf⟩ := sk_ob hf
      refine sk_getR K dX10_enact_19 fl_X10_47 rfl e18 ?_
      obtain ⟨v19, e20, hf⟩ := sk_ob hf
      refine sk_getI K dX10_enact_22 fl_X10_120 rfl e20 ?_
      refine sk_iload_n K dX10_enact_25 rfl 1 rfl ?_
      refine sk_bipush (10 : Int32) K dX10_enact_26 (by decide) ?_
      refine sk_imul K dX10_enact_28 ?_
      refine sk_iload_n K dX10_enact_29 rfl 2 rfl ?_
      refine sk_iadd K dX10_enact_30 ?_
      refine sk_i2l K dX10_enact_31 ?_
      obtain ⟨h24, hf⟩ := sk_ib hf
      obtain ⟨⟨v21, d23⟩, e22, hf⟩ := sk_ob hf
      try dsimp only at hf
      refine sk_callV (As := [.int v19, .long (((p1 * (10 : Int32)) + p2).toInt64)]) (st := []) K dX10_enact_32 cl_X10_187 h24 (sX9_tryDeed C l e22) (by decide) rfl rfl (Nat.le_of_ble_eq_true rfl) R1 R2 ?_
      refine sk_sub [(0, .ref p0)] [0] rfl ?_
      have h9 := j35_0 _ _ hf
      exact h9
    · rw [if_neg h14] at hf
      refine sk_sub [(0, .ref p0)] [0] rfl ?_
      have h9 := j10_0 _ hf
      exact h9
noncomputable def fX10_does (S : sk_S) (d : sk_D) (p0 : Nat) (p1 : Int32) : Option (Int32 × sk_D) :=
  if S.2.1 p0 = (9, 0) then ((fX10_enact S d p0 (0 : Int32) p1).bind fun b5 => if 0 ≤ b5.1 then ((sk_gR S p0 9 5).bind fun v7 => (sk_gI S b5.2 v7 4 1).bind fun v9 => (fX10_moodOf S b5.2 v9 p1).bind fun v11 => some (v11, b5.2)) else (some ((-10 : Int32) + b5.1, b5.2))) else none
set_option maxRecDepth 100000 in
set_option maxHeartbeats 4000000 in
theorem sX10_does (C : sk_C) (l : Launch) {S : sk_S} {d : sk_D} {p0 : Nat} {p1 : Int32} {rr : Int32} {dd : sk_D} (hf : fX10_does S d p0 p1 = some (rr, dd)) : sk_Met C l 6 yX10_does cX10_does 3 (some .int) [.ref p0, .int p1] S d (some (.int rr)) S dd := by
  refine sk_Met.of (by decide) (Nat.le_of_ble_eq_true rfl) (Nat.le_refl _) (Nat.le_refl _) (fun X K0 hX => ?_)
  have K : sk_Ok X C cX10_does 3 RX10 "does" (some .int) 6 l (some (.int rr)) S dd := K0
  have R1 : X.2.2.2.2.2.2.2.2.2.2.2.1 ≤ S.1.1 ∧ X.2.2.2.2.2.2.2.2.2.2.2.2 ≤ S.1.2 := by rw [hX]; exact ⟨Nat.le_refl _, Nat.le_refl _⟩
  have R2 : S.1.1 ≤ S.1.1 ∧ S.1.2 ≤ S.1.2 := ⟨Nat.le_refl _, Nat.le_refl _⟩
  show sk_G X C 3 S d 0 [(0, .ref p0), (1, .int p1)] []
  unfold fX10_does at hf
  refine sk_aload_n K dX10_does_0 rfl 0 rfl ?_
  refine sk_iconst (0 : Int32) K dX10_does_1 (by decide) ?_
  refine sk_iload_n K dX10_does_2 rfl 1 rfl ?_
  obtain ⟨h4, hf⟩ := sk_ib hf
  obtain ⟨⟨v1, d3⟩, e2, hf⟩ := sk_ob hf
  try dsimp only at hf
  refine sk_callV (As := [.int (0 : Int32), .int p1]) (st := []) K dX10_does_3 cl_X10_167 h4 (sX10_enact C l e2) (by decide) rfl rfl (Nat.le_of_ble_eq_true rfl) R1 R2 ?_
  refine sk_istore_n [(2, .int v1), (0, .ref p0), (1, .int p1)] K dX10_does_6 rfl (by decide) rfl ?_
  refine sk_iload_n K dX10_does_7 rfl 0 rfl ?_
  refine sk_if_ge 18 K dX10_does_8 (by decide) (fun h6 => ?_) (fun h6 => ?_)
  · rw [if_pos h6] at hf
    refine sk_aload_n K dX10_does_18 rfl 1 rfl ?_
    obtain ⟨v7, e8, hf⟩ := sk_ob hf
    refine sk_getR K dX10_does_19 fl_X10_47 rfl e8 ?_
    obtain ⟨v9, e10, hf⟩ := sk_ob hf
    refine sk_getI K dX10_does_22 fl_X10_120 rfl e10 ?_
    refine sk_iload_n K dX10_does_25 rfl 2 rfl ?_
    obtain ⟨v11, e12, hf⟩ := sk_ob hf
    refine sk_callS (As := [.int v9, .int p1]) (st := []) K dX10_does_26 cl_X10_123 (sX10_moodOf C l e12) (by decide) rfl rfl (Nat.le_of_ble_eq_true rfl) R1 R2 ?_
    have hR13 : (v11, d3) = (rr, dd) := Option.some.inj hf
    exact sk_iret K dX10_does_29 rfl rfl (congrArg (fun z => z.1) hR13) rfl (congrArg (fun z => z.2) hR13)
  · rw [if_neg h6] at hf
    refine sk_bipush (-10 : Int32) K dX10_does_11 (by decide) ?_
    refine sk_iload_n K dX10_does_13 rfl 0 rfl ?_
    refine sk_iadd K dX10_does_14 ?_
    refine sk_goto 29 K dX10_does_15 (by decide) ?_
    have hR14 : ((-10 : Int32) + v1, d3) = (rr, dd) := Option.some.inj hf
    exact sk_iret K dX10_does_29 rfl rfl (congrArg (fun z => z.1) hR14) rfl (congrArg (fun z => z.2) hR14)
noncomputable def fX10_drop (S : sk_S) (d : sk_D) (p0 : Nat) (p1 : Int32) : Option (Int32 × sk_D) :=
  if S.2.1 p0 = (9, 0) then ((fX10_enact S d p0 (1 : Int32) p1).bind fun b5 => if 0 ≤ b5.1 then ((sk_gR S p0 9 5).bind fun v7 => (sk_gI S b5.2 v7 4 1).bind fun v9 => (fX10_liningIn S b5.2 v9).bind fun v11 => (fJ6_bitCount_0f7a4 S b5.2 v11).bind fun v13 => some (v13, b5.2)) else (some ((-10 : Int32) + b5.1, b5.2))) else none
set_option maxRecDepth 100000 in
set_option maxHeartbeats 4000000 in
theorem sX10_drop (C : sk_C) (l : Launch) {S : sk_S} {d : sk_D} {p0 : Nat} {p1 : Int32} {rr : Int32} {dd : sk_D} (hf : fX10_drop S d p0 p1 = some (rr, dd)) : sk_Met C l 6 yX10_drop cX10_drop 3 (some .int) [.ref p0, .int p1] S d (some (.int rr)) S dd := by
  refine sk_Met.of (by decide) (Nat.le_of_ble_eq_true rfl) (Nat.le_refl _) (Nat.le_refl _) (fun X K0 hX => ?_)
  have K : sk_Ok X C cX10_drop 3 RX10 "drop" (some .int) 6 l (some (.int rr)) S dd := K0
  have R1 : X.2.2.2.2.2.2.2.2.2.2.2.1 ≤ S.1.1 ∧ X.2.2.2.2.2.2.2.2.2.2.2.2 ≤ S.1.2 := by rw [hX]; exact ⟨Nat.le_refl _, Nat.le_refl _⟩
  have R2 : S.1.1 ≤ S.1.1 ∧ S.1.2 ≤ S.1.2 := ⟨Nat.le_refl _, Nat.le_refl _⟩
  show sk_G X C 3 S d 0 [(0, .ref p0), (1, .int p1)] []
  unfold fX10_drop at hf
  refine sk_aload_n K dX10_drop_0 rfl 0 rfl ?_
  refine sk_iconst (1 : Int32) K dX10_drop_1 (by decide) ?_
  refine sk_iload_n K dX10_drop_2 rfl 1 rfl ?_
  obtain ⟨h4, hf⟩ := sk_ib hf
  obtain ⟨⟨v1, d3⟩, e2, hf⟩ := sk_ob hf
  try dsimp only at hf
  refine sk_callV (As := [.int (1 : Int32), .int p1]) (st := []) K dX10_drop_3 cl_X10_167 h4 (sX10_enact C l e2) (by decide) rfl rfl (Nat.le_of_ble_eq_true rfl) R1 R2 ?_
  refine sk_istore_n [(2, .int v1), (0, .ref p0), (1, .int p1)] K dX10_drop_6 rfl (by decide) rfl ?_
  refine sk_iload_n K dX10_drop_7 rfl 0 rfl ?_
  refine sk_if_ge 18 K dX10_drop_8 (by decide) (fun h6 => ?_) (fun h6 => ?_)
  · rw [if_pos h6] at hf
    refine sk_aload_n K dX10_drop_18 rfl 1 rfl ?_
    obtain ⟨v7, e8, hf⟩ := sk_ob hf
    refine sk_getR K dX10_drop_19 fl_X10_47 rfl e8 ?_
    obtain ⟨v9, e10, hf⟩ := sk_ob hf
    refine sk_getI K dX10_drop_22 fl_X10_120 rfl e10 ?_
    obtain ⟨v11, e12, hf⟩ := sk_ob hf
    refine sk_callS (As := [.int v9]) (st := []) K dX10_drop_25 cl_X10_170 (sX10_liningIn C l e12) (by decide) rfl rfl (Nat.le_of_ble_eq_true rfl) R1 R2 ?_
    obtain ⟨v13, e14, hf⟩ := sk_ob hf
    refine sk_callS (As := [.int v11]) (st := []) K dX10_drop_28 cl_X10_173 (sJ6_bitCount_0f7a4 C l e14) (by decide) rfl rfl (Nat.le_of_ble_eq_true rfl) R1 R2 ?_
    have hR15 : (v13, d3) = (rr, dd) := Option.some.inj hf
    exact sk_iret K dX10_drop_31 rfl rfl (congrArg (fun z => z.1) hR15) rfl (congrArg (fun z => z.2) hR15)
  · rw [if_neg h6] at hf
    refine sk_bipush (-10 : Int32) K dX10_drop_11 (by decide) ?_
    refine sk_iload_n K dX10_drop_13 rfl 0 rfl ?_
    refine sk_iadd K dX10_drop_14 ?_
    refine sk_goto 31 K dX10_drop_15 (by decide) ?_
    have hR16 : ((-10 : Int32) + v1, d3) = (rr, dd) := Option.some.inj hf
    exact sk_iret K dX10_drop_31 rfl rfl (congrArg (fun z => z.1) hR16) rfl (congrArg (fun z => z.2) hR16)
noncomputable def fX10_forge (S : sk_S) (d : sk_D) (p0 : Nat) (p1 : Int32) : Option (Int32 × sk_D) :=
  if S.2.1 p0 = (9, 0) then ((fX10_enact S d p0 (2 : Int32) p1).bind fun b5 => if 0 ≤ b5.1 then ((sk_gR S p0 9 0).bind fun v7 => (sk_gR S v7 8 0).bind fun v9 => (sk_gR S p0 9 5).bind fun v11 => (sk_gI S b5.2 v11 4 1).bind fun v13 => (fX10_liningIn S b5.2 v13).bind fun v15 => if S.2.1 v9 = (2, 0) then ((fX2_roomLeft S b5.2 v9 v15).bind fun v17 => some (v17, b5.2)) else none) else (some ((-10 : Int32) + b5.1, b5.2))) else none
set_option maxRecDepth 100000 in
set_option maxHeartbeats 4000000 in
theorem sX10_forge (C : sk_C) (l : Launch) {S : sk_S} {d : sk_D} {p0 : Nat} {p1 : Int32} {rr : Int32} {dd : sk_D} (hf : fX10_forge S d p0 p1 = some (rr, dd)) : sk_Met C l 6 yX10_forge cX10_forge 3 (some .int) [.ref p0, .int p1] S d (some (.int rr)) S dd := by
  refine sk_Met.of (by decide) (Nat.le_of_ble_eq_true rfl) (Nat.le_refl _) (Nat.le_refl _) (fun X K0 hX => ?_)
  have K : sk_Ok X C cX10_forge 3 RX10 "forge" (some .int) 6 l (some (.int rr)) S dd := K0
  have R1 : X.2.2.2.2.2.2.2.2.2.2.2.1 ≤ S.1.1 ∧ X.2.2.2.2.2.2.2.2.2.2.2.2 ≤ S.1.2 := by rw [hX]; exact ⟨Nat.le_refl _, Nat.le_refl _⟩
  have R2 : S.1.1 ≤ S.1.1 ∧ S.1.2 ≤ S.1.2 := ⟨Nat.le_refl _, Nat.le_refl _⟩
  show sk_G X C 3 S d 0 [(0, .ref p0), (1, .int p1)] []
  unfold fX10_forge at hf
  refine sk_aload_n K dX10_forge_0 rfl 0 rfl ?_
  refine sk_iconst (2 : Int32) K dX10_forge_1 (by decide) ?_
  refine sk_iload_n K dX10_forge_2 rfl 1 rfl ?_
  obtain ⟨h4, hf⟩ := sk_ib hf
  obtain ⟨⟨v1, d3⟩, e2, hf⟩ := sk_ob hf
  try dsimp only at hf
  refine sk_callV (As := [.int (2 : Int32), .int p1]) (st := []) K dX10_forge_3 cl_X10_167 h4 (sX10_enact C l e2) (by decide) rfl rfl (Nat.le_of_ble_eq_true rfl) R1 R2 ?_
  refine sk_istore_n [(2, .int v1), (0, .ref p0), (1, .int p1)] K dX10_forge_6 rfl (by decide) rfl ?_
  refine sk_iload_n K dX10_forge_7 rfl 0 rfl ?_
  refine sk_if_ge 18 K dX10_forge_8 (by decide) (fun h6 => ?_) (fun h6 => ?_)
  · rw [if_pos h6] at hf
    refine sk_aload_n K dX10_forge_18 rfl 1 rfl ?_
    obtain ⟨v7, e8, hf⟩ := sk_ob hf
    refine sk_getR K dX10_forge_19 fl_X10_10 rfl e8 ?_
    obtain ⟨v9, e10, hf⟩ := sk_ob hf
    refine sk_getR K dX10_forge_22 fl_X10_98 rfl e10 ?_
    refine sk_aload_n K dX10_forge_25 rfl 1 rfl ?_
    obtain ⟨v11, e12, hf⟩ := sk_ob hf
    refine sk_getR K dX10_forge_26 fl_X10_47 rfl e12 ?_
    obtain ⟨v13, e14, hf⟩ := sk_ob hf
    refine sk_getI K dX10_forge_29 fl_X10_120 rfl e14 ?_
    obtain ⟨v15, e16, hf⟩ := sk_ob hf
    refine sk_callS (As := [.int v13]) (st := [.ref v9]) K dX10_forge_32 cl_X10_170 (sX10_liningIn C l e16) (by decide) rfl rfl (Nat.le_of_ble_eq_true rfl) R1 R2 ?_
    obtain ⟨h19, hf⟩ := sk_ib hf
    obtain ⟨v17, e18, hf⟩ := sk_ob hf
    refine sk_callV (As := [.int v15]) (st := []) K dX10_forge_35 cl_X10_178 h19 (sX2_roomLeft C l e18) (by decide) rfl rfl (Nat.le_of_ble_eq_true rfl) R1 R2 ?_
    have hR20 : (v17, d3) = (rr, dd) := Option.some.inj hf
    exact sk_iret K dX10_forge_38 rfl rfl (congrArg (fun z => z.1) hR20) rfl (congrArg (fun z => z.2) hR20)
  · rw [if_neg h6] at hf
    refine sk_bipush (-10 : Int32) K dX10_forge_11 (by decide) ?_
    refine sk_iload_n K dX10_forge_13 rfl 0 rfl ?_
    refine sk_iadd K dX10_forge_14 ?_
    refine sk_goto 38 K dX10_forge_15 (by decide) ?_
    have hR21 : ((-10 : Int32) + v1, d3) = (rr, dd) := Option.some.inj hf
    exact sk_iret K dX10_forge_38 rfl rfl (congrArg (fun z => z.1) hR21) rfl (congrArg (fun z => z.2) hR21)
noncomputable def fX10_ask (S : sk_S) (d : sk_D) (p0 : Nat) (p1 : Int32) : Option (Int32 × sk_D) :=
  (sk_gR S p0 9 5).bind fun v1 => (sk_gI S d v1 4 1).bind fun v3 => if S.2.1 p0 = (9, 0) then ((fX10_enact S d p0 (3 : Int32) p1).bind fun b9 => if 0 ≤ b9.1 then ((fX10_notOpenIn S b9.2 v3).bind fun v11 => (sk_gR S p0 9 5).bind fun v13 => (sk_gI S b9.2 v13 4 1).bind fun v15 => (fX10_notOpenIn S b9.2 v15).bind fun v17 => some (v11 &&& (v17 ^^^ (-1 : Int32)), b9.2)) else (some ((-10 : Int32) + b9.1, b9.2))) else none
set_option maxRecDepth 100000 in
set_option maxHeartbeats 4000000 in
theorem sX10_ask (C : sk_C) (l : Launch) {S : sk_S} {d : sk_D} {p0 : Nat} {p1 : Int32} {rr : Int32} {dd : sk_D} (hf : fX10_ask S d p0 p1 = some (rr, dd)) : sk_Met C l 6 yX10_ask cX10_ask 4 (some .int) [.ref p0, .int p1] S d (some (.int rr)) S dd := by
  refine sk_Met.of (by decide) (Nat.le_of_ble_eq_true rfl) (Nat.le_refl _) (Nat.le_refl _) (fun X K0 hX => ?_)
  have K : sk_Ok X C cX10_ask 4 RX10 "ask" (some .int) 6 l (some (.int rr)) S dd := K0
  have R1 : X.2.2.2.2.2.2.2.2.2.2.2.1 ≤ S.1.1 ∧ X.2.2.2.2.2.2.2.2.2.2.2.2 ≤ S.1.2 := by rw [hX]; exact ⟨Nat.le_refl _, Nat.le_refl _⟩
  have R2 : S.1.1 ≤ S.1.1 ∧ S.1.2 ≤ S.1.2 := ⟨Nat.le_refl _, Nat.le_refl _⟩
  show sk_G X C 4 S d 0 [(0, .ref p0), (1, .int p1)] []
  unfold fX10_ask at hf
  refine sk_aload_n K dX10_ask_0 rfl 0 rfl ?_
  obtain ⟨v1, e2, hf⟩ := sk_ob hf
  refine sk_getR K dX10_ask_1 fl_X10_47 rfl e2 ?_
  obtain ⟨v3, e4, hf⟩ := sk_ob hf
  refine sk_getI K dX10_ask_4 fl_X10_120 rfl e4 ?_
  refine sk_istore_n [(2, .int v3), (0, .ref p0), (1, .int p1)] K dX10_ask_7 rfl (by decide) rfl ?_
  refine sk_aload_n K dX10_ask_8 rfl 1 rfl ?_
  refine sk_iconst (3 : Int32) K dX10_ask_9 (by decide) ?_
  refine sk_iload_n K dX10_ask_10 rfl 2 rfl ?_
  obtain ⟨h8, hf⟩ := sk_ib hf
  obtain ⟨⟨v5, d7⟩, e6, hf⟩ := sk_ob hf
  try dsimp only at hf
  refine sk_callV (As := [.int (3 : Int32), .int p1]) (st := []) K dX10_ask_11 cl_X10_167 h8 (sX10_enact C l e6) (by decide) rfl rfl (Nat.le_of_ble_eq_true rfl) R1 R2 ?_
  refine sk_istore_n [(3, .int v5), (2, .int v3), (0, .ref p0), (1, .int p1)] K dX10_ask_14 rfl (by decide) rfl ?_
  refine sk_iload_n K dX10_ask_15 rfl 0 rfl ?_
  refine sk_if_ge 26 K dX10_ask_16 (by decide) (fun h10 => ?_) (fun h10 => ?_)
  · rw [if_pos h10] at hf
    refine sk_iload_n K dX10_ask_26 rfl 1 rfl ?_
    obtain ⟨v11, e12, hf⟩ := sk_ob hf
    refine sk_callS (As := [.int v3]) (st := []) K dX10_ask_27 cl_X10_181 (sX10_notOpenIn C l e12) (by decide) rfl rfl (Nat.le_of_ble_eq_true rfl) R1 R2 ?_
    refine sk_aload_n K dX10_ask_30 rfl 2 rfl ?_
    obtain ⟨v13, e14, hf⟩ := sk_ob hf
    refine sk_getR K dX10_ask_31 fl_X10_47 rfl e14 ?_
    obtain ⟨v15, e16, hf⟩ := sk_ob hf
    refine sk_getI K dX10_ask_34 fl_X10_120 rfl e16 ?_
    obtain ⟨v17, e18, hf⟩ := sk_ob hf
    refine sk_callS (As := [.int v15]) (st := [.int v11]) K dX10_ask_37 cl_X10_181 (sX10_notOpenIn C l e18) (by decide) rfl rfl (Nat.le_of_ble_eq_true rfl) R1 R2 ?_
    refine sk_iconst (-1 : Int32) K dX10_ask_40 (by decide) ?_
    refine sk_ixor K dX10_ask_41 ?_
    refine sk_iand K dX10_ask_42 ?_
    have hR19 : (v11 &&& (v17 ^^^ (-1 : Int32)), d7) = (rr, dd) := Option.some.inj hf
    exact sk_iret K dX10_ask_43 rfl rfl (congrArg (fun z => z.1) hR19) rfl (congrArg (fun z => z.2) hR19)
  · rw [if_neg h10] at hf
    refine sk_bipush (-10 : Int32) K dX10_ask_19 (by decide) ?_
    refine sk_iload_n K dX10_ask_21 rfl 0 rfl ?_
    refine sk_iadd K dX10_ask_22 ?_
    refine sk_goto 43 K dX10_ask_23 (by decide) ?_
    have hR20 : ((-10 : Int32) + v5, d7) = (rr, dd) := Option.some.inj hf
    exact sk_iret K dX10_ask_43 rfl rfl (congrArg (fun z => z.1) hR20) rfl (congrArg (fun z => z.2) hR20)
noncomputable def fX10_slip (S : sk_S) (d : sk_D) (p0 : Nat) (p1 : Int32) : Option (Int32 × sk_D) :=
  (sk_gR S p0 9 5).bind fun v1 => (sk_gI S d v1 4 1).bind fun v3 => (fX10_slipIn S d v3).bind fun v5 => if S.2.1 p0 = (9, 0) then ((fX10_enact S d p0 (4 : Int32) p1).bind fun b11 => if 0 ≤ b11.1 then (some (v5, b11.2)) else (some ((-10 : Int32) + b11.1, b11.2))) else none
set_option maxRecDepth 100000 in
set_option maxHeartbeats 4000000 in
theorem sX10_slip (C : sk_C) (l : Launch) {S : sk_S} {d : sk_D} {p0 : Nat} {p1 : Int32} {rr : Int32} {dd : sk_D} (hf : fX10_slip S d p0 p1 = some (rr, dd)) : sk_Met C l 6 yX10_slip cX10_slip 4 (some .int) [.ref p0, .int p1] S d (some (.int rr)) S dd := by
  refine sk_Met.of (by decide) (Nat.le_of_ble_eq_true rfl) (Nat.le_refl _) (Nat.le_refl _) (fun X K0 hX => ?_)
  have K : sk_Ok X C cX10_slip 4 RX10 "slip" (some .int) 6 l (some (.int rr)) S dd := K0
  have R1 : X.2.2.2.2.2.2.2.2.2.2.2.1 ≤ S.1.1 ∧ X.2.2.2.2.2.2.2.2.2.2.2.2 ≤ S.1.2 := by rw [hX]; exact ⟨Nat.le_refl _, Nat.le_refl _⟩
  have R2 : S.1.1 ≤ S.1.1 ∧ S.1.2 ≤ S.1.2 := ⟨Nat.le_refl _, Nat.le_refl _⟩
  show sk_G X C 4 S d 0 [(0, .ref p0), (1, .int p1)] []
  unfold fX10_slip at hf
  refine sk_aload_n K dX10_slip_0 rfl 0 rfl ?_
  obtain ⟨v1, e2, hf⟩ := sk_ob hf
  refine sk_getR K dX10_slip_1 fl_X10_47 rfl e2 ?_
  obtain ⟨v3, e4, hf⟩ := sk_ob hf
  refine sk_getI K dX10_slip_4 fl_X10_120 rfl e4 ?_
  obtain ⟨v5, e6, hf⟩ := sk_ob hf
  refine sk_callS (As := [.int v3]) (st := []) K dX10_slip_7 cl_X10_184 (sX10_slipIn C l e6) (by decide) rfl rfl (Nat.le_of_ble_eq_true rfl) R1 R2 ?_
  refine sk_istore_n [(2, .int v5), (0, .ref p0), (1, .int p1)] K dX10_slip_10 rfl (by decide) rfl ?_
  refine sk_aload_n K dX10_slip_11 rfl 1 rfl ?_
  refine sk_iconst (4 : Int32) K dX10_slip_12 (by decide) ?_
  refine sk_iload_n K dX10_slip_13 rfl 2 rfl ?_
  obtain ⟨h10, hf⟩ := sk_ib hf
  obtain ⟨⟨v7, d9⟩, e8, hf⟩ := sk_ob hf
  try dsimp only at hf
  refine sk_callV (As := [.int (4 : Int32), .int p1]) (st := []) K dX10_slip_14 cl_X10_167 h10 (sX10_enact C l e8) (by decide) rfl rfl (Nat.le_of_ble_eq_true rfl) R1 R2 ?_
  refine sk_istore_n [(3, .int v7), (2, .int v5), (0, .ref p0), (1, .int p1)] K dX10_slip_17 rfl (by decide) rfl ?_
  refine sk_iload_n K dX10_slip_18 rfl 0 rfl ?_
  refine sk_if_ge 29 K dX10_slip_19 (by decide) (fun h12 => ?_) (fun h12 => ?_)
  · rw [if_pos h12] at hf
    refine sk_iload_n K dX10_slip_29 rfl 1 rfl ?_
    have hR13 : (v5, d9) = (rr, dd) := Option.some.inj hf
    exact sk_iret K dX10_slip_30 rfl rfl (congrArg (fun z => z.1) hR13) rfl (congrArg (fun z => z.2) hR13)
  · rw [if_neg h12] at hf
    refine sk_bipush (-10 : Int32) K dX10_slip_22 (by decide) ?_
    refine sk_iload_n K dX10_slip_24 rfl 0 rfl ?_
    refine sk_iadd K dX10_slip_25 ?_
    refine sk_goto 30 K dX10_slip_26 (by decide) ?_
    have hR14 : ((-10 : Int32) + v7, d9) = (rr, dd) := Option.some.inj hf
    exact sk_iret K dX10_slip_30 rfl rfl (congrArg (fun z => z.1) hR14) rfl (congrArg (fun z => z.2) hR14)
noncomputable def fX10_undo (S : sk_S) (d : sk_D) (p0 : Nat) (p1 : Int32) : Option (Int32 × sk_D) :=
  if p1 < (1 : Int32) then (some ((-3 : Int32), d)) else ((sk_gR S p0 9 5).bind fun v3 => (sk_gI S d v3 4 2).bind fun v5 => if p1 ≤ v5 then ((sk_gR S p0 9 5).bind fun v8 => if S.2.1 v8 = (4, 0) then ((fX4_goBack S d v8 p1).bind fun d12 => (sk_gR S p0 9 5).bind fun v14 => (sk_gI S d12 v14 4 2).bind fun v16 => some (v16, d12)) else none) else (some ((-3 : Int32), d)))
set_option maxRecDepth 100000 in
set_option maxHeartbeats 4000000 in
theorem sX10_undo (C : sk_C) (l : Launch) {S : sk_S} {d : sk_D} {p0 : Nat} {p1 : Int32} {rr : Int32} {dd : sk_D} (hf : fX10_undo S d p0 p1 = some (rr, dd)) : sk_Met C l 1 yX10_undo cX10_undo 2 (some .int) [.ref p0, .int p1] S d (some (.int rr)) S dd := by
  refine sk_Met.of (by decide) (Nat.le_of_ble_eq_true rfl) (Nat.le_refl _) (Nat.le_refl _) (fun X K0 hX => ?_)
  have K : sk_Ok X C cX10_undo 2 RX10 "undo" (some .int) 1 l (some (.int rr)) S dd := K0
  have R1 : X.2.2.2.2.2.2.2.2.2.2.2.1 ≤ S.1.1 ∧ X.2.2.2.2.2.2.2.2.2.2.2.2 ≤ S.1.2 := by rw [hX]; exact ⟨Nat.le_refl _, Nat.le_refl _⟩
  have R2 : S.1.1 ≤ S.1.1 ∧ S.1.2 ≤ S.1.2 := ⟨Nat.le_refl _, Nat.le_refl _⟩
  show sk_G X C 2 S d 0 [(0, .ref p0), (1, .int p1)] []
  unfold fX10_undo at hf
  refine sk_iload_n K dX10_undo_0 rfl 1 rfl ?_
  refine sk_iconst (1 : Int32) K dX10_undo_1 (by decide) ?_
  refine sk_icmp_lt 16 K dX10_undo_2 (by decide) (fun h1 => ?_) (fun h1 => ?_)
  · rw [if_pos h1] at hf
    refine sk_bipush (-3 : Int32) K dX10_undo_16 (by decide) ?_
    have hR2 : ((-3 : Int32), d) = (rr, dd) := Option.some.inj hf
    exact sk_iret K dX10_undo_18 rfl rfl (congrArg (fun z => z.1) hR2) rfl (congrArg (fun z => z.2) hR2)
  · rw [if_neg h1] at hf
    refine sk_iload_n K dX10_undo_5 rfl 1 rfl ?_
    refine sk_aload_n K dX10_undo_6 rfl 0 rfl ?_
    obtain ⟨v3, e4, hf⟩ := sk_ob hf
    refine sk_getR K dX10_undo_7 fl_X10_47 rfl e4 ?_
    obtain ⟨v5, e6, hf⟩ := sk_ob hf
    refine sk_getI K dX10_undo_10 fl_X10_194 rfl e6 ?_
    refine sk_icmp_le 19 K dX10_undo_13 (by decide) (fun h7 => ?_) (fun h7 => ?_)
    · rw [if_pos h7] at hf
      refine sk_aload_n K dX10_undo_19 rfl 0 rfl ?_
      obtain ⟨v8, e9, hf⟩ := sk_ob hf
      refine sk_getR K dX10_undo_20 fl_X10_47 rfl e9 ?_
      refine sk_iload_n K dX10_undo_23 rfl 1 rfl ?_
      obtain ⟨h13, hf⟩ := sk_ib hf
      obtain ⟨d12, e11, hf⟩ := sk_ob hf
      refine sk_callV (As := [.int p1]) (st := []) K dX10_undo_24 cl_X10_197 h13 (sX4_goBack C l e11) (by decide) rfl rfl (Nat.le_of_ble_eq_true rfl) R1 R2 ?_
      refine sk_aload_n K dX10_undo_27 rfl 0 rfl ?_
      obtain ⟨v14, e15, hf⟩ := sk_ob hf
      refine sk_getR K dX10_undo_28 fl_X10_47 rfl e15 ?_
      obtain ⟨v16, e17, hf⟩ := sk_ob hf
      refine sk_getI K dX10_undo_31 fl_X10_194 rfl e17 ?_
      have hR18 : (v16, d12) = (rr, dd) := Option.some.inj hf
      exact sk_iret K dX10_undo_34 rfl rfl (congrArg (fun z => z.1) hR18) rfl (congrArg (fun z => z.2) hR18)
    · rw [if_neg h7] at hf
      refine sk_bipush (-3 : Int32) K dX10_undo_16 (by decide) ?_
      have hR19 : ((-3 : Int32), d) = (rr, dd) := Option.some.inj hf
      exact sk_iret K dX10_undo_18 rfl rfl (congrArg (fun z => z.1) hR19) rfl (congrArg (fun z => z.2) hR19)
noncomputable def fX10_judge (S : sk_S) (d : sk_D) (p0 : Nat) (p1 : Int32) (p2 : Int32) : Option (Int32 × sk_D) :=
  if p1 < 0 then (some ((-2 : Int32), d)) else (if (4 : Int32) ≤ p1 then (some ((-2 : Int32), d)) else (if p2 < 0 then (some ((-2 : Int32), d)) else (if p2 ≤ (3 : Int32) then ((sk_gR S p0 9 6).bind fun v8 => (sk_lR S v8 24 p1).bind fun v10 => (sk_gI S d v10 6 3).bind fun v12 => if v12 = 0 then (some ((-6 : Int32), d)) else ((sk_gR S p0 9 6).bind fun v15 => (sk_lR S v15 24 p1).bind fun v17 => (sk_gR S p0 9 0).bind fun v19 => (sk_gR S p0 9 5).bind fun v21 => (sk_gI S d v21 4 1).bind fun v23 => if S.2.1 v19 = (8, 0) then ((fX9_howMany S d v19 v23 v17).bind fun b29 => (sk_gR S p0 9 0).bind fun v30 => (sk_gR S p0 9 5).bind fun v32 => (sk_gI S b29.2 v32 4 1).bind fun v34 => if S.2.1 v30 = (8, 0) then ((fX9_after S b29.2 v30 v34 v17 b29.1).bind fun b40 => if p2 = (0 : Int32) then ((sk_gI S b40.2 v17 6 2).bind fun v42 => if v42 ≤ b29.1 then (some ((-1 : Int32), b40.2)) else (some (b29.1, b40.2))) else (if p2 = (1 : Int32) then ((sk_gI S b40.2 v17 6 2).bind fun v48 => if v48 ≤ b29.1 then (some ((0 : Int32), b40.2)) else ((sk_gR S p0 9 0).bind fun v52 => if S.2.1 v17 = (6, 0) then ((fX6_at S b40.2 v17 b29.1).bind fun v54 => if S.2.1 v52 = (8, 0) then ((fX9_tryDeed S b40.2 v52 b40.1 v54).bind fun b61 => some (-b61.1, b61.2)) else none) else none)) else (if p2 = (2 : Int32) then ((fX10_doneIn S b40.2 b40.1).bind fun v64 => some (v64, b40.2)) else ((fX10_liningIn S b40.2 b40.1).bind fun v67 => some (v67, b40.2))))) else none) else none)) else (some ((-2 : Int32), d)))))
set_option maxRecDepth 100000 in
set_option maxHeartbeats 4000000 in
theorem sX10_judge (C : sk_C) (l : Launch) {S : sk_S} {d : sk_D} {p0 : Nat} {p1 : Int32} {p2 : Int32} {rr : Int32} {dd : sk_D} (hf : fX10_judge S d p0 p1 p2 = some (rr, dd)) : sk_Met C l 6 yX10_judge cX10_judge 6 (some .int) [.ref p0, .int p1, .int p2] S d (some (.int rr)) S dd := by
  refine sk_Met.of (by decide) (Nat.le_of_ble_eq_true rfl) (Nat.le_refl _) (Nat.le_refl _) (fun X K0 hX => ?_)
  have K : sk_Ok X C cX10_judge 6 RX10 "judge" (some .int) 6 l (some (.int rr)) S dd := K0
  have R1 : X.2.2.2.2.2.2.2.2.2.2.2.1 ≤ S.1.1 ∧ X.2.2.2.2.2.2.2.2.2.2.2.2 ≤ S.1.2 := by rw [hX]; exact ⟨Nat.le_refl _, Nat.le_refl _⟩
  have R2 : S.1.1 ≤ S.1.1 ∧ S.1.2 ≤ S.1.2 := ⟨Nat.le_refl _, Nat.le_refl _⟩
  show sk_G X C 6 S d 0 [(0, .ref p0), (1, .int p1), (2, .int p2)] []
  unfold fX10_judge at hf
  refine sk_iload_n K dX10_judge_0 rfl 1 rfl ?_
  refine sk_if_lt 18 K dX10_judge_1 (by decide) (fun h1 => ?_) (fun h1 => ?_)
  · rw [if_pos h1] at hf
    refine sk_bipush (-2 : Int32) K dX10_judge_18 (by decide) ?_
    have hR2 : ((-2 : Int32), d) = (rr, dd) := Option.some.inj hf
    exact sk_iret K dX10_judge_20 rfl rfl (congrArg (fun z => z.1) hR2) rfl (congrArg (fun z => z.2) hR2)
  · rw [if_neg h1] at hf
    refine sk_iload_n K dX10_judge_4 rfl 1 rfl ?_
    refine sk_iconst (4 : Int32) K dX10_judge_5 (by decide) ?_
    refine sk_icmp_ge 18 K dX10_judge_6 (by decide) (fun h3 => ?_) (fun h3 => ?_)
    · rw [if_pos h3] at hf
      refine sk_bipush (-2 : Int32) K dX10_judge_18 (by decide) ?_
      have hR4 : ((-2 : Int32), d) = (rr, dd) := Option.some.inj hf
      exact sk_iret K dX10_judge_20 rfl rfl (congrArg (fun z => z.1) hR4) rfl (congrArg (fun z => z.2) hR4)
    · rw [if_neg h3] at hf
      refine sk_iload_n K dX10_judge_9 rfl 2 rfl ?_
      refine sk_if_lt 18 K dX10_judge_10 (by decide) (fun h5 => ?_) (fun h5 => ?_)
      · rw [if_pos h5] at hf
        refine sk_bipush (-2 : Int32) K dX10_judge_18 (by decide) ?_
        have hR6 : ((-2 : Int32), d) = (rr, dd) := Option.some.inj hf
        exact sk_iret K dX10_judge_20 rfl rfl (congrArg (fun z => z.1) hR6) rfl (congrArg (fun z => z.2) hR6)
      · rw [if_neg h5] at hf
        refine sk_iload_n K dX10_judge_13 rfl 2 rfl ?_
        refine sk_iconst (3 : Int32) K dX10_judge_14 (by decide) ?_
        refine sk_icmp_le 21 K dX10_judge_15 (by decide) (fun h7 => ?_) (fun h7 => ?_)
        · rw [if_pos h7] at hf
          refine sk_aload_n K dX10_judge_21 rfl 0 rfl ?_
          obtain ⟨v8, e9, hf⟩ := sk_ob hf
          refine sk_getR K dX10_judge_22 fl_X10_53 rfl e9 ?_
          refine sk_iload_n K dX10_judge_25 rfl 1 rfl ?_
          obtain ⟨v10, e11, hf⟩ := sk_ob hf
          refine sk_ald24 K dX10_judge_26 e11 ?_
          obtain ⟨v12, e13, hf⟩ := sk_ob hf
          refine sk_getI K dX10_judge_27 fl_X10_200 rfl e13 ?_
          refine sk_if_ne 36 K dX10_judge_30 (by decide) (fun h14 => ?_) (fun h14 => ?_)
          · rw [if_neg h14] at hf
            refine sk_aload_n K dX10_judge_36 rfl 0 rfl ?_
            obtain ⟨v15, e16, hf⟩ := sk_ob hf
            refine sk_getR K dX10_judge_37 fl_X10_53 rfl e16 ?_
            refine sk_iload_n K dX10_judge_40 rfl 1 rfl ?_
            obtain ⟨v17, e18, hf⟩ := sk_ob hf
            refine sk_ald24 K dX10_judge_41 e18 ?_
            refine sk_astore_n [(3, .ref v17), (0, .ref p0), (1, .int p1), (2, .int p2)] K dX10_judge_42 rfl (by decide) rfl ?_
            refine sk_aload_n K dX10_judge_43 rfl 1 rfl ?_
            obtain ⟨v19, e20, hf⟩ := sk_ob hf
            refine sk_getR K dX10_judge_44 fl_X10_10 rfl e20 ?_
            refine sk_aload_n K dX10_judge_47 rfl 1 rfl ?_
            obtain ⟨v21, e22, hf⟩ := sk_ob hf
            refine sk_getR K dX10_judge_48 fl_X10_47 rfl e22 ?_
            obtain ⟨v23, e24, hf⟩ := sk_ob hf
            refine sk_getI K dX10_judge_51 fl_X10_120 rfl e24 ?_
            refine sk_aload_n K dX10_judge_54 rfl 0 rfl ?_
            obtain ⟨h28, hf⟩ := sk_ib hf
            obtain ⟨⟨v25, d27⟩, e26, hf⟩ := sk_ob hf
            try dsimp only at hf
            refine sk_callV (As := [.int v23, .ref v17]) (st := []) K dX10_judge_55 cl_X10_204 h28 (sX9_howMany C l e26) (by decide) rfl rfl (Nat.le_of_ble_eq_true rfl) R1 R2 ?_
            refine sk_istore [(4, .int v25), (3, .ref v17), (0, .ref p0), (1, .int p1), (2, .int p2)] K dX10_judge_58 (by decide) rfl ?_
            refine sk_aload_n K dX10_judge_60 rfl 2 rfl ?_
            obtain ⟨v30, e31, hf⟩ := sk_ob hf
            refine sk_getR K dX10_judge_61 fl_X10_10 rfl e31 ?_
            refine sk_aload_n K dX10_judge_64 rfl 2 rfl ?_
            obtain ⟨v32, e33, hf⟩ := sk_ob hf
            refine sk_getR K dX10_judge_65 fl_X10_47 rfl e33 ?_
            obtain ⟨v34, e35, hf⟩ := sk_ob hf
            refine sk_getI K dX10_judge_68 fl_X10_120 rfl e35 ?_
            refine sk_aload_n K dX10_judge_71 rfl 1 rfl ?_
            refine sk_iload K dX10_judge_72 0 rfl ?_
            obtain ⟨h39, hf⟩ := sk_ib hf
            obtain ⟨⟨v36, d38⟩, e37, hf⟩ := sk_ob hf
            try dsimp only at hf
            refine sk_callV (As := [.int v34, .ref v17, .int v25]) (st := []) K dX10_judge_74 cl_X10_208 h39 (sX9_after C l e37) (by decide) rfl rfl (Nat.le_of_ble_eq_true rfl) R1 R2 ?_
            refine sk_istore [(5, .int v36), (4, .int v25), (3, .ref v17), (0, .ref p0), (1, .int p1), (2, .int p2)] K dX10_judge_77 (by decide) rfl ?_
            refine sk_iload_n K dX10_judge_79 rfl 5 rfl ?_
            by_cases h41 : p2 = (0 : Int32)
            · rw [if_pos h41] at hf
              refine sk_tsIn (0 : Int32) (28) 108 K dX10_judge_80 h41 (by decide) (by decide) rfl (by decide) ?_
              refine sk_iload K dX10_judge_108 1 rfl ?_
              refine sk_aload_n K dX10_judge_110 rfl 2 rfl ?_
              obtain ⟨v42, e43, hf⟩ := sk_ob hf
              refine sk_getI K dX10_judge_111 fl_X10_212 rfl e43 ?_
              refine sk_icmp_ge 122 K dX10_judge_114 (by decide) (fun h44 => ?_) (fun h44 => ?_)
              · rw [if_pos h44] at hf
                refine sk_iconst (-1 : Int32) K dX10_judge_122 (by decide) ?_
                have hR45 : ((-1 : Int32), d38) = (rr, dd) := Option.some.inj hf
                exact sk_iret K dX10_judge_123 rfl rfl (congrArg (fun z => z.1) hR45) rfl (congrArg (fun z => z.2) hR45)
              · rw [if_neg h44] at hf
                refine sk_iload K dX10_judge_117 1 rfl ?_
                refine sk_goto 123 K dX10_judge_119 (by decide) ?_
                have hR46 : (v25, d38) = (rr, dd) := Option.some.inj hf
                exact sk_iret K dX10_judge_123 rfl rfl (congrArg (fun z => z.1) hR46) rfl (congrArg (fun z => z.2) hR46)
            · rw [if_neg h41] at hf
              by_cases h47 : p2 = (1 : Int32)
              · rw [if_pos h47] at hf
                refine sk_tsIn (1 : Int32) (44) 124 K dX10_judge_80 h47 (by decide) (by decide) rfl (by decide) ?_
                refine sk_iload K dX10_judge_124 1 rfl ?_
                refine sk_aload_n K dX10_judge_126 rfl 2 rfl ?_
                obtain ⟨v48, e49, hf⟩ := sk_ob hf
                refine sk_getI K dX10_judge_127 fl_X10_212 rfl e49 ?_
                refine sk_icmp_ge 152 K dX10_judge_130 (by decide) (fun h50 => ?_) (fun h50 => ?_)
                · rw [if_pos h50] at hf
                  refine sk_iconst (0 : Int32) K dX10_judge_152 (by decide) ?_
                  have hR51 : ((0 : Int32), d38) = (rr, dd) := Option.some.inj hf
                  exact sk_iret K dX10_judge_153 rfl rfl (congrArg (fun z => z.1) hR51) rfl (congrArg (fun z => z.2) hR51)
                · rw [if_neg h50] at hf
                  refine sk_aload_n K dX10_judge_133 rfl 3 rfl ?_
                  obtain ⟨v52, e53, hf⟩ := sk_ob hf
                  refine sk_getR K dX10_judge_134 fl_X10_10 rfl e53 ?_
                  refine sk_iload K dX10_judge_137 0 rfl ?_
                  refine sk_aload_n K dX10_judge_139 rfl 2 rfl ?_
                  refine sk_iload K dX10_judge_140 1 rfl ?_
                  obtain ⟨h56, hf⟩ := sk_ib hf
                  obtain ⟨v54, e55, hf⟩ := sk_ob hf
                  refine sk_callV (As := [.int v25]) (st := [.int v36, .ref v52]) K dX10_judge_142 cl_X10_213 h56 (sX6_at C l e55) (by decide) rfl rfl (Nat.le_of_ble_eq_true rfl) R1 R2 ?_
                  obtain ⟨h60, hf⟩ := sk_ib hf
                  obtain ⟨⟨v57, d59⟩, e58, hf⟩ := sk_ob hf
                  try dsimp only at hf
                  refine sk_callV (As := [.int v36, .long v54]) (st := []) K dX10_judge_145 cl_X10_187 h60 (sX9_tryDeed C l e58) (by decide) rfl rfl (Nat.le_of_ble_eq_true rfl) R1 R2 ?_
                  refine sk_ineg K dX10_judge_148 ?_
                  refine sk_goto 153 K dX10_judge_149 (by decide) ?_
                  have hR62 : (-v57, d59) = (rr, dd) := Option.some.inj hf
                  exact sk_iret K dX10_judge_153 rfl rfl (congrArg (fun z => z.1) hR62) rfl (congrArg (fun z => z.2) hR62)
              · rw [if_neg h47] at hf
                by_cases h63 : p2 = (2 : Int32)
                · rw [if_pos h63] at hf
                  refine sk_tsIn (2 : Int32) (74) 154 K dX10_judge_80 h63 (by decide) (by decide) rfl (by decide) ?_
                  refine sk_iload K dX10_judge_154 0 rfl ?_
                  obtain ⟨v64, e65, hf⟩ := sk_ob hf
                  refine sk_callS (As := [.int v36]) (st := []) K dX10_judge_156 cl_X10_158 (sX10_doneIn C l e65) (by decide) rfl rfl (Nat.le_of_ble_eq_true rfl) R1 R2 ?_
                  have hR66 : (v64, d38) = (rr, dd) := Option.some.inj hf
                  exact sk_iret K dX10_judge_159 rfl rfl (congrArg (fun z => z.1) hR66) rfl (congrArg (fun z => z.2) hR66)
                · rw [if_neg h63] at hf
                  refine sk_tsOut 160 K dX10_judge_80 (sk_tsout (0) 3 [(0 : Int32), (1 : Int32), (2 : Int32)] (by decide) (by simp [h41, h47, h63])) (by decide) ?_
                  refine sk_iload K dX10_judge_160 0 rfl ?_
                  obtain ⟨v67, e68, hf⟩ := sk_ob hf
                  refine sk_callS (As := [.int v36]) (st := []) K dX10_judge_162 cl_X10_170 (sX10_liningIn C l e68) (by decide) rfl rfl (Nat.le_of_ble_eq_true rfl) R1 R2 ?_
                  have hR69 : (v67, d38) = (rr, dd) := Option.some.inj hf
                  exact sk_iret K dX10_judge_165 rfl rfl (congrArg (fun z => z.1) hR69) rfl (congrArg (fun z => z.2) hR69)
          · rw [if_pos h14] at hf
            refine sk_bipush (-6 : Int32) K dX10_judge_33 (by decide) ?_
            have hR70 : ((-6 : Int32), d) = (rr, dd) := Option.some.inj hf
            exact sk_iret K dX10_judge_35 rfl rfl (congrArg (fun z => z.1) hR70) rfl (congrArg (fun z => z.2) hR70)
        · rw [if_neg h7] at hf
          refine sk_bipush (-2 : Int32) K dX10_judge_18 (by decide) ?_
          have hR71 : ((-2 : Int32), d) = (rr, dd) := Option.some.inj hf
          exact sk_iret K dX10_judge_20 rfl rfl (congrArg (fun z => z.1) hR71) rfl (congrArg (fun z => z.2) hR71)
noncomputable def fX10_noTray (S : sk_S) (d : sk_D) (p0 : Nat) (p1 : Int32) : Option (Int32) :=
  if p1 < 0 then (some (-2 : Int32)) else (if p1 < (4 : Int32) then ((sk_gR S p0 9 6).bind fun v4 => (sk_lR S v4 24 p1).bind fun v6 => (sk_gI S d v6 6 3).bind fun v8 => if v8 = 0 then (some (-6 : Int32)) else (some (0 : Int32))) else (some (-2 : Int32)))
set_option maxRecDepth 100000 in
set_option maxHeartbeats 4000000 in
theorem sX10_noTray (C : sk_C) (l : Launch) {S : sk_S} {d : sk_D} {p0 : Nat} {p1 : Int32} {rr : Int32} (hf : fX10_noTray S d p0 p1 = some rr) : sk_Met C l 0 yX10_noTray cX10_noTray 2 (some .int) [.ref p0, .int p1] S d (some (.int rr)) S d := by
  refine sk_Met.of (by decide) (Nat.le_of_ble_eq_true rfl) (Nat.le_refl _) (Nat.le_refl _) (fun X K0 hX => ?_)
  have K : sk_Ok X C cX10_noTray 2 RX10 "noTray" (some .int) 0 l (some (.int rr)) S d := K0
  have R1 : X.2.2.2.2.2.2.2.2.2.2.2.1 ≤ S.1.1 ∧ X.2.2.2.2.2.2.2.2.2.2.2.2 ≤ S.1.2 := by rw [hX]; exact ⟨Nat.le_refl _, Nat.le_refl _⟩
  have R2 : S.1.1 ≤ S.1.1 ∧ S.1.2 ≤ S.1.2 := ⟨Nat.le_refl _, Nat.le_refl _⟩
  show sk_G X C 2 S d 0 [(0, .ref p0), (1, .int p1)] []
  unfold fX10_noTray at hf
  refine sk_iload_n K dX10_noTray_0 rfl 1 rfl ?_
  refine sk_if_lt 9 K dX10_noTray_1 (by decide) (fun h1 => ?_) (fun h1 => ?_)
  · rw [if_pos h1] at hf
    refine sk_bipush (-2 : Int32) K dX10_noTray_9 (by decide) ?_
    have hR2 : (-2 : Int32) = rr := Option.some.inj hf
    exact sk_iret K dX10_noTray_11 rfl rfl hR2 rfl rfl
  · rw [if_neg h1] at hf
    refine sk_iload_n K dX10_noTray_4 rfl 1 rfl ?_
    refine sk_iconst (4 : Int32) K dX10_noTray_5 (by decide) ?_
    refine sk_icmp_lt 12 K dX10_noTray_6 (by decide) (fun h3 => ?_) (fun h3 => ?_)
    · rw [if_pos h3] at hf
      refine sk_aload_n K dX10_noTray_12 rfl 0 rfl ?_
      obtain ⟨v4, e5, hf⟩ := sk_ob hf
      refine sk_getR K dX10_noTray_13 fl_X10_53 rfl e5 ?_
      refine sk_iload_n K dX10_noTray_16 rfl 1 rfl ?_
      obtain ⟨v6, e7, hf⟩ := sk_ob hf
      refine sk_ald24 K dX10_noTray_17 e7 ?_
      obtain ⟨v8, e9, hf⟩ := sk_ob hf
      refine sk_getI K dX10_noTray_18 fl_X10_200 rfl e9 ?_
      refine sk_if_eq 28 K dX10_noTray_21 (by decide) (fun h10 => ?_) (fun h10 => ?_)
      · rw [if_pos h10] at hf
        refine sk_bipush (-6 : Int32) K dX10_noTray_28 (by decide) ?_
        have hR11 : (-6 : Int32) = rr := Option.some.inj hf
        exact sk_iret K dX10_noTray_30 rfl rfl hR11 rfl rfl
      · rw [if_neg h10] at hf
        refine sk_iconst (0 : Int32) K dX10_noTray_24 (by decide) ?_
        refine sk_goto 30 K dX10_noTray_25 (by decide) ?_
        have hR12 : (0 : Int32) = rr := Option.some.inj hf
        exact sk_iret K dX10_noTray_30 rfl rfl hR12 rfl rfl
    · rw [if_neg h3] at hf
      refine sk_bipush (-2 : Int32) K dX10_noTray_9 (by decide) ?_
      have hR13 : (-2 : Int32) = rr := Option.some.inj hf
      exact sk_iret K dX10_noTray_11 rfl rfl hR13 rfl rfl
noncomputable def fX10_perform (S : sk_S) (d : sk_D) (p0 : Nat) (p1 : Int32) : Option (Int32 × sk_D) :=
  if S.2.1 p0 = (9, 0) then ((fX10_noTray S d p0 p1).bind fun v1 => if v1 = 0 then ((sk_gR S p0 9 0).bind fun v5 => (sk_gR S p0 9 5).bind fun v7 => (sk_gI S d v7 4 1).bind fun v9 => (sk_gR S p0 9 6).bind fun v11 => (sk_lR S v11 24 p1).bind fun v13 => if S.2.1 v5 = (8, 0) then ((fX9_howMany S d v5 v9 v13).bind fun b19 => if b19.1 ≤ 0 then (some (b19.1, b19.2)) else ((sk_gR S p0 9 5).bind fun v22 => (sk_gR S p0 9 0).bind fun v24 => (sk_gR S p0 9 5).bind fun v26 => (sk_gI S b19.2 v26 4 1).bind fun v28 => (sk_gR S p0 9 6).bind fun v30 => (sk_lR S v30 24 p1).bind fun v32 => if S.2.1 v24 = (8, 0) then ((fX9_after S b19.2 v24 v28 v32 b19.1).bind fun b38 => if S.2.1 v22 = (4, 0) then ((fX4_goOn S b38.2 v22 b38.1).bind fun d41 => some (b19.1, d41)) else none) else none)) else none) else (some (v1, d))) else none
set_option maxRecDepth 100000 in
set_option maxHeartbeats 4000000 in
theorem sX10_perform (C : sk_C) (l : Launch) {S : sk_S} {d : sk_D} {p0 : Nat} {p1 : Int32} {rr : Int32} {dd : sk_D} (hf : fX10_perform S d p0 p1 = some (rr, dd)) : sk_Met C l 6 yX10_perform cX10_perform 4 (some .int) [.ref p0, .int p1] S d (some (.int rr)) S dd := by
  refine sk_Met.of (by decide) (Nat.le_of_ble_eq_true rfl) (Nat.le_refl _) (Nat.le_refl _) (fun X K0 hX => ?_)
  have K : sk_Ok X C cX10_perform 4 RX10 "perform" (some .int) 6 l (some (.int rr)) S dd := K0
  have R1 : X.2.2.2.2.2.2.2.2.2.2.2.1 ≤ S.1.1 ∧ X.2.2.2.2.2.2.2.2.2.2.2.2 ≤ S.1.2 := by rw [hX]; exact ⟨Nat.le_refl _, Nat.le_refl _⟩
  have R2 : S.1.1 ≤ S.1.1 ∧ S.1.2 ≤ S.1.2 := ⟨Nat.le_refl _, Nat.le_refl _⟩
  show sk_G X C 4 S d 0 [(0, .ref p0), (1, .int p1)] []
  unfold fX10_perform at hf
  refine sk_aload_n K dX10_perform_0 rfl 0 rfl ?_
  refine sk_iload_n K dX10_perform_1 rfl 1 rfl ?_
  obtain ⟨h3, hf⟩ := sk_ib hf
  obtain ⟨v1, e2, hf⟩ := sk_ob hf
  refine sk_callV (As := [.int p1]) (st := []) K dX10_perform_2 cl_X10_217 h3 (sX10_noTray C l e2) (by decide) rfl rfl (Nat.le_of_ble_eq_true rfl) R1 R2 ?_
  refine sk_istore_n [(2, .int v1), (0, .ref p0), (1, .int p1)] K dX10_perform_5 rfl (by decide) rfl ?_
  refine sk_iload_n K dX10_perform_6 rfl 0 rfl ?_
  refine sk_if_eq 12 K dX10_perform_7 (by decide) (fun h4 => ?_) (fun h4 => ?_)
  · rw [if_pos h4] at hf
    refine sk_aload_n K dX10_perform_12 rfl 1 rfl ?_
    obtain ⟨v5, e6, hf⟩ := sk_ob hf
    refine sk_getR K dX10_perform_13 fl_X10_10 rfl e6 ?_
    refine sk_aload_n K dX10_perform_16 rfl 1 rfl ?_
    obtain ⟨v7, e8, hf⟩ := sk_ob hf
    refine sk_getR K dX10_perform_17 fl_X10_47 rfl e8 ?_
    obtain ⟨v9, e10, hf⟩ := sk_ob hf
    refine sk_getI K dX10_perform_20 fl_X10_120 rfl e10 ?_
    refine sk_aload_n K dX10_perform_23 rfl 1 rfl ?_
    obtain ⟨v11, e12, hf⟩ := sk_ob hf
    refine sk_getR K dX10_perform_24 fl_X10_53 rfl e12 ?_
    refine sk_iload_n K dX10_perform_27 rfl 2 rfl ?_
    obtain ⟨v13, e14, hf⟩ := sk_ob hf
    refine sk_ald24 K dX10_perform_28 e14 ?_
    obtain ⟨h18, hf⟩ := sk_ib hf
    obtain ⟨⟨v15, d17⟩, e16, hf⟩ := sk_ob hf
    try dsimp only at hf
    refine sk_callV (As := [.int v9, .ref v13]) (st := []) K dX10_perform_29 cl_X10_204 h18 (sX9_howMany C l e16) (by decide) rfl rfl (Nat.le_of_ble_eq_true rfl) R1 R2 ?_
    refine sk_istore_n [(3, .int v15), (2, .int v1), (0, .ref p0), (1, .int p1)] K dX10_perform_32 rfl (by decide) rfl ?_
    refine sk_iload_n K dX10_perform_33 rfl 0 rfl ?_
    refine sk_if_le 65 K dX10_perform_34 (by decide) (fun h20 => ?_) (fun h20 => ?_)
    · rw [if_pos h20] at hf
      refine sk_iload_n K dX10_perform_65 rfl 0 rfl ?_
      have hR21 : (v15, d17) = (rr, dd) := Option.some.inj hf
      exact sk_iret K dX10_perform_66 rfl rfl (congrArg (fun z => z.1) hR21) rfl (congrArg (fun z => z.2) hR21)
    · rw [if_neg h20] at hf
      refine sk_aload_n K dX10_perform_37 rfl 2 rfl ?_
      obtain ⟨v22, e23, hf⟩ := sk_ob hf
      refine sk_getR K dX10_perform_38 fl_X10_47 rfl e23 ?_
      refine sk_aload_n K dX10_perform_41 rfl 2 rfl ?_
      obtain ⟨v24, e25, hf⟩ := sk_ob hf
      refine sk_getR K dX10_perform_42 fl_X10_10 rfl e25 ?_
      refine sk_aload_n K dX10_perform_45 rfl 2 rfl ?_
      obtain ⟨v26, e27, hf⟩ := sk_ob hf
      refine sk_getR K dX10_perform_46 fl_X10_47 rfl e27 ?_
      obtain ⟨v28, e29, hf⟩ := sk_ob hf
      refine sk_getI K dX10_perform_49 fl_X10_120 rfl e29 ?_
      refine sk_aload_n K dX10_perform_52 rfl 2 rfl ?_
      obtain ⟨v30, e31, hf⟩ := sk_ob hf
      refine sk_getR K dX10_perform_53 fl_X10_53 rfl e31 ?_
      refine sk_iload_n K dX10_perform_56 rfl 3 rfl ?_
      obtain ⟨v32, e33, hf⟩ := sk_ob hf
      refine sk_ald24 K dX10_perform_57 e33 ?_
      refine sk_iload_n K dX10_perform_58 rfl 0 rfl ?_
      obtain ⟨h37, hf⟩ := sk_ib hf
      obtain ⟨⟨v34, d36⟩, e35, hf⟩ := sk_ob hf
      try dsimp only at hf
      refine sk_callV (As := [.int v28, .ref v32, .int v15]) (st := [.ref v22]) K dX10_perform_59 cl_X10_208 h37 (sX9_after C l e35) (by decide) rfl rfl (Nat.le_of_ble_eq_true rfl) R1 R2 ?_
      obtain ⟨h42, hf⟩ := sk_ib hf
      obtain ⟨d41, e40, hf⟩ := sk_ob hf
      refine sk_callV (As := [.int v34]) (st := []) K dX10_perform_62 cl_X10_191 h42 (sX4_goOn C l e40) (by decide) rfl rfl (Nat.le_of_ble_eq_true rfl) R1 R2 ?_
      refine sk_iload_n K dX10_perform_65 rfl 0 rfl ?_
      have hR43 : (v15, d41) = (rr, dd) := Option.some.inj hf
      exact sk_iret K dX10_perform_66 rfl rfl (congrArg (fun z => z.1) hR43) rfl (congrArg (fun z => z.2) hR43)
  · rw [if_neg h4] at hf
    refine sk_iload_n K dX10_perform_10 rfl 0 rfl ?_
    have hR44 : (v1, d) = (rr, dd) := Option.some.inj hf
    exact sk_iret K dX10_perform_11 rfl rfl (congrArg (fun z => z.1) hR44) rfl (congrArg (fun z => z.2) hR44)
noncomputable def fX10_kindDrawn (S : sk_S) (d : sk_D) (p0 : Int32) : Option (Int32) :=
  if (4 : Int32) ≤ p0 then (if p0 = (4 : Int32) then (some (1 : Int32)) else (if p0 = (5 : Int32) then (some (2 : Int32)) else (some (3 : Int32)))) else (some (0 : Int32))
set_option maxRecDepth 100000 in
set_option maxHeartbeats 4000000 in
theorem sX10_kindDrawn (C : sk_C) (l : Launch) {S : sk_S} {d : sk_D} {p0 : Int32} {rr : Int32} (hf : fX10_kindDrawn S d p0 = some rr) : sk_Met C l 0 yX10_kindDrawn cX10_kindDrawn 1 (some .int) [.int p0] S d (some (.int rr)) S d := by
  refine sk_Met.of (by decide) (Nat.le_of_ble_eq_true rfl) (Nat.le_refl _) (Nat.le_refl _) (fun X K0 hX => ?_)
  have K : sk_Ok X C cX10_kindDrawn 1 RX10 "kindDrawn" (some .int) 0 l (some (.int rr)) S d := K0
  have R1 : X.2.2.2.2.2.2.2.2.2.2.2.1 ≤ S.1.1 ∧ X.2.2.2.2.2.2.2.2.2.2.2.2 ≤ S.1.2 := by rw [hX]; exact ⟨Nat.le_refl _, Nat.le_refl _⟩
  have R2 : S.1.1 ≤ S.1.1 ∧ S.1.2 ≤ S.1.2 := ⟨Nat.le_refl _, Nat.le_refl _⟩
  show sk_G X C 1 S d 0 [(0, .int p0)] []
  unfold fX10_kindDrawn at hf
  refine sk_iload_n K dX10_kindDrawn_0 rfl 0 rfl ?_
  refine sk_iconst (4 : Int32) K dX10_kindDrawn_1 (by decide) ?_
  refine sk_icmp_ge 7 K dX10_kindDrawn_2 (by decide) (fun h1 => ?_) (fun h1 => ?_)
  · rw [if_pos h1] at hf
    refine sk_iload_n K dX10_kindDrawn_7 rfl 0 rfl ?_
    refine sk_iconst (4 : Int32) K dX10_kindDrawn_8 (by decide) ?_
    refine sk_icmp_ne 14 K dX10_kindDrawn_9 (by decide) (fun h2 => ?_) (fun h2 => ?_)
    · rw [if_neg h2] at hf
      refine sk_iload_n K dX10_kindDrawn_14 rfl 0 rfl ?_
      refine sk_iconst (5 : Int32) K dX10_kindDrawn_15 (by decide) ?_
      refine sk_icmp_ne 23 K dX10_kindDrawn_16 (by decide) (fun h3 => ?_) (fun h3 => ?_)
      · rw [if_neg h3] at hf
        refine sk_iconst (3 : Int32) K dX10_kindDrawn_23 (by decide) ?_
        have hR4 : (3 : Int32) = rr := Option.some.inj hf
        exact sk_iret K dX10_kindDrawn_24 rfl rfl hR4 rfl rfl
      · rw [if_pos h3] at hf
        refine sk_iconst (2 : Int32) K dX10_kindDrawn_19 (by decide) ?_
        refine sk_goto 24 K dX10_kindDrawn_20 (by decide) ?_
        have hR5 : (2 : Int32) = rr := Option.some.inj hf
        exact sk_iret K dX10_kindDrawn_24 rfl rfl hR5 rfl rfl
    · rw [if_pos h2] at hf
      refine sk_iconst (1 : Int32) K dX10_kindDrawn_12 (by decide) ?_
      have hR6 : (1 : Int32) = rr := Option.some.inj hf
      exact sk_iret K dX10_kindDrawn_13 rfl rfl hR6 rfl rfl
  · rw [if_neg h1] at hf
    refine sk_iconst (0 : Int32) K dX10_kindDrawn_5 (by decide) ?_
    have hR7 : (0 : Int32) = rr := Option.some.inj hf
    exact sk_iret K dX10_kindDrawn_6 rfl rfl hR7 rfl rfl
noncomputable def fX10_year_L31 (S : sk_S) (p0 : Nat) (p2 : Int32) (s1 : Int32 × Int32 × Int32 × Int32 × sk_D) : Option ((Int32 × Int32 × Int32 × Int32 × sk_D) ⊕ (Int32 × Int32 × sk_D)) :=
  if p2 ≤ s1.2.2.2.1 then (some (.inr (s1.2.1, s1.2.2.1, s1.2.2.2.2))) else ((fX10_kindDrawn S s1.2.2.2.2 ((((((1103515245 : Int32) * s1.1) + (12345 : Int32)).toUInt32 >>> ((16 : Int32).toUInt32 &&& Int32.toUInt32 31)).toInt32) - (((((1103515245 : Int32) * s1.1) + (12345 : Int32)).toUInt32 >>> ((16 : Int32).toUInt32 &&& Int32.toUInt32 31)).toInt32) / (8 : Int32) * (8 : Int32))).bind fun v18 => (sk_gR S p0 9 0).bind fun v20 => if S.2.1 v20 = (8, 0) then ((fX9_tryDeed S s1.2.2.2.2 v20 s1.2.1 (((v18 * (10 : Int32)) + ((((((1103515245 : Int32) * (((1103515245 : Int32) * s1.1) + (12345 : Int32))) + (12345 : Int32)).toUInt32 >>> ((16 : Int32).toUInt32 &&& Int32.toUInt32 31)).toInt32) - (((((1103515245 : Int32) * (((1103515245 : Int32) * s1.1) + (12345 : Int32))) + (12345 : Int32)).toUInt32 >>> ((16 : Int32).toUInt32 &&& Int32.toUInt32 31)).toInt32) / (8 : Int32) * (8 : Int32))).toInt64)).bind fun b26 => if b26.1 < 0 then (some (.inl (((1103515245 : Int32) * (((1103515245 : Int32) * s1.1) + (12345 : Int32))) + (12345 : Int32), s1.2.1, s1.2.2.1, s1.2.2.2.1 + 1, b26.2))) else (some (.inl (((1103515245 : Int32) * (((1103515245 : Int32) * s1.1) + (12345 : Int32))) + (12345 : Int32), b26.1, s1.2.2.1 + 1, s1.2.2.2.1 + 1, b26.2)))) else none)
noncomputable def fX10_year (S : sk_S) (d : sk_D) (p0 : Nat) (p1 : Int32) (p2 : Int32) : Option (Int32 × sk_D) :=
  if p2 < (1 : Int32) then (some ((-3 : Int32), d)) else (if p2 ≤ (40 : Int32) then ((sk_gR S p0 9 5).bind fun v4 => (sk_gI S d v4 4 1).bind fun v6 => (sk_itr (fX10_year_L31 S p0 p2) (p1, v6, (0 : Int32), (0 : Int32), d)).bind fun y1 => if y1.2.1 ≤ 0 then (some (y1.2.1, y1.2.2)) else ((sk_gR S p0 9 5).bind fun v10 => if S.2.1 v10 = (4, 0) then ((fX4_goOn S y1.2.2 v10 y1.1).bind fun d14 => some (y1.2.1, d14)) else none)) else (some ((-3 : Int32), d)))
set_option maxRecDepth 100000 in
set_option maxHeartbeats 4000000 in
theorem sX10_year (C : sk_C) (l : Launch) {S : sk_S} {d : sk_D} {p0 : Nat} {p1 : Int32} {p2 : Int32} {rr : Int32} {dd : sk_D} (hf : fX10_year S d p0 p1 p2 = some (rr, dd)) : sk_Met C l 5 yX10_year cX10_year 9 (some .int) [.ref p0, .int p1, .int p2] S d (some (.int rr)) S dd := by
  refine sk_Met.of (by decide) (Nat.le_of_ble_eq_true rfl) (Nat.le_refl _) (Nat.le_refl _) (fun X K0 hX => ?_)
  have K : sk_Ok X C cX10_year 9 RX10 "year" (some .int) 5 l (some (.int rr)) S dd := K0
  have R1 : X.2.2.2.2.2.2.2.2.2.2.2.1 ≤ S.1.1 ∧ X.2.2.2.2.2.2.2.2.2.2.2.2 ≤ S.1.2 := by rw [hX]; exact ⟨Nat.le_refl _, Nat.le_refl _⟩
  have R2 : S.1.1 ≤ S.1.1 ∧ S.1.2 ≤ S.1.2 := ⟨Nat.le_refl _, Nat.le_refl _⟩
  show sk_G X C 9 S d 0 [(0, .ref p0), (1, .int p1), (2, .int p2)] []
  unfold fX10_year at hf
  refine sk_iload_n K dX10_year_0 rfl 2 rfl ?_
  refine sk_iconst (1 : Int32) K dX10_year_1 (by decide) ?_
  refine sk_icmp_lt 11 K dX10_year_2 (by decide) (fun h1 => ?_) (fun h1 => ?_)
  · rw [if_pos h1] at hf
    refine sk_bipush (-3 : Int32) K dX10_year_11 (by decide) ?_
    have hR2 : ((-3 : Int32), d) = (rr, dd) := Option.some.inj hf
    exact sk_iret K dX10_year_13 rfl rfl (congrArg (fun z => z.1) hR2) rfl (congrArg (fun z => z.2) hR2)
  · rw [if_neg h1] at hf
    refine sk_iload_n K dX10_year_5 rfl 2 rfl ?_
    refine sk_bipush (40 : Int32) K dX10_year_6 (by decide) ?_
    refine sk_icmp_le 14 K dX10_year_8 (by decide) (fun h3 => ?_) (fun h3 => ?_)
    · rw [if_pos h3] at hf
      refine sk_iload_n K dX10_year_14 rfl 1 rfl ?_
      refine sk_istore_n [(3, .int p1), (0, .ref p0), (1, .int p1), (2, .int p2)] K dX10_year_15 rfl (by decide) rfl ?_
      refine sk_aload_n K dX10_year_16 rfl 1 rfl ?_
      obtain ⟨v4, e5, hf⟩ := sk_ob hf
      refine sk_getR K dX10_year_17 fl_X10_47 rfl e5 ?_
      obtain ⟨v6, e7, hf⟩ := sk_ob hf
      refine sk_getI K dX10_year_20 fl_X10_120 rfl e7 ?_
      refine sk_istore [(4, .int v6), (3, .int p1), (0, .ref p0), (1, .int p1), (2, .int p2)] K dX10_year_23 (by decide) rfl ?_
      refine sk_iconst (0 : Int32) K dX10_year_25 (by decide) ?_
      refine sk_istore [(5, .int (0 : Int32)), (4, .int v6), (3, .int p1), (0, .ref p0), (1, .int p1), (2, .int p2)] K dX10_year_26 (by decide) rfl ?_
      refine sk_iconst (0 : Int32) K dX10_year_28 (by decide) ?_
      refine sk_istore [(6, .int (0 : Int32)), (5, .int (0 : Int32)), (4, .int v6), (3, .int p1), (0, .ref p0), (1, .int p1), (2, .int p2)] K dX10_year_29 (by decide) rfl ?_
      obtain ⟨x1, he1, hf⟩ := sk_ob hf
      have rest1 : ∀ y1, y1 = x1 → sk_G X C 9 S y1.2.2 110 [(0, .ref p0), (4, .int y1.1), (5, .int y1.2.1)] [] := by
        intro y1 hy
        subst hy
        refine sk_iload K dX10_year_110 2 rfl ?_
        refine sk_if_le 124 K dX10_year_112 (by decide) (fun h8 => ?_) (fun h8 => ?_)
        · rw [if_pos h8] at hf
          refine sk_iload K dX10_year_124 2 rfl ?_
          have hR9 : (y1.2.1, y1.2.2) = (rr, dd) := Option.some.inj hf
          exact sk_iret K dX10_year_126 rfl rfl (congrArg (fun z => z.1) hR9) rfl (congrArg (fun z => z.2) hR9)
        · rw [if_neg h8] at hf
          refine sk_aload_n K dX10_year_115 rfl 0 rfl ?_
          obtain ⟨v10, e11, hf⟩ := sk_ob hf
          refine sk_getR K dX10_year_116 fl_X10_47 rfl e11 ?_
          refine sk_iload K dX10_year_119 1 rfl ?_
          obtain ⟨h15, hf⟩ := sk_ib hf
          obtain ⟨d14, e13, hf⟩ := sk_ob hf
          refine sk_callV (As := [.int y1.1]) (st := []) K dX10_year_121 cl_X10_191 h15 (sX4_goOn C l e13) (by decide) rfl rfl (Nat.le_of_ble_eq_true rfl) R1 R2 ?_
          refine sk_iload K dX10_year_124 2 rfl ?_
          have hR16 : (y1.2.1, d14) = (rr, dd) := Option.some.inj hf
          exact sk_iret K dX10_year_126 rfl rfl (congrArg (fun z => z.1) hR16) rfl (congrArg (fun z => z.2) hR16)
      refine sk_sub [(0, .ref p0), (2, .int p2), (3, .int p1), (4, .int v6), (5, .int (0 : Int32)), (6, .int (0 : Int32))] [4, 6, 3, 2, 1, 0] rfl ?_
      refine sk_loop (fun s1 => sk_G X C 9 S s1.2.2.2.2 31 [(0, .ref p0), (2, .int p2), (3, .int s1.1), (4, .int s1.2.1), (5, .int s1.2.2.1), (6, .int s1.2.2.2.1)] []) he1 (fun s1 o1 hf ih1 hx1 => ?_)
      unfold fX10_year_L31 at hf
      refine sk_iload K dX10_year_31 5 rfl ?_
      refine sk_iload_n K dX10_year_33 rfl 1 rfl ?_
      refine sk_icmp_ge 110 K dX10_year_34 (by decide) (fun h17 => ?_) (fun h17 => ?_)
      · rw [if_pos h17] at hf
        refine sk_sub [(0, .ref p0), (4, .int s1.2.1), (5, .int s1.2.2.1)] [0, 3, 4] rfl ?_
        have h9 := rest1 _ (hx1 _ (Option.some.inj hf).symm)
        exact h9
      · rw [if_neg h17] at hf
        refine sk_ldc K dX10_year_37 qw_946 ?_
        refine sk_iload_n K dX10_year_39 rfl 2 rfl ?_
        refine sk_imul K dX10_year_40 ?_
        refine sk_sipush (12345 : Int32) K dX10_year_41 (by decide) ?_
        refine sk_iadd K dX10_year_44 ?_
        refine sk_istore_n [(3, .int (((1103515245 : Int32) * s1.1) + (12345 : Int32))), (0, .ref p0), (2, .int p2), (4, .int s1.2.1), (5, .int s1.2.2.1), (6, .int s1.2.2.2.1)] K dX10_year_45 rfl (by decide) rfl ?_
        refine sk_iload_n K dX10_year_46 rfl 0 rfl ?_
        refine sk_bipush (16 : Int32) K dX10_year_47 (by decide) ?_
        refine sk_iushr K dX10_year_49 ?_
        refine sk_bipush (8 : Int32) K dX10_year_50 (by decide) ?_
        refine sk_irem K dX10_year_52 (by decide) ?_
        obtain ⟨v18, e19, hf⟩ := sk_ob hf
        refine sk_callS (As := [.int ((((((1103515245 : Int32) * s1.1) + (12345 : Int32)).toUInt32 >>> ((16 : Int32).toUInt32 &&& Int32.toUInt32 31)).toInt32) - (((((1103515245 : Int32) * s1.1) + (12345 : Int32)).toUInt32 >>> ((16 : Int32).toUInt32 &&& Int32.toUInt32 31)).toInt32) / (8 : Int32) * (8 : Int32))]) (st := []) K dX10_year_53 cl_X10_221 (sX10_kindDrawn C l e19) (by decide) rfl rfl (Nat.le_of_ble_eq_true rfl) R1 R2 ?_
        refine sk_istore [(7, .int v18), (3, .int (((1103515245 : Int32) * s1.1) + (12345 : Int32))), (0, .ref p0), (2, .int p2), (4, .int s1.2.1), (5, .int s1.2.2.1), (6, .int s1.2.2.2.1)] K dX10_year_56 (by decide) rfl ?_
        refine sk_ldc K dX10_year_58 qw_946 ?_
        refine sk_iload_n K dX10_year_60 rfl 1 rfl ?_
        refine sk_imul K dX10_year_61 ?_
        refine sk_sipush (12345 : Int32) K dX10_year_62 (by decide) ?_
        refine sk_iadd K dX10_year_65 ?_
        refine sk_istore_n [(3, .int (((1103515245 : Int32) * (((1103515245 : Int32) * s1.1) + (12345 : Int32))) + (12345 : Int32))), (7, .int v18), (0, .ref p0), (2, .int p2), (4, .int s1.2.1), (5, .int s1.2.2.1), (6, .int s1.2.2.2.1)] K dX10_year_66 rfl (by decide) rfl ?_
        refine sk_aload_n K dX10_year_67 rfl 2 rfl ?_
        obtain ⟨v20, e21, hf⟩ := sk_ob hf
        refine sk_getR K dX10_year_68 fl_X10_10 rfl e21 ?_
        refine sk_iload K dX10_year_71 4 rfl ?_
        refine sk_iload K dX10_year_73 1 rfl ?_
        refine sk_bipush (10 : Int32) K dX10_year_75 (by decide) ?_
        refine sk_imul K dX10_year_77 ?_
        refine sk_iload_n K dX10_year_78 rfl 0 rfl ?_
        refine sk_bipush (16 : Int32) K dX10_year_79 (by decide) ?_
        refine sk_iushr K dX10_year_81 ?_
        refine sk_bipush (8 : Int32) K dX10_year_82 (by decide) ?_
        refine sk_irem K dX10_year_84 (by decide) ?_
        refine sk_iadd K dX10_year_85 ?_
        refine sk_i2l K dX10_year_86 ?_
        obtain ⟨h25, hf⟩ := sk_ib hf
        obtain ⟨⟨v22, d24⟩, e23, hf⟩ := sk_ob hf
        try dsimp only at hf
        refine sk_callV (As := [.int s1.2.1, .long (((v18 * (10 : Int32)) + ((((((1103515245 : Int32) * (((1103515245 : Int32) * s1.1) + (12345 : Int32))) + (12345 : Int32)).toUInt32 >>> ((16 : Int32).toUInt32 &&& Int32.toUInt32 31)).toInt32) - (((((1103515245 : Int32) * (((1103515245 : Int32) * s1.1) + (12345 : Int32))) + (12345 : Int32)).toUInt32 >>> ((16 : Int32).toUInt32 &&& Int32.toUInt32 31)).toInt32) / (8 : Int32) * (8 : Int32))).toInt64)]) (st := []) K dX10_year_87 cl_X10_187 h25 (sX9_tryDeed C l e23) (by decide) rfl rfl (Nat.le_of_ble_eq_true rfl) R1 R2 ?_
        refine sk_istore [(8, .int v22), (3, .int (((1103515245 : Int32) * (((1103515245 : Int32) * s1.1) + (12345 : Int32))) + (12345 : Int32))), (7, .int v18), (0, .ref p0), (2, .int p2), (4, .int s1.2.1), (5, .int s1.2.2.1), (6, .int s1.2.2.2.1)] K dX10_year_90 (by decide) rfl ?_
        refine sk_iload K dX10_year_92 0 rfl ?_
        refine sk_if_lt 104 K dX10_year_94 (by decide) (fun h27 => ?_) (fun h27 => ?_)
        · rw [if_pos h27] at hf
          refine sk_iinc (s1.2.2.2.1 + 1) [(6, .int (s1.2.2.2.1 + 1)), (8, .int v22), (3, .int (((1103515245 : Int32) * (((1103515245 : Int32) * s1.1) + (12345 : Int32))) + (12345 : Int32))), (7, .int v18), (0, .ref p0), (2, .int p2), (4, .int s1.2.1), (5, .int s1.2.2.1)] K dX10_year_104 7 rfl rfl (by decide) rfl ?_
          refine sk_goto 31 K dX10_year_107 (by decide) ?_
          refine sk_sub [(0, .ref p0), (2, .int p2), (3, .int (((1103515245 : Int32) * (((1103515245 : Int32) * s1.1) + (12345 : Int32))) + (12345 : Int32))), (4, .int s1.2.1), (5, .int s1.2.2.1), (6, .int (s1.2.2.2.1 + 1))] [4, 5, 2, 6, 7, 0] rfl ?_
          have h9 := ih1 _ (Option.some.inj hf).symm
          exact h9
        · rw [if_neg h27] at hf
          refine sk_iload K dX10_year_97 0 rfl ?_
          refine sk_istore [(4, .int v22), (8, .int v22), (3, .int (((1103515245 : Int32) * (((1103515245 : Int32) * s1.1) + (12345 : Int32))) + (12345 : Int32))), (7, .int v18), (0, .ref p0), (2, .int p2), (5, .int s1.2.2.1), (6, .int s1.2.2.2.1)] K dX10_year_99 (by decide) rfl ?_
          refine sk_iinc (s1.2.2.1 + 1) [(5, .int (s1.2.2.1 + 1)), (4, .int v22), (8, .int v22), (3, .int (((1103515245 : Int32) * (((1103515245 : Int32) * s1.1) + (12345 : Int32))) + (12345 : Int32))), (7, .int v18), (0, .ref p0), (2, .int p2), (6, .int s1.2.2.2.1)] K dX10_year_101 6 rfl rfl (by decide) rfl ?_
          refine sk_iinc (s1.2.2.2.1 + 1) [(6, .int (s1.2.2.2.1 + 1)), (5, .int (s1.2.2.1 + 1)), (4, .int v22), (8, .int v22), (3, .int (((1103515245 : Int32) * (((1103515245 : Int32) * s1.1) + (12345 : Int32))) + (12345 : Int32))), (7, .int v18), (0, .ref p0), (2, .int p2)] K dX10_year_104 7 rfl rfl (by decide) rfl ?_
          refine sk_goto 31 K dX10_year_107 (by decide) ?_
          refine sk_sub [(0, .ref p0), (2, .int p2), (3, .int (((1103515245 : Int32) * (((1103515245 : Int32) * s1.1) + (12345 : Int32))) + (12345 : Int32))), (4, .int v22), (5, .int (s1.2.2.1 + 1)), (6, .int (s1.2.2.2.1 + 1))] [6, 7, 4, 2, 1, 0] rfl ?_
          have h9 := ih1 _ (Option.some.inj hf).symm
          exact h9
    · rw [if_neg h3] at hf
      refine sk_bipush (-3 : Int32) K dX10_year_11 (by decide) ?_
      have hR28 : ((-3 : Int32), d) = (rr, dd) := Option.some.inj hf
      exact sk_iret K dX10_year_13 rfl rfl (congrArg (fun z => z.1) hR28) rfl (congrArg (fun z => z.2) hR28)
noncomputable def fX10_gain (S : sk_S) (d : sk_D) (p0 : Nat) (p1 : Int32) : Option (Int32) :=
  if S.2.1 p0 = (9, 0) then ((fX10_notDone S d p0 p1).bind fun v1 => if v1 = 0 then ((sk_gR S p0 9 0).bind fun v5 => (sk_gR S v5 8 0).bind fun v7 => (sk_gR S p0 9 5).bind fun v9 => (sk_gI S d v9 4 1).bind fun v11 => (fX10_doneIn S d v11).bind fun v13 => if S.2.1 v7 = (2, 0) then ((fX2_gainOf S d v7 p1 v13).bind fun v15 => some v15) else none) else (some v1)) else none
set_option maxRecDepth 100000 in
set_option maxHeartbeats 4000000 in
theorem sX10_gain (C : sk_C) (l : Launch) {S : sk_S} {d : sk_D} {p0 : Nat} {p1 : Int32} {rr : Int32} (hf : fX10_gain S d p0 p1 = some rr) : sk_Met C l 2 yX10_gain cX10_gain 3 (some .int) [.ref p0, .int p1] S d (some (.int rr)) S d := by
  refine sk_Met.of (by decide) (Nat.le_of_ble_eq_true rfl) (Nat.le_refl _) (Nat.le_refl _) (fun X K0 hX => ?_)
  have K : sk_Ok X C cX10_gain 3 RX10 "gain" (some .int) 2 l (some (.int rr)) S d := K0
  have R1 : X.2.2.2.2.2.2.2.2.2.2.2.1 ≤ S.1.1 ∧ X.2.2.2.2.2.2.2.2.2.2.2.2 ≤ S.1.2 := by rw [hX]; exact ⟨Nat.le_refl _, Nat.le_refl _⟩
  have R2 : S.1.1 ≤ S.1.1 ∧ S.1.2 ≤ S.1.2 := ⟨Nat.le_refl _, Nat.le_refl _⟩
  show sk_G X C 3 S d 0 [(0, .ref p0), (1, .int p1)] []
  unfold fX10_gain at hf
  refine sk_aload_n K dX10_gain_0 rfl 0 rfl ?_
  refine sk_iload_n K dX10_gain_1 rfl 1 rfl ?_
  obtain ⟨h3, hf⟩ := sk_ib hf
  obtain ⟨v1, e2, hf⟩ := sk_ob hf
  refine sk_callV (As := [.int p1]) (st := []) K dX10_gain_2 cl_X10_154 h3 (sX10_notDone C l e2) (by decide) rfl rfl (Nat.le_of_ble_eq_true rfl) R1 R2 ?_
  refine sk_istore_n [(2, .int v1), (0, .ref p0), (1, .int p1)] K dX10_gain_5 rfl (by decide) rfl ?_
  refine sk_iload_n K dX10_gain_6 rfl 0 rfl ?_
  refine sk_if_eq 14 K dX10_gain_7 (by decide) (fun h4 => ?_) (fun h4 => ?_)
  · rw [if_pos h4] at hf
    refine sk_aload_n K dX10_gain_14 rfl 1 rfl ?_
    obtain ⟨v5, e6, hf⟩ := sk_ob hf
    refine sk_getR K dX10_gain_15 fl_X10_10 rfl e6 ?_
    obtain ⟨v7, e8, hf⟩ := sk_ob hf
    refine sk_getR K dX10_gain_18 fl_X10_98 rfl e8 ?_
    refine sk_iload_n K dX10_gain_21 rfl 2 rfl ?_
    refine sk_aload_n K dX10_gain_22 rfl 1 rfl ?_
    obtain ⟨v9, e10, hf⟩ := sk_ob hf
    refine sk_getR K dX10_gain_23 fl_X10_47 rfl e10 ?_
    obtain ⟨v11, e12, hf⟩ := sk_ob hf
    refine sk_getI K dX10_gain_26 fl_X10_120 rfl e12 ?_
    obtain ⟨v13, e14, hf⟩ := sk_ob hf
    refine sk_callS (As := [.int v11]) (st := [.int p1, .ref v7]) K dX10_gain_29 cl_X10_158 (sX10_doneIn C l e14) (by decide) rfl rfl (Nat.le_of_ble_eq_true rfl) R1 R2 ?_
    obtain ⟨h17, hf⟩ := sk_ib hf
    obtain ⟨v15, e16, hf⟩ := sk_ob hf
    refine sk_callV (As := [.int p1, .int v13]) (st := []) K dX10_gain_32 cl_X10_258 h17 (sX2_gainOf C l e16) (by decide) rfl rfl (Nat.le_of_ble_eq_true rfl) R1 R2 ?_
    have hR18 : v15 = rr := Option.some.inj hf
    exact sk_iret K dX10_gain_35 rfl rfl hR18 rfl rfl
  · rw [if_neg h4] at hf
    refine sk_iload_n K dX10_gain_10 rfl 0 rfl ?_
    refine sk_goto 35 K dX10_gain_11 (by decide) ?_
    have hR19 : v1 = rr := Option.some.inj hf
    exact sk_iret K dX10_gain_35 rfl rfl hR19 rfl rfl
noncomputable def fX10_pack_J12 (S : sk_S) (d : sk_D) (p0 : Nat) (p1 : Int32) : Option (Int32) :=
  (sk_gR S p0 9 5).bind fun v1 => (sk_gI S d v1 4 1).bind fun v3 => (fX10_doneIn S d v3).bind fun v5 => (sk_gR S p0 9 0).bind fun v7 => (sk_gR S v7 8 0).bind fun v9 => if S.2.1 v9 = (2, 0) then ((fX2_bestPacked S d v9 v5).bind fun v11 => if p1 = (1 : Int32) then (some v11) else ((sk_gR S p0 9 0).bind fun v15 => (sk_gR S v15 8 0).bind fun v17 => if S.2.1 v17 = (2, 0) then ((fX2_gainsOf S d v17 v11 v5).bind fun v19 => some v19) else none)) else none
noncomputable def fX10_pack (S : sk_S) (d : sk_D) (p0 : Nat) (p1 : Int32) : Option (Int32) :=
  if p1 = 0 then (fX10_pack_J12 S d p0 p1) else (if p1 = (1 : Int32) then (fX10_pack_J12 S d p0 p1) else (some (-2 : Int32)))
set_option maxRecDepth 100000 in
set_option maxHeartbeats 4000000 in
theorem sX10_pack (C : sk_C) (l : Launch) {S : sk_S} {d : sk_D} {p0 : Nat} {p1 : Int32} {rr : Int32} (hf : fX10_pack S d p0 p1 = some rr) : sk_Met C l 4 yX10_pack cX10_pack 4 (some .int) [.ref p0, .int p1] S d (some (.int rr)) S d := by
  refine sk_Met.of (by decide) (Nat.le_of_ble_eq_true rfl) (Nat.le_refl _) (Nat.le_refl _) (fun X K0 hX => ?_)
  have K : sk_Ok X C cX10_pack 4 RX10 "pack" (some .int) 4 l (some (.int rr)) S d := K0
  have R1 : X.2.2.2.2.2.2.2.2.2.2.2.1 ≤ S.1.1 ∧ X.2.2.2.2.2.2.2.2.2.2.2.2 ≤ S.1.2 := by rw [hX]; exact ⟨Nat.le_refl _, Nat.le_refl _⟩
  have R2 : S.1.1 ≤ S.1.1 ∧ S.1.2 ≤ S.1.2 := ⟨Nat.le_refl _, Nat.le_refl _⟩
  show sk_G X C 4 S d 0 [(0, .ref p0), (1, .int p1)] []
  unfold fX10_pack at hf
  have j12_0 : fX10_pack_J12 S d p0 p1 = some rr → sk_G X C 4 S d 12 [(0, .ref p0), (1, .int p1)] [] := by
    intro  hf
    unfold fX10_pack_J12 at hf
    refine sk_aload_n K dX10_pack_12 rfl 0 rfl ?_
    obtain ⟨v1, e2, hf⟩ := sk_ob hf
    refine sk_getR K dX10_pack_13 fl_X10_47 rfl e2 ?_
    obtain ⟨v3, e4, hf⟩ := sk_ob hf
    refine sk_getI K dX10_pack_16 fl_X10_120 rfl e4 ?_
    obtain ⟨v5, e6, hf⟩ := sk_ob hf
    refine sk_callS (As := [.int v3]) (st := []) K dX10_pack_19 cl_X10_158 (sX10_doneIn C l e6) (by decide) rfl rfl (Nat.le_of_ble_eq_true rfl) R1 R2 ?_
    refine sk_istore_n [(2, .int v5), (0, .ref p0), (1, .int p1)] K dX10_pack_22 rfl (by decide) rfl ?_
    refine sk_aload_n K dX10_pack_23 rfl 1 rfl ?_
    obtain ⟨v7, e8, hf⟩ := sk_ob hf
    refine sk_getR K dX10_pack_24 fl_X10_10 rfl e8 ?_
    obtain ⟨v9, e10, hf⟩ := sk_ob hf
    refine sk_getR K dX10_pack_27 fl_X10_98 rfl e10 ?_
    refine sk_iload_n K dX10_pack_30 rfl 0 rfl ?_
    obtain ⟨h13, hf⟩ := sk_ib hf
    obtain ⟨v11, e12, hf⟩ := sk_ob hf
    refine sk_callV (As := [.int v5]) (st := []) K dX10_pack_31 cl_X10_261 h13 (sX2_bestPacked C l e12) (by decide) rfl rfl (Nat.le_of_ble_eq_true rfl) R1 R2 ?_
    refine sk_istore_n [(3, .int v11), (2, .int v5), (0, .ref p0), (1, .int p1)] K dX10_pack_34 rfl (by decide) rfl ?_
    refine sk_iload_n K dX10_pack_35 rfl 3 rfl ?_
    refine sk_iconst (1 : Int32) K dX10_pack_36 (by decide) ?_
    refine sk_icmp_ne 44 K dX10_pack_37 (by decide) (fun h14 => ?_) (fun h14 => ?_)
    · rw [if_neg h14] at hf
      refine sk_aload_n K dX10_pack_44 rfl 2 rfl ?_
      obtain ⟨v15, e16, hf⟩ := sk_ob hf
      refine sk_getR K dX10_pack_45 fl_X10_10 rfl e16 ?_
      obtain ⟨v17, e18, hf⟩ := sk_ob hf
      refine sk_getR K dX10_pack_48 fl_X10_98 rfl e18 ?_
      refine sk_iload_n K dX10_pack_51 rfl 0 rfl ?_
      refine sk_iload_n K dX10_pack_52 rfl 1 rfl ?_
      obtain ⟨h21, hf⟩ := sk_ib hf
      obtain ⟨v19, e20, hf⟩ := sk_ob hf
      refine sk_callV (As := [.int v11, .int v5]) (st := []) K dX10_pack_53 cl_X10_264 h21 (sX2_gainsOf C l e20) (by decide) rfl rfl (Nat.le_of_ble_eq_true rfl) R1 R2 ?_
      have hR22 : v19 = rr := Option.some.inj hf
      exact sk_iret K dX10_pack_56 rfl rfl hR22 rfl rfl
    · rw [if_pos h14] at hf
      refine sk_iload_n K dX10_pack_40 rfl 0 rfl ?_
      refine sk_goto 56 K dX10_pack_41 (by decide) ?_
      have hR23 : v11 = rr := Option.some.inj hf
      exact sk_iret K dX10_pack_56 rfl rfl hR23 rfl rfl
  refine sk_iload_n K dX10_pack_0 rfl 1 rfl ?_
  refine sk_if_eq 12 K dX10_pack_1 (by decide) (fun h24 => ?_) (fun h24 => ?_)
  · rw [if_pos h24] at hf
    refine sk_sub [(0, .ref p0), (1, .int p1)] [0, 1] rfl ?_
    have h9 := j12_0  hf
    exact h9
  · rw [if_neg h24] at hf
    refine sk_iload_n K dX10_pack_4 rfl 1 rfl ?_
    refine sk_iconst (1 : Int32) K dX10_pack_5 (by decide) ?_
    refine sk_icmp_eq 12 K dX10_pack_6 (by decide) (fun h25 => ?_) (fun h25 => ?_)
    · rw [if_pos h25] at hf
      refine sk_sub [(0, .ref p0), (1, .int p1)] [0, 1] rfl ?_
      have h9 := j12_0  hf
      exact h9
    · rw [if_neg h25] at hf
      refine sk_bipush (-2 : Int32) K dX10_pack_9 (by decide) ?_
      have hR26 : (-2 : Int32) = rr := Option.some.inj hf
      exact sk_iret K dX10_pack_11 rfl rfl hR26 rfl rfl
noncomputable def fX10_tellOrders_L58 (S : sk_S) (p0 : Nat) (v7 : Nat) (s1 : Int32 × sk_D) : Option ((Int32 × sk_D) ⊕ (Int32 × sk_D)) :=
  (sk_gI S s1.2 v7 6 2).bind fun v28 => if v28 ≤ s1.1 then (some (.inr ((0 : Int32), s1.2))) else ((sk_gR S p0 9 3).bind fun v32 => if S.2.1 v7 = (6, 0) then ((fX6_at S s1.2 v7 s1.1).bind fun v34 => if S.2.1 v32 = (3, 0) then ((fX3_tellNumber S s1.2 v32 v34).bind fun b41 => if b41.1 = true then (some (.inl (s1.1 + 1, b41.2))) else (some (.inr ((-3 : Int32), b41.2)))) else none) else none)
noncomputable def fX10_tellOrders (S : sk_S) (d : sk_D) (p0 : Nat) (p1 : Int32) : Option (Int32 × sk_D) :=
  if S.2.1 p0 = (9, 0) then ((fX10_noTray S d p0 p1).bind fun v1 => if v1 = 0 then ((sk_gR S p0 9 6).bind fun v5 => (sk_lR S v5 24 p1).bind fun v7 => (sk_gI S d v7 6 2).bind fun v9 => if v9 ≤ (12 : Int32) then ((sk_gR S p0 9 3).bind fun v12 => (sk_gR S p0 9 0).bind fun v14 => (sk_gR S v14 8 0).bind fun v16 => (sk_gR S p0 9 5).bind fun v18 => (sk_gI S d v18 4 1).bind fun v20 => (fX10_doneIn S d v20).bind fun v22 => if S.2.1 v12 = (3, 0) then ((fX3_begin S d v12 v16 v22).bind fun d26 => (sk_itr (fX10_tellOrders_L58 S p0 v7) ((0 : Int32), d26)).bind fun x1 => some x1) else none) else (some ((-4 : Int32), d))) else (some (v1, d))) else none
set_option maxRecDepth 100000 in
set_option maxHeartbeats 4000000 in
theorem sX10_tellOrders (C : sk_C) (l : Launch) {S : sk_S} {d : sk_D} {p0 : Nat} {p1 : Int32} {rr : Int32} {dd : sk_D} (hf : fX10_tellOrders S d p0 p1 = some (rr, dd)) : sk_Met C l 2 yX10_tellOrders cX10_tellOrders 5 (some .int) [.ref p0, .int p1] S d (some (.int rr)) S dd := by
  refine sk_Met.of (by decide) (Nat.le_of_ble_eq_true rfl) (Nat.le_refl _) (Nat.le_refl _) (fun X K0 hX => ?_)
  have K : sk_Ok X C cX10_tellOrders 5 RX10 "tellOrders" (some .int) 2 l (some (.int rr)) S dd := K0
  have R1 : X.2.2.2.2.2.2.2.2.2.2.2.1 ≤ S.1.1 ∧ X.2.2.2.2.2.2.2.2.2.2.2.2 ≤ S.1.2 := by rw [hX]; exact ⟨Nat.le_refl _, Nat.le_refl _⟩
  have R2 : S.1.1 ≤ S.1.1 ∧ S.1.2 ≤ S.1.2 := ⟨Nat.le_refl _, Nat.le_refl _⟩
  show sk_G X C 5 S d 0 [(0, .ref p0), (1, .int p1)] []
  unfold fX10_tellOrders at hf
  refine sk_aload_n K dX10_tellOrders_0 rfl 0 rfl ?_
  refine sk_iload_n K dX10_tellOrders_1 rfl 1 rfl ?_
  obtain ⟨h3, hf⟩ := sk_ib hf
  obtain ⟨v1, e2, hf⟩ := sk_ob hf
  refine sk_callV (As := [.int p1]) (st := []) K dX10_tellOrders_2 cl_X10_217 h3 (sX10_noTray C l e2) (by decide) rfl rfl (Nat.le_of_ble_eq_true rfl) R1 R2 ?_
  refine sk_istore_n [(2, .int v1), (0, .ref p0), (1, .int p1)] K dX10_tellOrders_5 rfl (by decide) rfl ?_
  refine sk_iload_n K dX10_tellOrders_6 rfl 0 rfl ?_
  refine sk_if_eq 12 K dX10_tellOrders_7 (by decide) (fun h4 => ?_) (fun h4 => ?_)
  · rw [if_pos h4] at hf
    refine sk_aload_n K dX10_tellOrders_12 rfl 1 rfl ?_
    obtain ⟨v5, e6, hf⟩ := sk_ob hf
    refine sk_getR K dX10_tellOrders_13 fl_X10_53 rfl e6 ?_
    refine sk_iload_n K dX10_tellOrders_16 rfl 2 rfl ?_
    obtain ⟨v7, e8, hf⟩ := sk_ob hf
    refine sk_ald24 K dX10_tellOrders_17 e8 ?_
    refine sk_astore_n [(3, .ref v7), (2, .int v1), (0, .ref p0), (1, .int p1)] K dX10_tellOrders_18 rfl (by decide) rfl ?_
    refine sk_aload_n K dX10_tellOrders_19 rfl 0 rfl ?_
    obtain ⟨v9, e10, hf⟩ := sk_ob hf
    refine sk_getI K dX10_tellOrders_20 fl_X10_212 rfl e10 ?_
    refine sk_bipush (12 : Int32) K dX10_tellOrders_23 (by decide) ?_
    refine sk_icmp_le 31 K dX10_tellOrders_25 (by decide) (fun h11 => ?_) (fun h11 => ?_)
    · rw [if_pos h11] at hf
      refine sk_aload_n K dX10_tellOrders_31 rfl 2 rfl ?_
      obtain ⟨v12, e13, hf⟩ := sk_ob hf
      refine sk_getR K dX10_tellOrders_32 fl_X10_33 rfl e13 ?_
      refine sk_aload_n K dX10_tellOrders_35 rfl 2 rfl ?_
      obtain ⟨v14, e15, hf⟩ := sk_ob hf
      refine sk_getR K dX10_tellOrders_36 fl_X10_10 rfl e15 ?_
      obtain ⟨v16, e17, hf⟩ := sk_ob hf
      refine sk_getR K dX10_tellOrders_39 fl_X10_98 rfl e17 ?_
      refine sk_aload_n K dX10_tellOrders_42 rfl 2 rfl ?_
      obtain ⟨v18, e19, hf⟩ := sk_ob hf
      refine sk_getR K dX10_tellOrders_43 fl_X10_47 rfl e19 ?_
      obtain ⟨v20, e21, hf⟩ := sk_ob hf
      refine sk_getI K dX10_tellOrders_46 fl_X10_120 rfl e21 ?_
      obtain ⟨v22, e23, hf⟩ := sk_ob hf
      refine sk_callS (As := [.int v20]) (st := [.ref v16, .ref v12]) K dX10_tellOrders_49 cl_X10_158 (sX10_doneIn C l e23) (by decide) rfl rfl (Nat.le_of_ble_eq_true rfl) R1 R2 ?_
      obtain ⟨h27, hf⟩ := sk_ib hf
      obtain ⟨d26, e25, hf⟩ := sk_ob hf
      refine sk_callV (As := [.ref v16, .int v22]) (st := []) K dX10_tellOrders_52 cl_X10_281 h27 (sX3_begin C l e25) (by decide) rfl rfl (Nat.le_of_ble_eq_true rfl) R1 R2 ?_
      refine sk_iconst (0 : Int32) K dX10_tellOrders_55 (by decide) ?_
      refine sk_istore [(4, .int (0 : Int32)), (3, .ref v7), (2, .int v1), (0, .ref p0), (1, .int p1)] K dX10_tellOrders_56 (by decide) rfl ?_
      obtain ⟨x1, he1, hf⟩ := sk_ob hf
      have hret1 : ∀ r, r = x1 → r = (rr, dd) := by
        intro r hr
        subst hr
        exact Option.some.inj hf
      refine sk_sub [(0, .ref p0), (3, .ref v7), (4, .int (0 : Int32))] [3, 1, 0] rfl ?_
      refine sk_loop (fun s1 => sk_G X C 5 S s1.2 58 [(0, .ref p0), (3, .ref v7), (4, .int s1.1)] []) he1 (fun s1 o1 hf ih1 hx1 => ?_)
      unfold fX10_tellOrders_L58 at hf
      refine sk_iload K dX10_tellOrders_58 2 rfl ?_
      refine sk_aload_n K dX10_tellOrders_60 rfl 1 rfl ?_
      obtain ⟨v28, e29, hf⟩ := sk_ob hf
      refine sk_getI K dX10_tellOrders_61 fl_X10_212 rfl e29 ?_
      refine sk_icmp_ge 92 K dX10_tellOrders_64 (by decide) (fun h30 => ?_) (fun h30 => ?_)
      · rw [if_pos h30] at hf
        refine sk_iconst (0 : Int32) K dX10_tellOrders_92 (by decide) ?_
        have hR31 : ((0 : Int32), s1.2) = (rr, dd) := hret1 _ (hx1 _ (Option.some.inj hf).symm)
        exact sk_iret K dX10_tellOrders_93 rfl rfl (congrArg (fun z => z.1) hR31) rfl (congrArg (fun z => z.2) hR31)
      · rw [if_neg h30] at hf
        refine sk_aload_n K dX10_tellOrders_67 rfl 0 rfl ?_
        obtain ⟨v32, e33, hf⟩ := sk_ob hf
        refine sk_getR K dX10_tellOrders_68 fl_X10_33 rfl e33 ?_
        refine sk_aload_n K dX10_tellOrders_71 rfl 1 rfl ?_
        refine sk_iload K dX10_tellOrders_72 2 rfl ?_
        obtain ⟨h36, hf⟩ := sk_ib hf
        obtain ⟨v34, e35, hf⟩ := sk_ob hf
        refine sk_callV (As := [.int s1.1]) (st := [.ref v32]) K dX10_tellOrders_74 cl_X10_213 h36 (sX6_at C l e35) (by decide) rfl rfl (Nat.le_of_ble_eq_true rfl) R1 R2 ?_
        obtain ⟨h40, hf⟩ := sk_ib hf
        obtain ⟨⟨v37, d39⟩, e38, hf⟩ := sk_ob hf
        try dsimp only at hf
        refine sk_callV (As := [.long v34]) (st := []) K dX10_tellOrders_77 cl_X10_282 h40 (sX3_tellNumber C l e38) (by decide) rfl rfl (Nat.le_of_ble_eq_true rfl) R1 R2 ?_
        refine sk_ifneB 86 K dX10_tellOrders_80 (by decide) (fun h42 => ?_) (fun h42 => ?_)
        · rw [if_pos h42] at hf
          refine sk_iinc (s1.1 + 1) [(4, .int (s1.1 + 1)), (0, .ref p0), (3, .ref v7)] K dX10_tellOrders_86 2 rfl rfl (by decide) rfl ?_
          refine sk_goto 58 K dX10_tellOrders_89 (by decide) ?_
          refine sk_sub [(0, .ref p0), (3, .ref v7), (4, .int (s1.1 + 1))] [1, 2, 0] rfl ?_
          have h9 := ih1 _ (Option.some.inj hf).symm
          exact h9
        · rw [if_neg h42] at hf
          refine sk_bipush (-3 : Int32) K dX10_tellOrders_83 (by decide) ?_
          have hR43 : ((-3 : Int32), d39) = (rr, dd) := hret1 _ (hx1 _ (Option.some.inj hf).symm)
          exact sk_iret K dX10_tellOrders_85 rfl rfl (congrArg (fun z => z.1) hR43) rfl (congrArg (fun z => z.2) hR43)
    · rw [if_neg h11] at hf
      refine sk_bipush (-4 : Int32) K dX10_tellOrders_28 (by decide) ?_
      have hR44 : ((-4 : Int32), d) = (rr, dd) := Option.some.inj hf
      exact sk_iret K dX10_tellOrders_30 rfl rfl (congrArg (fun z => z.1) hR44) rfl (congrArg (fun z => z.2) hR44)
  · rw [if_neg h4] at hf
    refine sk_iload_n K dX10_tellOrders_10 rfl 0 rfl ?_
    have hR45 : (v1, d) = (rr, dd) := Option.some.inj hf
    exact sk_iret K dX10_tellOrders_11 rfl rfl (congrArg (fun z => z.1) hR45) rfl (congrArg (fun z => z.2) hR45)
noncomputable def fX10_orders (S : sk_S) (d : sk_D) (p0 : Nat) (p1 : Int32) : Option (Int32 × sk_D) :=
  if S.2.1 p0 = (9, 0) then ((fX10_tellOrders S d p0 p1).bind fun b5 => if b5.1 = 0 then ((sk_gR S p0 9 3).bind fun v7 => if S.2.1 v7 = (3, 0) then ((fX3_total S b5.2 v7).bind fun b13 => some (b13.1, b13.2)) else none) else (some (b5.1, b5.2))) else none
set_option maxRecDepth 100000 in
set_option maxHeartbeats 4000000 in
theorem sX10_orders (C : sk_C) (l : Launch) {S : sk_S} {d : sk_D} {p0 : Nat} {p1 : Int32} {rr : Int32} {dd : sk_D} (hf : fX10_orders S d p0 p1 = some (rr, dd)) : sk_Met C l 3 yX10_orders cX10_orders 3 (some .int) [.ref p0, .int p1] S d (some (.int rr)) S dd := by
  refine sk_Met.of (by decide) (Nat.le_of_ble_eq_true rfl) (Nat.le_refl _) (Nat.le_refl _) (fun X K0 hX => ?_)
  have K : sk_Ok X C cX10_orders 3 RX10 "orders" (some .int) 3 l (some (.int rr)) S dd := K0
  have R1 : X.2.2.2.2.2.2.2.2.2.2.2.1 ≤ S.1.1 ∧ X.2.2.2.2.2.2.2.2.2.2.2.2 ≤ S.1.2 := by rw [hX]; exact ⟨Nat.le_refl _, Nat.le_refl _⟩
  have R2 : S.1.1 ≤ S.1.1 ∧ S.1.2 ≤ S.1.2 := ⟨Nat.le_refl _, Nat.le_refl _⟩
  show sk_G X C 3 S d 0 [(0, .ref p0), (1, .int p1)] []
  unfold fX10_orders at hf
  refine sk_aload_n K dX10_orders_0 rfl 0 rfl ?_
  refine sk_iload_n K dX10_orders_1 rfl 1 rfl ?_
  obtain ⟨h4, hf⟩ := sk_ib hf
  obtain ⟨⟨v1, d3⟩, e2, hf⟩ := sk_ob hf
  try dsimp only at hf
  refine sk_callV (As := [.int p1]) (st := []) K dX10_orders_2 cl_X10_267 h4 (sX10_tellOrders C l e2) (by decide) rfl rfl (Nat.le_of_ble_eq_true rfl) R1 R2 ?_
  refine sk_istore_n [(2, .int v1), (0, .ref p0), (1, .int p1)] K dX10_orders_5 rfl (by decide) rfl ?_
  refine sk_iload_n K dX10_orders_6 rfl 0 rfl ?_
  refine sk_if_eq 14 K dX10_orders_7 (by decide) (fun h6 => ?_) (fun h6 => ?_)
  · rw [if_pos h6] at hf
    refine sk_aload_n K dX10_orders_14 rfl 1 rfl ?_
    obtain ⟨v7, e8, hf⟩ := sk_ob hf
    refine sk_getR K dX10_orders_15 fl_X10_33 rfl e8 ?_
    obtain ⟨h12, hf⟩ := sk_ib hf
    obtain ⟨⟨v9, d11⟩, e10, hf⟩ := sk_ob hf
    try dsimp only at hf
    refine sk_callV (As := []) (st := []) K dX10_orders_18 cl_X10_270 h12 (sX3_total C l e10) (by decide) rfl rfl (Nat.le_of_ble_eq_true rfl) R1 R2 ?_
    have hR14 : (v9, d11) = (rr, dd) := Option.some.inj hf
    exact sk_iret K dX10_orders_21 rfl rfl (congrArg (fun z => z.1) hR14) rfl (congrArg (fun z => z.2) hR14)
  · rw [if_neg h6] at hf
    refine sk_iload_n K dX10_orders_10 rfl 0 rfl ?_
    refine sk_goto 21 K dX10_orders_11 (by decide) ?_
    have hR15 : (v1, d3) = (rr, dd) := Option.some.inj hf
    exact sk_iret K dX10_orders_21 rfl rfl (congrArg (fun z => z.1) hR15) rfl (congrArg (fun z => z.2) hR15)
noncomputable def fX10_order (S : sk_S) (d : sk_D) (p0 : Nat) (p1 : Int32) (p2 : Int32) : Option (Int32 × sk_D) :=
  if S.2.1 p0 = (9, 0) then ((fX10_tellOrders S d p0 p1).bind fun b5 => if b5.1 = 0 then (if 0 ≤ p2 then ((sk_gR S p0 9 3).bind fun v8 => if S.2.1 v8 = (3, 0) then ((fX3_firstAt S b5.2 v8 p2).bind fun b14 => some (b14.1, b14.2)) else none) else (some ((-3 : Int32), b5.2))) else (some (b5.1, b5.2))) else none
set_option maxRecDepth 100000 in
set_option maxHeartbeats 4000000 in
theorem sX10_order (C : sk_C) (l : Launch) {S : sk_S} {d : sk_D} {p0 : Nat} {p1 : Int32} {p2 : Int32} {rr : Int32} {dd : sk_D} (hf : fX10_order S d p0 p1 p2 = some (rr, dd)) : sk_Met C l 3 yX10_order cX10_order 4 (some .int) [.ref p0, .int p1, .int p2] S d (some (.int rr)) S dd := by
  refine sk_Met.of (by decide) (Nat.le_of_ble_eq_true rfl) (Nat.le_refl _) (Nat.le_refl _) (fun X K0 hX => ?_)
  have K : sk_Ok X C cX10_order 4 RX10 "order" (some .int) 3 l (some (.int rr)) S dd := K0
  have R1 : X.2.2.2.2.2.2.2.2.2.2.2.1 ≤ S.1.1 ∧ X.2.2.2.2.2.2.2.2.2.2.2.2 ≤ S.1.2 := by rw [hX]; exact ⟨Nat.le_refl _, Nat.le_refl _⟩
  have R2 : S.1.1 ≤ S.1.1 ∧ S.1.2 ≤ S.1.2 := ⟨Nat.le_refl _, Nat.le_refl _⟩
  show sk_G X C 4 S d 0 [(0, .ref p0), (1, .int p1), (2, .int p2)] []
  unfold fX10_order at hf
  refine sk_aload_n K dX10_order_0 rfl 0 rfl ?_
  refine sk_iload_n K dX10_order_1 rfl 1 rfl ?_
  obtain ⟨h4, hf⟩ := sk_ib hf
  obtain ⟨⟨v1, d3⟩, e2, hf⟩ := sk_ob hf
  try dsimp only at hf
  refine sk_callV (As := [.int p1]) (st := []) K dX10_order_2 cl_X10_267 h4 (sX10_tellOrders C l e2) (by decide) rfl rfl (Nat.le_of_ble_eq_true rfl) R1 R2 ?_
  refine sk_istore_n [(3, .int v1), (0, .ref p0), (1, .int p1), (2, .int p2)] K dX10_order_5 rfl (by decide) rfl ?_
  refine sk_iload_n K dX10_order_6 rfl 0 rfl ?_
  refine sk_if_eq 12 K dX10_order_7 (by decide) (fun h6 => ?_) (fun h6 => ?_)
  · rw [if_pos h6] at hf
    refine sk_iload_n K dX10_order_12 rfl 3 rfl ?_
    refine sk_if_ge 21 K dX10_order_13 (by decide) (fun h7 => ?_) (fun h7 => ?_)
    · rw [if_pos h7] at hf
      refine sk_aload_n K dX10_order_21 rfl 1 rfl ?_
      obtain ⟨v8, e9, hf⟩ := sk_ob hf
      refine sk_getR K dX10_order_22 fl_X10_33 rfl e9 ?_
      refine sk_iload_n K dX10_order_25 rfl 3 rfl ?_
      obtain ⟨h13, hf⟩ := sk_ib hf
      obtain ⟨⟨v10, d12⟩, e11, hf⟩ := sk_ob hf
      try dsimp only at hf
      refine sk_callV (As := [.int p2]) (st := []) K dX10_order_26 cl_X10_274 h13 (sX3_firstAt C l e11) (by decide) rfl rfl (Nat.le_of_ble_eq_true rfl) R1 R2 ?_
      have hR15 : (v10, d12) = (rr, dd) := Option.some.inj hf
      exact sk_iret K dX10_order_29 rfl rfl (congrArg (fun z => z.1) hR15) rfl (congrArg (fun z => z.2) hR15)
    · rw [if_neg h7] at hf
      refine sk_bipush (-3 : Int32) K dX10_order_16 (by decide) ?_
      refine sk_goto 29 K dX10_order_18 (by decide) ?_
      have hR16 : ((-3 : Int32), d3) = (rr, dd) := Option.some.inj hf
      exact sk_iret K dX10_order_29 rfl rfl (congrArg (fun z => z.1) hR16) rfl (congrArg (fun z => z.2) hR16)
  · rw [if_neg h6] at hf
    refine sk_iload_n K dX10_order_10 rfl 0 rfl ?_
    have hR17 : (v1, d3) = (rr, dd) := Option.some.inj hf
    exact sk_iret K dX10_order_11 rfl rfl (congrArg (fun z => z.1) hR17) rfl (congrArg (fun z => z.2) hR17)
noncomputable def fX10_ahead (S : sk_S) (d : sk_D) (p0 : Nat) (p1 : Int32) (p2 : Int32) (p3 : Int32) : Option (Int32 × sk_D) :=
  (sk_gR S p0 9 0).bind fun v1 => (sk_gR S v1 8 0).bind fun v3 => if S.2.1 v3 = (2, 0) then ((fX2_has S d v3 p2).bind fun v5 => if v5 = true then ((sk_gR S p0 9 0).bind fun v10 => (sk_gR S v10 8 0).bind fun v12 => if S.2.1 v12 = (2, 0) then ((fX2_has S d v12 p3).bind fun v14 => if v14 = true then (if p2 = p3 then (some ((-2 : Int32), d)) else (if S.2.1 p0 = (9, 0) then ((fX10_tellOrders S d p0 p1).bind fun b24 => if b24.1 = 0 then (if S.2.1 p0 = (9, 0) then ((fX10_notDone S b24.2 p0 p2).bind fun v26 => if v26 = 0 then (if S.2.1 p0 = (9, 0) then ((fX10_notDone S b24.2 p0 p3).bind fun v31 => if v31 = 0 then ((sk_gR S p0 9 3).bind fun v35 => if S.2.1 v35 = (3, 0) then ((fX3_tell S b24.2 v35 p2 p3).bind fun d39 => (sk_gR S p0 9 3).bind fun v41 => if S.2.1 v41 = (3, 0) then ((fX3_total S d39 v41).bind fun b47 => some (b47.1, b47.2)) else none) else none) else (some ((-5 : Int32), b24.2))) else none) else (some ((-5 : Int32), b24.2))) else none) else (some (b24.1, b24.2))) else none)) else (some ((-2 : Int32), d))) else none) else (some ((-2 : Int32), d))) else none
set_option maxRecDepth 100000 in
set_option maxHeartbeats 4000000 in
theorem sX10_ahead (C : sk_C) (l : Launch) {S : sk_S} {d : sk_D} {p0 : Nat} {p1 : Int32} {p2 : Int32} {p3 : Int32} {rr : Int32} {dd : sk_D} (hf : fX10_ahead S d p0 p1 p2 p3 = some (rr, dd)) : sk_Met C l 3 yX10_ahead cX10_ahead 5 (some .int) [.ref p0, .int p1, .int p2, .int p3] S d (some (.int rr)) S dd := by
  refine sk_Met.of (by decide) (Nat.le_of_ble_eq_true rfl) (Nat.le_refl _) (Nat.le_refl _) (fun X K0 hX => ?_)
  have K : sk_Ok X C cX10_ahead 5 RX10 "ahead" (some .int) 3 l (some (.int rr)) S dd := K0
  have R1 : X.2.2.2.2.2.2.2.2.2.2.2.1 ≤ S.1.1 ∧ X.2.2.2.2.2.2.2.2.2.2.2.2 ≤ S.1.2 := by rw [hX]; exact ⟨Nat.le_refl _, Nat.le_refl _⟩
  have R2 : S.1.1 ≤ S.1.1 ∧ S.1.2 ≤ S.1.2 := ⟨Nat.le_refl _, Nat.le_refl _⟩
  show sk_G X C 5 S d 0 [(0, .ref p0), (1, .int p1), (2, .int p2), (3, .int p3)] []
  unfold fX10_ahead at hf
  refine sk_aload_n K dX10_ahead_0 rfl 0 rfl ?_
  obtain ⟨v1, e2, hf⟩ := sk_ob hf
  refine sk_getR K dX10_ahead_1 fl_X10_10 rfl e2 ?_
  obtain ⟨v3, e4, hf⟩ := sk_ob hf
  refine sk_getR K dX10_ahead_4 fl_X10_98 rfl e4 ?_
  refine sk_iload_n K dX10_ahead_7 rfl 2 rfl ?_
  obtain ⟨h7, hf⟩ := sk_ib hf
  obtain ⟨v5, e6, hf⟩ := sk_ob hf
  refine sk_callV (As := [.int p2]) (st := []) K dX10_ahead_8 cl_X10_116 h7 (sX2_has C l e6) (by decide) rfl rfl (Nat.le_of_ble_eq_true rfl) R1 R2 ?_
  refine sk_ifeqB 33 K dX10_ahead_11 (by decide) (fun h8 => ?_) (fun h8 => ?_)
  · rw [if_neg h8] at hf
    refine sk_bipush (-2 : Int32) K dX10_ahead_33 (by decide) ?_
    have hR9 : ((-2 : Int32), d) = (rr, dd) := Option.some.inj hf
    exact sk_iret K dX10_ahead_35 rfl rfl (congrArg (fun z => z.1) hR9) rfl (congrArg (fun z => z.2) hR9)
  · rw [if_pos h8] at hf
    refine sk_aload_n K dX10_ahead_14 rfl 0 rfl ?_
    obtain ⟨v10, e11, hf⟩ := sk_ob hf
    refine sk_getR K dX10_ahead_15 fl_X10_10 rfl e11 ?_
    obtain ⟨v12, e13, hf⟩ := sk_ob hf
    refine sk_getR K dX10_ahead_18 fl_X10_98 rfl e13 ?_
    refine sk_iload_n K dX10_ahead_21 rfl 3 rfl ?_
    obtain ⟨h16, hf⟩ := sk_ib hf
    obtain ⟨v14, e15, hf⟩ := sk_ob hf
    refine sk_callV (As := [.int p3]) (st := []) K dX10_ahead_22 cl_X10_116 h16 (sX2_has C l e15) (by decide) rfl rfl (Nat.le_of_ble_eq_true rfl) R1 R2 ?_
    refine sk_ifeqB 33 K dX10_ahead_25 (by decide) (fun h17 => ?_) (fun h17 => ?_)
    · rw [if_neg h17] at hf
      refine sk_bipush (-2 : Int32) K dX10_ahead_33 (by decide) ?_
      have hR18 : ((-2 : Int32), d) = (rr, dd) := Option.some.inj hf
      exact sk_iret K dX10_ahead_35 rfl rfl (congrArg (fun z => z.1) hR18) rfl (congrArg (fun z => z.2) hR18)
    · rw [if_pos h17] at hf
      refine sk_iload_n K dX10_ahead_28 rfl 2 rfl ?_
      refine sk_iload_n K dX10_ahead_29 rfl 3 rfl ?_
      refine sk_icmp_ne 36 K dX10_ahead_30 (by decide) (fun h19 => ?_) (fun h19 => ?_)
      · rw [if_neg h19] at hf
        refine sk_aload_n K dX10_ahead_36 rfl 0 rfl ?_
        refine sk_iload_n K dX10_ahead_37 rfl 1 rfl ?_
        obtain ⟨h23, hf⟩ := sk_ib hf
        obtain ⟨⟨v20, d22⟩, e21, hf⟩ := sk_ob hf
        try dsimp only at hf
        refine sk_callV (As := [.int p1]) (st := []) K dX10_ahead_38 cl_X10_267 h23 (sX10_tellOrders C l e21) (by decide) rfl rfl (Nat.le_of_ble_eq_true rfl) R1 R2 ?_
        refine sk_istore [(4, .int v20), (0, .ref p0), (1, .int p1), (2, .int p2), (3, .int p3)] K dX10_ahead_41 (by decide) rfl ?_
        refine sk_iload K dX10_ahead_43 0 rfl ?_
        refine sk_if_eq 51 K dX10_ahead_45 (by decide) (fun h25 => ?_) (fun h25 => ?_)
        · rw [if_pos h25] at hf
          refine sk_aload_n K dX10_ahead_51 rfl 1 rfl ?_
          refine sk_iload_n K dX10_ahead_52 rfl 3 rfl ?_
          obtain ⟨h28, hf⟩ := sk_ib hf
          obtain ⟨v26, e27, hf⟩ := sk_ob hf
          refine sk_callV (As := [.int p2]) (st := []) K dX10_ahead_53 cl_X10_154 h28 (sX10_notDone C l e27) (by decide) rfl rfl (Nat.le_of_ble_eq_true rfl) R1 R2 ?_
          refine sk_if_ne 67 K dX10_ahead_56 (by decide) (fun h29 => ?_) (fun h29 => ?_)
          · rw [if_neg h29] at hf
            refine sk_bipush (-5 : Int32) K dX10_ahead_67 (by decide) ?_
            have hR30 : ((-5 : Int32), d22) = (rr, dd) := Option.some.inj hf
            exact sk_iret K dX10_ahead_69 rfl rfl (congrArg (fun z => z.1) hR30) rfl (congrArg (fun z => z.2) hR30)
          · rw [if_pos h29] at hf
            refine sk_aload_n K dX10_ahead_59 rfl 1 rfl ?_
            refine sk_iload_n K dX10_ahead_60 rfl 4 rfl ?_
            obtain ⟨h33, hf⟩ := sk_ib hf
            obtain ⟨v31, e32, hf⟩ := sk_ob hf
            refine sk_callV (As := [.int p3]) (st := []) K dX10_ahead_61 cl_X10_154 h33 (sX10_notDone C l e32) (by decide) rfl rfl (Nat.le_of_ble_eq_true rfl) R1 R2 ?_
            refine sk_if_eq 70 K dX10_ahead_64 (by decide) (fun h34 => ?_) (fun h34 => ?_)
            · rw [if_pos h34] at hf
              refine sk_aload_n K dX10_ahead_70 rfl 1 rfl ?_
              obtain ⟨v35, e36, hf⟩ := sk_ob hf
              refine sk_getR K dX10_ahead_71 fl_X10_33 rfl e36 ?_
              refine sk_iload_n K dX10_ahead_74 rfl 3 rfl ?_
              refine sk_iload_n K dX10_ahead_75 rfl 4 rfl ?_
              obtain ⟨h40, hf⟩ := sk_ib hf
              obtain ⟨d39, e38, hf⟩ := sk_ob hf
              refine sk_callV (As := [.int p2, .int p3]) (st := []) K dX10_ahead_76 cl_X10_277 h40 (sX3_tell C l e38) (by decide) rfl rfl (Nat.le_of_ble_eq_true rfl) R1 R2 ?_
              refine sk_aload_n K dX10_ahead_79 rfl 1 rfl ?_
              obtain ⟨v41, e42, hf⟩ := sk_ob hf
              refine sk_getR K dX10_ahead_80 fl_X10_33 rfl e42 ?_
              obtain ⟨h46, hf⟩ := sk_ib hf
              obtain ⟨⟨v43, d45⟩, e44, hf⟩ := sk_ob hf
              try dsimp only at hf
              refine sk_callV (As := []) (st := []) K dX10_ahead_83 cl_X10_270 h46 (sX3_total C l e44) (by decide) rfl rfl (Nat.le_of_ble_eq_true rfl) R1 R2 ?_
              have hR48 : (v43, d45) = (rr, dd) := Option.some.inj hf
              exact sk_iret K dX10_ahead_86 rfl rfl (congrArg (fun z => z.1) hR48) rfl (congrArg (fun z => z.2) hR48)
            · rw [if_neg h34] at hf
              refine sk_bipush (-5 : Int32) K dX10_ahead_67 (by decide) ?_
              have hR49 : ((-5 : Int32), d22) = (rr, dd) := Option.some.inj hf
              exact sk_iret K dX10_ahead_69 rfl rfl (congrArg (fun z => z.1) hR49) rfl (congrArg (fun z => z.2) hR49)
        · rw [if_neg h25] at hf
          refine sk_iload K dX10_ahead_48 0 rfl ?_
          have hR50 : (v20, d22) = (rr, dd) := Option.some.inj hf
          exact sk_iret K dX10_ahead_50 rfl rfl (congrArg (fun z => z.1) hR50) rfl (congrArg (fun z => z.2) hR50)
      · rw [if_pos h19] at hf
        refine sk_bipush (-2 : Int32) K dX10_ahead_33 (by decide) ?_
        have hR51 : ((-2 : Int32), d) = (rr, dd) := Option.some.inj hf
        exact sk_iret K dX10_ahead_35 rfl rfl (congrArg (fun z => z.1) hR51) rfl (congrArg (fun z => z.2) hR51)
noncomputable def fX10_join (S : sk_S) (d : sk_D) (p0 : Nat) (p1 : Int32) : Option (Int32) :=
  if p1 = 0 then ((sk_gR S p0 9 0).bind fun v27 => (sk_gR S v27 8 0).bind fun v29 => (sk_gR S p0 9 5).bind fun v31 => (sk_gI S d v31 4 1).bind fun v33 => (fX10_shownIn S d v33).bind fun v35 => if S.2.1 v29 = (2, 0) then ((fX2_doorsJoined S d v29 v35).bind fun v37 => (fJ6_bitCount_0f7a4 S d v37).bind fun v40 => some v40) else none) else (if p1 < (10 : Int32) then (some (-2 : Int32)) else ((sk_gR S p0 9 0).bind fun v4 => (sk_gR S v4 8 0).bind fun v6 => if S.2.1 v6 = (2, 0) then ((fX2_has S d v6 (p1 - (10 : Int32))).bind fun v8 => if v8 = true then ((sk_gR S p0 9 0).bind fun v12 => (sk_gR S v12 8 0).bind fun v14 => (sk_gR S p0 9 5).bind fun v16 => (sk_gI S d v16 4 1).bind fun v18 => (fX10_shownIn S d v18).bind fun v20 => if S.2.1 v14 = (2, 0) then ((fX2_doorOf S d v14 (p1 - (10 : Int32)) v20).bind fun v22 => some v22) else none) else (some (-2 : Int32))) else none))
set_option maxRecDepth 100000 in
set_option maxHeartbeats 4000000 in
theorem sX10_join (C : sk_C) (l : Launch) {S : sk_S} {d : sk_D} {p0 : Nat} {p1 : Int32} {rr : Int32} (hf : fX10_join S d p0 p1 = some rr) : sk_Met C l 2 yX10_join cX10_join 2 (some .int) [.ref p0, .int p1] S d (some (.int rr)) S d := by
  refine sk_Met.of (by decide) (Nat.le_of_ble_eq_true rfl) (Nat.le_refl _) (Nat.le_refl _) (fun X K0 hX => ?_)
  have K : sk_Ok X C cX10_join 2 RX10 "join" (some .int) 2 l (some (.int rr)) S d := K0
  have R1 : X.2.2.2.2.2.2.2.2.2.2.2.1 ≤ S.1.1 ∧ X.2.2.2.2.2.2.2.2.2.2.2.2 ≤ S.1.2 := by rw [hX]; exact ⟨Nat.le_refl _, Nat.le_refl _⟩
  have R2 : S.1.1 ≤ S.1.1 ∧ S.1.2 ≤ S.1.2 := ⟨Nat.le_refl _, Nat.le_refl _⟩
  show sk_G X C 2 S d 0 [(0, .ref p0), (1, .int p1)] []
  unfold fX10_join at hf
  refine sk_iload_n K dX10_join_0 rfl 1 rfl ?_
  refine sk_if_ne 28 K dX10_join_1 (by decide) (fun h1 => ?_) (fun h1 => ?_)
  · rw [if_neg h1] at hf
    refine sk_iload_n K dX10_join_28 rfl 1 rfl ?_
    refine sk_bipush (10 : Int32) K dX10_join_29 (by decide) ?_
    refine sk_icmp_lt 51 K dX10_join_31 (by decide) (fun h2 => ?_) (fun h2 => ?_)
    · rw [if_pos h2] at hf
      refine sk_bipush (-2 : Int32) K dX10_join_51 (by decide) ?_
      have hR3 : (-2 : Int32) = rr := Option.some.inj hf
      exact sk_iret K dX10_join_53 rfl rfl hR3 rfl rfl
    · rw [if_neg h2] at hf
      refine sk_aload_n K dX10_join_34 rfl 0 rfl ?_
      obtain ⟨v4, e5, hf⟩ := sk_ob hf
      refine sk_getR K dX10_join_35 fl_X10_10 rfl e5 ?_
      obtain ⟨v6, e7, hf⟩ := sk_ob hf
      refine sk_getR K dX10_join_38 fl_X10_98 rfl e7 ?_
      refine sk_iload_n K dX10_join_41 rfl 1 rfl ?_
      refine sk_bipush (10 : Int32) K dX10_join_42 (by decide) ?_
      refine sk_isub K dX10_join_44 ?_
      obtain ⟨h10, hf⟩ := sk_ib hf
      obtain ⟨v8, e9, hf⟩ := sk_ob hf
      refine sk_callV (As := [.int (p1 - (10 : Int32))]) (st := []) K dX10_join_45 cl_X10_116 h10 (sX2_has C l e9) (by decide) rfl rfl (Nat.le_of_ble_eq_true rfl) R1 R2 ?_
      refine sk_ifneB 54 K dX10_join_48 (by decide) (fun h11 => ?_) (fun h11 => ?_)
      · rw [if_pos h11] at hf
        refine sk_aload_n K dX10_join_54 rfl 0 rfl ?_
        obtain ⟨v12, e13, hf⟩ := sk_ob hf
        refine sk_getR K dX10_join_55 fl_X10_10 rfl e13 ?_
        obtain ⟨v14, e15, hf⟩ := sk_ob hf
        refine sk_getR K dX10_join_58 fl_X10_98 rfl e15 ?_
        refine sk_iload_n K dX10_join_61 rfl 1 rfl ?_
        refine sk_bipush (10 : Int32) K dX10_join_62 (by decide) ?_
        refine sk_isub K dX10_join_64 ?_
        refine sk_aload_n K dX10_join_65 rfl 0 rfl ?_
        obtain ⟨v16, e17, hf⟩ := sk_ob hf
        refine sk_getR K dX10_join_66 fl_X10_47 rfl e17 ?_
        obtain ⟨v18, e19, hf⟩ := sk_ob hf
        refine sk_getI K dX10_join_69 fl_X10_120 rfl e19 ?_
        obtain ⟨v20, e21, hf⟩ := sk_ob hf
        refine sk_callS (As := [.int v18]) (st := [.int (p1 - (10 : Int32)), .ref v14]) K dX10_join_72 cl_X10_286 (sX10_shownIn C l e21) (by decide) rfl rfl (Nat.le_of_ble_eq_true rfl) R1 R2 ?_
        obtain ⟨h24, hf⟩ := sk_ib hf
        obtain ⟨v22, e23, hf⟩ := sk_ob hf
        refine sk_callV (As := [.int (p1 - (10 : Int32)), .int v20]) (st := []) K dX10_join_75 cl_X10_292 h24 (sX2_doorOf C l e23) (by decide) rfl rfl (Nat.le_of_ble_eq_true rfl) R1 R2 ?_
        have hR25 : v22 = rr := Option.some.inj hf
        exact sk_iret K dX10_join_78 rfl rfl hR25 rfl rfl
      · rw [if_neg h11] at hf
        refine sk_bipush (-2 : Int32) K dX10_join_51 (by decide) ?_
        have hR26 : (-2 : Int32) = rr := Option.some.inj hf
        exact sk_iret K dX10_join_53 rfl rfl hR26 rfl rfl
  · rw [if_pos h1] at hf
    refine sk_aload_n K dX10_join_4 rfl 0 rfl ?_
    obtain ⟨v27, e28, hf⟩ := sk_ob hf
    refine sk_getR K dX10_join_5 fl_X10_10 rfl e28 ?_
    obtain ⟨v29, e30, hf⟩ := sk_ob hf
    refine sk_getR K dX10_join_8 fl_X10_98 rfl e30 ?_
    refine sk_aload_n K dX10_join_11 rfl 0 rfl ?_
    obtain ⟨v31, e32, hf⟩ := sk_ob hf
    refine sk_getR K dX10_join_12 fl_X10_47 rfl e32 ?_
    obtain ⟨v33, e34, hf⟩ := sk_ob hf
    refine sk_getI K dX10_join_15 fl_X10_120 rfl e34 ?_
    obtain ⟨v35, e36, hf⟩ := sk_ob hf
    refine sk_callS (As := [.int v33]) (st := [.ref v29]) K dX10_join_18 cl_X10_286 (sX10_shownIn C l e36) (by decide) rfl rfl (Nat.le_of_ble_eq_true rfl) R1 R2 ?_
    obtain ⟨h39, hf⟩ := sk_ib hf
    obtain ⟨v37, e38, hf⟩ := sk_ob hf
    refine sk_callV (As := [.int v35]) (st := []) K dX10_join_21 cl_X10_289 h39 (sX2_doorsJoined C l e38) (by decide) rfl rfl (Nat.le_of_ble_eq_true rfl) R1 R2 ?_
    obtain ⟨v40, e41, hf⟩ := sk_ob hf
    refine sk_callS (As := [.int v37]) (st := []) K dX10_join_24 cl_X10_173 (sJ6_bitCount_0f7a4 C l e41) (by decide) rfl rfl (Nat.le_of_ble_eq_true rfl) R1 R2 ?_
    have hR42 : v40 = rr := Option.some.inj hf
    exact sk_iret K dX10_join_27 rfl rfl hR42 rfl rfl
