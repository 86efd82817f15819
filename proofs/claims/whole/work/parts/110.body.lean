noncomputable def fX11_whyNot (S : sk_S) (d : sk_D) (p0 : Nat) (p1 : Int64) : Option (Int32) :=
  (fX11_within S d p1 (0 : Int64) (9 : Int64)).bind fun v1 => if v1 = true then (if S.2.1 p0 = (10, 0) then ((fX11_whyDo S d p0 p1).bind fun v32 => some v32) else none) else ((fX11_within S d p1 (10 : Int64) (19 : Int64)).bind fun v4 => if v4 = true then (if S.2.1 p0 = (10, 0) then ((fX11_whyDrop S d p0 (p1 - (10 : Int64))).bind fun v28 => some v28) else none) else ((fX11_within S d p1 (20 : Int64) (29 : Int64)).bind fun v7 => if v7 = true then (if S.2.1 p0 = (10, 0) then ((fX11_whyForge S d p0 (p1 - (20 : Int64))).bind fun v24 => some v24) else none) else ((fX11_within S d p1 (30 : Int64) (39 : Int64)).bind fun v10 => if v10 = true then (if S.2.1 p0 = (10, 0) then ((fX11_isDoing S d p0 (p1 - (30 : Int64))).bind fun v18 => if v18 = true then (some (0 : Int32)) else (some (1 : Int32))) else none) else ((fX11_within S d p1 (40 : Int64) (49 : Int64)).bind fun v13 => if v13 = true then (some (0 : Int32)) else (some (1 : Int32))))))
set_option maxRecDepth 100000 in
set_option maxHeartbeats 4000000 in
theorem sX11_whyNot (C : sk_C) (l : Launch) {S : sk_S} {d : sk_D} {p0 : Nat} {p1 : Int64} {rr : Int32} (hf : fX11_whyNot S d p0 p1 = some rr) : sk_Met C l 5 yX11_whyNot cX11_whyNot 3 (some .int) [.ref p0, .long p1] S d (some (.int rr)) S d := by
  refine sk_Met.of (by decide) (Nat.le_of_ble_eq_true rfl) (Nat.le_refl _) (Nat.le_refl _) (fun X K0 hX => ?_)
  have K : sk_Ok X C cX11_whyNot 3 RX11 "whyNot" (some .int) 5 l (some (.int rr)) S d := K0
  have R1 : X.2.2.2.2.2.2.2.2.2.2.2.1 ≤ S.1.1 ∧ X.2.2.2.2.2.2.2.2.2.2.2.2 ≤ S.1.2 := by rw [hX]; exact ⟨Nat.le_refl _, Nat.le_refl _⟩
  have R2 : S.1.1 ≤ S.1.1 ∧ S.1.2 ≤ S.1.2 := ⟨Nat.le_refl _, Nat.le_refl _⟩
  show sk_G X C 3 S d 0 [(0, .ref p0), (1, .long p1)] []
  unfold fX11_whyNot at hf
  refine sk_lload_n K dX11_whyNot_0 rfl 1 rfl ?_
  refine sk_lconst (0 : Int64) K dX11_whyNot_1 (by decide) ?_
  refine sk_ldc2 K dX11_whyNot_2 qw_1681 ?_
  obtain ⟨v1, e2, hf⟩ := sk_ob hf
  refine sk_callS (As := [.long p1, .long (0 : Int64), .long (9 : Int64)]) (st := []) K dX11_whyNot_5 cl_X11_150 (sX11_within C l e2) (by decide) rfl rfl (Nat.le_of_ble_eq_true rfl) R1 R2 ?_
  refine sk_ifeqB 17 K dX11_whyNot_8 (by decide) (fun h3 => ?_) (fun h3 => ?_)
  · rw [if_neg h3] at hf
    refine sk_lload_n K dX11_whyNot_17 rfl 1 rfl ?_
    refine sk_ldc2 K dX11_whyNot_18 qw_1686 ?_
    refine sk_ldc2 K dX11_whyNot_21 qw_1704 ?_
    obtain ⟨v4, e5, hf⟩ := sk_ob hf
    refine sk_callS (As := [.long p1, .long (10 : Int64), .long (19 : Int64)]) (st := []) K dX11_whyNot_24 cl_X11_150 (sX11_within C l e5) (by decide) rfl rfl (Nat.le_of_ble_eq_true rfl) R1 R2 ?_
    refine sk_ifeqB 40 K dX11_whyNot_27 (by decide) (fun h6 => ?_) (fun h6 => ?_)
    · rw [if_neg h6] at hf
      refine sk_lload_n K dX11_whyNot_40 rfl 1 rfl ?_
      refine sk_ldc2 K dX11_whyNot_41 qw_1705 ?_
      refine sk_ldc2 K dX11_whyNot_44 qw_1706 ?_
      obtain ⟨v7, e8, hf⟩ := sk_ob hf
      refine sk_callS (As := [.long p1, .long (20 : Int64), .long (29 : Int64)]) (st := []) K dX11_whyNot_47 cl_X11_150 (sX11_within C l e8) (by decide) rfl rfl (Nat.le_of_ble_eq_true rfl) R1 R2 ?_
      refine sk_ifeqB 63 K dX11_whyNot_50 (by decide) (fun h9 => ?_) (fun h9 => ?_)
      · rw [if_neg h9] at hf
        refine sk_lload_n K dX11_whyNot_63 rfl 1 rfl ?_
        refine sk_ldc2 K dX11_whyNot_64 qw_1707 ?_
        refine sk_ldc2 K dX11_whyNot_67 qw_1708 ?_
        obtain ⟨v10, e11, hf⟩ := sk_ob hf
        refine sk_callS (As := [.long p1, .long (30 : Int64), .long (39 : Int64)]) (st := []) K dX11_whyNot_70 cl_X11_150 (sX11_within C l e11) (by decide) rfl rfl (Nat.le_of_ble_eq_true rfl) R1 R2 ?_
        refine sk_ifeqB 94 K dX11_whyNot_73 (by decide) (fun h12 => ?_) (fun h12 => ?_)
        · rw [if_neg h12] at hf
          refine sk_lload_n K dX11_whyNot_94 rfl 1 rfl ?_
          refine sk_ldc2 K dX11_whyNot_95 qw_1709 ?_
          refine sk_ldc2 K dX11_whyNot_98 qw_1710 ?_
          obtain ⟨v13, e14, hf⟩ := sk_ob hf
          refine sk_callS (As := [.long p1, .long (40 : Int64), .long (49 : Int64)]) (st := []) K dX11_whyNot_101 cl_X11_150 (sX11_within C l e14) (by decide) rfl rfl (Nat.le_of_ble_eq_true rfl) R1 R2 ?_
          refine sk_ifeqB 111 K dX11_whyNot_104 (by decide) (fun h15 => ?_) (fun h15 => ?_)
          · rw [if_neg h15] at hf
            refine sk_iconst (1 : Int32) K dX11_whyNot_111 (by decide) ?_
            have hR16 : (1 : Int32) = rr := Option.some.inj hf
            exact sk_iret K dX11_whyNot_112 rfl rfl hR16 rfl rfl
          · rw [if_pos h15] at hf
            refine sk_iconst (0 : Int32) K dX11_whyNot_107 (by decide) ?_
            refine sk_goto 112 K dX11_whyNot_108 (by decide) ?_
            have hR17 : (0 : Int32) = rr := Option.some.inj hf
            exact sk_iret K dX11_whyNot_112 rfl rfl hR17 rfl rfl
        · rw [if_pos h12] at hf
          refine sk_aload_n K dX11_whyNot_76 rfl 0 rfl ?_
          refine sk_lload_n K dX11_whyNot_77 rfl 1 rfl ?_
          refine sk_ldc2 K dX11_whyNot_78 qw_1707 ?_
          refine sk_lsub K dX11_whyNot_81 ?_
          obtain ⟨h20, hf⟩ := sk_ib hf
          obtain ⟨v18, e19, hf⟩ := sk_ob hf
          refine sk_callV (As := [.long (p1 - (30 : Int64))]) (st := []) K dX11_whyNot_82 cl_X11_266 h20 (sX11_isDoing C l e19) (by decide) rfl rfl (Nat.le_of_ble_eq_true rfl) R1 R2 ?_
          refine sk_ifeqB 92 K dX11_whyNot_85 (by decide) (fun h21 => ?_) (fun h21 => ?_)
          · rw [if_neg h21] at hf
            refine sk_iconst (1 : Int32) K dX11_whyNot_92 (by decide) ?_
            have hR22 : (1 : Int32) = rr := Option.some.inj hf
            exact sk_iret K dX11_whyNot_93 rfl rfl hR22 rfl rfl
          · rw [if_pos h21] at hf
            refine sk_iconst (0 : Int32) K dX11_whyNot_88 (by decide) ?_
            refine sk_goto 93 K dX11_whyNot_89 (by decide) ?_
            have hR23 : (0 : Int32) = rr := Option.some.inj hf
            exact sk_iret K dX11_whyNot_93 rfl rfl hR23 rfl rfl
      · rw [if_pos h9] at hf
        refine sk_aload_n K dX11_whyNot_53 rfl 0 rfl ?_
        refine sk_lload_n K dX11_whyNot_54 rfl 1 rfl ?_
        refine sk_ldc2 K dX11_whyNot_55 qw_1705 ?_
        refine sk_lsub K dX11_whyNot_58 ?_
        obtain ⟨h26, hf⟩ := sk_ib hf
        obtain ⟨v24, e25, hf⟩ := sk_ob hf
        refine sk_callV (As := [.long (p1 - (20 : Int64))]) (st := []) K dX11_whyNot_59 cl_X11_298 h26 (sX11_whyForge C l e25) (by decide) rfl rfl (Nat.le_of_ble_eq_true rfl) R1 R2 ?_
        have hR27 : v24 = rr := Option.some.inj hf
        exact sk_iret K dX11_whyNot_62 rfl rfl hR27 rfl rfl
    · rw [if_pos h6] at hf
      refine sk_aload_n K dX11_whyNot_30 rfl 0 rfl ?_
      refine sk_lload_n K dX11_whyNot_31 rfl 1 rfl ?_
      refine sk_ldc2 K dX11_whyNot_32 qw_1686 ?_
      refine sk_lsub K dX11_whyNot_35 ?_
      obtain ⟨h30, hf⟩ := sk_ib hf
      obtain ⟨v28, e29, hf⟩ := sk_ob hf
      refine sk_callV (As := [.long (p1 - (10 : Int64))]) (st := []) K dX11_whyNot_36 cl_X11_292 h30 (sX11_whyDrop C l e29) (by decide) rfl rfl (Nat.le_of_ble_eq_true rfl) R1 R2 ?_
      have hR31 : v28 = rr := Option.some.inj hf
      exact sk_iret K dX11_whyNot_39 rfl rfl hR31 rfl rfl
  · rw [if_pos h3] at hf
    refine sk_aload_n K dX11_whyNot_11 rfl 0 rfl ?_
    refine sk_lload_n K dX11_whyNot_12 rfl 1 rfl ?_
    obtain ⟨h34, hf⟩ := sk_ib hf
    obtain ⟨v32, e33, hf⟩ := sk_ob hf
    refine sk_callV (As := [.long p1]) (st := []) K dX11_whyNot_13 cl_X11_276 h34 (sX11_whyDo C l e33) (by decide) rfl rfl (Nat.le_of_ble_eq_true rfl) R1 R2 ?_
    have hR35 : v32 = rr := Option.some.inj hf
    exact sk_iret K dX11_whyNot_16 rfl rfl hR35 rfl rfl
noncomputable def fX11_acts (S : sk_S) (d : sk_D) (p0 : Nat) (p1 : Int32) : Option (sk_D) :=
  if (10 : Int32) ≤ p1 then (if (20 : Int32) ≤ p1 then (if (30 : Int32) ≤ p1 then (if (40 : Int32) ≤ p1 then ((sk_gR S p0 10 1).bind fun v5 => (sk_sI S d v5 20 (82 : Int32) (p1 - p1 / (10 : Int32) * (10 : Int32))).bind fun d7 => some d7) else (if S.2.1 p0 = (10, 0) then ((fX11_standNow S d p0).bind fun v10 => if S.2.1 p0 = (10, 0) then ((fX11_standNow S d p0).bind fun v13 => if S.2.1 p0 = (10, 0) then ((fX11_askedOf S d p0 v13 (p1 - p1 / (10 : Int32) * (10 : Int32))).bind fun b20 => (fX11_opened S b20.2 v10 b20.1).bind fun v21 => if S.2.1 p0 = (10, 0) then ((fX11_isStand S b20.2 p0 v21).bind fun d25 => some d25) else none) else none) else none) else none)) else ((sk_gR S p0 10 1).bind fun v28 => (sk_sI S d v28 20 ((74 : Int32) + (p1 - p1 / (10 : Int32) * (10 : Int32))) (3 : Int32)).bind fun d30 => some d30)) else (if S.2.1 p0 = (10, 0) then ((fX11_standNow S d p0).bind fun v33 => (fX11_droppedTo S d v33 (p1 - p1 / (10 : Int32) * (10 : Int32))).bind fun v36 => if S.2.1 p0 = (10, 0) then ((fX11_isStand S d p0 v36).bind fun d40 => some d40) else none) else none)) else (if S.2.1 p0 = (10, 0) then ((fX11_standNow S d p0).bind fun v43 => if S.2.1 p0 = (10, 0) then ((fX11_doneTo S d p0 v43 (p1 - p1 / (10 : Int32) * (10 : Int32))).bind fun b50 => if S.2.1 p0 = (10, 0) then ((fX11_isStand S b50.2 p0 b50.1).bind fun d53 => some d53) else none) else none) else none)
set_option maxRecDepth 100000 in
set_option maxHeartbeats 4000000 in
theorem sX11_acts (C : sk_C) (l : Launch) {S : sk_S} {d : sk_D} {p0 : Nat} {p1 : Int32} {dd : sk_D} (hf : fX11_acts S d p0 p1 = some dd) : sk_Met C l 7 yX11_acts cX11_acts 3 none [.ref p0, .int p1] S d none S dd := by
  refine sk_Met.of (by decide) (Nat.le_of_ble_eq_true rfl) (Nat.le_refl _) (Nat.le_refl _) (fun X K0 hX => ?_)
  have K : sk_Ok X C cX11_acts 3 RX11 "acts" none 7 l none S dd := K0
  have R1 : X.2.2.2.2.2.2.2.2.2.2.2.1 ≤ S.1.1 ∧ X.2.2.2.2.2.2.2.2.2.2.2.2 ≤ S.1.2 := by rw [hX]; exact ⟨Nat.le_refl _, Nat.le_refl _⟩
  have R2 : S.1.1 ≤ S.1.1 ∧ S.1.2 ≤ S.1.2 := ⟨Nat.le_refl _, Nat.le_refl _⟩
  show sk_G X C 3 S d 0 [(0, .ref p0), (1, .int p1)] []
  unfold fX11_acts at hf
  refine sk_iload_n K dX11_acts_0 rfl 1 rfl ?_
  refine sk_bipush (10 : Int32) K dX11_acts_1 (by decide) ?_
  refine sk_irem K dX11_acts_3 (by decide) ?_
  refine sk_istore_n [(2, .int (p1 - p1 / (10 : Int32) * (10 : Int32))), (0, .ref p0), (1, .int p1)] K dX11_acts_4 rfl (by decide) rfl ?_
  refine sk_iload_n K dX11_acts_5 rfl 2 rfl ?_
  refine sk_bipush (10 : Int32) K dX11_acts_6 (by decide) ?_
  refine sk_icmp_ge 27 K dX11_acts_8 (by decide) (fun h1 => ?_) (fun h1 => ?_)
  · rw [if_pos h1] at hf
    refine sk_iload_n K dX11_acts_27 rfl 2 rfl ?_
    refine sk_bipush (20 : Int32) K dX11_acts_28 (by decide) ?_
    refine sk_icmp_ge 48 K dX11_acts_30 (by decide) (fun h2 => ?_) (fun h2 => ?_)
    · rw [if_pos h2] at hf
      refine sk_iload_n K dX11_acts_48 rfl 2 rfl ?_
      refine sk_bipush (30 : Int32) K dX11_acts_49 (by decide) ?_
      refine sk_icmp_ge 67 K dX11_acts_51 (by decide) (fun h3 => ?_) (fun h3 => ?_)
      · rw [if_pos h3] at hf
        refine sk_iload_n K dX11_acts_67 rfl 2 rfl ?_
        refine sk_bipush (40 : Int32) K dX11_acts_68 (by decide) ?_
        refine sk_icmp_ge 96 K dX11_acts_70 (by decide) (fun h4 => ?_) (fun h4 => ?_)
        · rw [if_pos h4] at hf
          refine sk_aload_n K dX11_acts_96 rfl 1 rfl ?_
          obtain ⟨v5, e6, hf⟩ := sk_ob hf
          refine sk_getR K dX11_acts_97 fl_X11_13 rfl e6 ?_
          refine sk_bipush (82 : Int32) K dX11_acts_100 (by decide) ?_
          refine sk_iload_n K dX11_acts_102 rfl 0 rfl ?_
          obtain ⟨d7, e8, hf⟩ := sk_ob hf
          refine sk_ast20 d7 K dX11_acts_103 e8 ?_
          have hR9 : d7 = dd := Option.some.inj hf
          exact sk_vret K dX11_acts_104 rfl rfl rfl hR9
        · rw [if_neg h4] at hf
          refine sk_aload_n K dX11_acts_73 rfl 1 rfl ?_
          refine sk_aload_n K dX11_acts_74 rfl 1 rfl ?_
          obtain ⟨h12, hf⟩ := sk_ib hf
          obtain ⟨v10, e11, hf⟩ := sk_ob hf
          refine sk_callV (As := []) (st := [.ref p0]) K dX11_acts_75 cl_X11_270 h12 (sX11_standNow C l e11) (by decide) rfl rfl (Nat.le_of_ble_eq_true rfl) R1 R2 ?_
          refine sk_aload_n K dX11_acts_78 rfl 1 rfl ?_
          refine sk_aload_n K dX11_acts_79 rfl 1 rfl ?_
          obtain ⟨h15, hf⟩ := sk_ib hf
          obtain ⟨v13, e14, hf⟩ := sk_ob hf
          refine sk_callV (As := []) (st := [.ref p0, .int v10, .ref p0]) K dX11_acts_80 cl_X11_270 h15 (sX11_standNow C l e14) (by decide) rfl rfl (Nat.le_of_ble_eq_true rfl) R1 R2 ?_
          refine sk_iload_n K dX11_acts_83 rfl 0 rfl ?_
          obtain ⟨h19, hf⟩ := sk_ib hf
          obtain ⟨⟨v16, d18⟩, e17, hf⟩ := sk_ob hf
          try dsimp only at hf
          refine sk_callV (As := [.int v13, .int (p1 - p1 / (10 : Int32) * (10 : Int32))]) (st := [.int v10, .ref p0]) K dX11_acts_84 cl_X11_301 h19 (sX11_askedOf C l e17) (by decide) rfl rfl (Nat.le_of_ble_eq_true rfl) R1 R2 ?_
          obtain ⟨v21, e22, hf⟩ := sk_ob hf
          refine sk_callS (As := [.int v10, .int v16]) (st := [.ref p0]) K dX11_acts_87 cl_X11_304 (sX11_opened C l e22) (by decide) rfl rfl (Nat.le_of_ble_eq_true rfl) R1 R2 ?_
          obtain ⟨h26, hf⟩ := sk_ib hf
          obtain ⟨d25, e24, hf⟩ := sk_ob hf
          refine sk_callV (As := [.int v21]) (st := []) K dX11_acts_90 cl_X11_286 h26 (sX11_isStand C l e24) (by decide) rfl rfl (Nat.le_of_ble_eq_true rfl) R1 R2 ?_
          refine sk_goto 104 K dX11_acts_93 (by decide) ?_
          have hR27 : d25 = dd := Option.some.inj hf
          exact sk_vret K dX11_acts_104 rfl rfl rfl hR27
      · rw [if_neg h3] at hf
        refine sk_aload_n K dX11_acts_54 rfl 1 rfl ?_
        obtain ⟨v28, e29, hf⟩ := sk_ob hf
        refine sk_getR K dX11_acts_55 fl_X11_13 rfl e29 ?_
        refine sk_bipush (74 : Int32) K dX11_acts_58 (by decide) ?_
        refine sk_iload_n K dX11_acts_60 rfl 0 rfl ?_
        refine sk_iadd K dX11_acts_61 ?_
        refine sk_iconst (3 : Int32) K dX11_acts_62 (by decide) ?_
        obtain ⟨d30, e31, hf⟩ := sk_ob hf
        refine sk_ast20 d30 K dX11_acts_63 e31 ?_
        refine sk_goto 104 K dX11_acts_64 (by decide) ?_
        have hR32 : d30 = dd := Option.some.inj hf
        exact sk_vret K dX11_acts_104 rfl rfl rfl hR32
    · rw [if_neg h2] at hf
      refine sk_aload_n K dX11_acts_33 rfl 1 rfl ?_
      refine sk_aload_n K dX11_acts_34 rfl 1 rfl ?_
      obtain ⟨h35, hf⟩ := sk_ib hf
      obtain ⟨v33, e34, hf⟩ := sk_ob hf
      refine sk_callV (As := []) (st := [.ref p0]) K dX11_acts_35 cl_X11_270 h35 (sX11_standNow C l e34) (by decide) rfl rfl (Nat.le_of_ble_eq_true rfl) R1 R2 ?_
      refine sk_iload_n K dX11_acts_38 rfl 0 rfl ?_
      obtain ⟨v36, e37, hf⟩ := sk_ob hf
      refine sk_callS (As := [.int v33, .int (p1 - p1 / (10 : Int32) * (10 : Int32))]) (st := [.ref p0]) K dX11_acts_39 cl_X11_295 (sX11_droppedTo C l e37) (by decide) rfl rfl (Nat.le_of_ble_eq_true rfl) R1 R2 ?_
      obtain ⟨h41, hf⟩ := sk_ib hf
      obtain ⟨d40, e39, hf⟩ := sk_ob hf
      refine sk_callV (As := [.int v36]) (st := []) K dX11_acts_42 cl_X11_286 h41 (sX11_isStand C l e39) (by decide) rfl rfl (Nat.le_of_ble_eq_true rfl) R1 R2 ?_
      refine sk_goto 104 K dX11_acts_45 (by decide) ?_
      have hR42 : d40 = dd := Option.some.inj hf
      exact sk_vret K dX11_acts_104 rfl rfl rfl hR42
  · rw [if_neg h1] at hf
    refine sk_aload_n K dX11_acts_11 rfl 1 rfl ?_
    refine sk_aload_n K dX11_acts_12 rfl 1 rfl ?_
    refine sk_aload_n K dX11_acts_13 rfl 1 rfl ?_
    obtain ⟨h45, hf⟩ := sk_ib hf
    obtain ⟨v43, e44, hf⟩ := sk_ob hf
    refine sk_callV (As := []) (st := [.ref p0, .ref p0]) K dX11_acts_14 cl_X11_270 h45 (sX11_standNow C l e44) (by decide) rfl rfl (Nat.le_of_ble_eq_true rfl) R1 R2 ?_
    refine sk_iload_n K dX11_acts_17 rfl 0 rfl ?_
    obtain ⟨h49, hf⟩ := sk_ib hf
    obtain ⟨⟨v46, d48⟩, e47, hf⟩ := sk_ob hf
    try dsimp only at hf
    refine sk_callV (As := [.int v43, .int (p1 - p1 / (10 : Int32) * (10 : Int32))]) (st := [.ref p0]) K dX11_acts_18 cl_X11_283 h49 (sX11_doneTo C l e47) (by decide) rfl rfl (Nat.le_of_ble_eq_true rfl) R1 R2 ?_
    obtain ⟨h54, hf⟩ := sk_ib hf
    obtain ⟨d53, e52, hf⟩ := sk_ob hf
    refine sk_callV (As := [.int v46]) (st := []) K dX11_acts_21 cl_X11_286 h54 (sX11_isStand C l e52) (by decide) rfl rfl (Nat.le_of_ble_eq_true rfl) R1 R2 ?_
    refine sk_goto 104 K dX11_acts_24 (by decide) ?_
    have hR55 : d53 = dd := Option.some.inj hf
    exact sk_vret K dX11_acts_104 rfl rfl rfl hR55
noncomputable def fX11_tells_L7 (S : sk_S) (p0 : Nat) (p1 : Int32) (s1 : Int32 × sk_D) : Option ((Int32 × sk_D) ⊕ (Int32 × sk_D)) :=
  (sk_gR S p0 10 35).bind fun v3 => (sk_lI S s1.2 v3 20 p1).bind fun v5 => if v5 ≤ s1.1 then ((sk_gR S p0 10 35).bind fun v8 => (sk_lI S s1.2 v8 20 p1).bind fun v10 => some (.inr (v10, s1.2))) else ((sk_gR S p0 10 36).bind fun v13 => (sk_lJ S s1.2 v13 (((40 : Int32) * p1) + s1.1)).bind fun v15 => if S.2.1 p0 = (10, 0) then ((fX11_whyNot S s1.2 p0 v15).bind fun v17 => (sk_pI S s1.2 p0 10 19 v17).bind fun d20 => (sk_gI S d20 p0 10 19).bind fun v22 => if v22 = 0 then ((sk_gR S p0 10 36).bind fun v25 => (sk_lJ S d20 v25 (((40 : Int32) * p1) + s1.1)).bind fun v27 => if S.2.1 p0 = (10, 0) then ((fX11_acts S d20 p0 v27.toInt32).bind fun d31 => some (.inl (s1.1 + 1, d31))) else none) else (some (.inr (s1.1, d20)))) else none)
noncomputable def fX11_tells (S : sk_S) (d : sk_D) (p0 : Nat) (p1 : Int32) : Option (Int32 × sk_D) :=
  (sk_pI S d p0 10 19 (0 : Int32)).bind fun d1 => (sk_itr (fX11_tells_L7 S p0 p1) ((0 : Int32), d1)).bind fun x1 => some x1
set_option maxRecDepth 100000 in
set_option maxHeartbeats 4000000 in
theorem sX11_tells (C : sk_C) (l : Launch) {S : sk_S} {d : sk_D} {p0 : Nat} {p1 : Int32} {rr : Int32} {dd : sk_D} (hf : fX11_tells S d p0 p1 = some (rr, dd)) : sk_Met C l 8 yX11_tells cX11_tells 3 (some .int) [.ref p0, .int p1] S d (some (.int rr)) S dd := by
  refine sk_Met.of (by decide) (Nat.le_of_ble_eq_true rfl) (Nat.le_refl _) (Nat.le_refl _) (fun X K0 hX => ?_)
  have K : sk_Ok X C cX11_tells 3 RX11 "tells" (some .int) 8 l (some (.int rr)) S dd := K0
  have R1 : X.2.2.2.2.2.2.2.2.2.2.2.1 ≤ S.1.1 ∧ X.2.2.2.2.2.2.2.2.2.2.2.2 ≤ S.1.2 := by rw [hX]; exact ⟨Nat.le_refl _, Nat.le_refl _⟩
  have R2 : S.1.1 ≤ S.1.1 ∧ S.1.2 ≤ S.1.2 := ⟨Nat.le_refl _, Nat.le_refl _⟩
  show sk_G X C 3 S d 0 [(0, .ref p0), (1, .int p1)] []
  unfold fX11_tells at hf
  refine sk_aload_n K dX11_tells_0 rfl 0 rfl ?_
  refine sk_iconst (0 : Int32) K dX11_tells_1 (by decide) ?_
  obtain ⟨d1, e2, hf⟩ := sk_ob hf
  refine sk_putI d1 K dX11_tells_2 fl_X11_325 rfl rfl rfl e2 ?_
  refine sk_iconst (0 : Int32) K dX11_tells_5 (by decide) ?_
  refine sk_istore_n [(2, .int (0 : Int32)), (0, .ref p0), (1, .int p1)] K dX11_tells_6 rfl (by decide) rfl ?_
  obtain ⟨x1, he1, hf⟩ := sk_ob hf
  have hret1 : ∀ r, r = x1 → r = (rr, dd) := by
    intro r hr
    subst hr
    exact Option.some.inj hf
  refine sk_sub [(0, .ref p0), (1, .int p1), (2, .int (0 : Int32))] [1, 2, 0] rfl ?_
  refine sk_loop (fun s1 => sk_G X C 3 S s1.2 7 [(0, .ref p0), (1, .int p1), (2, .int s1.1)] []) he1 (fun s1 o1 hf ih1 hx1 => ?_)
  unfold fX11_tells_L7 at hf
  refine sk_iload_n K dX11_tells_7 rfl 2 rfl ?_
  refine sk_aload_n K dX11_tells_8 rfl 0 rfl ?_
  obtain ⟨v3, e4, hf⟩ := sk_ob hf
  refine sk_getR K dX11_tells_9 fl_X11_78 rfl e4 ?_
  refine sk_iload_n K dX11_tells_12 rfl 1 rfl ?_
  obtain ⟨v5, e6, hf⟩ := sk_ob hf
  refine sk_ald20 K dX11_tells_13 e6 ?_
  refine sk_icmp_ge 67 K dX11_tells_14 (by decide) (fun h7 => ?_) (fun h7 => ?_)
  · rw [if_pos h7] at hf
    refine sk_aload_n K dX11_tells_67 rfl 0 rfl ?_
    obtain ⟨v8, e9, hf⟩ := sk_ob hf
    refine sk_getR K dX11_tells_68 fl_X11_78 rfl e9 ?_
    refine sk_iload_n K dX11_tells_71 rfl 1 rfl ?_
    obtain ⟨v10, e11, hf⟩ := sk_ob hf
    refine sk_ald20 K dX11_tells_72 e11 ?_
    have hR12 : (v10, s1.2) = (rr, dd) := hret1 _ (hx1 _ (Option.some.inj hf).symm)
    exact sk_iret K dX11_tells_73 rfl rfl (congrArg (fun z => z.1) hR12) rfl (congrArg (fun z => z.2) hR12)
  · rw [if_neg h7] at hf
    refine sk_aload_n K dX11_tells_17 rfl 0 rfl ?_
    refine sk_aload_n K dX11_tells_18 rfl 0 rfl ?_
    refine sk_aload_n K dX11_tells_19 rfl 0 rfl ?_
    obtain ⟨v13, e14, hf⟩ := sk_ob hf
    refine sk_getR K dX11_tells_20 fl_X11_81 rfl e14 ?_
    refine sk_bipush (40 : Int32) K dX11_tells_23 (by decide) ?_
    refine sk_iload_n K dX11_tells_25 rfl 1 rfl ?_
    refine sk_imul K dX11_tells_26 ?_
    refine sk_iload_n K dX11_tells_27 rfl 2 rfl ?_
    refine sk_iadd K dX11_tells_28 ?_
    obtain ⟨v15, e16, hf⟩ := sk_ob hf
    refine sk_ald21 K dX11_tells_29 e16 ?_
    obtain ⟨h19, hf⟩ := sk_ib hf
    obtain ⟨v17, e18, hf⟩ := sk_ob hf
    refine sk_callV (As := [.long v15]) (st := [.ref p0]) K dX11_tells_30 cl_X11_328 h19 (sX11_whyNot C l e18) (by decide) rfl rfl (Nat.le_of_ble_eq_true rfl) R1 R2 ?_
    obtain ⟨d20, e21, hf⟩ := sk_ob hf
    refine sk_putI d20 K dX11_tells_33 fl_X11_325 rfl rfl rfl e21 ?_
    refine sk_aload_n K dX11_tells_36 rfl 0 rfl ?_
    obtain ⟨v22, e23, hf⟩ := sk_ob hf
    refine sk_getI K dX11_tells_37 fl_X11_325 rfl e23 ?_
    refine sk_if_eq 45 K dX11_tells_40 (by decide) (fun h24 => ?_) (fun h24 => ?_)
    · rw [if_pos h24] at hf
      refine sk_aload_n K dX11_tells_45 rfl 0 rfl ?_
      refine sk_aload_n K dX11_tells_46 rfl 0 rfl ?_
      obtain ⟨v25, e26, hf⟩ := sk_ob hf
      refine sk_getR K dX11_tells_47 fl_X11_81 rfl e26 ?_
      refine sk_bipush (40 : Int32) K dX11_tells_50 (by decide) ?_
      refine sk_iload_n K dX11_tells_52 rfl 1 rfl ?_
      refine sk_imul K dX11_tells_53 ?_
      refine sk_iload_n K dX11_tells_54 rfl 2 rfl ?_
      refine sk_iadd K dX11_tells_55 ?_
      obtain ⟨v27, e28, hf⟩ := sk_ob hf
      refine sk_ald21 K dX11_tells_56 e28 ?_
      refine sk_l2i K dX11_tells_57 ?_
      obtain ⟨h32, hf⟩ := sk_ib hf
      obtain ⟨d31, e30, hf⟩ := sk_ob hf
      refine sk_callV (As := [.int v27.toInt32]) (st := []) K dX11_tells_58 cl_X11_331 h32 (sX11_acts C l e30) (by decide) rfl rfl (Nat.le_of_ble_eq_true rfl) R1 R2 ?_
      refine sk_iinc (s1.1 + 1) [(2, .int (s1.1 + 1)), (0, .ref p0), (1, .int p1)] K dX11_tells_61 2 rfl rfl (by decide) rfl ?_
      refine sk_goto 7 K dX11_tells_64 (by decide) ?_
      refine sk_sub [(0, .ref p0), (1, .int p1), (2, .int (s1.1 + 1))] [1, 2, 0] rfl ?_
      have h9 := ih1 _ (Option.some.inj hf).symm
      exact h9
    · rw [if_neg h24] at hf
      refine sk_iload_n K dX11_tells_43 rfl 2 rfl ?_
      have hR33 : (s1.1, d20) = (rr, dd) := hret1 _ (hx1 _ (Option.some.inj hf).symm)
      exact sk_iret K dX11_tells_44 rfl rfl (congrArg (fun z => z.1) hR33) rfl (congrArg (fun z => z.2) hR33)
noncomputable def fX11_noTray (S : sk_S) (d : sk_D) (p0 : Nat) (p1 : Int32) : Option (Int32) :=
  (fX11_within S d p1.toInt64 (0 : Int64) (3 : Int64)).bind fun v1 => if v1 = true then ((sk_gR S p0 10 34).bind fun v4 => (sk_lI S d v4 20 p1).bind fun v6 => if v6 = (-1 : Int32) then (some (-6 : Int32)) else (some (0 : Int32))) else (some (-2 : Int32))
set_option maxRecDepth 100000 in
set_option maxHeartbeats 4000000 in
theorem sX11_noTray (C : sk_C) (l : Launch) {S : sk_S} {d : sk_D} {p0 : Nat} {p1 : Int32} {rr : Int32} (hf : fX11_noTray S d p0 p1 = some rr) : sk_Met C l 1 yX11_noTray cX11_noTray 2 (some .int) [.ref p0, .int p1] S d (some (.int rr)) S d := by
  refine sk_Met.of (by decide) (Nat.le_of_ble_eq_true rfl) (Nat.le_refl _) (Nat.le_refl _) (fun X K0 hX => ?_)
  have K : sk_Ok X C cX11_noTray 2 RX11 "noTray" (some .int) 1 l (some (.int rr)) S d := K0
  have R1 : X.2.2.2.2.2.2.2.2.2.2.2.1 ≤ S.1.1 ∧ X.2.2.2.2.2.2.2.2.2.2.2.2 ≤ S.1.2 := by rw [hX]; exact ⟨Nat.le_refl _, Nat.le_refl _⟩
  have R2 : S.1.1 ≤ S.1.1 ∧ S.1.2 ≤ S.1.2 := ⟨Nat.le_refl _, Nat.le_refl _⟩
  show sk_G X C 2 S d 0 [(0, .ref p0), (1, .int p1)] []
  unfold fX11_noTray at hf
  refine sk_iload_n K dX11_noTray_0 rfl 1 rfl ?_
  refine sk_i2l K dX11_noTray_1 ?_
  refine sk_lconst (0 : Int64) K dX11_noTray_2 (by decide) ?_
  refine sk_ldc2 K dX11_noTray_3 qw_1691 ?_
  obtain ⟨v1, e2, hf⟩ := sk_ob hf
  refine sk_callS (As := [.long p1.toInt64, .long (0 : Int64), .long (3 : Int64)]) (st := []) K dX11_noTray_6 cl_X11_150 (sX11_within C l e2) (by decide) rfl rfl (Nat.le_of_ble_eq_true rfl) R1 R2 ?_
  refine sk_ifneB 17 K dX11_noTray_9 (by decide) (fun h3 => ?_) (fun h3 => ?_)
  · rw [if_pos h3] at hf
    refine sk_aload_n K dX11_noTray_17 rfl 0 rfl ?_
    obtain ⟨v4, e5, hf⟩ := sk_ob hf
    refine sk_getR K dX11_noTray_18 fl_X11_75 rfl e5 ?_
    refine sk_iload_n K dX11_noTray_21 rfl 1 rfl ?_
    obtain ⟨v6, e7, hf⟩ := sk_ob hf
    refine sk_ald20 K dX11_noTray_22 e7 ?_
    refine sk_iconst (-1 : Int32) K dX11_noTray_23 (by decide) ?_
    refine sk_icmp_ne 32 K dX11_noTray_24 (by decide) (fun h8 => ?_) (fun h8 => ?_)
    · rw [if_neg h8] at hf
      refine sk_iconst (0 : Int32) K dX11_noTray_32 (by decide) ?_
      have hR9 : (0 : Int32) = rr := Option.some.inj hf
      exact sk_iret K dX11_noTray_33 rfl rfl hR9 rfl rfl
    · rw [if_pos h8] at hf
      refine sk_bipush (-6 : Int32) K dX11_noTray_27 (by decide) ?_
      refine sk_goto 33 K dX11_noTray_29 (by decide) ?_
      have hR10 : (-6 : Int32) = rr := Option.some.inj hf
      exact sk_iret K dX11_noTray_33 rfl rfl hR10 rfl rfl
  · rw [if_neg h3] at hf
    refine sk_bipush (-2 : Int32) K dX11_noTray_12 (by decide) ?_
    refine sk_goto 33 K dX11_noTray_14 (by decide) ?_
    have hR11 : (-2 : Int32) = rr := Option.some.inj hf
    exact sk_iret K dX11_noTray_33 rfl rfl hR11 rfl rfl
noncomputable def fX11_judge (S : sk_S) (d : sk_D) (p0 : Nat) (p1 : Int32) (p2 : Int32) : Option (Int32 × sk_D) :=
  (sk_pI S d p0 10 0 (0 : Int32)).bind fun d1 => (fX11_within S d1 p2.toInt64 (0 : Int64) (3 : Int64)).bind fun v3 => if v3 = true then (if S.2.1 p0 = (10, 0) then ((fX11_noTray S d1 p0 p1).bind fun v6 => if v6 = 0 then (if S.2.1 p0 = (10, 0) then ((fX11_keeps S d1 p0).bind fun d12 => if S.2.1 p0 = (10, 0) then ((fX11_tells S d12 p0 p1).bind fun b18 => if S.2.1 p0 = (10, 0) then ((fX11_standNow S b18.2 p0).bind fun v19 => if S.2.1 p0 = (10, 0) then ((fX11_isAgain S b18.2 p0).bind fun d24 => if p2 = 0 then ((sk_gI S d24 p0 10 19).bind fun v40 => if v40 = 0 then (some ((-1 : Int32), d24)) else (some (b18.1, d24))) else (if p2 = (1 : Int32) then ((sk_gI S d24 p0 10 19).bind fun v37 => some (v37, d24)) else (if p2 = (2 : Int32) then (if S.2.1 p0 = (10, 0) then ((fX11_doneIn S d24 p0 v19).bind fun v33 => some (v33, d24)) else none) else (if S.2.1 p0 = (10, 0) then ((fX11_stubsIn S d24 p0 v19).bind fun v29 => some (v29, d24)) else none)))) else none) else none) else none) else none) else (some (v6, d1))) else none) else (some ((-2 : Int32), d1))
set_option maxRecDepth 100000 in
set_option maxHeartbeats 4000000 in
theorem sX11_judge (C : sk_C) (l : Launch) {S : sk_S} {d : sk_D} {p0 : Nat} {p1 : Int32} {p2 : Int32} {rr : Int32} {dd : sk_D} (hf : fX11_judge S d p0 p1 p2 = some (rr, dd)) : sk_Met C l 9 yX11_judge cX11_judge 6 (some .int) [.ref p0, .int p1, .int p2] S d (some (.int rr)) S dd := by
  refine sk_Met.of (by decide) (Nat.le_of_ble_eq_true rfl) (Nat.le_refl _) (Nat.le_refl _) (fun X K0 hX => ?_)
  have K : sk_Ok X C cX11_judge 6 RX11 "judge" (some .int) 9 l (some (.int rr)) S dd := K0
  have R1 : X.2.2.2.2.2.2.2.2.2.2.2.1 ≤ S.1.1 ∧ X.2.2.2.2.2.2.2.2.2.2.2.2 ≤ S.1.2 := by rw [hX]; exact ⟨Nat.le_refl _, Nat.le_refl _⟩
  have R2 : S.1.1 ≤ S.1.1 ∧ S.1.2 ≤ S.1.2 := ⟨Nat.le_refl _, Nat.le_refl _⟩
  show sk_G X C 6 S d 0 [(0, .ref p0), (1, .int p1), (2, .int p2)] []
  unfold fX11_judge at hf
  refine sk_aload_n K dX11_judge_0 rfl 0 rfl ?_
  refine sk_iconst (0 : Int32) K dX11_judge_1 (by decide) ?_
  obtain ⟨d1, e2, hf⟩ := sk_ob hf
  refine sk_putI d1 K dX11_judge_2 fl_X11_1 rfl rfl rfl e2 ?_
  refine sk_iload_n K dX11_judge_5 rfl 2 rfl ?_
  refine sk_i2l K dX11_judge_6 ?_
  refine sk_lconst (0 : Int64) K dX11_judge_7 (by decide) ?_
  refine sk_ldc2 K dX11_judge_8 qw_1691 ?_
  obtain ⟨v3, e4, hf⟩ := sk_ob hf
  refine sk_callS (As := [.long p2.toInt64, .long (0 : Int64), .long (3 : Int64)]) (st := []) K dX11_judge_11 cl_X11_150 (sX11_within C l e4) (by decide) rfl rfl (Nat.le_of_ble_eq_true rfl) R1 R2 ?_
  refine sk_ifneB 20 K dX11_judge_14 (by decide) (fun h5 => ?_) (fun h5 => ?_)
  · rw [if_pos h5] at hf
    refine sk_aload_n K dX11_judge_20 rfl 0 rfl ?_
    refine sk_iload_n K dX11_judge_21 rfl 1 rfl ?_
    obtain ⟨h8, hf⟩ := sk_ib hf
    obtain ⟨v6, e7, hf⟩ := sk_ob hf
    refine sk_callV (As := [.int p1]) (st := []) K dX11_judge_22 cl_X11_336 h8 (sX11_noTray C l e7) (by decide) rfl rfl (Nat.le_of_ble_eq_true rfl) R1 R2 ?_
    refine sk_istore_n [(3, .int v6), (0, .ref p0), (1, .int p1), (2, .int p2)] K dX11_judge_25 rfl (by decide) rfl ?_
    refine sk_iload_n K dX11_judge_26 rfl 0 rfl ?_
    refine sk_if_eq 32 K dX11_judge_27 (by decide) (fun h9 => ?_) (fun h9 => ?_)
    · rw [if_pos h9] at hf
      refine sk_aload_n K dX11_judge_32 rfl 1 rfl ?_
      obtain ⟨h13, hf⟩ := sk_ib hf
      obtain ⟨d12, e11, hf⟩ := sk_ob hf
      refine sk_callV (As := []) (st := []) K dX11_judge_33 cl_X11_280 h13 (sX11_keeps C l e11) (by decide) rfl rfl (Nat.le_of_ble_eq_true rfl) R1 R2 ?_
      refine sk_aload_n K dX11_judge_36 rfl 1 rfl ?_
      refine sk_iload_n K dX11_judge_37 rfl 2 rfl ?_
      obtain ⟨h17, hf⟩ := sk_ib hf
      obtain ⟨⟨v14, d16⟩, e15, hf⟩ := sk_ob hf
      try dsimp only at hf
      refine sk_callV (As := [.int p1]) (st := []) K dX11_judge_38 cl_X11_339 h17 (sX11_tells C l e15) (by decide) rfl rfl (Nat.le_of_ble_eq_true rfl) R1 R2 ?_
      refine sk_istore [(4, .int v14), (3, .int v6), (0, .ref p0), (1, .int p1), (2, .int p2)] K dX11_judge_41 (by decide) rfl ?_
      refine sk_aload_n K dX11_judge_43 rfl 2 rfl ?_
      obtain ⟨h21, hf⟩ := sk_ib hf
      obtain ⟨v19, e20, hf⟩ := sk_ob hf
      refine sk_callV (As := []) (st := []) K dX11_judge_44 cl_X11_270 h21 (sX11_standNow C l e20) (by decide) rfl rfl (Nat.le_of_ble_eq_true rfl) R1 R2 ?_
      refine sk_istore [(5, .int v19), (4, .int v14), (3, .int v6), (0, .ref p0), (1, .int p1), (2, .int p2)] K dX11_judge_47 (by decide) rfl ?_
      refine sk_aload_n K dX11_judge_49 rfl 3 rfl ?_
      obtain ⟨h25, hf⟩ := sk_ib hf
      obtain ⟨d24, e23, hf⟩ := sk_ob hf
      refine sk_callV (As := []) (st := []) K dX11_judge_50 cl_X11_342 h25 (sX11_isAgain C l e23) (by decide) rfl rfl (Nat.le_of_ble_eq_true rfl) R1 R2 ?_
      refine sk_iload_n K dX11_judge_53 rfl 5 rfl ?_
      refine sk_if_ne 73 K dX11_judge_54 (by decide) (fun h26 => ?_) (fun h26 => ?_)
      · rw [if_neg h26] at hf
        refine sk_iload_n K dX11_judge_73 rfl 5 rfl ?_
        refine sk_iconst (1 : Int32) K dX11_judge_74 (by decide) ?_
        refine sk_icmp_ne 85 K dX11_judge_75 (by decide) (fun h27 => ?_) (fun h27 => ?_)
        · rw [if_neg h27] at hf
          refine sk_iload_n K dX11_judge_85 rfl 5 rfl ?_
          refine sk_iconst (2 : Int32) K dX11_judge_86 (by decide) ?_
          refine sk_icmp_ne 99 K dX11_judge_87 (by decide) (fun h28 => ?_) (fun h28 => ?_)
          · rw [if_neg h28] at hf
            refine sk_aload_n K dX11_judge_99 rfl 3 rfl ?_
            refine sk_iload K dX11_judge_100 0 rfl ?_
            obtain ⟨h31, hf⟩ := sk_ib hf
            obtain ⟨v29, e30, hf⟩ := sk_ob hf
            refine sk_callV (As := [.int v19]) (st := []) K dX11_judge_102 cl_X11_225 h31 (sX11_stubsIn C l e30) (by decide) rfl rfl (Nat.le_of_ble_eq_true rfl) R1 R2 ?_
            have hR32 : (v29, d24) = (rr, dd) := Option.some.inj hf
            exact sk_iret K dX11_judge_105 rfl rfl (congrArg (fun z => z.1) hR32) rfl (congrArg (fun z => z.2) hR32)
          · rw [if_pos h28] at hf
            refine sk_aload_n K dX11_judge_90 rfl 3 rfl ?_
            refine sk_iload K dX11_judge_91 0 rfl ?_
            obtain ⟨h35, hf⟩ := sk_ib hf
            obtain ⟨v33, e34, hf⟩ := sk_ob hf
            refine sk_callV (As := [.int v19]) (st := []) K dX11_judge_93 cl_X11_245 h35 (sX11_doneIn C l e34) (by decide) rfl rfl (Nat.le_of_ble_eq_true rfl) R1 R2 ?_
            refine sk_goto 105 K dX11_judge_96 (by decide) ?_
            have hR36 : (v33, d24) = (rr, dd) := Option.some.inj hf
            exact sk_iret K dX11_judge_105 rfl rfl (congrArg (fun z => z.1) hR36) rfl (congrArg (fun z => z.2) hR36)
        · rw [if_pos h27] at hf
          refine sk_aload_n K dX11_judge_78 rfl 3 rfl ?_
          obtain ⟨v37, e38, hf⟩ := sk_ob hf
          refine sk_getI K dX11_judge_79 fl_X11_325 rfl e38 ?_
          refine sk_goto 105 K dX11_judge_82 (by decide) ?_
          have hR39 : (v37, d24) = (rr, dd) := Option.some.inj hf
          exact sk_iret K dX11_judge_105 rfl rfl (congrArg (fun z => z.1) hR39) rfl (congrArg (fun z => z.2) hR39)
      · rw [if_pos h26] at hf
        refine sk_aload_n K dX11_judge_57 rfl 3 rfl ?_
        obtain ⟨v40, e41, hf⟩ := sk_ob hf
        refine sk_getI K dX11_judge_58 fl_X11_325 rfl e41 ?_
        refine sk_if_ne 68 K dX11_judge_61 (by decide) (fun h42 => ?_) (fun h42 => ?_)
        · rw [if_neg h42] at hf
          refine sk_iload K dX11_judge_68 1 rfl ?_
          refine sk_goto 105 K dX11_judge_70 (by decide) ?_
          have hR43 : (v14, d24) = (rr, dd) := Option.some.inj hf
          exact sk_iret K dX11_judge_105 rfl rfl (congrArg (fun z => z.1) hR43) rfl (congrArg (fun z => z.2) hR43)
        · rw [if_pos h42] at hf
          refine sk_iconst (-1 : Int32) K dX11_judge_64 (by decide) ?_
          refine sk_goto 105 K dX11_judge_65 (by decide) ?_
          have hR44 : ((-1 : Int32), d24) = (rr, dd) := Option.some.inj hf
          exact sk_iret K dX11_judge_105 rfl rfl (congrArg (fun z => z.1) hR44) rfl (congrArg (fun z => z.2) hR44)
    · rw [if_neg h9] at hf
      refine sk_iload_n K dX11_judge_30 rfl 0 rfl ?_
      have hR45 : (v6, d1) = (rr, dd) := Option.some.inj hf
      exact sk_iret K dX11_judge_31 rfl rfl (congrArg (fun z => z.1) hR45) rfl (congrArg (fun z => z.2) hR45)
  · rw [if_neg h5] at hf
    refine sk_bipush (-2 : Int32) K dX11_judge_17 (by decide) ?_
    have hR46 : ((-2 : Int32), d1) = (rr, dd) := Option.some.inj hf
    exact sk_iret K dX11_judge_19 rfl rfl (congrArg (fun z => z.1) hR46) rfl (congrArg (fun z => z.2) hR46)
noncomputable def fX11_perform (S : sk_S) (d : sk_D) (p0 : Nat) (p1 : Int32) : Option (Int32 × sk_D) :=
  (sk_pI S d p0 10 0 (0 : Int32)).bind fun d1 => if S.2.1 p0 = (10, 0) then ((fX11_noTray S d1 p0 p1).bind fun v3 => if v3 = 0 then (if S.2.1 p0 = (10, 0) then ((fX11_keeps S d1 p0).bind fun d9 => if S.2.1 p0 = (10, 0) then ((fX11_tells S d9 p0 p1).bind fun b15 => if b15.1 ≤ 0 then (some (b15.1, b15.2)) else (if S.2.1 p0 = (10, 0) then ((fX11_notes S b15.2 p0).bind fun d20 => some (b15.1, d20)) else none)) else none) else none) else (some (v3, d1))) else none
set_option maxRecDepth 100000 in
set_option maxHeartbeats 4000000 in
theorem sX11_perform (C : sk_C) (l : Launch) {S : sk_S} {d : sk_D} {p0 : Nat} {p1 : Int32} {rr : Int32} {dd : sk_D} (hf : fX11_perform S d p0 p1 = some (rr, dd)) : sk_Met C l 9 yX11_perform cX11_perform 4 (some .int) [.ref p0, .int p1] S d (some (.int rr)) S dd := by
  refine sk_Met.of (by decide) (Nat.le_of_ble_eq_true rfl) (Nat.le_refl _) (Nat.le_refl _) (fun X K0 hX => ?_)
  have K : sk_Ok X C cX11_perform 4 RX11 "perform" (some .int) 9 l (some (.int rr)) S dd := K0
  have R1 : X.2.2.2.2.2.2.2.2.2.2.2.1 ≤ S.1.1 ∧ X.2.2.2.2.2.2.2.2.2.2.2.2 ≤ S.1.2 := by rw [hX]; exact ⟨Nat.le_refl _, Nat.le_refl _⟩
  have R2 : S.1.1 ≤ S.1.1 ∧ S.1.2 ≤ S.1.2 := ⟨Nat.le_refl _, Nat.le_refl _⟩
  show sk_G X C 4 S d 0 [(0, .ref p0), (1, .int p1)] []
  unfold fX11_perform at hf
  refine sk_aload_n K dX11_perform_0 rfl 0 rfl ?_
  refine sk_iconst (0 : Int32) K dX11_perform_1 (by decide) ?_
  obtain ⟨d1, e2, hf⟩ := sk_ob hf
  refine sk_putI d1 K dX11_perform_2 fl_X11_1 rfl rfl rfl e2 ?_
  refine sk_aload_n K dX11_perform_5 rfl 0 rfl ?_
  refine sk_iload_n K dX11_perform_6 rfl 1 rfl ?_
  obtain ⟨h5, hf⟩ := sk_ib hf
  obtain ⟨v3, e4, hf⟩ := sk_ob hf
  refine sk_callV (As := [.int p1]) (st := []) K dX11_perform_7 cl_X11_336 h5 (sX11_noTray C l e4) (by decide) rfl rfl (Nat.le_of_ble_eq_true rfl) R1 R2 ?_
  refine sk_istore_n [(2, .int v3), (0, .ref p0), (1, .int p1)] K dX11_perform_10 rfl (by decide) rfl ?_
  refine sk_iload_n K dX11_perform_11 rfl 0 rfl ?_
  refine sk_if_eq 17 K dX11_perform_12 (by decide) (fun h6 => ?_) (fun h6 => ?_)
  · rw [if_pos h6] at hf
    refine sk_aload_n K dX11_perform_17 rfl 1 rfl ?_
    obtain ⟨h10, hf⟩ := sk_ib hf
    obtain ⟨d9, e8, hf⟩ := sk_ob hf
    refine sk_callV (As := []) (st := []) K dX11_perform_18 cl_X11_280 h10 (sX11_keeps C l e8) (by decide) rfl rfl (Nat.le_of_ble_eq_true rfl) R1 R2 ?_
    refine sk_aload_n K dX11_perform_21 rfl 1 rfl ?_
    refine sk_iload_n K dX11_perform_22 rfl 2 rfl ?_
    obtain ⟨h14, hf⟩ := sk_ib hf
    obtain ⟨⟨v11, d13⟩, e12, hf⟩ := sk_ob hf
    try dsimp only at hf
    refine sk_callV (As := [.int p1]) (st := []) K dX11_perform_23 cl_X11_339 h14 (sX11_tells C l e12) (by decide) rfl rfl (Nat.le_of_ble_eq_true rfl) R1 R2 ?_
    refine sk_istore_n [(3, .int v11), (2, .int v3), (0, .ref p0), (1, .int p1)] K dX11_perform_26 rfl (by decide) rfl ?_
    refine sk_iload_n K dX11_perform_27 rfl 0 rfl ?_
    refine sk_if_le 35 K dX11_perform_28 (by decide) (fun h16 => ?_) (fun h16 => ?_)
    · rw [if_pos h16] at hf
      refine sk_iload_n K dX11_perform_35 rfl 0 rfl ?_
      have hR17 : (v11, d13) = (rr, dd) := Option.some.inj hf
      exact sk_iret K dX11_perform_36 rfl rfl (congrArg (fun z => z.1) hR17) rfl (congrArg (fun z => z.2) hR17)
    · rw [if_neg h16] at hf
      refine sk_aload_n K dX11_perform_31 rfl 2 rfl ?_
      obtain ⟨h21, hf⟩ := sk_ib hf
      obtain ⟨d20, e19, hf⟩ := sk_ob hf
      refine sk_callV (As := []) (st := []) K dX11_perform_32 cl_X11_289 h21 (sX11_notes C l e19) (by decide) rfl rfl (Nat.le_of_ble_eq_true rfl) R1 R2 ?_
      refine sk_iload_n K dX11_perform_35 rfl 0 rfl ?_
      have hR22 : (v11, d20) = (rr, dd) := Option.some.inj hf
      exact sk_iret K dX11_perform_36 rfl rfl (congrArg (fun z => z.1) hR22) rfl (congrArg (fun z => z.2) hR22)
  · rw [if_neg h6] at hf
    refine sk_iload_n K dX11_perform_15 rfl 0 rfl ?_
    have hR23 : (v3, d1) = (rr, dd) := Option.some.inj hf
    exact sk_iret K dX11_perform_16 rfl rfl (congrArg (fun z => z.1) hR23) rfl (congrArg (fun z => z.2) hR23)
noncomputable def fX11_draw (S : sk_S) (d : sk_D) (p0 : Nat) (p1 : Int32) : Option (Int32 × sk_D) :=
  (sk_gI S d p0 10 20).bind fun v1 => (sk_pI S d p0 10 20 (((1103515245 : Int32) * v1) + (12345 : Int32))).bind fun d3 => (sk_gI S d3 p0 10 20).bind fun v5 => if ¬ p1 = 0 then (some (((v5.toUInt32 >>> ((16 : Int32).toUInt32 &&& Int32.toUInt32 31)).toInt32) - ((v5.toUInt32 >>> ((16 : Int32).toUInt32 &&& Int32.toUInt32 31)).toInt32) / p1 * p1, d3)) else none
set_option maxRecDepth 100000 in
set_option maxHeartbeats 4000000 in
theorem sX11_draw (C : sk_C) (l : Launch) {S : sk_S} {d : sk_D} {p0 : Nat} {p1 : Int32} {rr : Int32} {dd : sk_D} (hf : fX11_draw S d p0 p1 = some (rr, dd)) : sk_Met C l 0 yX11_draw cX11_draw 2 (some .int) [.ref p0, .int p1] S d (some (.int rr)) S dd := by
  refine sk_Met.of (by decide) (Nat.le_of_ble_eq_true rfl) (Nat.le_refl _) (Nat.le_refl _) (fun X K0 hX => ?_)
  have K : sk_Ok X C cX11_draw 2 RX11 "draw" (some .int) 0 l (some (.int rr)) S dd := K0
  have R1 : X.2.2.2.2.2.2.2.2.2.2.2.1 ≤ S.1.1 ∧ X.2.2.2.2.2.2.2.2.2.2.2.2 ≤ S.1.2 := by rw [hX]; exact ⟨Nat.le_refl _, Nat.le_refl _⟩
  have R2 : S.1.1 ≤ S.1.1 ∧ S.1.2 ≤ S.1.2 := ⟨Nat.le_refl _, Nat.le_refl _⟩
  show sk_G X C 2 S d 0 [(0, .ref p0), (1, .int p1)] []
  unfold fX11_draw at hf
  refine sk_aload_n K dX11_draw_0 rfl 0 rfl ?_
  refine sk_ldcw K dX11_draw_1 qw_1735 ?_
  refine sk_aload_n K dX11_draw_4 rfl 0 rfl ?_
  obtain ⟨v1, e2, hf⟩ := sk_ob hf
  refine sk_getI K dX11_draw_5 fl_X11_346 rfl e2 ?_
  refine sk_imul K dX11_draw_8 ?_
  refine sk_sipush (12345 : Int32) K dX11_draw_9 (by decide) ?_
  refine sk_iadd K dX11_draw_12 ?_
  obtain ⟨d3, e4, hf⟩ := sk_ob hf
  refine sk_putI d3 K dX11_draw_13 fl_X11_346 rfl rfl rfl e4 ?_
  refine sk_aload_n K dX11_draw_16 rfl 0 rfl ?_
  obtain ⟨v5, e6, hf⟩ := sk_ob hf
  refine sk_getI K dX11_draw_17 fl_X11_346 rfl e6 ?_
  refine sk_bipush (16 : Int32) K dX11_draw_20 (by decide) ?_
  refine sk_iushr K dX11_draw_22 ?_
  refine sk_iload_n K dX11_draw_23 rfl 1 rfl ?_
  obtain ⟨hz7, hf⟩ := sk_ib hf
  refine sk_irem K dX11_draw_24 hz7 ?_
  have hR8 : (((v5.toUInt32 >>> ((16 : Int32).toUInt32 &&& Int32.toUInt32 31)).toInt32) - ((v5.toUInt32 >>> ((16 : Int32).toUInt32 &&& Int32.toUInt32 31)).toInt32) / p1 * p1, d3) = (rr, dd) := Option.some.inj hf
  exact sk_iret K dX11_draw_25 rfl rfl (congrArg (fun z => z.1) hR8) rfl (congrArg (fun z => z.2) hR8)
noncomputable def fX11_drawn (S : sk_S) (d : sk_D) (p0 : Nat) : Option (Int32 × sk_D) :=
  if S.2.1 p0 = (10, 0) then ((fX11_draw S d p0 (8 : Int32)).bind fun b5 => if S.2.1 p0 = (10, 0) then ((fX11_draw S b5.2 p0 (8 : Int32)).bind fun b10 => if (4 : Int32) ≤ b5.1 then (if b5.1 = (4 : Int32) then (some ((10 : Int32) + b10.1, b10.2)) else (if b5.1 = (5 : Int32) then (some ((20 : Int32) + b10.1, b10.2)) else (some ((30 : Int32) + b10.1, b10.2)))) else (some (b10.1, b10.2))) else none) else none
set_option maxRecDepth 100000 in
set_option maxHeartbeats 4000000 in
theorem sX11_drawn (C : sk_C) (l : Launch) {S : sk_S} {d : sk_D} {p0 : Nat} {rr : Int32} {dd : sk_D} (hf : fX11_drawn S d p0 = some (rr, dd)) : sk_Met C l 1 yX11_drawn cX11_drawn 3 (some .int) [.ref p0] S d (some (.int rr)) S dd := by
  refine sk_Met.of (by decide) (Nat.le_of_ble_eq_true rfl) (Nat.le_refl _) (Nat.le_refl _) (fun X K0 hX => ?_)
  have K : sk_Ok X C cX11_drawn 3 RX11 "drawn" (some .int) 1 l (some (.int rr)) S dd := K0
  have R1 : X.2.2.2.2.2.2.2.2.2.2.2.1 ≤ S.1.1 ∧ X.2.2.2.2.2.2.2.2.2.2.2.2 ≤ S.1.2 := by rw [hX]; exact ⟨Nat.le_refl _, Nat.le_refl _⟩
  have R2 : S.1.1 ≤ S.1.1 ∧ S.1.2 ≤ S.1.2 := ⟨Nat.le_refl _, Nat.le_refl _⟩
  show sk_G X C 3 S d 0 [(0, .ref p0)] []
  unfold fX11_drawn at hf
  refine sk_aload_n K dX11_drawn_0 rfl 0 rfl ?_
  refine sk_bipush (8 : Int32) K dX11_drawn_1 (by decide) ?_
  obtain ⟨h4, hf⟩ := sk_ib hf
  obtain ⟨⟨v1, d3⟩, e2, hf⟩ := sk_ob hf
  try dsimp only at hf
  refine sk_callV (As := [.int (8 : Int32)]) (st := []) K dX11_drawn_3 cl_X11_349 h4 (sX11_draw C l e2) (by decide) rfl rfl (Nat.le_of_ble_eq_true rfl) R1 R2 ?_
  refine sk_istore_n [(1, .int v1), (0, .ref p0)] K dX11_drawn_6 rfl (by decide) rfl ?_
  refine sk_aload_n K dX11_drawn_7 rfl 1 rfl ?_
  refine sk_bipush (8 : Int32) K dX11_drawn_8 (by decide) ?_
  obtain ⟨h9, hf⟩ := sk_ib hf
  obtain ⟨⟨v6, d8⟩, e7, hf⟩ := sk_ob hf
  try dsimp only at hf
  refine sk_callV (As := [.int (8 : Int32)]) (st := []) K dX11_drawn_10 cl_X11_349 h9 (sX11_draw C l e7) (by decide) rfl rfl (Nat.le_of_ble_eq_true rfl) R1 R2 ?_
  refine sk_istore_n [(2, .int v6), (1, .int v1), (0, .ref p0)] K dX11_drawn_13 rfl (by decide) rfl ?_
  refine sk_iload_n K dX11_drawn_14 rfl 1 rfl ?_
  refine sk_iconst (4 : Int32) K dX11_drawn_15 (by decide) ?_
  refine sk_icmp_ge 23 K dX11_drawn_16 (by decide) (fun h11 => ?_) (fun h11 => ?_)
  · rw [if_pos h11] at hf
    refine sk_iload_n K dX11_drawn_23 rfl 1 rfl ?_
    refine sk_iconst (4 : Int32) K dX11_drawn_24 (by decide) ?_
    refine sk_icmp_ne 35 K dX11_drawn_25 (by decide) (fun h12 => ?_) (fun h12 => ?_)
    · rw [if_neg h12] at hf
      refine sk_iload_n K dX11_drawn_35 rfl 1 rfl ?_
      refine sk_iconst (5 : Int32) K dX11_drawn_36 (by decide) ?_
      refine sk_icmp_ne 47 K dX11_drawn_37 (by decide) (fun h13 => ?_) (fun h13 => ?_)
      · rw [if_neg h13] at hf
        refine sk_bipush (30 : Int32) K dX11_drawn_47 (by decide) ?_
        refine sk_iload_n K dX11_drawn_49 rfl 0 rfl ?_
        refine sk_iadd K dX11_drawn_50 ?_
        have hR14 : ((30 : Int32) + v6, d8) = (rr, dd) := Option.some.inj hf
        exact sk_iret K dX11_drawn_51 rfl rfl (congrArg (fun z => z.1) hR14) rfl (congrArg (fun z => z.2) hR14)
      · rw [if_pos h13] at hf
        refine sk_bipush (20 : Int32) K dX11_drawn_40 (by decide) ?_
        refine sk_iload_n K dX11_drawn_42 rfl 0 rfl ?_
        refine sk_iadd K dX11_drawn_43 ?_
        refine sk_goto 51 K dX11_drawn_44 (by decide) ?_
        have hR15 : ((20 : Int32) + v6, d8) = (rr, dd) := Option.some.inj hf
        exact sk_iret K dX11_drawn_51 rfl rfl (congrArg (fun z => z.1) hR15) rfl (congrArg (fun z => z.2) hR15)
    · rw [if_pos h12] at hf
      refine sk_bipush (10 : Int32) K dX11_drawn_28 (by decide) ?_
      refine sk_iload_n K dX11_drawn_30 rfl 0 rfl ?_
      refine sk_iadd K dX11_drawn_31 ?_
      refine sk_goto 51 K dX11_drawn_32 (by decide) ?_
      have hR16 : ((10 : Int32) + v6, d8) = (rr, dd) := Option.some.inj hf
      exact sk_iret K dX11_drawn_51 rfl rfl (congrArg (fun z => z.1) hR16) rfl (congrArg (fun z => z.2) hR16)
  · rw [if_neg h11] at hf
    refine sk_iload_n K dX11_drawn_19 rfl 0 rfl ?_
    refine sk_goto 51 K dX11_drawn_20 (by decide) ?_
    have hR17 : (v6, d8) = (rr, dd) := Option.some.inj hf
    exact sk_iret K dX11_drawn_51 rfl rfl (congrArg (fun z => z.1) hR17) rfl (congrArg (fun z => z.2) hR17)
noncomputable def fX11_year_L34 (S : sk_S) (p0 : Nat) (p2 : Int32) (s1 : Int32 × Int32 × sk_D) : Option ((Int32 × Int32 × sk_D) ⊕ (Int32 × sk_D)) :=
  if p2 ≤ s1.2.1 then (some (.inr (s1.1, s1.2.2))) else (if S.2.1 p0 = (10, 0) then ((fX11_drawn S s1.2.2 p0).bind fun b24 => if S.2.1 p0 = (10, 0) then ((fX11_whyNot S b24.2 p0 b24.1.toInt64).bind fun v25 => if v25 = 0 then (if S.2.1 p0 = (10, 0) then ((fX11_acts S b24.2 p0 b24.1).bind fun d31 => some (.inl (s1.1 + 1, s1.2.1 + 1, d31))) else none) else (some (.inl (s1.1, s1.2.1 + 1, b24.2)))) else none) else none)
noncomputable def fX11_year (S : sk_S) (d : sk_D) (p0 : Nat) (p1 : Int32) (p2 : Int32) : Option (Int32 × sk_D) :=
  (sk_pI S d p0 10 0 (0 : Int32)).bind fun d1 => (fX11_within S d1 p2.toInt64 (1 : Int64) (40 : Int64)).bind fun v3 => if v3 = true then (if S.2.1 p0 = (10, 0) then ((fX11_keeps S d1 p0).bind fun d8 => (sk_pI S d8 p0 10 20 p1).bind fun d10 => (sk_itr (fX11_year_L34 S p0 p2) ((0 : Int32), (0 : Int32), d10)).bind fun y1 => if y1.1 ≤ 0 then (some (y1.1, y1.2)) else (if S.2.1 p0 = (10, 0) then ((fX11_notes S y1.2 p0).bind fun d16 => some (y1.1, d16)) else none)) else none) else (some ((-3 : Int32), d1))
set_option maxRecDepth 100000 in
set_option maxHeartbeats 4000000 in
theorem sX11_year (C : sk_C) (l : Launch) {S : sk_S} {d : sk_D} {p0 : Nat} {p1 : Int32} {p2 : Int32} {rr : Int32} {dd : sk_D} (hf : fX11_year S d p0 p1 p2 = some (rr, dd)) : sk_Met C l 8 yX11_year cX11_year 6 (some .int) [.ref p0, .int p1, .int p2] S d (some (.int rr)) S dd := by
  refine sk_Met.of (by decide) (Nat.le_of_ble_eq_true rfl) (Nat.le_refl _) (Nat.le_refl _) (fun X K0 hX => ?_)
  have K : sk_Ok X C cX11_year 6 RX11 "year" (some .int) 8 l (some (.int rr)) S dd := K0
  have R1 : X.2.2.2.2.2.2.2.2.2.2.2.1 ≤ S.1.1 ∧ X.2.2.2.2.2.2.2.2.2.2.2.2 ≤ S.1.2 := by rw [hX]; exact ⟨Nat.le_refl _, Nat.le_refl _⟩
  have R2 : S.1.1 ≤ S.1.1 ∧ S.1.2 ≤ S.1.2 := ⟨Nat.le_refl _, Nat.le_refl _⟩
  show sk_G X C 6 S d 0 [(0, .ref p0), (1, .int p1), (2, .int p2)] []
  unfold fX11_year at hf
  refine sk_aload_n K dX11_year_0 rfl 0 rfl ?_
  refine sk_iconst (0 : Int32) K dX11_year_1 (by decide) ?_
  obtain ⟨d1, e2, hf⟩ := sk_ob hf
  refine sk_putI d1 K dX11_year_2 fl_X11_1 rfl rfl rfl e2 ?_
  refine sk_iload_n K dX11_year_5 rfl 2 rfl ?_
  refine sk_i2l K dX11_year_6 ?_
  refine sk_lconst (1 : Int64) K dX11_year_7 (by decide) ?_
  refine sk_ldc2 K dX11_year_8 qw_1709 ?_
  obtain ⟨v3, e4, hf⟩ := sk_ob hf
  refine sk_callS (As := [.long p2.toInt64, .long (1 : Int64), .long (40 : Int64)]) (st := []) K dX11_year_11 cl_X11_150 (sX11_within C l e4) (by decide) rfl rfl (Nat.le_of_ble_eq_true rfl) R1 R2 ?_
  refine sk_ifneB 20 K dX11_year_14 (by decide) (fun h5 => ?_) (fun h5 => ?_)
  · rw [if_pos h5] at hf
    refine sk_aload_n K dX11_year_20 rfl 0 rfl ?_
    obtain ⟨h9, hf⟩ := sk_ib hf
    obtain ⟨d8, e7, hf⟩ := sk_ob hf
    refine sk_callV (As := []) (st := []) K dX11_year_21 cl_X11_280 h9 (sX11_keeps C l e7) (by decide) rfl rfl (Nat.le_of_ble_eq_true rfl) R1 R2 ?_
    refine sk_aload_n K dX11_year_24 rfl 0 rfl ?_
    refine sk_iload_n K dX11_year_25 rfl 1 rfl ?_
    obtain ⟨d10, e11, hf⟩ := sk_ob hf
    refine sk_putI d10 K dX11_year_26 fl_X11_346 rfl rfl rfl e11 ?_
    refine sk_iconst (0 : Int32) K dX11_year_29 (by decide) ?_
    refine sk_istore_n [(3, .int (0 : Int32)), (0, .ref p0), (1, .int p1), (2, .int p2)] K dX11_year_30 rfl (by decide) rfl ?_
    refine sk_iconst (0 : Int32) K dX11_year_31 (by decide) ?_
    refine sk_istore [(4, .int (0 : Int32)), (3, .int (0 : Int32)), (0, .ref p0), (1, .int p1), (2, .int p2)] K dX11_year_32 (by decide) rfl ?_
    obtain ⟨x1, he1, hf⟩ := sk_ob hf
    have rest1 : ∀ y1, y1 = x1 → sk_G X C 6 S y1.2 74 [(0, .ref p0), (3, .int y1.1)] [] := by
      intro y1 hy
      subst hy
      refine sk_iload_n K dX11_year_74 rfl 1 rfl ?_
      refine sk_if_le 82 K dX11_year_75 (by decide) (fun h12 => ?_) (fun h12 => ?_)
      · rw [if_pos h12] at hf
        refine sk_iload_n K dX11_year_82 rfl 1 rfl ?_
        have hR13 : (y1.1, y1.2) = (rr, dd) := Option.some.inj hf
        exact sk_iret K dX11_year_83 rfl rfl (congrArg (fun z => z.1) hR13) rfl (congrArg (fun z => z.2) hR13)
      · rw [if_neg h12] at hf
        refine sk_aload_n K dX11_year_78 rfl 0 rfl ?_
        obtain ⟨h17, hf⟩ := sk_ib hf
        obtain ⟨d16, e15, hf⟩ := sk_ob hf
        refine sk_callV (As := []) (st := []) K dX11_year_79 cl_X11_289 h17 (sX11_notes C l e15) (by decide) rfl rfl (Nat.le_of_ble_eq_true rfl) R1 R2 ?_
        refine sk_iload_n K dX11_year_82 rfl 1 rfl ?_
        have hR18 : (y1.1, d16) = (rr, dd) := Option.some.inj hf
        exact sk_iret K dX11_year_83 rfl rfl (congrArg (fun z => z.1) hR18) rfl (congrArg (fun z => z.2) hR18)
    refine sk_sub [(0, .ref p0), (2, .int p2), (3, .int (0 : Int32)), (4, .int (0 : Int32))] [2, 4, 1, 0] rfl ?_
    refine sk_loop (fun s1 => sk_G X C 6 S s1.2.2 34 [(0, .ref p0), (2, .int p2), (3, .int s1.1), (4, .int s1.2.1)] []) he1 (fun s1 o1 hf ih1 hx1 => ?_)
    unfold fX11_year_L34 at hf
    refine sk_iload K dX11_year_34 3 rfl ?_
    refine sk_iload_n K dX11_year_36 rfl 1 rfl ?_
    refine sk_icmp_ge 74 K dX11_year_37 (by decide) (fun h19 => ?_) (fun h19 => ?_)
    · rw [if_pos h19] at hf
      refine sk_sub [(0, .ref p0), (3, .int s1.1)] [0, 2] rfl ?_
      have h9 := rest1 _ (hx1 _ (Option.some.inj hf).symm)
      exact h9
    · rw [if_neg h19] at hf
      refine sk_aload_n K dX11_year_40 rfl 0 rfl ?_
      obtain ⟨h23, hf⟩ := sk_ib hf
      obtain ⟨⟨v20, d22⟩, e21, hf⟩ := sk_ob hf
      try dsimp only at hf
      refine sk_callV (As := []) (st := []) K dX11_year_41 cl_X11_352 h23 (sX11_drawn C l e21) (by decide) rfl rfl (Nat.le_of_ble_eq_true rfl) R1 R2 ?_
      refine sk_istore [(5, .int v20), (0, .ref p0), (2, .int p2), (3, .int s1.1), (4, .int s1.2.1)] K dX11_year_44 (by decide) rfl ?_
      refine sk_aload_n K dX11_year_46 rfl 1 rfl ?_
      refine sk_iload K dX11_year_47 0 rfl ?_
      refine sk_i2l K dX11_year_49 ?_
      obtain ⟨h27, hf⟩ := sk_ib hf
      obtain ⟨v25, e26, hf⟩ := sk_ob hf
      refine sk_callV (As := [.long v20.toInt64]) (st := []) K dX11_year_50 cl_X11_328 h27 (sX11_whyNot C l e26) (by decide) rfl rfl (Nat.le_of_ble_eq_true rfl) R1 R2 ?_
      refine sk_if_eq 59 K dX11_year_53 (by decide) (fun h28 => ?_) (fun h28 => ?_)
      · rw [if_pos h28] at hf
        refine sk_aload_n K dX11_year_59 rfl 1 rfl ?_
        refine sk_iload K dX11_year_60 0 rfl ?_
        obtain ⟨h32, hf⟩ := sk_ib hf
        obtain ⟨d31, e30, hf⟩ := sk_ob hf
        refine sk_callV (As := [.int v20]) (st := []) K dX11_year_62 cl_X11_331 h32 (sX11_acts C l e30) (by decide) rfl rfl (Nat.le_of_ble_eq_true rfl) R1 R2 ?_
        refine sk_iinc (s1.1 + 1) [(3, .int (s1.1 + 1)), (5, .int v20), (0, .ref p0), (2, .int p2), (4, .int s1.2.1)] K dX11_year_65 3 rfl rfl (by decide) rfl ?_
        refine sk_iinc (s1.2.1 + 1) [(4, .int (s1.2.1 + 1)), (3, .int (s1.1 + 1)), (5, .int v20), (0, .ref p0), (2, .int p2)] K dX11_year_68 4 rfl rfl (by decide) rfl ?_
        refine sk_goto 34 K dX11_year_71 (by decide) ?_
        refine sk_sub [(0, .ref p0), (2, .int p2), (3, .int (s1.1 + 1)), (4, .int (s1.2.1 + 1))] [3, 4, 1, 0] rfl ?_
        have h9 := ih1 _ (Option.some.inj hf).symm
        exact h9
      · rw [if_neg h28] at hf
        refine sk_goto 68 K dX11_year_56 (by decide) ?_
        refine sk_iinc (s1.2.1 + 1) [(4, .int (s1.2.1 + 1)), (5, .int v20), (0, .ref p0), (2, .int p2), (3, .int s1.1)] K dX11_year_68 4 rfl rfl (by decide) rfl ?_
        refine sk_goto 34 K dX11_year_71 (by decide) ?_
        refine sk_sub [(0, .ref p0), (2, .int p2), (3, .int s1.1), (4, .int (s1.2.1 + 1))] [2, 3, 4, 0] rfl ?_
        have h9 := ih1 _ (Option.some.inj hf).symm
        exact h9
  · rw [if_neg h5] at hf
    refine sk_bipush (-3 : Int32) K dX11_year_17 (by decide) ?_
    have hR33 : ((-3 : Int32), d1) = (rr, dd) := Option.some.inj hf
    exact sk_iret K dX11_year_19 rfl rfl (congrArg (fun z => z.1) hR33) rfl (congrArg (fun z => z.2) hR33)
noncomputable def fX11_adds (S : sk_S) (d : sk_D) (p0 : Nat) (p1 : Int32) : Option (sk_D) :=
  (sk_gR S p0 10 24).bind fun v1 => (sk_lI S d v1 23 p1).bind fun v3 => if v3 = 0 then ((sk_gR S p0 10 24).bind fun v6 => (sk_sI S d v6 23 p1 (vp_nar .boolean (1 : Int32))).bind fun d8 => (sk_gR S p0 10 21).bind fun v10 => (sk_gI S d8 p0 10 25).bind fun v12 => (sk_sI S d8 v10 20 v12 p1).bind fun d14 => (sk_gI S d14 p0 10 25).bind fun v16 => (sk_pI S d14 p0 10 25 (v16 + (1 : Int32))).bind fun d18 => some d18) else (some d)
set_option maxRecDepth 100000 in
set_option maxHeartbeats 4000000 in
theorem sX11_adds (C : sk_C) (l : Launch) {S : sk_S} {d : sk_D} {p0 : Nat} {p1 : Int32} {dd : sk_D} (hf : fX11_adds S d p0 p1 = some dd) : sk_Met C l 0 yX11_adds cX11_adds 2 none [.ref p0, .int p1] S d none S dd := by
  refine sk_Met.of (by decide) (Nat.le_of_ble_eq_true rfl) (Nat.le_refl _) (Nat.le_refl _) (fun X K0 hX => ?_)
  have K : sk_Ok X C cX11_adds 2 RX11 "adds" none 0 l none S dd := K0
  have R1 : X.2.2.2.2.2.2.2.2.2.2.2.1 ≤ S.1.1 ∧ X.2.2.2.2.2.2.2.2.2.2.2.2 ≤ S.1.2 := by rw [hX]; exact ⟨Nat.le_refl _, Nat.le_refl _⟩
  have R2 : S.1.1 ≤ S.1.1 ∧ S.1.2 ≤ S.1.2 := ⟨Nat.le_refl _, Nat.le_refl _⟩
  show sk_G X C 2 S d 0 [(0, .ref p0), (1, .int p1)] []
  unfold fX11_adds at hf
  refine sk_aload_n K dX11_adds_0 rfl 0 rfl ?_
  obtain ⟨v1, e2, hf⟩ := sk_ob hf
  refine sk_getR K dX11_adds_1 fl_X11_50 rfl e2 ?_
  refine sk_iload_n K dX11_adds_4 rfl 1 rfl ?_
  obtain ⟨v3, e4, hf⟩ := sk_ob hf
  refine sk_ald23 K dX11_adds_5 e4 ?_
  refine sk_if_eq 10 K dX11_adds_6 (by decide) (fun h5 => ?_) (fun h5 => ?_)
  · rw [if_pos h5] at hf
    refine sk_aload_n K dX11_adds_10 rfl 0 rfl ?_
    obtain ⟨v6, e7, hf⟩ := sk_ob hf
    refine sk_getR K dX11_adds_11 fl_X11_50 rfl e7 ?_
    refine sk_iload_n K dX11_adds_14 rfl 1 rfl ?_
    refine sk_iconst (1 : Int32) K dX11_adds_15 (by decide) ?_
    obtain ⟨d8, e9, hf⟩ := sk_ob hf
    refine sk_ast23 d8 K dX11_adds_16 e9 ?_
    refine sk_aload_n K dX11_adds_17 rfl 0 rfl ?_
    obtain ⟨v10, e11, hf⟩ := sk_ob hf
    refine sk_getR K dX11_adds_18 fl_X11_40 rfl e11 ?_
    refine sk_aload_n K dX11_adds_21 rfl 0 rfl ?_
    obtain ⟨v12, e13, hf⟩ := sk_ob hf
    refine sk_getI K dX11_adds_22 fl_X11_355 rfl e13 ?_
    refine sk_iload_n K dX11_adds_25 rfl 1 rfl ?_
    obtain ⟨d14, e15, hf⟩ := sk_ob hf
    refine sk_ast20 d14 K dX11_adds_26 e15 ?_
    refine sk_aload_n K dX11_adds_27 rfl 0 rfl ?_
    refine sk_dup K dX11_adds_28 rfl ?_
    obtain ⟨v16, e17, hf⟩ := sk_ob hf
    refine sk_getI K dX11_adds_29 fl_X11_355 rfl e17 ?_
    refine sk_iconst (1 : Int32) K dX11_adds_32 (by decide) ?_
    refine sk_iadd K dX11_adds_33 ?_
    obtain ⟨d18, e19, hf⟩ := sk_ob hf
    refine sk_putI d18 K dX11_adds_34 fl_X11_355 rfl rfl rfl e19 ?_
    have hR20 : d18 = dd := Option.some.inj hf
    exact sk_vret K dX11_adds_37 rfl rfl rfl hR20
  · rw [if_neg h5] at hf
    have hR21 : d = dd := Option.some.inj hf
    exact sk_vret K dX11_adds_9 rfl rfl rfl hR21
noncomputable def fX11_movedTo_J41 (S : sk_S) (p1 : Int32) (v1 : Int32) (d2 : sk_D) : Option (Int32 × sk_D) :=
  (fX11_droppedTo S d2 p1 v1).bind fun v3 => some (v3, d2)
noncomputable def fX11_movedTo (S : sk_S) (d : sk_D) (p0 : Nat) (p1 : Int32) (p2 : Int32) : Option (Int32 × sk_D) :=
  (sk_gR S p0 10 1).bind fun v6 => (sk_lI S d v6 20 (1 : Int32)).bind fun v8 => if (p2 - p2 / (8 : Int32) * (8 : Int32)) < v8 then (if p2 < (8 : Int32) then ((fX11_isDone S d p1 (p2 - p2 / (8 : Int32) * (8 : Int32))).bind fun v12 => if v12 = true then (some ((-1 : Int32), d)) else (if S.2.1 p0 = (10, 0) then ((fX11_hasNeeds S d p0 p1 (p2 - p2 / (8 : Int32) * (8 : Int32))).bind fun v16 => if v16 = true then (if S.2.1 p0 = (10, 0) then ((fX11_doneTo S d p0 p1 (p2 - p2 / (8 : Int32) * (8 : Int32))).bind fun b25 => some (b25.1, b25.2)) else none) else (some ((-1 : Int32), d))) else none)) else ((fX11_howIn S d p1 (p2 - p2 / (8 : Int32) * (8 : Int32))).bind fun v27 => if v27 = (1 : Int32) then (fX11_movedTo_J41 S p1 (p2 - p2 / (8 : Int32) * (8 : Int32)) d) else ((fX11_howIn S d p1 (p2 - p2 / (8 : Int32) * (8 : Int32))).bind fun v30 => if v30 = (3 : Int32) then (fX11_movedTo_J41 S p1 (p2 - p2 / (8 : Int32) * (8 : Int32)) d) else (some ((-1 : Int32), d))))) else (some ((-1 : Int32), d))
set_option maxRecDepth 100000 in
set_option maxHeartbeats 4000000 in
theorem sX11_movedTo (C : sk_C) (l : Launch) {S : sk_S} {d : sk_D} {p0 : Nat} {p1 : Int32} {p2 : Int32} {rr : Int32} {dd : sk_D} (hf : fX11_movedTo S d p0 p1 p2 = some (rr, dd)) : sk_Met C l 6 yX11_movedTo cX11_movedTo 4 (some .int) [.ref p0, .int p1, .int p2] S d (some (.int rr)) S dd := by
  refine sk_Met.of (by decide) (Nat.le_of_ble_eq_true rfl) (Nat.le_refl _) (Nat.le_refl _) (fun X K0 hX => ?_)
  have K : sk_Ok X C cX11_movedTo 4 RX11 "movedTo" (some .int) 6 l (some (.int rr)) S dd := K0
  have R1 : X.2.2.2.2.2.2.2.2.2.2.2.1 ≤ S.1.1 ∧ X.2.2.2.2.2.2.2.2.2.2.2.2 ≤ S.1.2 := by rw [hX]; exact ⟨Nat.le_refl _, Nat.le_refl _⟩
  have R2 : S.1.1 ≤ S.1.1 ∧ S.1.2 ≤ S.1.2 := ⟨Nat.le_refl _, Nat.le_refl _⟩
  show sk_G X C 4 S d 0 [(0, .ref p0), (1, .int p1), (2, .int p2)] []
  unfold fX11_movedTo at hf
  have j41_0 : ∀ (v1 : Int32) (d2 : sk_D), fX11_movedTo_J41 S p1 v1 d2 = some (rr, dd) → sk_G X C 4 S d2 41 [(1, .int p1), (3, .int v1)] [] := by
    intro v1 d2 hf
    unfold fX11_movedTo_J41 at hf
    refine sk_iload_n K dX11_movedTo_41 rfl 0 rfl ?_
    refine sk_iload_n K dX11_movedTo_42 rfl 1 rfl ?_
    obtain ⟨v3, e4, hf⟩ := sk_ob hf
    refine sk_callS (As := [.int p1, .int v1]) (st := []) K dX11_movedTo_43 cl_X11_295 (sX11_droppedTo C l e4) (by decide) rfl rfl (Nat.le_of_ble_eq_true rfl) R1 R2 ?_
    refine sk_goto 50 K dX11_movedTo_46 (by decide) ?_
    have hR5 : (v3, d2) = (rr, dd) := Option.some.inj hf
    exact sk_iret K dX11_movedTo_50 rfl rfl (congrArg (fun z => z.1) hR5) rfl (congrArg (fun z => z.2) hR5)
  refine sk_iload_n K dX11_movedTo_0 rfl 2 rfl ?_
  refine sk_bipush (8 : Int32) K dX11_movedTo_1 (by decide) ?_
  refine sk_irem K dX11_movedTo_3 (by decide) ?_
  refine sk_istore_n [(3, .int (p2 - p2 / (8 : Int32) * (8 : Int32))), (0, .ref p0), (1, .int p1), (2, .int p2)] K dX11_movedTo_4 rfl (by decide) rfl ?_
  refine sk_iload_n K dX11_movedTo_5 rfl 0 rfl ?_
  refine sk_aload_n K dX11_movedTo_6 rfl 1 rfl ?_
  obtain ⟨v6, e7, hf⟩ := sk_ob hf
  refine sk_getR K dX11_movedTo_7 fl_X11_13 rfl e7 ?_
  refine sk_iconst (1 : Int32) K dX11_movedTo_10 (by decide) ?_
  obtain ⟨v8, e9, hf⟩ := sk_ob hf
  refine sk_ald20 K dX11_movedTo_11 e9 ?_
  refine sk_icmp_lt 17 K dX11_movedTo_12 (by decide) (fun h10 => ?_) (fun h10 => ?_)
  · rw [if_pos h10] at hf
    refine sk_iload_n K dX11_movedTo_17 rfl 3 rfl ?_
    refine sk_bipush (8 : Int32) K dX11_movedTo_18 (by decide) ?_
    refine sk_icmp_lt 51 K dX11_movedTo_20 (by decide) (fun h11 => ?_) (fun h11 => ?_)
    · rw [if_pos h11] at hf
      refine sk_iload_n K dX11_movedTo_51 rfl 2 rfl ?_
      refine sk_iload_n K dX11_movedTo_52 rfl 0 rfl ?_
      obtain ⟨v12, e13, hf⟩ := sk_ob hf
      refine sk_callS (As := [.int p1, .int (p2 - p2 / (8 : Int32) * (8 : Int32))]) (st := []) K dX11_movedTo_53 cl_X11_255 (sX11_isDone C l e13) (by decide) rfl rfl (Nat.le_of_ble_eq_true rfl) R1 R2 ?_
      refine sk_ifneB 77 K dX11_movedTo_56 (by decide) (fun h14 => ?_) (fun h14 => ?_)
      · rw [if_pos h14] at hf
        refine sk_iconst (-1 : Int32) K dX11_movedTo_77 (by decide) ?_
        have hR15 : ((-1 : Int32), d) = (rr, dd) := Option.some.inj hf
        exact sk_iret K dX11_movedTo_78 rfl rfl (congrArg (fun z => z.1) hR15) rfl (congrArg (fun z => z.2) hR15)
      · rw [if_neg h14] at hf
        refine sk_aload_n K dX11_movedTo_59 rfl 1 rfl ?_
        refine sk_iload_n K dX11_movedTo_60 rfl 2 rfl ?_
        refine sk_iload_n K dX11_movedTo_61 rfl 0 rfl ?_
        obtain ⟨h18, hf⟩ := sk_ib hf
        obtain ⟨v16, e17, hf⟩ := sk_ob hf
        refine sk_callV (As := [.int p1, .int (p2 - p2 / (8 : Int32) * (8 : Int32))]) (st := []) K dX11_movedTo_62 cl_X11_273 h18 (sX11_hasNeeds C l e17) (by decide) rfl rfl (Nat.le_of_ble_eq_true rfl) R1 R2 ?_
        refine sk_ifeqB 77 K dX11_movedTo_65 (by decide) (fun h19 => ?_) (fun h19 => ?_)
        · rw [if_neg h19] at hf
          refine sk_iconst (-1 : Int32) K dX11_movedTo_77 (by decide) ?_
          have hR20 : ((-1 : Int32), d) = (rr, dd) := Option.some.inj hf
          exact sk_iret K dX11_movedTo_78 rfl rfl (congrArg (fun z => z.1) hR20) rfl (congrArg (fun z => z.2) hR20)
        · rw [if_pos h19] at hf
          refine sk_aload_n K dX11_movedTo_68 rfl 1 rfl ?_
          refine sk_iload_n K dX11_movedTo_69 rfl 2 rfl ?_
          refine sk_iload_n K dX11_movedTo_70 rfl 0 rfl ?_
          obtain ⟨h24, hf⟩ := sk_ib hf
          obtain ⟨⟨v21, d23⟩, e22, hf⟩ := sk_ob hf
          try dsimp only at hf
          refine sk_callV (As := [.int p1, .int (p2 - p2 / (8 : Int32) * (8 : Int32))]) (st := []) K dX11_movedTo_71 cl_X11_283 h24 (sX11_doneTo C l e22) (by decide) rfl rfl (Nat.le_of_ble_eq_true rfl) R1 R2 ?_
          refine sk_goto 78 K dX11_movedTo_74 (by decide) ?_
          have hR26 : (v21, d23) = (rr, dd) := Option.some.inj hf
          exact sk_iret K dX11_movedTo_78 rfl rfl (congrArg (fun z => z.1) hR26) rfl (congrArg (fun z => z.2) hR26)
    · rw [if_neg h11] at hf
      refine sk_iload_n K dX11_movedTo_23 rfl 2 rfl ?_
      refine sk_iload_n K dX11_movedTo_24 rfl 0 rfl ?_
      obtain ⟨v27, e28, hf⟩ := sk_ob hf
      refine sk_callS (As := [.int p1, .int (p2 - p2 / (8 : Int32) * (8 : Int32))]) (st := []) K dX11_movedTo_25 cl_X11_215 (sX11_howIn C l e28) (by decide) rfl rfl (Nat.le_of_ble_eq_true rfl) R1 R2 ?_
      refine sk_iconst (1 : Int32) K dX11_movedTo_28 (by decide) ?_
      refine sk_icmp_eq 41 K dX11_movedTo_29 (by decide) (fun h29 => ?_) (fun h29 => ?_)
      · rw [if_pos h29] at hf
        refine sk_sub [(1, .int p1), (3, .int (p2 - p2 / (8 : Int32) * (8 : Int32)))] [2, 0] rfl ?_
        have h9 := j41_0 _ _ hf
        exact h9
      · rw [if_neg h29] at hf
        refine sk_iload_n K dX11_movedTo_32 rfl 2 rfl ?_
        refine sk_iload_n K dX11_movedTo_33 rfl 0 rfl ?_
        obtain ⟨v30, e31, hf⟩ := sk_ob hf
        refine sk_callS (As := [.int p1, .int (p2 - p2 / (8 : Int32) * (8 : Int32))]) (st := []) K dX11_movedTo_34 cl_X11_215 (sX11_howIn C l e31) (by decide) rfl rfl (Nat.le_of_ble_eq_true rfl) R1 R2 ?_
        refine sk_iconst (3 : Int32) K dX11_movedTo_37 (by decide) ?_
        refine sk_icmp_ne 49 K dX11_movedTo_38 (by decide) (fun h32 => ?_) (fun h32 => ?_)
        · rw [if_neg h32] at hf
          refine sk_iconst (-1 : Int32) K dX11_movedTo_49 (by decide) ?_
          have hR33 : ((-1 : Int32), d) = (rr, dd) := Option.some.inj hf
          exact sk_iret K dX11_movedTo_50 rfl rfl (congrArg (fun z => z.1) hR33) rfl (congrArg (fun z => z.2) hR33)
        · rw [if_pos h32] at hf
          refine sk_sub [(1, .int p1), (3, .int (p2 - p2 / (8 : Int32) * (8 : Int32)))] [2, 0] rfl ?_
          have h9 := j41_0 _ _ hf
          exact h9
  · rw [if_neg h10] at hf
    refine sk_iconst (-1 : Int32) K dX11_movedTo_15 (by decide) ?_
    have hR34 : ((-1 : Int32), d) = (rr, dd) := Option.some.inj hf
    exact sk_iret K dX11_movedTo_16 rfl rfl (congrArg (fun z => z.1) hR34) rfl (congrArg (fun z => z.2) hR34)
noncomputable def fX11_toldMove (S : sk_S) (d : sk_D) (p0 : Int32) : Option (Int32) :=
  if (8 : Int32) ≤ p0 then (some ((2 : Int32) + p0)) else (some p0)
set_option maxRecDepth 100000 in
set_option maxHeartbeats 4000000 in
theorem sX11_toldMove (C : sk_C) (l : Launch) {S : sk_S} {d : sk_D} {p0 : Int32} {rr : Int32} (hf : fX11_toldMove S d p0 = some rr) : sk_Met C l 0 yX11_toldMove cX11_toldMove 1 (some .int) [.int p0] S d (some (.int rr)) S d := by
  refine sk_Met.of (by decide) (Nat.le_of_ble_eq_true rfl) (Nat.le_refl _) (Nat.le_refl _) (fun X K0 hX => ?_)
  have K : sk_Ok X C cX11_toldMove 1 RX11 "toldMove" (some .int) 0 l (some (.int rr)) S d := K0
  have R1 : X.2.2.2.2.2.2.2.2.2.2.2.1 ≤ S.1.1 ∧ X.2.2.2.2.2.2.2.2.2.2.2.2 ≤ S.1.2 := by rw [hX]; exact ⟨Nat.le_refl _, Nat.le_refl _⟩
  have R2 : S.1.1 ≤ S.1.1 ∧ S.1.2 ≤ S.1.2 := ⟨Nat.le_refl _, Nat.le_refl _⟩
  show sk_G X C 1 S d 0 [(0, .int p0)] []
  unfold fX11_toldMove at hf
  refine sk_iload_n K dX11_toldMove_0 rfl 0 rfl ?_
  refine sk_bipush (8 : Int32) K dX11_toldMove_1 (by decide) ?_
  refine sk_icmp_ge 10 K dX11_toldMove_3 (by decide) (fun h1 => ?_) (fun h1 => ?_)
  · rw [if_pos h1] at hf
    refine sk_iconst (2 : Int32) K dX11_toldMove_10 (by decide) ?_
    refine sk_iload_n K dX11_toldMove_11 rfl 0 rfl ?_
    refine sk_iadd K dX11_toldMove_12 ?_
    have hR2 : ((2 : Int32) + p0) = rr := Option.some.inj hf
    exact sk_iret K dX11_toldMove_13 rfl rfl hR2 rfl rfl
  · rw [if_neg h1] at hf
    refine sk_iload_n K dX11_toldMove_6 rfl 0 rfl ?_
    refine sk_goto 13 K dX11_toldMove_7 (by decide) ?_
    have hR3 : p0 = rr := Option.some.inj hf
    exact sk_iret K dX11_toldMove_13 rfl rfl hR3 rfl rfl
noncomputable def fX11_laysStands_L46 (S : sk_S) (p0 : Nat) (t1_a : Int32) (s3 : Int32 × sk_D) : Option ((Int32 × sk_D) ⊕ (sk_D)) :=
  if (16 : Int32) ≤ s3.1 then (some (.inr s3.2)) else ((sk_gR S p0 10 21).bind fun v15 => (sk_lI S s3.2 v15 20 t1_a).bind fun v17 => if S.2.1 p0 = (10, 0) then ((fX11_movedTo S s3.2 p0 v17 s3.1).bind fun b23 => (sk_gR S p0 10 22).bind fun v24 => (sk_gR S p0 10 21).bind fun v26 => (sk_lI S b23.2 v26 20 t1_a).bind fun v28 => (sk_sI S b23.2 v24 20 (((16 : Int32) * v28) + s3.1) b23.1).bind fun d30 => if b23.1 = (-1 : Int32) then (some (.inl (s3.1 + 1, d30))) else (if S.2.1 p0 = (10, 0) then ((fX11_adds S d30 p0 b23.1).bind fun d35 => some (.inl (s3.1 + 1, d35))) else none)) else none)
noncomputable def fX11_laysStands_L36 (S : sk_S) (p0 : Nat) (s2 : Int32 × sk_D) : Option ((Int32 × sk_D) ⊕ (sk_D)) :=
  (sk_gI S s2.2 p0 10 25).bind fun v10 => if v10 ≤ s2.1 then (some (.inr s2.2)) else ((sk_itr (fX11_laysStands_L46 S p0 s2.1) ((0 : Int32), s2.2)).bind fun y3 => some (.inl (s2.1 + 1, y3)))
noncomputable def fX11_laysStands_L2 (S : sk_S) (p0 : Nat) (s1 : Int32 × sk_D) : Option ((Int32 × sk_D) ⊕ (sk_D)) :=
  if (65536 : Int32) ≤ s1.1 then (some (.inr s1.2)) else ((sk_gR S p0 10 24).bind fun v38 => (sk_sI S s1.2 v38 23 s1.1 (vp_nar .boolean (0 : Int32))).bind fun d40 => some (.inl (s1.1 + 1, d40)))
noncomputable def fX11_laysStands (S : sk_S) (d : sk_D) (p0 : Nat) : Option (sk_D) :=
  (sk_itr (fX11_laysStands_L2 S p0) ((0 : Int32), d)).bind fun y1 => (sk_pI S y1 p0 10 25 (0 : Int32)).bind fun d1 => if S.2.1 p0 = (10, 0) then ((fX11_standNow S d1 p0).bind fun v3 => if S.2.1 p0 = (10, 0) then ((fX11_adds S d1 p0 v3).bind fun d8 => (sk_itr (fX11_laysStands_L36 S p0) ((0 : Int32), d8)).bind fun x2 => some x2) else none) else none
set_option maxRecDepth 100000 in
set_option maxHeartbeats 4000000 in
theorem sX11_laysStands (C : sk_C) (l : Launch) {S : sk_S} {d : sk_D} {p0 : Nat} {dd : sk_D} (hf : fX11_laysStands S d p0 = some dd) : sk_Met C l 7 yX11_laysStands cX11_laysStands 4 none [.ref p0] S d none S dd := by
  refine sk_Met.of (by decide) (Nat.le_of_ble_eq_true rfl) (Nat.le_refl _) (Nat.le_refl _) (fun X K0 hX => ?_)
  have K : sk_Ok X C cX11_laysStands 4 RX11 "laysStands" none 7 l none S dd := K0
  have R1 : X.2.2.2.2.2.2.2.2.2.2.2.1 ≤ S.1.1 ∧ X.2.2.2.2.2.2.2.2.2.2.2.2 ≤ S.1.2 := by rw [hX]; exact ⟨Nat.le_refl _, Nat.le_refl _⟩
  have R2 : S.1.1 ≤ S.1.1 ∧ S.1.2 ≤ S.1.2 := ⟨Nat.le_refl _, Nat.le_refl _⟩
  show sk_G X C 4 S d 0 [(0, .ref p0)] []
  unfold fX11_laysStands at hf
  refine sk_iconst (0 : Int32) K dX11_laysStands_0 (by decide) ?_
  refine sk_istore_n [(1, .int (0 : Int32)), (0, .ref p0)] K dX11_laysStands_1 rfl (by decide) rfl ?_
  obtain ⟨x1, he1, hf⟩ := sk_ob hf
  have rest1 : ∀ y1, y1 = x1 → sk_G X C 4 S y1 21 [(0, .ref p0)] [] := by
    intro y1 hy
    subst hy
    refine sk_aload_n K dX11_laysStands_21 rfl 0 rfl ?_
    refine sk_iconst (0 : Int32) K dX11_laysStands_22 (by decide) ?_
    obtain ⟨d1, e2, hf⟩ := sk_ob hf
    refine sk_putI d1 K dX11_laysStands_23 fl_X11_355 rfl rfl rfl e2 ?_
    refine sk_aload_n K dX11_laysStands_26 rfl 0 rfl ?_
    refine sk_aload_n K dX11_laysStands_27 rfl 0 rfl ?_
    obtain ⟨h5, hf⟩ := sk_ib hf
    obtain ⟨v3, e4, hf⟩ := sk_ob hf
    refine sk_callV (As := []) (st := [.ref p0]) K dX11_laysStands_28 cl_X11_270 h5 (sX11_standNow C l e4) (by decide) rfl rfl (Nat.le_of_ble_eq_true rfl) R1 R2 ?_
    obtain ⟨h9, hf⟩ := sk_ib hf
    obtain ⟨d8, e7, hf⟩ := sk_ob hf
    refine sk_callV (As := [.int v3]) (st := []) K dX11_laysStands_31 cl_X11_358 h9 (sX11_adds C l e7) (by decide) rfl rfl (Nat.le_of_ble_eq_true rfl) R1 R2 ?_
    refine sk_iconst (0 : Int32) K dX11_laysStands_34 (by decide) ?_
    refine sk_istore_n [(1, .int (0 : Int32)), (0, .ref p0)] K dX11_laysStands_35 rfl (by decide) rfl ?_
    obtain ⟨x2, he2, hf⟩ := sk_ob hf
    have hret2 : ∀ r, r = x2 → r = dd := by
      intro r hr
      subst hr
      exact Option.some.inj hf
    refine sk_sub [(0, .ref p0), (1, .int (0 : Int32))] [1, 0] rfl ?_
    refine sk_loop (fun s2 => sk_G X C 4 S s2.2 36 [(0, .ref p0), (1, .int s2.1)] []) he2 (fun s2 o2 hf ih2 hx2 => ?_)
    unfold fX11_laysStands_L36 at hf
    refine sk_iload_n K dX11_laysStands_36 rfl 1 rfl ?_
    refine sk_aload_n K dX11_laysStands_37 rfl 0 rfl ?_
    obtain ⟨v10, e11, hf⟩ := sk_ob hf
    refine sk_getI K dX11_laysStands_38 fl_X11_355 rfl e11 ?_
    refine sk_icmp_ge 103 K dX11_laysStands_41 (by decide) (fun h12 => ?_) (fun h12 => ?_)
    · rw [if_pos h12] at hf
      have hR13 : s2.2 = dd := hret2 _ (hx2 _ (Option.some.inj hf).symm)
      exact sk_vret K dX11_laysStands_103 rfl rfl rfl hR13
    · rw [if_neg h12] at hf
      refine sk_iconst (0 : Int32) K dX11_laysStands_44 (by decide) ?_
      refine sk_istore_n [(2, .int (0 : Int32)), (0, .ref p0), (1, .int s2.1)] K dX11_laysStands_45 rfl (by decide) rfl ?_
      obtain ⟨x3, he3, hf⟩ := sk_ob hf
      have rest3 : ∀ y3, y3 = x3 → sk_G X C 4 S y3 97 [(0, .ref p0), (1, .int s2.1)] [] := by
        intro y3 hy
        subst hy
        refine sk_iinc (s2.1 + 1) [(1, .int (s2.1 + 1)), (0, .ref p0)] K dX11_laysStands_97 1 rfl rfl (by decide) rfl ?_
        refine sk_goto 36 K dX11_laysStands_100 (by decide) ?_
        refine sk_sub [(0, .ref p0), (1, .int (s2.1 + 1))] [1, 0] rfl ?_
        have h9 := ih2 _ (Option.some.inj hf).symm
        exact h9
      refine sk_sub [(0, .ref p0), (1, .int s2.1), (2, .int (0 : Int32))] [1, 2, 0] rfl ?_
      refine sk_loop (fun s3 => sk_G X C 4 S s3.2 46 [(0, .ref p0), (1, .int s2.1), (2, .int s3.1)] []) he3 (fun s3 o3 hf ih3 hx3 => ?_)
      unfold fX11_laysStands_L46 at hf
      refine sk_iload_n K dX11_laysStands_46 rfl 2 rfl ?_
      refine sk_bipush (16 : Int32) K dX11_laysStands_47 (by decide) ?_
      refine sk_icmp_ge 97 K dX11_laysStands_49 (by decide) (fun h14 => ?_) (fun h14 => ?_)
      · rw [if_pos h14] at hf
        refine sk_sub [(0, .ref p0), (1, .int s2.1)] [0, 1] rfl ?_
        have h9 := rest3 _ (hx3 _ (Option.some.inj hf).symm)
        exact h9
      · rw [if_neg h14] at hf
        refine sk_aload_n K dX11_laysStands_52 rfl 0 rfl ?_
        refine sk_aload_n K dX11_laysStands_53 rfl 0 rfl ?_
        obtain ⟨v15, e16, hf⟩ := sk_ob hf
        refine sk_getR K dX11_laysStands_54 fl_X11_40 rfl e16 ?_
        refine sk_iload_n K dX11_laysStands_57 rfl 1 rfl ?_
        obtain ⟨v17, e18, hf⟩ := sk_ob hf
        refine sk_ald20 K dX11_laysStands_58 e18 ?_
        refine sk_iload_n K dX11_laysStands_59 rfl 2 rfl ?_
        obtain ⟨h22, hf⟩ := sk_ib hf
        obtain ⟨⟨v19, d21⟩, e20, hf⟩ := sk_ob hf
        try dsimp only at hf
        refine sk_callV (As := [.int v17, .int s3.1]) (st := []) K dX11_laysStands_60 cl_X11_361 h22 (sX11_movedTo C l e20) (by decide) rfl rfl (Nat.le_of_ble_eq_true rfl) R1 R2 ?_
        refine sk_istore_n [(3, .int v19), (0, .ref p0), (1, .int s2.1), (2, .int s3.1)] K dX11_laysStands_63 rfl (by decide) rfl ?_
        refine sk_aload_n K dX11_laysStands_64 rfl 1 rfl ?_
        obtain ⟨v24, e25, hf⟩ := sk_ob hf
        refine sk_getR K dX11_laysStands_65 fl_X11_44 rfl e25 ?_
        refine sk_bipush (16 : Int32) K dX11_laysStands_68 (by decide) ?_
        refine sk_aload_n K dX11_laysStands_70 rfl 1 rfl ?_
        obtain ⟨v26, e27, hf⟩ := sk_ob hf
        refine sk_getR K dX11_laysStands_71 fl_X11_40 rfl e27 ?_
        refine sk_iload_n K dX11_laysStands_74 rfl 2 rfl ?_
        obtain ⟨v28, e29, hf⟩ := sk_ob hf
        refine sk_ald20 K dX11_laysStands_75 e29 ?_
        refine sk_imul K dX11_laysStands_76 ?_
        refine sk_iload_n K dX11_laysStands_77 rfl 3 rfl ?_
        refine sk_iadd K dX11_laysStands_78 ?_
        refine sk_iload_n K dX11_laysStands_79 rfl 0 rfl ?_
        obtain ⟨d30, e31, hf⟩ := sk_ob hf
        refine sk_ast20 d30 K dX11_laysStands_80 e31 ?_
        refine sk_iload_n K dX11_laysStands_81 rfl 0 rfl ?_
        refine sk_iconst (-1 : Int32) K dX11_laysStands_82 (by decide) ?_
        refine sk_icmp_eq 91 K dX11_laysStands_83 (by decide) (fun h32 => ?_) (fun h32 => ?_)
        · rw [if_pos h32] at hf
          refine sk_iinc (s3.1 + 1) [(2, .int (s3.1 + 1)), (3, .int v19), (0, .ref p0), (1, .int s2.1)] K dX11_laysStands_91 3 rfl rfl (by decide) rfl ?_
          refine sk_goto 46 K dX11_laysStands_94 (by decide) ?_
          refine sk_sub [(0, .ref p0), (1, .int s2.1), (2, .int (s3.1 + 1))] [2, 3, 0] rfl ?_
          have h9 := ih3 _ (Option.some.inj hf).symm
          exact h9
        · rw [if_neg h32] at hf
          refine sk_aload_n K dX11_laysStands_86 rfl 1 rfl ?_
          refine sk_iload_n K dX11_laysStands_87 rfl 0 rfl ?_
          obtain ⟨h36, hf⟩ := sk_ib hf
          obtain ⟨d35, e34, hf⟩ := sk_ob hf
          refine sk_callV (As := [.int v19]) (st := []) K dX11_laysStands_88 cl_X11_358 h36 (sX11_adds C l e34) (by decide) rfl rfl (Nat.le_of_ble_eq_true rfl) R1 R2 ?_
          refine sk_iinc (s3.1 + 1) [(2, .int (s3.1 + 1)), (3, .int v19), (0, .ref p0), (1, .int s2.1)] K dX11_laysStands_91 3 rfl rfl (by decide) rfl ?_
          refine sk_goto 46 K dX11_laysStands_94 (by decide) ?_
          refine sk_sub [(0, .ref p0), (1, .int s2.1), (2, .int (s3.1 + 1))] [2, 3, 0] rfl ?_
          have h9 := ih3 _ (Option.some.inj hf).symm
          exact h9
  refine sk_sub [(0, .ref p0), (1, .int (0 : Int32))] [1, 0] rfl ?_
  refine sk_loop (fun s1 => sk_G X C 4 S s1.2 2 [(0, .ref p0), (1, .int s1.1)] []) he1 (fun s1 o1 hf ih1 hx1 => ?_)
  unfold fX11_laysStands_L2 at hf
  refine sk_iload_n K dX11_laysStands_2 rfl 1 rfl ?_
  refine sk_ldc K dX11_laysStands_3 qw_1308 ?_
  refine sk_icmp_ge 21 K dX11_laysStands_5 (by decide) (fun h37 => ?_) (fun h37 => ?_)
  · rw [if_pos h37] at hf
    refine sk_sub [(0, .ref p0)] [0] rfl ?_
    have h9 := rest1 _ (hx1 _ (Option.some.inj hf).symm)
    exact h9
  · rw [if_neg h37] at hf
    refine sk_aload_n K dX11_laysStands_8 rfl 0 rfl ?_
    obtain ⟨v38, e39, hf⟩ := sk_ob hf
    refine sk_getR K dX11_laysStands_9 fl_X11_50 rfl e39 ?_
    refine sk_iload_n K dX11_laysStands_12 rfl 1 rfl ?_
    refine sk_iconst (0 : Int32) K dX11_laysStands_13 (by decide) ?_
    obtain ⟨d40, e41, hf⟩ := sk_ob hf
    refine sk_ast23 d40 K dX11_laysStands_14 e41 ?_
    refine sk_iinc (s1.1 + 1) [(1, .int (s1.1 + 1)), (0, .ref p0)] K dX11_laysStands_15 1 rfl rfl (by decide) rfl ?_
    refine sk_goto 2 K dX11_laysStands_18 (by decide) ?_
    refine sk_sub [(0, .ref p0), (1, .int (s1.1 + 1))] [1, 0] rfl ?_
    have h9 := ih1 _ (Option.some.inj hf).symm
    exact h9
noncomputable def fX11_hasAll (S : sk_S) (d : sk_D) (p0 : Nat) (p1 : Int32) (p2 : Int32) (p3 : Bool) : Option (Bool) :=
  if p3 = true then (if S.2.1 p0 = (10, 0) then ((fX11_thoseIn S d p0 p1 (1 : Int32)).bind fun v8 => if (v8 &&& p2) = p2 then (some true) else (some false)) else none) else (if S.2.1 p0 = (10, 0) then ((fX11_doneIn S d p0 p1).bind fun v2 => if (v2 &&& p2) = p2 then (some true) else (some false)) else none)
set_option maxRecDepth 100000 in
set_option maxHeartbeats 4000000 in
theorem sX11_hasAll (C : sk_C) (l : Launch) {S : sk_S} {d : sk_D} {p0 : Nat} {p1 : Int32} {p2 : Int32} {p3 : Bool} {rr : Bool} (hf : fX11_hasAll S d p0 p1 p2 p3 = some rr) : sk_Met C l 3 yX11_hasAll cX11_hasAll 4 (some .boolean) [.ref p0, .int p1, .int p2, .int (sk_b p3)] S d (some (.int (sk_b rr))) S d := by
  refine sk_Met.of (by decide) (Nat.le_of_ble_eq_true rfl) (Nat.le_refl _) (Nat.le_refl _) (fun X K0 hX => ?_)
  have K : sk_Ok X C cX11_hasAll 4 RX11 "hasAll" (some .boolean) 3 l (some (.int (sk_b rr))) S d := K0
  have R1 : X.2.2.2.2.2.2.2.2.2.2.2.1 ≤ S.1.1 ∧ X.2.2.2.2.2.2.2.2.2.2.2.2 ≤ S.1.2 := by rw [hX]; exact ⟨Nat.le_refl _, Nat.le_refl _⟩
  have R2 : S.1.1 ≤ S.1.1 ∧ S.1.2 ≤ S.1.2 := ⟨Nat.le_refl _, Nat.le_refl _⟩
  show sk_G X C 4 S d 0 [(0, .ref p0), (1, .int p1), (2, .int p2), (3, .int (sk_b p3))] []
  unfold fX11_hasAll at hf
  refine sk_iload_n K dX11_hasAll_0 rfl 3 rfl ?_
  refine sk_ifeqB 13 K dX11_hasAll_1 (by decide) (fun h1 => ?_) (fun h1 => ?_)
  · rw [if_neg h1] at hf
    refine sk_aload_n K dX11_hasAll_13 rfl 0 rfl ?_
    refine sk_iload_n K dX11_hasAll_14 rfl 1 rfl ?_
    obtain ⟨h4, hf⟩ := sk_ib hf
    obtain ⟨v2, e3, hf⟩ := sk_ob hf
    refine sk_callV (As := [.int p1]) (st := []) K dX11_hasAll_15 cl_X11_245 h4 (sX11_doneIn C l e3) (by decide) rfl rfl (Nat.le_of_ble_eq_true rfl) R1 R2 ?_
    refine sk_iload_n K dX11_hasAll_18 rfl 2 rfl ?_
    refine sk_iand K dX11_hasAll_19 ?_
    refine sk_iload_n K dX11_hasAll_20 rfl 2 rfl ?_
    refine sk_icmp_ne 28 K dX11_hasAll_21 (by decide) (fun h5 => ?_) (fun h5 => ?_)
    · rw [if_neg h5] at hf
      refine sk_iconst (0 : Int32) K dX11_hasAll_28 (by decide) ?_
      have hR6 : false = rr := Option.some.inj hf
      exact sk_zret (x := false) K dX11_hasAll_29 rfl rfl hR6 rfl rfl
    · rw [if_pos h5] at hf
      refine sk_iconst (1 : Int32) K dX11_hasAll_24 (by decide) ?_
      refine sk_goto 29 K dX11_hasAll_25 (by decide) ?_
      have hR7 : true = rr := Option.some.inj hf
      exact sk_zret (x := true) K dX11_hasAll_29 rfl rfl hR7 rfl rfl
  · rw [if_pos h1] at hf
    refine sk_aload_n K dX11_hasAll_4 rfl 0 rfl ?_
    refine sk_iload_n K dX11_hasAll_5 rfl 1 rfl ?_
    refine sk_iconst (1 : Int32) K dX11_hasAll_6 (by decide) ?_
    obtain ⟨h10, hf⟩ := sk_ib hf
    obtain ⟨v8, e9, hf⟩ := sk_ob hf
    refine sk_callV (As := [.int p1, .int (1 : Int32)]) (st := []) K dX11_hasAll_7 cl_X11_218 h10 (sX11_thoseIn C l e9) (by decide) rfl rfl (Nat.le_of_ble_eq_true rfl) R1 R2 ?_
    refine sk_goto 18 K dX11_hasAll_10 (by decide) ?_
    refine sk_iload_n K dX11_hasAll_18 rfl 2 rfl ?_
    refine sk_iand K dX11_hasAll_19 ?_
    refine sk_iload_n K dX11_hasAll_20 rfl 2 rfl ?_
    refine sk_icmp_ne 28 K dX11_hasAll_21 (by decide) (fun h11 => ?_) (fun h11 => ?_)
    · rw [if_neg h11] at hf
      refine sk_iconst (0 : Int32) K dX11_hasAll_28 (by decide) ?_
      have hR12 : false = rr := Option.some.inj hf
      exact sk_zret (x := false) K dX11_hasAll_29 rfl rfl hR12 rfl rfl
    · rw [if_pos h11] at hf
      refine sk_iconst (1 : Int32) K dX11_hasAll_24 (by decide) ?_
      refine sk_goto 29 K dX11_hasAll_25 (by decide) ?_
      have hR13 : true = rr := Option.some.inj hf
      exact sk_zret (x := true) K dX11_hasAll_29 rfl rfl hR13 rfl rfl
noncomputable def fX11_farBy (S : sk_S) (d : sk_D) (p0 : Nat) (p1 : Int32) (p2 : Int32) : Option (Int32) :=
  (sk_gR S p0 10 22).bind fun v1 => (sk_lI S d v1 20 (((16 : Int32) * p1) + p2)).bind fun v3 => if v3 = (-1 : Int32) then (some (268435456 : Int32)) else ((sk_gR S p0 10 23).bind fun v7 => (sk_lI S d v7 20 v3).bind fun v9 => if v9 = (268435456 : Int32) then (some (268435456 : Int32)) else ((sk_gR S p0 10 23).bind fun v12 => (sk_lI S d v12 20 v3).bind fun v14 => some (v14 + (1 : Int32))))
set_option maxRecDepth 100000 in
set_option maxHeartbeats 4000000 in
theorem sX11_farBy (C : sk_C) (l : Launch) {S : sk_S} {d : sk_D} {p0 : Nat} {p1 : Int32} {p2 : Int32} {rr : Int32} (hf : fX11_farBy S d p0 p1 p2 = some rr) : sk_Met C l 0 yX11_farBy cX11_farBy 4 (some .int) [.ref p0, .int p1, .int p2] S d (some (.int rr)) S d := by
  refine sk_Met.of (by decide) (Nat.le_of_ble_eq_true rfl) (Nat.le_refl _) (Nat.le_refl _) (fun X K0 hX => ?_)
  have K : sk_Ok X C cX11_farBy 4 RX11 "farBy" (some .int) 0 l (some (.int rr)) S d := K0
  have R1 : X.2.2.2.2.2.2.2.2.2.2.2.1 ≤ S.1.1 ∧ X.2.2.2.2.2.2.2.2.2.2.2.2 ≤ S.1.2 := by rw [hX]; exact ⟨Nat.le_refl _, Nat.le_refl _⟩
  have R2 : S.1.1 ≤ S.1.1 ∧ S.1.2 ≤ S.1.2 := ⟨Nat.le_refl _, Nat.le_refl _⟩
  show sk_G X C 4 S d 0 [(0, .ref p0), (1, .int p1), (2, .int p2)] []
  unfold fX11_farBy at hf
  refine sk_aload_n K dX11_farBy_0 rfl 0 rfl ?_
  obtain ⟨v1, e2, hf⟩ := sk_ob hf
  refine sk_getR K dX11_farBy_1 fl_X11_44 rfl e2 ?_
  refine sk_bipush (16 : Int32) K dX11_farBy_4 (by decide) ?_
  refine sk_iload_n K dX11_farBy_6 rfl 1 rfl ?_
  refine sk_imul K dX11_farBy_7 ?_
  refine sk_iload_n K dX11_farBy_8 rfl 2 rfl ?_
  refine sk_iadd K dX11_farBy_9 ?_
  obtain ⟨v3, e4, hf⟩ := sk_ob hf
  refine sk_ald20 K dX11_farBy_10 e4 ?_
  refine sk_istore_n [(3, .int v3), (0, .ref p0), (1, .int p1), (2, .int p2)] K dX11_farBy_11 rfl (by decide) rfl ?_
  refine sk_iload_n K dX11_farBy_12 rfl 0 rfl ?_
  refine sk_iconst (-1 : Int32) K dX11_farBy_13 (by decide) ?_
  refine sk_icmp_eq 29 K dX11_farBy_14 (by decide) (fun h5 => ?_) (fun h5 => ?_)
  · rw [if_pos h5] at hf
    refine sk_ldcw K dX11_farBy_29 qw_1768 ?_
    refine sk_goto 43 K dX11_farBy_32 (by decide) ?_
    have hR6 : (268435456 : Int32) = rr := Option.some.inj hf
    exact sk_iret K dX11_farBy_43 rfl rfl hR6 rfl rfl
  · rw [if_neg h5] at hf
    refine sk_aload_n K dX11_farBy_17 rfl 1 rfl ?_
    obtain ⟨v7, e8, hf⟩ := sk_ob hf
    refine sk_getR K dX11_farBy_18 fl_X11_47 rfl e8 ?_
    refine sk_iload_n K dX11_farBy_21 rfl 0 rfl ?_
    obtain ⟨v9, e10, hf⟩ := sk_ob hf
    refine sk_ald20 K dX11_farBy_22 e10 ?_
    refine sk_ldcw K dX11_farBy_23 qw_1768 ?_
    refine sk_icmp_ne 35 K dX11_farBy_26 (by decide) (fun h11 => ?_) (fun h11 => ?_)
    · rw [if_neg h11] at hf
      refine sk_aload_n K dX11_farBy_35 rfl 1 rfl ?_
      obtain ⟨v12, e13, hf⟩ := sk_ob hf
      refine sk_getR K dX11_farBy_36 fl_X11_47 rfl e13 ?_
      refine sk_iload_n K dX11_farBy_39 rfl 0 rfl ?_
      obtain ⟨v14, e15, hf⟩ := sk_ob hf
      refine sk_ald20 K dX11_farBy_40 e15 ?_
      refine sk_iconst (1 : Int32) K dX11_farBy_41 (by decide) ?_
      refine sk_iadd K dX11_farBy_42 ?_
      have hR16 : (v14 + (1 : Int32)) = rr := Option.some.inj hf
      exact sk_iret K dX11_farBy_43 rfl rfl hR16 rfl rfl
    · rw [if_pos h11] at hf
      refine sk_ldcw K dX11_farBy_29 qw_1768 ?_
      refine sk_goto 43 K dX11_farBy_32 (by decide) ?_
      have hR17 : (268435456 : Int32) = rr := Option.some.inj hf
      exact sk_iret K dX11_farBy_43 rfl rfl hR17 rfl rfl
noncomputable def fX11_laysFar_L77 (S : sk_S) (p0 : Nat) (t1_a : Int32) (s4 : Int32 × Int32 × sk_D) : Option ((Int32 × Int32 × sk_D) ⊕ (Int32 × sk_D)) :=
  if (16 : Int32) ≤ s4.2.1 then (some (.inr (s4.1, s4.2.2))) else ((sk_gR S p0 10 23).bind fun v18 => (sk_gR S p0 10 21).bind fun v20 => (sk_lI S s4.2.2 v20 20 t1_a).bind fun v22 => (sk_lI S s4.2.2 v18 20 v22).bind fun v24 => if v24 ≤ 0 then (some (.inr (s4.1, s4.2.2))) else ((sk_gR S p0 10 21).bind fun v27 => (sk_lI S s4.2.2 v27 20 t1_a).bind fun v29 => if S.2.1 p0 = (10, 0) then ((fX11_farBy S s4.2.2 p0 v29 s4.2.1).bind fun v31 => (sk_gR S p0 10 23).bind fun v34 => (sk_gR S p0 10 21).bind fun v36 => (sk_lI S s4.2.2 v36 20 t1_a).bind fun v38 => (sk_lI S s4.2.2 v34 20 v38).bind fun v40 => if v31 < v40 then ((sk_gR S p0 10 23).bind fun v43 => (sk_gR S p0 10 21).bind fun v45 => (sk_lI S s4.2.2 v45 20 t1_a).bind fun v47 => (sk_gR S p0 10 21).bind fun v49 => (sk_lI S s4.2.2 v49 20 t1_a).bind fun v51 => if S.2.1 p0 = (10, 0) then ((fX11_farBy S s4.2.2 p0 v51 s4.2.1).bind fun v53 => (sk_sI S s4.2.2 v43 20 v47 v53).bind fun d56 => some (.inl ((1 : Int32), s4.2.1 + 1, d56))) else none) else (some (.inl (s4.1, s4.2.1 + 1, s4.2.2)))) else none))
noncomputable def fX11_laysFar_L69 (S : sk_S) (p0 : Nat) (s3 : Int32 × Int32 × sk_D) : Option ((Int32 × Int32 × sk_D) ⊕ (Int32 × sk_D)) :=
  if s3.2.1 < 0 then (some (.inr (s3.1, s3.2.2))) else ((sk_itr (fX11_laysFar_L77 S p0 s3.2.1) (s3.1, (0 : Int32), s3.2.2)).bind fun y4 => some (.inl (y4.1, s3.2.1 - 1, y4.2)))
noncomputable def fX11_laysFar_L55 (S : sk_S) (p0 : Nat) (s2 : Int32 × sk_D) : Option ((Int32 × sk_D) ⊕ (sk_D)) :=
  if s2.1 = 0 then (some (.inr s2.2)) else ((sk_gI S s2.2 p0 10 25).bind fun v14 => (sk_itr (fX11_laysFar_L69 S p0) ((0 : Int32), v14 - (1 : Int32), s2.2)).bind fun y3 => some (.inl (y3.1, y3.2)))
noncomputable def fX11_laysFar_L6 (S : sk_S) (p0 : Nat) (p1 : Int32) (p2 : Bool) (s1 : Int32 × sk_D) : Option ((Int32 × sk_D) ⊕ (sk_D)) :=
  (sk_gI S s1.2 p0 10 25).bind fun v58 => if v58 ≤ s1.1 then (some (.inr s1.2)) else ((sk_gR S p0 10 23).bind fun v61 => (sk_gR S p0 10 21).bind fun v63 => (sk_lI S s1.2 v63 20 s1.1).bind fun v65 => (sk_gR S p0 10 21).bind fun v67 => (sk_lI S s1.2 v67 20 s1.1).bind fun v69 => if S.2.1 p0 = (10, 0) then ((fX11_hasAll S s1.2 p0 v69 p1 p2).bind fun v71 => if v71 = true then ((sk_sI S s1.2 v61 20 v65 (0 : Int32)).bind fun d77 => some (.inl (s1.1 + 1, d77))) else ((sk_sI S s1.2 v61 20 v65 (268435456 : Int32)).bind fun d75 => some (.inl (s1.1 + 1, d75)))) else none)
noncomputable def fX11_laysFar (S : sk_S) (d : sk_D) (p0 : Nat) (p1 : Int32) (p2 : Bool) : Option (Int32 × sk_D) :=
  if S.2.1 p0 = (10, 0) then ((fX11_laysStands S d p0).bind fun d3 => (sk_itr (fX11_laysFar_L6 S p0 p1 p2) ((0 : Int32), d3)).bind fun y1 => (sk_itr (fX11_laysFar_L55 S p0) ((1 : Int32), y1)).bind fun y2 => (sk_gR S p0 10 23).bind fun v5 => if S.2.1 p0 = (10, 0) then ((fX11_standNow S y2 p0).bind fun v7 => (sk_lI S y2 v5 20 v7).bind fun v10 => some (v10, y2)) else none) else none
set_option maxRecDepth 100000 in
set_option maxHeartbeats 4000000 in
theorem sX11_laysFar (C : sk_C) (l : Launch) {S : sk_S} {d : sk_D} {p0 : Nat} {p1 : Int32} {p2 : Bool} {rr : Int32} {dd : sk_D} (hf : fX11_laysFar S d p0 p1 p2 = some (rr, dd)) : sk_Met C l 8 yX11_laysFar cX11_laysFar 6 (some .int) [.ref p0, .int p1, .int (sk_b p2)] S d (some (.int rr)) S dd := by
  refine sk_Met.of (by decide) (Nat.le_of_ble_eq_true rfl) (Nat.le_refl _) (Nat.le_refl _) (fun X K0 hX => ?_)
  have K : sk_Ok X C cX11_laysFar 6 RX11 "laysFar" (some .int) 8 l (some (.int rr)) S dd := K0
  have R1 : X.2.2.2.2.2.2.2.2.2.2.2.1 ≤ S.1.1 ∧ X.2.2.2.2.2.2.2.2.2.2.2.2 ≤ S.1.2 := by rw [hX]; exact ⟨Nat.le_refl _, Nat.le_refl _⟩
  have R2 : S.1.1 ≤ S.1.1 ∧ S.1.2 ≤ S.1.2 := ⟨Nat.le_refl _, Nat.le_refl _⟩
  show sk_G X C 6 S d 0 [(0, .ref p0), (1, .int p1), (2, .int (sk_b p2))] []
  unfold fX11_laysFar at hf
  refine sk_aload_n K dX11_laysFar_0 rfl 0 rfl ?_
  obtain ⟨h4, hf⟩ := sk_ib hf
  obtain ⟨d3, e2, hf⟩ := sk_ob hf
  refine sk_callV (As := []) (st := []) K dX11_laysFar_1 cl_X11_365 h4 (sX11_laysStands C l e2) (by decide) rfl rfl (Nat.le_of_ble_eq_true rfl) R1 R2 ?_
  refine sk_iconst (0 : Int32) K dX11_laysFar_4 (by decide) ?_
  refine sk_istore_n [(3, .int (0 : Int32)), (0, .ref p0), (1, .int p1), (2, .int (sk_b p2))] K dX11_laysFar_5 rfl (by decide) rfl ?_
  obtain ⟨x1, he1, hf⟩ := sk_ob hf
  have rest1 : ∀ y1, y1 = x1 → sk_G X C 6 S y1 53 [(0, .ref p0)] [] := by
    intro y1 hy
    subst hy
    refine sk_iconst (1 : Int32) K dX11_laysFar_53 (by decide) ?_
    refine sk_istore_n [(3, .int (1 : Int32)), (0, .ref p0)] K dX11_laysFar_54 rfl (by decide) rfl ?_
    obtain ⟨x2, he2, hf⟩ := sk_ob hf
    have rest2 : ∀ y2, y2 = x2 → sk_G X C 6 S y2 172 [(0, .ref p0)] [] := by
      intro y2 hy
      subst hy
      refine sk_aload_n K dX11_laysFar_172 rfl 0 rfl ?_
      obtain ⟨v5, e6, hf⟩ := sk_ob hf
      refine sk_getR K dX11_laysFar_173 fl_X11_47 rfl e6 ?_
      refine sk_aload_n K dX11_laysFar_176 rfl 0 rfl ?_
      obtain ⟨h9, hf⟩ := sk_ib hf
      obtain ⟨v7, e8, hf⟩ := sk_ob hf
      refine sk_callV (As := []) (st := [.ref v5]) K dX11_laysFar_177 cl_X11_270 h9 (sX11_standNow C l e8) (by decide) rfl rfl (Nat.le_of_ble_eq_true rfl) R1 R2 ?_
      obtain ⟨v10, e11, hf⟩ := sk_ob hf
      refine sk_ald20 K dX11_laysFar_180 e11 ?_
      have hR12 : (v10, y2) = (rr, dd) := Option.some.inj hf
      exact sk_iret K dX11_laysFar_181 rfl rfl (congrArg (fun z => z.1) hR12) rfl (congrArg (fun z => z.2) hR12)
    refine sk_sub [(0, .ref p0), (3, .int (1 : Int32))] [1, 0] rfl ?_
    refine sk_loop (fun s2 => sk_G X C 6 S s2.2 55 [(0, .ref p0), (3, .int s2.1)] []) he2 (fun s2 o2 hf ih2 hx2 => ?_)
    unfold fX11_laysFar_L55 at hf
    refine sk_iload_n K dX11_laysFar_55 rfl 1 rfl ?_
    refine sk_if_eq 172 K dX11_laysFar_56 (by decide) (fun h13 => ?_) (fun h13 => ?_)
    · rw [if_pos h13] at hf
      refine sk_sub [(0, .ref p0)] [0] rfl ?_
      have h9 := rest2 _ (hx2 _ (Option.some.inj hf).symm)
      exact h9
    · rw [if_neg h13] at hf
      refine sk_iconst (0 : Int32) K dX11_laysFar_59 (by decide) ?_
      refine sk_istore_n [(3, .int (0 : Int32)), (0, .ref p0)] K dX11_laysFar_60 rfl (by decide) rfl ?_
      refine sk_aload_n K dX11_laysFar_61 rfl 1 rfl ?_
      obtain ⟨v14, e15, hf⟩ := sk_ob hf
      refine sk_getI K dX11_laysFar_62 fl_X11_355 rfl e15 ?_
      refine sk_iconst (1 : Int32) K dX11_laysFar_65 (by decide) ?_
      refine sk_isub K dX11_laysFar_66 ?_
      refine sk_istore [(4, .int (v14 - (1 : Int32))), (3, .int (0 : Int32)), (0, .ref p0)] K dX11_laysFar_67 (by decide) rfl ?_
      obtain ⟨x3, he3, hf⟩ := sk_ob hf
      have rest3 : ∀ y3, y3 = x3 → sk_G X C 6 S y3.2 169 [(0, .ref p0), (3, .int y3.1)] [] := by
        intro y3 hy
        subst hy
        refine sk_goto 55 K dX11_laysFar_169 (by decide) ?_
        refine sk_sub [(0, .ref p0), (3, .int y3.1)] [0, 1] rfl ?_
        have h9 := ih2 _ (Option.some.inj hf).symm
        exact h9
      refine sk_sub [(0, .ref p0), (3, .int (0 : Int32)), (4, .int (v14 - (1 : Int32)))] [2, 1, 0] rfl ?_
      refine sk_loop (fun s3 => sk_G X C 6 S s3.2.2 69 [(0, .ref p0), (3, .int s3.1), (4, .int s3.2.1)] []) he3 (fun s3 o3 hf ih3 hx3 => ?_)
      unfold fX11_laysFar_L69 at hf
      refine sk_iload K dX11_laysFar_69 2 rfl ?_
      refine sk_if_lt 169 K dX11_laysFar_71 (by decide) (fun h16 => ?_) (fun h16 => ?_)
      · rw [if_pos h16] at hf
        refine sk_sub [(0, .ref p0), (3, .int s3.1)] [0, 1] rfl ?_
        have h9 := rest3 _ (hx3 _ (Option.some.inj hf).symm)
        exact h9
      · rw [if_neg h16] at hf
        refine sk_iconst (0 : Int32) K dX11_laysFar_74 (by decide) ?_
        refine sk_istore [(5, .int (0 : Int32)), (0, .ref p0), (3, .int s3.1), (4, .int s3.2.1)] K dX11_laysFar_75 (by decide) rfl ?_
        obtain ⟨x4, he4, hf⟩ := sk_ob hf
        have rest4 : ∀ y4, y4 = x4 → sk_G X C 6 S y4.2 163 [(0, .ref p0), (3, .int y4.1), (4, .int s3.2.1)] [] := by
          intro y4 hy
          subst hy
          refine sk_iinc (s3.2.1 - 1) [(4, .int (s3.2.1 - 1)), (0, .ref p0), (3, .int y4.1)] K dX11_laysFar_163 2 rfl (sk_dec1 _) (by decide) rfl ?_
          refine sk_goto 69 K dX11_laysFar_166 (by decide) ?_
          refine sk_sub [(0, .ref p0), (3, .int y4.1), (4, .int (s3.2.1 - 1))] [1, 2, 0] rfl ?_
          have h9 := ih3 _ (Option.some.inj hf).symm
          exact h9
        refine sk_sub [(0, .ref p0), (3, .int s3.1), (4, .int s3.2.1), (5, .int (0 : Int32))] [1, 2, 3, 0] rfl ?_
        refine sk_loop (fun s4 => sk_G X C 6 S s4.2.2 77 [(0, .ref p0), (3, .int s4.1), (4, .int s3.2.1), (5, .int s4.2.1)] []) he4 (fun s4 o4 hf ih4 hx4 => ?_)
        unfold fX11_laysFar_L77 at hf
        refine sk_iload K dX11_laysFar_77 3 rfl ?_
        refine sk_bipush (16 : Int32) K dX11_laysFar_79 (by decide) ?_
        refine sk_icmp_ge 163 K dX11_laysFar_81 (by decide) (fun h17 => ?_) (fun h17 => ?_)
        · rw [if_pos h17] at hf
          refine sk_sub [(0, .ref p0), (3, .int s4.1), (4, .int s3.2.1)] [0, 1, 2] rfl ?_
          have h9 := rest4 _ (hx4 _ (Option.some.inj hf).symm)
          exact h9
        · rw [if_neg h17] at hf
          refine sk_aload_n K dX11_laysFar_84 rfl 0 rfl ?_
          obtain ⟨v18, e19, hf⟩ := sk_ob hf
          refine sk_getR K dX11_laysFar_85 fl_X11_47 rfl e19 ?_
          refine sk_aload_n K dX11_laysFar_88 rfl 0 rfl ?_
          obtain ⟨v20, e21, hf⟩ := sk_ob hf
          refine sk_getR K dX11_laysFar_89 fl_X11_40 rfl e21 ?_
          refine sk_iload K dX11_laysFar_92 2 rfl ?_
          obtain ⟨v22, e23, hf⟩ := sk_ob hf
          refine sk_ald20 K dX11_laysFar_94 e23 ?_
          obtain ⟨v24, e25, hf⟩ := sk_ob hf
          refine sk_ald20 K dX11_laysFar_95 e25 ?_
          refine sk_if_le 163 K dX11_laysFar_96 (by decide) (fun h26 => ?_) (fun h26 => ?_)
          · rw [if_pos h26] at hf
            refine sk_sub [(0, .ref p0), (3, .int s4.1), (4, .int s3.2.1)] [0, 1, 2] rfl ?_
            have h9 := rest4 _ (hx4 _ (Option.some.inj hf).symm)
            exact h9
          · rw [if_neg h26] at hf
            refine sk_aload_n K dX11_laysFar_99 rfl 0 rfl ?_
            refine sk_aload_n K dX11_laysFar_100 rfl 0 rfl ?_
            obtain ⟨v27, e28, hf⟩ := sk_ob hf
            refine sk_getR K dX11_laysFar_101 fl_X11_40 rfl e28 ?_
            refine sk_iload K dX11_laysFar_104 2 rfl ?_
            obtain ⟨v29, e30, hf⟩ := sk_ob hf
            refine sk_ald20 K dX11_laysFar_106 e30 ?_
            refine sk_iload K dX11_laysFar_107 3 rfl ?_
            obtain ⟨h33, hf⟩ := sk_ib hf
            obtain ⟨v31, e32, hf⟩ := sk_ob hf
            refine sk_callV (As := [.int v29, .int s4.2.1]) (st := []) K dX11_laysFar_109 cl_X11_372 h33 (sX11_farBy C l e32) (by decide) rfl rfl (Nat.le_of_ble_eq_true rfl) R1 R2 ?_
            refine sk_aload_n K dX11_laysFar_112 rfl 0 rfl ?_
            obtain ⟨v34, e35, hf⟩ := sk_ob hf
            refine sk_getR K dX11_laysFar_113 fl_X11_47 rfl e35 ?_
            refine sk_aload_n K dX11_laysFar_116 rfl 0 rfl ?_
            obtain ⟨v36, e37, hf⟩ := sk_ob hf
            refine sk_getR K dX11_laysFar_117 fl_X11_40 rfl e37 ?_
            refine sk_iload K dX11_laysFar_120 2 rfl ?_
            obtain ⟨v38, e39, hf⟩ := sk_ob hf
            refine sk_ald20 K dX11_laysFar_122 e39 ?_
            obtain ⟨v40, e41, hf⟩ := sk_ob hf
            refine sk_ald20 K dX11_laysFar_123 e41 ?_
            refine sk_icmp_lt 130 K dX11_laysFar_124 (by decide) (fun h42 => ?_) (fun h42 => ?_)
            · rw [if_pos h42] at hf
              refine sk_aload_n K dX11_laysFar_130 rfl 0 rfl ?_
              obtain ⟨v43, e44, hf⟩ := sk_ob hf
              refine sk_getR K dX11_laysFar_131 fl_X11_47 rfl e44 ?_
              refine sk_aload_n K dX11_laysFar_134 rfl 0 rfl ?_
              obtain ⟨v45, e46, hf⟩ := sk_ob hf
              refine sk_getR K dX11_laysFar_135 fl_X11_40 rfl e46 ?_
              refine sk_iload K dX11_laysFar_138 2 rfl ?_
              obtain ⟨v47, e48, hf⟩ := sk_ob hf
              refine sk_ald20 K dX11_laysFar_140 e48 ?_
              refine sk_aload_n K dX11_laysFar_141 rfl 0 rfl ?_
              refine sk_aload_n K dX11_laysFar_142 rfl 0 rfl ?_
              obtain ⟨v49, e50, hf⟩ := sk_ob hf
              refine sk_getR K dX11_laysFar_143 fl_X11_40 rfl e50 ?_
              refine sk_iload K dX11_laysFar_146 2 rfl ?_
              obtain ⟨v51, e52, hf⟩ := sk_ob hf
              refine sk_ald20 K dX11_laysFar_148 e52 ?_
              refine sk_iload K dX11_laysFar_149 3 rfl ?_
              obtain ⟨h55, hf⟩ := sk_ib hf
              obtain ⟨v53, e54, hf⟩ := sk_ob hf
              refine sk_callV (As := [.int v51, .int s4.2.1]) (st := [.int v47, .ref v43]) K dX11_laysFar_151 cl_X11_372 h55 (sX11_farBy C l e54) (by decide) rfl rfl (Nat.le_of_ble_eq_true rfl) R1 R2 ?_
              obtain ⟨d56, e57, hf⟩ := sk_ob hf
              refine sk_ast20 d56 K dX11_laysFar_154 e57 ?_
              refine sk_iconst (1 : Int32) K dX11_laysFar_155 (by decide) ?_
              refine sk_istore_n [(3, .int (1 : Int32)), (0, .ref p0), (4, .int s3.2.1), (5, .int s4.2.1)] K dX11_laysFar_156 rfl (by decide) rfl ?_
              refine sk_iinc (s4.2.1 + 1) [(5, .int (s4.2.1 + 1)), (3, .int (1 : Int32)), (0, .ref p0), (4, .int s3.2.1)] K dX11_laysFar_157 3 rfl rfl (by decide) rfl ?_
              refine sk_goto 77 K dX11_laysFar_160 (by decide) ?_
              refine sk_sub [(0, .ref p0), (3, .int (1 : Int32)), (4, .int s3.2.1), (5, .int (s4.2.1 + 1))] [2, 1, 3, 0] rfl ?_
              have h9 := ih4 _ (Option.some.inj hf).symm
              exact h9
            · rw [if_neg h42] at hf
              refine sk_goto 157 K dX11_laysFar_127 (by decide) ?_
              refine sk_iinc (s4.2.1 + 1) [(5, .int (s4.2.1 + 1)), (0, .ref p0), (3, .int s4.1), (4, .int s3.2.1)] K dX11_laysFar_157 3 rfl rfl (by decide) rfl ?_
              refine sk_goto 77 K dX11_laysFar_160 (by decide) ?_
              refine sk_sub [(0, .ref p0), (3, .int s4.1), (4, .int s3.2.1), (5, .int (s4.2.1 + 1))] [1, 2, 3, 0] rfl ?_
              have h9 := ih4 _ (Option.some.inj hf).symm
              exact h9
  refine sk_sub [(0, .ref p0), (1, .int p1), (2, .int (sk_b p2)), (3, .int (0 : Int32))] [1, 2, 3, 0] rfl ?_
  refine sk_loop (fun s1 => sk_G X C 6 S s1.2 6 [(0, .ref p0), (1, .int p1), (2, .int (sk_b p2)), (3, .int s1.1)] []) he1 (fun s1 o1 hf ih1 hx1 => ?_)
  unfold fX11_laysFar_L6 at hf
  refine sk_iload_n K dX11_laysFar_6 rfl 3 rfl ?_
  refine sk_aload_n K dX11_laysFar_7 rfl 0 rfl ?_
  obtain ⟨v58, e59, hf⟩ := sk_ob hf
  refine sk_getI K dX11_laysFar_8 fl_X11_355 rfl e59 ?_
  refine sk_icmp_ge 53 K dX11_laysFar_11 (by decide) (fun h60 => ?_) (fun h60 => ?_)
  · rw [if_pos h60] at hf
    refine sk_sub [(0, .ref p0)] [0] rfl ?_
    have h9 := rest1 _ (hx1 _ (Option.some.inj hf).symm)
    exact h9
  · rw [if_neg h60] at hf
    refine sk_aload_n K dX11_laysFar_14 rfl 0 rfl ?_
    obtain ⟨v61, e62, hf⟩ := sk_ob hf
    refine sk_getR K dX11_laysFar_15 fl_X11_47 rfl e62 ?_
    refine sk_aload_n K dX11_laysFar_18 rfl 0 rfl ?_
    obtain ⟨v63, e64, hf⟩ := sk_ob hf
    refine sk_getR K dX11_laysFar_19 fl_X11_40 rfl e64 ?_
    refine sk_iload_n K dX11_laysFar_22 rfl 3 rfl ?_
    obtain ⟨v65, e66, hf⟩ := sk_ob hf
    refine sk_ald20 K dX11_laysFar_23 e66 ?_
    refine sk_aload_n K dX11_laysFar_24 rfl 0 rfl ?_
    refine sk_aload_n K dX11_laysFar_25 rfl 0 rfl ?_
    obtain ⟨v67, e68, hf⟩ := sk_ob hf
    refine sk_getR K dX11_laysFar_26 fl_X11_40 rfl e68 ?_
    refine sk_iload_n K dX11_laysFar_29 rfl 3 rfl ?_
    obtain ⟨v69, e70, hf⟩ := sk_ob hf
    refine sk_ald20 K dX11_laysFar_30 e70 ?_
    refine sk_iload_n K dX11_laysFar_31 rfl 1 rfl ?_
    refine sk_iload_n K dX11_laysFar_32 rfl 2 rfl ?_
    obtain ⟨h73, hf⟩ := sk_ib hf
    obtain ⟨v71, e72, hf⟩ := sk_ob hf
    refine sk_callV (As := [.int v69, .int p1, .int (sk_b p2)]) (st := [.int v65, .ref v61]) K dX11_laysFar_33 cl_X11_368 h73 (sX11_hasAll C l e72) (by decide) rfl rfl (Nat.le_of_ble_eq_true rfl) R1 R2 ?_
    refine sk_ifeqB 43 K dX11_laysFar_36 (by decide) (fun h74 => ?_) (fun h74 => ?_)
    · rw [if_neg h74] at hf
      refine sk_ldcw K dX11_laysFar_43 qw_1768 ?_
      obtain ⟨d75, e76, hf⟩ := sk_ob hf
      refine sk_ast20 d75 K dX11_laysFar_46 e76 ?_
      refine sk_iinc (s1.1 + 1) [(3, .int (s1.1 + 1)), (0, .ref p0), (1, .int p1), (2, .int (sk_b p2))] K dX11_laysFar_47 3 rfl rfl (by decide) rfl ?_
      refine sk_goto 6 K dX11_laysFar_50 (by decide) ?_
      refine sk_sub [(0, .ref p0), (1, .int p1), (2, .int (sk_b p2)), (3, .int (s1.1 + 1))] [1, 2, 3, 0] rfl ?_
      have h9 := ih1 _ (Option.some.inj hf).symm
      exact h9
    · rw [if_pos h74] at hf
      refine sk_iconst (0 : Int32) K dX11_laysFar_39 (by decide) ?_
      refine sk_goto 46 K dX11_laysFar_40 (by decide) ?_
      obtain ⟨d77, e78, hf⟩ := sk_ob hf
      refine sk_ast20 d77 K dX11_laysFar_46 e78 ?_
      refine sk_iinc (s1.1 + 1) [(3, .int (s1.1 + 1)), (0, .ref p0), (1, .int p1), (2, .int (sk_b p2))] K dX11_laysFar_47 3 rfl rfl (by decide) rfl ?_
      refine sk_goto 6 K dX11_laysFar_50 (by decide) ?_
      refine sk_sub [(0, .ref p0), (1, .int p1), (2, .int (sk_b p2)), (3, .int (s1.1 + 1))] [1, 2, 3, 0] rfl ?_
      have h9 := ih1 _ (Option.some.inj hf).symm
      exact h9
noncomputable def fX11_toldFar (S : sk_S) (d : sk_D) (p0 : Int32) : Option (Int32) :=
  if p0 = (268435456 : Int32) then (some (-1 : Int32)) else (some p0)
set_option maxRecDepth 100000 in
set_option maxHeartbeats 4000000 in
theorem sX11_toldFar (C : sk_C) (l : Launch) {S : sk_S} {d : sk_D} {p0 : Int32} {rr : Int32} (hf : fX11_toldFar S d p0 = some rr) : sk_Met C l 0 yX11_toldFar cX11_toldFar 1 (some .int) [.int p0] S d (some (.int rr)) S d := by
  refine sk_Met.of (by decide) (Nat.le_of_ble_eq_true rfl) (Nat.le_refl _) (Nat.le_refl _) (fun X K0 hX => ?_)
  have K : sk_Ok X C cX11_toldFar 1 RX11 "toldFar" (some .int) 0 l (some (.int rr)) S d := K0
  have R1 : X.2.2.2.2.2.2.2.2.2.2.2.1 ≤ S.1.1 ∧ X.2.2.2.2.2.2.2.2.2.2.2.2 ≤ S.1.2 := by rw [hX]; exact ⟨Nat.le_refl _, Nat.le_refl _⟩
  have R2 : S.1.1 ≤ S.1.1 ∧ S.1.2 ≤ S.1.2 := ⟨Nat.le_refl _, Nat.le_refl _⟩
  show sk_G X C 1 S d 0 [(0, .int p0)] []
  unfold fX11_toldFar at hf
  refine sk_iload_n K dX11_toldFar_0 rfl 0 rfl ?_
  refine sk_ldcw K dX11_toldFar_1 qw_1768 ?_
  refine sk_icmp_ne 11 K dX11_toldFar_4 (by decide) (fun h1 => ?_) (fun h1 => ?_)
  · rw [if_neg h1] at hf
    refine sk_iload_n K dX11_toldFar_11 rfl 0 rfl ?_
    have hR2 : p0 = rr := Option.some.inj hf
    exact sk_iret K dX11_toldFar_12 rfl rfl hR2 rfl rfl
  · rw [if_pos h1] at hf
    refine sk_iconst (-1 : Int32) K dX11_toldFar_7 (by decide) ?_
    refine sk_goto 12 K dX11_toldFar_8 (by decide) ?_
    have hR3 : (-1 : Int32) = rr := Option.some.inj hf
    exact sk_iret K dX11_toldFar_12 rfl rfl hR3 rfl rfl
noncomputable def fX11_moveAt_L31 (S : sk_S) (d : sk_D) (p0 : Nat) (t1_a : Int32) (s2 : Int32) : Option ((Int32) ⊕ (Int32)) :=
  if S.2.1 p0 = (10, 0) then ((fX11_farBy S d p0 t1_a s2).bind fun v24 => (sk_gR S p0 10 23).bind fun v27 => (sk_lI S d v27 20 t1_a).bind fun v29 => if v24 = v29 then (some (.inr s2)) else (some (.inl (s2 + 1)))) else none
noncomputable def fX11_moveAt_L7 (S : sk_S) (d : sk_D) (p0 : Nat) (p1 : Int32) (s1 : Int32 × Int32) : Option ((Int32 × Int32) ⊕ ((Int32) ⊕ (Int32))) :=
  (sk_gR S p0 10 23).bind fun v7 => (sk_lI S d v7 20 s1.1).bind fun v9 => if v9 ≤ 0 then (some (.inr (.inl (-1 : Int32)))) else ((sk_gR S p0 10 23).bind fun v13 => (sk_lI S d v13 20 s1.1).bind fun v15 => if (268435456 : Int32) ≤ v15 then (some (.inr (.inl (-1 : Int32)))) else ((sk_itr (fX11_moveAt_L31 S d p0 s1.1) (0 : Int32)).bind fun y2 => if s1.2 = p1 then (some (.inr (.inr y2))) else ((sk_gR S p0 10 22).bind fun v20 => (sk_lI S d v20 20 (((16 : Int32) * s1.1) + y2)).bind fun v22 => some (.inl (v22, s1.2 + 1)))))
noncomputable def fX11_moveAt (S : sk_S) (d : sk_D) (p0 : Nat) (p1 : Int32) : Option (Int32) :=
  if S.2.1 p0 = (10, 0) then ((fX11_standNow S d p0).bind fun v1 => (sk_itr (fX11_moveAt_L7 S d p0 p1) (v1, (0 : Int32))).bind fun x1 => (match x1 with | .inl r => some r | .inr y1 => (fX11_toldMove S d y1).bind fun v4 => some v4)) else none
set_option maxRecDepth 100000 in
set_option maxHeartbeats 4000000 in
theorem sX11_moveAt (C : sk_C) (l : Launch) {S : sk_S} {d : sk_D} {p0 : Nat} {p1 : Int32} {rr : Int32} (hf : fX11_moveAt S d p0 p1 = some rr) : sk_Met C l 1 yX11_moveAt cX11_moveAt 5 (some .int) [.ref p0, .int p1] S d (some (.int rr)) S d := by
  refine sk_Met.of (by decide) (Nat.le_of_ble_eq_true rfl) (Nat.le_refl _) (Nat.le_refl _) (fun X K0 hX => ?_)
  have K : sk_Ok X C cX11_moveAt 5 RX11 "moveAt" (some .int) 1 l (some (.int rr)) S d := K0
  have R1 : X.2.2.2.2.2.2.2.2.2.2.2.1 ≤ S.1.1 ∧ X.2.2.2.2.2.2.2.2.2.2.2.2 ≤ S.1.2 := by rw [hX]; exact ⟨Nat.le_refl _, Nat.le_refl _⟩
  have R2 : S.1.1 ≤ S.1.1 ∧ S.1.2 ≤ S.1.2 := ⟨Nat.le_refl _, Nat.le_refl _⟩
  show sk_G X C 5 S d 0 [(0, .ref p0), (1, .int p1)] []
  unfold fX11_moveAt at hf
  refine sk_aload_n K dX11_moveAt_0 rfl 0 rfl ?_
  obtain ⟨h3, hf⟩ := sk_ib hf
  obtain ⟨v1, e2, hf⟩ := sk_ob hf
  refine sk_callV (As := []) (st := []) K dX11_moveAt_1 cl_X11_270 h3 (sX11_standNow C l e2) (by decide) rfl rfl (Nat.le_of_ble_eq_true rfl) R1 R2 ?_
  refine sk_istore_n [(2, .int v1), (0, .ref p0), (1, .int p1)] K dX11_moveAt_4 rfl (by decide) rfl ?_
  refine sk_iconst (0 : Int32) K dX11_moveAt_5 (by decide) ?_
  refine sk_istore_n [(3, .int (0 : Int32)), (2, .int v1), (0, .ref p0), (1, .int p1)] K dX11_moveAt_6 rfl (by decide) rfl ?_
  obtain ⟨x1, he1, hf⟩ := sk_ob hf
  have hret1 : ∀ r, .inl r = x1 → r = rr := by
    intro r hr
    subst hr
    exact Option.some.inj hf
  have rest1 : ∀ y1, .inr y1 = x1 → sk_G X C 5 S d 58 [(4, .int y1)] [] := by
    intro y1 hy
    subst hy
    dsimp only at hf
    refine sk_iload K dX11_moveAt_58 0 rfl ?_
    obtain ⟨v4, e5, hf⟩ := sk_ob hf
    refine sk_callS (As := [.int y1]) (st := []) K dX11_moveAt_60 cl_X11_375 (sX11_toldMove C l e5) (by decide) rfl rfl (Nat.le_of_ble_eq_true rfl) R1 R2 ?_
    have hR6 : v4 = rr := Option.some.inj hf
    exact sk_iret K dX11_moveAt_63 rfl rfl hR6 rfl rfl
  refine sk_sub [(0, .ref p0), (1, .int p1), (2, .int v1), (3, .int (0 : Int32))] [2, 3, 1, 0] rfl ?_
  refine sk_loop (fun s1 => sk_G X C 5 S d 7 [(0, .ref p0), (1, .int p1), (2, .int s1.1), (3, .int s1.2)] []) he1 (fun s1 o1 hf ih1 hx1 => ?_)
  unfold fX11_moveAt_L7 at hf
  refine sk_aload_n K dX11_moveAt_7 rfl 0 rfl ?_
  obtain ⟨v7, e8, hf⟩ := sk_ob hf
  refine sk_getR K dX11_moveAt_8 fl_X11_47 rfl e8 ?_
  refine sk_iload_n K dX11_moveAt_11 rfl 2 rfl ?_
  obtain ⟨v9, e10, hf⟩ := sk_ob hf
  refine sk_ald20 K dX11_moveAt_12 e10 ?_
  refine sk_if_le 83 K dX11_moveAt_13 (by decide) (fun h11 => ?_) (fun h11 => ?_)
  · rw [if_pos h11] at hf
    refine sk_iconst (-1 : Int32) K dX11_moveAt_83 (by decide) ?_
    have hR12 : (-1 : Int32) = rr := hret1 _ (hx1 _ (Option.some.inj hf).symm)
    exact sk_iret K dX11_moveAt_84 rfl rfl hR12 rfl rfl
  · rw [if_neg h11] at hf
    refine sk_aload_n K dX11_moveAt_16 rfl 0 rfl ?_
    obtain ⟨v13, e14, hf⟩ := sk_ob hf
    refine sk_getR K dX11_moveAt_17 fl_X11_47 rfl e14 ?_
    refine sk_iload_n K dX11_moveAt_20 rfl 2 rfl ?_
    obtain ⟨v15, e16, hf⟩ := sk_ob hf
    refine sk_ald20 K dX11_moveAt_21 e16 ?_
    refine sk_ldcw K dX11_moveAt_22 qw_1768 ?_
    refine sk_icmp_ge 83 K dX11_moveAt_25 (by decide) (fun h17 => ?_) (fun h17 => ?_)
    · rw [if_pos h17] at hf
      refine sk_iconst (-1 : Int32) K dX11_moveAt_83 (by decide) ?_
      have hR18 : (-1 : Int32) = rr := hret1 _ (hx1 _ (Option.some.inj hf).symm)
      exact sk_iret K dX11_moveAt_84 rfl rfl hR18 rfl rfl
    · rw [if_neg h17] at hf
      refine sk_iconst (0 : Int32) K dX11_moveAt_28 (by decide) ?_
      refine sk_istore [(4, .int (0 : Int32)), (0, .ref p0), (1, .int p1), (2, .int s1.1), (3, .int s1.2)] K dX11_moveAt_29 (by decide) rfl ?_
      obtain ⟨x2, he2, hf⟩ := sk_ob hf
      have rest2 : ∀ y2, y2 = x2 → sk_G X C 5 S d 53 [(0, .ref p0), (1, .int p1), (2, .int s1.1), (3, .int s1.2), (4, .int y2)] [] := by
        intro y2 hy
        subst hy
        refine sk_iload_n K dX11_moveAt_53 rfl 3 rfl ?_
        refine sk_iload_n K dX11_moveAt_54 rfl 1 rfl ?_
        refine sk_icmp_ne 64 K dX11_moveAt_55 (by decide) (fun h19 => ?_) (fun h19 => ?_)
        · rw [if_neg h19] at hf
          refine sk_aload_n K dX11_moveAt_64 rfl 0 rfl ?_
          obtain ⟨v20, e21, hf⟩ := sk_ob hf
          refine sk_getR K dX11_moveAt_65 fl_X11_44 rfl e21 ?_
          refine sk_bipush (16 : Int32) K dX11_moveAt_68 (by decide) ?_
          refine sk_iload_n K dX11_moveAt_70 rfl 2 rfl ?_
          refine sk_imul K dX11_moveAt_71 ?_
          refine sk_iload K dX11_moveAt_72 4 rfl ?_
          refine sk_iadd K dX11_moveAt_74 ?_
          obtain ⟨v22, e23, hf⟩ := sk_ob hf
          refine sk_ald20 K dX11_moveAt_75 e23 ?_
          refine sk_istore_n [(2, .int v22), (0, .ref p0), (1, .int p1), (3, .int s1.2), (4, .int y2)] K dX11_moveAt_76 rfl (by decide) rfl ?_
          refine sk_iinc (s1.2 + 1) [(3, .int (s1.2 + 1)), (2, .int v22), (0, .ref p0), (1, .int p1), (4, .int y2)] K dX11_moveAt_77 3 rfl rfl (by decide) rfl ?_
          refine sk_goto 7 K dX11_moveAt_80 (by decide) ?_
          refine sk_sub [(0, .ref p0), (1, .int p1), (2, .int v22), (3, .int (s1.2 + 1))] [2, 3, 1, 0] rfl ?_
          have h9 := ih1 _ (Option.some.inj hf).symm
          exact h9
        · rw [if_pos h19] at hf
          refine sk_sub [(4, .int y2)] [4] rfl ?_
          have h9 := rest1 _ (hx1 _ (Option.some.inj hf).symm)
          exact h9
      refine sk_sub [(0, .ref p0), (1, .int p1), (2, .int s1.1), (3, .int s1.2), (4, .int (0 : Int32))] [1, 2, 3, 4, 0] rfl ?_
      refine sk_loop (fun s2 => sk_G X C 5 S d 31 [(0, .ref p0), (1, .int p1), (2, .int s1.1), (3, .int s1.2), (4, .int s2)] []) he2 (fun s2 o2 hf ih2 hx2 => ?_)
      unfold fX11_moveAt_L31 at hf
      refine sk_aload_n K dX11_moveAt_31 rfl 0 rfl ?_
      refine sk_iload_n K dX11_moveAt_32 rfl 2 rfl ?_
      refine sk_iload K dX11_moveAt_33 4 rfl ?_
      obtain ⟨h26, hf⟩ := sk_ib hf
      obtain ⟨v24, e25, hf⟩ := sk_ob hf
      refine sk_callV (As := [.int s1.1, .int s2]) (st := []) K dX11_moveAt_35 cl_X11_372 h26 (sX11_farBy C l e25) (by decide) rfl rfl (Nat.le_of_ble_eq_true rfl) R1 R2 ?_
      refine sk_aload_n K dX11_moveAt_38 rfl 0 rfl ?_
      obtain ⟨v27, e28, hf⟩ := sk_ob hf
      refine sk_getR K dX11_moveAt_39 fl_X11_47 rfl e28 ?_
      refine sk_iload_n K dX11_moveAt_42 rfl 2 rfl ?_
      obtain ⟨v29, e30, hf⟩ := sk_ob hf
      refine sk_ald20 K dX11_moveAt_43 e30 ?_
      refine sk_icmp_eq 53 K dX11_moveAt_44 (by decide) (fun h31 => ?_) (fun h31 => ?_)
      · rw [if_pos h31] at hf
        refine sk_sub [(0, .ref p0), (1, .int p1), (2, .int s1.1), (3, .int s1.2), (4, .int s2)] [0, 1, 2, 3, 4] rfl ?_
        have h9 := rest2 _ (hx2 _ (Option.some.inj hf).symm)
        exact h9
      · rw [if_neg h31] at hf
        refine sk_iinc (s2 + 1) [(4, .int (s2 + 1)), (0, .ref p0), (1, .int p1), (2, .int s1.1), (3, .int s1.2)] K dX11_moveAt_47 4 rfl rfl (by decide) rfl ?_
        refine sk_goto 31 K dX11_moveAt_50 (by decide) ?_
        refine sk_sub [(0, .ref p0), (1, .int p1), (2, .int s1.1), (3, .int s1.2), (4, .int (s2 + 1))] [1, 2, 3, 4, 0] rfl ?_
        have h9 := ih2 _ (Option.some.inj hf).symm
        exact h9
noncomputable def fX11_comes (S : sk_S) (d : sk_D) (p0 : Nat) (p1 : Int32) (p2 : Bool) : Option (Int32 × sk_D) :=
  if S.2.1 p0 = (10, 0) then ((fX11_isSet S d p0 p1).bind fun v1 => if v1 = true then (if S.2.1 p0 = (10, 0) then ((fX11_laysFar S d p0 p1 p2).bind fun b10 => (fX11_toldFar S b10.2 b10.1).bind fun v11 => some (v11, b10.2)) else none) else (some ((-3 : Int32), d))) else none
set_option maxRecDepth 100000 in
set_option maxHeartbeats 4000000 in
theorem sX11_comes (C : sk_C) (l : Launch) {S : sk_S} {d : sk_D} {p0 : Nat} {p1 : Int32} {p2 : Bool} {rr : Int32} {dd : sk_D} (hf : fX11_comes S d p0 p1 p2 = some (rr, dd)) : sk_Met C l 9 yX11_comes cX11_comes 3 (some .int) [.ref p0, .int p1, .int (sk_b p2)] S d (some (.int rr)) S dd := by
  refine sk_Met.of (by decide) (Nat.le_of_ble_eq_true rfl) (Nat.le_refl _) (Nat.le_refl _) (fun X K0 hX => ?_)
  have K : sk_Ok X C cX11_comes 3 RX11 "comes" (some .int) 9 l (some (.int rr)) S dd := K0
  have R1 : X.2.2.2.2.2.2.2.2.2.2.2.1 ≤ S.1.1 ∧ X.2.2.2.2.2.2.2.2.2.2.2.2 ≤ S.1.2 := by rw [hX]; exact ⟨Nat.le_refl _, Nat.le_refl _⟩
  have R2 : S.1.1 ≤ S.1.1 ∧ S.1.2 ≤ S.1.2 := ⟨Nat.le_refl _, Nat.le_refl _⟩
  show sk_G X C 3 S d 0 [(0, .ref p0), (1, .int p1), (2, .int (sk_b p2))] []
  unfold fX11_comes at hf
  refine sk_aload_n K dX11_comes_0 rfl 0 rfl ?_
  refine sk_iload_n K dX11_comes_1 rfl 1 rfl ?_
  obtain ⟨h3, hf⟩ := sk_ib hf
  obtain ⟨v1, e2, hf⟩ := sk_ob hf
  refine sk_callV (As := [.int p1]) (st := []) K dX11_comes_2 cl_X11_378 h3 (sX11_isSet C l e2) (by decide) rfl rfl (Nat.le_of_ble_eq_true rfl) R1 R2 ?_
  refine sk_ifeqB 20 K dX11_comes_5 (by decide) (fun h4 => ?_) (fun h4 => ?_)
  · rw [if_neg h4] at hf
    refine sk_bipush (-3 : Int32) K dX11_comes_20 (by decide) ?_
    have hR5 : ((-3 : Int32), d) = (rr, dd) := Option.some.inj hf
    exact sk_iret K dX11_comes_22 rfl rfl (congrArg (fun z => z.1) hR5) rfl (congrArg (fun z => z.2) hR5)
  · rw [if_pos h4] at hf
    refine sk_aload_n K dX11_comes_8 rfl 0 rfl ?_
    refine sk_iload_n K dX11_comes_9 rfl 1 rfl ?_
    refine sk_iload_n K dX11_comes_10 rfl 2 rfl ?_
    obtain ⟨h9, hf⟩ := sk_ib hf
    obtain ⟨⟨v6, d8⟩, e7, hf⟩ := sk_ob hf
    try dsimp only at hf
    refine sk_callV (As := [.int p1, .int (sk_b p2)]) (st := []) K dX11_comes_11 cl_X11_381 h9 (sX11_laysFar C l e7) (by decide) rfl rfl (Nat.le_of_ble_eq_true rfl) R1 R2 ?_
    obtain ⟨v11, e12, hf⟩ := sk_ob hf
    refine sk_callS (As := [.int v6]) (st := []) K dX11_comes_14 cl_X11_385 (sX11_toldFar C l e12) (by decide) rfl rfl (Nat.le_of_ble_eq_true rfl) R1 R2 ?_
    refine sk_goto 22 K dX11_comes_17 (by decide) ?_
    have hR13 : (v11, d8) = (rr, dd) := Option.some.inj hf
    exact sk_iret K dX11_comes_22 rfl rfl (congrArg (fun z => z.1) hR13) rfl (congrArg (fun z => z.2) hR13)
noncomputable def fX11_comesBy (S : sk_S) (d : sk_D) (p0 : Nat) (p1 : Int32) (p2 : Int32) (p3 : Bool) : Option (Int32 × sk_D) :=
  if S.2.1 p0 = (10, 0) then ((fX11_isSet S d p0 p1).bind fun v1 => if v1 = true then (if 0 ≤ p2 then (if S.2.1 p0 = (10, 0) then ((fX11_laysFar S d p0 p1 p3).bind fun b11 => if S.2.1 p0 = (10, 0) then ((fX11_moveAt S b11.2 p0 p2).bind fun v12 => some (v12, b11.2)) else none) else none) else (some ((-3 : Int32), d))) else (some ((-3 : Int32), d))) else none
set_option maxRecDepth 100000 in
set_option maxHeartbeats 4000000 in
theorem sX11_comesBy (C : sk_C) (l : Launch) {S : sk_S} {d : sk_D} {p0 : Nat} {p1 : Int32} {p2 : Int32} {p3 : Bool} {rr : Int32} {dd : sk_D} (hf : fX11_comesBy S d p0 p1 p2 p3 = some (rr, dd)) : sk_Met C l 9 yX11_comesBy cX11_comesBy 4 (some .int) [.ref p0, .int p1, .int p2, .int (sk_b p3)] S d (some (.int rr)) S dd := by
  refine sk_Met.of (by decide) (Nat.le_of_ble_eq_true rfl) (Nat.le_refl _) (Nat.le_refl _) (fun X K0 hX => ?_)
  have K : sk_Ok X C cX11_comesBy 4 RX11 "comesBy" (some .int) 9 l (some (.int rr)) S dd := K0
  have R1 : X.2.2.2.2.2.2.2.2.2.2.2.1 ≤ S.1.1 ∧ X.2.2.2.2.2.2.2.2.2.2.2.2 ≤ S.1.2 := by rw [hX]; exact ⟨Nat.le_refl _, Nat.le_refl _⟩
  have R2 : S.1.1 ≤ S.1.1 ∧ S.1.2 ≤ S.1.2 := ⟨Nat.le_refl _, Nat.le_refl _⟩
  show sk_G X C 4 S d 0 [(0, .ref p0), (1, .int p1), (2, .int p2), (3, .int (sk_b p3))] []
  unfold fX11_comesBy at hf
  refine sk_aload_n K dX11_comesBy_0 rfl 0 rfl ?_
  refine sk_iload_n K dX11_comesBy_1 rfl 1 rfl ?_
  obtain ⟨h3, hf⟩ := sk_ib hf
  obtain ⟨v1, e2, hf⟩ := sk_ob hf
  refine sk_callV (As := [.int p1]) (st := []) K dX11_comesBy_2 cl_X11_378 h3 (sX11_isSet C l e2) (by decide) rfl rfl (Nat.le_of_ble_eq_true rfl) R1 R2 ?_
  refine sk_ifeqB 12 K dX11_comesBy_5 (by decide) (fun h4 => ?_) (fun h4 => ?_)
  · rw [if_neg h4] at hf
    refine sk_bipush (-3 : Int32) K dX11_comesBy_12 (by decide) ?_
    have hR5 : ((-3 : Int32), d) = (rr, dd) := Option.some.inj hf
    exact sk_iret K dX11_comesBy_14 rfl rfl (congrArg (fun z => z.1) hR5) rfl (congrArg (fun z => z.2) hR5)
  · rw [if_pos h4] at hf
    refine sk_iload_n K dX11_comesBy_8 rfl 2 rfl ?_
    refine sk_if_ge 15 K dX11_comesBy_9 (by decide) (fun h6 => ?_) (fun h6 => ?_)
    · rw [if_pos h6] at hf
      refine sk_aload_n K dX11_comesBy_15 rfl 0 rfl ?_
      refine sk_iload_n K dX11_comesBy_16 rfl 1 rfl ?_
      refine sk_iload_n K dX11_comesBy_17 rfl 3 rfl ?_
      obtain ⟨h10, hf⟩ := sk_ib hf
      obtain ⟨⟨v7, d9⟩, e8, hf⟩ := sk_ob hf
      try dsimp only at hf
      refine sk_callV (As := [.int p1, .int (sk_b p3)]) (st := []) K dX11_comesBy_18 cl_X11_381 h10 (sX11_laysFar C l e8) (by decide) rfl rfl (Nat.le_of_ble_eq_true rfl) R1 R2 ?_
      refine sk_pop K dX11_comesBy_21 rfl ?_
      refine sk_aload_n K dX11_comesBy_22 rfl 0 rfl ?_
      refine sk_iload_n K dX11_comesBy_23 rfl 2 rfl ?_
      obtain ⟨h14, hf⟩ := sk_ib hf
      obtain ⟨v12, e13, hf⟩ := sk_ob hf
      refine sk_callV (As := [.int p2]) (st := []) K dX11_comesBy_24 cl_X11_388 h14 (sX11_moveAt C l e13) (by decide) rfl rfl (Nat.le_of_ble_eq_true rfl) R1 R2 ?_
      have hR15 : (v12, d9) = (rr, dd) := Option.some.inj hf
      exact sk_iret K dX11_comesBy_27 rfl rfl (congrArg (fun z => z.1) hR15) rfl (congrArg (fun z => z.2) hR15)
    · rw [if_neg h6] at hf
      refine sk_bipush (-3 : Int32) K dX11_comesBy_12 (by decide) ?_
      have hR16 : ((-3 : Int32), d) = (rr, dd) := Option.some.inj hf
      exact sk_iret K dX11_comesBy_14 rfl rfl (congrArg (fun z => z.1) hR16) rfl (congrArg (fun z => z.2) hR16)
