noncomputable def fX10_soonest (S : sk_S) (d : sk_D) (p0 : Nat) (p1 : Int32) : Option (Int32 × sk_S × sk_D) :=
  (sk_gR S p0 9 0).bind fun v1 => (sk_gR S v1 8 0).bind fun v3 => if S.2.1 v3 = (2, 0) then ((fX2_hasAll S d v3 p1).bind fun v5 => if v5 = true then ((sk_gR S p0 9 2).bind fun v9 => (sk_gR S p0 9 2).bind fun v11 => (sk_gR S p0 9 0).bind fun v13 => (sk_gR S p0 9 5).bind fun v15 => (sk_gI S d v15 4 1).bind fun v17 => (fX10_stateIn S d v17).bind fun v19 => if S.2.1 v11 = (7, 0) then ((fX8_toDone S d v11 v13 v19 p1).bind fun b26 => if b26.2.1.2.1 v9 = (7, 0) then ((fX8_length b26.2.1 b26.2.2 v9 b26.1).bind fun v27 => some (v27, b26.2.1, b26.2.2)) else none) else none) else (some ((-3 : Int32), S, d))) else none
theorem monoX10_soonest (S : sk_S) (d : sk_D) (p0 : Nat) (p1 : Int32) : sk_Mo S.1 (fun (z : Int32 × sk_S × sk_D) => z.2.1.1) (fX10_soonest S d p0 p1) := by
  unfold fX10_soonest
  repeat' (first | exact mo_none | exact mo_some ⟨Nat.le_refl _, Nat.le_refl _⟩ | refine mo_pR (fun _ => ?_) | refine mo_mk (fun _ => ?_) | refine mo_sR24 (fun _ => ?_) | refine mo_sR25 (fun _ => ?_) | refine mo_A ⟨Nat.le_refl _, Nat.le_refl _⟩ (monoX8_toDone _ _ _ _ _ _) (fun _ => ?_) | refine mo_A (sk_nS_le _ _ _ _) (monoX8_toDone _ _ _ _ _ _) (fun _ => ?_) | refine mo_ite ?_ ?_ | refine mo_bind (fun _ => ?_) | dsimp only | split)
set_option maxRecDepth 100000 in
set_option maxHeartbeats 4000000 in
theorem sX10_soonest (C : sk_C) (l : Launch) {S : sk_S} {d : sk_D} {p0 : Nat} {p1 : Int32} {rr : Int32} {SS : sk_S} {dd : sk_D} (hf : fX10_soonest S d p0 p1 = some (rr, SS, dd)) : sk_Met C l 6 yX10_soonest cX10_soonest 2 (some .int) [.ref p0, .int p1] S d (some (.int rr)) SS dd := by
  have hmono := mo_use (n := S.1) (pr := (fun (z : Int32 × sk_S × sk_D) => z.2.1.1)) hf (monoX10_soonest S d p0 p1)
  refine sk_Met.of (by decide) (Nat.le_of_ble_eq_true rfl) hmono.1 hmono.2 (fun X K0 hX => ?_)
  have K : sk_Ok X C cX10_soonest 2 RX10 "soonest" (some .int) 6 l (some (.int rr)) SS dd := K0
  have R1 : X.2.2.2.2.2.2.2.2.2.2.2.1 ≤ S.1.1 ∧ X.2.2.2.2.2.2.2.2.2.2.2.2 ≤ S.1.2 := by rw [hX]; exact ⟨Nat.le_refl _, Nat.le_refl _⟩
  have R2 : S.1.1 ≤ SS.1.1 ∧ S.1.2 ≤ SS.1.2 := hmono
  show sk_G X C 2 S d 0 [(0, .ref p0), (1, .int p1)] []
  unfold fX10_soonest at hf
  refine sk_aload_n K dX10_soonest_0 rfl 0 rfl ?_
  obtain ⟨v1, e2, hf⟩ := sk_ob hf
  refine sk_getR K dX10_soonest_1 fl_X10_10 rfl e2 ?_
  obtain ⟨v3, e4, hf⟩ := sk_ob hf
  refine sk_getR K dX10_soonest_4 fl_X10_98 rfl e4 ?_
  refine sk_iload_n K dX10_soonest_7 rfl 1 rfl ?_
  obtain ⟨h7, hf⟩ := sk_ib hf
  obtain ⟨v5, e6, hf⟩ := sk_ob hf
  refine sk_callV (As := [.int p1]) (st := []) K dX10_soonest_8 cl_X10_224 h7 (sX2_hasAll C l e6) (by decide) rfl rfl (Nat.le_of_ble_eq_true rfl) R1 R2 ?_
  refine sk_ifneB 17 K dX10_soonest_11 (by decide) (fun h8 => ?_) (fun h8 => ?_)
  · rw [if_pos h8] at hf
    refine sk_aload_n K dX10_soonest_17 rfl 0 rfl ?_
    obtain ⟨v9, e10, hf⟩ := sk_ob hf
    refine sk_getR K dX10_soonest_18 fl_X10_26 rfl e10 ?_
    refine sk_aload_n K dX10_soonest_21 rfl 0 rfl ?_
    obtain ⟨v11, e12, hf⟩ := sk_ob hf
    refine sk_getR K dX10_soonest_22 fl_X10_26 rfl e12 ?_
    refine sk_aload_n K dX10_soonest_25 rfl 0 rfl ?_
    obtain ⟨v13, e14, hf⟩ := sk_ob hf
    refine sk_getR K dX10_soonest_26 fl_X10_10 rfl e14 ?_
    refine sk_aload_n K dX10_soonest_29 rfl 0 rfl ?_
    obtain ⟨v15, e16, hf⟩ := sk_ob hf
    refine sk_getR K dX10_soonest_30 fl_X10_47 rfl e16 ?_
    obtain ⟨v17, e18, hf⟩ := sk_ob hf
    refine sk_getI K dX10_soonest_33 fl_X10_120 rfl e18 ?_
    obtain ⟨v19, e20, hf⟩ := sk_ob hf
    refine sk_callS (As := [.int v17]) (st := [.ref v13, .ref v11, .ref v9]) K dX10_soonest_36 cl_X10_227 (sX10_stateIn C l e20) (by decide) rfl rfl (Nat.le_of_ble_eq_true rfl) R1 R2 ?_
    refine sk_iload_n K dX10_soonest_39 rfl 1 rfl ?_
    obtain ⟨h25, hf⟩ := sk_ib hf
    obtain ⟨⟨v21, S23, d24⟩, e22, hf⟩ := sk_ob hf
    try dsimp only at hf
    have R1_S23 := sk_le_tr R1 (mo_use (pr := (fun (z : Int32 × sk_S × sk_D) => z.2.1.1)) e22 (monoX8_toDone _ _ _ _ _ _))
    have R2_S23 : S23.1.1 ≤ SS.1.1 ∧ S23.1.2 ≤ SS.1.2 := mo_use (n := S23.1) (pr := (fun (z : Int32 × sk_S × sk_D) => z.2.1.1)) hf (by repeat' (first | exact mo_none | exact mo_some ⟨Nat.le_refl _, Nat.le_refl _⟩ | refine mo_pR (fun _ => ?_) | refine mo_mk (fun _ => ?_) | refine mo_sR24 (fun _ => ?_) | refine mo_sR25 (fun _ => ?_) | refine mo_A ⟨Nat.le_refl _, Nat.le_refl _⟩ (monoX8_toDone _ _ _ _ _ _) (fun _ => ?_) | refine mo_A (sk_nS_le _ _ _ _) (monoX8_toDone _ _ _ _ _ _) (fun _ => ?_) | refine mo_ite ?_ ?_ | refine mo_bind (fun _ => ?_) | dsimp only | split))
    refine sk_callV (As := [.ref v13, .int v19, .int p1]) (st := [.ref v9]) K dX10_soonest_40 cl_X10_230 h25 (sX8_toDone C l e22) (by decide) rfl rfl (Nat.le_of_ble_eq_true rfl) R1 R2_S23 ?_
    obtain ⟨h29, hf⟩ := sk_ib hf
    obtain ⟨v27, e28, hf⟩ := sk_ob hf
    refine sk_callV (As := [.int v21]) (st := []) K dX10_soonest_43 cl_X10_234 h29 (sX8_length C l e28) (by decide) rfl rfl (Nat.le_of_ble_eq_true rfl) R1_S23 R2_S23 ?_
    have hR30 : (v27, S23, d24) = (rr, SS, dd) := Option.some.inj hf
    exact sk_iret K dX10_soonest_46 rfl rfl (congrArg (fun z => z.1) hR30) (congrArg (fun z => z.2.1) hR30) (congrArg (fun z => z.2.2) hR30)
  · rw [if_neg h8] at hf
    refine sk_bipush (-3 : Int32) K dX10_soonest_14 (by decide) ?_
    have hR31 : ((-3 : Int32), S, d) = (rr, SS, dd) := Option.some.inj hf
    exact sk_iret K dX10_soonest_16 rfl rfl (congrArg (fun z => z.1) hR31) (congrArg (fun z => z.2.1) hR31) (congrArg (fun z => z.2.2) hR31)
noncomputable def fX10_way (S : sk_S) (d : sk_D) (p0 : Nat) (p1 : Int32) (p2 : Int32) : Option (Int32 × sk_S × sk_D) :=
  (sk_gR S p0 9 0).bind fun v1 => (sk_gR S v1 8 0).bind fun v3 => if S.2.1 v3 = (2, 0) then ((fX2_hasAll S d v3 p1).bind fun v5 => if v5 = true then (if 0 ≤ p2 then ((sk_gR S p0 9 2).bind fun v11 => (sk_gR S p0 9 2).bind fun v13 => (sk_gR S p0 9 0).bind fun v15 => (sk_gR S p0 9 5).bind fun v17 => (sk_gI S d v17 4 1).bind fun v19 => (fX10_stateIn S d v19).bind fun v21 => if S.2.1 v13 = (7, 0) then ((fX8_toDone S d v13 v15 v21 p1).bind fun b28 => if b28.2.1.2.1 v11 = (7, 0) then ((fX8_deedAt b28.2.1 b28.2.2 v11 b28.1 p2).bind fun v29 => some (v29, b28.2.1, b28.2.2)) else none) else none) else (some ((-3 : Int32), S, d))) else (some ((-3 : Int32), S, d))) else none
theorem monoX10_way (S : sk_S) (d : sk_D) (p0 : Nat) (p1 : Int32) (p2 : Int32) : sk_Mo S.1 (fun (z : Int32 × sk_S × sk_D) => z.2.1.1) (fX10_way S d p0 p1 p2) := by
  unfold fX10_way
  repeat' (first | exact mo_none | exact mo_some ⟨Nat.le_refl _, Nat.le_refl _⟩ | refine mo_pR (fun _ => ?_) | refine mo_mk (fun _ => ?_) | refine mo_sR24 (fun _ => ?_) | refine mo_sR25 (fun _ => ?_) | refine mo_A ⟨Nat.le_refl _, Nat.le_refl _⟩ (monoX8_toDone _ _ _ _ _ _) (fun _ => ?_) | refine mo_A (sk_nS_le _ _ _ _) (monoX8_toDone _ _ _ _ _ _) (fun _ => ?_) | refine mo_ite ?_ ?_ | refine mo_bind (fun _ => ?_) | dsimp only | split)
set_option maxRecDepth 100000 in
set_option maxHeartbeats 4000000 in
theorem sX10_way (C : sk_C) (l : Launch) {S : sk_S} {d : sk_D} {p0 : Nat} {p1 : Int32} {p2 : Int32} {rr : Int32} {SS : sk_S} {dd : sk_D} (hf : fX10_way S d p0 p1 p2 = some (rr, SS, dd)) : sk_Met C l 6 yX10_way cX10_way 3 (some .int) [.ref p0, .int p1, .int p2] S d (some (.int rr)) SS dd := by
  have hmono := mo_use (n := S.1) (pr := (fun (z : Int32 × sk_S × sk_D) => z.2.1.1)) hf (monoX10_way S d p0 p1 p2)
  refine sk_Met.of (by decide) (Nat.le_of_ble_eq_true rfl) hmono.1 hmono.2 (fun X K0 hX => ?_)
  have K : sk_Ok X C cX10_way 3 RX10 "way" (some .int) 6 l (some (.int rr)) SS dd := K0
  have R1 : X.2.2.2.2.2.2.2.2.2.2.2.1 ≤ S.1.1 ∧ X.2.2.2.2.2.2.2.2.2.2.2.2 ≤ S.1.2 := by rw [hX]; exact ⟨Nat.le_refl _, Nat.le_refl _⟩
  have R2 : S.1.1 ≤ SS.1.1 ∧ S.1.2 ≤ SS.1.2 := hmono
  show sk_G X C 3 S d 0 [(0, .ref p0), (1, .int p1), (2, .int p2)] []
  unfold fX10_way at hf
  refine sk_aload_n K dX10_way_0 rfl 0 rfl ?_
  obtain ⟨v1, e2, hf⟩ := sk_ob hf
  refine sk_getR K dX10_way_1 fl_X10_10 rfl e2 ?_
  obtain ⟨v3, e4, hf⟩ := sk_ob hf
  refine sk_getR K dX10_way_4 fl_X10_98 rfl e4 ?_
  refine sk_iload_n K dX10_way_7 rfl 1 rfl ?_
  obtain ⟨h7, hf⟩ := sk_ib hf
  obtain ⟨v5, e6, hf⟩ := sk_ob hf
  refine sk_callV (As := [.int p1]) (st := []) K dX10_way_8 cl_X10_224 h7 (sX2_hasAll C l e6) (by decide) rfl rfl (Nat.le_of_ble_eq_true rfl) R1 R2 ?_
  refine sk_ifeqB 18 K dX10_way_11 (by decide) (fun h8 => ?_) (fun h8 => ?_)
  · rw [if_neg h8] at hf
    refine sk_bipush (-3 : Int32) K dX10_way_18 (by decide) ?_
    have hR9 : ((-3 : Int32), S, d) = (rr, SS, dd) := Option.some.inj hf
    exact sk_iret K dX10_way_20 rfl rfl (congrArg (fun z => z.1) hR9) (congrArg (fun z => z.2.1) hR9) (congrArg (fun z => z.2.2) hR9)
  · rw [if_pos h8] at hf
    refine sk_iload_n K dX10_way_14 rfl 2 rfl ?_
    refine sk_if_ge 21 K dX10_way_15 (by decide) (fun h10 => ?_) (fun h10 => ?_)
    · rw [if_pos h10] at hf
      refine sk_aload_n K dX10_way_21 rfl 0 rfl ?_
      obtain ⟨v11, e12, hf⟩ := sk_ob hf
      refine sk_getR K dX10_way_22 fl_X10_26 rfl e12 ?_
      refine sk_aload_n K dX10_way_25 rfl 0 rfl ?_
      obtain ⟨v13, e14, hf⟩ := sk_ob hf
      refine sk_getR K dX10_way_26 fl_X10_26 rfl e14 ?_
      refine sk_aload_n K dX10_way_29 rfl 0 rfl ?_
      obtain ⟨v15, e16, hf⟩ := sk_ob hf
      refine sk_getR K dX10_way_30 fl_X10_10 rfl e16 ?_
      refine sk_aload_n K dX10_way_33 rfl 0 rfl ?_
      obtain ⟨v17, e18, hf⟩ := sk_ob hf
      refine sk_getR K dX10_way_34 fl_X10_47 rfl e18 ?_
      obtain ⟨v19, e20, hf⟩ := sk_ob hf
      refine sk_getI K dX10_way_37 fl_X10_120 rfl e20 ?_
      obtain ⟨v21, e22, hf⟩ := sk_ob hf
      refine sk_callS (As := [.int v19]) (st := [.ref v15, .ref v13, .ref v11]) K dX10_way_40 cl_X10_227 (sX10_stateIn C l e22) (by decide) rfl rfl (Nat.le_of_ble_eq_true rfl) R1 R2 ?_
      refine sk_iload_n K dX10_way_43 rfl 1 rfl ?_
      obtain ⟨h27, hf⟩ := sk_ib hf
      obtain ⟨⟨v23, S25, d26⟩, e24, hf⟩ := sk_ob hf
      try dsimp only at hf
      have R1_S25 := sk_le_tr R1 (mo_use (pr := (fun (z : Int32 × sk_S × sk_D) => z.2.1.1)) e24 (monoX8_toDone _ _ _ _ _ _))
      have R2_S25 : S25.1.1 ≤ SS.1.1 ∧ S25.1.2 ≤ SS.1.2 := mo_use (n := S25.1) (pr := (fun (z : Int32 × sk_S × sk_D) => z.2.1.1)) hf (by repeat' (first | exact mo_none | exact mo_some ⟨Nat.le_refl _, Nat.le_refl _⟩ | refine mo_pR (fun _ => ?_) | refine mo_mk (fun _ => ?_) | refine mo_sR24 (fun _ => ?_) | refine mo_sR25 (fun _ => ?_) | refine mo_A ⟨Nat.le_refl _, Nat.le_refl _⟩ (monoX8_toDone _ _ _ _ _ _) (fun _ => ?_) | refine mo_A (sk_nS_le _ _ _ _) (monoX8_toDone _ _ _ _ _ _) (fun _ => ?_) | refine mo_ite ?_ ?_ | refine mo_bind (fun _ => ?_) | dsimp only | split))
      refine sk_callV (As := [.ref v15, .int v21, .int p1]) (st := [.ref v11]) K dX10_way_44 cl_X10_230 h27 (sX8_toDone C l e24) (by decide) rfl rfl (Nat.le_of_ble_eq_true rfl) R1 R2_S25 ?_
      refine sk_iload_n K dX10_way_47 rfl 2 rfl ?_
      obtain ⟨h31, hf⟩ := sk_ib hf
      obtain ⟨v29, e30, hf⟩ := sk_ob hf
      refine sk_callV (As := [.int v23, .int p2]) (st := []) K dX10_way_48 cl_X10_237 h31 (sX8_deedAt C l e30) (by decide) rfl rfl (Nat.le_of_ble_eq_true rfl) R1_S25 R2_S25 ?_
      have hR32 : (v29, S25, d26) = (rr, SS, dd) := Option.some.inj hf
      exact sk_iret K dX10_way_51 rfl rfl (congrArg (fun z => z.1) hR32) (congrArg (fun z => z.2.1) hR32) (congrArg (fun z => z.2.2) hR32)
    · rw [if_neg h10] at hf
      refine sk_bipush (-3 : Int32) K dX10_way_18 (by decide) ?_
      have hR33 : ((-3 : Int32), S, d) = (rr, SS, dd) := Option.some.inj hf
      exact sk_iret K dX10_way_20 rfl rfl (congrArg (fun z => z.1) hR33) (congrArg (fun z => z.2.1) hR33) (congrArg (fun z => z.2.2) hR33)
noncomputable def fX10_shown (S : sk_S) (d : sk_D) (p0 : Nat) (p1 : Int32) : Option (Int32 × sk_S × sk_D) :=
  (sk_gR S p0 9 0).bind fun v1 => (sk_gR S v1 8 0).bind fun v3 => if S.2.1 v3 = (2, 0) then ((fX2_hasAll S d v3 p1).bind fun v5 => if v5 = true then ((sk_gR S p0 9 2).bind fun v9 => (sk_gR S p0 9 2).bind fun v11 => (sk_gR S p0 9 0).bind fun v13 => (sk_gR S p0 9 5).bind fun v15 => (sk_gI S d v15 4 1).bind fun v17 => (fX10_stateIn S d v17).bind fun v19 => if S.2.1 v11 = (7, 0) then ((fX8_toShown S d v11 v13 v19 p1).bind fun b26 => if b26.2.1.2.1 v9 = (7, 0) then ((fX8_length b26.2.1 b26.2.2 v9 b26.1).bind fun v27 => some (v27, b26.2.1, b26.2.2)) else none) else none) else (some ((-3 : Int32), S, d))) else none
theorem monoX10_shown (S : sk_S) (d : sk_D) (p0 : Nat) (p1 : Int32) : sk_Mo S.1 (fun (z : Int32 × sk_S × sk_D) => z.2.1.1) (fX10_shown S d p0 p1) := by
  unfold fX10_shown
  repeat' (first | exact mo_none | exact mo_some ⟨Nat.le_refl _, Nat.le_refl _⟩ | refine mo_pR (fun _ => ?_) | refine mo_mk (fun _ => ?_) | refine mo_sR24 (fun _ => ?_) | refine mo_sR25 (fun _ => ?_) | refine mo_A ⟨Nat.le_refl _, Nat.le_refl _⟩ (monoX8_toShown _ _ _ _ _ _) (fun _ => ?_) | refine mo_A (sk_nS_le _ _ _ _) (monoX8_toShown _ _ _ _ _ _) (fun _ => ?_) | refine mo_ite ?_ ?_ | refine mo_bind (fun _ => ?_) | dsimp only | split)
set_option maxRecDepth 100000 in
set_option maxHeartbeats 4000000 in
theorem sX10_shown (C : sk_C) (l : Launch) {S : sk_S} {d : sk_D} {p0 : Nat} {p1 : Int32} {rr : Int32} {SS : sk_S} {dd : sk_D} (hf : fX10_shown S d p0 p1 = some (rr, SS, dd)) : sk_Met C l 6 yX10_shown cX10_shown 2 (some .int) [.ref p0, .int p1] S d (some (.int rr)) SS dd := by
  have hmono := mo_use (n := S.1) (pr := (fun (z : Int32 × sk_S × sk_D) => z.2.1.1)) hf (monoX10_shown S d p0 p1)
  refine sk_Met.of (by decide) (Nat.le_of_ble_eq_true rfl) hmono.1 hmono.2 (fun X K0 hX => ?_)
  have K : sk_Ok X C cX10_shown 2 RX10 "shown" (some .int) 6 l (some (.int rr)) SS dd := K0
  have R1 : X.2.2.2.2.2.2.2.2.2.2.2.1 ≤ S.1.1 ∧ X.2.2.2.2.2.2.2.2.2.2.2.2 ≤ S.1.2 := by rw [hX]; exact ⟨Nat.le_refl _, Nat.le_refl _⟩
  have R2 : S.1.1 ≤ SS.1.1 ∧ S.1.2 ≤ SS.1.2 := hmono
  show sk_G X C 2 S d 0 [(0, .ref p0), (1, .int p1)] []
  unfold fX10_shown at hf
  refine sk_aload_n K dX10_shown_0 rfl 0 rfl ?_
  obtain ⟨v1, e2, hf⟩ := sk_ob hf
  refine sk_getR K dX10_shown_1 fl_X10_10 rfl e2 ?_
  obtain ⟨v3, e4, hf⟩ := sk_ob hf
  refine sk_getR K dX10_shown_4 fl_X10_98 rfl e4 ?_
  refine sk_iload_n K dX10_shown_7 rfl 1 rfl ?_
  obtain ⟨h7, hf⟩ := sk_ib hf
  obtain ⟨v5, e6, hf⟩ := sk_ob hf
  refine sk_callV (As := [.int p1]) (st := []) K dX10_shown_8 cl_X10_224 h7 (sX2_hasAll C l e6) (by decide) rfl rfl (Nat.le_of_ble_eq_true rfl) R1 R2 ?_
  refine sk_ifneB 17 K dX10_shown_11 (by decide) (fun h8 => ?_) (fun h8 => ?_)
  · rw [if_pos h8] at hf
    refine sk_aload_n K dX10_shown_17 rfl 0 rfl ?_
    obtain ⟨v9, e10, hf⟩ := sk_ob hf
    refine sk_getR K dX10_shown_18 fl_X10_26 rfl e10 ?_
    refine sk_aload_n K dX10_shown_21 rfl 0 rfl ?_
    obtain ⟨v11, e12, hf⟩ := sk_ob hf
    refine sk_getR K dX10_shown_22 fl_X10_26 rfl e12 ?_
    refine sk_aload_n K dX10_shown_25 rfl 0 rfl ?_
    obtain ⟨v13, e14, hf⟩ := sk_ob hf
    refine sk_getR K dX10_shown_26 fl_X10_10 rfl e14 ?_
    refine sk_aload_n K dX10_shown_29 rfl 0 rfl ?_
    obtain ⟨v15, e16, hf⟩ := sk_ob hf
    refine sk_getR K dX10_shown_30 fl_X10_47 rfl e16 ?_
    obtain ⟨v17, e18, hf⟩ := sk_ob hf
    refine sk_getI K dX10_shown_33 fl_X10_120 rfl e18 ?_
    obtain ⟨v19, e20, hf⟩ := sk_ob hf
    refine sk_callS (As := [.int v17]) (st := [.ref v13, .ref v11, .ref v9]) K dX10_shown_36 cl_X10_227 (sX10_stateIn C l e20) (by decide) rfl rfl (Nat.le_of_ble_eq_true rfl) R1 R2 ?_
    refine sk_iload_n K dX10_shown_39 rfl 1 rfl ?_
    obtain ⟨h25, hf⟩ := sk_ib hf
    obtain ⟨⟨v21, S23, d24⟩, e22, hf⟩ := sk_ob hf
    try dsimp only at hf
    have R1_S23 := sk_le_tr R1 (mo_use (pr := (fun (z : Int32 × sk_S × sk_D) => z.2.1.1)) e22 (monoX8_toShown _ _ _ _ _ _))
    have R2_S23 : S23.1.1 ≤ SS.1.1 ∧ S23.1.2 ≤ SS.1.2 := mo_use (n := S23.1) (pr := (fun (z : Int32 × sk_S × sk_D) => z.2.1.1)) hf (by repeat' (first | exact mo_none | exact mo_some ⟨Nat.le_refl _, Nat.le_refl _⟩ | refine mo_pR (fun _ => ?_) | refine mo_mk (fun _ => ?_) | refine mo_sR24 (fun _ => ?_) | refine mo_sR25 (fun _ => ?_) | refine mo_A ⟨Nat.le_refl _, Nat.le_refl _⟩ (monoX8_toShown _ _ _ _ _ _) (fun _ => ?_) | refine mo_A (sk_nS_le _ _ _ _) (monoX8_toShown _ _ _ _ _ _) (fun _ => ?_) | refine mo_ite ?_ ?_ | refine mo_bind (fun _ => ?_) | dsimp only | split))
    refine sk_callV (As := [.ref v13, .int v19, .int p1]) (st := [.ref v9]) K dX10_shown_40 cl_X10_240 h25 (sX8_toShown C l e22) (by decide) rfl rfl (Nat.le_of_ble_eq_true rfl) R1 R2_S23 ?_
    obtain ⟨h29, hf⟩ := sk_ib hf
    obtain ⟨v27, e28, hf⟩ := sk_ob hf
    refine sk_callV (As := [.int v21]) (st := []) K dX10_shown_43 cl_X10_234 h29 (sX8_length C l e28) (by decide) rfl rfl (Nat.le_of_ble_eq_true rfl) R1_S23 R2_S23 ?_
    have hR30 : (v27, S23, d24) = (rr, SS, dd) := Option.some.inj hf
    exact sk_iret K dX10_shown_46 rfl rfl (congrArg (fun z => z.1) hR30) (congrArg (fun z => z.2.1) hR30) (congrArg (fun z => z.2.2) hR30)
  · rw [if_neg h8] at hf
    refine sk_bipush (-3 : Int32) K dX10_shown_14 (by decide) ?_
    have hR31 : ((-3 : Int32), S, d) = (rr, SS, dd) := Option.some.inj hf
    exact sk_iret K dX10_shown_16 rfl rfl (congrArg (fun z => z.1) hR31) (congrArg (fun z => z.2.1) hR31) (congrArg (fun z => z.2.2) hR31)
noncomputable def fX10_shownBy (S : sk_S) (d : sk_D) (p0 : Nat) (p1 : Int32) (p2 : Int32) : Option (Int32 × sk_S × sk_D) :=
  (sk_gR S p0 9 0).bind fun v1 => (sk_gR S v1 8 0).bind fun v3 => if S.2.1 v3 = (2, 0) then ((fX2_hasAll S d v3 p1).bind fun v5 => if v5 = true then (if 0 ≤ p2 then ((sk_gR S p0 9 2).bind fun v11 => (sk_gR S p0 9 2).bind fun v13 => (sk_gR S p0 9 0).bind fun v15 => (sk_gR S p0 9 5).bind fun v17 => (sk_gI S d v17 4 1).bind fun v19 => (fX10_stateIn S d v19).bind fun v21 => if S.2.1 v13 = (7, 0) then ((fX8_toShown S d v13 v15 v21 p1).bind fun b28 => if b28.2.1.2.1 v11 = (7, 0) then ((fX8_deedAt b28.2.1 b28.2.2 v11 b28.1 p2).bind fun v29 => some (v29, b28.2.1, b28.2.2)) else none) else none) else (some ((-3 : Int32), S, d))) else (some ((-3 : Int32), S, d))) else none
theorem monoX10_shownBy (S : sk_S) (d : sk_D) (p0 : Nat) (p1 : Int32) (p2 : Int32) : sk_Mo S.1 (fun (z : Int32 × sk_S × sk_D) => z.2.1.1) (fX10_shownBy S d p0 p1 p2) := by
  unfold fX10_shownBy
  repeat' (first | exact mo_none | exact mo_some ⟨Nat.le_refl _, Nat.le_refl _⟩ | refine mo_pR (fun _ => ?_) | refine mo_mk (fun _ => ?_) | refine mo_sR24 (fun _ => ?_) | refine mo_sR25 (fun _ => ?_) | refine mo_A ⟨Nat.le_refl _, Nat.le_refl _⟩ (monoX8_toShown _ _ _ _ _ _) (fun _ => ?_) | refine mo_A (sk_nS_le _ _ _ _) (monoX8_toShown _ _ _ _ _ _) (fun _ => ?_) | refine mo_ite ?_ ?_ | refine mo_bind (fun _ => ?_) | dsimp only | split)
set_option maxRecDepth 100000 in
set_option maxHeartbeats 4000000 in
theorem sX10_shownBy (C : sk_C) (l : Launch) {S : sk_S} {d : sk_D} {p0 : Nat} {p1 : Int32} {p2 : Int32} {rr : Int32} {SS : sk_S} {dd : sk_D} (hf : fX10_shownBy S d p0 p1 p2 = some (rr, SS, dd)) : sk_Met C l 6 yX10_shownBy cX10_shownBy 3 (some .int) [.ref p0, .int p1, .int p2] S d (some (.int rr)) SS dd := by
  have hmono := mo_use (n := S.1) (pr := (fun (z : Int32 × sk_S × sk_D) => z.2.1.1)) hf (monoX10_shownBy S d p0 p1 p2)
  refine sk_Met.of (by decide) (Nat.le_of_ble_eq_true rfl) hmono.1 hmono.2 (fun X K0 hX => ?_)
  have K : sk_Ok X C cX10_shownBy 3 RX10 "shownBy" (some .int) 6 l (some (.int rr)) SS dd := K0
  have R1 : X.2.2.2.2.2.2.2.2.2.2.2.1 ≤ S.1.1 ∧ X.2.2.2.2.2.2.2.2.2.2.2.2 ≤ S.1.2 := by rw [hX]; exact ⟨Nat.le_refl _, Nat.le_refl _⟩
  have R2 : S.1.1 ≤ SS.1.1 ∧ S.1.2 ≤ SS.1.2 := hmono
  show sk_G X C 3 S d 0 [(0, .ref p0), (1, .int p1), (2, .int p2)] []
  unfold fX10_shownBy at hf
  refine sk_aload_n K dX10_shownBy_0 rfl 0 rfl ?_
  obtain ⟨v1, e2, hf⟩ := sk_ob hf
  refine sk_getR K dX10_shownBy_1 fl_X10_10 rfl e2 ?_
  obtain ⟨v3, e4, hf⟩ := sk_ob hf
  refine sk_getR K dX10_shownBy_4 fl_X10_98 rfl e4 ?_
  refine sk_iload_n K dX10_shownBy_7 rfl 1 rfl ?_
  obtain ⟨h7, hf⟩ := sk_ib hf
  obtain ⟨v5, e6, hf⟩ := sk_ob hf
  refine sk_callV (As := [.int p1]) (st := []) K dX10_shownBy_8 cl_X10_224 h7 (sX2_hasAll C l e6) (by decide) rfl rfl (Nat.le_of_ble_eq_true rfl) R1 R2 ?_
  refine sk_ifeqB 18 K dX10_shownBy_11 (by decide) (fun h8 => ?_) (fun h8 => ?_)
  · rw [if_neg h8] at hf
    refine sk_bipush (-3 : Int32) K dX10_shownBy_18 (by decide) ?_
    have hR9 : ((-3 : Int32), S, d) = (rr, SS, dd) := Option.some.inj hf
    exact sk_iret K dX10_shownBy_20 rfl rfl (congrArg (fun z => z.1) hR9) (congrArg (fun z => z.2.1) hR9) (congrArg (fun z => z.2.2) hR9)
  · rw [if_pos h8] at hf
    refine sk_iload_n K dX10_shownBy_14 rfl 2 rfl ?_
    refine sk_if_ge 21 K dX10_shownBy_15 (by decide) (fun h10 => ?_) (fun h10 => ?_)
    · rw [if_pos h10] at hf
      refine sk_aload_n K dX10_shownBy_21 rfl 0 rfl ?_
      obtain ⟨v11, e12, hf⟩ := sk_ob hf
      refine sk_getR K dX10_shownBy_22 fl_X10_26 rfl e12 ?_
      refine sk_aload_n K dX10_shownBy_25 rfl 0 rfl ?_
      obtain ⟨v13, e14, hf⟩ := sk_ob hf
      refine sk_getR K dX10_shownBy_26 fl_X10_26 rfl e14 ?_
      refine sk_aload_n K dX10_shownBy_29 rfl 0 rfl ?_
      obtain ⟨v15, e16, hf⟩ := sk_ob hf
      refine sk_getR K dX10_shownBy_30 fl_X10_10 rfl e16 ?_
      refine sk_aload_n K dX10_shownBy_33 rfl 0 rfl ?_
      obtain ⟨v17, e18, hf⟩ := sk_ob hf
      refine sk_getR K dX10_shownBy_34 fl_X10_47 rfl e18 ?_
      obtain ⟨v19, e20, hf⟩ := sk_ob hf
      refine sk_getI K dX10_shownBy_37 fl_X10_120 rfl e20 ?_
      obtain ⟨v21, e22, hf⟩ := sk_ob hf
      refine sk_callS (As := [.int v19]) (st := [.ref v15, .ref v13, .ref v11]) K dX10_shownBy_40 cl_X10_227 (sX10_stateIn C l e22) (by decide) rfl rfl (Nat.le_of_ble_eq_true rfl) R1 R2 ?_
      refine sk_iload_n K dX10_shownBy_43 rfl 1 rfl ?_
      obtain ⟨h27, hf⟩ := sk_ib hf
      obtain ⟨⟨v23, S25, d26⟩, e24, hf⟩ := sk_ob hf
      try dsimp only at hf
      have R1_S25 := sk_le_tr R1 (mo_use (pr := (fun (z : Int32 × sk_S × sk_D) => z.2.1.1)) e24 (monoX8_toShown _ _ _ _ _ _))
      have R2_S25 : S25.1.1 ≤ SS.1.1 ∧ S25.1.2 ≤ SS.1.2 := mo_use (n := S25.1) (pr := (fun (z : Int32 × sk_S × sk_D) => z.2.1.1)) hf (by repeat' (first | exact mo_none | exact mo_some ⟨Nat.le_refl _, Nat.le_refl _⟩ | refine mo_pR (fun _ => ?_) | refine mo_mk (fun _ => ?_) | refine mo_sR24 (fun _ => ?_) | refine mo_sR25 (fun _ => ?_) | refine mo_A ⟨Nat.le_refl _, Nat.le_refl _⟩ (monoX8_toShown _ _ _ _ _ _) (fun _ => ?_) | refine mo_A (sk_nS_le _ _ _ _) (monoX8_toShown _ _ _ _ _ _) (fun _ => ?_) | refine mo_ite ?_ ?_ | refine mo_bind (fun _ => ?_) | dsimp only | split))
      refine sk_callV (As := [.ref v15, .int v21, .int p1]) (st := [.ref v11]) K dX10_shownBy_44 cl_X10_240 h27 (sX8_toShown C l e24) (by decide) rfl rfl (Nat.le_of_ble_eq_true rfl) R1 R2_S25 ?_
      refine sk_iload_n K dX10_shownBy_47 rfl 2 rfl ?_
      obtain ⟨h31, hf⟩ := sk_ib hf
      obtain ⟨v29, e30, hf⟩ := sk_ob hf
      refine sk_callV (As := [.int v23, .int p2]) (st := []) K dX10_shownBy_48 cl_X10_237 h31 (sX8_deedAt C l e30) (by decide) rfl rfl (Nat.le_of_ble_eq_true rfl) R1_S25 R2_S25 ?_
      have hR32 : (v29, S25, d26) = (rr, SS, dd) := Option.some.inj hf
      exact sk_iret K dX10_shownBy_51 rfl rfl (congrArg (fun z => z.1) hR32) (congrArg (fun z => z.2.1) hR32) (congrArg (fun z => z.2.2) hR32)
    · rw [if_neg h10] at hf
      refine sk_bipush (-3 : Int32) K dX10_shownBy_18 (by decide) ?_
      have hR33 : ((-3 : Int32), S, d) = (rr, SS, dd) := Option.some.inj hf
      exact sk_iret K dX10_shownBy_20 rfl rfl (congrArg (fun z => z.1) hR33) (congrArg (fun z => z.2.1) hR33) (congrArg (fun z => z.2.2) hR33)
noncomputable def fX10_rows (S : sk_S) (d : sk_D) (p0 : Nat) (p1 : Int32) (p2 : Int32) : Option (Int64 × sk_S × sk_D) :=
  (sk_gR S p0 9 0).bind fun v1 => (sk_gR S v1 8 0).bind fun v3 => if S.2.1 v3 = (2, 0) then ((fX2_hasAll S d v3 p1).bind fun v5 => if v5 = true then (if p2 < 0 then (some ((-3 : Int64), S, d)) else (if p2 ≤ (8 : Int32) then ((sk_gR S p0 9 2).bind fun v13 => (sk_gR S p0 9 0).bind fun v15 => (sk_gR S p0 9 5).bind fun v17 => (sk_gI S d v17 4 1).bind fun v19 => (fX10_stateIn S d v19).bind fun v21 => if S.2.1 v13 = (7, 0) then ((fX8_rowsTo S d v13 v15 v21 p1 p2).bind fun b28 => some (b28.1, b28.2.1, b28.2.2)) else none) else (some ((-3 : Int64), S, d)))) else (some ((-3 : Int64), S, d))) else none
theorem monoX10_rows (S : sk_S) (d : sk_D) (p0 : Nat) (p1 : Int32) (p2 : Int32) : sk_Mo S.1 (fun (z : Int64 × sk_S × sk_D) => z.2.1.1) (fX10_rows S d p0 p1 p2) := by
  unfold fX10_rows
  repeat' (first | exact mo_none | exact mo_some ⟨Nat.le_refl _, Nat.le_refl _⟩ | refine mo_pR (fun _ => ?_) | refine mo_mk (fun _ => ?_) | refine mo_sR24 (fun _ => ?_) | refine mo_sR25 (fun _ => ?_) | refine mo_A ⟨Nat.le_refl _, Nat.le_refl _⟩ (monoX8_rowsTo _ _ _ _ _ _ _) (fun _ => ?_) | refine mo_A (sk_nS_le _ _ _ _) (monoX8_rowsTo _ _ _ _ _ _ _) (fun _ => ?_) | refine mo_ite ?_ ?_ | refine mo_bind (fun _ => ?_) | dsimp only | split)
set_option maxRecDepth 100000 in
set_option maxHeartbeats 4000000 in
theorem sX10_rows (C : sk_C) (l : Launch) {S : sk_S} {d : sk_D} {p0 : Nat} {p1 : Int32} {p2 : Int32} {rr : Int64} {SS : sk_S} {dd : sk_D} (hf : fX10_rows S d p0 p1 p2 = some (rr, SS, dd)) : sk_Met C l 6 yX10_rows cX10_rows 3 (some .long) [.ref p0, .int p1, .int p2] S d (some (.long rr)) SS dd := by
  have hmono := mo_use (n := S.1) (pr := (fun (z : Int64 × sk_S × sk_D) => z.2.1.1)) hf (monoX10_rows S d p0 p1 p2)
  refine sk_Met.of (by decide) (Nat.le_of_ble_eq_true rfl) hmono.1 hmono.2 (fun X K0 hX => ?_)
  have K : sk_Ok X C cX10_rows 3 RX10 "rows" (some .long) 6 l (some (.long rr)) SS dd := K0
  have R1 : X.2.2.2.2.2.2.2.2.2.2.2.1 ≤ S.1.1 ∧ X.2.2.2.2.2.2.2.2.2.2.2.2 ≤ S.1.2 := by rw [hX]; exact ⟨Nat.le_refl _, Nat.le_refl _⟩
  have R2 : S.1.1 ≤ SS.1.1 ∧ S.1.2 ≤ SS.1.2 := hmono
  show sk_G X C 3 S d 0 [(0, .ref p0), (1, .int p1), (2, .int p2)] []
  unfold fX10_rows at hf
  refine sk_aload_n K dX10_rows_0 rfl 0 rfl ?_
  obtain ⟨v1, e2, hf⟩ := sk_ob hf
  refine sk_getR K dX10_rows_1 fl_X10_10 rfl e2 ?_
  obtain ⟨v3, e4, hf⟩ := sk_ob hf
  refine sk_getR K dX10_rows_4 fl_X10_98 rfl e4 ?_
  refine sk_iload_n K dX10_rows_7 rfl 1 rfl ?_
  obtain ⟨h7, hf⟩ := sk_ib hf
  obtain ⟨v5, e6, hf⟩ := sk_ob hf
  refine sk_callV (As := [.int p1]) (st := []) K dX10_rows_8 cl_X10_224 h7 (sX2_hasAll C l e6) (by decide) rfl rfl (Nat.le_of_ble_eq_true rfl) R1 R2 ?_
  refine sk_ifeqB 24 K dX10_rows_11 (by decide) (fun h8 => ?_) (fun h8 => ?_)
  · rw [if_neg h8] at hf
    refine sk_ldc2 K dX10_rows_24 qw_1020 ?_
    have hR9 : ((-3 : Int64), S, d) = (rr, SS, dd) := Option.some.inj hf
    exact sk_lret K dX10_rows_27 rfl rfl (congrArg (fun z => z.1) hR9) (congrArg (fun z => z.2.1) hR9) (congrArg (fun z => z.2.2) hR9)
  · rw [if_pos h8] at hf
    refine sk_iload_n K dX10_rows_14 rfl 2 rfl ?_
    refine sk_if_lt 24 K dX10_rows_15 (by decide) (fun h10 => ?_) (fun h10 => ?_)
    · rw [if_pos h10] at hf
      refine sk_ldc2 K dX10_rows_24 qw_1020 ?_
      have hR11 : ((-3 : Int64), S, d) = (rr, SS, dd) := Option.some.inj hf
      exact sk_lret K dX10_rows_27 rfl rfl (congrArg (fun z => z.1) hR11) (congrArg (fun z => z.2.1) hR11) (congrArg (fun z => z.2.2) hR11)
    · rw [if_neg h10] at hf
      refine sk_iload_n K dX10_rows_18 rfl 2 rfl ?_
      refine sk_bipush (8 : Int32) K dX10_rows_19 (by decide) ?_
      refine sk_icmp_le 28 K dX10_rows_21 (by decide) (fun h12 => ?_) (fun h12 => ?_)
      · rw [if_pos h12] at hf
        refine sk_aload_n K dX10_rows_28 rfl 0 rfl ?_
        obtain ⟨v13, e14, hf⟩ := sk_ob hf
        refine sk_getR K dX10_rows_29 fl_X10_26 rfl e14 ?_
        refine sk_aload_n K dX10_rows_32 rfl 0 rfl ?_
        obtain ⟨v15, e16, hf⟩ := sk_ob hf
        refine sk_getR K dX10_rows_33 fl_X10_10 rfl e16 ?_
        refine sk_aload_n K dX10_rows_36 rfl 0 rfl ?_
        obtain ⟨v17, e18, hf⟩ := sk_ob hf
        refine sk_getR K dX10_rows_37 fl_X10_47 rfl e18 ?_
        obtain ⟨v19, e20, hf⟩ := sk_ob hf
        refine sk_getI K dX10_rows_40 fl_X10_120 rfl e20 ?_
        obtain ⟨v21, e22, hf⟩ := sk_ob hf
        refine sk_callS (As := [.int v19]) (st := [.ref v15, .ref v13]) K dX10_rows_43 cl_X10_227 (sX10_stateIn C l e22) (by decide) rfl rfl (Nat.le_of_ble_eq_true rfl) R1 R2 ?_
        refine sk_iload_n K dX10_rows_46 rfl 1 rfl ?_
        refine sk_iload_n K dX10_rows_47 rfl 2 rfl ?_
        obtain ⟨h27, hf⟩ := sk_ib hf
        obtain ⟨⟨v23, S25, d26⟩, e24, hf⟩ := sk_ob hf
        try dsimp only at hf
        have R1_S25 := sk_le_tr R1 (mo_use (pr := (fun (z : Int64 × sk_S × sk_D) => z.2.1.1)) e24 (monoX8_rowsTo _ _ _ _ _ _ _))
        have R2_S25 : S25.1.1 ≤ SS.1.1 ∧ S25.1.2 ≤ SS.1.2 := mo_use (n := S25.1) (pr := (fun (z : Int64 × sk_S × sk_D) => z.2.1.1)) hf (by repeat' (first | exact mo_none | exact mo_some ⟨Nat.le_refl _, Nat.le_refl _⟩ | refine mo_pR (fun _ => ?_) | refine mo_mk (fun _ => ?_) | refine mo_sR24 (fun _ => ?_) | refine mo_sR25 (fun _ => ?_) | refine mo_A ⟨Nat.le_refl _, Nat.le_refl _⟩ (monoX8_rowsTo _ _ _ _ _ _ _) (fun _ => ?_) | refine mo_A (sk_nS_le _ _ _ _) (monoX8_rowsTo _ _ _ _ _ _ _) (fun _ => ?_) | refine mo_ite ?_ ?_ | refine mo_bind (fun _ => ?_) | dsimp only | split))
        refine sk_callV (As := [.ref v15, .int v21, .int p1, .int p2]) (st := []) K dX10_rows_48 cl_X10_245 h27 (sX8_rowsTo C l e24) (by decide) rfl rfl (Nat.le_of_ble_eq_true rfl) R1 R2_S25 ?_
        have hR29 : (v23, S25, d26) = (rr, SS, dd) := Option.some.inj hf
        exact sk_lret K dX10_rows_51 rfl rfl (congrArg (fun z => z.1) hR29) (congrArg (fun z => z.2.1) hR29) (congrArg (fun z => z.2.2) hR29)
      · rw [if_neg h12] at hf
        refine sk_ldc2 K dX10_rows_24 qw_1020 ?_
        have hR30 : ((-3 : Int64), S, d) = (rr, SS, dd) := Option.some.inj hf
        exact sk_lret K dX10_rows_27 rfl rfl (congrArg (fun z => z.1) hR30) (congrArg (fun z => z.2.1) hR30) (congrArg (fun z => z.2.2) hR30)
noncomputable def fX10_most (S : sk_S) (d : sk_D) (p0 : Nat) : Option (Int32 × sk_S × sk_D) :=
  (sk_gR S p0 9 2).bind fun v1 => (sk_gR S p0 9 0).bind fun v3 => (sk_gR S p0 9 5).bind fun v5 => (sk_gI S d v5 4 1).bind fun v7 => (fX10_stateIn S d v7).bind fun v9 => if S.2.1 v1 = (7, 0) then ((fX8_mostShown S d v1 v3 v9).bind fun b16 => some (b16.1, b16.2.1, b16.2.2)) else none
theorem monoX10_most (S : sk_S) (d : sk_D) (p0 : Nat) : sk_Mo S.1 (fun (z : Int32 × sk_S × sk_D) => z.2.1.1) (fX10_most S d p0) := by
  unfold fX10_most
  repeat' (first | exact mo_none | exact mo_some ⟨Nat.le_refl _, Nat.le_refl _⟩ | refine mo_pR (fun _ => ?_) | refine mo_mk (fun _ => ?_) | refine mo_sR24 (fun _ => ?_) | refine mo_sR25 (fun _ => ?_) | refine mo_A ⟨Nat.le_refl _, Nat.le_refl _⟩ (monoX8_mostShown _ _ _ _ _) (fun _ => ?_) | refine mo_A (sk_nS_le _ _ _ _) (monoX8_mostShown _ _ _ _ _) (fun _ => ?_) | refine mo_ite ?_ ?_ | refine mo_bind (fun _ => ?_) | dsimp only | split)
set_option maxRecDepth 100000 in
set_option maxHeartbeats 4000000 in
theorem sX10_most (C : sk_C) (l : Launch) {S : sk_S} {d : sk_D} {p0 : Nat} {rr : Int32} {SS : sk_S} {dd : sk_D} (hf : fX10_most S d p0 = some (rr, SS, dd)) : sk_Met C l 6 yX10_most cX10_most 1 (some .int) [.ref p0] S d (some (.int rr)) SS dd := by
  have hmono := mo_use (n := S.1) (pr := (fun (z : Int32 × sk_S × sk_D) => z.2.1.1)) hf (monoX10_most S d p0)
  refine sk_Met.of (by decide) (Nat.le_of_ble_eq_true rfl) hmono.1 hmono.2 (fun X K0 hX => ?_)
  have K : sk_Ok X C cX10_most 1 RX10 "most" (some .int) 6 l (some (.int rr)) SS dd := K0
  have R1 : X.2.2.2.2.2.2.2.2.2.2.2.1 ≤ S.1.1 ∧ X.2.2.2.2.2.2.2.2.2.2.2.2 ≤ S.1.2 := by rw [hX]; exact ⟨Nat.le_refl _, Nat.le_refl _⟩
  have R2 : S.1.1 ≤ SS.1.1 ∧ S.1.2 ≤ SS.1.2 := hmono
  show sk_G X C 1 S d 0 [(0, .ref p0)] []
  unfold fX10_most at hf
  obtain ⟨v1, e2, hf⟩ := sk_ob hf
  obtain ⟨v3, e4, hf⟩ := sk_ob hf
  obtain ⟨v5, e6, hf⟩ := sk_ob hf
  obtain ⟨v7, e8, hf⟩ := sk_ob hf
  obtain ⟨v9, e10, hf⟩ := sk_ob hf
  obtain ⟨h15, hf⟩ := sk_ib hf
  obtain ⟨⟨v11, S13, d14⟩, e12, hf⟩ := sk_ob hf
  try dsimp only at hf
  have R1_S13 := sk_le_tr R1 (mo_use (pr := (fun (z : Int32 × sk_S × sk_D) => z.2.1.1)) e12 (monoX8_mostShown _ _ _ _ _))
  have hR17 : (v11, S13, d14) = (rr, SS, dd) := Option.some.inj hf
  have R2_S13 : S13.1.1 ≤ SS.1.1 ∧ S13.1.2 ≤ SS.1.2 := sk_ss_le (show S13 = SS from congrArg (fun z => z.2.1) hR17)
  refine sk_aload_n K dX10_most_0 rfl 0 rfl ?_
  refine sk_getR K dX10_most_1 fl_X10_26 rfl e2 ?_
  refine sk_aload_n K dX10_most_4 rfl 0 rfl ?_
  refine sk_getR K dX10_most_5 fl_X10_10 rfl e4 ?_
  refine sk_aload_n K dX10_most_8 rfl 0 rfl ?_
  refine sk_getR K dX10_most_9 fl_X10_47 rfl e6 ?_
  refine sk_getI K dX10_most_12 fl_X10_120 rfl e8 ?_
  refine sk_callS (As := [.int v7]) (st := [.ref v3, .ref v1]) K dX10_most_15 cl_X10_227 (sX10_stateIn C l e10) (by decide) rfl rfl (Nat.le_of_ble_eq_true rfl) R1 R2 ?_
  refine sk_callV (As := [.ref v3, .int v9]) (st := []) K dX10_most_18 cl_X10_249 h15 (sX8_mostShown C l e12) (by decide) rfl rfl (Nat.le_of_ble_eq_true rfl) R1 R2_S13 ?_
  exact sk_iret K dX10_most_21 rfl rfl (congrArg (fun z => z.1) hR17) (congrArg (fun z => z.2.1) hR17) (congrArg (fun z => z.2.2) hR17)
noncomputable def fX10_stands (S : sk_S) (d : sk_D) (p0 : Nat) : Option (Int32 × sk_S × sk_D) :=
  (sk_gR S p0 9 2).bind fun v1 => (sk_gR S p0 9 0).bind fun v3 => (sk_gR S p0 9 5).bind fun v5 => (sk_gI S d v5 4 1).bind fun v7 => (fX10_stateIn S d v7).bind fun v9 => if S.2.1 v1 = (7, 0) then ((fX8_spread S d v1 v3 v9).bind fun b16 => (sk_gR b16.1 p0 9 2).bind fun v17 => (sk_gI b16.1 b16.2 v17 7 0).bind fun v19 => some (v19, b16.1, b16.2)) else none
theorem monoX10_stands (S : sk_S) (d : sk_D) (p0 : Nat) : sk_Mo S.1 (fun (z : Int32 × sk_S × sk_D) => z.2.1.1) (fX10_stands S d p0) := by
  unfold fX10_stands
  repeat' (first | exact mo_none | exact mo_some ⟨Nat.le_refl _, Nat.le_refl _⟩ | refine mo_pR (fun _ => ?_) | refine mo_mk (fun _ => ?_) | refine mo_sR24 (fun _ => ?_) | refine mo_sR25 (fun _ => ?_) | refine mo_A ⟨Nat.le_refl _, Nat.le_refl _⟩ (monoX8_spread _ _ _ _ _) (fun _ => ?_) | refine mo_A (sk_nS_le _ _ _ _) (monoX8_spread _ _ _ _ _) (fun _ => ?_) | refine mo_ite ?_ ?_ | refine mo_bind (fun _ => ?_) | dsimp only | split)
set_option maxRecDepth 100000 in
set_option maxHeartbeats 4000000 in
theorem sX10_stands (C : sk_C) (l : Launch) {S : sk_S} {d : sk_D} {p0 : Nat} {rr : Int32} {SS : sk_S} {dd : sk_D} (hf : fX10_stands S d p0 = some (rr, SS, dd)) : sk_Met C l 5 yX10_stands cX10_stands 1 (some .int) [.ref p0] S d (some (.int rr)) SS dd := by
  have hmono := mo_use (n := S.1) (pr := (fun (z : Int32 × sk_S × sk_D) => z.2.1.1)) hf (monoX10_stands S d p0)
  refine sk_Met.of (by decide) (Nat.le_of_ble_eq_true rfl) hmono.1 hmono.2 (fun X K0 hX => ?_)
  have K : sk_Ok X C cX10_stands 1 RX10 "stands" (some .int) 5 l (some (.int rr)) SS dd := K0
  have R1 : X.2.2.2.2.2.2.2.2.2.2.2.1 ≤ S.1.1 ∧ X.2.2.2.2.2.2.2.2.2.2.2.2 ≤ S.1.2 := by rw [hX]; exact ⟨Nat.le_refl _, Nat.le_refl _⟩
  have R2 : S.1.1 ≤ SS.1.1 ∧ S.1.2 ≤ SS.1.2 := hmono
  show sk_G X C 1 S d 0 [(0, .ref p0)] []
  unfold fX10_stands at hf
  obtain ⟨v1, e2, hf⟩ := sk_ob hf
  obtain ⟨v3, e4, hf⟩ := sk_ob hf
  obtain ⟨v5, e6, hf⟩ := sk_ob hf
  obtain ⟨v7, e8, hf⟩ := sk_ob hf
  obtain ⟨v9, e10, hf⟩ := sk_ob hf
  obtain ⟨h15, hf⟩ := sk_ib hf
  obtain ⟨⟨S13, d14⟩, e12, hf⟩ := sk_ob hf
  try dsimp only at hf
  have R1_S13 := sk_le_tr R1 (mo_use (pr := (fun (z : sk_S × sk_D) => z.1.1)) e12 (monoX8_spread _ _ _ _ _))
  obtain ⟨v17, e18, hf⟩ := sk_ob hf
  obtain ⟨v19, e20, hf⟩ := sk_ob hf
  have hR21 : (v19, S13, d14) = (rr, SS, dd) := Option.some.inj hf
  have R2_S13 : S13.1.1 ≤ SS.1.1 ∧ S13.1.2 ≤ SS.1.2 := sk_ss_le (show S13 = SS from congrArg (fun z => z.2.1) hR21)
  refine sk_aload_n K dX10_stands_0 rfl 0 rfl ?_
  refine sk_getR K dX10_stands_1 fl_X10_26 rfl e2 ?_
  refine sk_aload_n K dX10_stands_4 rfl 0 rfl ?_
  refine sk_getR K dX10_stands_5 fl_X10_10 rfl e4 ?_
  refine sk_aload_n K dX10_stands_8 rfl 0 rfl ?_
  refine sk_getR K dX10_stands_9 fl_X10_47 rfl e6 ?_
  refine sk_getI K dX10_stands_12 fl_X10_120 rfl e8 ?_
  refine sk_callS (As := [.int v7]) (st := [.ref v3, .ref v1]) K dX10_stands_15 cl_X10_227 (sX10_stateIn C l e10) (by decide) rfl rfl (Nat.le_of_ble_eq_true rfl) R1 R2 ?_
  refine sk_callV (As := [.ref v3, .int v9]) (st := []) K dX10_stands_18 cl_X10_253 h15 (sX8_spread C l e12) (by decide) rfl rfl (Nat.le_of_ble_eq_true rfl) R1 R2_S13 ?_
  refine sk_aload_n K dX10_stands_21 rfl 0 rfl ?_
  refine sk_getR K dX10_stands_22 fl_X10_26 rfl e18 ?_
  refine sk_getI K dX10_stands_25 fl_X10_257 rfl e20 ?_
  exact sk_iret K dX10_stands_28 rfl rfl (congrArg (fun z => z.1) hR21) (congrArg (fun z => z.2.1) hR21) (congrArg (fun z => z.2.2) hR21)
noncomputable def fX10_lists_L87 (p0 : Nat) (p1 : Int32) (S25 : sk_S) (v23 : Int32) (v32 : Int32) (v39 : Int32) (s1 : Int32 × sk_D) : Option ((Int32 × sk_D) ⊕ (Int32 × sk_S × sk_D)) :=
  if (if v39 < v32 then v39 else v32) ≤ s1.1 then (some (.inr ((if v39 < v32 then v39 else v32), S25, s1.2))) else ((sk_gR S25 p0 9 6).bind fun v45 => (sk_lR S25 v45 24 p1).bind fun v47 => (sk_gR S25 p0 9 2).bind fun v49 => if S25.2.1 v49 = (7, 0) then ((fX8_deedAt S25 s1.2 v49 v23 s1.1).bind fun v51 => if S25.2.1 v47 = (6, 0) then ((fX6_put S25 s1.2 v47 s1.1 v51.toInt64).bind fun d56 => some (.inl (s1.1 + 1, d56))) else none) else none)
theorem mono_fX10_lists_L87 (p0 : Nat) (p1 : Int32) (S25 : sk_S) (v23 : Int32) (v32 : Int32) (v39 : Int32) : ∀ z, sk_Mo S25.1 (Sum.elim (fun _ => S25.1) (fun (z : Int32 × sk_S × sk_D) => z.2.1.1)) (fX10_lists_L87 p0 p1 S25 v23 v32 v39 z) := by
  intro z
  unfold fX10_lists_L87
  repeat' (first | exact mo_none | exact mo_some ⟨Nat.le_refl _, Nat.le_refl _⟩ | refine mo_pR (fun _ => ?_) | refine mo_mk (fun _ => ?_) | refine mo_sR24 (fun _ => ?_) | refine mo_sR25 (fun _ => ?_) | refine mo_A ⟨Nat.le_refl _, Nat.le_refl _⟩ (monoX8_toShown _ _ _ _ _ _) (fun _ => ?_) | refine mo_A (sk_nS_le _ _ _ _) (monoX8_toShown _ _ _ _ _ _) (fun _ => ?_) | refine mo_bindQ (q := (fun (z : Int32 × sk_S × sk_D) => z.2.1.1)) (mo_itrC (mono_fX10_lists_L87 _ _ _ _ _ _) _) (fun _ => ?_) | refine mo_ite ?_ ?_ | refine mo_bind (fun _ => ?_) | dsimp only | split)
noncomputable def fX10_lists (S : sk_S) (d : sk_D) (p0 : Nat) (p1 : Int32) (p2 : Int32) : Option (Int32 × sk_S × sk_D) :=
  if S.2.1 p0 = (9, 0) then ((fX10_noTray S d p0 p1).bind fun v1 => if v1 = 0 then ((sk_gR S p0 9 0).bind fun v5 => (sk_gR S v5 8 0).bind fun v7 => if S.2.1 v7 = (2, 0) then ((fX2_hasAll S d v7 p2).bind fun v9 => if v9 = true then ((sk_gR S p0 9 2).bind fun v13 => (sk_gR S p0 9 0).bind fun v15 => (sk_gR S p0 9 5).bind fun v17 => (sk_gI S d v17 4 1).bind fun v19 => (fX10_stateIn S d v19).bind fun v21 => if S.2.1 v13 = (7, 0) then ((fX8_toShown S d v13 v15 v21 p2).bind fun b28 => if 0 ≤ b28.1 then ((sk_gR b28.2.1 p0 9 2).bind fun v30 => if b28.2.1.2.1 v30 = (7, 0) then ((fX8_length b28.2.1 b28.2.2 v30 b28.1).bind fun v32 => (sk_gR b28.2.1 p0 9 6).bind fun v35 => (sk_lR b28.2.1 v35 24 p1).bind fun v37 => (sk_gI b28.2.1 b28.2.2 v37 6 2).bind fun v39 => (sk_itr (fX10_lists_L87 p0 p1 b28.2.1 b28.1 v32 v39) ((0 : Int32), b28.2.2)).bind fun x1 => some x1) else none) else (some ((-5 : Int32), b28.2.1, b28.2.2))) else none) else (some ((-3 : Int32), S, d))) else none) else (some (v1, S, d))) else none
theorem monoX10_lists (S : sk_S) (d : sk_D) (p0 : Nat) (p1 : Int32) (p2 : Int32) : sk_Mo S.1 (fun (z : Int32 × sk_S × sk_D) => z.2.1.1) (fX10_lists S d p0 p1 p2) := by
  unfold fX10_lists
  repeat' (first | exact mo_none | exact mo_some ⟨Nat.le_refl _, Nat.le_refl _⟩ | refine mo_pR (fun _ => ?_) | refine mo_mk (fun _ => ?_) | refine mo_sR24 (fun _ => ?_) | refine mo_sR25 (fun _ => ?_) | refine mo_A ⟨Nat.le_refl _, Nat.le_refl _⟩ (monoX8_toShown _ _ _ _ _ _) (fun _ => ?_) | refine mo_A (sk_nS_le _ _ _ _) (monoX8_toShown _ _ _ _ _ _) (fun _ => ?_) | refine mo_bindQ (q := (fun (z : Int32 × sk_S × sk_D) => z.2.1.1)) (mo_itrC (mono_fX10_lists_L87 _ _ _ _ _ _) _) (fun _ => ?_) | refine mo_ite ?_ ?_ | refine mo_bind (fun _ => ?_) | dsimp only | split)
set_option maxRecDepth 100000 in
set_option maxHeartbeats 4000000 in
theorem sX10_lists (C : sk_C) (l : Launch) {S : sk_S} {d : sk_D} {p0 : Nat} {p1 : Int32} {p2 : Int32} {rr : Int32} {SS : sk_S} {dd : sk_D} (hf : fX10_lists S d p0 p1 p2 = some (rr, SS, dd)) : sk_Met C l 6 yX10_lists cX10_lists 7 (some .int) [.ref p0, .int p1, .int p2] S d (some (.int rr)) SS dd := by
  have hmono := mo_use (n := S.1) (pr := (fun (z : Int32 × sk_S × sk_D) => z.2.1.1)) hf (monoX10_lists S d p0 p1 p2)
  refine sk_Met.of (by decide) (Nat.le_of_ble_eq_true rfl) hmono.1 hmono.2 (fun X K0 hX => ?_)
  have K : sk_Ok X C cX10_lists 7 RX10 "lists" (some .int) 6 l (some (.int rr)) SS dd := K0
  have R1 : X.2.2.2.2.2.2.2.2.2.2.2.1 ≤ S.1.1 ∧ X.2.2.2.2.2.2.2.2.2.2.2.2 ≤ S.1.2 := by rw [hX]; exact ⟨Nat.le_refl _, Nat.le_refl _⟩
  have R2 : S.1.1 ≤ SS.1.1 ∧ S.1.2 ≤ SS.1.2 := hmono
  show sk_G X C 7 S d 0 [(0, .ref p0), (1, .int p1), (2, .int p2)] []
  unfold fX10_lists at hf
  refine sk_aload_n K dX10_lists_0 rfl 0 rfl ?_
  refine sk_iload_n K dX10_lists_1 rfl 1 rfl ?_
  obtain ⟨h3, hf⟩ := sk_ib hf
  obtain ⟨v1, e2, hf⟩ := sk_ob hf
  refine sk_callV (As := [.int p1]) (st := []) K dX10_lists_2 cl_X10_217 h3 (sX10_noTray C l e2) (by decide) rfl rfl (Nat.le_of_ble_eq_true rfl) R1 R2 ?_
  refine sk_istore_n [(3, .int v1), (0, .ref p0), (1, .int p1), (2, .int p2)] K dX10_lists_5 rfl (by decide) rfl ?_
  refine sk_iload_n K dX10_lists_6 rfl 0 rfl ?_
  refine sk_if_eq 12 K dX10_lists_7 (by decide) (fun h4 => ?_) (fun h4 => ?_)
  · rw [if_pos h4] at hf
    refine sk_aload_n K dX10_lists_12 rfl 1 rfl ?_
    obtain ⟨v5, e6, hf⟩ := sk_ob hf
    refine sk_getR K dX10_lists_13 fl_X10_10 rfl e6 ?_
    obtain ⟨v7, e8, hf⟩ := sk_ob hf
    refine sk_getR K dX10_lists_16 fl_X10_98 rfl e8 ?_
    refine sk_iload_n K dX10_lists_19 rfl 3 rfl ?_
    obtain ⟨h11, hf⟩ := sk_ib hf
    obtain ⟨v9, e10, hf⟩ := sk_ob hf
    refine sk_callV (As := [.int p2]) (st := []) K dX10_lists_20 cl_X10_224 h11 (sX2_hasAll C l e10) (by decide) rfl rfl (Nat.le_of_ble_eq_true rfl) R1 R2 ?_
    refine sk_ifneB 29 K dX10_lists_23 (by decide) (fun h12 => ?_) (fun h12 => ?_)
    · rw [if_pos h12] at hf
      refine sk_aload_n K dX10_lists_29 rfl 1 rfl ?_
      obtain ⟨v13, e14, hf⟩ := sk_ob hf
      refine sk_getR K dX10_lists_30 fl_X10_26 rfl e14 ?_
      refine sk_aload_n K dX10_lists_33 rfl 1 rfl ?_
      obtain ⟨v15, e16, hf⟩ := sk_ob hf
      refine sk_getR K dX10_lists_34 fl_X10_10 rfl e16 ?_
      refine sk_aload_n K dX10_lists_37 rfl 1 rfl ?_
      obtain ⟨v17, e18, hf⟩ := sk_ob hf
      refine sk_getR K dX10_lists_38 fl_X10_47 rfl e18 ?_
      obtain ⟨v19, e20, hf⟩ := sk_ob hf
      refine sk_getI K dX10_lists_41 fl_X10_120 rfl e20 ?_
      obtain ⟨v21, e22, hf⟩ := sk_ob hf
      refine sk_callS (As := [.int v19]) (st := [.ref v15, .ref v13]) K dX10_lists_44 cl_X10_227 (sX10_stateIn C l e22) (by decide) rfl rfl (Nat.le_of_ble_eq_true rfl) R1 R2 ?_
      refine sk_iload_n K dX10_lists_47 rfl 3 rfl ?_
      obtain ⟨h27, hf⟩ := sk_ib hf
      obtain ⟨⟨v23, S25, d26⟩, e24, hf⟩ := sk_ob hf
      try dsimp only at hf
      have R1_S25 := sk_le_tr R1 (mo_use (pr := (fun (z : Int32 × sk_S × sk_D) => z.2.1.1)) e24 (monoX8_toShown _ _ _ _ _ _))
      have R2_S25 : S25.1.1 ≤ SS.1.1 ∧ S25.1.2 ≤ SS.1.2 := mo_use (n := S25.1) (pr := (fun (z : Int32 × sk_S × sk_D) => z.2.1.1)) hf (by repeat' (first | exact mo_none | exact mo_some ⟨Nat.le_refl _, Nat.le_refl _⟩ | refine mo_pR (fun _ => ?_) | refine mo_mk (fun _ => ?_) | refine mo_sR24 (fun _ => ?_) | refine mo_sR25 (fun _ => ?_) | refine mo_A ⟨Nat.le_refl _, Nat.le_refl _⟩ (monoX8_toShown _ _ _ _ _ _) (fun _ => ?_) | refine mo_A (sk_nS_le _ _ _ _) (monoX8_toShown _ _ _ _ _ _) (fun _ => ?_) | refine mo_bindQ (q := (fun (z : Int32 × sk_S × sk_D) => z.2.1.1)) (mo_itrC (mono_fX10_lists_L87 _ _ _ _ _ _) _) (fun _ => ?_) | refine mo_ite ?_ ?_ | refine mo_bind (fun _ => ?_) | dsimp only | split))
      refine sk_callV (As := [.ref v15, .int v21, .int p2]) (st := []) K dX10_lists_48 cl_X10_240 h27 (sX8_toShown C l e24) (by decide) rfl rfl (Nat.le_of_ble_eq_true rfl) R1 R2_S25 ?_
      refine sk_istore [(4, .int v23), (3, .int v1), (0, .ref p0), (1, .int p1), (2, .int p2)] K dX10_lists_51 (by decide) rfl ?_
      refine sk_iload K dX10_lists_53 0 rfl ?_
      refine sk_if_ge 61 K dX10_lists_55 (by decide) (fun h29 => ?_) (fun h29 => ?_)
      · rw [if_pos h29] at hf
        refine sk_aload_n K dX10_lists_61 rfl 2 rfl ?_
        obtain ⟨v30, e31, hf⟩ := sk_ob hf
        refine sk_getR K dX10_lists_62 fl_X10_26 rfl e31 ?_
        refine sk_iload K dX10_lists_65 0 rfl ?_
        obtain ⟨h34, hf⟩ := sk_ib hf
        obtain ⟨v32, e33, hf⟩ := sk_ob hf
        refine sk_callV (As := [.int v23]) (st := []) K dX10_lists_67 cl_X10_234 h34 (sX8_length C l e33) (by decide) rfl rfl (Nat.le_of_ble_eq_true rfl) R1_S25 R2_S25 ?_
        refine sk_aload_n K dX10_lists_70 rfl 2 rfl ?_
        obtain ⟨v35, e36, hf⟩ := sk_ob hf
        refine sk_getR K dX10_lists_71 fl_X10_53 rfl e36 ?_
        refine sk_iload_n K dX10_lists_74 rfl 3 rfl ?_
        obtain ⟨v37, e38, hf⟩ := sk_ob hf
        refine sk_ald24 K dX10_lists_75 e38 ?_
        obtain ⟨v39, e40, hf⟩ := sk_ob hf
        refine sk_getI K dX10_lists_76 fl_X10_212 rfl e40 ?_
        refine sk_mmin K dX10_lists_79 qw_1158 qw_473 qw_137 qw_474 (by decide) (Nat.le_of_ble_eq_true rfl) R2_S25 ?_
        refine sk_istore [(5, .int (if v39 < v32 then v39 else v32)), (4, .int v23), (3, .int v1), (0, .ref p0), (1, .int p1), (2, .int p2)] K dX10_lists_82 (by decide) rfl ?_
        refine sk_iconst (0 : Int32) K dX10_lists_84 (by decide) ?_
        refine sk_istore [(6, .int (0 : Int32)), (5, .int (if v39 < v32 then v39 else v32)), (4, .int v23), (3, .int v1), (0, .ref p0), (1, .int p1), (2, .int p2)] K dX10_lists_85 (by decide) rfl ?_
        obtain ⟨x1, he1, hf⟩ := sk_ob hf
        have hret1 : ∀ r, r = x1 → r = (rr, SS, dd) := by
          intro r hr
          subst hr
          exact Option.some.inj hf
        refine sk_sub [(0, .ref p0), (1, .int p1), (4, .int v23), (5, .int (if v39 < v32 then v39 else v32)), (6, .int (0 : Int32))] [4, 5, 2, 1, 0] rfl ?_
        refine sk_loop (fun s1 => sk_G X C 7 S25 s1.2 87 [(0, .ref p0), (1, .int p1), (4, .int v23), (5, .int (if v39 < v32 then v39 else v32)), (6, .int s1.1)] []) he1 (fun s1 o1 hf ih1 hx1 => ?_)
        unfold fX10_lists_L87 at hf
        refine sk_iload K dX10_lists_87 4 rfl ?_
        refine sk_iload K dX10_lists_89 3 rfl ?_
        refine sk_icmp_ge 123 K dX10_lists_91 (by decide) (fun h43 => ?_) (fun h43 => ?_)
        · rw [if_pos h43] at hf
          refine sk_iload K dX10_lists_123 3 rfl ?_
          have hR44 : ((if v39 < v32 then v39 else v32), S25, s1.2) = (rr, SS, dd) := hret1 _ (hx1 _ (Option.some.inj hf).symm)
          exact sk_iret K dX10_lists_125 rfl rfl (congrArg (fun z => z.1) hR44) (congrArg (fun z => z.2.1) hR44) (congrArg (fun z => z.2.2) hR44)
        · rw [if_neg h43] at hf
          refine sk_aload_n K dX10_lists_94 rfl 0 rfl ?_
          obtain ⟨v45, e46, hf⟩ := sk_ob hf
          refine sk_getR K dX10_lists_95 fl_X10_53 rfl e46 ?_
          refine sk_iload_n K dX10_lists_98 rfl 1 rfl ?_
          obtain ⟨v47, e48, hf⟩ := sk_ob hf
          refine sk_ald24 K dX10_lists_99 e48 ?_
          refine sk_iload K dX10_lists_100 4 rfl ?_
          refine sk_aload_n K dX10_lists_102 rfl 0 rfl ?_
          obtain ⟨v49, e50, hf⟩ := sk_ob hf
          refine sk_getR K dX10_lists_103 fl_X10_26 rfl e50 ?_
          refine sk_iload K dX10_lists_106 2 rfl ?_
          refine sk_iload K dX10_lists_108 4 rfl ?_
          obtain ⟨h53, hf⟩ := sk_ib hf
          obtain ⟨v51, e52, hf⟩ := sk_ob hf
          refine sk_callV (As := [.int v23, .int s1.1]) (st := [.int s1.1, .ref v47]) K dX10_lists_110 cl_X10_237 h53 (sX8_deedAt C l e52) (by decide) rfl rfl (Nat.le_of_ble_eq_true rfl) R1_S25 R2_S25 ?_
          refine sk_i2l K dX10_lists_113 ?_
          obtain ⟨h57, hf⟩ := sk_ib hf
          obtain ⟨d56, e55, hf⟩ := sk_ob hf
          refine sk_callV (As := [.int s1.1, .long v51.toInt64]) (st := []) K dX10_lists_114 cl_X10_350 h57 (sX6_put C l e55) (by decide) rfl rfl (Nat.le_of_ble_eq_true rfl) R1_S25 R2_S25 ?_
          refine sk_iinc (s1.1 + 1) [(6, .int (s1.1 + 1)), (0, .ref p0), (1, .int p1), (4, .int v23), (5, .int (if v39 < v32 then v39 else v32))] K dX10_lists_117 4 rfl rfl (by decide) rfl ?_
          refine sk_goto 87 K dX10_lists_120 (by decide) ?_
          refine sk_sub [(0, .ref p0), (1, .int p1), (4, .int v23), (5, .int (if v39 < v32 then v39 else v32)), (6, .int (s1.1 + 1))] [1, 2, 3, 4, 0] rfl ?_
          have h9 := ih1 _ (Option.some.inj hf).symm
          exact h9
      · rw [if_neg h29] at hf
        refine sk_bipush (-5 : Int32) K dX10_lists_58 (by decide) ?_
        have hR58 : ((-5 : Int32), S25, d26) = (rr, SS, dd) := Option.some.inj hf
        exact sk_iret K dX10_lists_60 rfl rfl (congrArg (fun z => z.1) hR58) (congrArg (fun z => z.2.1) hR58) (congrArg (fun z => z.2.2) hR58)
    · rw [if_neg h12] at hf
      refine sk_bipush (-3 : Int32) K dX10_lists_26 (by decide) ?_
      have hR59 : ((-3 : Int32), S, d) = (rr, SS, dd) := Option.some.inj hf
      exact sk_iret K dX10_lists_28 rfl rfl (congrArg (fun z => z.1) hR59) (congrArg (fun z => z.2.1) hR59) (congrArg (fun z => z.2.2) hR59)
  · rw [if_neg h4] at hf
    refine sk_iload_n K dX10_lists_10 rfl 0 rfl ?_
    have hR60 : (v1, S, d) = (rr, SS, dd) := Option.some.inj hf
    exact sk_iret K dX10_lists_11 rfl rfl (congrArg (fun z => z.1) hR60) (congrArg (fun z => z.2.1) hR60) (congrArg (fun z => z.2.2) hR60)
noncomputable def fX11_init (S : sk_S) (d : sk_D) (p0 : Nat) : Option (sk_S × sk_D) :=
  (sk_mk S d 20 (3225 : Int32)).bind fun b5 => (sk_pR b5.2.1 p0 10 1 b5.1).bind fun S6 => (sk_mk S6 b5.2.2 23 (2 : Int32)).bind fun b12 => (sk_pR b12.2.1 p0 10 2 b12.1).bind fun S13 => (sk_mk S13 b12.2.2 20 (900 : Int32)).bind fun b19 => (sk_pR b19.2.1 p0 10 3 b19.1).bind fun S20 => (sk_mk S20 b19.2.2 20 (1075 : Int32)).bind fun b26 => (sk_pR b26.2.1 p0 10 4 b26.1).bind fun S27 => (sk_pI S27 b26.2.2 p0 10 14 (-1 : Int32)).bind fun d29 => (sk_mk S27 d29 20 (900 : Int32)).bind fun b35 => (sk_pR b35.2.1 p0 10 16 b35.1).bind fun S36 => (sk_mk S36 b35.2.2 20 (6 : Int32)).bind fun b42 => (sk_pR b42.2.1 p0 10 17 b42.1).bind fun S43 => (sk_mk S43 b42.2.2 20 (9 : Int32)).bind fun b49 => (sk_pR b49.2.1 p0 10 18 b49.1).bind fun S50 => (sk_mk S50 b49.2.2 20 (65536 : Int32)).bind fun b56 => (sk_pR b56.2.1 p0 10 21 b56.1).bind fun S57 => (sk_mk S57 b56.2.2 20 (1048576 : Int32)).bind fun b63 => (sk_pR b63.2.1 p0 10 22 b63.1).bind fun S64 => (sk_mk S64 b63.2.2 20 (65536 : Int32)).bind fun b70 => (sk_pR b70.2.1 p0 10 23 b70.1).bind fun S71 => (sk_mk S71 b70.2.2 23 (65536 : Int32)).bind fun b77 => (sk_pR b77.2.1 p0 10 24 b77.1).bind fun S78 => (sk_mk S78 b77.2.2 21 (65536 : Int32)).bind fun b84 => (sk_pR b84.2.1 p0 10 26 b84.1).bind fun S85 => (sk_mk S85 b84.2.2 21 (65536 : Int32)).bind fun b91 => (sk_pR b91.2.1 p0 10 27 b91.1).bind fun S92 => (sk_mk S92 b91.2.2 20 (8 : Int32)).bind fun b98 => (sk_pR b98.2.1 p0 10 28 b98.1).bind fun S99 => (sk_mk S99 b98.2.2 20 (256 : Int32)).bind fun b105 => (sk_pR b105.2.1 p0 10 29 b105.1).bind fun S106 => (sk_mk S106 b105.2.2 20 (8 : Int32)).bind fun b112 => (sk_pR b112.2.1 p0 10 30 b112.1).bind fun S113 => (sk_mk S113 b112.2.2 20 (8 : Int32)).bind fun b119 => (sk_pR b119.2.1 p0 10 31 b119.1).bind fun S120 => (sk_mk S120 b119.2.2 20 (8 : Int32)).bind fun b126 => (sk_pR b126.2.1 p0 10 33 b126.1).bind fun S127 => (sk_mk S127 b126.2.2 20 (4 : Int32)).bind fun b133 => (sk_sI b133.2.1 b133.2.2 b133.1 20 (0 : Int32) (-1 : Int32)).bind fun d134 => (sk_sI b133.2.1 d134 b133.1 20 (1 : Int32) (-1 : Int32)).bind fun d136 => (sk_sI b133.2.1 d136 b133.1 20 (2 : Int32) (-1 : Int32)).bind fun d138 => (sk_sI b133.2.1 d138 b133.1 20 (3 : Int32) (-1 : Int32)).bind fun d140 => (sk_pR b133.2.1 p0 10 34 b133.1).bind fun S142 => (sk_mk S142 d140 20 (4 : Int32)).bind fun b148 => (sk_pR b148.2.1 p0 10 35 b148.1).bind fun S149 => (sk_mk S149 b148.2.2 21 (160 : Int32)).bind fun b155 => (sk_pR b155.2.1 p0 10 36 b155.1).bind fun S156 => (sk_gR S156 p0 10 1).bind fun v158 => (fX11_plain S156 b155.2.2 v158).bind fun d162 => some (S156, d162)
theorem monoX11_init (S : sk_S) (d : sk_D) (p0 : Nat) : sk_Mo S.1 (fun (z : sk_S × sk_D) => z.1.1) (fX11_init S d p0) := by
  unfold fX11_init
  repeat' (first | exact mo_none | exact mo_some ⟨Nat.le_refl _, Nat.le_refl _⟩ | refine mo_pR (fun _ => ?_) | refine mo_mk (fun _ => ?_) | refine mo_sR24 (fun _ => ?_) | refine mo_sR25 (fun _ => ?_) | refine mo_ite ?_ ?_ | refine mo_bind (fun _ => ?_) | dsimp only | split)
set_option maxRecDepth 100000 in
set_option maxHeartbeats 4000000 in
theorem sX11_init (C : sk_C) (l : Launch) {S : sk_S} {d : sk_D} {p0 : Nat} {SS : sk_S} {dd : sk_D} (hf : fX11_init S d p0 = some (SS, dd)) : sk_Met C l 1 yX11_init cX11_init 1 none [.ref p0] S d none SS dd := by
  have hmono := mo_use (n := S.1) (pr := (fun (z : sk_S × sk_D) => z.1.1)) hf (monoX11_init S d p0)
  refine sk_Met.of (by decide) (Nat.le_of_ble_eq_true rfl) hmono.1 hmono.2 (fun X K0 hX => ?_)
  have K : sk_Ok X C cX11_init 1 RX11 "<init>" none 1 l none SS dd := K0
  have R1 : X.2.2.2.2.2.2.2.2.2.2.2.1 ≤ S.1.1 ∧ X.2.2.2.2.2.2.2.2.2.2.2.2 ≤ S.1.2 := by rw [hX]; exact ⟨Nat.le_refl _, Nat.le_refl _⟩
  have R2 : S.1.1 ≤ SS.1.1 ∧ S.1.2 ≤ SS.1.2 := hmono
  show sk_G X C 1 S d 0 [(0, .ref p0)] []
  unfold fX11_init at hf
  obtain ⟨⟨v1, S2, d3⟩, e4, hf⟩ := sk_ob hf
  try dsimp only at hf
  have R1_S2 := sk_le_tr R1 (sk_mk_1 e4)
  obtain ⟨S6, e7, hf⟩ := sk_ob hf
  have R1_S6 := sk_le_eq R1_S2 (sk_pR_1 e7)
  obtain ⟨⟨v8, S9, d10⟩, e11, hf⟩ := sk_ob hf
  try dsimp only at hf
  have R1_S9 := sk_le_tr R1_S6 (sk_mk_1 e11)
  obtain ⟨S13, e14, hf⟩ := sk_ob hf
  have R1_S13 := sk_le_eq R1_S9 (sk_pR_1 e14)
  obtain ⟨⟨v15, S16, d17⟩, e18, hf⟩ := sk_ob hf
  try dsimp only at hf
  have R1_S16 := sk_le_tr R1_S13 (sk_mk_1 e18)
  obtain ⟨S20, e21, hf⟩ := sk_ob hf
  have R1_S20 := sk_le_eq R1_S16 (sk_pR_1 e21)
  obtain ⟨⟨v22, S23, d24⟩, e25, hf⟩ := sk_ob hf
  try dsimp only at hf
  have R1_S23 := sk_le_tr R1_S20 (sk_mk_1 e25)
  obtain ⟨S27, e28, hf⟩ := sk_ob hf
  have R1_S27 := sk_le_eq R1_S23 (sk_pR_1 e28)
  obtain ⟨d29, e30, hf⟩ := sk_ob hf
  obtain ⟨⟨v31, S32, d33⟩, e34, hf⟩ := sk_ob hf
  try dsimp only at hf
  have R1_S32 := sk_le_tr R1_S27 (sk_mk_1 e34)
  obtain ⟨S36, e37, hf⟩ := sk_ob hf
  have R1_S36 := sk_le_eq R1_S32 (sk_pR_1 e37)
  obtain ⟨⟨v38, S39, d40⟩, e41, hf⟩ := sk_ob hf
  try dsimp only at hf
  have R1_S39 := sk_le_tr R1_S36 (sk_mk_1 e41)
  obtain ⟨S43, e44, hf⟩ := sk_ob hf
  have R1_S43 := sk_le_eq R1_S39 (sk_pR_1 e44)
  obtain ⟨⟨v45, S46, d47⟩, e48, hf⟩ := sk_ob hf
  try dsimp only at hf
  have R1_S46 := sk_le_tr R1_S43 (sk_mk_1 e48)
  obtain ⟨S50, e51, hf⟩ := sk_ob hf
  have R1_S50 := sk_le_eq R1_S46 (sk_pR_1 e51)
  obtain ⟨⟨v52, S53, d54⟩, e55, hf⟩ := sk_ob hf
  try dsimp only at hf
  have R1_S53 := sk_le_tr R1_S50 (sk_mk_1 e55)
  obtain ⟨S57, e58, hf⟩ := sk_ob hf
  have R1_S57 := sk_le_eq R1_S53 (sk_pR_1 e58)
  obtain ⟨⟨v59, S60, d61⟩, e62, hf⟩ := sk_ob hf
  try dsimp only at hf
  have R1_S60 := sk_le_tr R1_S57 (sk_mk_1 e62)
  obtain ⟨S64, e65, hf⟩ := sk_ob hf
  have R1_S64 := sk_le_eq R1_S60 (sk_pR_1 e65)
  obtain ⟨⟨v66, S67, d68⟩, e69, hf⟩ := sk_ob hf
  try dsimp only at hf
  have R1_S67 := sk_le_tr R1_S64 (sk_mk_1 e69)
  obtain ⟨S71, e72, hf⟩ := sk_ob hf
  have R1_S71 := sk_le_eq R1_S67 (sk_pR_1 e72)
  obtain ⟨⟨v73, S74, d75⟩, e76, hf⟩ := sk_ob hf
  try dsimp only at hf
  have R1_S74 := sk_le_tr R1_S71 (sk_mk_1 e76)
  obtain ⟨S78, e79, hf⟩ := sk_ob hf
  have R1_S78 := sk_le_eq R1_S74 (sk_pR_1 e79)
  obtain ⟨⟨v80, S81, d82⟩, e83, hf⟩ := sk_ob hf
  try dsimp only at hf
  have R1_S81 := sk_le_tr R1_S78 (sk_mk_1 e83)
  obtain ⟨S85, e86, hf⟩ := sk_ob hf
  have R1_S85 := sk_le_eq R1_S81 (sk_pR_1 e86)
  obtain ⟨⟨v87, S88, d89⟩, e90, hf⟩ := sk_ob hf
  try dsimp only at hf
  have R1_S88 := sk_le_tr R1_S85 (sk_mk_1 e90)
  obtain ⟨S92, e93, hf⟩ := sk_ob hf
  have R1_S92 := sk_le_eq R1_S88 (sk_pR_1 e93)
  obtain ⟨⟨v94, S95, d96⟩, e97, hf⟩ := sk_ob hf
  try dsimp only at hf
  have R1_S95 := sk_le_tr R1_S92 (sk_mk_1 e97)
  obtain ⟨S99, e100, hf⟩ := sk_ob hf
  have R1_S99 := sk_le_eq R1_S95 (sk_pR_1 e100)
  obtain ⟨⟨v101, S102, d103⟩, e104, hf⟩ := sk_ob hf
  try dsimp only at hf
  have R1_S102 := sk_le_tr R1_S99 (sk_mk_1 e104)
  obtain ⟨S106, e107, hf⟩ := sk_ob hf
  have R1_S106 := sk_le_eq R1_S102 (sk_pR_1 e107)
  obtain ⟨⟨v108, S109, d110⟩, e111, hf⟩ := sk_ob hf
  try dsimp only at hf
  have R1_S109 := sk_le_tr R1_S106 (sk_mk_1 e111)
  obtain ⟨S113, e114, hf⟩ := sk_ob hf
  have R1_S113 := sk_le_eq R1_S109 (sk_pR_1 e114)
  obtain ⟨⟨v115, S116, d117⟩, e118, hf⟩ := sk_ob hf
  try dsimp only at hf
  have R1_S116 := sk_le_tr R1_S113 (sk_mk_1 e118)
  obtain ⟨S120, e121, hf⟩ := sk_ob hf
  have R1_S120 := sk_le_eq R1_S116 (sk_pR_1 e121)
  obtain ⟨⟨v122, S123, d124⟩, e125, hf⟩ := sk_ob hf
  try dsimp only at hf
  have R1_S123 := sk_le_tr R1_S120 (sk_mk_1 e125)
  obtain ⟨S127, e128, hf⟩ := sk_ob hf
  have R1_S127 := sk_le_eq R1_S123 (sk_pR_1 e128)
  obtain ⟨⟨v129, S130, d131⟩, e132, hf⟩ := sk_ob hf
  try dsimp only at hf
  have R1_S130 := sk_le_tr R1_S127 (sk_mk_1 e132)
  obtain ⟨d134, e135, hf⟩ := sk_ob hf
  obtain ⟨d136, e137, hf⟩ := sk_ob hf
  obtain ⟨d138, e139, hf⟩ := sk_ob hf
  obtain ⟨d140, e141, hf⟩ := sk_ob hf
  obtain ⟨S142, e143, hf⟩ := sk_ob hf
  have R1_S142 := sk_le_eq R1_S130 (sk_pR_1 e143)
  obtain ⟨⟨v144, S145, d146⟩, e147, hf⟩ := sk_ob hf
  try dsimp only at hf
  have R1_S145 := sk_le_tr R1_S142 (sk_mk_1 e147)
  obtain ⟨S149, e150, hf⟩ := sk_ob hf
  have R1_S149 := sk_le_eq R1_S145 (sk_pR_1 e150)
  obtain ⟨⟨v151, S152, d153⟩, e154, hf⟩ := sk_ob hf
  try dsimp only at hf
  have R1_S152 := sk_le_tr R1_S149 (sk_mk_1 e154)
  obtain ⟨S156, e157, hf⟩ := sk_ob hf
  have R1_S156 := sk_le_eq R1_S152 (sk_pR_1 e157)
  obtain ⟨v158, e159, hf⟩ := sk_ob hf
  obtain ⟨d162, e161, hf⟩ := sk_ob hf
  have hR163 : (S156, d162) = (SS, dd) := Option.some.inj hf
  have R2_S156 : S156.1.1 ≤ SS.1.1 ∧ S156.1.2 ≤ SS.1.2 := sk_ss_le (show S156 = SS from congrArg (fun z => z.1) hR163)
  have R2_S152 : S152.1.1 ≤ SS.1.1 ∧ S152.1.2 ≤ SS.1.2 := sk_le_tr (sk_eq_le (sk_pR_1 e157)) R2_S156
  have R2_S149 : S149.1.1 ≤ SS.1.1 ∧ S149.1.2 ≤ SS.1.2 := sk_le_tr (sk_mk_1 e154) R2_S152
  have R2_S145 : S145.1.1 ≤ SS.1.1 ∧ S145.1.2 ≤ SS.1.2 := sk_le_tr (sk_eq_le (sk_pR_1 e150)) R2_S149
  have R2_S142 : S142.1.1 ≤ SS.1.1 ∧ S142.1.2 ≤ SS.1.2 := sk_le_tr (sk_mk_1 e147) R2_S145
  have R2_S130 : S130.1.1 ≤ SS.1.1 ∧ S130.1.2 ≤ SS.1.2 := sk_le_tr (sk_eq_le (sk_pR_1 e143)) R2_S142
  have R2_S127 : S127.1.1 ≤ SS.1.1 ∧ S127.1.2 ≤ SS.1.2 := sk_le_tr (sk_mk_1 e132) R2_S130
  have R2_S123 : S123.1.1 ≤ SS.1.1 ∧ S123.1.2 ≤ SS.1.2 := sk_le_tr (sk_eq_le (sk_pR_1 e128)) R2_S127
  have R2_S120 : S120.1.1 ≤ SS.1.1 ∧ S120.1.2 ≤ SS.1.2 := sk_le_tr (sk_mk_1 e125) R2_S123
  have R2_S116 : S116.1.1 ≤ SS.1.1 ∧ S116.1.2 ≤ SS.1.2 := sk_le_tr (sk_eq_le (sk_pR_1 e121)) R2_S120
  have R2_S113 : S113.1.1 ≤ SS.1.1 ∧ S113.1.2 ≤ SS.1.2 := sk_le_tr (sk_mk_1 e118) R2_S116
  have R2_S109 : S109.1.1 ≤ SS.1.1 ∧ S109.1.2 ≤ SS.1.2 := sk_le_tr (sk_eq_le (sk_pR_1 e114)) R2_S113
  have R2_S106 : S106.1.1 ≤ SS.1.1 ∧ S106.1.2 ≤ SS.1.2 := sk_le_tr (sk_mk_1 e111) R2_S109
  have R2_S102 : S102.1.1 ≤ SS.1.1 ∧ S102.1.2 ≤ SS.1.2 := sk_le_tr (sk_eq_le (sk_pR_1 e107)) R2_S106
  have R2_S99 : S99.1.1 ≤ SS.1.1 ∧ S99.1.2 ≤ SS.1.2 := sk_le_tr (sk_mk_1 e104) R2_S102
  have R2_S95 : S95.1.1 ≤ SS.1.1 ∧ S95.1.2 ≤ SS.1.2 := sk_le_tr (sk_eq_le (sk_pR_1 e100)) R2_S99
  have R2_S92 : S92.1.1 ≤ SS.1.1 ∧ S92.1.2 ≤ SS.1.2 := sk_le_tr (sk_mk_1 e97) R2_S95
  have R2_S88 : S88.1.1 ≤ SS.1.1 ∧ S88.1.2 ≤ SS.1.2 := sk_le_tr (sk_eq_le (sk_pR_1 e93)) R2_S92
  have R2_S85 : S85.1.1 ≤ SS.1.1 ∧ S85.1.2 ≤ SS.1.2 := sk_le_tr (sk_mk_1 e90) R2_S88
  have R2_S81 : S81.1.1 ≤ SS.1.1 ∧ S81.1.2 ≤ SS.1.2 := sk_le_tr (sk_eq_le (sk_pR_1 e86)) R2_S85
  have R2_S78 : S78.1.1 ≤ SS.1.1 ∧ S78.1.2 ≤ SS.1.2 := sk_le_tr (sk_mk_1 e83) R2_S81
  have R2_S74 : S74.1.1 ≤ SS.1.1 ∧ S74.1.2 ≤ SS.1.2 := sk_le_tr (sk_eq_le (sk_pR_1 e79)) R2_S78
  have R2_S71 : S71.1.1 ≤ SS.1.1 ∧ S71.1.2 ≤ SS.1.2 := sk_le_tr (sk_mk_1 e76) R2_S74
  have R2_S67 : S67.1.1 ≤ SS.1.1 ∧ S67.1.2 ≤ SS.1.2 := sk_le_tr (sk_eq_le (sk_pR_1 e72)) R2_S71
  have R2_S64 : S64.1.1 ≤ SS.1.1 ∧ S64.1.2 ≤ SS.1.2 := sk_le_tr (sk_mk_1 e69) R2_S67
  have R2_S60 : S60.1.1 ≤ SS.1.1 ∧ S60.1.2 ≤ SS.1.2 := sk_le_tr (sk_eq_le (sk_pR_1 e65)) R2_S64
  have R2_S57 : S57.1.1 ≤ SS.1.1 ∧ S57.1.2 ≤ SS.1.2 := sk_le_tr (sk_mk_1 e62) R2_S60
  have R2_S53 : S53.1.1 ≤ SS.1.1 ∧ S53.1.2 ≤ SS.1.2 := sk_le_tr (sk_eq_le (sk_pR_1 e58)) R2_S57
  have R2_S50 : S50.1.1 ≤ SS.1.1 ∧ S50.1.2 ≤ SS.1.2 := sk_le_tr (sk_mk_1 e55) R2_S53
  have R2_S46 : S46.1.1 ≤ SS.1.1 ∧ S46.1.2 ≤ SS.1.2 := sk_le_tr (sk_eq_le (sk_pR_1 e51)) R2_S50
  have R2_S43 : S43.1.1 ≤ SS.1.1 ∧ S43.1.2 ≤ SS.1.2 := sk_le_tr (sk_mk_1 e48) R2_S46
  have R2_S39 : S39.1.1 ≤ SS.1.1 ∧ S39.1.2 ≤ SS.1.2 := sk_le_tr (sk_eq_le (sk_pR_1 e44)) R2_S43
  have R2_S36 : S36.1.1 ≤ SS.1.1 ∧ S36.1.2 ≤ SS.1.2 := sk_le_tr (sk_mk_1 e41) R2_S39
  have R2_S32 : S32.1.1 ≤ SS.1.1 ∧ S32.1.2 ≤ SS.1.2 := sk_le_tr (sk_eq_le (sk_pR_1 e37)) R2_S36
  have R2_S27 : S27.1.1 ≤ SS.1.1 ∧ S27.1.2 ≤ SS.1.2 := sk_le_tr (sk_mk_1 e34) R2_S32
  have R2_S23 : S23.1.1 ≤ SS.1.1 ∧ S23.1.2 ≤ SS.1.2 := sk_le_tr (sk_eq_le (sk_pR_1 e28)) R2_S27
  have R2_S20 : S20.1.1 ≤ SS.1.1 ∧ S20.1.2 ≤ SS.1.2 := sk_le_tr (sk_mk_1 e25) R2_S23
  have R2_S16 : S16.1.1 ≤ SS.1.1 ∧ S16.1.2 ≤ SS.1.2 := sk_le_tr (sk_eq_le (sk_pR_1 e21)) R2_S20
  have R2_S13 : S13.1.1 ≤ SS.1.1 ∧ S13.1.2 ≤ SS.1.2 := sk_le_tr (sk_mk_1 e18) R2_S16
  have R2_S9 : S9.1.1 ≤ SS.1.1 ∧ S9.1.2 ≤ SS.1.2 := sk_le_tr (sk_eq_le (sk_pR_1 e14)) R2_S13
  have R2_S6 : S6.1.1 ≤ SS.1.1 ∧ S6.1.2 ≤ SS.1.2 := sk_le_tr (sk_mk_1 e11) R2_S9
  have R2_S2 : S2.1.1 ≤ SS.1.1 ∧ S2.1.2 ≤ SS.1.2 := sk_le_tr (sk_eq_le (sk_pR_1 e7)) R2_S6
  refine sk_aload_n K dX11_init_0 rfl 0 rfl ?_
  refine sk_objInit K dX11_init_1 qw_1307 qw_153 qw_154 (by decide) (Nat.le_of_ble_eq_true rfl) ?_
  refine sk_aload_n K dX11_init_4 rfl 0 rfl ?_
  refine sk_sipush (3225 : Int32) K dX11_init_5 (by decide) ?_
  refine sk_newa20 K dX11_init_8 qw_183 e4 R1 R2_S2 ?_
  refine sk_putRF S6 K dX11_init_10 fl_X11_13 (fun _ _ _ h => by cases h; rfl) rfl rfl rfl rfl e7 ?_
  refine sk_aload_n K dX11_init_13 rfl 0 rfl ?_
  refine sk_iconst (2 : Int32) K dX11_init_14 (by decide) ?_
  refine sk_newa23 K dX11_init_15 qw_1425 e11 R1_S6 R2_S9 ?_
  refine sk_putRF S13 K dX11_init_17 fl_X11_17 (fun _ _ _ h => by cases h; rfl) rfl rfl rfl rfl e14 ?_
  refine sk_aload_n K dX11_init_20 rfl 0 rfl ?_
  refine sk_sipush (900 : Int32) K dX11_init_21 (by decide) ?_
  refine sk_newa20 K dX11_init_24 qw_183 e18 R1_S13 R2_S16 ?_
  refine sk_putRF S20 K dX11_init_26 fl_X11_21 (fun _ _ _ h => by cases h; rfl) rfl rfl rfl rfl e21 ?_
  refine sk_aload_n K dX11_init_29 rfl 0 rfl ?_
  refine sk_sipush (1075 : Int32) K dX11_init_30 (by decide) ?_
  refine sk_newa20 K dX11_init_33 qw_183 e25 R1_S20 R2_S23 ?_
  refine sk_putRF S27 K dX11_init_35 fl_X11_24 (fun _ _ _ h => by cases h; rfl) rfl rfl rfl rfl e28 ?_
  refine sk_aload_n K dX11_init_38 rfl 0 rfl ?_
  refine sk_iconst (-1 : Int32) K dX11_init_39 (by decide) ?_
  refine sk_putI d29 K dX11_init_40 fl_X11_27 rfl rfl rfl e30 ?_
  refine sk_aload_n K dX11_init_43 rfl 0 rfl ?_
  refine sk_sipush (900 : Int32) K dX11_init_44 (by decide) ?_
  refine sk_newa20 K dX11_init_47 qw_183 e34 R1_S27 R2_S32 ?_
  refine sk_putRF S36 K dX11_init_49 fl_X11_30 (fun _ _ _ h => by cases h; rfl) rfl rfl rfl rfl e37 ?_
  refine sk_aload_n K dX11_init_52 rfl 0 rfl ?_
  refine sk_bipush (6 : Int32) K dX11_init_53 (by decide) ?_
  refine sk_newa20 K dX11_init_55 qw_183 e41 R1_S36 R2_S39 ?_
  refine sk_putRF S43 K dX11_init_57 fl_X11_33 (fun _ _ _ h => by cases h; rfl) rfl rfl rfl rfl e44 ?_
  refine sk_aload_n K dX11_init_60 rfl 0 rfl ?_
  refine sk_bipush (9 : Int32) K dX11_init_61 (by decide) ?_
  refine sk_newa20 K dX11_init_63 qw_183 e48 R1_S43 R2_S46 ?_
  refine sk_putRF S50 K dX11_init_65 fl_X11_36 (fun _ _ _ h => by cases h; rfl) rfl rfl rfl rfl e51 ?_
  refine sk_aload_n K dX11_init_68 rfl 0 rfl ?_
  refine sk_ldc K dX11_init_69 qw_1308 ?_
  refine sk_newa20 K dX11_init_71 qw_183 e55 R1_S50 R2_S53 ?_
  refine sk_putRF S57 K dX11_init_73 fl_X11_40 (fun _ _ _ h => by cases h; rfl) rfl rfl rfl rfl e58 ?_
  refine sk_aload_n K dX11_init_76 rfl 0 rfl ?_
  refine sk_ldc K dX11_init_77 qw_1309 ?_
  refine sk_newa20 K dX11_init_79 qw_183 e62 R1_S57 R2_S60 ?_
  refine sk_putRF S64 K dX11_init_81 fl_X11_44 (fun _ _ _ h => by cases h; rfl) rfl rfl rfl rfl e65 ?_
  refine sk_aload_n K dX11_init_84 rfl 0 rfl ?_
  refine sk_ldc K dX11_init_85 qw_1308 ?_
  refine sk_newa20 K dX11_init_87 qw_183 e69 R1_S64 R2_S67 ?_
  refine sk_putRF S71 K dX11_init_89 fl_X11_47 (fun _ _ _ h => by cases h; rfl) rfl rfl rfl rfl e72 ?_
  refine sk_aload_n K dX11_init_92 rfl 0 rfl ?_
  refine sk_ldc K dX11_init_93 qw_1308 ?_
  refine sk_newa23 K dX11_init_95 qw_1425 e76 R1_S71 R2_S74 ?_
  refine sk_putRF S78 K dX11_init_97 fl_X11_50 (fun _ _ _ h => by cases h; rfl) rfl rfl rfl rfl e79 ?_
  refine sk_aload_n K dX11_init_100 rfl 0 rfl ?_
  refine sk_ldc K dX11_init_101 qw_1308 ?_
  refine sk_newa21 K dX11_init_103 qw_351 e83 R1_S78 R2_S81 ?_
  refine sk_putRF S85 K dX11_init_105 fl_X11_53 (fun _ _ _ h => by cases h; rfl) rfl rfl rfl rfl e86 ?_
  refine sk_aload_n K dX11_init_108 rfl 0 rfl ?_
  refine sk_ldc K dX11_init_109 qw_1308 ?_
  refine sk_newa21 K dX11_init_111 qw_351 e90 R1_S85 R2_S88 ?_
  refine sk_putRF S92 K dX11_init_113 fl_X11_57 (fun _ _ _ h => by cases h; rfl) rfl rfl rfl rfl e93 ?_
  refine sk_aload_n K dX11_init_116 rfl 0 rfl ?_
  refine sk_bipush (8 : Int32) K dX11_init_117 (by decide) ?_
  refine sk_newa20 K dX11_init_119 qw_183 e97 R1_S92 R2_S95 ?_
  refine sk_putRF S99 K dX11_init_121 fl_X11_60 (fun _ _ _ h => by cases h; rfl) rfl rfl rfl rfl e100 ?_
  refine sk_aload_n K dX11_init_124 rfl 0 rfl ?_
  refine sk_sipush (256 : Int32) K dX11_init_125 (by decide) ?_
  refine sk_newa20 K dX11_init_128 qw_183 e104 R1_S99 R2_S102 ?_
  refine sk_putRF S106 K dX11_init_130 fl_X11_63 (fun _ _ _ h => by cases h; rfl) rfl rfl rfl rfl e107 ?_
  refine sk_aload_n K dX11_init_133 rfl 0 rfl ?_
  refine sk_bipush (8 : Int32) K dX11_init_134 (by decide) ?_
  refine sk_newa20 K dX11_init_136 qw_183 e111 R1_S106 R2_S109 ?_
  refine sk_putRF S113 K dX11_init_138 fl_X11_66 (fun _ _ _ h => by cases h; rfl) rfl rfl rfl rfl e114 ?_
  refine sk_aload_n K dX11_init_141 rfl 0 rfl ?_
  refine sk_bipush (8 : Int32) K dX11_init_142 (by decide) ?_
  refine sk_newa20 K dX11_init_144 qw_183 e118 R1_S113 R2_S116 ?_
  refine sk_putRF S120 K dX11_init_146 fl_X11_69 (fun _ _ _ h => by cases h; rfl) rfl rfl rfl rfl e121 ?_
  refine sk_aload_n K dX11_init_149 rfl 0 rfl ?_
  refine sk_bipush (8 : Int32) K dX11_init_150 (by decide) ?_
  refine sk_newa20 K dX11_init_152 qw_183 e125 R1_S120 R2_S123 ?_
  refine sk_putRF S127 K dX11_init_154 fl_X11_72 (fun _ _ _ h => by cases h; rfl) rfl rfl rfl rfl e128 ?_
  refine sk_aload_n K dX11_init_157 rfl 0 rfl ?_
  refine sk_iconst (4 : Int32) K dX11_init_158 (by decide) ?_
  refine sk_newa20 K dX11_init_159 qw_183 e132 R1_S127 R2_S130 ?_
  refine sk_dup K dX11_init_161 rfl ?_
  refine sk_iconst (0 : Int32) K dX11_init_162 (by decide) ?_
  refine sk_iconst (-1 : Int32) K dX11_init_163 (by decide) ?_
  refine sk_ast20 d134 K dX11_init_164 e135 ?_
  refine sk_dup K dX11_init_165 rfl ?_
  refine sk_iconst (1 : Int32) K dX11_init_166 (by decide) ?_
  refine sk_iconst (-1 : Int32) K dX11_init_167 (by decide) ?_
  refine sk_ast20 d136 K dX11_init_168 e137 ?_
  refine sk_dup K dX11_init_169 rfl ?_
  refine sk_iconst (2 : Int32) K dX11_init_170 (by decide) ?_
  refine sk_iconst (-1 : Int32) K dX11_init_171 (by decide) ?_
  refine sk_ast20 d138 K dX11_init_172 e139 ?_
  refine sk_dup K dX11_init_173 rfl ?_
  refine sk_iconst (3 : Int32) K dX11_init_174 (by decide) ?_
  refine sk_iconst (-1 : Int32) K dX11_init_175 (by decide) ?_
  refine sk_ast20 d140 K dX11_init_176 e141 ?_
  refine sk_putRF S142 K dX11_init_177 fl_X11_75 (fun _ _ _ h => by cases h; rfl) rfl rfl rfl rfl e143 ?_
  refine sk_aload_n K dX11_init_180 rfl 0 rfl ?_
  refine sk_iconst (4 : Int32) K dX11_init_181 (by decide) ?_
  refine sk_newa20 K dX11_init_182 qw_183 e147 R1_S142 R2_S145 ?_
  refine sk_putRF S149 K dX11_init_184 fl_X11_78 (fun _ _ _ h => by cases h; rfl) rfl rfl rfl rfl e150 ?_
  refine sk_aload_n K dX11_init_187 rfl 0 rfl ?_
  refine sk_sipush (160 : Int32) K dX11_init_188 (by decide) ?_
  refine sk_newa21 K dX11_init_191 qw_351 e154 R1_S149 R2_S152 ?_
  refine sk_putRF S156 K dX11_init_193 fl_X11_81 (fun _ _ _ h => by cases h; rfl) rfl rfl rfl rfl e157 ?_
  refine sk_aload_n K dX11_init_196 rfl 0 rfl ?_
  refine sk_getR K dX11_init_197 fl_X11_13 rfl e159 ?_
  refine sk_callS (As := [.ref v158]) (st := []) K dX11_init_200 cl_X11_84 (sX11_plain C l e161) (by decide) rfl rfl (Nat.le_of_ble_eq_true rfl) R1_S156 R2_S156 ?_
  exact sk_vret K dX11_init_203 rfl rfl (congrArg (fun z => z.1) hR163) (congrArg (fun z => z.2) hR163)
