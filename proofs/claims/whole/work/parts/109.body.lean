noncomputable def fX11_hasNeeds (S : sk_S) (d : sk_D) (p0 : Nat) (p1 : Int32) (p2 : Int32) : Option (Bool) :=
  (sk_gR S p0 10 1).bind fun v1 => (sk_lI S d v1 20 ((50 : Int32) + p2)).bind fun v3 => if S.2.1 p0 = (10, 0) then ((fX11_doneIn S d p0 p1).bind fun v5 => if (v3 &&& (v5 ^^^ (-1 : Int32))) = 0 then (some true) else (some false)) else none
set_option maxRecDepth 100000 in
set_option maxHeartbeats 4000000 in
theorem sX11_hasNeeds (C : sk_C) (l : Launch) {S : sk_S} {d : sk_D} {p0 : Nat} {p1 : Int32} {p2 : Int32} {rr : Bool} (hf : fX11_hasNeeds S d p0 p1 p2 = some rr) : sk_Met C l 3 yX11_hasNeeds cX11_hasNeeds 3 (some .boolean) [.ref p0, .int p1, .int p2] S d (some (.int (sk_b rr))) S d := by
  refine sk_Met.of (by decide) (Nat.le_of_ble_eq_true rfl) (Nat.le_refl _) (Nat.le_refl _) (fun X K0 hX => ?_)
  have K : sk_Ok X C cX11_hasNeeds 3 RX11 "hasNeeds" (some .boolean) 3 l (some (.int (sk_b rr))) S d := K0
  have R1 : X.2.2.2.2.2.2.2.2.2.2.2.1 ≤ S.1.1 ∧ X.2.2.2.2.2.2.2.2.2.2.2.2 ≤ S.1.2 := by rw [hX]; exact ⟨Nat.le_refl _, Nat.le_refl _⟩
  have R2 : S.1.1 ≤ S.1.1 ∧ S.1.2 ≤ S.1.2 := ⟨Nat.le_refl _, Nat.le_refl _⟩
  show sk_G X C 3 S d 0 [(0, .ref p0), (1, .int p1), (2, .int p2)] []
  unfold fX11_hasNeeds at hf
  refine sk_aload_n K dX11_hasNeeds_0 rfl 0 rfl ?_
  obtain ⟨v1, e2, hf⟩ := sk_ob hf
  refine sk_getR K dX11_hasNeeds_1 fl_X11_13 rfl e2 ?_
  refine sk_bipush (50 : Int32) K dX11_hasNeeds_4 (by decide) ?_
  refine sk_iload_n K dX11_hasNeeds_6 rfl 2 rfl ?_
  refine sk_iadd K dX11_hasNeeds_7 ?_
  obtain ⟨v3, e4, hf⟩ := sk_ob hf
  refine sk_ald20 K dX11_hasNeeds_8 e4 ?_
  refine sk_aload_n K dX11_hasNeeds_9 rfl 0 rfl ?_
  refine sk_iload_n K dX11_hasNeeds_10 rfl 1 rfl ?_
  obtain ⟨h7, hf⟩ := sk_ib hf
  obtain ⟨v5, e6, hf⟩ := sk_ob hf
  refine sk_callV (As := [.int p1]) (st := [.int v3]) K dX11_hasNeeds_11 cl_X11_245 h7 (sX11_doneIn C l e6) (by decide) rfl rfl (Nat.le_of_ble_eq_true rfl) R1 R2 ?_
  refine sk_iconst (-1 : Int32) K dX11_hasNeeds_14 (by decide) ?_
  refine sk_ixor K dX11_hasNeeds_15 ?_
  refine sk_iand K dX11_hasNeeds_16 ?_
  refine sk_if_ne 24 K dX11_hasNeeds_17 (by decide) (fun h8 => ?_) (fun h8 => ?_)
  · rw [if_neg h8] at hf
    refine sk_iconst (0 : Int32) K dX11_hasNeeds_24 (by decide) ?_
    have hR9 : false = rr := Option.some.inj hf
    exact sk_zret (x := false) K dX11_hasNeeds_25 rfl rfl hR9 rfl rfl
  · rw [if_pos h8] at hf
    refine sk_iconst (1 : Int32) K dX11_hasNeeds_20 (by decide) ?_
    refine sk_goto 25 K dX11_hasNeeds_21 (by decide) ?_
    have hR10 : true = rr := Option.some.inj hf
    exact sk_zret (x := true) K dX11_hasNeeds_25 rfl rfl hR10 rfl rfl
noncomputable def fX11_isDone (S : sk_S) (d : sk_D) (p0 : Int32) (p1 : Int32) : Option (Bool) :=
  (fX11_howIn S d p0 p1).bind fun v1 => if v1 = (1 : Int32) then (some true) else ((fX11_howIn S d p0 p1).bind fun v5 => if v5 = (2 : Int32) then (some true) else (some false))
set_option maxRecDepth 100000 in
set_option maxHeartbeats 4000000 in
theorem sX11_isDone (C : sk_C) (l : Launch) {S : sk_S} {d : sk_D} {p0 : Int32} {p1 : Int32} {rr : Bool} (hf : fX11_isDone S d p0 p1 = some rr) : sk_Met C l 1 yX11_isDone cX11_isDone 2 (some .boolean) [.int p0, .int p1] S d (some (.int (sk_b rr))) S d := by
  refine sk_Met.of (by decide) (Nat.le_of_ble_eq_true rfl) (Nat.le_refl _) (Nat.le_refl _) (fun X K0 hX => ?_)
  have K : sk_Ok X C cX11_isDone 2 RX11 "isDone" (some .boolean) 1 l (some (.int (sk_b rr))) S d := K0
  have R1 : X.2.2.2.2.2.2.2.2.2.2.2.1 ≤ S.1.1 ∧ X.2.2.2.2.2.2.2.2.2.2.2.2 ≤ S.1.2 := by rw [hX]; exact ⟨Nat.le_refl _, Nat.le_refl _⟩
  have R2 : S.1.1 ≤ S.1.1 ∧ S.1.2 ≤ S.1.2 := ⟨Nat.le_refl _, Nat.le_refl _⟩
  show sk_G X C 2 S d 0 [(0, .int p0), (1, .int p1)] []
  unfold fX11_isDone at hf
  refine sk_iload_n K dX11_isDone_0 rfl 0 rfl ?_
  refine sk_iload_n K dX11_isDone_1 rfl 1 rfl ?_
  obtain ⟨v1, e2, hf⟩ := sk_ob hf
  refine sk_callS (As := [.int p0, .int p1]) (st := []) K dX11_isDone_2 cl_X11_215 (sX11_howIn C l e2) (by decide) rfl rfl (Nat.le_of_ble_eq_true rfl) R1 R2 ?_
  refine sk_iconst (1 : Int32) K dX11_isDone_5 (by decide) ?_
  refine sk_icmp_eq 18 K dX11_isDone_6 (by decide) (fun h3 => ?_) (fun h3 => ?_)
  · rw [if_pos h3] at hf
    refine sk_iconst (1 : Int32) K dX11_isDone_18 (by decide) ?_
    refine sk_goto 23 K dX11_isDone_19 (by decide) ?_
    have hR4 : true = rr := Option.some.inj hf
    exact sk_zret (x := true) K dX11_isDone_23 rfl rfl hR4 rfl rfl
  · rw [if_neg h3] at hf
    refine sk_iload_n K dX11_isDone_9 rfl 0 rfl ?_
    refine sk_iload_n K dX11_isDone_10 rfl 1 rfl ?_
    obtain ⟨v5, e6, hf⟩ := sk_ob hf
    refine sk_callS (As := [.int p0, .int p1]) (st := []) K dX11_isDone_11 cl_X11_215 (sX11_howIn C l e6) (by decide) rfl rfl (Nat.le_of_ble_eq_true rfl) R1 R2 ?_
    refine sk_iconst (2 : Int32) K dX11_isDone_14 (by decide) ?_
    refine sk_icmp_ne 22 K dX11_isDone_15 (by decide) (fun h7 => ?_) (fun h7 => ?_)
    · rw [if_neg h7] at hf
      refine sk_iconst (0 : Int32) K dX11_isDone_22 (by decide) ?_
      have hR8 : false = rr := Option.some.inj hf
      exact sk_zret (x := false) K dX11_isDone_23 rfl rfl hR8 rfl rfl
    · rw [if_pos h7] at hf
      refine sk_iconst (1 : Int32) K dX11_isDone_18 (by decide) ?_
      refine sk_goto 23 K dX11_isDone_19 (by decide) ?_
      have hR9 : true = rr := Option.some.inj hf
      exact sk_zret (x := true) K dX11_isDone_23 rfl rfl hR9 rfl rfl
noncomputable def fX11_doneTo_J69 (S : sk_S) (v1 : Int32) (v2 : Int32) (v3 : Int32) (d4 : sk_D) : Option (Int32 × sk_D) :=
  (fX11_withHow S d4 v1 v2 v3).bind fun v5 => some (v5, d4)
noncomputable def fX11_doneTo_J55 (S : sk_S) (p2 : Int32) (v8 : Int32) (v9 : Int32) (d10 : sk_D) : Option (Int32 × sk_D) :=
  if v9 = 0 then (fX11_doneTo_J69 S v8 p2 (2 : Int32) d10) else (fX11_doneTo_J69 S v8 p2 (1 : Int32) d10)
noncomputable def fX11_doneTo_J54 (S : sk_S) (p2 : Int32) (v12 : Int32) (d13 : sk_D) : Option (Int32 × sk_D) :=
  fX11_doneTo_J55 S p2 v12 (0 : Int32) d13
noncomputable def fX11_doneTo_J50 (S : sk_S) (p2 : Int32) (v14 : Int32) (d15 : sk_D) : Option (Int32 × sk_D) :=
  fX11_doneTo_J55 S p2 v14 (1 : Int32) d15
noncomputable def fX11_doneTo (S : sk_S) (d : sk_D) (p0 : Nat) (p1 : Int32) (p2 : Int32) : Option (Int32 × sk_D) :=
  (fX11_withHow S d p1 p2 (0 : Int32)).bind fun v16 => (sk_gR S p0 10 1).bind fun v18 => (sk_lI S d v18 20 ((10 : Int32) + p2)).bind fun v20 => if S.2.1 p0 = (10, 0) then ((fX11_leftIn S d p0 v16).bind fun v22 => if v22 < v20 then (fX11_doneTo_J54 S p2 v16 d) else ((sk_gR S p0 10 1).bind fun v26 => (sk_lI S d v26 20 (4 : Int32)).bind fun v28 => if v28 = 0 then (fX11_doneTo_J50 S p2 v16 d) else ((sk_gR S p0 10 1).bind fun v31 => (sk_lI S d v31 20 (82 : Int32)).bind fun v33 => if S.2.1 p0 = (10, 0) then ((fX11_reckons S d p0 (0 : Int32) v16 p2 v33).bind fun b39 => if b39.1 = true then (fX11_doneTo_J50 S p2 v16 b39.2) else (fX11_doneTo_J54 S p2 v16 b39.2)) else none))) else none
set_option maxRecDepth 100000 in
set_option maxHeartbeats 4000000 in
theorem sX11_doneTo (C : sk_C) (l : Launch) {S : sk_S} {d : sk_D} {p0 : Nat} {p1 : Int32} {p2 : Int32} {rr : Int32} {dd : sk_D} (hf : fX11_doneTo S d p0 p1 p2 = some (rr, dd)) : sk_Met C l 5 yX11_doneTo cX11_doneTo 5 (some .int) [.ref p0, .int p1, .int p2] S d (some (.int rr)) S dd := by
  refine sk_Met.of (by decide) (Nat.le_of_ble_eq_true rfl) (Nat.le_refl _) (Nat.le_refl _) (fun X K0 hX => ?_)
  have K : sk_Ok X C cX11_doneTo 5 RX11 "doneTo" (some .int) 5 l (some (.int rr)) S dd := K0
  have R1 : X.2.2.2.2.2.2.2.2.2.2.2.1 ≤ S.1.1 ∧ X.2.2.2.2.2.2.2.2.2.2.2.2 ≤ S.1.2 := by rw [hX]; exact ⟨Nat.le_refl _, Nat.le_refl _⟩
  have R2 : S.1.1 ≤ S.1.1 ∧ S.1.2 ≤ S.1.2 := ⟨Nat.le_refl _, Nat.le_refl _⟩
  show sk_G X C 5 S d 0 [(0, .ref p0), (1, .int p1), (2, .int p2)] []
  unfold fX11_doneTo at hf
  have j69_0 : ∀ (v1 : Int32) (v2 : Int32) (v3 : Int32) (d4 : sk_D), fX11_doneTo_J69 S v1 v2 v3 d4 = some (rr, dd) → sk_G X C 5 S d4 69 [] [.int v3, .int v2, .int v1] := by
    intro v1 v2 v3 d4 hf
    unfold fX11_doneTo_J69 at hf
    obtain ⟨v5, e6, hf⟩ := sk_ob hf
    refine sk_callS (As := [.int v1, .int v2, .int v3]) (st := []) K dX11_doneTo_69 cl_X11_248 (sX11_withHow C l e6) (by decide) rfl rfl (Nat.le_of_ble_eq_true rfl) R1 R2 ?_
    have hR7 : (v5, d4) = (rr, dd) := Option.some.inj hf
    exact sk_iret K dX11_doneTo_72 rfl rfl (congrArg (fun z => z.1) hR7) rfl (congrArg (fun z => z.2) hR7)
  have j55_0 : ∀ (v8 : Int32) (v9 : Int32) (d10 : sk_D), fX11_doneTo_J55 S p2 v8 v9 d10 = some (rr, dd) → sk_G X C 5 S d10 55 [(2, .int p2), (3, .int v8)] [.int v9] := by
    intro v8 v9 d10 hf
    unfold fX11_doneTo_J55 at hf
    refine sk_istore [(4, .int v9), (2, .int p2), (3, .int v8)] K dX11_doneTo_55 (by decide) rfl ?_
    refine sk_iload_n K dX11_doneTo_57 rfl 2 rfl ?_
    refine sk_iload_n K dX11_doneTo_58 rfl 1 rfl ?_
    refine sk_iload K dX11_doneTo_59 0 rfl ?_
    refine sk_if_eq 68 K dX11_doneTo_61 (by decide) (fun h11 => ?_) (fun h11 => ?_)
    · rw [if_pos h11] at hf
      refine sk_iconst (2 : Int32) K dX11_doneTo_68 (by decide) ?_
      refine sk_sub [] [] rfl ?_
      have h9 := j69_0 _ _ _ _ hf
      exact h9
    · rw [if_neg h11] at hf
      refine sk_iconst (1 : Int32) K dX11_doneTo_64 (by decide) ?_
      refine sk_goto 69 K dX11_doneTo_65 (by decide) ?_
      refine sk_sub [] [] rfl ?_
      have h9 := j69_0 _ _ _ _ hf
      exact h9
  have j54_0 : ∀ (v12 : Int32) (d13 : sk_D), fX11_doneTo_J54 S p2 v12 d13 = some (rr, dd) → sk_G X C 5 S d13 54 [(2, .int p2), (3, .int v12)] [] := by
    intro v12 d13 hf
    unfold fX11_doneTo_J54 at hf
    refine sk_iconst (0 : Int32) K dX11_doneTo_54 (by decide) ?_
    refine sk_sub [(2, .int p2), (3, .int v12)] [0, 1] rfl ?_
    have h9 := j55_0 _ _ _ hf
    exact h9
  have j50_0 : ∀ (v14 : Int32) (d15 : sk_D), fX11_doneTo_J50 S p2 v14 d15 = some (rr, dd) → sk_G X C 5 S d15 50 [(2, .int p2), (3, .int v14)] [] := by
    intro v14 d15 hf
    unfold fX11_doneTo_J50 at hf
    refine sk_iconst (1 : Int32) K dX11_doneTo_50 (by decide) ?_
    refine sk_goto 55 K dX11_doneTo_51 (by decide) ?_
    refine sk_sub [(2, .int p2), (3, .int v14)] [0, 1] rfl ?_
    have h9 := j55_0 _ _ _ hf
    exact h9
  refine sk_iload_n K dX11_doneTo_0 rfl 1 rfl ?_
  refine sk_iload_n K dX11_doneTo_1 rfl 2 rfl ?_
  refine sk_iconst (0 : Int32) K dX11_doneTo_2 (by decide) ?_
  obtain ⟨v16, e17, hf⟩ := sk_ob hf
  refine sk_callS (As := [.int p1, .int p2, .int (0 : Int32)]) (st := []) K dX11_doneTo_3 cl_X11_248 (sX11_withHow C l e17) (by decide) rfl rfl (Nat.le_of_ble_eq_true rfl) R1 R2 ?_
  refine sk_istore_n [(3, .int v16), (0, .ref p0), (1, .int p1), (2, .int p2)] K dX11_doneTo_6 rfl (by decide) rfl ?_
  refine sk_aload_n K dX11_doneTo_7 rfl 1 rfl ?_
  obtain ⟨v18, e19, hf⟩ := sk_ob hf
  refine sk_getR K dX11_doneTo_8 fl_X11_13 rfl e19 ?_
  refine sk_bipush (10 : Int32) K dX11_doneTo_11 (by decide) ?_
  refine sk_iload_n K dX11_doneTo_13 rfl 3 rfl ?_
  refine sk_iadd K dX11_doneTo_14 ?_
  obtain ⟨v20, e21, hf⟩ := sk_ob hf
  refine sk_ald20 K dX11_doneTo_15 e21 ?_
  refine sk_aload_n K dX11_doneTo_16 rfl 1 rfl ?_
  refine sk_iload_n K dX11_doneTo_17 rfl 0 rfl ?_
  obtain ⟨h24, hf⟩ := sk_ib hf
  obtain ⟨v22, e23, hf⟩ := sk_ob hf
  refine sk_callV (As := [.int v16]) (st := [.int v20]) K dX11_doneTo_18 cl_X11_238 h24 (sX11_leftIn C l e23) (by decide) rfl rfl (Nat.le_of_ble_eq_true rfl) R1 R2 ?_
  refine sk_icmp_gt 54 K dX11_doneTo_21 (by decide) (fun h25 => ?_) (fun h25 => ?_)
  · rw [if_pos h25] at hf
    refine sk_sub [(2, .int p2), (3, .int v16)] [3, 0] rfl ?_
    have h9 := j54_0 _ _ hf
    exact h9
  · rw [if_neg h25] at hf
    refine sk_aload_n K dX11_doneTo_24 rfl 1 rfl ?_
    obtain ⟨v26, e27, hf⟩ := sk_ob hf
    refine sk_getR K dX11_doneTo_25 fl_X11_13 rfl e27 ?_
    refine sk_iconst (4 : Int32) K dX11_doneTo_28 (by decide) ?_
    obtain ⟨v28, e29, hf⟩ := sk_ob hf
    refine sk_ald20 K dX11_doneTo_29 e29 ?_
    refine sk_if_eq 50 K dX11_doneTo_30 (by decide) (fun h30 => ?_) (fun h30 => ?_)
    · rw [if_pos h30] at hf
      refine sk_sub [(2, .int p2), (3, .int v16)] [3, 0] rfl ?_
      have h9 := j50_0 _ _ hf
      exact h9
    · rw [if_neg h30] at hf
      refine sk_aload_n K dX11_doneTo_33 rfl 1 rfl ?_
      refine sk_iconst (0 : Int32) K dX11_doneTo_34 (by decide) ?_
      refine sk_iload_n K dX11_doneTo_35 rfl 0 rfl ?_
      refine sk_iload_n K dX11_doneTo_36 rfl 3 rfl ?_
      refine sk_aload_n K dX11_doneTo_37 rfl 1 rfl ?_
      obtain ⟨v31, e32, hf⟩ := sk_ob hf
      refine sk_getR K dX11_doneTo_38 fl_X11_13 rfl e32 ?_
      refine sk_bipush (82 : Int32) K dX11_doneTo_41 (by decide) ?_
      obtain ⟨v33, e34, hf⟩ := sk_ob hf
      refine sk_ald20 K dX11_doneTo_43 e34 ?_
      obtain ⟨h38, hf⟩ := sk_ib hf
      obtain ⟨⟨v35, d37⟩, e36, hf⟩ := sk_ob hf
      try dsimp only at hf
      refine sk_callV (As := [.int (0 : Int32), .int v16, .int p2, .int v33]) (st := []) K dX11_doneTo_44 cl_X11_251 h38 (sX11_reckons C l e36) (by decide) rfl rfl (Nat.le_of_ble_eq_true rfl) R1 R2 ?_
      refine sk_ifeqB 54 K dX11_doneTo_47 (by decide) (fun h40 => ?_) (fun h40 => ?_)
      · rw [if_neg h40] at hf
        refine sk_sub [(2, .int p2), (3, .int v16)] [3, 0] rfl ?_
        have h9 := j54_0 _ _ hf
        exact h9
      · rw [if_pos h40] at hf
        refine sk_sub [(2, .int p2), (3, .int v16)] [3, 0] rfl ?_
        have h9 := j50_0 _ _ hf
        exact h9
noncomputable def fX11_droppedTo_J16 (S : sk_S) (d : sk_D) (v1 : Int32) (v2 : Int32) (v3 : Int32) : Option (Int32) :=
  (fX11_withHow S d v1 v2 v3).bind fun v4 => some v4
noncomputable def fX11_droppedTo (S : sk_S) (d : sk_D) (p0 : Int32) (p1 : Int32) : Option (Int32) :=
  (fX11_howIn S d p0 p1).bind fun v7 => if v7 = (1 : Int32) then (fX11_droppedTo_J16 S d p0 p1 (2 : Int32)) else (fX11_droppedTo_J16 S d p0 p1 (0 : Int32))
set_option maxRecDepth 100000 in
set_option maxHeartbeats 4000000 in
theorem sX11_droppedTo (C : sk_C) (l : Launch) {S : sk_S} {d : sk_D} {p0 : Int32} {p1 : Int32} {rr : Int32} (hf : fX11_droppedTo S d p0 p1 = some rr) : sk_Met C l 1 yX11_droppedTo cX11_droppedTo 2 (some .int) [.int p0, .int p1] S d (some (.int rr)) S d := by
  refine sk_Met.of (by decide) (Nat.le_of_ble_eq_true rfl) (Nat.le_refl _) (Nat.le_refl _) (fun X K0 hX => ?_)
  have K : sk_Ok X C cX11_droppedTo 2 RX11 "droppedTo" (some .int) 1 l (some (.int rr)) S d := K0
  have R1 : X.2.2.2.2.2.2.2.2.2.2.2.1 ≤ S.1.1 ∧ X.2.2.2.2.2.2.2.2.2.2.2.2 ≤ S.1.2 := by rw [hX]; exact ⟨Nat.le_refl _, Nat.le_refl _⟩
  have R2 : S.1.1 ≤ S.1.1 ∧ S.1.2 ≤ S.1.2 := ⟨Nat.le_refl _, Nat.le_refl _⟩
  show sk_G X C 2 S d 0 [(0, .int p0), (1, .int p1)] []
  unfold fX11_droppedTo at hf
  have j16_0 : ∀ (v1 : Int32) (v2 : Int32) (v3 : Int32), fX11_droppedTo_J16 S d v1 v2 v3 = some rr → sk_G X C 2 S d 16 [] [.int v3, .int v2, .int v1] := by
    intro v1 v2 v3 hf
    unfold fX11_droppedTo_J16 at hf
    obtain ⟨v4, e5, hf⟩ := sk_ob hf
    refine sk_callS (As := [.int v1, .int v2, .int v3]) (st := []) K dX11_droppedTo_16 cl_X11_248 (sX11_withHow C l e5) (by decide) rfl rfl (Nat.le_of_ble_eq_true rfl) R1 R2 ?_
    have hR6 : v4 = rr := Option.some.inj hf
    exact sk_iret K dX11_droppedTo_19 rfl rfl hR6 rfl rfl
  refine sk_iload_n K dX11_droppedTo_0 rfl 0 rfl ?_
  refine sk_iload_n K dX11_droppedTo_1 rfl 1 rfl ?_
  refine sk_iload_n K dX11_droppedTo_2 rfl 0 rfl ?_
  refine sk_iload_n K dX11_droppedTo_3 rfl 1 rfl ?_
  obtain ⟨v7, e8, hf⟩ := sk_ob hf
  refine sk_callS (As := [.int p0, .int p1]) (st := [.int p1, .int p0]) K dX11_droppedTo_4 cl_X11_215 (sX11_howIn C l e8) (by decide) rfl rfl (Nat.le_of_ble_eq_true rfl) R1 R2 ?_
  refine sk_iconst (1 : Int32) K dX11_droppedTo_7 (by decide) ?_
  refine sk_icmp_ne 15 K dX11_droppedTo_8 (by decide) (fun h9 => ?_) (fun h9 => ?_)
  · rw [if_neg h9] at hf
    refine sk_iconst (0 : Int32) K dX11_droppedTo_15 (by decide) ?_
    refine sk_sub [] [] rfl ?_
    have h9 := j16_0 _ _ _ hf
    exact h9
  · rw [if_pos h9] at hf
    refine sk_iconst (2 : Int32) K dX11_droppedTo_11 (by decide) ?_
    refine sk_goto 16 K dX11_droppedTo_12 (by decide) ?_
    refine sk_sub [] [] rfl ?_
    have h9 := j16_0 _ _ _ hf
    exact h9
noncomputable def fX11_passesBy (S : sk_S) (d : sk_D) (p0 : Nat) (p1 : Int32) (p2 : Int32) (p3 : Int32) : Option (Bool × sk_D) :=
  (sk_gR S p0 10 1).bind fun v1 => (sk_lI S d v1 20 (5 : Int32)).bind fun v3 => if v3 = (1 : Int32) then (if S.2.1 p0 = (10, 0) then ((fX11_reckons S d p0 (1 : Int32) p1 p2 p3).bind fun b11 => if b11.1 = true then (some (true, b11.2)) else (some (false, b11.2))) else none) else (some (false, d))
set_option maxRecDepth 100000 in
set_option maxHeartbeats 4000000 in
theorem sX11_passesBy (C : sk_C) (l : Launch) {S : sk_S} {d : sk_D} {p0 : Nat} {p1 : Int32} {p2 : Int32} {p3 : Int32} {rr : Bool} {dd : sk_D} (hf : fX11_passesBy S d p0 p1 p2 p3 = some (rr, dd)) : sk_Met C l 5 yX11_passesBy cX11_passesBy 4 (some .boolean) [.ref p0, .int p1, .int p2, .int p3] S d (some (.int (sk_b rr))) S dd := by
  refine sk_Met.of (by decide) (Nat.le_of_ble_eq_true rfl) (Nat.le_refl _) (Nat.le_refl _) (fun X K0 hX => ?_)
  have K : sk_Ok X C cX11_passesBy 4 RX11 "passesBy" (some .boolean) 5 l (some (.int (sk_b rr))) S dd := K0
  have R1 : X.2.2.2.2.2.2.2.2.2.2.2.1 ≤ S.1.1 ∧ X.2.2.2.2.2.2.2.2.2.2.2.2 ≤ S.1.2 := by rw [hX]; exact ⟨Nat.le_refl _, Nat.le_refl _⟩
  have R2 : S.1.1 ≤ S.1.1 ∧ S.1.2 ≤ S.1.2 := ⟨Nat.le_refl _, Nat.le_refl _⟩
  show sk_G X C 4 S d 0 [(0, .ref p0), (1, .int p1), (2, .int p2), (3, .int p3)] []
  unfold fX11_passesBy at hf
  refine sk_aload_n K dX11_passesBy_0 rfl 0 rfl ?_
  obtain ⟨v1, e2, hf⟩ := sk_ob hf
  refine sk_getR K dX11_passesBy_1 fl_X11_13 rfl e2 ?_
  refine sk_iconst (5 : Int32) K dX11_passesBy_4 (by decide) ?_
  obtain ⟨v3, e4, hf⟩ := sk_ob hf
  refine sk_ald20 K dX11_passesBy_5 e4 ?_
  refine sk_iconst (1 : Int32) K dX11_passesBy_6 (by decide) ?_
  refine sk_icmp_ne 25 K dX11_passesBy_7 (by decide) (fun h5 => ?_) (fun h5 => ?_)
  · rw [if_neg h5] at hf
    refine sk_iconst (0 : Int32) K dX11_passesBy_25 (by decide) ?_
    have hR6 : (false, d) = (rr, dd) := Option.some.inj hf
    exact sk_zret (x := false) K dX11_passesBy_26 rfl rfl (congrArg (fun z => z.1) hR6) rfl (congrArg (fun z => z.2) hR6)
  · rw [if_pos h5] at hf
    refine sk_aload_n K dX11_passesBy_10 rfl 0 rfl ?_
    refine sk_iconst (1 : Int32) K dX11_passesBy_11 (by decide) ?_
    refine sk_iload_n K dX11_passesBy_12 rfl 1 rfl ?_
    refine sk_iload_n K dX11_passesBy_13 rfl 2 rfl ?_
    refine sk_iload_n K dX11_passesBy_14 rfl 3 rfl ?_
    obtain ⟨h10, hf⟩ := sk_ib hf
    obtain ⟨⟨v7, d9⟩, e8, hf⟩ := sk_ob hf
    try dsimp only at hf
    refine sk_callV (As := [.int (1 : Int32), .int p1, .int p2, .int p3]) (st := []) K dX11_passesBy_15 cl_X11_251 h10 (sX11_reckons C l e8) (by decide) rfl rfl (Nat.le_of_ble_eq_true rfl) R1 R2 ?_
    refine sk_ifeqB 25 K dX11_passesBy_18 (by decide) (fun h12 => ?_) (fun h12 => ?_)
    · rw [if_neg h12] at hf
      refine sk_iconst (0 : Int32) K dX11_passesBy_25 (by decide) ?_
      have hR13 : (false, d9) = (rr, dd) := Option.some.inj hf
      exact sk_zret (x := false) K dX11_passesBy_26 rfl rfl (congrArg (fun z => z.1) hR13) rfl (congrArg (fun z => z.2) hR13)
    · rw [if_pos h12] at hf
      refine sk_iconst (1 : Int32) K dX11_passesBy_21 (by decide) ?_
      refine sk_goto 26 K dX11_passesBy_22 (by decide) ?_
      have hR14 : (true, d9) = (rr, dd) := Option.some.inj hf
      exact sk_zret (x := true) K dX11_passesBy_26 rfl rfl (congrArg (fun z => z.1) hR14) rfl (congrArg (fun z => z.2) hR14)
noncomputable def fX11_backOf_L9 (S : sk_S) (d : sk_D) (p0 : Nat) (p1 : Int32) (s1 : Int32 × Int32) : Option ((Int32 × Int32) ⊕ (Int32)) :=
  (sk_gR S p0 10 1).bind fun v1 => (sk_lI S d v1 20 (1 : Int32)).bind fun v3 => if v3 ≤ s1.2 then (some (.inr s1.1)) else ((fX11_isDone S d p1 s1.2).bind fun v7 => if v7 = true then ((sk_gR S p0 10 1).bind fun v10 => (sk_lI S d v10 20 ((50 : Int32) + s1.2)).bind fun v12 => if (v12 &&& s1.1) = 0 then (some (.inl (s1.1, s1.2 + 1))) else (some (.inl (s1.1 ||| ((1 : Int32) <<< (s1.2 &&& 31)), s1.2 + 1)))) else (some (.inl (s1.1, s1.2 + 1))))
noncomputable def fX11_backOf (S : sk_S) (d : sk_D) (p0 : Nat) (p1 : Int32) (p2 : Int32) : Option (Int32) :=
  (sk_itr (fX11_backOf_L9 S d p0 p1) ((1 : Int32) <<< (p2 &&& 31), p2 + (1 : Int32))).bind fun x1 => some x1
set_option maxRecDepth 100000 in
set_option maxHeartbeats 4000000 in
theorem sX11_backOf (C : sk_C) (l : Launch) {S : sk_S} {d : sk_D} {p0 : Nat} {p1 : Int32} {p2 : Int32} {rr : Int32} (hf : fX11_backOf S d p0 p1 p2 = some rr) : sk_Met C l 2 yX11_backOf cX11_backOf 5 (some .int) [.ref p0, .int p1, .int p2] S d (some (.int rr)) S d := by
  refine sk_Met.of (by decide) (Nat.le_of_ble_eq_true rfl) (Nat.le_refl _) (Nat.le_refl _) (fun X K0 hX => ?_)
  have K : sk_Ok X C cX11_backOf 5 RX11 "backOf" (some .int) 2 l (some (.int rr)) S d := K0
  have R1 : X.2.2.2.2.2.2.2.2.2.2.2.1 ≤ S.1.1 ∧ X.2.2.2.2.2.2.2.2.2.2.2.2 ≤ S.1.2 := by rw [hX]; exact ⟨Nat.le_refl _, Nat.le_refl _⟩
  have R2 : S.1.1 ≤ S.1.1 ∧ S.1.2 ≤ S.1.2 := ⟨Nat.le_refl _, Nat.le_refl _⟩
  show sk_G X C 5 S d 0 [(0, .ref p0), (1, .int p1), (2, .int p2)] []
  unfold fX11_backOf at hf
  refine sk_iconst (1 : Int32) K dX11_backOf_0 (by decide) ?_
  refine sk_iload_n K dX11_backOf_1 rfl 2 rfl ?_
  refine sk_ishl K dX11_backOf_2 ?_
  refine sk_istore_n [(3, .int ((1 : Int32) <<< (p2 &&& 31))), (0, .ref p0), (1, .int p1), (2, .int p2)] K dX11_backOf_3 rfl (by decide) rfl ?_
  refine sk_iload_n K dX11_backOf_4 rfl 3 rfl ?_
  refine sk_iconst (1 : Int32) K dX11_backOf_5 (by decide) ?_
  refine sk_iadd K dX11_backOf_6 ?_
  refine sk_istore [(4, .int (p2 + (1 : Int32))), (3, .int ((1 : Int32) <<< (p2 &&& 31))), (0, .ref p0), (1, .int p1), (2, .int p2)] K dX11_backOf_7 (by decide) rfl ?_
  obtain ⟨x1, he1, hf⟩ := sk_ob hf
  have hret1 : ∀ r, r = x1 → r = rr := by
    intro r hr
    subst hr
    exact Option.some.inj hf
  refine sk_sub [(0, .ref p0), (1, .int p1), (3, .int ((1 : Int32) <<< (p2 &&& 31))), (4, .int (p2 + (1 : Int32)))] [2, 3, 1, 0] rfl ?_
  refine sk_loop (fun s1 => sk_G X C 5 S d 9 [(0, .ref p0), (1, .int p1), (3, .int s1.1), (4, .int s1.2)] []) he1 (fun s1 o1 hf ih1 hx1 => ?_)
  unfold fX11_backOf_L9 at hf
  refine sk_iload K dX11_backOf_9 3 rfl ?_
  refine sk_aload_n K dX11_backOf_11 rfl 0 rfl ?_
  obtain ⟨v1, e2, hf⟩ := sk_ob hf
  refine sk_getR K dX11_backOf_12 fl_X11_13 rfl e2 ?_
  refine sk_iconst (1 : Int32) K dX11_backOf_15 (by decide) ?_
  obtain ⟨v3, e4, hf⟩ := sk_ob hf
  refine sk_ald20 K dX11_backOf_16 e4 ?_
  refine sk_icmp_ge 57 K dX11_backOf_17 (by decide) (fun h5 => ?_) (fun h5 => ?_)
  · rw [if_pos h5] at hf
    refine sk_iload_n K dX11_backOf_57 rfl 2 rfl ?_
    have hR6 : s1.1 = rr := hret1 _ (hx1 _ (Option.some.inj hf).symm)
    exact sk_iret K dX11_backOf_58 rfl rfl hR6 rfl rfl
  · rw [if_neg h5] at hf
    refine sk_iload_n K dX11_backOf_20 rfl 1 rfl ?_
    refine sk_iload K dX11_backOf_21 3 rfl ?_
    obtain ⟨v7, e8, hf⟩ := sk_ob hf
    refine sk_callS (As := [.int p1, .int s1.2]) (st := []) K dX11_backOf_23 cl_X11_255 (sX11_isDone C l e8) (by decide) rfl rfl (Nat.le_of_ble_eq_true rfl) R1 R2 ?_
    refine sk_ifeqB 51 K dX11_backOf_26 (by decide) (fun h9 => ?_) (fun h9 => ?_)
    · rw [if_neg h9] at hf
      refine sk_iinc (s1.2 + 1) [(4, .int (s1.2 + 1)), (0, .ref p0), (1, .int p1), (3, .int s1.1)] K dX11_backOf_51 3 rfl rfl (by decide) rfl ?_
      refine sk_goto 9 K dX11_backOf_54 (by decide) ?_
      refine sk_sub [(0, .ref p0), (1, .int p1), (3, .int s1.1), (4, .int (s1.2 + 1))] [1, 2, 3, 0] rfl ?_
      have h9 := ih1 _ (Option.some.inj hf).symm
      exact h9
    · rw [if_pos h9] at hf
      refine sk_aload_n K dX11_backOf_29 rfl 0 rfl ?_
      obtain ⟨v10, e11, hf⟩ := sk_ob hf
      refine sk_getR K dX11_backOf_30 fl_X11_13 rfl e11 ?_
      refine sk_bipush (50 : Int32) K dX11_backOf_33 (by decide) ?_
      refine sk_iload K dX11_backOf_35 3 rfl ?_
      refine sk_iadd K dX11_backOf_37 ?_
      obtain ⟨v12, e13, hf⟩ := sk_ob hf
      refine sk_ald20 K dX11_backOf_38 e13 ?_
      refine sk_iload_n K dX11_backOf_39 rfl 2 rfl ?_
      refine sk_iand K dX11_backOf_40 ?_
      refine sk_if_eq 51 K dX11_backOf_41 (by decide) (fun h14 => ?_) (fun h14 => ?_)
      · rw [if_pos h14] at hf
        refine sk_iinc (s1.2 + 1) [(4, .int (s1.2 + 1)), (0, .ref p0), (1, .int p1), (3, .int s1.1)] K dX11_backOf_51 3 rfl rfl (by decide) rfl ?_
        refine sk_goto 9 K dX11_backOf_54 (by decide) ?_
        refine sk_sub [(0, .ref p0), (1, .int p1), (3, .int s1.1), (4, .int (s1.2 + 1))] [1, 2, 3, 0] rfl ?_
        have h9 := ih1 _ (Option.some.inj hf).symm
        exact h9
      · rw [if_neg h14] at hf
        refine sk_iload_n K dX11_backOf_44 rfl 2 rfl ?_
        refine sk_iconst (1 : Int32) K dX11_backOf_45 (by decide) ?_
        refine sk_iload K dX11_backOf_46 3 rfl ?_
        refine sk_ishl K dX11_backOf_48 ?_
        refine sk_ior K dX11_backOf_49 ?_
        refine sk_istore_n [(3, .int (s1.1 ||| ((1 : Int32) <<< (s1.2 &&& 31)))), (0, .ref p0), (1, .int p1), (4, .int s1.2)] K dX11_backOf_50 rfl (by decide) rfl ?_
        refine sk_iinc (s1.2 + 1) [(4, .int (s1.2 + 1)), (3, .int (s1.1 ||| ((1 : Int32) <<< (s1.2 &&& 31)))), (0, .ref p0), (1, .int p1)] K dX11_backOf_51 3 rfl rfl (by decide) rfl ?_
        refine sk_goto 9 K dX11_backOf_54 (by decide) ?_
        refine sk_sub [(0, .ref p0), (1, .int p1), (3, .int (s1.1 ||| ((1 : Int32) <<< (s1.2 &&& 31)))), (4, .int (s1.2 + 1))] [2, 3, 1, 0] rfl ?_
        have h9 := ih1 _ (Option.some.inj hf).symm
        exact h9
noncomputable def fX11_askedOf_J38 (S : sk_S) (p0 : Nat) (p1 : Int32) (p2 : Int32) (d1 : sk_D) : Option (Int32 × sk_D) :=
  if S.2.1 p0 = (10, 0) then ((fX11_backOf S d1 p0 p1 p2).bind fun v2 => some (v2, d1)) else none
noncomputable def fX11_askedOf (S : sk_S) (d : sk_D) (p0 : Nat) (p1 : Int32) (p2 : Int32) : Option (Int32 × sk_D) :=
  (fX11_howIn S d p1 p2).bind fun v6 => if v6 = (1 : Int32) then (some ((0 : Int32), d)) else (if v6 = 0 then (some ((0 : Int32), d)) else (if v6 = (3 : Int32) then ((sk_gR S p0 10 1).bind fun v13 => (sk_lI S d v13 20 (82 : Int32)).bind fun v15 => if S.2.1 p0 = (10, 0) then ((fX11_passesBy S d p0 p1 p2 v15).bind fun b21 => if b21.1 = true then (some ((0 : Int32), b21.2)) else (fX11_askedOf_J38 S p0 p1 p2 b21.2)) else none) else (fX11_askedOf_J38 S p0 p1 p2 d)))
set_option maxRecDepth 100000 in
set_option maxHeartbeats 4000000 in
theorem sX11_askedOf (C : sk_C) (l : Launch) {S : sk_S} {d : sk_D} {p0 : Nat} {p1 : Int32} {p2 : Int32} {rr : Int32} {dd : sk_D} (hf : fX11_askedOf S d p0 p1 p2 = some (rr, dd)) : sk_Met C l 6 yX11_askedOf cX11_askedOf 4 (some .int) [.ref p0, .int p1, .int p2] S d (some (.int rr)) S dd := by
  refine sk_Met.of (by decide) (Nat.le_of_ble_eq_true rfl) (Nat.le_refl _) (Nat.le_refl _) (fun X K0 hX => ?_)
  have K : sk_Ok X C cX11_askedOf 4 RX11 "askedOf" (some .int) 6 l (some (.int rr)) S dd := K0
  have R1 : X.2.2.2.2.2.2.2.2.2.2.2.1 ≤ S.1.1 ∧ X.2.2.2.2.2.2.2.2.2.2.2.2 ≤ S.1.2 := by rw [hX]; exact ⟨Nat.le_refl _, Nat.le_refl _⟩
  have R2 : S.1.1 ≤ S.1.1 ∧ S.1.2 ≤ S.1.2 := ⟨Nat.le_refl _, Nat.le_refl _⟩
  show sk_G X C 4 S d 0 [(0, .ref p0), (1, .int p1), (2, .int p2)] []
  unfold fX11_askedOf at hf
  have j38_0 : ∀ (d1 : sk_D), fX11_askedOf_J38 S p0 p1 p2 d1 = some (rr, dd) → sk_G X C 4 S d1 38 [(0, .ref p0), (1, .int p1), (2, .int p2)] [] := by
    intro d1 hf
    unfold fX11_askedOf_J38 at hf
    refine sk_aload_n K dX11_askedOf_38 rfl 0 rfl ?_
    refine sk_iload_n K dX11_askedOf_39 rfl 1 rfl ?_
    refine sk_iload_n K dX11_askedOf_40 rfl 2 rfl ?_
    obtain ⟨h4, hf⟩ := sk_ib hf
    obtain ⟨v2, e3, hf⟩ := sk_ob hf
    refine sk_callV (As := [.int p1, .int p2]) (st := []) K dX11_askedOf_41 cl_X11_263 h4 (sX11_backOf C l e3) (by decide) rfl rfl (Nat.le_of_ble_eq_true rfl) R1 R2 ?_
    have hR5 : (v2, d1) = (rr, dd) := Option.some.inj hf
    exact sk_iret K dX11_askedOf_44 rfl rfl (congrArg (fun z => z.1) hR5) rfl (congrArg (fun z => z.2) hR5)
  refine sk_iload_n K dX11_askedOf_0 rfl 1 rfl ?_
  refine sk_iload_n K dX11_askedOf_1 rfl 2 rfl ?_
  obtain ⟨v6, e7, hf⟩ := sk_ob hf
  refine sk_callS (As := [.int p1, .int p2]) (st := []) K dX11_askedOf_2 cl_X11_215 (sX11_howIn C l e7) (by decide) rfl rfl (Nat.le_of_ble_eq_true rfl) R1 R2 ?_
  refine sk_istore_n [(3, .int v6), (0, .ref p0), (1, .int p1), (2, .int p2)] K dX11_askedOf_5 rfl (by decide) rfl ?_
  refine sk_iload_n K dX11_askedOf_6 rfl 0 rfl ?_
  refine sk_iconst (1 : Int32) K dX11_askedOf_7 (by decide) ?_
  refine sk_icmp_eq 36 K dX11_askedOf_8 (by decide) (fun h8 => ?_) (fun h8 => ?_)
  · rw [if_pos h8] at hf
    refine sk_iconst (0 : Int32) K dX11_askedOf_36 (by decide) ?_
    have hR9 : ((0 : Int32), d) = (rr, dd) := Option.some.inj hf
    exact sk_iret K dX11_askedOf_37 rfl rfl (congrArg (fun z => z.1) hR9) rfl (congrArg (fun z => z.2) hR9)
  · rw [if_neg h8] at hf
    refine sk_iload_n K dX11_askedOf_11 rfl 0 rfl ?_
    refine sk_if_eq 36 K dX11_askedOf_12 (by decide) (fun h10 => ?_) (fun h10 => ?_)
    · rw [if_pos h10] at hf
      refine sk_iconst (0 : Int32) K dX11_askedOf_36 (by decide) ?_
      have hR11 : ((0 : Int32), d) = (rr, dd) := Option.some.inj hf
      exact sk_iret K dX11_askedOf_37 rfl rfl (congrArg (fun z => z.1) hR11) rfl (congrArg (fun z => z.2) hR11)
    · rw [if_neg h10] at hf
      refine sk_iload_n K dX11_askedOf_15 rfl 0 rfl ?_
      refine sk_iconst (3 : Int32) K dX11_askedOf_16 (by decide) ?_
      refine sk_icmp_ne 38 K dX11_askedOf_17 (by decide) (fun h12 => ?_) (fun h12 => ?_)
      · rw [if_neg h12] at hf
        refine sk_sub [(0, .ref p0), (1, .int p1), (2, .int p2)] [1, 2, 3] rfl ?_
        have h9 := j38_0 _ hf
        exact h9
      · rw [if_pos h12] at hf
        refine sk_aload_n K dX11_askedOf_20 rfl 1 rfl ?_
        refine sk_iload_n K dX11_askedOf_21 rfl 2 rfl ?_
        refine sk_iload_n K dX11_askedOf_22 rfl 3 rfl ?_
        refine sk_aload_n K dX11_askedOf_23 rfl 1 rfl ?_
        obtain ⟨v13, e14, hf⟩ := sk_ob hf
        refine sk_getR K dX11_askedOf_24 fl_X11_13 rfl e14 ?_
        refine sk_bipush (82 : Int32) K dX11_askedOf_27 (by decide) ?_
        obtain ⟨v15, e16, hf⟩ := sk_ob hf
        refine sk_ald20 K dX11_askedOf_29 e16 ?_
        obtain ⟨h20, hf⟩ := sk_ib hf
        obtain ⟨⟨v17, d19⟩, e18, hf⟩ := sk_ob hf
        try dsimp only at hf
        refine sk_callV (As := [.int p1, .int p2, .int v15]) (st := []) K dX11_askedOf_30 cl_X11_259 h20 (sX11_passesBy C l e18) (by decide) rfl rfl (Nat.le_of_ble_eq_true rfl) R1 R2 ?_
        refine sk_ifeqB 38 K dX11_askedOf_33 (by decide) (fun h22 => ?_) (fun h22 => ?_)
        · rw [if_neg h22] at hf
          refine sk_sub [(0, .ref p0), (1, .int p1), (2, .int p2)] [1, 2, 3] rfl ?_
          have h9 := j38_0 _ hf
          exact h9
        · rw [if_pos h22] at hf
          refine sk_iconst (0 : Int32) K dX11_askedOf_36 (by decide) ?_
          have hR23 : ((0 : Int32), d19) = (rr, dd) := Option.some.inj hf
          exact sk_iret K dX11_askedOf_37 rfl rfl (congrArg (fun z => z.1) hR23) rfl (congrArg (fun z => z.2) hR23)
noncomputable def fX11_opened_L4 (S : sk_S) (d : sk_D) (p1 : Int32) (s1 : Int32 × Int32) : Option ((Int32 × Int32) ⊕ (Int32)) :=
  if (8 : Int32) ≤ s1.2 then (some (.inr s1.1)) else ((fX11_isIn S d p1.toInt64 s1.2).bind fun v3 => if v3 = true then ((fX11_withHow S d s1.1 s1.2 (0 : Int32)).bind fun v6 => some (.inl (v6, s1.2 + 1))) else (some (.inl (s1.1, s1.2 + 1))))
noncomputable def fX11_opened (S : sk_S) (d : sk_D) (p0 : Int32) (p1 : Int32) : Option (Int32) :=
  (sk_itr (fX11_opened_L4 S d p1) (p0, (0 : Int32))).bind fun x1 => some x1
set_option maxRecDepth 100000 in
set_option maxHeartbeats 4000000 in
theorem sX11_opened (C : sk_C) (l : Launch) {S : sk_S} {d : sk_D} {p0 : Int32} {p1 : Int32} {rr : Int32} (hf : fX11_opened S d p0 p1 = some rr) : sk_Met C l 1 yX11_opened cX11_opened 4 (some .int) [.int p0, .int p1] S d (some (.int rr)) S d := by
  refine sk_Met.of (by decide) (Nat.le_of_ble_eq_true rfl) (Nat.le_refl _) (Nat.le_refl _) (fun X K0 hX => ?_)
  have K : sk_Ok X C cX11_opened 4 RX11 "opened" (some .int) 1 l (some (.int rr)) S d := K0
  have R1 : X.2.2.2.2.2.2.2.2.2.2.2.1 ≤ S.1.1 ∧ X.2.2.2.2.2.2.2.2.2.2.2.2 ≤ S.1.2 := by rw [hX]; exact ⟨Nat.le_refl _, Nat.le_refl _⟩
  have R2 : S.1.1 ≤ S.1.1 ∧ S.1.2 ≤ S.1.2 := ⟨Nat.le_refl _, Nat.le_refl _⟩
  show sk_G X C 4 S d 0 [(0, .int p0), (1, .int p1)] []
  unfold fX11_opened at hf
  refine sk_iload_n K dX11_opened_0 rfl 0 rfl ?_
  refine sk_istore_n [(2, .int p0), (0, .int p0), (1, .int p1)] K dX11_opened_1 rfl (by decide) rfl ?_
  refine sk_iconst (0 : Int32) K dX11_opened_2 (by decide) ?_
  refine sk_istore_n [(3, .int (0 : Int32)), (2, .int p0), (0, .int p0), (1, .int p1)] K dX11_opened_3 rfl (by decide) rfl ?_
  obtain ⟨x1, he1, hf⟩ := sk_ob hf
  have hret1 : ∀ r, r = x1 → r = rr := by
    intro r hr
    subst hr
    exact Option.some.inj hf
  refine sk_sub [(1, .int p1), (2, .int p0), (3, .int (0 : Int32))] [3, 1, 0] rfl ?_
  refine sk_loop (fun s1 => sk_G X C 4 S d 4 [(1, .int p1), (2, .int s1.1), (3, .int s1.2)] []) he1 (fun s1 o1 hf ih1 hx1 => ?_)
  unfold fX11_opened_L4 at hf
  refine sk_iload_n K dX11_opened_4 rfl 2 rfl ?_
  refine sk_bipush (8 : Int32) K dX11_opened_5 (by decide) ?_
  refine sk_icmp_ge 32 K dX11_opened_7 (by decide) (fun h1 => ?_) (fun h1 => ?_)
  · rw [if_pos h1] at hf
    refine sk_iload_n K dX11_opened_32 rfl 1 rfl ?_
    have hR2 : s1.1 = rr := hret1 _ (hx1 _ (Option.some.inj hf).symm)
    exact sk_iret K dX11_opened_33 rfl rfl hR2 rfl rfl
  · rw [if_neg h1] at hf
    refine sk_iload_n K dX11_opened_10 rfl 0 rfl ?_
    refine sk_i2l K dX11_opened_11 ?_
    refine sk_iload_n K dX11_opened_12 rfl 2 rfl ?_
    obtain ⟨v3, e4, hf⟩ := sk_ob hf
    refine sk_callS (As := [.long p1.toInt64, .int s1.2]) (st := []) K dX11_opened_13 cl_X11_221 (sX11_isIn C l e4) (by decide) rfl rfl (Nat.le_of_ble_eq_true rfl) R1 R2 ?_
    refine sk_ifeqB 26 K dX11_opened_16 (by decide) (fun h5 => ?_) (fun h5 => ?_)
    · rw [if_neg h5] at hf
      refine sk_iinc (s1.2 + 1) [(3, .int (s1.2 + 1)), (1, .int p1), (2, .int s1.1)] K dX11_opened_26 2 rfl rfl (by decide) rfl ?_
      refine sk_goto 4 K dX11_opened_29 (by decide) ?_
      refine sk_sub [(1, .int p1), (2, .int s1.1), (3, .int (s1.2 + 1))] [1, 2, 0] rfl ?_
      have h9 := ih1 _ (Option.some.inj hf).symm
      exact h9
    · rw [if_pos h5] at hf
      refine sk_iload_n K dX11_opened_19 rfl 1 rfl ?_
      refine sk_iload_n K dX11_opened_20 rfl 2 rfl ?_
      refine sk_iconst (0 : Int32) K dX11_opened_21 (by decide) ?_
      obtain ⟨v6, e7, hf⟩ := sk_ob hf
      refine sk_callS (As := [.int s1.1, .int s1.2, .int (0 : Int32)]) (st := []) K dX11_opened_22 cl_X11_248 (sX11_withHow C l e7) (by decide) rfl rfl (Nat.le_of_ble_eq_true rfl) R1 R2 ?_
      refine sk_istore_n [(2, .int v6), (1, .int p1), (3, .int s1.2)] K dX11_opened_25 rfl (by decide) rfl ?_
      refine sk_iinc (s1.2 + 1) [(3, .int (s1.2 + 1)), (2, .int v6), (1, .int p1)] K dX11_opened_26 2 rfl rfl (by decide) rfl ?_
      refine sk_goto 4 K dX11_opened_29 (by decide) ?_
      refine sk_sub [(1, .int p1), (2, .int v6), (3, .int (s1.2 + 1))] [2, 1, 0] rfl ?_
      have h9 := ih1 _ (Option.some.inj hf).symm
      exact h9
noncomputable def fX11_doing (S : sk_S) (d : sk_D) (p0 : Nat) (p1 : Int32) (p2 : Int32) : Option (Int32 × sk_D) :=
  (sk_pI S d p0 10 0 (0 : Int32)).bind fun d1 => if S.2.1 p0 = (10, 0) then ((fX11_isDoing S d1 p0 p1.toInt64).bind fun v3 => if v3 = true then (if p2 = (0 : Int32) then ((sk_gR S p0 10 1).bind fun v8 => (sk_lI S d1 v8 20 ((74 : Int32) + p1)).bind fun v10 => some (v10, d1)) else (if p2 = (1 : Int32) then ((sk_gR S p0 10 1).bind fun v14 => (sk_lI S d1 v14 20 ((10 : Int32) + p1)).bind fun v16 => some (v16, d1)) else (if p2 = (2 : Int32) then ((sk_gR S p0 10 1).bind fun v20 => (sk_lI S d1 v20 20 ((18 : Int32) + p1)).bind fun v22 => some (v22, d1)) else (if p2 = (3 : Int32) then ((sk_gR S p0 10 1).bind fun v26 => (sk_lI S d1 v26 20 ((26 : Int32) + p1)).bind fun v28 => some (v28, d1)) else (if p2 = (4 : Int32) then ((sk_gR S p0 10 1).bind fun v32 => (sk_lI S d1 v32 20 ((34 : Int32) + p1)).bind fun v34 => some (v34, d1)) else (if p2 = (5 : Int32) then ((sk_gR S p0 10 1).bind fun v38 => (sk_lI S d1 v38 20 ((42 : Int32) + p1)).bind fun v40 => some (v40, d1)) else (if p2 = (6 : Int32) then ((sk_gR S p0 10 1).bind fun v44 => (sk_lI S d1 v44 20 ((50 : Int32) + p1)).bind fun v46 => some (v46, d1)) else (if p2 = (7 : Int32) then ((sk_gR S p0 10 1).bind fun v50 => (sk_lI S d1 v50 20 ((58 : Int32) + p1)).bind fun v52 => some (v52, d1)) else (some ((-2 : Int32), d1)))))))))) else (some ((-2 : Int32), d1))) else none
set_option maxRecDepth 100000 in
set_option maxHeartbeats 4000000 in
theorem sX11_doing (C : sk_C) (l : Launch) {S : sk_S} {d : sk_D} {p0 : Nat} {p1 : Int32} {p2 : Int32} {rr : Int32} {dd : sk_D} (hf : fX11_doing S d p0 p1 p2 = some (rr, dd)) : sk_Met C l 2 yX11_doing cX11_doing 3 (some .int) [.ref p0, .int p1, .int p2] S d (some (.int rr)) S dd := by
  refine sk_Met.of (by decide) (Nat.le_of_ble_eq_true rfl) (Nat.le_refl _) (Nat.le_refl _) (fun X K0 hX => ?_)
  have K : sk_Ok X C cX11_doing 3 RX11 "doing" (some .int) 2 l (some (.int rr)) S dd := K0
  have R1 : X.2.2.2.2.2.2.2.2.2.2.2.1 ≤ S.1.1 ∧ X.2.2.2.2.2.2.2.2.2.2.2.2 ≤ S.1.2 := by rw [hX]; exact ⟨Nat.le_refl _, Nat.le_refl _⟩
  have R2 : S.1.1 ≤ S.1.1 ∧ S.1.2 ≤ S.1.2 := ⟨Nat.le_refl _, Nat.le_refl _⟩
  show sk_G X C 3 S d 0 [(0, .ref p0), (1, .int p1), (2, .int p2)] []
  unfold fX11_doing at hf
  refine sk_aload_n K dX11_doing_0 rfl 0 rfl ?_
  refine sk_iconst (0 : Int32) K dX11_doing_1 (by decide) ?_
  obtain ⟨d1, e2, hf⟩ := sk_ob hf
  refine sk_putI d1 K dX11_doing_2 fl_X11_1 rfl rfl rfl e2 ?_
  refine sk_aload_n K dX11_doing_5 rfl 0 rfl ?_
  refine sk_iload_n K dX11_doing_6 rfl 1 rfl ?_
  refine sk_i2l K dX11_doing_7 ?_
  obtain ⟨h5, hf⟩ := sk_ib hf
  obtain ⟨v3, e4, hf⟩ := sk_ob hf
  refine sk_callV (As := [.long p1.toInt64]) (st := []) K dX11_doing_8 cl_X11_266 h5 (sX11_isDoing C l e4) (by decide) rfl rfl (Nat.le_of_ble_eq_true rfl) R1 R2 ?_
  refine sk_ifneB 17 K dX11_doing_11 (by decide) (fun h6 => ?_) (fun h6 => ?_)
  · rw [if_pos h6] at hf
    refine sk_iload_n K dX11_doing_17 rfl 2 rfl ?_
    by_cases h7 : p2 = (0 : Int32)
    · rw [if_pos h7] at hf
      refine sk_tsIn (0 : Int32) (46) 64 K dX11_doing_18 h7 (by decide) (by decide) rfl (by decide) ?_
      refine sk_aload_n K dX11_doing_64 rfl 0 rfl ?_
      obtain ⟨v8, e9, hf⟩ := sk_ob hf
      refine sk_getR K dX11_doing_65 fl_X11_13 rfl e9 ?_
      refine sk_bipush (74 : Int32) K dX11_doing_68 (by decide) ?_
      refine sk_iload_n K dX11_doing_70 rfl 1 rfl ?_
      refine sk_iadd K dX11_doing_71 ?_
      obtain ⟨v10, e11, hf⟩ := sk_ob hf
      refine sk_ald20 K dX11_doing_72 e11 ?_
      have hR12 : (v10, d1) = (rr, dd) := Option.some.inj hf
      exact sk_iret K dX11_doing_73 rfl rfl (congrArg (fun z => z.1) hR12) rfl (congrArg (fun z => z.2) hR12)
    · rw [if_neg h7] at hf
      by_cases h13 : p2 = (1 : Int32)
      · rw [if_pos h13] at hf
        refine sk_tsIn (1 : Int32) (56) 74 K dX11_doing_18 h13 (by decide) (by decide) rfl (by decide) ?_
        refine sk_aload_n K dX11_doing_74 rfl 0 rfl ?_
        obtain ⟨v14, e15, hf⟩ := sk_ob hf
        refine sk_getR K dX11_doing_75 fl_X11_13 rfl e15 ?_
        refine sk_bipush (10 : Int32) K dX11_doing_78 (by decide) ?_
        refine sk_iload_n K dX11_doing_80 rfl 1 rfl ?_
        refine sk_iadd K dX11_doing_81 ?_
        obtain ⟨v16, e17, hf⟩ := sk_ob hf
        refine sk_ald20 K dX11_doing_82 e17 ?_
        have hR18 : (v16, d1) = (rr, dd) := Option.some.inj hf
        exact sk_iret K dX11_doing_83 rfl rfl (congrArg (fun z => z.1) hR18) rfl (congrArg (fun z => z.2) hR18)
      · rw [if_neg h13] at hf
        by_cases h19 : p2 = (2 : Int32)
        · rw [if_pos h19] at hf
          refine sk_tsIn (2 : Int32) (66) 84 K dX11_doing_18 h19 (by decide) (by decide) rfl (by decide) ?_
          refine sk_aload_n K dX11_doing_84 rfl 0 rfl ?_
          obtain ⟨v20, e21, hf⟩ := sk_ob hf
          refine sk_getR K dX11_doing_85 fl_X11_13 rfl e21 ?_
          refine sk_bipush (18 : Int32) K dX11_doing_88 (by decide) ?_
          refine sk_iload_n K dX11_doing_90 rfl 1 rfl ?_
          refine sk_iadd K dX11_doing_91 ?_
          obtain ⟨v22, e23, hf⟩ := sk_ob hf
          refine sk_ald20 K dX11_doing_92 e23 ?_
          have hR24 : (v22, d1) = (rr, dd) := Option.some.inj hf
          exact sk_iret K dX11_doing_93 rfl rfl (congrArg (fun z => z.1) hR24) rfl (congrArg (fun z => z.2) hR24)
        · rw [if_neg h19] at hf
          by_cases h25 : p2 = (3 : Int32)
          · rw [if_pos h25] at hf
            refine sk_tsIn (3 : Int32) (76) 94 K dX11_doing_18 h25 (by decide) (by decide) rfl (by decide) ?_
            refine sk_aload_n K dX11_doing_94 rfl 0 rfl ?_
            obtain ⟨v26, e27, hf⟩ := sk_ob hf
            refine sk_getR K dX11_doing_95 fl_X11_13 rfl e27 ?_
            refine sk_bipush (26 : Int32) K dX11_doing_98 (by decide) ?_
            refine sk_iload_n K dX11_doing_100 rfl 1 rfl ?_
            refine sk_iadd K dX11_doing_101 ?_
            obtain ⟨v28, e29, hf⟩ := sk_ob hf
            refine sk_ald20 K dX11_doing_102 e29 ?_
            have hR30 : (v28, d1) = (rr, dd) := Option.some.inj hf
            exact sk_iret K dX11_doing_103 rfl rfl (congrArg (fun z => z.1) hR30) rfl (congrArg (fun z => z.2) hR30)
          · rw [if_neg h25] at hf
            by_cases h31 : p2 = (4 : Int32)
            · rw [if_pos h31] at hf
              refine sk_tsIn (4 : Int32) (86) 104 K dX11_doing_18 h31 (by decide) (by decide) rfl (by decide) ?_
              refine sk_aload_n K dX11_doing_104 rfl 0 rfl ?_
              obtain ⟨v32, e33, hf⟩ := sk_ob hf
              refine sk_getR K dX11_doing_105 fl_X11_13 rfl e33 ?_
              refine sk_bipush (34 : Int32) K dX11_doing_108 (by decide) ?_
              refine sk_iload_n K dX11_doing_110 rfl 1 rfl ?_
              refine sk_iadd K dX11_doing_111 ?_
              obtain ⟨v34, e35, hf⟩ := sk_ob hf
              refine sk_ald20 K dX11_doing_112 e35 ?_
              have hR36 : (v34, d1) = (rr, dd) := Option.some.inj hf
              exact sk_iret K dX11_doing_113 rfl rfl (congrArg (fun z => z.1) hR36) rfl (congrArg (fun z => z.2) hR36)
            · rw [if_neg h31] at hf
              by_cases h37 : p2 = (5 : Int32)
              · rw [if_pos h37] at hf
                refine sk_tsIn (5 : Int32) (96) 114 K dX11_doing_18 h37 (by decide) (by decide) rfl (by decide) ?_
                refine sk_aload_n K dX11_doing_114 rfl 0 rfl ?_
                obtain ⟨v38, e39, hf⟩ := sk_ob hf
                refine sk_getR K dX11_doing_115 fl_X11_13 rfl e39 ?_
                refine sk_bipush (42 : Int32) K dX11_doing_118 (by decide) ?_
                refine sk_iload_n K dX11_doing_120 rfl 1 rfl ?_
                refine sk_iadd K dX11_doing_121 ?_
                obtain ⟨v40, e41, hf⟩ := sk_ob hf
                refine sk_ald20 K dX11_doing_122 e41 ?_
                have hR42 : (v40, d1) = (rr, dd) := Option.some.inj hf
                exact sk_iret K dX11_doing_123 rfl rfl (congrArg (fun z => z.1) hR42) rfl (congrArg (fun z => z.2) hR42)
              · rw [if_neg h37] at hf
                by_cases h43 : p2 = (6 : Int32)
                · rw [if_pos h43] at hf
                  refine sk_tsIn (6 : Int32) (106) 124 K dX11_doing_18 h43 (by decide) (by decide) rfl (by decide) ?_
                  refine sk_aload_n K dX11_doing_124 rfl 0 rfl ?_
                  obtain ⟨v44, e45, hf⟩ := sk_ob hf
                  refine sk_getR K dX11_doing_125 fl_X11_13 rfl e45 ?_
                  refine sk_bipush (50 : Int32) K dX11_doing_128 (by decide) ?_
                  refine sk_iload_n K dX11_doing_130 rfl 1 rfl ?_
                  refine sk_iadd K dX11_doing_131 ?_
                  obtain ⟨v46, e47, hf⟩ := sk_ob hf
                  refine sk_ald20 K dX11_doing_132 e47 ?_
                  have hR48 : (v46, d1) = (rr, dd) := Option.some.inj hf
                  exact sk_iret K dX11_doing_133 rfl rfl (congrArg (fun z => z.1) hR48) rfl (congrArg (fun z => z.2) hR48)
                · rw [if_neg h43] at hf
                  by_cases h49 : p2 = (7 : Int32)
                  · rw [if_pos h49] at hf
                    refine sk_tsIn (7 : Int32) (116) 134 K dX11_doing_18 h49 (by decide) (by decide) rfl (by decide) ?_
                    refine sk_aload_n K dX11_doing_134 rfl 0 rfl ?_
                    obtain ⟨v50, e51, hf⟩ := sk_ob hf
                    refine sk_getR K dX11_doing_135 fl_X11_13 rfl e51 ?_
                    refine sk_bipush (58 : Int32) K dX11_doing_138 (by decide) ?_
                    refine sk_iload_n K dX11_doing_140 rfl 1 rfl ?_
                    refine sk_iadd K dX11_doing_141 ?_
                    obtain ⟨v52, e53, hf⟩ := sk_ob hf
                    refine sk_ald20 K dX11_doing_142 e53 ?_
                    have hR54 : (v52, d1) = (rr, dd) := Option.some.inj hf
                    exact sk_iret K dX11_doing_143 rfl rfl (congrArg (fun z => z.1) hR54) rfl (congrArg (fun z => z.2) hR54)
                  · rw [if_neg h49] at hf
                    refine sk_tsOut 144 K dX11_doing_18 (sk_tsout (0) 8 [(0 : Int32), (1 : Int32), (2 : Int32), (3 : Int32), (4 : Int32), (5 : Int32), (6 : Int32), (7 : Int32)] (by decide) (by simp [h7, h13, h19, h25, h31, h37, h43, h49])) (by decide) ?_
                    refine sk_bipush (-2 : Int32) K dX11_doing_144 (by decide) ?_
                    have hR55 : ((-2 : Int32), d1) = (rr, dd) := Option.some.inj hf
                    exact sk_iret K dX11_doing_146 rfl rfl (congrArg (fun z => z.1) hR55) rfl (congrArg (fun z => z.2) hR55)
  · rw [if_neg h6] at hf
    refine sk_bipush (-2 : Int32) K dX11_doing_14 (by decide) ?_
    have hR56 : ((-2 : Int32), d1) = (rr, dd) := Option.some.inj hf
    exact sk_iret K dX11_doing_16 rfl rfl (congrArg (fun z => z.1) hR56) rfl (congrArg (fun z => z.2) hR56)
noncomputable def fX11_door (S : sk_S) (d : sk_D) (p0 : Nat) (p1 : Int32) : Option (Int32 × sk_D) :=
  (sk_pI S d p0 10 0 (0 : Int32)).bind fun d1 => (sk_gR S p0 10 1).bind fun v3 => (sk_lI S d1 v3 20 (2 : Int32)).bind fun v5 => (fX11_within S d1 p1.toInt64 (0 : Int64) ((v5 - (1 : Int32)).toInt64)).bind fun v7 => if v7 = true then ((sk_gR S p0 10 1).bind fun v11 => (sk_lI S d1 v11 20 ((66 : Int32) + p1)).bind fun v13 => some (v13, d1)) else (some ((-2 : Int32), d1))
set_option maxRecDepth 100000 in
set_option maxHeartbeats 4000000 in
theorem sX11_door (C : sk_C) (l : Launch) {S : sk_S} {d : sk_D} {p0 : Nat} {p1 : Int32} {rr : Int32} {dd : sk_D} (hf : fX11_door S d p0 p1 = some (rr, dd)) : sk_Met C l 1 yX11_door cX11_door 2 (some .int) [.ref p0, .int p1] S d (some (.int rr)) S dd := by
  refine sk_Met.of (by decide) (Nat.le_of_ble_eq_true rfl) (Nat.le_refl _) (Nat.le_refl _) (fun X K0 hX => ?_)
  have K : sk_Ok X C cX11_door 2 RX11 "door" (some .int) 1 l (some (.int rr)) S dd := K0
  have R1 : X.2.2.2.2.2.2.2.2.2.2.2.1 ≤ S.1.1 ∧ X.2.2.2.2.2.2.2.2.2.2.2.2 ≤ S.1.2 := by rw [hX]; exact ⟨Nat.le_refl _, Nat.le_refl _⟩
  have R2 : S.1.1 ≤ S.1.1 ∧ S.1.2 ≤ S.1.2 := ⟨Nat.le_refl _, Nat.le_refl _⟩
  show sk_G X C 2 S d 0 [(0, .ref p0), (1, .int p1)] []
  unfold fX11_door at hf
  refine sk_aload_n K dX11_door_0 rfl 0 rfl ?_
  refine sk_iconst (0 : Int32) K dX11_door_1 (by decide) ?_
  obtain ⟨d1, e2, hf⟩ := sk_ob hf
  refine sk_putI d1 K dX11_door_2 fl_X11_1 rfl rfl rfl e2 ?_
  refine sk_iload_n K dX11_door_5 rfl 1 rfl ?_
  refine sk_i2l K dX11_door_6 ?_
  refine sk_lconst (0 : Int64) K dX11_door_7 (by decide) ?_
  refine sk_aload_n K dX11_door_8 rfl 0 rfl ?_
  obtain ⟨v3, e4, hf⟩ := sk_ob hf
  refine sk_getR K dX11_door_9 fl_X11_13 rfl e4 ?_
  refine sk_iconst (2 : Int32) K dX11_door_12 (by decide) ?_
  obtain ⟨v5, e6, hf⟩ := sk_ob hf
  refine sk_ald20 K dX11_door_13 e6 ?_
  refine sk_iconst (1 : Int32) K dX11_door_14 (by decide) ?_
  refine sk_isub K dX11_door_15 ?_
  refine sk_i2l K dX11_door_16 ?_
  obtain ⟨v7, e8, hf⟩ := sk_ob hf
  refine sk_callS (As := [.long p1.toInt64, .long (0 : Int64), .long ((v5 - (1 : Int32)).toInt64)]) (st := []) K dX11_door_17 cl_X11_150 (sX11_within C l e8) (by decide) rfl rfl (Nat.le_of_ble_eq_true rfl) R1 R2 ?_
  refine sk_ifeqB 35 K dX11_door_20 (by decide) (fun h9 => ?_) (fun h9 => ?_)
  · rw [if_neg h9] at hf
    refine sk_bipush (-2 : Int32) K dX11_door_35 (by decide) ?_
    have hR10 : ((-2 : Int32), d1) = (rr, dd) := Option.some.inj hf
    exact sk_iret K dX11_door_37 rfl rfl (congrArg (fun z => z.1) hR10) rfl (congrArg (fun z => z.2) hR10)
  · rw [if_pos h9] at hf
    refine sk_aload_n K dX11_door_23 rfl 0 rfl ?_
    obtain ⟨v11, e12, hf⟩ := sk_ob hf
    refine sk_getR K dX11_door_24 fl_X11_13 rfl e12 ?_
    refine sk_bipush (66 : Int32) K dX11_door_27 (by decide) ?_
    refine sk_iload_n K dX11_door_29 rfl 1 rfl ?_
    refine sk_iadd K dX11_door_30 ?_
    obtain ⟨v13, e14, hf⟩ := sk_ob hf
    refine sk_ald20 K dX11_door_31 e14 ?_
    refine sk_goto 37 K dX11_door_32 (by decide) ?_
    have hR15 : (v13, d1) = (rr, dd) := Option.some.inj hf
    exact sk_iret K dX11_door_37 rfl rfl (congrArg (fun z => z.1) hR15) rfl (congrArg (fun z => z.2) hR15)
noncomputable def fX11_putBack (S : sk_S) (d : sk_D) (p0 : Nat) (p1 : Int32) : Option (Int32 × sk_D) :=
  (sk_pI S d p0 10 0 (0 : Int32)).bind fun d1 => if S.2.1 p0 = (10, 0) then ((fX11_isDoing S d1 p0 p1.toInt64).bind fun v3 => if v3 = true then (if S.2.1 p0 = (10, 0) then ((fX11_standNow S d1 p0).bind fun v7 => (fX11_isDone S d1 v7 p1).bind fun v10 => if v10 = true then (if S.2.1 p0 = (10, 0) then ((fX11_standNow S d1 p0).bind fun v14 => if S.2.1 p0 = (10, 0) then ((fX11_backOf S d1 p0 v14 p1).bind fun v17 => some (v17, d1)) else none) else none) else (some ((-5 : Int32), d1))) else none) else (some ((-2 : Int32), d1))) else none
set_option maxRecDepth 100000 in
set_option maxHeartbeats 4000000 in
theorem sX11_putBack (C : sk_C) (l : Launch) {S : sk_S} {d : sk_D} {p0 : Nat} {p1 : Int32} {rr : Int32} {dd : sk_D} (hf : fX11_putBack S d p0 p1 = some (rr, dd)) : sk_Met C l 3 yX11_putBack cX11_putBack 2 (some .int) [.ref p0, .int p1] S d (some (.int rr)) S dd := by
  refine sk_Met.of (by decide) (Nat.le_of_ble_eq_true rfl) (Nat.le_refl _) (Nat.le_refl _) (fun X K0 hX => ?_)
  have K : sk_Ok X C cX11_putBack 2 RX11 "putBack" (some .int) 3 l (some (.int rr)) S dd := K0
  have R1 : X.2.2.2.2.2.2.2.2.2.2.2.1 ≤ S.1.1 ∧ X.2.2.2.2.2.2.2.2.2.2.2.2 ≤ S.1.2 := by rw [hX]; exact ⟨Nat.le_refl _, Nat.le_refl _⟩
  have R2 : S.1.1 ≤ S.1.1 ∧ S.1.2 ≤ S.1.2 := ⟨Nat.le_refl _, Nat.le_refl _⟩
  show sk_G X C 2 S d 0 [(0, .ref p0), (1, .int p1)] []
  unfold fX11_putBack at hf
  refine sk_aload_n K dX11_putBack_0 rfl 0 rfl ?_
  refine sk_iconst (0 : Int32) K dX11_putBack_1 (by decide) ?_
  obtain ⟨d1, e2, hf⟩ := sk_ob hf
  refine sk_putI d1 K dX11_putBack_2 fl_X11_1 rfl rfl rfl e2 ?_
  refine sk_aload_n K dX11_putBack_5 rfl 0 rfl ?_
  refine sk_iload_n K dX11_putBack_6 rfl 1 rfl ?_
  refine sk_i2l K dX11_putBack_7 ?_
  obtain ⟨h5, hf⟩ := sk_ib hf
  obtain ⟨v3, e4, hf⟩ := sk_ob hf
  refine sk_callV (As := [.long p1.toInt64]) (st := []) K dX11_putBack_8 cl_X11_266 h5 (sX11_isDoing C l e4) (by decide) rfl rfl (Nat.le_of_ble_eq_true rfl) R1 R2 ?_
  refine sk_ifneB 17 K dX11_putBack_11 (by decide) (fun h6 => ?_) (fun h6 => ?_)
  · rw [if_pos h6] at hf
    refine sk_aload_n K dX11_putBack_17 rfl 0 rfl ?_
    obtain ⟨h9, hf⟩ := sk_ib hf
    obtain ⟨v7, e8, hf⟩ := sk_ob hf
    refine sk_callV (As := []) (st := []) K dX11_putBack_18 cl_X11_270 h9 (sX11_standNow C l e8) (by decide) rfl rfl (Nat.le_of_ble_eq_true rfl) R1 R2 ?_
    refine sk_iload_n K dX11_putBack_21 rfl 1 rfl ?_
    obtain ⟨v10, e11, hf⟩ := sk_ob hf
    refine sk_callS (As := [.int v7, .int p1]) (st := []) K dX11_putBack_22 cl_X11_255 (sX11_isDone C l e11) (by decide) rfl rfl (Nat.le_of_ble_eq_true rfl) R1 R2 ?_
    refine sk_ifeqB 40 K dX11_putBack_25 (by decide) (fun h12 => ?_) (fun h12 => ?_)
    · rw [if_neg h12] at hf
      refine sk_bipush (-5 : Int32) K dX11_putBack_40 (by decide) ?_
      have hR13 : ((-5 : Int32), d1) = (rr, dd) := Option.some.inj hf
      exact sk_iret K dX11_putBack_42 rfl rfl (congrArg (fun z => z.1) hR13) rfl (congrArg (fun z => z.2) hR13)
    · rw [if_pos h12] at hf
      refine sk_aload_n K dX11_putBack_28 rfl 0 rfl ?_
      refine sk_aload_n K dX11_putBack_29 rfl 0 rfl ?_
      obtain ⟨h16, hf⟩ := sk_ib hf
      obtain ⟨v14, e15, hf⟩ := sk_ob hf
      refine sk_callV (As := []) (st := [.ref p0]) K dX11_putBack_30 cl_X11_270 h16 (sX11_standNow C l e15) (by decide) rfl rfl (Nat.le_of_ble_eq_true rfl) R1 R2 ?_
      refine sk_iload_n K dX11_putBack_33 rfl 1 rfl ?_
      obtain ⟨h19, hf⟩ := sk_ib hf
      obtain ⟨v17, e18, hf⟩ := sk_ob hf
      refine sk_callV (As := [.int v14, .int p1]) (st := []) K dX11_putBack_34 cl_X11_263 h19 (sX11_backOf C l e18) (by decide) rfl rfl (Nat.le_of_ble_eq_true rfl) R1 R2 ?_
      refine sk_goto 42 K dX11_putBack_37 (by decide) ?_
      have hR20 : (v17, d1) = (rr, dd) := Option.some.inj hf
      exact sk_iret K dX11_putBack_42 rfl rfl (congrArg (fun z => z.1) hR20) rfl (congrArg (fun z => z.2) hR20)
  · rw [if_neg h6] at hf
    refine sk_bipush (-2 : Int32) K dX11_putBack_14 (by decide) ?_
    have hR21 : ((-2 : Int32), d1) = (rr, dd) := Option.some.inj hf
    exact sk_iret K dX11_putBack_16 rfl rfl (congrArg (fun z => z.1) hR21) rfl (congrArg (fun z => z.2) hR21)
noncomputable def fX11_open_L9 (S : sk_S) (p0 : Nat) (d1 : sk_D) (s1 : Int32 × Int32) : Option ((Int32 × Int32) ⊕ (Int32 × sk_D)) :=
  (sk_gR S p0 10 1).bind fun v3 => (sk_lI S d1 v3 20 (1 : Int32)).bind fun v5 => if v5 ≤ s1.2 then (some (.inr (s1.1, d1))) else (if S.2.1 p0 = (10, 0) then ((fX11_standNow S d1 p0).bind fun v9 => (fX11_isDone S d1 v9 s1.2).bind fun v12 => if v12 = true then (some (.inl (s1.1 ||| (0 : Int32), s1.2 + 1))) else (if S.2.1 p0 = (10, 0) then ((fX11_standNow S d1 p0).bind fun v15 => if S.2.1 p0 = (10, 0) then ((fX11_hasNeeds S d1 p0 v15 s1.2).bind fun v18 => if v18 = true then (some (.inl (s1.1 ||| ((1 : Int32) <<< (s1.2 &&& 31)), s1.2 + 1))) else (some (.inl (s1.1 ||| (0 : Int32), s1.2 + 1)))) else none) else none)) else none)
noncomputable def fX11_open (S : sk_S) (d : sk_D) (p0 : Nat) : Option (Int32 × sk_D) :=
  (sk_pI S d p0 10 0 (0 : Int32)).bind fun d1 => (sk_itr (fX11_open_L9 S p0 d1) ((0 : Int32), (0 : Int32))).bind fun x1 => some x1
set_option maxRecDepth 100000 in
set_option maxHeartbeats 4000000 in
theorem sX11_open (C : sk_C) (l : Launch) {S : sk_S} {d : sk_D} {p0 : Nat} {rr : Int32} {dd : sk_D} (hf : fX11_open S d p0 = some (rr, dd)) : sk_Met C l 4 yX11_open cX11_open 3 (some .int) [.ref p0] S d (some (.int rr)) S dd := by
  refine sk_Met.of (by decide) (Nat.le_of_ble_eq_true rfl) (Nat.le_refl _) (Nat.le_refl _) (fun X K0 hX => ?_)
  have K : sk_Ok X C cX11_open 3 RX11 "open" (some .int) 4 l (some (.int rr)) S dd := K0
  have R1 : X.2.2.2.2.2.2.2.2.2.2.2.1 ≤ S.1.1 ∧ X.2.2.2.2.2.2.2.2.2.2.2.2 ≤ S.1.2 := by rw [hX]; exact ⟨Nat.le_refl _, Nat.le_refl _⟩
  have R2 : S.1.1 ≤ S.1.1 ∧ S.1.2 ≤ S.1.2 := ⟨Nat.le_refl _, Nat.le_refl _⟩
  show sk_G X C 3 S d 0 [(0, .ref p0)] []
  unfold fX11_open at hf
  refine sk_aload_n K dX11_open_0 rfl 0 rfl ?_
  refine sk_iconst (0 : Int32) K dX11_open_1 (by decide) ?_
  obtain ⟨d1, e2, hf⟩ := sk_ob hf
  refine sk_putI d1 K dX11_open_2 fl_X11_1 rfl rfl rfl e2 ?_
  refine sk_iconst (0 : Int32) K dX11_open_5 (by decide) ?_
  refine sk_istore_n [(1, .int (0 : Int32)), (0, .ref p0)] K dX11_open_6 rfl (by decide) rfl ?_
  refine sk_iconst (0 : Int32) K dX11_open_7 (by decide) ?_
  refine sk_istore_n [(2, .int (0 : Int32)), (1, .int (0 : Int32)), (0, .ref p0)] K dX11_open_8 rfl (by decide) rfl ?_
  obtain ⟨x1, he1, hf⟩ := sk_ob hf
  have hret1 : ∀ r, r = x1 → r = (rr, dd) := by
    intro r hr
    subst hr
    exact Option.some.inj hf
  refine sk_sub [(0, .ref p0), (1, .int (0 : Int32)), (2, .int (0 : Int32))] [2, 1, 0] rfl ?_
  refine sk_loop (fun s1 => sk_G X C 3 S d1 9 [(0, .ref p0), (1, .int s1.1), (2, .int s1.2)] []) he1 (fun s1 o1 hf ih1 hx1 => ?_)
  unfold fX11_open_L9 at hf
  refine sk_iload_n K dX11_open_9 rfl 2 rfl ?_
  refine sk_aload_n K dX11_open_10 rfl 0 rfl ?_
  obtain ⟨v3, e4, hf⟩ := sk_ob hf
  refine sk_getR K dX11_open_11 fl_X11_13 rfl e4 ?_
  refine sk_iconst (1 : Int32) K dX11_open_14 (by decide) ?_
  obtain ⟨v5, e6, hf⟩ := sk_ob hf
  refine sk_ald20 K dX11_open_15 e6 ?_
  refine sk_icmp_ge 58 K dX11_open_16 (by decide) (fun h7 => ?_) (fun h7 => ?_)
  · rw [if_pos h7] at hf
    refine sk_iload_n K dX11_open_58 rfl 1 rfl ?_
    have hR8 : (s1.1, d1) = (rr, dd) := hret1 _ (hx1 _ (Option.some.inj hf).symm)
    exact sk_iret K dX11_open_59 rfl rfl (congrArg (fun z => z.1) hR8) rfl (congrArg (fun z => z.2) hR8)
  · rw [if_neg h7] at hf
    refine sk_iload_n K dX11_open_19 rfl 1 rfl ?_
    refine sk_aload_n K dX11_open_20 rfl 0 rfl ?_
    obtain ⟨h11, hf⟩ := sk_ib hf
    obtain ⟨v9, e10, hf⟩ := sk_ob hf
    refine sk_callV (As := []) (st := [.int s1.1]) K dX11_open_21 cl_X11_270 h11 (sX11_standNow C l e10) (by decide) rfl rfl (Nat.le_of_ble_eq_true rfl) R1 R2 ?_
    refine sk_iload_n K dX11_open_24 rfl 2 rfl ?_
    obtain ⟨v12, e13, hf⟩ := sk_ob hf
    refine sk_callS (As := [.int v9, .int s1.2]) (st := [.int s1.1]) K dX11_open_25 cl_X11_255 (sX11_isDone C l e13) (by decide) rfl rfl (Nat.le_of_ble_eq_true rfl) R1 R2 ?_
    refine sk_ifneB 49 K dX11_open_28 (by decide) (fun h14 => ?_) (fun h14 => ?_)
    · rw [if_pos h14] at hf
      refine sk_iconst (0 : Int32) K dX11_open_49 (by decide) ?_
      refine sk_ior K dX11_open_50 ?_
      refine sk_istore_n [(1, .int (s1.1 ||| (0 : Int32))), (0, .ref p0), (2, .int s1.2)] K dX11_open_51 rfl (by decide) rfl ?_
      refine sk_iinc (s1.2 + 1) [(2, .int (s1.2 + 1)), (1, .int (s1.1 ||| (0 : Int32))), (0, .ref p0)] K dX11_open_52 2 rfl rfl (by decide) rfl ?_
      refine sk_goto 9 K dX11_open_55 (by decide) ?_
      refine sk_sub [(0, .ref p0), (1, .int (s1.1 ||| (0 : Int32))), (2, .int (s1.2 + 1))] [2, 1, 0] rfl ?_
      have h9 := ih1 _ (Option.some.inj hf).symm
      exact h9
    · rw [if_neg h14] at hf
      refine sk_aload_n K dX11_open_31 rfl 0 rfl ?_
      refine sk_aload_n K dX11_open_32 rfl 0 rfl ?_
      obtain ⟨h17, hf⟩ := sk_ib hf
      obtain ⟨v15, e16, hf⟩ := sk_ob hf
      refine sk_callV (As := []) (st := [.ref p0, .int s1.1]) K dX11_open_33 cl_X11_270 h17 (sX11_standNow C l e16) (by decide) rfl rfl (Nat.le_of_ble_eq_true rfl) R1 R2 ?_
      refine sk_iload_n K dX11_open_36 rfl 2 rfl ?_
      obtain ⟨h20, hf⟩ := sk_ib hf
      obtain ⟨v18, e19, hf⟩ := sk_ob hf
      refine sk_callV (As := [.int v15, .int s1.2]) (st := [.int s1.1]) K dX11_open_37 cl_X11_273 h20 (sX11_hasNeeds C l e19) (by decide) rfl rfl (Nat.le_of_ble_eq_true rfl) R1 R2 ?_
      refine sk_ifeqB 49 K dX11_open_40 (by decide) (fun h21 => ?_) (fun h21 => ?_)
      · rw [if_neg h21] at hf
        refine sk_iconst (0 : Int32) K dX11_open_49 (by decide) ?_
        refine sk_ior K dX11_open_50 ?_
        refine sk_istore_n [(1, .int (s1.1 ||| (0 : Int32))), (0, .ref p0), (2, .int s1.2)] K dX11_open_51 rfl (by decide) rfl ?_
        refine sk_iinc (s1.2 + 1) [(2, .int (s1.2 + 1)), (1, .int (s1.1 ||| (0 : Int32))), (0, .ref p0)] K dX11_open_52 2 rfl rfl (by decide) rfl ?_
        refine sk_goto 9 K dX11_open_55 (by decide) ?_
        refine sk_sub [(0, .ref p0), (1, .int (s1.1 ||| (0 : Int32))), (2, .int (s1.2 + 1))] [2, 1, 0] rfl ?_
        have h9 := ih1 _ (Option.some.inj hf).symm
        exact h9
      · rw [if_pos h21] at hf
        refine sk_iconst (1 : Int32) K dX11_open_43 (by decide) ?_
        refine sk_iload_n K dX11_open_44 rfl 2 rfl ?_
        refine sk_ishl K dX11_open_45 ?_
        refine sk_goto 50 K dX11_open_46 (by decide) ?_
        refine sk_ior K dX11_open_50 ?_
        refine sk_istore_n [(1, .int (s1.1 ||| ((1 : Int32) <<< (s1.2 &&& 31)))), (0, .ref p0), (2, .int s1.2)] K dX11_open_51 rfl (by decide) rfl ?_
        refine sk_iinc (s1.2 + 1) [(2, .int (s1.2 + 1)), (1, .int (s1.1 ||| ((1 : Int32) <<< (s1.2 &&& 31)))), (0, .ref p0)] K dX11_open_52 2 rfl rfl (by decide) rfl ?_
        refine sk_goto 9 K dX11_open_55 (by decide) ?_
        refine sk_sub [(0, .ref p0), (1, .int (s1.1 ||| ((1 : Int32) <<< (s1.2 &&& 31)))), (2, .int (s1.2 + 1))] [2, 1, 0] rfl ?_
        have h9 := ih1 _ (Option.some.inj hf).symm
        exact h9
noncomputable def fX11_keeps_L2 (S : sk_S) (p0 : Nat) (s1 : Int32 × sk_D) : Option ((Int32 × sk_D) ⊕ (sk_D)) :=
  if (9 : Int32) ≤ s1.1 then (some (.inr s1.2)) else ((sk_gR S p0 10 18).bind fun v3 => (sk_gR S p0 10 1).bind fun v5 => (sk_lI S s1.2 v5 20 ((74 : Int32) + s1.1)).bind fun v7 => (sk_sI S s1.2 v3 20 s1.1 v7).bind fun d9 => some (.inl (s1.1 + 1, d9)))
noncomputable def fX11_keeps (S : sk_S) (d : sk_D) (p0 : Nat) : Option (sk_D) :=
  (sk_itr (fX11_keeps_L2 S p0) ((0 : Int32), d)).bind fun x1 => some x1
set_option maxRecDepth 100000 in
set_option maxHeartbeats 4000000 in
theorem sX11_keeps (C : sk_C) (l : Launch) {S : sk_S} {d : sk_D} {p0 : Nat} {dd : sk_D} (hf : fX11_keeps S d p0 = some dd) : sk_Met C l 0 yX11_keeps cX11_keeps 2 none [.ref p0] S d none S dd := by
  refine sk_Met.of (by decide) (Nat.le_of_ble_eq_true rfl) (Nat.le_refl _) (Nat.le_refl _) (fun X K0 hX => ?_)
  have K : sk_Ok X C cX11_keeps 2 RX11 "keeps" none 0 l none S dd := K0
  have R1 : X.2.2.2.2.2.2.2.2.2.2.2.1 ≤ S.1.1 ∧ X.2.2.2.2.2.2.2.2.2.2.2.2 ≤ S.1.2 := by rw [hX]; exact ⟨Nat.le_refl _, Nat.le_refl _⟩
  have R2 : S.1.1 ≤ S.1.1 ∧ S.1.2 ≤ S.1.2 := ⟨Nat.le_refl _, Nat.le_refl _⟩
  show sk_G X C 2 S d 0 [(0, .ref p0)] []
  unfold fX11_keeps at hf
  refine sk_iconst (0 : Int32) K dX11_keeps_0 (by decide) ?_
  refine sk_istore_n [(1, .int (0 : Int32)), (0, .ref p0)] K dX11_keeps_1 rfl (by decide) rfl ?_
  obtain ⟨x1, he1, hf⟩ := sk_ob hf
  have hret1 : ∀ r, r = x1 → r = dd := by
    intro r hr
    subst hr
    exact Option.some.inj hf
  refine sk_sub [(0, .ref p0), (1, .int (0 : Int32))] [1, 0] rfl ?_
  refine sk_loop (fun s1 => sk_G X C 2 S s1.2 2 [(0, .ref p0), (1, .int s1.1)] []) he1 (fun s1 o1 hf ih1 hx1 => ?_)
  unfold fX11_keeps_L2 at hf
  refine sk_iload_n K dX11_keeps_2 rfl 1 rfl ?_
  refine sk_bipush (9 : Int32) K dX11_keeps_3 (by decide) ?_
  refine sk_icmp_ge 29 K dX11_keeps_5 (by decide) (fun h1 => ?_) (fun h1 => ?_)
  · rw [if_pos h1] at hf
    have hR2 : s1.2 = dd := hret1 _ (hx1 _ (Option.some.inj hf).symm)
    exact sk_vret K dX11_keeps_29 rfl rfl rfl hR2
  · rw [if_neg h1] at hf
    refine sk_aload_n K dX11_keeps_8 rfl 0 rfl ?_
    obtain ⟨v3, e4, hf⟩ := sk_ob hf
    refine sk_getR K dX11_keeps_9 fl_X11_36 rfl e4 ?_
    refine sk_iload_n K dX11_keeps_12 rfl 1 rfl ?_
    refine sk_aload_n K dX11_keeps_13 rfl 0 rfl ?_
    obtain ⟨v5, e6, hf⟩ := sk_ob hf
    refine sk_getR K dX11_keeps_14 fl_X11_13 rfl e6 ?_
    refine sk_bipush (74 : Int32) K dX11_keeps_17 (by decide) ?_
    refine sk_iload_n K dX11_keeps_19 rfl 1 rfl ?_
    refine sk_iadd K dX11_keeps_20 ?_
    obtain ⟨v7, e8, hf⟩ := sk_ob hf
    refine sk_ald20 K dX11_keeps_21 e8 ?_
    obtain ⟨d9, e10, hf⟩ := sk_ob hf
    refine sk_ast20 d9 K dX11_keeps_22 e10 ?_
    refine sk_iinc (s1.1 + 1) [(1, .int (s1.1 + 1)), (0, .ref p0)] K dX11_keeps_23 1 rfl rfl (by decide) rfl ?_
    refine sk_goto 2 K dX11_keeps_26 (by decide) ?_
    refine sk_sub [(0, .ref p0), (1, .int (s1.1 + 1))] [1, 0] rfl ?_
    have h9 := ih1 _ (Option.some.inj hf).symm
    exact h9
noncomputable def fX11_isAgain_L2 (S : sk_S) (p0 : Nat) (s1 : Int32 × sk_D) : Option ((Int32 × sk_D) ⊕ (sk_D)) :=
  if (9 : Int32) ≤ s1.1 then (some (.inr s1.2)) else ((sk_gR S p0 10 1).bind fun v3 => (sk_gR S p0 10 18).bind fun v5 => (sk_lI S s1.2 v5 20 s1.1).bind fun v7 => (sk_sI S s1.2 v3 20 ((74 : Int32) + s1.1) v7).bind fun d9 => some (.inl (s1.1 + 1, d9)))
noncomputable def fX11_isAgain (S : sk_S) (d : sk_D) (p0 : Nat) : Option (sk_D) :=
  (sk_itr (fX11_isAgain_L2 S p0) ((0 : Int32), d)).bind fun x1 => some x1
set_option maxRecDepth 100000 in
set_option maxHeartbeats 4000000 in
theorem sX11_isAgain (C : sk_C) (l : Launch) {S : sk_S} {d : sk_D} {p0 : Nat} {dd : sk_D} (hf : fX11_isAgain S d p0 = some dd) : sk_Met C l 0 yX11_isAgain cX11_isAgain 2 none [.ref p0] S d none S dd := by
  refine sk_Met.of (by decide) (Nat.le_of_ble_eq_true rfl) (Nat.le_refl _) (Nat.le_refl _) (fun X K0 hX => ?_)
  have K : sk_Ok X C cX11_isAgain 2 RX11 "isAgain" none 0 l none S dd := K0
  have R1 : X.2.2.2.2.2.2.2.2.2.2.2.1 ≤ S.1.1 ∧ X.2.2.2.2.2.2.2.2.2.2.2.2 ≤ S.1.2 := by rw [hX]; exact ⟨Nat.le_refl _, Nat.le_refl _⟩
  have R2 : S.1.1 ≤ S.1.1 ∧ S.1.2 ≤ S.1.2 := ⟨Nat.le_refl _, Nat.le_refl _⟩
  show sk_G X C 2 S d 0 [(0, .ref p0)] []
  unfold fX11_isAgain at hf
  refine sk_iconst (0 : Int32) K dX11_isAgain_0 (by decide) ?_
  refine sk_istore_n [(1, .int (0 : Int32)), (0, .ref p0)] K dX11_isAgain_1 rfl (by decide) rfl ?_
  obtain ⟨x1, he1, hf⟩ := sk_ob hf
  have hret1 : ∀ r, r = x1 → r = dd := by
    intro r hr
    subst hr
    exact Option.some.inj hf
  refine sk_sub [(0, .ref p0), (1, .int (0 : Int32))] [1, 0] rfl ?_
  refine sk_loop (fun s1 => sk_G X C 2 S s1.2 2 [(0, .ref p0), (1, .int s1.1)] []) he1 (fun s1 o1 hf ih1 hx1 => ?_)
  unfold fX11_isAgain_L2 at hf
  refine sk_iload_n K dX11_isAgain_2 rfl 1 rfl ?_
  refine sk_bipush (9 : Int32) K dX11_isAgain_3 (by decide) ?_
  refine sk_icmp_ge 29 K dX11_isAgain_5 (by decide) (fun h1 => ?_) (fun h1 => ?_)
  · rw [if_pos h1] at hf
    have hR2 : s1.2 = dd := hret1 _ (hx1 _ (Option.some.inj hf).symm)
    exact sk_vret K dX11_isAgain_29 rfl rfl rfl hR2
  · rw [if_neg h1] at hf
    refine sk_aload_n K dX11_isAgain_8 rfl 0 rfl ?_
    obtain ⟨v3, e4, hf⟩ := sk_ob hf
    refine sk_getR K dX11_isAgain_9 fl_X11_13 rfl e4 ?_
    refine sk_bipush (74 : Int32) K dX11_isAgain_12 (by decide) ?_
    refine sk_iload_n K dX11_isAgain_14 rfl 1 rfl ?_
    refine sk_iadd K dX11_isAgain_15 ?_
    refine sk_aload_n K dX11_isAgain_16 rfl 0 rfl ?_
    obtain ⟨v5, e6, hf⟩ := sk_ob hf
    refine sk_getR K dX11_isAgain_17 fl_X11_36 rfl e6 ?_
    refine sk_iload_n K dX11_isAgain_20 rfl 1 rfl ?_
    obtain ⟨v7, e8, hf⟩ := sk_ob hf
    refine sk_ald20 K dX11_isAgain_21 e8 ?_
    obtain ⟨d9, e10, hf⟩ := sk_ob hf
    refine sk_ast20 d9 K dX11_isAgain_22 e10 ?_
    refine sk_iinc (s1.1 + 1) [(1, .int (s1.1 + 1)), (0, .ref p0)] K dX11_isAgain_23 1 rfl rfl (by decide) rfl ?_
    refine sk_goto 2 K dX11_isAgain_26 (by decide) ?_
    refine sk_sub [(0, .ref p0), (1, .int (s1.1 + 1))] [1, 0] rfl ?_
    have h9 := ih1 _ (Option.some.inj hf).symm
    exact h9
noncomputable def fX11_notes_L57 (S : sk_S) (p0 : Nat) (s1 : Int32 × sk_D) : Option ((Int32 × sk_D) ⊕ (sk_D)) :=
  if (9 : Int32) ≤ s1.1 then ((sk_gR S p0 10 1).bind fun v3 => (sk_lI S s1.2 v3 20 (83 : Int32)).bind fun v5 => (sk_sI S s1.2 v3 20 (83 : Int32) (v5 + (1 : Int32))).bind fun d7 => some (.inr d7)) else ((sk_gR S p0 10 1).bind fun v10 => (sk_gR S p0 10 1).bind fun v12 => (sk_lI S s1.2 v12 20 (83 : Int32)).bind fun v14 => (sk_gR S p0 10 18).bind fun v16 => (sk_lI S s1.2 v16 20 s1.1).bind fun v18 => (sk_sI S s1.2 v10 20 (((84 : Int32) + ((9 : Int32) * v14)) + s1.1) v18).bind fun d20 => some (.inl (s1.1 + 1, d20)))
noncomputable def fX11_notes_J55 (S : sk_S) (p0 : Nat) (d1 : sk_D) : Option (sk_D) :=
  (sk_itr (fX11_notes_L57 S p0) ((0 : Int32), d1)).bind fun x1 => some x1
noncomputable def fX11_notes_L14 (S : sk_S) (p0 : Nat) (s2 : Int32 × sk_D) : Option ((Int32 × sk_D) ⊕ (sk_D)) :=
  if (81 : Int32) ≤ s2.1 then (some (.inr s2.2)) else ((sk_gR S p0 10 1).bind fun v34 => (sk_gR S p0 10 1).bind fun v36 => (sk_lI S s2.2 v36 20 ((93 : Int32) + s2.1)).bind fun v38 => (sk_sI S s2.2 v34 20 ((84 : Int32) + s2.1) v38).bind fun d40 => some (.inl (s2.1 + 1, d40)))
noncomputable def fX11_notes (S : sk_S) (d : sk_D) (p0 : Nat) : Option (sk_D) :=
  (sk_gR S p0 10 1).bind fun v22 => (sk_lI S d v22 20 (83 : Int32)).bind fun v24 => if v24 = (10 : Int32) then ((sk_itr (fX11_notes_L14 S p0) ((0 : Int32), d)).bind fun y2 => (sk_gR S p0 10 1).bind fun v27 => (sk_lI S y2 v27 20 (83 : Int32)).bind fun v29 => (sk_sI S y2 v27 20 (83 : Int32) (v29 - (1 : Int32))).bind fun d31 => fX11_notes_J55 S p0 d31) else (fX11_notes_J55 S p0 d)
set_option maxRecDepth 100000 in
set_option maxHeartbeats 4000000 in
theorem sX11_notes (C : sk_C) (l : Launch) {S : sk_S} {d : sk_D} {p0 : Nat} {dd : sk_D} (hf : fX11_notes S d p0 = some dd) : sk_Met C l 0 yX11_notes cX11_notes 2 none [.ref p0] S d none S dd := by
  refine sk_Met.of (by decide) (Nat.le_of_ble_eq_true rfl) (Nat.le_refl _) (Nat.le_refl _) (fun X K0 hX => ?_)
  have K : sk_Ok X C cX11_notes 2 RX11 "notes" none 0 l none S dd := K0
  have R1 : X.2.2.2.2.2.2.2.2.2.2.2.1 ≤ S.1.1 ∧ X.2.2.2.2.2.2.2.2.2.2.2.2 ≤ S.1.2 := by rw [hX]; exact ⟨Nat.le_refl _, Nat.le_refl _⟩
  have R2 : S.1.1 ≤ S.1.1 ∧ S.1.2 ≤ S.1.2 := ⟨Nat.le_refl _, Nat.le_refl _⟩
  show sk_G X C 2 S d 0 [(0, .ref p0)] []
  unfold fX11_notes at hf
  have j55_0 : ∀ (d1 : sk_D), fX11_notes_J55 S p0 d1 = some dd → sk_G X C 2 S d1 55 [(0, .ref p0)] [] := by
    intro d1 hf
    unfold fX11_notes_J55 at hf
    refine sk_iconst (0 : Int32) K dX11_notes_55 (by decide) ?_
    refine sk_istore_n [(1, .int (0 : Int32)), (0, .ref p0)] K dX11_notes_56 rfl (by decide) rfl ?_
    obtain ⟨x1, he1, hf⟩ := sk_ob hf
    have hret1 : ∀ r, r = x1 → r = dd := by
      intro r hr
      subst hr
      exact Option.some.inj hf
    refine sk_sub [(0, .ref p0), (1, .int (0 : Int32))] [1, 0] rfl ?_
    refine sk_loop (fun s1 => sk_G X C 2 S s1.2 57 [(0, .ref p0), (1, .int s1.1)] []) he1 (fun s1 o1 hf ih1 hx1 => ?_)
    unfold fX11_notes_L57 at hf
    refine sk_iload_n K dX11_notes_57 rfl 1 rfl ?_
    refine sk_bipush (9 : Int32) K dX11_notes_58 (by decide) ?_
    refine sk_icmp_ge 95 K dX11_notes_60 (by decide) (fun h2 => ?_) (fun h2 => ?_)
    · rw [if_pos h2] at hf
      refine sk_aload_n K dX11_notes_95 rfl 0 rfl ?_
      obtain ⟨v3, e4, hf⟩ := sk_ob hf
      refine sk_getR K dX11_notes_96 fl_X11_13 rfl e4 ?_
      refine sk_bipush (83 : Int32) K dX11_notes_99 (by decide) ?_
      refine sk_dup2 K dX11_notes_101 rfl rfl ?_
      obtain ⟨v5, e6, hf⟩ := sk_ob hf
      refine sk_ald20 K dX11_notes_102 e6 ?_
      refine sk_iconst (1 : Int32) K dX11_notes_103 (by decide) ?_
      refine sk_iadd K dX11_notes_104 ?_
      obtain ⟨d7, e8, hf⟩ := sk_ob hf
      refine sk_ast20 d7 K dX11_notes_105 e8 ?_
      have hR9 : d7 = dd := hret1 _ (hx1 _ (Option.some.inj hf).symm)
      exact sk_vret K dX11_notes_106 rfl rfl rfl hR9
    · rw [if_neg h2] at hf
      refine sk_aload_n K dX11_notes_63 rfl 0 rfl ?_
      obtain ⟨v10, e11, hf⟩ := sk_ob hf
      refine sk_getR K dX11_notes_64 fl_X11_13 rfl e11 ?_
      refine sk_bipush (84 : Int32) K dX11_notes_67 (by decide) ?_
      refine sk_bipush (9 : Int32) K dX11_notes_69 (by decide) ?_
      refine sk_aload_n K dX11_notes_71 rfl 0 rfl ?_
      obtain ⟨v12, e13, hf⟩ := sk_ob hf
      refine sk_getR K dX11_notes_72 fl_X11_13 rfl e13 ?_
      refine sk_bipush (83 : Int32) K dX11_notes_75 (by decide) ?_
      obtain ⟨v14, e15, hf⟩ := sk_ob hf
      refine sk_ald20 K dX11_notes_77 e15 ?_
      refine sk_imul K dX11_notes_78 ?_
      refine sk_iadd K dX11_notes_79 ?_
      refine sk_iload_n K dX11_notes_80 rfl 1 rfl ?_
      refine sk_iadd K dX11_notes_81 ?_
      refine sk_aload_n K dX11_notes_82 rfl 0 rfl ?_
      obtain ⟨v16, e17, hf⟩ := sk_ob hf
      refine sk_getR K dX11_notes_83 fl_X11_36 rfl e17 ?_
      refine sk_iload_n K dX11_notes_86 rfl 1 rfl ?_
      obtain ⟨v18, e19, hf⟩ := sk_ob hf
      refine sk_ald20 K dX11_notes_87 e19 ?_
      obtain ⟨d20, e21, hf⟩ := sk_ob hf
      refine sk_ast20 d20 K dX11_notes_88 e21 ?_
      refine sk_iinc (s1.1 + 1) [(1, .int (s1.1 + 1)), (0, .ref p0)] K dX11_notes_89 1 rfl rfl (by decide) rfl ?_
      refine sk_goto 57 K dX11_notes_92 (by decide) ?_
      refine sk_sub [(0, .ref p0), (1, .int (s1.1 + 1))] [1, 0] rfl ?_
      have h9 := ih1 _ (Option.some.inj hf).symm
      exact h9
  refine sk_aload_n K dX11_notes_0 rfl 0 rfl ?_
  obtain ⟨v22, e23, hf⟩ := sk_ob hf
  refine sk_getR K dX11_notes_1 fl_X11_13 rfl e23 ?_
  refine sk_bipush (83 : Int32) K dX11_notes_4 (by decide) ?_
  obtain ⟨v24, e25, hf⟩ := sk_ob hf
  refine sk_ald20 K dX11_notes_6 e25 ?_
  refine sk_bipush (10 : Int32) K dX11_notes_7 (by decide) ?_
  refine sk_icmp_ne 55 K dX11_notes_9 (by decide) (fun h26 => ?_) (fun h26 => ?_)
  · rw [if_neg h26] at hf
    refine sk_sub [(0, .ref p0)] [0] rfl ?_
    have h9 := j55_0 _ hf
    exact h9
  · rw [if_pos h26] at hf
    refine sk_iconst (0 : Int32) K dX11_notes_12 (by decide) ?_
    refine sk_istore_n [(1, .int (0 : Int32)), (0, .ref p0)] K dX11_notes_13 rfl (by decide) rfl ?_
    obtain ⟨x2, he2, hf⟩ := sk_ob hf
    have rest2 : ∀ y2, y2 = x2 → sk_G X C 2 S y2 44 [(0, .ref p0)] [] := by
      intro y2 hy
      subst hy
      refine sk_aload_n K dX11_notes_44 rfl 0 rfl ?_
      obtain ⟨v27, e28, hf⟩ := sk_ob hf
      refine sk_getR K dX11_notes_45 fl_X11_13 rfl e28 ?_
      refine sk_bipush (83 : Int32) K dX11_notes_48 (by decide) ?_
      refine sk_dup2 K dX11_notes_50 rfl rfl ?_
      obtain ⟨v29, e30, hf⟩ := sk_ob hf
      refine sk_ald20 K dX11_notes_51 e30 ?_
      refine sk_iconst (1 : Int32) K dX11_notes_52 (by decide) ?_
      refine sk_isub K dX11_notes_53 ?_
      obtain ⟨d31, e32, hf⟩ := sk_ob hf
      refine sk_ast20 d31 K dX11_notes_54 e32 ?_
      refine sk_sub [(0, .ref p0)] [0] rfl ?_
      have h9 := j55_0 _ hf
      exact h9
    refine sk_sub [(0, .ref p0), (1, .int (0 : Int32))] [1, 0] rfl ?_
    refine sk_loop (fun s2 => sk_G X C 2 S s2.2 14 [(0, .ref p0), (1, .int s2.1)] []) he2 (fun s2 o2 hf ih2 hx2 => ?_)
    unfold fX11_notes_L14 at hf
    refine sk_iload_n K dX11_notes_14 rfl 1 rfl ?_
    refine sk_bipush (81 : Int32) K dX11_notes_15 (by decide) ?_
    refine sk_icmp_ge 44 K dX11_notes_17 (by decide) (fun h33 => ?_) (fun h33 => ?_)
    · rw [if_pos h33] at hf
      refine sk_sub [(0, .ref p0)] [0] rfl ?_
      have h9 := rest2 _ (hx2 _ (Option.some.inj hf).symm)
      exact h9
    · rw [if_neg h33] at hf
      refine sk_aload_n K dX11_notes_20 rfl 0 rfl ?_
      obtain ⟨v34, e35, hf⟩ := sk_ob hf
      refine sk_getR K dX11_notes_21 fl_X11_13 rfl e35 ?_
      refine sk_bipush (84 : Int32) K dX11_notes_24 (by decide) ?_
      refine sk_iload_n K dX11_notes_26 rfl 1 rfl ?_
      refine sk_iadd K dX11_notes_27 ?_
      refine sk_aload_n K dX11_notes_28 rfl 0 rfl ?_
      obtain ⟨v36, e37, hf⟩ := sk_ob hf
      refine sk_getR K dX11_notes_29 fl_X11_13 rfl e37 ?_
      refine sk_bipush (93 : Int32) K dX11_notes_32 (by decide) ?_
      refine sk_iload_n K dX11_notes_34 rfl 1 rfl ?_
      refine sk_iadd K dX11_notes_35 ?_
      obtain ⟨v38, e39, hf⟩ := sk_ob hf
      refine sk_ald20 K dX11_notes_36 e39 ?_
      obtain ⟨d40, e41, hf⟩ := sk_ob hf
      refine sk_ast20 d40 K dX11_notes_37 e41 ?_
      refine sk_iinc (s2.1 + 1) [(1, .int (s2.1 + 1)), (0, .ref p0)] K dX11_notes_38 1 rfl rfl (by decide) rfl ?_
      refine sk_goto 14 K dX11_notes_41 (by decide) ?_
      refine sk_sub [(0, .ref p0), (1, .int (s2.1 + 1))] [1, 0] rfl ?_
      have h9 := ih2 _ (Option.some.inj hf).symm
      exact h9
noncomputable def fX11_whyDo (S : sk_S) (d : sk_D) (p0 : Nat) (p1 : Int64) : Option (Int32) :=
  if S.2.1 p0 = (10, 0) then ((fX11_isDoing S d p0 p1).bind fun v1 => if v1 = true then (if S.2.1 p0 = (10, 0) then ((fX11_standNow S d p0).bind fun v5 => (fX11_isDone S d v5 p1.toInt32).bind fun v8 => if v8 = true then (some (2 : Int32)) else (if S.2.1 p0 = (10, 0) then ((fX11_hasNeeds S d p0 v5 p1.toInt32).bind fun v11 => if v11 = true then (some (0 : Int32)) else (some (3 : Int32))) else none)) else none) else (some (1 : Int32))) else none
set_option maxRecDepth 100000 in
set_option maxHeartbeats 4000000 in
theorem sX11_whyDo (C : sk_C) (l : Launch) {S : sk_S} {d : sk_D} {p0 : Nat} {p1 : Int64} {rr : Int32} (hf : fX11_whyDo S d p0 p1 = some rr) : sk_Met C l 4 yX11_whyDo cX11_whyDo 4 (some .int) [.ref p0, .long p1] S d (some (.int rr)) S d := by
  refine sk_Met.of (by decide) (Nat.le_of_ble_eq_true rfl) (Nat.le_refl _) (Nat.le_refl _) (fun X K0 hX => ?_)
  have K : sk_Ok X C cX11_whyDo 4 RX11 "whyDo" (some .int) 4 l (some (.int rr)) S d := K0
  have R1 : X.2.2.2.2.2.2.2.2.2.2.2.1 ≤ S.1.1 ∧ X.2.2.2.2.2.2.2.2.2.2.2.2 ≤ S.1.2 := by rw [hX]; exact ⟨Nat.le_refl _, Nat.le_refl _⟩
  have R2 : S.1.1 ≤ S.1.1 ∧ S.1.2 ≤ S.1.2 := ⟨Nat.le_refl _, Nat.le_refl _⟩
  show sk_G X C 4 S d 0 [(0, .ref p0), (1, .long p1)] []
  unfold fX11_whyDo at hf
  refine sk_aload_n K dX11_whyDo_0 rfl 0 rfl ?_
  refine sk_lload_n K dX11_whyDo_1 rfl 1 rfl ?_
  obtain ⟨h3, hf⟩ := sk_ib hf
  obtain ⟨v1, e2, hf⟩ := sk_ob hf
  refine sk_callV (As := [.long p1]) (st := []) K dX11_whyDo_2 cl_X11_266 h3 (sX11_isDoing C l e2) (by decide) rfl rfl (Nat.le_of_ble_eq_true rfl) R1 R2 ?_
  refine sk_ifneB 10 K dX11_whyDo_5 (by decide) (fun h4 => ?_) (fun h4 => ?_)
  · rw [if_pos h4] at hf
    refine sk_aload_n K dX11_whyDo_10 rfl 0 rfl ?_
    obtain ⟨h7, hf⟩ := sk_ib hf
    obtain ⟨v5, e6, hf⟩ := sk_ob hf
    refine sk_callV (As := []) (st := []) K dX11_whyDo_11 cl_X11_270 h7 (sX11_standNow C l e6) (by decide) rfl rfl (Nat.le_of_ble_eq_true rfl) R1 R2 ?_
    refine sk_istore_n [(3, .int v5), (0, .ref p0), (1, .long p1)] K dX11_whyDo_14 rfl (by decide) rfl ?_
    refine sk_iload_n K dX11_whyDo_15 rfl 0 rfl ?_
    refine sk_lload_n K dX11_whyDo_16 rfl 2 rfl ?_
    refine sk_l2i K dX11_whyDo_17 ?_
    obtain ⟨v8, e9, hf⟩ := sk_ob hf
    refine sk_callS (As := [.int v5, .int p1.toInt32]) (st := []) K dX11_whyDo_18 cl_X11_255 (sX11_isDone C l e9) (by decide) rfl rfl (Nat.le_of_ble_eq_true rfl) R1 R2 ?_
    refine sk_ifeqB 28 K dX11_whyDo_21 (by decide) (fun h10 => ?_) (fun h10 => ?_)
    · rw [if_neg h10] at hf
      refine sk_aload_n K dX11_whyDo_28 rfl 1 rfl ?_
      refine sk_iload_n K dX11_whyDo_29 rfl 0 rfl ?_
      refine sk_lload_n K dX11_whyDo_30 rfl 2 rfl ?_
      refine sk_l2i K dX11_whyDo_31 ?_
      obtain ⟨h13, hf⟩ := sk_ib hf
      obtain ⟨v11, e12, hf⟩ := sk_ob hf
      refine sk_callV (As := [.int v5, .int p1.toInt32]) (st := []) K dX11_whyDo_32 cl_X11_273 h13 (sX11_hasNeeds C l e12) (by decide) rfl rfl (Nat.le_of_ble_eq_true rfl) R1 R2 ?_
      refine sk_ifeqB 42 K dX11_whyDo_35 (by decide) (fun h14 => ?_) (fun h14 => ?_)
      · rw [if_neg h14] at hf
        refine sk_iconst (3 : Int32) K dX11_whyDo_42 (by decide) ?_
        have hR15 : (3 : Int32) = rr := Option.some.inj hf
        exact sk_iret K dX11_whyDo_43 rfl rfl hR15 rfl rfl
      · rw [if_pos h14] at hf
        refine sk_iconst (0 : Int32) K dX11_whyDo_38 (by decide) ?_
        refine sk_goto 43 K dX11_whyDo_39 (by decide) ?_
        have hR16 : (0 : Int32) = rr := Option.some.inj hf
        exact sk_iret K dX11_whyDo_43 rfl rfl hR16 rfl rfl
    · rw [if_pos h10] at hf
      refine sk_iconst (2 : Int32) K dX11_whyDo_24 (by decide) ?_
      refine sk_goto 43 K dX11_whyDo_25 (by decide) ?_
      have hR17 : (2 : Int32) = rr := Option.some.inj hf
      exact sk_iret K dX11_whyDo_43 rfl rfl hR17 rfl rfl
  · rw [if_neg h4] at hf
    refine sk_iconst (1 : Int32) K dX11_whyDo_8 (by decide) ?_
    have hR18 : (1 : Int32) = rr := Option.some.inj hf
    exact sk_iret K dX11_whyDo_9 rfl rfl hR18 rfl rfl
noncomputable def fX11_whyDrop (S : sk_S) (d : sk_D) (p0 : Nat) (p1 : Int64) : Option (Int32) :=
  if S.2.1 p0 = (10, 0) then ((fX11_isDoing S d p0 p1).bind fun v1 => if v1 = true then ((sk_gR S p0 10 1).bind fun v5 => (sk_lI S d v5 20 ((74 : Int32) + p1.toInt32)).bind fun v7 => if v7 = 0 then (some (2 : Int32)) else (if v7 = (2 : Int32) then (some (2 : Int32)) else (some (0 : Int32)))) else (some (1 : Int32))) else none
set_option maxRecDepth 100000 in
set_option maxHeartbeats 4000000 in
theorem sX11_whyDrop (C : sk_C) (l : Launch) {S : sk_S} {d : sk_D} {p0 : Nat} {p1 : Int64} {rr : Int32} (hf : fX11_whyDrop S d p0 p1 = some rr) : sk_Met C l 2 yX11_whyDrop cX11_whyDrop 4 (some .int) [.ref p0, .long p1] S d (some (.int rr)) S d := by
  refine sk_Met.of (by decide) (Nat.le_of_ble_eq_true rfl) (Nat.le_refl _) (Nat.le_refl _) (fun X K0 hX => ?_)
  have K : sk_Ok X C cX11_whyDrop 4 RX11 "whyDrop" (some .int) 2 l (some (.int rr)) S d := K0
  have R1 : X.2.2.2.2.2.2.2.2.2.2.2.1 ≤ S.1.1 ∧ X.2.2.2.2.2.2.2.2.2.2.2.2 ≤ S.1.2 := by rw [hX]; exact ⟨Nat.le_refl _, Nat.le_refl _⟩
  have R2 : S.1.1 ≤ S.1.1 ∧ S.1.2 ≤ S.1.2 := ⟨Nat.le_refl _, Nat.le_refl _⟩
  show sk_G X C 4 S d 0 [(0, .ref p0), (1, .long p1)] []
  unfold fX11_whyDrop at hf
  refine sk_aload_n K dX11_whyDrop_0 rfl 0 rfl ?_
  refine sk_lload_n K dX11_whyDrop_1 rfl 1 rfl ?_
  obtain ⟨h3, hf⟩ := sk_ib hf
  obtain ⟨v1, e2, hf⟩ := sk_ob hf
  refine sk_callV (As := [.long p1]) (st := []) K dX11_whyDrop_2 cl_X11_266 h3 (sX11_isDoing C l e2) (by decide) rfl rfl (Nat.le_of_ble_eq_true rfl) R1 R2 ?_
  refine sk_ifneB 10 K dX11_whyDrop_5 (by decide) (fun h4 => ?_) (fun h4 => ?_)
  · rw [if_pos h4] at hf
    refine sk_aload_n K dX11_whyDrop_10 rfl 0 rfl ?_
    obtain ⟨v5, e6, hf⟩ := sk_ob hf
    refine sk_getR K dX11_whyDrop_11 fl_X11_13 rfl e6 ?_
    refine sk_bipush (74 : Int32) K dX11_whyDrop_14 (by decide) ?_
    refine sk_lload_n K dX11_whyDrop_16 rfl 1 rfl ?_
    refine sk_l2i K dX11_whyDrop_17 ?_
    refine sk_iadd K dX11_whyDrop_18 ?_
    obtain ⟨v7, e8, hf⟩ := sk_ob hf
    refine sk_ald20 K dX11_whyDrop_19 e8 ?_
    refine sk_istore_n [(3, .int v7), (0, .ref p0), (1, .long p1)] K dX11_whyDrop_20 rfl (by decide) rfl ?_
    refine sk_iload_n K dX11_whyDrop_21 rfl 0 rfl ?_
    refine sk_if_eq 30 K dX11_whyDrop_22 (by decide) (fun h9 => ?_) (fun h9 => ?_)
    · rw [if_pos h9] at hf
      refine sk_iconst (2 : Int32) K dX11_whyDrop_30 (by decide) ?_
      refine sk_goto 35 K dX11_whyDrop_31 (by decide) ?_
      have hR10 : (2 : Int32) = rr := Option.some.inj hf
      exact sk_iret K dX11_whyDrop_35 rfl rfl hR10 rfl rfl
    · rw [if_neg h9] at hf
      refine sk_iload_n K dX11_whyDrop_25 rfl 0 rfl ?_
      refine sk_iconst (2 : Int32) K dX11_whyDrop_26 (by decide) ?_
      refine sk_icmp_ne 34 K dX11_whyDrop_27 (by decide) (fun h11 => ?_) (fun h11 => ?_)
      · rw [if_neg h11] at hf
        refine sk_iconst (0 : Int32) K dX11_whyDrop_34 (by decide) ?_
        have hR12 : (0 : Int32) = rr := Option.some.inj hf
        exact sk_iret K dX11_whyDrop_35 rfl rfl hR12 rfl rfl
      · rw [if_pos h11] at hf
        refine sk_iconst (2 : Int32) K dX11_whyDrop_30 (by decide) ?_
        refine sk_goto 35 K dX11_whyDrop_31 (by decide) ?_
        have hR13 : (2 : Int32) = rr := Option.some.inj hf
        exact sk_iret K dX11_whyDrop_35 rfl rfl hR13 rfl rfl
  · rw [if_neg h4] at hf
    refine sk_iconst (1 : Int32) K dX11_whyDrop_8 (by decide) ?_
    have hR14 : (1 : Int32) = rr := Option.some.inj hf
    exact sk_iret K dX11_whyDrop_9 rfl rfl hR14 rfl rfl
noncomputable def fX11_whyForge (S : sk_S) (d : sk_D) (p0 : Nat) (p1 : Int64) : Option (Int32) :=
  if S.2.1 p0 = (10, 0) then ((fX11_isDoing S d p0 p1).bind fun v1 => if v1 = true then ((sk_gR S p0 10 1).bind fun v5 => (sk_lI S d v5 20 ((74 : Int32) + p1.toInt32)).bind fun v7 => if v7 = 0 then ((sk_gR S p0 10 1).bind fun v10 => (sk_lI S d v10 20 ((10 : Int32) + p1.toInt32)).bind fun v12 => if S.2.1 p0 = (10, 0) then ((fX11_standNow S d p0).bind fun v14 => if S.2.1 p0 = (10, 0) then ((fX11_leftIn S d p0 v14).bind fun v17 => if v12 ≤ v17 then (some (0 : Int32)) else (some (4 : Int32))) else none) else none) else (some (2 : Int32))) else (some (1 : Int32))) else none
set_option maxRecDepth 100000 in
set_option maxHeartbeats 4000000 in
theorem sX11_whyForge (C : sk_C) (l : Launch) {S : sk_S} {d : sk_D} {p0 : Nat} {p1 : Int64} {rr : Int32} (hf : fX11_whyForge S d p0 p1 = some rr) : sk_Met C l 4 yX11_whyForge cX11_whyForge 3 (some .int) [.ref p0, .long p1] S d (some (.int rr)) S d := by
  refine sk_Met.of (by decide) (Nat.le_of_ble_eq_true rfl) (Nat.le_refl _) (Nat.le_refl _) (fun X K0 hX => ?_)
  have K : sk_Ok X C cX11_whyForge 3 RX11 "whyForge" (some .int) 4 l (some (.int rr)) S d := K0
  have R1 : X.2.2.2.2.2.2.2.2.2.2.2.1 ≤ S.1.1 ∧ X.2.2.2.2.2.2.2.2.2.2.2.2 ≤ S.1.2 := by rw [hX]; exact ⟨Nat.le_refl _, Nat.le_refl _⟩
  have R2 : S.1.1 ≤ S.1.1 ∧ S.1.2 ≤ S.1.2 := ⟨Nat.le_refl _, Nat.le_refl _⟩
  show sk_G X C 3 S d 0 [(0, .ref p0), (1, .long p1)] []
  unfold fX11_whyForge at hf
  refine sk_aload_n K dX11_whyForge_0 rfl 0 rfl ?_
  refine sk_lload_n K dX11_whyForge_1 rfl 1 rfl ?_
  obtain ⟨h3, hf⟩ := sk_ib hf
  obtain ⟨v1, e2, hf⟩ := sk_ob hf
  refine sk_callV (As := [.long p1]) (st := []) K dX11_whyForge_2 cl_X11_266 h3 (sX11_isDoing C l e2) (by decide) rfl rfl (Nat.le_of_ble_eq_true rfl) R1 R2 ?_
  refine sk_ifneB 10 K dX11_whyForge_5 (by decide) (fun h4 => ?_) (fun h4 => ?_)
  · rw [if_pos h4] at hf
    refine sk_aload_n K dX11_whyForge_10 rfl 0 rfl ?_
    obtain ⟨v5, e6, hf⟩ := sk_ob hf
    refine sk_getR K dX11_whyForge_11 fl_X11_13 rfl e6 ?_
    refine sk_bipush (74 : Int32) K dX11_whyForge_14 (by decide) ?_
    refine sk_lload_n K dX11_whyForge_16 rfl 1 rfl ?_
    refine sk_l2i K dX11_whyForge_17 ?_
    refine sk_iadd K dX11_whyForge_18 ?_
    obtain ⟨v7, e8, hf⟩ := sk_ob hf
    refine sk_ald20 K dX11_whyForge_19 e8 ?_
    refine sk_if_eq 25 K dX11_whyForge_20 (by decide) (fun h9 => ?_) (fun h9 => ?_)
    · rw [if_pos h9] at hf
      refine sk_aload_n K dX11_whyForge_25 rfl 0 rfl ?_
      obtain ⟨v10, e11, hf⟩ := sk_ob hf
      refine sk_getR K dX11_whyForge_26 fl_X11_13 rfl e11 ?_
      refine sk_bipush (10 : Int32) K dX11_whyForge_29 (by decide) ?_
      refine sk_lload_n K dX11_whyForge_31 rfl 1 rfl ?_
      refine sk_l2i K dX11_whyForge_32 ?_
      refine sk_iadd K dX11_whyForge_33 ?_
      obtain ⟨v12, e13, hf⟩ := sk_ob hf
      refine sk_ald20 K dX11_whyForge_34 e13 ?_
      refine sk_aload_n K dX11_whyForge_35 rfl 0 rfl ?_
      refine sk_aload_n K dX11_whyForge_36 rfl 0 rfl ?_
      obtain ⟨h16, hf⟩ := sk_ib hf
      obtain ⟨v14, e15, hf⟩ := sk_ob hf
      refine sk_callV (As := []) (st := [.ref p0, .int v12]) K dX11_whyForge_37 cl_X11_270 h16 (sX11_standNow C l e15) (by decide) rfl rfl (Nat.le_of_ble_eq_true rfl) R1 R2 ?_
      obtain ⟨h19, hf⟩ := sk_ib hf
      obtain ⟨v17, e18, hf⟩ := sk_ob hf
      refine sk_callV (As := [.int v14]) (st := [.int v12]) K dX11_whyForge_40 cl_X11_238 h19 (sX11_leftIn C l e18) (by decide) rfl rfl (Nat.le_of_ble_eq_true rfl) R1 R2 ?_
      refine sk_icmp_le 50 K dX11_whyForge_43 (by decide) (fun h20 => ?_) (fun h20 => ?_)
      · rw [if_pos h20] at hf
        refine sk_iconst (0 : Int32) K dX11_whyForge_50 (by decide) ?_
        have hR21 : (0 : Int32) = rr := Option.some.inj hf
        exact sk_iret K dX11_whyForge_51 rfl rfl hR21 rfl rfl
      · rw [if_neg h20] at hf
        refine sk_iconst (4 : Int32) K dX11_whyForge_46 (by decide) ?_
        refine sk_goto 51 K dX11_whyForge_47 (by decide) ?_
        have hR22 : (4 : Int32) = rr := Option.some.inj hf
        exact sk_iret K dX11_whyForge_51 rfl rfl hR22 rfl rfl
    · rw [if_neg h9] at hf
      refine sk_iconst (2 : Int32) K dX11_whyForge_23 (by decide) ?_
      have hR23 : (2 : Int32) = rr := Option.some.inj hf
      exact sk_iret K dX11_whyForge_24 rfl rfl hR23 rfl rfl
  · rw [if_neg h4] at hf
    refine sk_iconst (1 : Int32) K dX11_whyForge_8 (by decide) ?_
    have hR24 : (1 : Int32) = rr := Option.some.inj hf
    exact sk_iret K dX11_whyForge_9 rfl rfl hR24 rfl rfl
noncomputable def fX11_does (S : sk_S) (d : sk_D) (p0 : Nat) (p1 : Int32) : Option (Int32 × sk_D) :=
  (sk_pI S d p0 10 0 (0 : Int32)).bind fun d1 => if S.2.1 p0 = (10, 0) then ((fX11_whyDo S d1 p0 p1.toInt64).bind fun v3 => if v3 = 0 then (if S.2.1 p0 = (10, 0) then ((fX11_keeps S d1 p0).bind fun d9 => if S.2.1 p0 = (10, 0) then ((fX11_standNow S d9 p0).bind fun v11 => if S.2.1 p0 = (10, 0) then ((fX11_doneTo S d9 p0 v11 p1).bind fun b18 => if S.2.1 p0 = (10, 0) then ((fX11_isStand S b18.2 p0 b18.1).bind fun d21 => if S.2.1 p0 = (10, 0) then ((fX11_notes S d21 p0).bind fun d25 => (sk_gR S p0 10 1).bind fun v27 => (sk_lI S d25 v27 20 ((74 : Int32) + p1)).bind fun v29 => some (v29, d25)) else none) else none) else none) else none) else none) else (some ((-10 : Int32) - v3, d1))) else none
set_option maxRecDepth 100000 in
set_option maxHeartbeats 4000000 in
theorem sX11_does (C : sk_C) (l : Launch) {S : sk_S} {d : sk_D} {p0 : Nat} {p1 : Int32} {rr : Int32} {dd : sk_D} (hf : fX11_does S d p0 p1 = some (rr, dd)) : sk_Met C l 6 yX11_does cX11_does 3 (some .int) [.ref p0, .int p1] S d (some (.int rr)) S dd := by
  refine sk_Met.of (by decide) (Nat.le_of_ble_eq_true rfl) (Nat.le_refl _) (Nat.le_refl _) (fun X K0 hX => ?_)
  have K : sk_Ok X C cX11_does 3 RX11 "does" (some .int) 6 l (some (.int rr)) S dd := K0
  have R1 : X.2.2.2.2.2.2.2.2.2.2.2.1 ≤ S.1.1 ∧ X.2.2.2.2.2.2.2.2.2.2.2.2 ≤ S.1.2 := by rw [hX]; exact ⟨Nat.le_refl _, Nat.le_refl _⟩
  have R2 : S.1.1 ≤ S.1.1 ∧ S.1.2 ≤ S.1.2 := ⟨Nat.le_refl _, Nat.le_refl _⟩
  show sk_G X C 3 S d 0 [(0, .ref p0), (1, .int p1)] []
  unfold fX11_does at hf
  refine sk_aload_n K dX11_does_0 rfl 0 rfl ?_
  refine sk_iconst (0 : Int32) K dX11_does_1 (by decide) ?_
  obtain ⟨d1, e2, hf⟩ := sk_ob hf
  refine sk_putI d1 K dX11_does_2 fl_X11_1 rfl rfl rfl e2 ?_
  refine sk_aload_n K dX11_does_5 rfl 0 rfl ?_
  refine sk_iload_n K dX11_does_6 rfl 1 rfl ?_
  refine sk_i2l K dX11_does_7 ?_
  obtain ⟨h5, hf⟩ := sk_ib hf
  obtain ⟨v3, e4, hf⟩ := sk_ob hf
  refine sk_callV (As := [.long p1.toInt64]) (st := []) K dX11_does_8 cl_X11_276 h5 (sX11_whyDo C l e4) (by decide) rfl rfl (Nat.le_of_ble_eq_true rfl) R1 R2 ?_
  refine sk_istore_n [(2, .int v3), (0, .ref p0), (1, .int p1)] K dX11_does_11 rfl (by decide) rfl ?_
  refine sk_iload_n K dX11_does_12 rfl 0 rfl ?_
  refine sk_if_eq 21 K dX11_does_13 (by decide) (fun h6 => ?_) (fun h6 => ?_)
  · rw [if_pos h6] at hf
    refine sk_aload_n K dX11_does_21 rfl 1 rfl ?_
    obtain ⟨h10, hf⟩ := sk_ib hf
    obtain ⟨d9, e8, hf⟩ := sk_ob hf
    refine sk_callV (As := []) (st := []) K dX11_does_22 cl_X11_280 h10 (sX11_keeps C l e8) (by decide) rfl rfl (Nat.le_of_ble_eq_true rfl) R1 R2 ?_
    refine sk_aload_n K dX11_does_25 rfl 1 rfl ?_
    refine sk_aload_n K dX11_does_26 rfl 1 rfl ?_
    refine sk_aload_n K dX11_does_27 rfl 1 rfl ?_
    obtain ⟨h13, hf⟩ := sk_ib hf
    obtain ⟨v11, e12, hf⟩ := sk_ob hf
    refine sk_callV (As := []) (st := [.ref p0, .ref p0]) K dX11_does_28 cl_X11_270 h13 (sX11_standNow C l e12) (by decide) rfl rfl (Nat.le_of_ble_eq_true rfl) R1 R2 ?_
    refine sk_iload_n K dX11_does_31 rfl 2 rfl ?_
    obtain ⟨h17, hf⟩ := sk_ib hf
    obtain ⟨⟨v14, d16⟩, e15, hf⟩ := sk_ob hf
    try dsimp only at hf
    refine sk_callV (As := [.int v11, .int p1]) (st := [.ref p0]) K dX11_does_32 cl_X11_283 h17 (sX11_doneTo C l e15) (by decide) rfl rfl (Nat.le_of_ble_eq_true rfl) R1 R2 ?_
    obtain ⟨h22, hf⟩ := sk_ib hf
    obtain ⟨d21, e20, hf⟩ := sk_ob hf
    refine sk_callV (As := [.int v14]) (st := []) K dX11_does_35 cl_X11_286 h22 (sX11_isStand C l e20) (by decide) rfl rfl (Nat.le_of_ble_eq_true rfl) R1 R2 ?_
    refine sk_aload_n K dX11_does_38 rfl 1 rfl ?_
    obtain ⟨h26, hf⟩ := sk_ib hf
    obtain ⟨d25, e24, hf⟩ := sk_ob hf
    refine sk_callV (As := []) (st := []) K dX11_does_39 cl_X11_289 h26 (sX11_notes C l e24) (by decide) rfl rfl (Nat.le_of_ble_eq_true rfl) R1 R2 ?_
    refine sk_aload_n K dX11_does_42 rfl 1 rfl ?_
    obtain ⟨v27, e28, hf⟩ := sk_ob hf
    refine sk_getR K dX11_does_43 fl_X11_13 rfl e28 ?_
    refine sk_bipush (74 : Int32) K dX11_does_46 (by decide) ?_
    refine sk_iload_n K dX11_does_48 rfl 2 rfl ?_
    refine sk_iadd K dX11_does_49 ?_
    obtain ⟨v29, e30, hf⟩ := sk_ob hf
    refine sk_ald20 K dX11_does_50 e30 ?_
    have hR31 : (v29, d25) = (rr, dd) := Option.some.inj hf
    exact sk_iret K dX11_does_51 rfl rfl (congrArg (fun z => z.1) hR31) rfl (congrArg (fun z => z.2) hR31)
  · rw [if_neg h6] at hf
    refine sk_bipush (-10 : Int32) K dX11_does_16 (by decide) ?_
    refine sk_iload_n K dX11_does_18 rfl 0 rfl ?_
    refine sk_isub K dX11_does_19 ?_
    have hR32 : ((-10 : Int32) - v3, d1) = (rr, dd) := Option.some.inj hf
    exact sk_iret K dX11_does_20 rfl rfl (congrArg (fun z => z.1) hR32) rfl (congrArg (fun z => z.2) hR32)
noncomputable def fX11_drop (S : sk_S) (d : sk_D) (p0 : Nat) (p1 : Int32) : Option (Int32 × sk_D) :=
  (sk_pI S d p0 10 0 (0 : Int32)).bind fun d1 => if S.2.1 p0 = (10, 0) then ((fX11_whyDrop S d1 p0 p1.toInt64).bind fun v3 => if v3 = 0 then (if S.2.1 p0 = (10, 0) then ((fX11_keeps S d1 p0).bind fun d9 => if S.2.1 p0 = (10, 0) then ((fX11_standNow S d9 p0).bind fun v11 => (fX11_droppedTo S d9 v11 p1).bind fun v14 => if S.2.1 p0 = (10, 0) then ((fX11_isStand S d9 p0 v14).bind fun d18 => if S.2.1 p0 = (10, 0) then ((fX11_notes S d18 p0).bind fun d22 => if S.2.1 p0 = (10, 0) then ((fX11_standNow S d22 p0).bind fun v24 => if S.2.1 p0 = (10, 0) then ((fX11_stubsIn S d22 p0 v24).bind fun v27 => (fX11_bitsOf S d22 v27).bind fun v30 => some (v30, d22)) else none) else none) else none) else none) else none) else none) else (some ((-10 : Int32) - v3, d1))) else none
set_option maxRecDepth 100000 in
set_option maxHeartbeats 4000000 in
theorem sX11_drop (C : sk_C) (l : Launch) {S : sk_S} {d : sk_D} {p0 : Nat} {p1 : Int32} {rr : Int32} {dd : sk_D} (hf : fX11_drop S d p0 p1 = some (rr, dd)) : sk_Met C l 3 yX11_drop cX11_drop 3 (some .int) [.ref p0, .int p1] S d (some (.int rr)) S dd := by
  refine sk_Met.of (by decide) (Nat.le_of_ble_eq_true rfl) (Nat.le_refl _) (Nat.le_refl _) (fun X K0 hX => ?_)
  have K : sk_Ok X C cX11_drop 3 RX11 "drop" (some .int) 3 l (some (.int rr)) S dd := K0
  have R1 : X.2.2.2.2.2.2.2.2.2.2.2.1 ≤ S.1.1 ∧ X.2.2.2.2.2.2.2.2.2.2.2.2 ≤ S.1.2 := by rw [hX]; exact ⟨Nat.le_refl _, Nat.le_refl _⟩
  have R2 : S.1.1 ≤ S.1.1 ∧ S.1.2 ≤ S.1.2 := ⟨Nat.le_refl _, Nat.le_refl _⟩
  show sk_G X C 3 S d 0 [(0, .ref p0), (1, .int p1)] []
  unfold fX11_drop at hf
  refine sk_aload_n K dX11_drop_0 rfl 0 rfl ?_
  refine sk_iconst (0 : Int32) K dX11_drop_1 (by decide) ?_
  obtain ⟨d1, e2, hf⟩ := sk_ob hf
  refine sk_putI d1 K dX11_drop_2 fl_X11_1 rfl rfl rfl e2 ?_
  refine sk_aload_n K dX11_drop_5 rfl 0 rfl ?_
  refine sk_iload_n K dX11_drop_6 rfl 1 rfl ?_
  refine sk_i2l K dX11_drop_7 ?_
  obtain ⟨h5, hf⟩ := sk_ib hf
  obtain ⟨v3, e4, hf⟩ := sk_ob hf
  refine sk_callV (As := [.long p1.toInt64]) (st := []) K dX11_drop_8 cl_X11_292 h5 (sX11_whyDrop C l e4) (by decide) rfl rfl (Nat.le_of_ble_eq_true rfl) R1 R2 ?_
  refine sk_istore_n [(2, .int v3), (0, .ref p0), (1, .int p1)] K dX11_drop_11 rfl (by decide) rfl ?_
  refine sk_iload_n K dX11_drop_12 rfl 0 rfl ?_
  refine sk_if_eq 21 K dX11_drop_13 (by decide) (fun h6 => ?_) (fun h6 => ?_)
  · rw [if_pos h6] at hf
    refine sk_aload_n K dX11_drop_21 rfl 1 rfl ?_
    obtain ⟨h10, hf⟩ := sk_ib hf
    obtain ⟨d9, e8, hf⟩ := sk_ob hf
    refine sk_callV (As := []) (st := []) K dX11_drop_22 cl_X11_280 h10 (sX11_keeps C l e8) (by decide) rfl rfl (Nat.le_of_ble_eq_true rfl) R1 R2 ?_
    refine sk_aload_n K dX11_drop_25 rfl 1 rfl ?_
    refine sk_aload_n K dX11_drop_26 rfl 1 rfl ?_
    obtain ⟨h13, hf⟩ := sk_ib hf
    obtain ⟨v11, e12, hf⟩ := sk_ob hf
    refine sk_callV (As := []) (st := [.ref p0]) K dX11_drop_27 cl_X11_270 h13 (sX11_standNow C l e12) (by decide) rfl rfl (Nat.le_of_ble_eq_true rfl) R1 R2 ?_
    refine sk_iload_n K dX11_drop_30 rfl 2 rfl ?_
    obtain ⟨v14, e15, hf⟩ := sk_ob hf
    refine sk_callS (As := [.int v11, .int p1]) (st := [.ref p0]) K dX11_drop_31 cl_X11_295 (sX11_droppedTo C l e15) (by decide) rfl rfl (Nat.le_of_ble_eq_true rfl) R1 R2 ?_
    obtain ⟨h19, hf⟩ := sk_ib hf
    obtain ⟨d18, e17, hf⟩ := sk_ob hf
    refine sk_callV (As := [.int v14]) (st := []) K dX11_drop_34 cl_X11_286 h19 (sX11_isStand C l e17) (by decide) rfl rfl (Nat.le_of_ble_eq_true rfl) R1 R2 ?_
    refine sk_aload_n K dX11_drop_37 rfl 1 rfl ?_
    obtain ⟨h23, hf⟩ := sk_ib hf
    obtain ⟨d22, e21, hf⟩ := sk_ob hf
    refine sk_callV (As := []) (st := []) K dX11_drop_38 cl_X11_289 h23 (sX11_notes C l e21) (by decide) rfl rfl (Nat.le_of_ble_eq_true rfl) R1 R2 ?_
    refine sk_aload_n K dX11_drop_41 rfl 1 rfl ?_
    refine sk_aload_n K dX11_drop_42 rfl 1 rfl ?_
    obtain ⟨h26, hf⟩ := sk_ib hf
    obtain ⟨v24, e25, hf⟩ := sk_ob hf
    refine sk_callV (As := []) (st := [.ref p0]) K dX11_drop_43 cl_X11_270 h26 (sX11_standNow C l e25) (by decide) rfl rfl (Nat.le_of_ble_eq_true rfl) R1 R2 ?_
    obtain ⟨h29, hf⟩ := sk_ib hf
    obtain ⟨v27, e28, hf⟩ := sk_ob hf
    refine sk_callV (As := [.int v24]) (st := []) K dX11_drop_46 cl_X11_225 h29 (sX11_stubsIn C l e28) (by decide) rfl rfl (Nat.le_of_ble_eq_true rfl) R1 R2 ?_
    obtain ⟨v30, e31, hf⟩ := sk_ob hf
    refine sk_callS (As := [.int v27]) (st := []) K dX11_drop_49 cl_X11_235 (sX11_bitsOf C l e31) (by decide) rfl rfl (Nat.le_of_ble_eq_true rfl) R1 R2 ?_
    have hR32 : (v30, d22) = (rr, dd) := Option.some.inj hf
    exact sk_iret K dX11_drop_52 rfl rfl (congrArg (fun z => z.1) hR32) rfl (congrArg (fun z => z.2) hR32)
  · rw [if_neg h6] at hf
    refine sk_bipush (-10 : Int32) K dX11_drop_16 (by decide) ?_
    refine sk_iload_n K dX11_drop_18 rfl 0 rfl ?_
    refine sk_isub K dX11_drop_19 ?_
    have hR33 : ((-10 : Int32) - v3, d1) = (rr, dd) := Option.some.inj hf
    exact sk_iret K dX11_drop_20 rfl rfl (congrArg (fun z => z.1) hR33) rfl (congrArg (fun z => z.2) hR33)
noncomputable def fX11_forge (S : sk_S) (d : sk_D) (p0 : Nat) (p1 : Int32) : Option (Int32 × sk_D) :=
  (sk_pI S d p0 10 0 (0 : Int32)).bind fun d1 => if S.2.1 p0 = (10, 0) then ((fX11_whyForge S d1 p0 p1.toInt64).bind fun v3 => if v3 = 0 then (if S.2.1 p0 = (10, 0) then ((fX11_keeps S d1 p0).bind fun d9 => (sk_gR S p0 10 1).bind fun v11 => (sk_sI S d9 v11 20 ((74 : Int32) + p1) (3 : Int32)).bind fun d13 => if S.2.1 p0 = (10, 0) then ((fX11_notes S d13 p0).bind fun d17 => if S.2.1 p0 = (10, 0) then ((fX11_standNow S d17 p0).bind fun v19 => if S.2.1 p0 = (10, 0) then ((fX11_leftIn S d17 p0 v19).bind fun v22 => some (v22, d17)) else none) else none) else none) else none) else (some ((-10 : Int32) - v3, d1))) else none
set_option maxRecDepth 100000 in
set_option maxHeartbeats 4000000 in
theorem sX11_forge (C : sk_C) (l : Launch) {S : sk_S} {d : sk_D} {p0 : Nat} {p1 : Int32} {rr : Int32} {dd : sk_D} (hf : fX11_forge S d p0 p1 = some (rr, dd)) : sk_Met C l 5 yX11_forge cX11_forge 3 (some .int) [.ref p0, .int p1] S d (some (.int rr)) S dd := by
  refine sk_Met.of (by decide) (Nat.le_of_ble_eq_true rfl) (Nat.le_refl _) (Nat.le_refl _) (fun X K0 hX => ?_)
  have K : sk_Ok X C cX11_forge 3 RX11 "forge" (some .int) 5 l (some (.int rr)) S dd := K0
  have R1 : X.2.2.2.2.2.2.2.2.2.2.2.1 ≤ S.1.1 ∧ X.2.2.2.2.2.2.2.2.2.2.2.2 ≤ S.1.2 := by rw [hX]; exact ⟨Nat.le_refl _, Nat.le_refl _⟩
  have R2 : S.1.1 ≤ S.1.1 ∧ S.1.2 ≤ S.1.2 := ⟨Nat.le_refl _, Nat.le_refl _⟩
  show sk_G X C 3 S d 0 [(0, .ref p0), (1, .int p1)] []
  unfold fX11_forge at hf
  refine sk_aload_n K dX11_forge_0 rfl 0 rfl ?_
  refine sk_iconst (0 : Int32) K dX11_forge_1 (by decide) ?_
  obtain ⟨d1, e2, hf⟩ := sk_ob hf
  refine sk_putI d1 K dX11_forge_2 fl_X11_1 rfl rfl rfl e2 ?_
  refine sk_aload_n K dX11_forge_5 rfl 0 rfl ?_
  refine sk_iload_n K dX11_forge_6 rfl 1 rfl ?_
  refine sk_i2l K dX11_forge_7 ?_
  obtain ⟨h5, hf⟩ := sk_ib hf
  obtain ⟨v3, e4, hf⟩ := sk_ob hf
  refine sk_callV (As := [.long p1.toInt64]) (st := []) K dX11_forge_8 cl_X11_298 h5 (sX11_whyForge C l e4) (by decide) rfl rfl (Nat.le_of_ble_eq_true rfl) R1 R2 ?_
  refine sk_istore_n [(2, .int v3), (0, .ref p0), (1, .int p1)] K dX11_forge_11 rfl (by decide) rfl ?_
  refine sk_iload_n K dX11_forge_12 rfl 0 rfl ?_
  refine sk_if_eq 21 K dX11_forge_13 (by decide) (fun h6 => ?_) (fun h6 => ?_)
  · rw [if_pos h6] at hf
    refine sk_aload_n K dX11_forge_21 rfl 1 rfl ?_
    obtain ⟨h10, hf⟩ := sk_ib hf
    obtain ⟨d9, e8, hf⟩ := sk_ob hf
    refine sk_callV (As := []) (st := []) K dX11_forge_22 cl_X11_280 h10 (sX11_keeps C l e8) (by decide) rfl rfl (Nat.le_of_ble_eq_true rfl) R1 R2 ?_
    refine sk_aload_n K dX11_forge_25 rfl 1 rfl ?_
    obtain ⟨v11, e12, hf⟩ := sk_ob hf
    refine sk_getR K dX11_forge_26 fl_X11_13 rfl e12 ?_
    refine sk_bipush (74 : Int32) K dX11_forge_29 (by decide) ?_
    refine sk_iload_n K dX11_forge_31 rfl 2 rfl ?_
    refine sk_iadd K dX11_forge_32 ?_
    refine sk_iconst (3 : Int32) K dX11_forge_33 (by decide) ?_
    obtain ⟨d13, e14, hf⟩ := sk_ob hf
    refine sk_ast20 d13 K dX11_forge_34 e14 ?_
    refine sk_aload_n K dX11_forge_35 rfl 1 rfl ?_
    obtain ⟨h18, hf⟩ := sk_ib hf
    obtain ⟨d17, e16, hf⟩ := sk_ob hf
    refine sk_callV (As := []) (st := []) K dX11_forge_36 cl_X11_289 h18 (sX11_notes C l e16) (by decide) rfl rfl (Nat.le_of_ble_eq_true rfl) R1 R2 ?_
    refine sk_aload_n K dX11_forge_39 rfl 1 rfl ?_
    refine sk_aload_n K dX11_forge_40 rfl 1 rfl ?_
    obtain ⟨h21, hf⟩ := sk_ib hf
    obtain ⟨v19, e20, hf⟩ := sk_ob hf
    refine sk_callV (As := []) (st := [.ref p0]) K dX11_forge_41 cl_X11_270 h21 (sX11_standNow C l e20) (by decide) rfl rfl (Nat.le_of_ble_eq_true rfl) R1 R2 ?_
    obtain ⟨h24, hf⟩ := sk_ib hf
    obtain ⟨v22, e23, hf⟩ := sk_ob hf
    refine sk_callV (As := [.int v19]) (st := []) K dX11_forge_44 cl_X11_238 h24 (sX11_leftIn C l e23) (by decide) rfl rfl (Nat.le_of_ble_eq_true rfl) R1 R2 ?_
    have hR25 : (v22, d17) = (rr, dd) := Option.some.inj hf
    exact sk_iret K dX11_forge_47 rfl rfl (congrArg (fun z => z.1) hR25) rfl (congrArg (fun z => z.2) hR25)
  · rw [if_neg h6] at hf
    refine sk_bipush (-10 : Int32) K dX11_forge_16 (by decide) ?_
    refine sk_iload_n K dX11_forge_18 rfl 0 rfl ?_
    refine sk_isub K dX11_forge_19 ?_
    have hR26 : ((-10 : Int32) - v3, d1) = (rr, dd) := Option.some.inj hf
    exact sk_iret K dX11_forge_20 rfl rfl (congrArg (fun z => z.1) hR26) rfl (congrArg (fun z => z.2) hR26)
noncomputable def fX11_ask (S : sk_S) (d : sk_D) (p0 : Nat) (p1 : Int32) : Option (Int32 × sk_D) :=
  (sk_pI S d p0 10 0 (0 : Int32)).bind fun d1 => if S.2.1 p0 = (10, 0) then ((fX11_isDoing S d1 p0 p1.toInt64).bind fun v3 => if v3 = true then (if S.2.1 p0 = (10, 0) then ((fX11_keeps S d1 p0).bind fun d9 => if S.2.1 p0 = (10, 0) then ((fX11_standNow S d9 p0).bind fun v11 => if S.2.1 p0 = (10, 0) then ((fX11_askedOf S d9 p0 v11 p1).bind fun b18 => if S.2.1 p0 = (10, 0) then ((fX11_standNow S b18.2 p0).bind fun v19 => (fX11_opened S b18.2 v19 b18.1).bind fun v22 => if S.2.1 p0 = (10, 0) then ((fX11_isStand S b18.2 p0 v22).bind fun d26 => if S.2.1 p0 = (10, 0) then ((fX11_notes S d26 p0).bind fun d30 => some (b18.1, d30)) else none) else none) else none) else none) else none) else none) else (some ((-11 : Int32), d1))) else none
set_option maxRecDepth 100000 in
set_option maxHeartbeats 4000000 in
theorem sX11_ask (C : sk_C) (l : Launch) {S : sk_S} {d : sk_D} {p0 : Nat} {p1 : Int32} {rr : Int32} {dd : sk_D} (hf : fX11_ask S d p0 p1 = some (rr, dd)) : sk_Met C l 7 yX11_ask cX11_ask 3 (some .int) [.ref p0, .int p1] S d (some (.int rr)) S dd := by
  refine sk_Met.of (by decide) (Nat.le_of_ble_eq_true rfl) (Nat.le_refl _) (Nat.le_refl _) (fun X K0 hX => ?_)
  have K : sk_Ok X C cX11_ask 3 RX11 "ask" (some .int) 7 l (some (.int rr)) S dd := K0
  have R1 : X.2.2.2.2.2.2.2.2.2.2.2.1 ≤ S.1.1 ∧ X.2.2.2.2.2.2.2.2.2.2.2.2 ≤ S.1.2 := by rw [hX]; exact ⟨Nat.le_refl _, Nat.le_refl _⟩
  have R2 : S.1.1 ≤ S.1.1 ∧ S.1.2 ≤ S.1.2 := ⟨Nat.le_refl _, Nat.le_refl _⟩
  show sk_G X C 3 S d 0 [(0, .ref p0), (1, .int p1)] []
  unfold fX11_ask at hf
  refine sk_aload_n K dX11_ask_0 rfl 0 rfl ?_
  refine sk_iconst (0 : Int32) K dX11_ask_1 (by decide) ?_
  obtain ⟨d1, e2, hf⟩ := sk_ob hf
  refine sk_putI d1 K dX11_ask_2 fl_X11_1 rfl rfl rfl e2 ?_
  refine sk_aload_n K dX11_ask_5 rfl 0 rfl ?_
  refine sk_iload_n K dX11_ask_6 rfl 1 rfl ?_
  refine sk_i2l K dX11_ask_7 ?_
  obtain ⟨h5, hf⟩ := sk_ib hf
  obtain ⟨v3, e4, hf⟩ := sk_ob hf
  refine sk_callV (As := [.long p1.toInt64]) (st := []) K dX11_ask_8 cl_X11_266 h5 (sX11_isDoing C l e4) (by decide) rfl rfl (Nat.le_of_ble_eq_true rfl) R1 R2 ?_
  refine sk_ifneB 17 K dX11_ask_11 (by decide) (fun h6 => ?_) (fun h6 => ?_)
  · rw [if_pos h6] at hf
    refine sk_aload_n K dX11_ask_17 rfl 0 rfl ?_
    obtain ⟨h10, hf⟩ := sk_ib hf
    obtain ⟨d9, e8, hf⟩ := sk_ob hf
    refine sk_callV (As := []) (st := []) K dX11_ask_18 cl_X11_280 h10 (sX11_keeps C l e8) (by decide) rfl rfl (Nat.le_of_ble_eq_true rfl) R1 R2 ?_
    refine sk_aload_n K dX11_ask_21 rfl 0 rfl ?_
    refine sk_aload_n K dX11_ask_22 rfl 0 rfl ?_
    obtain ⟨h13, hf⟩ := sk_ib hf
    obtain ⟨v11, e12, hf⟩ := sk_ob hf
    refine sk_callV (As := []) (st := [.ref p0]) K dX11_ask_23 cl_X11_270 h13 (sX11_standNow C l e12) (by decide) rfl rfl (Nat.le_of_ble_eq_true rfl) R1 R2 ?_
    refine sk_iload_n K dX11_ask_26 rfl 1 rfl ?_
    obtain ⟨h17, hf⟩ := sk_ib hf
    obtain ⟨⟨v14, d16⟩, e15, hf⟩ := sk_ob hf
    try dsimp only at hf
    refine sk_callV (As := [.int v11, .int p1]) (st := []) K dX11_ask_27 cl_X11_301 h17 (sX11_askedOf C l e15) (by decide) rfl rfl (Nat.le_of_ble_eq_true rfl) R1 R2 ?_
    refine sk_istore_n [(2, .int v14), (0, .ref p0), (1, .int p1)] K dX11_ask_30 rfl (by decide) rfl ?_
    refine sk_aload_n K dX11_ask_31 rfl 1 rfl ?_
    refine sk_aload_n K dX11_ask_32 rfl 1 rfl ?_
    obtain ⟨h21, hf⟩ := sk_ib hf
    obtain ⟨v19, e20, hf⟩ := sk_ob hf
    refine sk_callV (As := []) (st := [.ref p0]) K dX11_ask_33 cl_X11_270 h21 (sX11_standNow C l e20) (by decide) rfl rfl (Nat.le_of_ble_eq_true rfl) R1 R2 ?_
    refine sk_iload_n K dX11_ask_36 rfl 0 rfl ?_
    obtain ⟨v22, e23, hf⟩ := sk_ob hf
    refine sk_callS (As := [.int v19, .int v14]) (st := [.ref p0]) K dX11_ask_37 cl_X11_304 (sX11_opened C l e23) (by decide) rfl rfl (Nat.le_of_ble_eq_true rfl) R1 R2 ?_
    obtain ⟨h27, hf⟩ := sk_ib hf
    obtain ⟨d26, e25, hf⟩ := sk_ob hf
    refine sk_callV (As := [.int v22]) (st := []) K dX11_ask_40 cl_X11_286 h27 (sX11_isStand C l e25) (by decide) rfl rfl (Nat.le_of_ble_eq_true rfl) R1 R2 ?_
    refine sk_aload_n K dX11_ask_43 rfl 1 rfl ?_
    obtain ⟨h31, hf⟩ := sk_ib hf
    obtain ⟨d30, e29, hf⟩ := sk_ob hf
    refine sk_callV (As := []) (st := []) K dX11_ask_44 cl_X11_289 h31 (sX11_notes C l e29) (by decide) rfl rfl (Nat.le_of_ble_eq_true rfl) R1 R2 ?_
    refine sk_iload_n K dX11_ask_47 rfl 0 rfl ?_
    have hR32 : (v14, d30) = (rr, dd) := Option.some.inj hf
    exact sk_iret K dX11_ask_48 rfl rfl (congrArg (fun z => z.1) hR32) rfl (congrArg (fun z => z.2) hR32)
  · rw [if_neg h6] at hf
    refine sk_bipush (-11 : Int32) K dX11_ask_14 (by decide) ?_
    have hR33 : ((-11 : Int32), d1) = (rr, dd) := Option.some.inj hf
    exact sk_iret K dX11_ask_16 rfl rfl (congrArg (fun z => z.1) hR33) rfl (congrArg (fun z => z.2) hR33)
noncomputable def fX11_slip (S : sk_S) (d : sk_D) (p0 : Nat) (p1 : Int32) : Option (Int32 × sk_D) :=
  (sk_pI S d p0 10 0 (0 : Int32)).bind fun d1 => (fX11_within S d1 p1.toInt64 (0 : Int64) (9 : Int64)).bind fun v3 => if v3 = true then (if S.2.1 p0 = (10, 0) then ((fX11_keeps S d1 p0).bind fun d8 => (sk_gR S p0 10 1).bind fun v10 => (sk_sI S d8 v10 20 (82 : Int32) p1).bind fun d12 => if S.2.1 p0 = (10, 0) then ((fX11_notes S d12 p0).bind fun d16 => (sk_gR S p0 10 18).bind fun v18 => (sk_lI S d16 v18 20 (8 : Int32)).bind fun v20 => some (v20, d16)) else none) else none) else (some ((-11 : Int32), d1))
set_option maxRecDepth 100000 in
set_option maxHeartbeats 4000000 in
theorem sX11_slip (C : sk_C) (l : Launch) {S : sk_S} {d : sk_D} {p0 : Nat} {p1 : Int32} {rr : Int32} {dd : sk_D} (hf : fX11_slip S d p0 p1 = some (rr, dd)) : sk_Met C l 1 yX11_slip cX11_slip 2 (some .int) [.ref p0, .int p1] S d (some (.int rr)) S dd := by
  refine sk_Met.of (by decide) (Nat.le_of_ble_eq_true rfl) (Nat.le_refl _) (Nat.le_refl _) (fun X K0 hX => ?_)
  have K : sk_Ok X C cX11_slip 2 RX11 "slip" (some .int) 1 l (some (.int rr)) S dd := K0
  have R1 : X.2.2.2.2.2.2.2.2.2.2.2.1 ≤ S.1.1 ∧ X.2.2.2.2.2.2.2.2.2.2.2.2 ≤ S.1.2 := by rw [hX]; exact ⟨Nat.le_refl _, Nat.le_refl _⟩
  have R2 : S.1.1 ≤ S.1.1 ∧ S.1.2 ≤ S.1.2 := ⟨Nat.le_refl _, Nat.le_refl _⟩
  show sk_G X C 2 S d 0 [(0, .ref p0), (1, .int p1)] []
  unfold fX11_slip at hf
  refine sk_aload_n K dX11_slip_0 rfl 0 rfl ?_
  refine sk_iconst (0 : Int32) K dX11_slip_1 (by decide) ?_
  obtain ⟨d1, e2, hf⟩ := sk_ob hf
  refine sk_putI d1 K dX11_slip_2 fl_X11_1 rfl rfl rfl e2 ?_
  refine sk_iload_n K dX11_slip_5 rfl 1 rfl ?_
  refine sk_i2l K dX11_slip_6 ?_
  refine sk_lconst (0 : Int64) K dX11_slip_7 (by decide) ?_
  refine sk_ldc2 K dX11_slip_8 qw_1681 ?_
  obtain ⟨v3, e4, hf⟩ := sk_ob hf
  refine sk_callS (As := [.long p1.toInt64, .long (0 : Int64), .long (9 : Int64)]) (st := []) K dX11_slip_11 cl_X11_150 (sX11_within C l e4) (by decide) rfl rfl (Nat.le_of_ble_eq_true rfl) R1 R2 ?_
  refine sk_ifneB 20 K dX11_slip_14 (by decide) (fun h5 => ?_) (fun h5 => ?_)
  · rw [if_pos h5] at hf
    refine sk_aload_n K dX11_slip_20 rfl 0 rfl ?_
    obtain ⟨h9, hf⟩ := sk_ib hf
    obtain ⟨d8, e7, hf⟩ := sk_ob hf
    refine sk_callV (As := []) (st := []) K dX11_slip_21 cl_X11_280 h9 (sX11_keeps C l e7) (by decide) rfl rfl (Nat.le_of_ble_eq_true rfl) R1 R2 ?_
    refine sk_aload_n K dX11_slip_24 rfl 0 rfl ?_
    obtain ⟨v10, e11, hf⟩ := sk_ob hf
    refine sk_getR K dX11_slip_25 fl_X11_13 rfl e11 ?_
    refine sk_bipush (82 : Int32) K dX11_slip_28 (by decide) ?_
    refine sk_iload_n K dX11_slip_30 rfl 1 rfl ?_
    obtain ⟨d12, e13, hf⟩ := sk_ob hf
    refine sk_ast20 d12 K dX11_slip_31 e13 ?_
    refine sk_aload_n K dX11_slip_32 rfl 0 rfl ?_
    obtain ⟨h17, hf⟩ := sk_ib hf
    obtain ⟨d16, e15, hf⟩ := sk_ob hf
    refine sk_callV (As := []) (st := []) K dX11_slip_33 cl_X11_289 h17 (sX11_notes C l e15) (by decide) rfl rfl (Nat.le_of_ble_eq_true rfl) R1 R2 ?_
    refine sk_aload_n K dX11_slip_36 rfl 0 rfl ?_
    obtain ⟨v18, e19, hf⟩ := sk_ob hf
    refine sk_getR K dX11_slip_37 fl_X11_36 rfl e19 ?_
    refine sk_bipush (8 : Int32) K dX11_slip_40 (by decide) ?_
    obtain ⟨v20, e21, hf⟩ := sk_ob hf
    refine sk_ald20 K dX11_slip_42 e21 ?_
    have hR22 : (v20, d16) = (rr, dd) := Option.some.inj hf
    exact sk_iret K dX11_slip_43 rfl rfl (congrArg (fun z => z.1) hR22) rfl (congrArg (fun z => z.2) hR22)
  · rw [if_neg h5] at hf
    refine sk_bipush (-11 : Int32) K dX11_slip_17 (by decide) ?_
    have hR23 : ((-11 : Int32), d1) = (rr, dd) := Option.some.inj hf
    exact sk_iret K dX11_slip_19 rfl rfl (congrArg (fun z => z.1) hR23) rfl (congrArg (fun z => z.2) hR23)
noncomputable def fX11_undo_L44 (S : sk_S) (p0 : Nat) (s1 : Int32 × sk_D) : Option ((Int32 × sk_D) ⊕ (Int32 × sk_D)) :=
  if (9 : Int32) ≤ s1.1 then ((sk_gR S p0 10 1).bind fun v19 => (sk_lI S s1.2 v19 20 (83 : Int32)).bind fun v21 => some (.inr (v21, s1.2))) else ((sk_gR S p0 10 1).bind fun v24 => (sk_gR S p0 10 1).bind fun v26 => (sk_gR S p0 10 1).bind fun v28 => (sk_lI S s1.2 v28 20 (83 : Int32)).bind fun v30 => (sk_lI S s1.2 v26 20 (((84 : Int32) + ((9 : Int32) * v30)) + s1.1)).bind fun v32 => (sk_sI S s1.2 v24 20 ((74 : Int32) + s1.1) v32).bind fun d34 => some (.inl (s1.1 + 1, d34)))
noncomputable def fX11_undo (S : sk_S) (d : sk_D) (p0 : Nat) (p1 : Int32) : Option (Int32 × sk_D) :=
  (sk_pI S d p0 10 0 (0 : Int32)).bind fun d1 => (fX11_within S d1 p1.toInt64 (1 : Int64) (10 : Int64)).bind fun v3 => if v3 = true then ((sk_gR S p0 10 1).bind fun v7 => (sk_lI S d1 v7 20 (83 : Int32)).bind fun v9 => if p1 ≤ v9 then ((sk_gR S p0 10 1).bind fun v12 => (sk_lI S d1 v12 20 (83 : Int32)).bind fun v14 => (sk_sI S d1 v12 20 (83 : Int32) (v14 - p1)).bind fun d16 => (sk_itr (fX11_undo_L44 S p0) ((0 : Int32), d16)).bind fun x1 => some x1) else (some ((-3 : Int32), d1))) else (some ((-3 : Int32), d1))
set_option maxRecDepth 100000 in
set_option maxHeartbeats 4000000 in
theorem sX11_undo (C : sk_C) (l : Launch) {S : sk_S} {d : sk_D} {p0 : Nat} {p1 : Int32} {rr : Int32} {dd : sk_D} (hf : fX11_undo S d p0 p1 = some (rr, dd)) : sk_Met C l 1 yX11_undo cX11_undo 3 (some .int) [.ref p0, .int p1] S d (some (.int rr)) S dd := by
  refine sk_Met.of (by decide) (Nat.le_of_ble_eq_true rfl) (Nat.le_refl _) (Nat.le_refl _) (fun X K0 hX => ?_)
  have K : sk_Ok X C cX11_undo 3 RX11 "undo" (some .int) 1 l (some (.int rr)) S dd := K0
  have R1 : X.2.2.2.2.2.2.2.2.2.2.2.1 ≤ S.1.1 ∧ X.2.2.2.2.2.2.2.2.2.2.2.2 ≤ S.1.2 := by rw [hX]; exact ⟨Nat.le_refl _, Nat.le_refl _⟩
  have R2 : S.1.1 ≤ S.1.1 ∧ S.1.2 ≤ S.1.2 := ⟨Nat.le_refl _, Nat.le_refl _⟩
  show sk_G X C 3 S d 0 [(0, .ref p0), (1, .int p1)] []
  unfold fX11_undo at hf
  refine sk_aload_n K dX11_undo_0 rfl 0 rfl ?_
  refine sk_iconst (0 : Int32) K dX11_undo_1 (by decide) ?_
  obtain ⟨d1, e2, hf⟩ := sk_ob hf
  refine sk_putI d1 K dX11_undo_2 fl_X11_1 rfl rfl rfl e2 ?_
  refine sk_iload_n K dX11_undo_5 rfl 1 rfl ?_
  refine sk_i2l K dX11_undo_6 ?_
  refine sk_lconst (1 : Int64) K dX11_undo_7 (by decide) ?_
  refine sk_ldc2 K dX11_undo_8 qw_1686 ?_
  obtain ⟨v3, e4, hf⟩ := sk_ob hf
  refine sk_callS (As := [.long p1.toInt64, .long (1 : Int64), .long (10 : Int64)]) (st := []) K dX11_undo_11 cl_X11_150 (sX11_within C l e4) (by decide) rfl rfl (Nat.le_of_ble_eq_true rfl) R1 R2 ?_
  refine sk_ifeqB 28 K dX11_undo_14 (by decide) (fun h5 => ?_) (fun h5 => ?_)
  · rw [if_neg h5] at hf
    refine sk_bipush (-3 : Int32) K dX11_undo_28 (by decide) ?_
    have hR6 : ((-3 : Int32), d1) = (rr, dd) := Option.some.inj hf
    exact sk_iret K dX11_undo_30 rfl rfl (congrArg (fun z => z.1) hR6) rfl (congrArg (fun z => z.2) hR6)
  · rw [if_pos h5] at hf
    refine sk_iload_n K dX11_undo_17 rfl 1 rfl ?_
    refine sk_aload_n K dX11_undo_18 rfl 0 rfl ?_
    obtain ⟨v7, e8, hf⟩ := sk_ob hf
    refine sk_getR K dX11_undo_19 fl_X11_13 rfl e8 ?_
    refine sk_bipush (83 : Int32) K dX11_undo_22 (by decide) ?_
    obtain ⟨v9, e10, hf⟩ := sk_ob hf
    refine sk_ald20 K dX11_undo_24 e10 ?_
    refine sk_icmp_le 31 K dX11_undo_25 (by decide) (fun h11 => ?_) (fun h11 => ?_)
    · rw [if_pos h11] at hf
      refine sk_aload_n K dX11_undo_31 rfl 0 rfl ?_
      obtain ⟨v12, e13, hf⟩ := sk_ob hf
      refine sk_getR K dX11_undo_32 fl_X11_13 rfl e13 ?_
      refine sk_bipush (83 : Int32) K dX11_undo_35 (by decide) ?_
      refine sk_dup2 K dX11_undo_37 rfl rfl ?_
      obtain ⟨v14, e15, hf⟩ := sk_ob hf
      refine sk_ald20 K dX11_undo_38 e15 ?_
      refine sk_iload_n K dX11_undo_39 rfl 1 rfl ?_
      refine sk_isub K dX11_undo_40 ?_
      obtain ⟨d16, e17, hf⟩ := sk_ob hf
      refine sk_ast20 d16 K dX11_undo_41 e17 ?_
      refine sk_iconst (0 : Int32) K dX11_undo_42 (by decide) ?_
      refine sk_istore_n [(2, .int (0 : Int32)), (0, .ref p0), (1, .int p1)] K dX11_undo_43 rfl (by decide) rfl ?_
      obtain ⟨x1, he1, hf⟩ := sk_ob hf
      have hret1 : ∀ r, r = x1 → r = (rr, dd) := by
        intro r hr
        subst hr
        exact Option.some.inj hf
      refine sk_sub [(0, .ref p0), (2, .int (0 : Int32))] [1, 0] rfl ?_
      refine sk_loop (fun s1 => sk_G X C 3 S s1.2 44 [(0, .ref p0), (2, .int s1.1)] []) he1 (fun s1 o1 hf ih1 hx1 => ?_)
      unfold fX11_undo_L44 at hf
      refine sk_iload_n K dX11_undo_44 rfl 1 rfl ?_
      refine sk_bipush (9 : Int32) K dX11_undo_45 (by decide) ?_
      refine sk_icmp_ge 85 K dX11_undo_47 (by decide) (fun h18 => ?_) (fun h18 => ?_)
      · rw [if_pos h18] at hf
        refine sk_aload_n K dX11_undo_85 rfl 0 rfl ?_
        obtain ⟨v19, e20, hf⟩ := sk_ob hf
        refine sk_getR K dX11_undo_86 fl_X11_13 rfl e20 ?_
        refine sk_bipush (83 : Int32) K dX11_undo_89 (by decide) ?_
        obtain ⟨v21, e22, hf⟩ := sk_ob hf
        refine sk_ald20 K dX11_undo_91 e22 ?_
        have hR23 : (v21, s1.2) = (rr, dd) := hret1 _ (hx1 _ (Option.some.inj hf).symm)
        exact sk_iret K dX11_undo_92 rfl rfl (congrArg (fun z => z.1) hR23) rfl (congrArg (fun z => z.2) hR23)
      · rw [if_neg h18] at hf
        refine sk_aload_n K dX11_undo_50 rfl 0 rfl ?_
        obtain ⟨v24, e25, hf⟩ := sk_ob hf
        refine sk_getR K dX11_undo_51 fl_X11_13 rfl e25 ?_
        refine sk_bipush (74 : Int32) K dX11_undo_54 (by decide) ?_
        refine sk_iload_n K dX11_undo_56 rfl 1 rfl ?_
        refine sk_iadd K dX11_undo_57 ?_
        refine sk_aload_n K dX11_undo_58 rfl 0 rfl ?_
        obtain ⟨v26, e27, hf⟩ := sk_ob hf
        refine sk_getR K dX11_undo_59 fl_X11_13 rfl e27 ?_
        refine sk_bipush (84 : Int32) K dX11_undo_62 (by decide) ?_
        refine sk_bipush (9 : Int32) K dX11_undo_64 (by decide) ?_
        refine sk_aload_n K dX11_undo_66 rfl 0 rfl ?_
        obtain ⟨v28, e29, hf⟩ := sk_ob hf
        refine sk_getR K dX11_undo_67 fl_X11_13 rfl e29 ?_
        refine sk_bipush (83 : Int32) K dX11_undo_70 (by decide) ?_
        obtain ⟨v30, e31, hf⟩ := sk_ob hf
        refine sk_ald20 K dX11_undo_72 e31 ?_
        refine sk_imul K dX11_undo_73 ?_
        refine sk_iadd K dX11_undo_74 ?_
        refine sk_iload_n K dX11_undo_75 rfl 1 rfl ?_
        refine sk_iadd K dX11_undo_76 ?_
        obtain ⟨v32, e33, hf⟩ := sk_ob hf
        refine sk_ald20 K dX11_undo_77 e33 ?_
        obtain ⟨d34, e35, hf⟩ := sk_ob hf
        refine sk_ast20 d34 K dX11_undo_78 e35 ?_
        refine sk_iinc (s1.1 + 1) [(2, .int (s1.1 + 1)), (0, .ref p0)] K dX11_undo_79 1 rfl rfl (by decide) rfl ?_
        refine sk_goto 44 K dX11_undo_82 (by decide) ?_
        refine sk_sub [(0, .ref p0), (2, .int (s1.1 + 1))] [1, 0] rfl ?_
        have h9 := ih1 _ (Option.some.inj hf).symm
        exact h9
    · rw [if_neg h11] at hf
      refine sk_bipush (-3 : Int32) K dX11_undo_28 (by decide) ?_
      have hR36 : ((-3 : Int32), d1) = (rr, dd) := Option.some.inj hf
      exact sk_iret K dX11_undo_30 rfl rfl (congrArg (fun z => z.1) hR36) rfl (congrArg (fun z => z.2) hR36)
