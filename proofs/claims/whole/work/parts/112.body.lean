noncomputable def fX11_ahead (S : sk_S) (d : sk_D) (p0 : Nat) (p1 : Int32) (p2 : Int32) (p3 : Int32) : Option (Int32 × sk_D) :=
  (sk_pI S d p0 10 0 (0 : Int32)).bind fun d1 => (fX11_within S d1 p1.toInt64 (0 : Int64) (3 : Int64)).bind fun v3 => if v3 = true then (if S.2.1 p0 = (10, 0) then ((fX11_isDoing S d1 p0 p2.toInt64).bind fun v7 => if v7 = true then (if S.2.1 p0 = (10, 0) then ((fX11_isDoing S d1 p0 p3.toInt64).bind fun v12 => if v12 = true then (if p2 = p3 then (some ((-2 : Int32), d1)) else (if S.2.1 p0 = (10, 0) then ((fX11_noOrders S d1 p0 p1).bind fun v18 => if v18 = 0 then (if S.2.1 p0 = (10, 0) then ((fX11_isDoneOne S d1 p0 p2.toInt64).bind fun v22 => if v22 = true then (if S.2.1 p0 = (10, 0) then ((fX11_isDoneOne S d1 p0 p3.toInt64).bind fun v27 => if v27 = true then (if S.2.1 p0 = (10, 0) then ((fX11_laysOrders S d1 p0 p1 p2 p3).bind fun b36 => some (b36.1, b36.2)) else none) else (some ((-5 : Int32), d1))) else none) else (some ((-5 : Int32), d1))) else none) else (some (v18, d1))) else none)) else (some ((-2 : Int32), d1))) else none) else (some ((-2 : Int32), d1))) else none) else (some ((-2 : Int32), d1))
set_option maxRecDepth 100000 in
set_option maxHeartbeats 4000000 in
theorem sX11_ahead (C : sk_C) (l : Launch) {S : sk_S} {d : sk_D} {p0 : Nat} {p1 : Int32} {p2 : Int32} {p3 : Int32} {rr : Int32} {dd : sk_D} (hf : fX11_ahead S d p0 p1 p2 p3 = some (rr, dd)) : sk_Met C l 4 yX11_ahead cX11_ahead 5 (some .int) [.ref p0, .int p1, .int p2, .int p3] S d (some (.int rr)) S dd := by
  refine sk_Met.of (by decide) (Nat.le_of_ble_eq_true rfl) (Nat.le_refl _) (Nat.le_refl _) (fun X K0 hX => ?_)
  have K : sk_Ok X C cX11_ahead 5 RX11 "ahead" (some .int) 4 l (some (.int rr)) S dd := K0
  have R1 : X.2.2.2.2.2.2.2.2.2.2.2.1 ≤ S.1.1 ∧ X.2.2.2.2.2.2.2.2.2.2.2.2 ≤ S.1.2 := by rw [hX]; exact ⟨Nat.le_refl _, Nat.le_refl _⟩
  have R2 : S.1.1 ≤ S.1.1 ∧ S.1.2 ≤ S.1.2 := ⟨Nat.le_refl _, Nat.le_refl _⟩
  show sk_G X C 5 S d 0 [(0, .ref p0), (1, .int p1), (2, .int p2), (3, .int p3)] []
  unfold fX11_ahead at hf
  refine sk_aload_n K dX11_ahead_0 rfl 0 rfl ?_
  refine sk_iconst (0 : Int32) K dX11_ahead_1 (by decide) ?_
  obtain ⟨d1, e2, hf⟩ := sk_ob hf
  refine sk_putI d1 K dX11_ahead_2 fl_X11_1 rfl rfl rfl e2 ?_
  refine sk_iload_n K dX11_ahead_5 rfl 1 rfl ?_
  refine sk_i2l K dX11_ahead_6 ?_
  refine sk_lconst (0 : Int64) K dX11_ahead_7 (by decide) ?_
  refine sk_ldc2 K dX11_ahead_8 qw_1691 ?_
  obtain ⟨v3, e4, hf⟩ := sk_ob hf
  refine sk_callS (As := [.long p1.toInt64, .long (0 : Int64), .long (3 : Int64)]) (st := []) K dX11_ahead_11 cl_X11_150 (sX11_within C l e4) (by decide) rfl rfl (Nat.le_of_ble_eq_true rfl) R1 R2 ?_
  refine sk_ifeqB 40 K dX11_ahead_14 (by decide) (fun h5 => ?_) (fun h5 => ?_)
  · rw [if_neg h5] at hf
    refine sk_bipush (-2 : Int32) K dX11_ahead_40 (by decide) ?_
    have hR6 : ((-2 : Int32), d1) = (rr, dd) := Option.some.inj hf
    exact sk_iret K dX11_ahead_42 rfl rfl (congrArg (fun z => z.1) hR6) rfl (congrArg (fun z => z.2) hR6)
  · rw [if_pos h5] at hf
    refine sk_aload_n K dX11_ahead_17 rfl 0 rfl ?_
    refine sk_iload_n K dX11_ahead_18 rfl 2 rfl ?_
    refine sk_i2l K dX11_ahead_19 ?_
    obtain ⟨h9, hf⟩ := sk_ib hf
    obtain ⟨v7, e8, hf⟩ := sk_ob hf
    refine sk_callV (As := [.long p2.toInt64]) (st := []) K dX11_ahead_20 cl_X11_266 h9 (sX11_isDoing C l e8) (by decide) rfl rfl (Nat.le_of_ble_eq_true rfl) R1 R2 ?_
    refine sk_ifeqB 40 K dX11_ahead_23 (by decide) (fun h10 => ?_) (fun h10 => ?_)
    · rw [if_neg h10] at hf
      refine sk_bipush (-2 : Int32) K dX11_ahead_40 (by decide) ?_
      have hR11 : ((-2 : Int32), d1) = (rr, dd) := Option.some.inj hf
      exact sk_iret K dX11_ahead_42 rfl rfl (congrArg (fun z => z.1) hR11) rfl (congrArg (fun z => z.2) hR11)
    · rw [if_pos h10] at hf
      refine sk_aload_n K dX11_ahead_26 rfl 0 rfl ?_
      refine sk_iload_n K dX11_ahead_27 rfl 3 rfl ?_
      refine sk_i2l K dX11_ahead_28 ?_
      obtain ⟨h14, hf⟩ := sk_ib hf
      obtain ⟨v12, e13, hf⟩ := sk_ob hf
      refine sk_callV (As := [.long p3.toInt64]) (st := []) K dX11_ahead_29 cl_X11_266 h14 (sX11_isDoing C l e13) (by decide) rfl rfl (Nat.le_of_ble_eq_true rfl) R1 R2 ?_
      refine sk_ifeqB 40 K dX11_ahead_32 (by decide) (fun h15 => ?_) (fun h15 => ?_)
      · rw [if_neg h15] at hf
        refine sk_bipush (-2 : Int32) K dX11_ahead_40 (by decide) ?_
        have hR16 : ((-2 : Int32), d1) = (rr, dd) := Option.some.inj hf
        exact sk_iret K dX11_ahead_42 rfl rfl (congrArg (fun z => z.1) hR16) rfl (congrArg (fun z => z.2) hR16)
      · rw [if_pos h15] at hf
        refine sk_iload_n K dX11_ahead_35 rfl 2 rfl ?_
        refine sk_iload_n K dX11_ahead_36 rfl 3 rfl ?_
        refine sk_icmp_ne 43 K dX11_ahead_37 (by decide) (fun h17 => ?_) (fun h17 => ?_)
        · rw [if_neg h17] at hf
          refine sk_aload_n K dX11_ahead_43 rfl 0 rfl ?_
          refine sk_iload_n K dX11_ahead_44 rfl 1 rfl ?_
          obtain ⟨h20, hf⟩ := sk_ib hf
          obtain ⟨v18, e19, hf⟩ := sk_ob hf
          refine sk_callV (As := [.int p1]) (st := []) K dX11_ahead_45 cl_X11_410 h20 (sX11_noOrders C l e19) (by decide) rfl rfl (Nat.le_of_ble_eq_true rfl) R1 R2 ?_
          refine sk_istore [(4, .int v18), (0, .ref p0), (1, .int p1), (2, .int p2), (3, .int p3)] K dX11_ahead_48 (by decide) rfl ?_
          refine sk_iload K dX11_ahead_50 0 rfl ?_
          refine sk_if_eq 58 K dX11_ahead_52 (by decide) (fun h21 => ?_) (fun h21 => ?_)
          · rw [if_pos h21] at hf
            refine sk_aload_n K dX11_ahead_58 rfl 1 rfl ?_
            refine sk_iload_n K dX11_ahead_59 rfl 3 rfl ?_
            refine sk_i2l K dX11_ahead_60 ?_
            obtain ⟨h24, hf⟩ := sk_ib hf
            obtain ⟨v22, e23, hf⟩ := sk_ob hf
            refine sk_callV (As := [.long p2.toInt64]) (st := []) K dX11_ahead_61 cl_X11_407 h24 (sX11_isDoneOne C l e23) (by decide) rfl rfl (Nat.le_of_ble_eq_true rfl) R1 R2 ?_
            refine sk_ifeqB 86 K dX11_ahead_64 (by decide) (fun h25 => ?_) (fun h25 => ?_)
            · rw [if_neg h25] at hf
              refine sk_bipush (-5 : Int32) K dX11_ahead_86 (by decide) ?_
              have hR26 : ((-5 : Int32), d1) = (rr, dd) := Option.some.inj hf
              exact sk_iret K dX11_ahead_88 rfl rfl (congrArg (fun z => z.1) hR26) rfl (congrArg (fun z => z.2) hR26)
            · rw [if_pos h25] at hf
              refine sk_aload_n K dX11_ahead_67 rfl 1 rfl ?_
              refine sk_iload_n K dX11_ahead_68 rfl 4 rfl ?_
              refine sk_i2l K dX11_ahead_69 ?_
              obtain ⟨h29, hf⟩ := sk_ib hf
              obtain ⟨v27, e28, hf⟩ := sk_ob hf
              refine sk_callV (As := [.long p3.toInt64]) (st := []) K dX11_ahead_70 cl_X11_407 h29 (sX11_isDoneOne C l e28) (by decide) rfl rfl (Nat.le_of_ble_eq_true rfl) R1 R2 ?_
              refine sk_ifeqB 86 K dX11_ahead_73 (by decide) (fun h30 => ?_) (fun h30 => ?_)
              · rw [if_neg h30] at hf
                refine sk_bipush (-5 : Int32) K dX11_ahead_86 (by decide) ?_
                have hR31 : ((-5 : Int32), d1) = (rr, dd) := Option.some.inj hf
                exact sk_iret K dX11_ahead_88 rfl rfl (congrArg (fun z => z.1) hR31) rfl (congrArg (fun z => z.2) hR31)
              · rw [if_pos h30] at hf
                refine sk_aload_n K dX11_ahead_76 rfl 1 rfl ?_
                refine sk_iload_n K dX11_ahead_77 rfl 2 rfl ?_
                refine sk_iload_n K dX11_ahead_78 rfl 3 rfl ?_
                refine sk_iload_n K dX11_ahead_79 rfl 4 rfl ?_
                obtain ⟨h35, hf⟩ := sk_ib hf
                obtain ⟨⟨v32, d34⟩, e33, hf⟩ := sk_ob hf
                try dsimp only at hf
                refine sk_callV (As := [.int p1, .int p2, .int p3]) (st := []) K dX11_ahead_80 cl_X11_413 h35 (sX11_laysOrders C l e33) (by decide) rfl rfl (Nat.le_of_ble_eq_true rfl) R1 R2 ?_
                refine sk_goto 88 K dX11_ahead_83 (by decide) ?_
                have hR37 : (v32, d34) = (rr, dd) := Option.some.inj hf
                exact sk_iret K dX11_ahead_88 rfl rfl (congrArg (fun z => z.1) hR37) rfl (congrArg (fun z => z.2) hR37)
          · rw [if_neg h21] at hf
            refine sk_iload K dX11_ahead_55 0 rfl ?_
            have hR38 : (v18, d1) = (rr, dd) := Option.some.inj hf
            exact sk_iret K dX11_ahead_57 rfl rfl (congrArg (fun z => z.1) hR38) rfl (congrArg (fun z => z.2) hR38)
        · rw [if_pos h17] at hf
          refine sk_bipush (-2 : Int32) K dX11_ahead_40 (by decide) ?_
          have hR39 : ((-2 : Int32), d1) = (rr, dd) := Option.some.inj hf
          exact sk_iret K dX11_ahead_42 rfl rfl (congrArg (fun z => z.1) hR39) rfl (congrArg (fun z => z.2) hR39)
noncomputable def fX11_laysJoined_L26 (S : sk_S) (p0 : Nat) (t1_a : Int32) (s2 : Int32 × sk_D) : Option ((Int32 × sk_D) ⊕ (sk_D)) :=
  (sk_gR S p0 10 1).bind fun v13 => (sk_lI S s2.2 v13 20 (2 : Int32)).bind fun v15 => if v15 ≤ s2.1 then (some (.inr s2.2)) else ((sk_gR S p0 10 31).bind fun v18 => (sk_lI S s2.2 v18 20 t1_a).bind fun v20 => if v20 = (-1 : Int32) then ((sk_gR S p0 10 1).bind fun v23 => (sk_lI S s2.2 v23 20 ((74 : Int32) + t1_a)).bind fun v25 => if v25 = (1 : Int32) then ((sk_gI S s2.2 p0 10 32).bind fun v28 => (fX11_isIn S s2.2 v28.toInt64 s2.1).bind fun v30 => if v30 = true then (some (.inl (s2.1 + 1, s2.2))) else ((sk_gR S p0 10 1).bind fun v33 => (sk_lI S s2.2 v33 20 ((18 : Int32) + t1_a)).bind fun v35 => (sk_gR S p0 10 1).bind fun v37 => (sk_lI S s2.2 v37 20 ((66 : Int32) + s2.1)).bind fun v39 => if (v35 + v39) = (9 : Int32) then ((sk_gR S p0 10 31).bind fun v42 => (sk_sI S s2.2 v42 20 t1_a s2.1).bind fun d44 => (sk_gI S d44 p0 10 32).bind fun v46 => (sk_pI S d44 p0 10 32 (v46 ||| ((1 : Int32) <<< (s2.1 &&& 31)))).bind fun d48 => some (.inl (s2.1 + 1, d48))) else (some (.inl (s2.1 + 1, s2.2))))) else (some (.inr s2.2))) else (some (.inr s2.2)))
noncomputable def fX11_laysJoined_L7 (S : sk_S) (p0 : Nat) (s1 : Int32 × sk_D) : Option ((Int32 × sk_D) ⊕ (sk_D)) :=
  (sk_gR S p0 10 1).bind fun v3 => (sk_lI S s1.2 v3 20 (1 : Int32)).bind fun v5 => if v5 ≤ s1.1 then (some (.inr s1.2)) else ((sk_gR S p0 10 31).bind fun v9 => (sk_sI S s1.2 v9 20 s1.1 (-1 : Int32)).bind fun d11 => (sk_itr (fX11_laysJoined_L26 S p0 s1.1) ((0 : Int32), d11)).bind fun y2 => some (.inl (s1.1 + 1, y2)))
noncomputable def fX11_laysJoined (S : sk_S) (d : sk_D) (p0 : Nat) : Option (sk_D) :=
  (sk_pI S d p0 10 32 (0 : Int32)).bind fun d1 => (sk_itr (fX11_laysJoined_L7 S p0) ((0 : Int32), d1)).bind fun x1 => some x1
set_option maxRecDepth 100000 in
set_option maxHeartbeats 4000000 in
theorem sX11_laysJoined (C : sk_C) (l : Launch) {S : sk_S} {d : sk_D} {p0 : Nat} {dd : sk_D} (hf : fX11_laysJoined S d p0 = some dd) : sk_Met C l 1 yX11_laysJoined cX11_laysJoined 3 none [.ref p0] S d none S dd := by
  refine sk_Met.of (by decide) (Nat.le_of_ble_eq_true rfl) (Nat.le_refl _) (Nat.le_refl _) (fun X K0 hX => ?_)
  have K : sk_Ok X C cX11_laysJoined 3 RX11 "laysJoined" none 1 l none S dd := K0
  have R1 : X.2.2.2.2.2.2.2.2.2.2.2.1 ≤ S.1.1 ∧ X.2.2.2.2.2.2.2.2.2.2.2.2 ≤ S.1.2 := by rw [hX]; exact ⟨Nat.le_refl _, Nat.le_refl _⟩
  have R2 : S.1.1 ≤ S.1.1 ∧ S.1.2 ≤ S.1.2 := ⟨Nat.le_refl _, Nat.le_refl _⟩
  show sk_G X C 3 S d 0 [(0, .ref p0)] []
  unfold fX11_laysJoined at hf
  refine sk_aload_n K dX11_laysJoined_0 rfl 0 rfl ?_
  refine sk_iconst (0 : Int32) K dX11_laysJoined_1 (by decide) ?_
  obtain ⟨d1, e2, hf⟩ := sk_ob hf
  refine sk_putI d1 K dX11_laysJoined_2 fl_X11_416 rfl rfl rfl e2 ?_
  refine sk_iconst (0 : Int32) K dX11_laysJoined_5 (by decide) ?_
  refine sk_istore_n [(1, .int (0 : Int32)), (0, .ref p0)] K dX11_laysJoined_6 rfl (by decide) rfl ?_
  obtain ⟨x1, he1, hf⟩ := sk_ob hf
  have hret1 : ∀ r, r = x1 → r = dd := by
    intro r hr
    subst hr
    exact Option.some.inj hf
  refine sk_sub [(0, .ref p0), (1, .int (0 : Int32))] [1, 0] rfl ?_
  refine sk_loop (fun s1 => sk_G X C 3 S s1.2 7 [(0, .ref p0), (1, .int s1.1)] []) he1 (fun s1 o1 hf ih1 hx1 => ?_)
  unfold fX11_laysJoined_L7 at hf
  refine sk_iload_n K dX11_laysJoined_7 rfl 1 rfl ?_
  refine sk_aload_n K dX11_laysJoined_8 rfl 0 rfl ?_
  obtain ⟨v3, e4, hf⟩ := sk_ob hf
  refine sk_getR K dX11_laysJoined_9 fl_X11_13 rfl e4 ?_
  refine sk_iconst (1 : Int32) K dX11_laysJoined_12 (by decide) ?_
  obtain ⟨v5, e6, hf⟩ := sk_ob hf
  refine sk_ald20 K dX11_laysJoined_13 e6 ?_
  refine sk_icmp_ge 129 K dX11_laysJoined_14 (by decide) (fun h7 => ?_) (fun h7 => ?_)
  · rw [if_pos h7] at hf
    have hR8 : s1.2 = dd := hret1 _ (hx1 _ (Option.some.inj hf).symm)
    exact sk_vret K dX11_laysJoined_129 rfl rfl rfl hR8
  · rw [if_neg h7] at hf
    refine sk_aload_n K dX11_laysJoined_17 rfl 0 rfl ?_
    obtain ⟨v9, e10, hf⟩ := sk_ob hf
    refine sk_getR K dX11_laysJoined_18 fl_X11_69 rfl e10 ?_
    refine sk_iload_n K dX11_laysJoined_21 rfl 1 rfl ?_
    refine sk_iconst (-1 : Int32) K dX11_laysJoined_22 (by decide) ?_
    obtain ⟨d11, e12, hf⟩ := sk_ob hf
    refine sk_ast20 d11 K dX11_laysJoined_23 e12 ?_
    refine sk_iconst (0 : Int32) K dX11_laysJoined_24 (by decide) ?_
    refine sk_istore_n [(2, .int (0 : Int32)), (0, .ref p0), (1, .int s1.1)] K dX11_laysJoined_25 rfl (by decide) rfl ?_
    obtain ⟨x2, he2, hf⟩ := sk_ob hf
    have rest2 : ∀ y2, y2 = x2 → sk_G X C 3 S y2 123 [(0, .ref p0), (1, .int s1.1)] [] := by
      intro y2 hy
      subst hy
      refine sk_iinc (s1.1 + 1) [(1, .int (s1.1 + 1)), (0, .ref p0)] K dX11_laysJoined_123 1 rfl rfl (by decide) rfl ?_
      refine sk_goto 7 K dX11_laysJoined_126 (by decide) ?_
      refine sk_sub [(0, .ref p0), (1, .int (s1.1 + 1))] [1, 0] rfl ?_
      have h9 := ih1 _ (Option.some.inj hf).symm
      exact h9
    refine sk_sub [(0, .ref p0), (1, .int s1.1), (2, .int (0 : Int32))] [1, 2, 0] rfl ?_
    refine sk_loop (fun s2 => sk_G X C 3 S s2.2 26 [(0, .ref p0), (1, .int s1.1), (2, .int s2.1)] []) he2 (fun s2 o2 hf ih2 hx2 => ?_)
    unfold fX11_laysJoined_L26 at hf
    refine sk_iload_n K dX11_laysJoined_26 rfl 2 rfl ?_
    refine sk_aload_n K dX11_laysJoined_27 rfl 0 rfl ?_
    obtain ⟨v13, e14, hf⟩ := sk_ob hf
    refine sk_getR K dX11_laysJoined_28 fl_X11_13 rfl e14 ?_
    refine sk_iconst (2 : Int32) K dX11_laysJoined_31 (by decide) ?_
    obtain ⟨v15, e16, hf⟩ := sk_ob hf
    refine sk_ald20 K dX11_laysJoined_32 e16 ?_
    refine sk_icmp_ge 123 K dX11_laysJoined_33 (by decide) (fun h17 => ?_) (fun h17 => ?_)
    · rw [if_pos h17] at hf
      refine sk_sub [(0, .ref p0), (1, .int s1.1)] [0, 1] rfl ?_
      have h9 := rest2 _ (hx2 _ (Option.some.inj hf).symm)
      exact h9
    · rw [if_neg h17] at hf
      refine sk_aload_n K dX11_laysJoined_36 rfl 0 rfl ?_
      obtain ⟨v18, e19, hf⟩ := sk_ob hf
      refine sk_getR K dX11_laysJoined_37 fl_X11_69 rfl e19 ?_
      refine sk_iload_n K dX11_laysJoined_40 rfl 1 rfl ?_
      obtain ⟨v20, e21, hf⟩ := sk_ob hf
      refine sk_ald20 K dX11_laysJoined_41 e21 ?_
      refine sk_iconst (-1 : Int32) K dX11_laysJoined_42 (by decide) ?_
      refine sk_icmp_ne 123 K dX11_laysJoined_43 (by decide) (fun h22 => ?_) (fun h22 => ?_)
      · rw [if_neg h22] at hf
        refine sk_sub [(0, .ref p0), (1, .int s1.1)] [0, 1] rfl ?_
        have h9 := rest2 _ (hx2 _ (Option.some.inj hf).symm)
        exact h9
      · rw [if_pos h22] at hf
        refine sk_aload_n K dX11_laysJoined_46 rfl 0 rfl ?_
        obtain ⟨v23, e24, hf⟩ := sk_ob hf
        refine sk_getR K dX11_laysJoined_47 fl_X11_13 rfl e24 ?_
        refine sk_bipush (74 : Int32) K dX11_laysJoined_50 (by decide) ?_
        refine sk_iload_n K dX11_laysJoined_52 rfl 1 rfl ?_
        refine sk_iadd K dX11_laysJoined_53 ?_
        obtain ⟨v25, e26, hf⟩ := sk_ob hf
        refine sk_ald20 K dX11_laysJoined_54 e26 ?_
        refine sk_iconst (1 : Int32) K dX11_laysJoined_55 (by decide) ?_
        refine sk_icmp_ne 123 K dX11_laysJoined_56 (by decide) (fun h27 => ?_) (fun h27 => ?_)
        · rw [if_neg h27] at hf
          refine sk_sub [(0, .ref p0), (1, .int s1.1)] [0, 1] rfl ?_
          have h9 := rest2 _ (hx2 _ (Option.some.inj hf).symm)
          exact h9
        · rw [if_pos h27] at hf
          refine sk_aload_n K dX11_laysJoined_59 rfl 0 rfl ?_
          obtain ⟨v28, e29, hf⟩ := sk_ob hf
          refine sk_getI K dX11_laysJoined_60 fl_X11_416 rfl e29 ?_
          refine sk_i2l K dX11_laysJoined_63 ?_
          refine sk_iload_n K dX11_laysJoined_64 rfl 2 rfl ?_
          obtain ⟨v30, e31, hf⟩ := sk_ob hf
          refine sk_callS (As := [.long v28.toInt64, .int s2.1]) (st := []) K dX11_laysJoined_65 cl_X11_221 (sX11_isIn C l e31) (by decide) rfl rfl (Nat.le_of_ble_eq_true rfl) R1 R2 ?_
          refine sk_ifneB 117 K dX11_laysJoined_68 (by decide) (fun h32 => ?_) (fun h32 => ?_)
          · rw [if_pos h32] at hf
            refine sk_iinc (s2.1 + 1) [(2, .int (s2.1 + 1)), (0, .ref p0), (1, .int s1.1)] K dX11_laysJoined_117 2 rfl rfl (by decide) rfl ?_
            refine sk_goto 26 K dX11_laysJoined_120 (by decide) ?_
            refine sk_sub [(0, .ref p0), (1, .int s1.1), (2, .int (s2.1 + 1))] [1, 2, 0] rfl ?_
            have h9 := ih2 _ (Option.some.inj hf).symm
            exact h9
          · rw [if_neg h32] at hf
            refine sk_aload_n K dX11_laysJoined_71 rfl 0 rfl ?_
            obtain ⟨v33, e34, hf⟩ := sk_ob hf
            refine sk_getR K dX11_laysJoined_72 fl_X11_13 rfl e34 ?_
            refine sk_bipush (18 : Int32) K dX11_laysJoined_75 (by decide) ?_
            refine sk_iload_n K dX11_laysJoined_77 rfl 1 rfl ?_
            refine sk_iadd K dX11_laysJoined_78 ?_
            obtain ⟨v35, e36, hf⟩ := sk_ob hf
            refine sk_ald20 K dX11_laysJoined_79 e36 ?_
            refine sk_aload_n K dX11_laysJoined_80 rfl 0 rfl ?_
            obtain ⟨v37, e38, hf⟩ := sk_ob hf
            refine sk_getR K dX11_laysJoined_81 fl_X11_13 rfl e38 ?_
            refine sk_bipush (66 : Int32) K dX11_laysJoined_84 (by decide) ?_
            refine sk_iload_n K dX11_laysJoined_86 rfl 2 rfl ?_
            refine sk_iadd K dX11_laysJoined_87 ?_
            obtain ⟨v39, e40, hf⟩ := sk_ob hf
            refine sk_ald20 K dX11_laysJoined_88 e40 ?_
            refine sk_iadd K dX11_laysJoined_89 ?_
            refine sk_bipush (9 : Int32) K dX11_laysJoined_90 (by decide) ?_
            refine sk_icmp_eq 98 K dX11_laysJoined_92 (by decide) (fun h41 => ?_) (fun h41 => ?_)
            · rw [if_pos h41] at hf
              refine sk_aload_n K dX11_laysJoined_98 rfl 0 rfl ?_
              obtain ⟨v42, e43, hf⟩ := sk_ob hf
              refine sk_getR K dX11_laysJoined_99 fl_X11_69 rfl e43 ?_
              refine sk_iload_n K dX11_laysJoined_102 rfl 1 rfl ?_
              refine sk_iload_n K dX11_laysJoined_103 rfl 2 rfl ?_
              obtain ⟨d44, e45, hf⟩ := sk_ob hf
              refine sk_ast20 d44 K dX11_laysJoined_104 e45 ?_
              refine sk_aload_n K dX11_laysJoined_105 rfl 0 rfl ?_
              refine sk_dup K dX11_laysJoined_106 rfl ?_
              obtain ⟨v46, e47, hf⟩ := sk_ob hf
              refine sk_getI K dX11_laysJoined_107 fl_X11_416 rfl e47 ?_
              refine sk_iconst (1 : Int32) K dX11_laysJoined_110 (by decide) ?_
              refine sk_iload_n K dX11_laysJoined_111 rfl 2 rfl ?_
              refine sk_ishl K dX11_laysJoined_112 ?_
              refine sk_ior K dX11_laysJoined_113 ?_
              obtain ⟨d48, e49, hf⟩ := sk_ob hf
              refine sk_putI d48 K dX11_laysJoined_114 fl_X11_416 rfl rfl rfl e49 ?_
              refine sk_iinc (s2.1 + 1) [(2, .int (s2.1 + 1)), (0, .ref p0), (1, .int s1.1)] K dX11_laysJoined_117 2 rfl rfl (by decide) rfl ?_
              refine sk_goto 26 K dX11_laysJoined_120 (by decide) ?_
              refine sk_sub [(0, .ref p0), (1, .int s1.1), (2, .int (s2.1 + 1))] [1, 2, 0] rfl ?_
              have h9 := ih2 _ (Option.some.inj hf).symm
              exact h9
            · rw [if_neg h41] at hf
              refine sk_goto 117 K dX11_laysJoined_95 (by decide) ?_
              refine sk_iinc (s2.1 + 1) [(2, .int (s2.1 + 1)), (0, .ref p0), (1, .int s1.1)] K dX11_laysJoined_117 2 rfl rfl (by decide) rfl ?_
              refine sk_goto 26 K dX11_laysJoined_120 (by decide) ?_
              refine sk_sub [(0, .ref p0), (1, .int s1.1), (2, .int (s2.1 + 1))] [1, 2, 0] rfl ?_
              have h9 := ih2 _ (Option.some.inj hf).symm
              exact h9
noncomputable def fX11_isWhat (S : sk_S) (d : sk_D) (p0 : Nat) (p1 : Int32) : Option (Bool) :=
  if p1 = 0 then (some true) else (if p1 < (10 : Int32) then (some false) else (if S.2.1 p0 = (10, 0) then ((fX11_isDoing S d p0 ((p1 - (10 : Int32)).toInt64)).bind fun v5 => if v5 = true then (some true) else (some false)) else none))
set_option maxRecDepth 100000 in
set_option maxHeartbeats 4000000 in
theorem sX11_isWhat (C : sk_C) (l : Launch) {S : sk_S} {d : sk_D} {p0 : Nat} {p1 : Int32} {rr : Bool} (hf : fX11_isWhat S d p0 p1 = some rr) : sk_Met C l 2 yX11_isWhat cX11_isWhat 2 (some .boolean) [.ref p0, .int p1] S d (some (.int (sk_b rr))) S d := by
  refine sk_Met.of (by decide) (Nat.le_of_ble_eq_true rfl) (Nat.le_refl _) (Nat.le_refl _) (fun X K0 hX => ?_)
  have K : sk_Ok X C cX11_isWhat 2 RX11 "isWhat" (some .boolean) 2 l (some (.int (sk_b rr))) S d := K0
  have R1 : X.2.2.2.2.2.2.2.2.2.2.2.1 ≤ S.1.1 ∧ X.2.2.2.2.2.2.2.2.2.2.2.2 ≤ S.1.2 := by rw [hX]; exact ⟨Nat.le_refl _, Nat.le_refl _⟩
  have R2 : S.1.1 ≤ S.1.1 ∧ S.1.2 ≤ S.1.2 := ⟨Nat.le_refl _, Nat.le_refl _⟩
  show sk_G X C 2 S d 0 [(0, .ref p0), (1, .int p1)] []
  unfold fX11_isWhat at hf
  refine sk_iload_n K dX11_isWhat_0 rfl 1 rfl ?_
  refine sk_if_eq 22 K dX11_isWhat_1 (by decide) (fun h1 => ?_) (fun h1 => ?_)
  · rw [if_pos h1] at hf
    refine sk_iconst (1 : Int32) K dX11_isWhat_22 (by decide) ?_
    refine sk_goto 27 K dX11_isWhat_23 (by decide) ?_
    have hR2 : true = rr := Option.some.inj hf
    exact sk_zret (x := true) K dX11_isWhat_27 rfl rfl hR2 rfl rfl
  · rw [if_neg h1] at hf
    refine sk_iload_n K dX11_isWhat_4 rfl 1 rfl ?_
    refine sk_bipush (10 : Int32) K dX11_isWhat_5 (by decide) ?_
    refine sk_icmp_lt 26 K dX11_isWhat_7 (by decide) (fun h3 => ?_) (fun h3 => ?_)
    · rw [if_pos h3] at hf
      refine sk_iconst (0 : Int32) K dX11_isWhat_26 (by decide) ?_
      have hR4 : false = rr := Option.some.inj hf
      exact sk_zret (x := false) K dX11_isWhat_27 rfl rfl hR4 rfl rfl
    · rw [if_neg h3] at hf
      refine sk_aload_n K dX11_isWhat_10 rfl 0 rfl ?_
      refine sk_iload_n K dX11_isWhat_11 rfl 1 rfl ?_
      refine sk_bipush (10 : Int32) K dX11_isWhat_12 (by decide) ?_
      refine sk_isub K dX11_isWhat_14 ?_
      refine sk_i2l K dX11_isWhat_15 ?_
      obtain ⟨h7, hf⟩ := sk_ib hf
      obtain ⟨v5, e6, hf⟩ := sk_ob hf
      refine sk_callV (As := [.long ((p1 - (10 : Int32)).toInt64)]) (st := []) K dX11_isWhat_16 cl_X11_266 h7 (sX11_isDoing C l e6) (by decide) rfl rfl (Nat.le_of_ble_eq_true rfl) R1 R2 ?_
      refine sk_ifeqB 26 K dX11_isWhat_19 (by decide) (fun h8 => ?_) (fun h8 => ?_)
      · rw [if_neg h8] at hf
        refine sk_iconst (0 : Int32) K dX11_isWhat_26 (by decide) ?_
        have hR9 : false = rr := Option.some.inj hf
        exact sk_zret (x := false) K dX11_isWhat_27 rfl rfl hR9 rfl rfl
      · rw [if_pos h8] at hf
        refine sk_iconst (1 : Int32) K dX11_isWhat_22 (by decide) ?_
        refine sk_goto 27 K dX11_isWhat_23 (by decide) ?_
        have hR10 : true = rr := Option.some.inj hf
        exact sk_zret (x := true) K dX11_isWhat_27 rfl rfl hR10 rfl rfl
noncomputable def fX11_join (S : sk_S) (d : sk_D) (p0 : Nat) (p1 : Int32) : Option (Int32 × sk_D) :=
  (sk_pI S d p0 10 0 (0 : Int32)).bind fun d1 => if S.2.1 p0 = (10, 0) then ((fX11_isWhat S d1 p0 p1).bind fun v3 => if v3 = true then (if S.2.1 p0 = (10, 0) then ((fX11_laysJoined S d1 p0).bind fun d9 => if p1 = 0 then ((sk_gI S d9 p0 10 32).bind fun v17 => (fX11_bitsOf S d9 v17).bind fun v19 => some (v19, d9)) else ((sk_gR S p0 10 31).bind fun v12 => (sk_lI S d9 v12 20 (p1 - (10 : Int32))).bind fun v14 => some (v14, d9))) else none) else (some ((-2 : Int32), d1))) else none
set_option maxRecDepth 100000 in
set_option maxHeartbeats 4000000 in
theorem sX11_join (C : sk_C) (l : Launch) {S : sk_S} {d : sk_D} {p0 : Nat} {p1 : Int32} {rr : Int32} {dd : sk_D} (hf : fX11_join S d p0 p1 = some (rr, dd)) : sk_Met C l 3 yX11_join cX11_join 2 (some .int) [.ref p0, .int p1] S d (some (.int rr)) S dd := by
  refine sk_Met.of (by decide) (Nat.le_of_ble_eq_true rfl) (Nat.le_refl _) (Nat.le_refl _) (fun X K0 hX => ?_)
  have K : sk_Ok X C cX11_join 2 RX11 "join" (some .int) 3 l (some (.int rr)) S dd := K0
  have R1 : X.2.2.2.2.2.2.2.2.2.2.2.1 ≤ S.1.1 ∧ X.2.2.2.2.2.2.2.2.2.2.2.2 ≤ S.1.2 := by rw [hX]; exact ⟨Nat.le_refl _, Nat.le_refl _⟩
  have R2 : S.1.1 ≤ S.1.1 ∧ S.1.2 ≤ S.1.2 := ⟨Nat.le_refl _, Nat.le_refl _⟩
  show sk_G X C 2 S d 0 [(0, .ref p0), (1, .int p1)] []
  unfold fX11_join at hf
  refine sk_aload_n K dX11_join_0 rfl 0 rfl ?_
  refine sk_iconst (0 : Int32) K dX11_join_1 (by decide) ?_
  obtain ⟨d1, e2, hf⟩ := sk_ob hf
  refine sk_putI d1 K dX11_join_2 fl_X11_1 rfl rfl rfl e2 ?_
  refine sk_aload_n K dX11_join_5 rfl 0 rfl ?_
  refine sk_iload_n K dX11_join_6 rfl 1 rfl ?_
  obtain ⟨h5, hf⟩ := sk_ib hf
  obtain ⟨v3, e4, hf⟩ := sk_ob hf
  refine sk_callV (As := [.int p1]) (st := []) K dX11_join_7 cl_X11_419 h5 (sX11_isWhat C l e4) (by decide) rfl rfl (Nat.le_of_ble_eq_true rfl) R1 R2 ?_
  refine sk_ifneB 16 K dX11_join_10 (by decide) (fun h6 => ?_) (fun h6 => ?_)
  · rw [if_pos h6] at hf
    refine sk_aload_n K dX11_join_16 rfl 0 rfl ?_
    obtain ⟨h10, hf⟩ := sk_ib hf
    obtain ⟨d9, e8, hf⟩ := sk_ob hf
    refine sk_callV (As := []) (st := []) K dX11_join_17 cl_X11_422 h10 (sX11_laysJoined C l e8) (by decide) rfl rfl (Nat.le_of_ble_eq_true rfl) R1 R2 ?_
    refine sk_iload_n K dX11_join_20 rfl 1 rfl ?_
    refine sk_if_ne 34 K dX11_join_21 (by decide) (fun h11 => ?_) (fun h11 => ?_)
    · rw [if_neg h11] at hf
      refine sk_aload_n K dX11_join_34 rfl 0 rfl ?_
      obtain ⟨v12, e13, hf⟩ := sk_ob hf
      refine sk_getR K dX11_join_35 fl_X11_69 rfl e13 ?_
      refine sk_iload_n K dX11_join_38 rfl 1 rfl ?_
      refine sk_bipush (10 : Int32) K dX11_join_39 (by decide) ?_
      refine sk_isub K dX11_join_41 ?_
      obtain ⟨v14, e15, hf⟩ := sk_ob hf
      refine sk_ald20 K dX11_join_42 e15 ?_
      have hR16 : (v14, d9) = (rr, dd) := Option.some.inj hf
      exact sk_iret K dX11_join_43 rfl rfl (congrArg (fun z => z.1) hR16) rfl (congrArg (fun z => z.2) hR16)
    · rw [if_pos h11] at hf
      refine sk_aload_n K dX11_join_24 rfl 0 rfl ?_
      obtain ⟨v17, e18, hf⟩ := sk_ob hf
      refine sk_getI K dX11_join_25 fl_X11_416 rfl e18 ?_
      obtain ⟨v19, e20, hf⟩ := sk_ob hf
      refine sk_callS (As := [.int v17]) (st := []) K dX11_join_28 cl_X11_235 (sX11_bitsOf C l e20) (by decide) rfl rfl (Nat.le_of_ble_eq_true rfl) R1 R2 ?_
      refine sk_goto 43 K dX11_join_31 (by decide) ?_
      have hR21 : (v19, d9) = (rr, dd) := Option.some.inj hf
      exact sk_iret K dX11_join_43 rfl rfl (congrArg (fun z => z.1) hR21) rfl (congrArg (fun z => z.2) hR21)
  · rw [if_neg h6] at hf
    refine sk_bipush (-2 : Int32) K dX11_join_13 (by decide) ?_
    have hR22 : ((-2 : Int32), d1) = (rr, dd) := Option.some.inj hf
    exact sk_iret K dX11_join_15 rfl rfl (congrArg (fun z => z.1) hR22) rfl (congrArg (fun z => z.2) hR22)
noncomputable def fX11_over (S : sk_S) (d : sk_D) (p0 : Nat) : Option (Int32 × sk_D) :=
  (sk_pI S d p0 10 0 (0 : Int32)).bind fun d1 => if S.2.1 p0 = (10, 0) then ((fX11_laysJoined S d1 p0).bind fun d5 => (sk_gR S p0 10 1).bind fun v7 => (sk_lI S d5 v7 20 (2 : Int32)).bind fun v9 => (sk_gI S d5 p0 10 32).bind fun v11 => some ((((1 : Int32) <<< (v9 &&& 31)) - (1 : Int32)) &&& (v11 ^^^ (-1 : Int32)), d5)) else none
set_option maxRecDepth 100000 in
set_option maxHeartbeats 4000000 in
theorem sX11_over (C : sk_C) (l : Launch) {S : sk_S} {d : sk_D} {p0 : Nat} {rr : Int32} {dd : sk_D} (hf : fX11_over S d p0 = some (rr, dd)) : sk_Met C l 2 yX11_over cX11_over 1 (some .int) [.ref p0] S d (some (.int rr)) S dd := by
  refine sk_Met.of (by decide) (Nat.le_of_ble_eq_true rfl) (Nat.le_refl _) (Nat.le_refl _) (fun X K0 hX => ?_)
  have K : sk_Ok X C cX11_over 1 RX11 "over" (some .int) 2 l (some (.int rr)) S dd := K0
  have R1 : X.2.2.2.2.2.2.2.2.2.2.2.1 ≤ S.1.1 ∧ X.2.2.2.2.2.2.2.2.2.2.2.2 ≤ S.1.2 := by rw [hX]; exact ⟨Nat.le_refl _, Nat.le_refl _⟩
  have R2 : S.1.1 ≤ S.1.1 ∧ S.1.2 ≤ S.1.2 := ⟨Nat.le_refl _, Nat.le_refl _⟩
  show sk_G X C 1 S d 0 [(0, .ref p0)] []
  unfold fX11_over at hf
  refine sk_aload_n K dX11_over_0 rfl 0 rfl ?_
  refine sk_iconst (0 : Int32) K dX11_over_1 (by decide) ?_
  obtain ⟨d1, e2, hf⟩ := sk_ob hf
  refine sk_putI d1 K dX11_over_2 fl_X11_1 rfl rfl rfl e2 ?_
  refine sk_aload_n K dX11_over_5 rfl 0 rfl ?_
  obtain ⟨h6, hf⟩ := sk_ib hf
  obtain ⟨d5, e4, hf⟩ := sk_ob hf
  refine sk_callV (As := []) (st := []) K dX11_over_6 cl_X11_422 h6 (sX11_laysJoined C l e4) (by decide) rfl rfl (Nat.le_of_ble_eq_true rfl) R1 R2 ?_
  refine sk_iconst (1 : Int32) K dX11_over_9 (by decide) ?_
  refine sk_aload_n K dX11_over_10 rfl 0 rfl ?_
  obtain ⟨v7, e8, hf⟩ := sk_ob hf
  refine sk_getR K dX11_over_11 fl_X11_13 rfl e8 ?_
  refine sk_iconst (2 : Int32) K dX11_over_14 (by decide) ?_
  obtain ⟨v9, e10, hf⟩ := sk_ob hf
  refine sk_ald20 K dX11_over_15 e10 ?_
  refine sk_ishl K dX11_over_16 ?_
  refine sk_iconst (1 : Int32) K dX11_over_17 (by decide) ?_
  refine sk_isub K dX11_over_18 ?_
  refine sk_aload_n K dX11_over_19 rfl 0 rfl ?_
  obtain ⟨v11, e12, hf⟩ := sk_ob hf
  refine sk_getI K dX11_over_20 fl_X11_416 rfl e12 ?_
  refine sk_iconst (-1 : Int32) K dX11_over_23 (by decide) ?_
  refine sk_ixor K dX11_over_24 ?_
  refine sk_iand K dX11_over_25 ?_
  have hR13 : ((((1 : Int32) <<< (v9 &&& 31)) - (1 : Int32)) &&& (v11 ^^^ (-1 : Int32)), d5) = (rr, dd) := Option.some.inj hf
  exact sk_iret K dX11_over_26 rfl rfl (congrArg (fun z => z.1) hR13) rfl (congrArg (fun z => z.2) hR13)
noncomputable def fX11_noSlips_L34 (S : sk_S) (d : sk_D) (p0 : Nat) (p1 : Int32) (s1 : Int32) : Option ((Int32) ⊕ (Int32)) :=
  (sk_gR S p0 10 35).bind fun v12 => (sk_lI S d v12 20 p1).bind fun v14 => if v14 ≤ s1 then (some (.inr (0 : Int32))) else ((sk_gR S p0 10 36).bind fun v18 => (sk_lJ S d v18 (((40 : Int32) * p1) + s1)).bind fun v20 => (sk_gR S p0 10 1).bind fun v22 => (sk_lI S d v22 20 (1 : Int32)).bind fun v24 => (fX11_within S d v20 (0 : Int64) (((2 : Int64) * v24.toInt64) - (1 : Int64))).bind fun v26 => if v26 = true then ((sk_gR S p0 10 1).bind fun v30 => (sk_lI S d v30 20 ((74 : Int32) + (v20.toInt32 / (2 : Int32)))).bind fun v32 => if v32 = (3 : Int32) then (some (.inl (s1 + 1))) else (some (.inr (-3 : Int32)))) else (some (.inr (-3 : Int32))))
noncomputable def fX11_noSlips (S : sk_S) (d : sk_D) (p0 : Nat) (p1 : Int32) : Option (Int32) :=
  if S.2.1 p0 = (10, 0) then ((fX11_noTray S d p0 p1).bind fun v1 => if v1 = 0 then ((sk_gR S p0 10 35).bind fun v5 => (sk_lI S d v5 20 p1).bind fun v7 => (fX11_within S d v7.toInt64 (1 : Int64) (12 : Int64)).bind fun v9 => if v9 = true then ((sk_itr (fX11_noSlips_L34 S d p0 p1) (0 : Int32)).bind fun x1 => some x1) else (some (-4 : Int32))) else (some v1)) else none
set_option maxRecDepth 100000 in
set_option maxHeartbeats 4000000 in
theorem sX11_noSlips (C : sk_C) (l : Launch) {S : sk_S} {d : sk_D} {p0 : Nat} {p1 : Int32} {rr : Int32} (hf : fX11_noSlips S d p0 p1 = some rr) : sk_Met C l 2 yX11_noSlips cX11_noSlips 6 (some .int) [.ref p0, .int p1] S d (some (.int rr)) S d := by
  refine sk_Met.of (by decide) (Nat.le_of_ble_eq_true rfl) (Nat.le_refl _) (Nat.le_refl _) (fun X K0 hX => ?_)
  have K : sk_Ok X C cX11_noSlips 6 RX11 "noSlips" (some .int) 2 l (some (.int rr)) S d := K0
  have R1 : X.2.2.2.2.2.2.2.2.2.2.2.1 ≤ S.1.1 ∧ X.2.2.2.2.2.2.2.2.2.2.2.2 ≤ S.1.2 := by rw [hX]; exact ⟨Nat.le_refl _, Nat.le_refl _⟩
  have R2 : S.1.1 ≤ S.1.1 ∧ S.1.2 ≤ S.1.2 := ⟨Nat.le_refl _, Nat.le_refl _⟩
  show sk_G X C 6 S d 0 [(0, .ref p0), (1, .int p1)] []
  unfold fX11_noSlips at hf
  refine sk_aload_n K dX11_noSlips_0 rfl 0 rfl ?_
  refine sk_iload_n K dX11_noSlips_1 rfl 1 rfl ?_
  obtain ⟨h3, hf⟩ := sk_ib hf
  obtain ⟨v1, e2, hf⟩ := sk_ob hf
  refine sk_callV (As := [.int p1]) (st := []) K dX11_noSlips_2 cl_X11_336 h3 (sX11_noTray C l e2) (by decide) rfl rfl (Nat.le_of_ble_eq_true rfl) R1 R2 ?_
  refine sk_istore_n [(2, .int v1), (0, .ref p0), (1, .int p1)] K dX11_noSlips_5 rfl (by decide) rfl ?_
  refine sk_iload_n K dX11_noSlips_6 rfl 0 rfl ?_
  refine sk_if_eq 12 K dX11_noSlips_7 (by decide) (fun h4 => ?_) (fun h4 => ?_)
  · rw [if_pos h4] at hf
    refine sk_aload_n K dX11_noSlips_12 rfl 1 rfl ?_
    obtain ⟨v5, e6, hf⟩ := sk_ob hf
    refine sk_getR K dX11_noSlips_13 fl_X11_78 rfl e6 ?_
    refine sk_iload_n K dX11_noSlips_16 rfl 2 rfl ?_
    obtain ⟨v7, e8, hf⟩ := sk_ob hf
    refine sk_ald20 K dX11_noSlips_17 e8 ?_
    refine sk_i2l K dX11_noSlips_18 ?_
    refine sk_lconst (1 : Int64) K dX11_noSlips_19 (by decide) ?_
    refine sk_ldc2 K dX11_noSlips_20 qw_1874 ?_
    obtain ⟨v9, e10, hf⟩ := sk_ob hf
    refine sk_callS (As := [.long v7.toInt64, .long (1 : Int64), .long (12 : Int64)]) (st := []) K dX11_noSlips_23 cl_X11_150 (sX11_within C l e10) (by decide) rfl rfl (Nat.le_of_ble_eq_true rfl) R1 R2 ?_
    refine sk_ifneB 32 K dX11_noSlips_26 (by decide) (fun h11 => ?_) (fun h11 => ?_)
    · rw [if_pos h11] at hf
      refine sk_iconst (0 : Int32) K dX11_noSlips_32 (by decide) ?_
      refine sk_istore_n [(3, .int (0 : Int32)), (2, .int v1), (0, .ref p0), (1, .int p1)] K dX11_noSlips_33 rfl (by decide) rfl ?_
      obtain ⟨x1, he1, hf⟩ := sk_ob hf
      have hret1 : ∀ r, r = x1 → r = rr := by
        intro r hr
        subst hr
        exact Option.some.inj hf
      refine sk_sub [(0, .ref p0), (1, .int p1), (3, .int (0 : Int32))] [2, 3, 0] rfl ?_
      refine sk_loop (fun s1 => sk_G X C 6 S d 34 [(0, .ref p0), (1, .int p1), (3, .int s1)] []) he1 (fun s1 o1 hf ih1 hx1 => ?_)
      unfold fX11_noSlips_L34 at hf
      refine sk_iload_n K dX11_noSlips_34 rfl 2 rfl ?_
      refine sk_aload_n K dX11_noSlips_35 rfl 0 rfl ?_
      obtain ⟨v12, e13, hf⟩ := sk_ob hf
      refine sk_getR K dX11_noSlips_36 fl_X11_78 rfl e13 ?_
      refine sk_iload_n K dX11_noSlips_39 rfl 1 rfl ?_
      obtain ⟨v14, e15, hf⟩ := sk_ob hf
      refine sk_ald20 K dX11_noSlips_40 e15 ?_
      refine sk_icmp_ge 105 K dX11_noSlips_41 (by decide) (fun h16 => ?_) (fun h16 => ?_)
      · rw [if_pos h16] at hf
        refine sk_iconst (0 : Int32) K dX11_noSlips_105 (by decide) ?_
        have hR17 : (0 : Int32) = rr := hret1 _ (hx1 _ (Option.some.inj hf).symm)
        exact sk_iret K dX11_noSlips_106 rfl rfl hR17 rfl rfl
      · rw [if_neg h16] at hf
        refine sk_aload_n K dX11_noSlips_44 rfl 0 rfl ?_
        obtain ⟨v18, e19, hf⟩ := sk_ob hf
        refine sk_getR K dX11_noSlips_45 fl_X11_81 rfl e19 ?_
        refine sk_bipush (40 : Int32) K dX11_noSlips_48 (by decide) ?_
        refine sk_iload_n K dX11_noSlips_50 rfl 1 rfl ?_
        refine sk_imul K dX11_noSlips_51 ?_
        refine sk_iload_n K dX11_noSlips_52 rfl 2 rfl ?_
        refine sk_iadd K dX11_noSlips_53 ?_
        obtain ⟨v20, e21, hf⟩ := sk_ob hf
        refine sk_ald21 K dX11_noSlips_54 e21 ?_
        refine sk_lstore [(4, .long v20), (0, .ref p0), (1, .int p1), (3, .int s1)] K dX11_noSlips_55 (by decide) rfl ?_
        refine sk_lload K dX11_noSlips_57 0 rfl ?_
        refine sk_lconst (0 : Int64) K dX11_noSlips_59 (by decide) ?_
        refine sk_ldc2 K dX11_noSlips_60 qw_1875 ?_
        refine sk_aload_n K dX11_noSlips_63 rfl 1 rfl ?_
        obtain ⟨v22, e23, hf⟩ := sk_ob hf
        refine sk_getR K dX11_noSlips_64 fl_X11_13 rfl e23 ?_
        refine sk_iconst (1 : Int32) K dX11_noSlips_67 (by decide) ?_
        obtain ⟨v24, e25, hf⟩ := sk_ob hf
        refine sk_ald20 K dX11_noSlips_68 e25 ?_
        refine sk_i2l K dX11_noSlips_69 ?_
        refine sk_lmul K dX11_noSlips_70 ?_
        refine sk_lconst (1 : Int64) K dX11_noSlips_71 (by decide) ?_
        refine sk_lsub K dX11_noSlips_72 ?_
        obtain ⟨v26, e27, hf⟩ := sk_ob hf
        refine sk_callS (As := [.long v20, .long (0 : Int64), .long (((2 : Int64) * v24.toInt64) - (1 : Int64))]) (st := []) K dX11_noSlips_73 cl_X11_150 (sX11_within C l e27) (by decide) rfl rfl (Nat.le_of_ble_eq_true rfl) R1 R2 ?_
        refine sk_ifeqB 96 K dX11_noSlips_76 (by decide) (fun h28 => ?_) (fun h28 => ?_)
        · rw [if_neg h28] at hf
          refine sk_bipush (-3 : Int32) K dX11_noSlips_96 (by decide) ?_
          have hR29 : (-3 : Int32) = rr := hret1 _ (hx1 _ (Option.some.inj hf).symm)
          exact sk_iret K dX11_noSlips_98 rfl rfl hR29 rfl rfl
        · rw [if_pos h28] at hf
          refine sk_aload_n K dX11_noSlips_79 rfl 1 rfl ?_
          obtain ⟨v30, e31, hf⟩ := sk_ob hf
          refine sk_getR K dX11_noSlips_80 fl_X11_13 rfl e31 ?_
          refine sk_bipush (74 : Int32) K dX11_noSlips_83 (by decide) ?_
          refine sk_lload K dX11_noSlips_85 0 rfl ?_
          refine sk_l2i K dX11_noSlips_87 ?_
          refine sk_iconst (2 : Int32) K dX11_noSlips_88 (by decide) ?_
          refine sk_idiv K dX11_noSlips_89 (by decide) ?_
          refine sk_iadd K dX11_noSlips_90 ?_
          obtain ⟨v32, e33, hf⟩ := sk_ob hf
          refine sk_ald20 K dX11_noSlips_91 e33 ?_
          refine sk_iconst (3 : Int32) K dX11_noSlips_92 (by decide) ?_
          refine sk_icmp_eq 99 K dX11_noSlips_93 (by decide) (fun h34 => ?_) (fun h34 => ?_)
          · rw [if_pos h34] at hf
            refine sk_iinc (s1 + 1) [(3, .int (s1 + 1)), (4, .long v20), (0, .ref p0), (1, .int p1)] K dX11_noSlips_99 3 rfl rfl (by decide) rfl ?_
            refine sk_goto 34 K dX11_noSlips_102 (by decide) ?_
            refine sk_sub [(0, .ref p0), (1, .int p1), (3, .int (s1 + 1))] [2, 3, 0] rfl ?_
            have h9 := ih1 _ (Option.some.inj hf).symm
            exact h9
          · rw [if_neg h34] at hf
            refine sk_bipush (-3 : Int32) K dX11_noSlips_96 (by decide) ?_
            have hR35 : (-3 : Int32) = rr := hret1 _ (hx1 _ (Option.some.inj hf).symm)
            exact sk_iret K dX11_noSlips_98 rfl rfl hR35 rfl rfl
    · rw [if_neg h11] at hf
      refine sk_bipush (-4 : Int32) K dX11_noSlips_29 (by decide) ?_
      have hR36 : (-4 : Int32) = rr := Option.some.inj hf
      exact sk_iret K dX11_noSlips_31 rfl rfl hR36 rfl rfl
  · rw [if_neg h4] at hf
    refine sk_iload_n K dX11_noSlips_10 rfl 0 rfl ?_
    have hR37 : v1 = rr := Option.some.inj hf
    exact sk_iret K dX11_noSlips_11 rfl rfl hR37 rfl rfl
noncomputable def fX11_slipsOf_L16 (S : sk_S) (p0 : Nat) (p1 : Int32) (t1_a : Int32) (s2 : Int32 × Int32 × sk_D) : Option ((Int32 × Int32 × sk_D) ⊕ (Int32 × sk_D)) :=
  (sk_gR S p0 10 35).bind fun v4 => (sk_lI S s2.2.2 v4 20 p1).bind fun v6 => if v6 ≤ s2.2.1 then (some (.inr (s2.1, s2.2.2))) else ((sk_gR S p0 10 36).bind fun v9 => (sk_lJ S s2.2.2 v9 (((40 : Int32) * p1) + s2.2.1)).bind fun v11 => if S.2.1 p0 = (10, 0) then ((fX11_standNow S s2.2.2 p0).bind fun v13 => if S.2.1 p0 = (10, 0) then ((fX11_passesBy S s2.2.2 p0 v13 (v11.toInt32 / (2 : Int32)) t1_a).bind fun b20 => if (v11.toInt32 - v11.toInt32 / (2 : Int32) * (2 : Int32)) = (1 : Int32) then (if (sk_b b20.1) = (1 : Int32) then (some (.inl (s2.1 &&& (1 : Int32), s2.2.1 + 1, b20.2))) else (some (.inl (s2.1 &&& (0 : Int32), s2.2.1 + 1, b20.2)))) else (if (sk_b b20.1) = (0 : Int32) then (some (.inl (s2.1 &&& (1 : Int32), s2.2.1 + 1, b20.2))) else (some (.inl (s2.1 &&& (0 : Int32), s2.2.1 + 1, b20.2))))) else none) else none)
noncomputable def fX11_slipsOf_L4 (S : sk_S) (p0 : Nat) (p1 : Int32) (s1 : Int32 × Int32 × sk_D) : Option ((Int32 × Int32 × sk_D) ⊕ (Int32 × sk_D)) :=
  if (10 : Int32) ≤ s1.2.1 then (some (.inr (s1.1, s1.2.2))) else ((sk_itr (fX11_slipsOf_L16 S p0 p1 s1.2.1) ((1 : Int32), (0 : Int32), s1.2.2)).bind fun y2 => if y2.1 = 0 then (some (.inl (s1.1 ||| (0 : Int32), s1.2.1 + 1, y2.2))) else (some (.inl (s1.1 ||| ((1 : Int32) <<< (s1.2.1 &&& 31)), s1.2.1 + 1, y2.2))))
noncomputable def fX11_slipsOf (S : sk_S) (d : sk_D) (p0 : Nat) (p1 : Int32) : Option (Int32 × sk_D) :=
  (sk_itr (fX11_slipsOf_L4 S p0 p1) ((0 : Int32), (0 : Int32), d)).bind fun x1 => some x1
set_option maxRecDepth 100000 in
set_option maxHeartbeats 4000000 in
theorem sX11_slipsOf (C : sk_C) (l : Launch) {S : sk_S} {d : sk_D} {p0 : Nat} {p1 : Int32} {rr : Int32} {dd : sk_D} (hf : fX11_slipsOf S d p0 p1 = some (rr, dd)) : sk_Met C l 6 yX11_slipsOf cX11_slipsOf 7 (some .int) [.ref p0, .int p1] S d (some (.int rr)) S dd := by
  refine sk_Met.of (by decide) (Nat.le_of_ble_eq_true rfl) (Nat.le_refl _) (Nat.le_refl _) (fun X K0 hX => ?_)
  have K : sk_Ok X C cX11_slipsOf 7 RX11 "slipsOf" (some .int) 6 l (some (.int rr)) S dd := K0
  have R1 : X.2.2.2.2.2.2.2.2.2.2.2.1 ≤ S.1.1 ∧ X.2.2.2.2.2.2.2.2.2.2.2.2 ≤ S.1.2 := by rw [hX]; exact ⟨Nat.le_refl _, Nat.le_refl _⟩
  have R2 : S.1.1 ≤ S.1.1 ∧ S.1.2 ≤ S.1.2 := ⟨Nat.le_refl _, Nat.le_refl _⟩
  show sk_G X C 7 S d 0 [(0, .ref p0), (1, .int p1)] []
  unfold fX11_slipsOf at hf
  refine sk_iconst (0 : Int32) K dX11_slipsOf_0 (by decide) ?_
  refine sk_istore_n [(2, .int (0 : Int32)), (0, .ref p0), (1, .int p1)] K dX11_slipsOf_1 rfl (by decide) rfl ?_
  refine sk_iconst (0 : Int32) K dX11_slipsOf_2 (by decide) ?_
  refine sk_istore_n [(3, .int (0 : Int32)), (2, .int (0 : Int32)), (0, .ref p0), (1, .int p1)] K dX11_slipsOf_3 rfl (by decide) rfl ?_
  obtain ⟨x1, he1, hf⟩ := sk_ob hf
  have hret1 : ∀ r, r = x1 → r = (rr, dd) := by
    intro r hr
    subst hr
    exact Option.some.inj hf
  refine sk_sub [(0, .ref p0), (1, .int p1), (2, .int (0 : Int32)), (3, .int (0 : Int32))] [2, 3, 1, 0] rfl ?_
  refine sk_loop (fun s1 => sk_G X C 7 S s1.2.2 4 [(0, .ref p0), (1, .int p1), (2, .int s1.1), (3, .int s1.2.1)] []) he1 (fun s1 o1 hf ih1 hx1 => ?_)
  unfold fX11_slipsOf_L4 at hf
  refine sk_iload_n K dX11_slipsOf_4 rfl 3 rfl ?_
  refine sk_bipush (10 : Int32) K dX11_slipsOf_5 (by decide) ?_
  refine sk_icmp_ge 108 K dX11_slipsOf_7 (by decide) (fun h1 => ?_) (fun h1 => ?_)
  · rw [if_pos h1] at hf
    refine sk_iload_n K dX11_slipsOf_108 rfl 2 rfl ?_
    have hR2 : (s1.1, s1.2.2) = (rr, dd) := hret1 _ (hx1 _ (Option.some.inj hf).symm)
    exact sk_iret K dX11_slipsOf_109 rfl rfl (congrArg (fun z => z.1) hR2) rfl (congrArg (fun z => z.2) hR2)
  · rw [if_neg h1] at hf
    refine sk_iconst (1 : Int32) K dX11_slipsOf_10 (by decide) ?_
    refine sk_istore [(4, .int (1 : Int32)), (0, .ref p0), (1, .int p1), (2, .int s1.1), (3, .int s1.2.1)] K dX11_slipsOf_11 (by decide) rfl ?_
    refine sk_iconst (0 : Int32) K dX11_slipsOf_13 (by decide) ?_
    refine sk_istore [(5, .int (0 : Int32)), (4, .int (1 : Int32)), (0, .ref p0), (1, .int p1), (2, .int s1.1), (3, .int s1.2.1)] K dX11_slipsOf_14 (by decide) rfl ?_
    obtain ⟨x2, he2, hf⟩ := sk_ob hf
    have rest2 : ∀ y2, y2 = x2 → sk_G X C 7 S y2.2 87 [(0, .ref p0), (1, .int p1), (2, .int s1.1), (3, .int s1.2.1), (4, .int y2.1)] [] := by
      intro y2 hy
      subst hy
      refine sk_iload_n K dX11_slipsOf_87 rfl 2 rfl ?_
      refine sk_iload K dX11_slipsOf_88 4 rfl ?_
      refine sk_if_eq 99 K dX11_slipsOf_90 (by decide) (fun h3 => ?_) (fun h3 => ?_)
      · rw [if_pos h3] at hf
        refine sk_iconst (0 : Int32) K dX11_slipsOf_99 (by decide) ?_
        refine sk_ior K dX11_slipsOf_100 ?_
        refine sk_istore_n [(2, .int (s1.1 ||| (0 : Int32))), (0, .ref p0), (1, .int p1), (3, .int s1.2.1), (4, .int y2.1)] K dX11_slipsOf_101 rfl (by decide) rfl ?_
        refine sk_iinc (s1.2.1 + 1) [(3, .int (s1.2.1 + 1)), (2, .int (s1.1 ||| (0 : Int32))), (0, .ref p0), (1, .int p1), (4, .int y2.1)] K dX11_slipsOf_102 3 rfl rfl (by decide) rfl ?_
        refine sk_goto 4 K dX11_slipsOf_105 (by decide) ?_
        refine sk_sub [(0, .ref p0), (1, .int p1), (2, .int (s1.1 ||| (0 : Int32))), (3, .int (s1.2.1 + 1))] [2, 3, 1, 0] rfl ?_
        have h9 := ih1 _ (Option.some.inj hf).symm
        exact h9
      · rw [if_neg h3] at hf
        refine sk_iconst (1 : Int32) K dX11_slipsOf_93 (by decide) ?_
        refine sk_iload_n K dX11_slipsOf_94 rfl 3 rfl ?_
        refine sk_ishl K dX11_slipsOf_95 ?_
        refine sk_goto 100 K dX11_slipsOf_96 (by decide) ?_
        refine sk_ior K dX11_slipsOf_100 ?_
        refine sk_istore_n [(2, .int (s1.1 ||| ((1 : Int32) <<< (s1.2.1 &&& 31)))), (0, .ref p0), (1, .int p1), (3, .int s1.2.1), (4, .int y2.1)] K dX11_slipsOf_101 rfl (by decide) rfl ?_
        refine sk_iinc (s1.2.1 + 1) [(3, .int (s1.2.1 + 1)), (2, .int (s1.1 ||| ((1 : Int32) <<< (s1.2.1 &&& 31)))), (0, .ref p0), (1, .int p1), (4, .int y2.1)] K dX11_slipsOf_102 3 rfl rfl (by decide) rfl ?_
        refine sk_goto 4 K dX11_slipsOf_105 (by decide) ?_
        refine sk_sub [(0, .ref p0), (1, .int p1), (2, .int (s1.1 ||| ((1 : Int32) <<< (s1.2.1 &&& 31)))), (3, .int (s1.2.1 + 1))] [2, 3, 1, 0] rfl ?_
        have h9 := ih1 _ (Option.some.inj hf).symm
        exact h9
    refine sk_sub [(0, .ref p0), (1, .int p1), (2, .int s1.1), (3, .int s1.2.1), (4, .int (1 : Int32)), (5, .int (0 : Int32))] [2, 3, 4, 5, 1, 0] rfl ?_
    refine sk_loop (fun s2 => sk_G X C 7 S s2.2.2 16 [(0, .ref p0), (1, .int p1), (2, .int s1.1), (3, .int s1.2.1), (4, .int s2.1), (5, .int s2.2.1)] []) he2 (fun s2 o2 hf ih2 hx2 => ?_)
    unfold fX11_slipsOf_L16 at hf
    refine sk_iload K dX11_slipsOf_16 5 rfl ?_
    refine sk_aload_n K dX11_slipsOf_18 rfl 0 rfl ?_
    obtain ⟨v4, e5, hf⟩ := sk_ob hf
    refine sk_getR K dX11_slipsOf_19 fl_X11_78 rfl e5 ?_
    refine sk_iload_n K dX11_slipsOf_22 rfl 1 rfl ?_
    obtain ⟨v6, e7, hf⟩ := sk_ob hf
    refine sk_ald20 K dX11_slipsOf_23 e7 ?_
    refine sk_icmp_ge 87 K dX11_slipsOf_24 (by decide) (fun h8 => ?_) (fun h8 => ?_)
    · rw [if_pos h8] at hf
      refine sk_sub [(0, .ref p0), (1, .int p1), (2, .int s1.1), (3, .int s1.2.1), (4, .int s2.1)] [0, 1, 2, 3, 4] rfl ?_
      have h9 := rest2 _ (hx2 _ (Option.some.inj hf).symm)
      exact h9
    · rw [if_neg h8] at hf
      refine sk_aload_n K dX11_slipsOf_27 rfl 0 rfl ?_
      obtain ⟨v9, e10, hf⟩ := sk_ob hf
      refine sk_getR K dX11_slipsOf_28 fl_X11_81 rfl e10 ?_
      refine sk_bipush (40 : Int32) K dX11_slipsOf_31 (by decide) ?_
      refine sk_iload_n K dX11_slipsOf_33 rfl 1 rfl ?_
      refine sk_imul K dX11_slipsOf_34 ?_
      refine sk_iload K dX11_slipsOf_35 5 rfl ?_
      refine sk_iadd K dX11_slipsOf_37 ?_
      obtain ⟨v11, e12, hf⟩ := sk_ob hf
      refine sk_ald21 K dX11_slipsOf_38 e12 ?_
      refine sk_l2i K dX11_slipsOf_39 ?_
      refine sk_istore [(6, .int v11.toInt32), (0, .ref p0), (1, .int p1), (2, .int s1.1), (3, .int s1.2.1), (4, .int s2.1), (5, .int s2.2.1)] K dX11_slipsOf_40 (by decide) rfl ?_
      refine sk_iload K dX11_slipsOf_42 5 rfl ?_
      refine sk_aload_n K dX11_slipsOf_44 rfl 1 rfl ?_
      refine sk_aload_n K dX11_slipsOf_45 rfl 1 rfl ?_
      obtain ⟨h15, hf⟩ := sk_ib hf
      obtain ⟨v13, e14, hf⟩ := sk_ob hf
      refine sk_callV (As := []) (st := [.ref p0, .int s2.1]) K dX11_slipsOf_46 cl_X11_270 h15 (sX11_standNow C l e14) (by decide) rfl rfl (Nat.le_of_ble_eq_true rfl) R1 R2 ?_
      refine sk_iload K dX11_slipsOf_49 0 rfl ?_
      refine sk_iconst (2 : Int32) K dX11_slipsOf_51 (by decide) ?_
      refine sk_idiv K dX11_slipsOf_52 (by decide) ?_
      refine sk_iload_n K dX11_slipsOf_53 rfl 4 rfl ?_
      obtain ⟨h19, hf⟩ := sk_ib hf
      obtain ⟨⟨v16, d18⟩, e17, hf⟩ := sk_ob hf
      try dsimp only at hf
      refine sk_callV (As := [.int v13, .int (v11.toInt32 / (2 : Int32)), .int s1.2.1]) (st := [.int s2.1]) K dX11_slipsOf_54 cl_X11_259 h19 (sX11_passesBy C l e17) (by decide) rfl rfl (Nat.le_of_ble_eq_true rfl) R1 R2 ?_
      refine sk_iload K dX11_slipsOf_57 0 rfl ?_
      refine sk_iconst (2 : Int32) K dX11_slipsOf_59 (by decide) ?_
      refine sk_irem K dX11_slipsOf_60 (by decide) ?_
      refine sk_iconst (1 : Int32) K dX11_slipsOf_61 (by decide) ?_
      refine sk_icmp_ne 69 K dX11_slipsOf_62 (by decide) (fun h21 => ?_) (fun h21 => ?_)
      · rw [if_neg h21] at hf
        refine sk_iconst (0 : Int32) K dX11_slipsOf_69 (by decide) ?_
        refine sk_icmp_ne 77 K dX11_slipsOf_70 (by decide) (fun h22 => ?_) (fun h22 => ?_)
        · rw [if_neg h22] at hf
          refine sk_iconst (0 : Int32) K dX11_slipsOf_77 (by decide) ?_
          refine sk_iand K dX11_slipsOf_78 ?_
          refine sk_istore [(4, .int (s2.1 &&& (0 : Int32))), (6, .int v11.toInt32), (0, .ref p0), (1, .int p1), (2, .int s1.1), (3, .int s1.2.1), (5, .int s2.2.1)] K dX11_slipsOf_79 (by decide) rfl ?_
          refine sk_iinc (s2.2.1 + 1) [(5, .int (s2.2.1 + 1)), (4, .int (s2.1 &&& (0 : Int32))), (6, .int v11.toInt32), (0, .ref p0), (1, .int p1), (2, .int s1.1), (3, .int s1.2.1)] K dX11_slipsOf_81 6 rfl rfl (by decide) rfl ?_
          refine sk_goto 16 K dX11_slipsOf_84 (by decide) ?_
          refine sk_sub [(0, .ref p0), (1, .int p1), (2, .int s1.1), (3, .int s1.2.1), (4, .int (s2.1 &&& (0 : Int32))), (5, .int (s2.2.1 + 1))] [3, 4, 5, 6, 1, 0] rfl ?_
          have h9 := ih2 _ (Option.some.inj hf).symm
          exact h9
        · rw [if_pos h22] at hf
          refine sk_iconst (1 : Int32) K dX11_slipsOf_73 (by decide) ?_
          refine sk_goto 78 K dX11_slipsOf_74 (by decide) ?_
          refine sk_iand K dX11_slipsOf_78 ?_
          refine sk_istore [(4, .int (s2.1 &&& (1 : Int32))), (6, .int v11.toInt32), (0, .ref p0), (1, .int p1), (2, .int s1.1), (3, .int s1.2.1), (5, .int s2.2.1)] K dX11_slipsOf_79 (by decide) rfl ?_
          refine sk_iinc (s2.2.1 + 1) [(5, .int (s2.2.1 + 1)), (4, .int (s2.1 &&& (1 : Int32))), (6, .int v11.toInt32), (0, .ref p0), (1, .int p1), (2, .int s1.1), (3, .int s1.2.1)] K dX11_slipsOf_81 6 rfl rfl (by decide) rfl ?_
          refine sk_goto 16 K dX11_slipsOf_84 (by decide) ?_
          refine sk_sub [(0, .ref p0), (1, .int p1), (2, .int s1.1), (3, .int s1.2.1), (4, .int (s2.1 &&& (1 : Int32))), (5, .int (s2.2.1 + 1))] [3, 4, 5, 6, 1, 0] rfl ?_
          have h9 := ih2 _ (Option.some.inj hf).symm
          exact h9
      · rw [if_pos h21] at hf
        refine sk_iconst (1 : Int32) K dX11_slipsOf_65 (by decide) ?_
        refine sk_goto 70 K dX11_slipsOf_66 (by decide) ?_
        refine sk_icmp_ne 77 K dX11_slipsOf_70 (by decide) (fun h23 => ?_) (fun h23 => ?_)
        · rw [if_neg h23] at hf
          refine sk_iconst (0 : Int32) K dX11_slipsOf_77 (by decide) ?_
          refine sk_iand K dX11_slipsOf_78 ?_
          refine sk_istore [(4, .int (s2.1 &&& (0 : Int32))), (6, .int v11.toInt32), (0, .ref p0), (1, .int p1), (2, .int s1.1), (3, .int s1.2.1), (5, .int s2.2.1)] K dX11_slipsOf_79 (by decide) rfl ?_
          refine sk_iinc (s2.2.1 + 1) [(5, .int (s2.2.1 + 1)), (4, .int (s2.1 &&& (0 : Int32))), (6, .int v11.toInt32), (0, .ref p0), (1, .int p1), (2, .int s1.1), (3, .int s1.2.1)] K dX11_slipsOf_81 6 rfl rfl (by decide) rfl ?_
          refine sk_goto 16 K dX11_slipsOf_84 (by decide) ?_
          refine sk_sub [(0, .ref p0), (1, .int p1), (2, .int s1.1), (3, .int s1.2.1), (4, .int (s2.1 &&& (0 : Int32))), (5, .int (s2.2.1 + 1))] [3, 4, 5, 6, 1, 0] rfl ?_
          have h9 := ih2 _ (Option.some.inj hf).symm
          exact h9
        · rw [if_pos h23] at hf
          refine sk_iconst (1 : Int32) K dX11_slipsOf_73 (by decide) ?_
          refine sk_goto 78 K dX11_slipsOf_74 (by decide) ?_
          refine sk_iand K dX11_slipsOf_78 ?_
          refine sk_istore [(4, .int (s2.1 &&& (1 : Int32))), (6, .int v11.toInt32), (0, .ref p0), (1, .int p1), (2, .int s1.1), (3, .int s1.2.1), (5, .int s2.2.1)] K dX11_slipsOf_79 (by decide) rfl ?_
          refine sk_iinc (s2.2.1 + 1) [(5, .int (s2.2.1 + 1)), (4, .int (s2.1 &&& (1 : Int32))), (6, .int v11.toInt32), (0, .ref p0), (1, .int p1), (2, .int s1.1), (3, .int s1.2.1)] K dX11_slipsOf_81 6 rfl rfl (by decide) rfl ?_
          refine sk_goto 16 K dX11_slipsOf_84 (by decide) ?_
          refine sk_sub [(0, .ref p0), (1, .int p1), (2, .int s1.1), (3, .int s1.2.1), (4, .int (s2.1 &&& (1 : Int32))), (5, .int (s2.2.1 + 1))] [3, 4, 5, 6, 1, 0] rfl ?_
          have h9 := ih2 _ (Option.some.inj hf).symm
          exact h9
noncomputable def fX11_slips (S : sk_S) (d : sk_D) (p0 : Nat) (p1 : Int32) : Option (Int32 × sk_D) :=
  (sk_pI S d p0 10 0 (0 : Int32)).bind fun d1 => if S.2.1 p0 = (10, 0) then ((fX11_noSlips S d1 p0 p1).bind fun v3 => if v3 = 0 then (if S.2.1 p0 = (10, 0) then ((fX11_slipsOf S d1 p0 p1).bind fun b11 => some (b11.1, b11.2)) else none) else (some (v3, d1))) else none
set_option maxRecDepth 100000 in
set_option maxHeartbeats 4000000 in
theorem sX11_slips (C : sk_C) (l : Launch) {S : sk_S} {d : sk_D} {p0 : Nat} {p1 : Int32} {rr : Int32} {dd : sk_D} (hf : fX11_slips S d p0 p1 = some (rr, dd)) : sk_Met C l 7 yX11_slips cX11_slips 3 (some .int) [.ref p0, .int p1] S d (some (.int rr)) S dd := by
  refine sk_Met.of (by decide) (Nat.le_of_ble_eq_true rfl) (Nat.le_refl _) (Nat.le_refl _) (fun X K0 hX => ?_)
  have K : sk_Ok X C cX11_slips 3 RX11 "slips" (some .int) 7 l (some (.int rr)) S dd := K0
  have R1 : X.2.2.2.2.2.2.2.2.2.2.2.1 ≤ S.1.1 ∧ X.2.2.2.2.2.2.2.2.2.2.2.2 ≤ S.1.2 := by rw [hX]; exact ⟨Nat.le_refl _, Nat.le_refl _⟩
  have R2 : S.1.1 ≤ S.1.1 ∧ S.1.2 ≤ S.1.2 := ⟨Nat.le_refl _, Nat.le_refl _⟩
  show sk_G X C 3 S d 0 [(0, .ref p0), (1, .int p1)] []
  unfold fX11_slips at hf
  refine sk_aload_n K dX11_slips_0 rfl 0 rfl ?_
  refine sk_iconst (0 : Int32) K dX11_slips_1 (by decide) ?_
  obtain ⟨d1, e2, hf⟩ := sk_ob hf
  refine sk_putI d1 K dX11_slips_2 fl_X11_1 rfl rfl rfl e2 ?_
  refine sk_aload_n K dX11_slips_5 rfl 0 rfl ?_
  refine sk_iload_n K dX11_slips_6 rfl 1 rfl ?_
  obtain ⟨h5, hf⟩ := sk_ib hf
  obtain ⟨v3, e4, hf⟩ := sk_ob hf
  refine sk_callV (As := [.int p1]) (st := []) K dX11_slips_7 cl_X11_429 h5 (sX11_noSlips C l e4) (by decide) rfl rfl (Nat.le_of_ble_eq_true rfl) R1 R2 ?_
  refine sk_istore_n [(2, .int v3), (0, .ref p0), (1, .int p1)] K dX11_slips_10 rfl (by decide) rfl ?_
  refine sk_iload_n K dX11_slips_11 rfl 0 rfl ?_
  refine sk_if_eq 19 K dX11_slips_12 (by decide) (fun h6 => ?_) (fun h6 => ?_)
  · rw [if_pos h6] at hf
    refine sk_aload_n K dX11_slips_19 rfl 1 rfl ?_
    refine sk_iload_n K dX11_slips_20 rfl 2 rfl ?_
    obtain ⟨h10, hf⟩ := sk_ib hf
    obtain ⟨⟨v7, d9⟩, e8, hf⟩ := sk_ob hf
    try dsimp only at hf
    refine sk_callV (As := [.int p1]) (st := []) K dX11_slips_21 cl_X11_432 h10 (sX11_slipsOf C l e8) (by decide) rfl rfl (Nat.le_of_ble_eq_true rfl) R1 R2 ?_
    have hR12 : (v7, d9) = (rr, dd) := Option.some.inj hf
    exact sk_iret K dX11_slips_24 rfl rfl (congrArg (fun z => z.1) hR12) rfl (congrArg (fun z => z.2) hR12)
  · rw [if_neg h6] at hf
    refine sk_iload_n K dX11_slips_15 rfl 0 rfl ?_
    refine sk_goto 24 K dX11_slips_16 (by decide) ?_
    have hR13 : (v3, d1) = (rr, dd) := Option.some.inj hf
    exact sk_iret K dX11_slips_24 rfl rfl (congrArg (fun z => z.1) hR13) rfl (congrArg (fun z => z.2) hR13)
noncomputable def fX11_attempt_L70 (S : sk_S) (p0 : Nat) (t1_a : Int32) (v7 : Int32) (s2 : Int32 × Int32 × sk_D) : Option ((Int32 × Int32 × sk_D) ⊕ (Int32 × sk_D)) :=
  if (10 : Int32) ≤ s2.2.1 then (some (.inr (s2.1, s2.2.2))) else ((fX11_isIn S s2.2.2 v7.toInt64 s2.2.1).bind fun v33 => if v33 = true then (if S.2.1 p0 = (10, 0) then ((fX11_standNow S s2.2.2 p0).bind fun v36 => if S.2.1 p0 = (10, 0) then ((fX11_passesBy S s2.2.2 p0 v36 t1_a s2.2.1).bind fun b43 => if b43.1 = true then (some (.inl (s2.1 + (1 : Int32), s2.2.1 + 1, b43.2))) else (some (.inl (s2.1 + (0 : Int32), s2.2.1 + 1, b43.2)))) else none) else none) else (some (.inl (s2.1 + (0 : Int32), s2.2.1 + 1, s2.2.2))))
noncomputable def fX11_attempt_L32 (S : sk_S) (p0 : Nat) (v7 : Int32) (s1 : Int32 × Int32 × Int32 × sk_D) : Option ((Int32 × Int32 × Int32 × sk_D) ⊕ (Int32 × sk_D)) :=
  (sk_gR S p0 10 1).bind fun v12 => (sk_lI S s1.2.2.2 v12 20 (1 : Int32)).bind fun v14 => if v14 ≤ s1.2.2.1 then (some (.inr (s1.1, s1.2.2.2))) else (if v7 = 0 then (some (.inr (s1.1, s1.2.2.2))) else ((sk_gR S p0 10 1).bind fun v20 => (sk_lI S s1.2.2.2 v20 20 ((74 : Int32) + s1.2.2.1)).bind fun v22 => if v22 = (3 : Int32) then ((sk_itr (fX11_attempt_L70 S p0 s1.2.2.1 v7) ((0 : Int32), (0 : Int32), s1.2.2.2)).bind fun y2 => (fX11_bitsOf S y2.2 v7).bind fun v25 => if (v25 - y2.1) ≤ y2.1 then ((fX11_bitsOf S y2.2 v7).bind fun v28 => if s1.2.1 < (v28 - y2.1) then (some (.inl (s1.2.2.1, v28 - y2.1, s1.2.2.1 + 1, y2.2))) else (some (.inl (s1.1, s1.2.1, s1.2.2.1 + 1, y2.2)))) else (if s1.2.1 < y2.1 then (some (.inl (s1.2.2.1, y2.1, s1.2.2.1 + 1, y2.2))) else (some (.inl (s1.1, s1.2.1, s1.2.2.1 + 1, y2.2))))) else (some (.inl (s1.1, s1.2.1, s1.2.2.1 + 1, s1.2.2.2)))))
noncomputable def fX11_attempt (S : sk_S) (d : sk_D) (p0 : Nat) (p1 : Int32) : Option (Int32 × sk_D) :=
  (sk_pI S d p0 10 0 (0 : Int32)).bind fun d1 => if S.2.1 p0 = (10, 0) then ((fX11_noSlips S d1 p0 p1).bind fun v3 => if v3 = 0 then (if S.2.1 p0 = (10, 0) then ((fX11_slipsOf S d1 p0 p1).bind fun b11 => (sk_itr (fX11_attempt_L32 S p0 b11.1) ((-1 : Int32), (-1 : Int32), (0 : Int32), b11.2)).bind fun x1 => some x1) else none) else (some (v3, d1))) else none
set_option maxRecDepth 100000 in
set_option maxHeartbeats 4000000 in
theorem sX11_attempt (C : sk_C) (l : Launch) {S : sk_S} {d : sk_D} {p0 : Nat} {p1 : Int32} {rr : Int32} {dd : sk_D} (hf : fX11_attempt S d p0 p1 = some (rr, dd)) : sk_Met C l 7 yX11_attempt cX11_attempt 9 (some .int) [.ref p0, .int p1] S d (some (.int rr)) S dd := by
  refine sk_Met.of (by decide) (Nat.le_of_ble_eq_true rfl) (Nat.le_refl _) (Nat.le_refl _) (fun X K0 hX => ?_)
  have K : sk_Ok X C cX11_attempt 9 RX11 "attempt" (some .int) 7 l (some (.int rr)) S dd := K0
  have R1 : X.2.2.2.2.2.2.2.2.2.2.2.1 ≤ S.1.1 ∧ X.2.2.2.2.2.2.2.2.2.2.2.2 ≤ S.1.2 := by rw [hX]; exact ⟨Nat.le_refl _, Nat.le_refl _⟩
  have R2 : S.1.1 ≤ S.1.1 ∧ S.1.2 ≤ S.1.2 := ⟨Nat.le_refl _, Nat.le_refl _⟩
  show sk_G X C 9 S d 0 [(0, .ref p0), (1, .int p1)] []
  unfold fX11_attempt at hf
  refine sk_aload_n K dX11_attempt_0 rfl 0 rfl ?_
  refine sk_iconst (0 : Int32) K dX11_attempt_1 (by decide) ?_
  obtain ⟨d1, e2, hf⟩ := sk_ob hf
  refine sk_putI d1 K dX11_attempt_2 fl_X11_1 rfl rfl rfl e2 ?_
  refine sk_aload_n K dX11_attempt_5 rfl 0 rfl ?_
  refine sk_iload_n K dX11_attempt_6 rfl 1 rfl ?_
  obtain ⟨h5, hf⟩ := sk_ib hf
  obtain ⟨v3, e4, hf⟩ := sk_ob hf
  refine sk_callV (As := [.int p1]) (st := []) K dX11_attempt_7 cl_X11_429 h5 (sX11_noSlips C l e4) (by decide) rfl rfl (Nat.le_of_ble_eq_true rfl) R1 R2 ?_
  refine sk_istore_n [(2, .int v3), (0, .ref p0), (1, .int p1)] K dX11_attempt_10 rfl (by decide) rfl ?_
  refine sk_iload_n K dX11_attempt_11 rfl 0 rfl ?_
  refine sk_if_eq 17 K dX11_attempt_12 (by decide) (fun h6 => ?_) (fun h6 => ?_)
  · rw [if_pos h6] at hf
    refine sk_aload_n K dX11_attempt_17 rfl 1 rfl ?_
    refine sk_iload_n K dX11_attempt_18 rfl 2 rfl ?_
    obtain ⟨h10, hf⟩ := sk_ib hf
    obtain ⟨⟨v7, d9⟩, e8, hf⟩ := sk_ob hf
    try dsimp only at hf
    refine sk_callV (As := [.int p1]) (st := []) K dX11_attempt_19 cl_X11_432 h10 (sX11_slipsOf C l e8) (by decide) rfl rfl (Nat.le_of_ble_eq_true rfl) R1 R2 ?_
    refine sk_istore_n [(3, .int v7), (2, .int v3), (0, .ref p0), (1, .int p1)] K dX11_attempt_22 rfl (by decide) rfl ?_
    refine sk_iconst (-1 : Int32) K dX11_attempt_23 (by decide) ?_
    refine sk_istore [(4, .int (-1 : Int32)), (3, .int v7), (2, .int v3), (0, .ref p0), (1, .int p1)] K dX11_attempt_24 (by decide) rfl ?_
    refine sk_iconst (-1 : Int32) K dX11_attempt_26 (by decide) ?_
    refine sk_istore [(5, .int (-1 : Int32)), (4, .int (-1 : Int32)), (3, .int v7), (2, .int v3), (0, .ref p0), (1, .int p1)] K dX11_attempt_27 (by decide) rfl ?_
    refine sk_iconst (0 : Int32) K dX11_attempt_29 (by decide) ?_
    refine sk_istore [(6, .int (0 : Int32)), (5, .int (-1 : Int32)), (4, .int (-1 : Int32)), (3, .int v7), (2, .int v3), (0, .ref p0), (1, .int p1)] K dX11_attempt_30 (by decide) rfl ?_
    obtain ⟨x1, he1, hf⟩ := sk_ob hf
    have hret1 : ∀ r, r = x1 → r = (rr, dd) := by
      intro r hr
      subst hr
      exact Option.some.inj hf
    refine sk_sub [(0, .ref p0), (3, .int v7), (4, .int (-1 : Int32)), (5, .int (-1 : Int32)), (6, .int (0 : Int32))] [5, 3, 2, 1, 0] rfl ?_
    refine sk_loop (fun s1 => sk_G X C 9 S s1.2.2.2 32 [(0, .ref p0), (3, .int v7), (4, .int s1.1), (5, .int s1.2.1), (6, .int s1.2.2.1)] []) he1 (fun s1 o1 hf ih1 hx1 => ?_)
    unfold fX11_attempt_L32 at hf
    refine sk_iload K dX11_attempt_32 4 rfl ?_
    refine sk_aload_n K dX11_attempt_34 rfl 0 rfl ?_
    obtain ⟨v12, e13, hf⟩ := sk_ob hf
    refine sk_getR K dX11_attempt_35 fl_X11_13 rfl e13 ?_
    refine sk_iconst (1 : Int32) K dX11_attempt_38 (by decide) ?_
    obtain ⟨v14, e15, hf⟩ := sk_ob hf
    refine sk_ald20 K dX11_attempt_39 e15 ?_
    refine sk_icmp_ge 168 K dX11_attempt_40 (by decide) (fun h16 => ?_) (fun h16 => ?_)
    · rw [if_pos h16] at hf
      refine sk_iload K dX11_attempt_168 2 rfl ?_
      have hR17 : (s1.1, s1.2.2.2) = (rr, dd) := hret1 _ (hx1 _ (Option.some.inj hf).symm)
      exact sk_iret K dX11_attempt_170 rfl rfl (congrArg (fun z => z.1) hR17) rfl (congrArg (fun z => z.2) hR17)
    · rw [if_neg h16] at hf
      refine sk_iload_n K dX11_attempt_43 rfl 1 rfl ?_
      refine sk_if_eq 168 K dX11_attempt_44 (by decide) (fun h18 => ?_) (fun h18 => ?_)
      · rw [if_pos h18] at hf
        refine sk_iload K dX11_attempt_168 2 rfl ?_
        have hR19 : (s1.1, s1.2.2.2) = (rr, dd) := hret1 _ (hx1 _ (Option.some.inj hf).symm)
        exact sk_iret K dX11_attempt_170 rfl rfl (congrArg (fun z => z.1) hR19) rfl (congrArg (fun z => z.2) hR19)
      · rw [if_neg h18] at hf
        refine sk_aload_n K dX11_attempt_47 rfl 0 rfl ?_
        obtain ⟨v20, e21, hf⟩ := sk_ob hf
        refine sk_getR K dX11_attempt_48 fl_X11_13 rfl e21 ?_
        refine sk_bipush (74 : Int32) K dX11_attempt_51 (by decide) ?_
        refine sk_iload K dX11_attempt_53 4 rfl ?_
        refine sk_iadd K dX11_attempt_55 ?_
        obtain ⟨v22, e23, hf⟩ := sk_ob hf
        refine sk_ald20 K dX11_attempt_56 e23 ?_
        refine sk_iconst (3 : Int32) K dX11_attempt_57 (by decide) ?_
        refine sk_icmp_eq 64 K dX11_attempt_58 (by decide) (fun h24 => ?_) (fun h24 => ?_)
        · rw [if_pos h24] at hf
          refine sk_iconst (0 : Int32) K dX11_attempt_64 (by decide) ?_
          refine sk_istore [(7, .int (0 : Int32)), (0, .ref p0), (3, .int v7), (4, .int s1.1), (5, .int s1.2.1), (6, .int s1.2.2.1)] K dX11_attempt_65 (by decide) rfl ?_
          refine sk_iconst (0 : Int32) K dX11_attempt_67 (by decide) ?_
          refine sk_istore [(8, .int (0 : Int32)), (7, .int (0 : Int32)), (0, .ref p0), (3, .int v7), (4, .int s1.1), (5, .int s1.2.1), (6, .int s1.2.2.1)] K dX11_attempt_68 (by decide) rfl ?_
          obtain ⟨x2, he2, hf⟩ := sk_ob hf
          have rest2 : ∀ y2, y2 = x2 → sk_G X C 9 S y2.2 118 [(0, .ref p0), (3, .int v7), (4, .int s1.1), (5, .int s1.2.1), (6, .int s1.2.2.1), (7, .int y2.1)] [] := by
            intro y2 hy
            subst hy
            refine sk_iload K dX11_attempt_118 5 rfl ?_
            refine sk_iload_n K dX11_attempt_120 rfl 1 rfl ?_
            obtain ⟨v25, e26, hf⟩ := sk_ob hf
            refine sk_callS (As := [.int v7]) (st := [.int y2.1]) K dX11_attempt_121 cl_X11_235 (sX11_bitsOf C l e26) (by decide) rfl rfl (Nat.le_of_ble_eq_true rfl) R1 R2 ?_
            refine sk_iload K dX11_attempt_124 5 rfl ?_
            refine sk_isub K dX11_attempt_126 ?_
            refine sk_icmp_ge 135 K dX11_attempt_127 (by decide) (fun h27 => ?_) (fun h27 => ?_)
            · rw [if_pos h27] at hf
              refine sk_iload_n K dX11_attempt_135 rfl 1 rfl ?_
              obtain ⟨v28, e29, hf⟩ := sk_ob hf
              refine sk_callS (As := [.int v7]) (st := []) K dX11_attempt_136 cl_X11_235 (sX11_bitsOf C l e29) (by decide) rfl rfl (Nat.le_of_ble_eq_true rfl) R1 R2 ?_
              refine sk_iload K dX11_attempt_139 5 rfl ?_
              refine sk_isub K dX11_attempt_141 ?_
              refine sk_istore [(8, .int (v28 - y2.1)), (0, .ref p0), (3, .int v7), (4, .int s1.1), (5, .int s1.2.1), (6, .int s1.2.2.1), (7, .int y2.1)] K dX11_attempt_142 (by decide) rfl ?_
              refine sk_iload K dX11_attempt_144 0 rfl ?_
              refine sk_iload K dX11_attempt_146 4 rfl ?_
              refine sk_icmp_gt 154 K dX11_attempt_148 (by decide) (fun h30 => ?_) (fun h30 => ?_)
              · rw [if_pos h30] at hf
                refine sk_iload K dX11_attempt_154 5 rfl ?_
                refine sk_istore [(4, .int s1.2.2.1), (8, .int (v28 - y2.1)), (0, .ref p0), (3, .int v7), (5, .int s1.2.1), (6, .int s1.2.2.1), (7, .int y2.1)] K dX11_attempt_156 (by decide) rfl ?_
                refine sk_iload K dX11_attempt_158 1 rfl ?_
                refine sk_istore [(5, .int (v28 - y2.1)), (4, .int s1.2.2.1), (8, .int (v28 - y2.1)), (0, .ref p0), (3, .int v7), (6, .int s1.2.2.1), (7, .int y2.1)] K dX11_attempt_160 (by decide) rfl ?_
                refine sk_iinc (s1.2.2.1 + 1) [(6, .int (s1.2.2.1 + 1)), (5, .int (v28 - y2.1)), (4, .int s1.2.2.1), (8, .int (v28 - y2.1)), (0, .ref p0), (3, .int v7), (7, .int y2.1)] K dX11_attempt_162 5 rfl rfl (by decide) rfl ?_
                refine sk_goto 32 K dX11_attempt_165 (by decide) ?_
                refine sk_sub [(0, .ref p0), (3, .int v7), (4, .int s1.2.2.1), (5, .int (v28 - y2.1)), (6, .int (s1.2.2.1 + 1))] [4, 5, 2, 1, 0] rfl ?_
                have h9 := ih1 _ (Option.some.inj hf).symm
                exact h9
              · rw [if_neg h30] at hf
                refine sk_goto 162 K dX11_attempt_151 (by decide) ?_
                refine sk_iinc (s1.2.2.1 + 1) [(6, .int (s1.2.2.1 + 1)), (8, .int (v28 - y2.1)), (0, .ref p0), (3, .int v7), (4, .int s1.1), (5, .int s1.2.1), (7, .int y2.1)] K dX11_attempt_162 5 rfl rfl (by decide) rfl ?_
                refine sk_goto 32 K dX11_attempt_165 (by decide) ?_
                refine sk_sub [(0, .ref p0), (3, .int v7), (4, .int s1.1), (5, .int s1.2.1), (6, .int (s1.2.2.1 + 1))] [2, 3, 4, 5, 0] rfl ?_
                have h9 := ih1 _ (Option.some.inj hf).symm
                exact h9
            · rw [if_neg h27] at hf
              refine sk_iload K dX11_attempt_130 5 rfl ?_
              refine sk_goto 142 K dX11_attempt_132 (by decide) ?_
              refine sk_istore [(8, .int y2.1), (0, .ref p0), (3, .int v7), (4, .int s1.1), (5, .int s1.2.1), (6, .int s1.2.2.1), (7, .int y2.1)] K dX11_attempt_142 (by decide) rfl ?_
              refine sk_iload K dX11_attempt_144 0 rfl ?_
              refine sk_iload K dX11_attempt_146 4 rfl ?_
              refine sk_icmp_gt 154 K dX11_attempt_148 (by decide) (fun h31 => ?_) (fun h31 => ?_)
              · rw [if_pos h31] at hf
                refine sk_iload K dX11_attempt_154 5 rfl ?_
                refine sk_istore [(4, .int s1.2.2.1), (8, .int y2.1), (0, .ref p0), (3, .int v7), (5, .int s1.2.1), (6, .int s1.2.2.1), (7, .int y2.1)] K dX11_attempt_156 (by decide) rfl ?_
                refine sk_iload K dX11_attempt_158 1 rfl ?_
                refine sk_istore [(5, .int y2.1), (4, .int s1.2.2.1), (8, .int y2.1), (0, .ref p0), (3, .int v7), (6, .int s1.2.2.1), (7, .int y2.1)] K dX11_attempt_160 (by decide) rfl ?_
                refine sk_iinc (s1.2.2.1 + 1) [(6, .int (s1.2.2.1 + 1)), (5, .int y2.1), (4, .int s1.2.2.1), (8, .int y2.1), (0, .ref p0), (3, .int v7), (7, .int y2.1)] K dX11_attempt_162 5 rfl rfl (by decide) rfl ?_
                refine sk_goto 32 K dX11_attempt_165 (by decide) ?_
                refine sk_sub [(0, .ref p0), (3, .int v7), (4, .int s1.2.2.1), (5, .int y2.1), (6, .int (s1.2.2.1 + 1))] [4, 5, 2, 1, 0] rfl ?_
                have h9 := ih1 _ (Option.some.inj hf).symm
                exact h9
              · rw [if_neg h31] at hf
                refine sk_goto 162 K dX11_attempt_151 (by decide) ?_
                refine sk_iinc (s1.2.2.1 + 1) [(6, .int (s1.2.2.1 + 1)), (8, .int y2.1), (0, .ref p0), (3, .int v7), (4, .int s1.1), (5, .int s1.2.1), (7, .int y2.1)] K dX11_attempt_162 5 rfl rfl (by decide) rfl ?_
                refine sk_goto 32 K dX11_attempt_165 (by decide) ?_
                refine sk_sub [(0, .ref p0), (3, .int v7), (4, .int s1.1), (5, .int s1.2.1), (6, .int (s1.2.2.1 + 1))] [2, 3, 4, 5, 0] rfl ?_
                have h9 := ih1 _ (Option.some.inj hf).symm
                exact h9
          refine sk_sub [(0, .ref p0), (3, .int v7), (4, .int s1.1), (5, .int s1.2.1), (6, .int s1.2.2.1), (7, .int (0 : Int32)), (8, .int (0 : Int32))] [2, 3, 4, 5, 6, 1, 0] rfl ?_
          refine sk_loop (fun s2 => sk_G X C 9 S s2.2.2 70 [(0, .ref p0), (3, .int v7), (4, .int s1.1), (5, .int s1.2.1), (6, .int s1.2.2.1), (7, .int s2.1), (8, .int s2.2.1)] []) he2 (fun s2 o2 hf ih2 hx2 => ?_)
          unfold fX11_attempt_L70 at hf
          refine sk_iload K dX11_attempt_70 6 rfl ?_
          refine sk_bipush (10 : Int32) K dX11_attempt_72 (by decide) ?_
          refine sk_icmp_ge 118 K dX11_attempt_74 (by decide) (fun h32 => ?_) (fun h32 => ?_)
          · rw [if_pos h32] at hf
            refine sk_sub [(0, .ref p0), (3, .int v7), (4, .int s1.1), (5, .int s1.2.1), (6, .int s1.2.2.1), (7, .int s2.1)] [0, 1, 2, 3, 4, 5] rfl ?_
            have h9 := rest2 _ (hx2 _ (Option.some.inj hf).symm)
            exact h9
          · rw [if_neg h32] at hf
            refine sk_iload K dX11_attempt_77 5 rfl ?_
            refine sk_iload_n K dX11_attempt_79 rfl 1 rfl ?_
            refine sk_i2l K dX11_attempt_80 ?_
            refine sk_iload K dX11_attempt_81 6 rfl ?_
            obtain ⟨v33, e34, hf⟩ := sk_ob hf
            refine sk_callS (As := [.long v7.toInt64, .int s2.2.1]) (st := [.int s2.1]) K dX11_attempt_83 cl_X11_221 (sX11_isIn C l e34) (by decide) rfl rfl (Nat.le_of_ble_eq_true rfl) R1 R2 ?_
            refine sk_ifeqB 108 K dX11_attempt_86 (by decide) (fun h35 => ?_) (fun h35 => ?_)
            · rw [if_neg h35] at hf
              refine sk_iconst (0 : Int32) K dX11_attempt_108 (by decide) ?_
              refine sk_iadd K dX11_attempt_109 ?_
              refine sk_istore [(7, .int (s2.1 + (0 : Int32))), (0, .ref p0), (3, .int v7), (4, .int s1.1), (5, .int s1.2.1), (6, .int s1.2.2.1), (8, .int s2.2.1)] K dX11_attempt_110 (by decide) rfl ?_
              refine sk_iinc (s2.2.1 + 1) [(8, .int (s2.2.1 + 1)), (7, .int (s2.1 + (0 : Int32))), (0, .ref p0), (3, .int v7), (4, .int s1.1), (5, .int s1.2.1), (6, .int s1.2.2.1)] K dX11_attempt_112 6 rfl rfl (by decide) rfl ?_
              refine sk_goto 70 K dX11_attempt_115 (by decide) ?_
              refine sk_sub [(0, .ref p0), (3, .int v7), (4, .int s1.1), (5, .int s1.2.1), (6, .int s1.2.2.1), (7, .int (s2.1 + (0 : Int32))), (8, .int (s2.2.1 + 1))] [2, 3, 4, 5, 6, 1, 0] rfl ?_
              have h9 := ih2 _ (Option.some.inj hf).symm
              exact h9
            · rw [if_pos h35] at hf
              refine sk_aload_n K dX11_attempt_89 rfl 0 rfl ?_
              refine sk_aload_n K dX11_attempt_90 rfl 0 rfl ?_
              obtain ⟨h38, hf⟩ := sk_ib hf
              obtain ⟨v36, e37, hf⟩ := sk_ob hf
              refine sk_callV (As := []) (st := [.ref p0, .int s2.1]) K dX11_attempt_91 cl_X11_270 h38 (sX11_standNow C l e37) (by decide) rfl rfl (Nat.le_of_ble_eq_true rfl) R1 R2 ?_
              refine sk_iload K dX11_attempt_94 4 rfl ?_
              refine sk_iload K dX11_attempt_96 6 rfl ?_
              obtain ⟨h42, hf⟩ := sk_ib hf
              obtain ⟨⟨v39, d41⟩, e40, hf⟩ := sk_ob hf
              try dsimp only at hf
              refine sk_callV (As := [.int v36, .int s1.2.2.1, .int s2.2.1]) (st := [.int s2.1]) K dX11_attempt_98 cl_X11_259 h42 (sX11_passesBy C l e40) (by decide) rfl rfl (Nat.le_of_ble_eq_true rfl) R1 R2 ?_
              refine sk_ifeqB 108 K dX11_attempt_101 (by decide) (fun h44 => ?_) (fun h44 => ?_)
              · rw [if_neg h44] at hf
                refine sk_iconst (0 : Int32) K dX11_attempt_108 (by decide) ?_
                refine sk_iadd K dX11_attempt_109 ?_
                refine sk_istore [(7, .int (s2.1 + (0 : Int32))), (0, .ref p0), (3, .int v7), (4, .int s1.1), (5, .int s1.2.1), (6, .int s1.2.2.1), (8, .int s2.2.1)] K dX11_attempt_110 (by decide) rfl ?_
                refine sk_iinc (s2.2.1 + 1) [(8, .int (s2.2.1 + 1)), (7, .int (s2.1 + (0 : Int32))), (0, .ref p0), (3, .int v7), (4, .int s1.1), (5, .int s1.2.1), (6, .int s1.2.2.1)] K dX11_attempt_112 6 rfl rfl (by decide) rfl ?_
                refine sk_goto 70 K dX11_attempt_115 (by decide) ?_
                refine sk_sub [(0, .ref p0), (3, .int v7), (4, .int s1.1), (5, .int s1.2.1), (6, .int s1.2.2.1), (7, .int (s2.1 + (0 : Int32))), (8, .int (s2.2.1 + 1))] [2, 3, 4, 5, 6, 1, 0] rfl ?_
                have h9 := ih2 _ (Option.some.inj hf).symm
                exact h9
              · rw [if_pos h44] at hf
                refine sk_iconst (1 : Int32) K dX11_attempt_104 (by decide) ?_
                refine sk_goto 109 K dX11_attempt_105 (by decide) ?_
                refine sk_iadd K dX11_attempt_109 ?_
                refine sk_istore [(7, .int (s2.1 + (1 : Int32))), (0, .ref p0), (3, .int v7), (4, .int s1.1), (5, .int s1.2.1), (6, .int s1.2.2.1), (8, .int s2.2.1)] K dX11_attempt_110 (by decide) rfl ?_
                refine sk_iinc (s2.2.1 + 1) [(8, .int (s2.2.1 + 1)), (7, .int (s2.1 + (1 : Int32))), (0, .ref p0), (3, .int v7), (4, .int s1.1), (5, .int s1.2.1), (6, .int s1.2.2.1)] K dX11_attempt_112 6 rfl rfl (by decide) rfl ?_
                refine sk_goto 70 K dX11_attempt_115 (by decide) ?_
                refine sk_sub [(0, .ref p0), (3, .int v7), (4, .int s1.1), (5, .int s1.2.1), (6, .int s1.2.2.1), (7, .int (s2.1 + (1 : Int32))), (8, .int (s2.2.1 + 1))] [2, 3, 4, 5, 6, 1, 0] rfl ?_
                have h9 := ih2 _ (Option.some.inj hf).symm
                exact h9
        · rw [if_neg h24] at hf
          refine sk_goto 162 K dX11_attempt_61 (by decide) ?_
          refine sk_iinc (s1.2.2.1 + 1) [(6, .int (s1.2.2.1 + 1)), (0, .ref p0), (3, .int v7), (4, .int s1.1), (5, .int s1.2.1)] K dX11_attempt_162 4 rfl rfl (by decide) rfl ?_
          refine sk_goto 32 K dX11_attempt_165 (by decide) ?_
          refine sk_sub [(0, .ref p0), (3, .int v7), (4, .int s1.1), (5, .int s1.2.1), (6, .int (s1.2.2.1 + 1))] [1, 2, 3, 4, 0] rfl ?_
          have h9 := ih1 _ (Option.some.inj hf).symm
          exact h9
  · rw [if_neg h6] at hf
    refine sk_iload_n K dX11_attempt_15 rfl 0 rfl ?_
    have hR45 : (v3, d1) = (rr, dd) := Option.some.inj hf
    exact sk_iret K dX11_attempt_16 rfl rfl (congrArg (fun z => z.1) hR45) rfl (congrArg (fun z => z.2) hR45)
noncomputable def fX11_canLie_L2 (S : sk_S) (d : sk_D) (p0 : Nat) (p1 : Int32) (p2 : Int32) (s1 : Int32) : Option ((Int32) ⊕ (Bool)) :=
  if p1 ≤ s1 then (some (.inr true)) else ((sk_gR S p0 10 33).bind fun v3 => (sk_lI S d v3 20 s1).bind fun v5 => if v5 = p2 then ((sk_gR S p0 10 1).bind fun v8 => (sk_lI S d v8 20 ((58 : Int32) + p1)).bind fun v10 => (fX11_isIn S d v10.toInt64 s1).bind fun v12 => if v12 = true then (some (.inr false)) else (some (.inl (s1 + 1)))) else (some (.inl (s1 + 1))))
noncomputable def fX11_canLie (S : sk_S) (d : sk_D) (p0 : Nat) (p1 : Int32) (p2 : Int32) : Option (Bool) :=
  (sk_itr (fX11_canLie_L2 S d p0 p1 p2) (0 : Int32)).bind fun x1 => some x1
set_option maxRecDepth 100000 in
set_option maxHeartbeats 4000000 in
theorem sX11_canLie (C : sk_C) (l : Launch) {S : sk_S} {d : sk_D} {p0 : Nat} {p1 : Int32} {p2 : Int32} {rr : Bool} (hf : fX11_canLie S d p0 p1 p2 = some rr) : sk_Met C l 1 yX11_canLie cX11_canLie 4 (some .boolean) [.ref p0, .int p1, .int p2] S d (some (.int (sk_b rr))) S d := by
  refine sk_Met.of (by decide) (Nat.le_of_ble_eq_true rfl) (Nat.le_refl _) (Nat.le_refl _) (fun X K0 hX => ?_)
  have K : sk_Ok X C cX11_canLie 4 RX11 "canLie" (some .boolean) 1 l (some (.int (sk_b rr))) S d := K0
  have R1 : X.2.2.2.2.2.2.2.2.2.2.2.1 ≤ S.1.1 ∧ X.2.2.2.2.2.2.2.2.2.2.2.2 ≤ S.1.2 := by rw [hX]; exact ⟨Nat.le_refl _, Nat.le_refl _⟩
  have R2 : S.1.1 ≤ S.1.1 ∧ S.1.2 ≤ S.1.2 := ⟨Nat.le_refl _, Nat.le_refl _⟩
  show sk_G X C 4 S d 0 [(0, .ref p0), (1, .int p1), (2, .int p2)] []
  unfold fX11_canLie at hf
  refine sk_iconst (0 : Int32) K dX11_canLie_0 (by decide) ?_
  refine sk_istore_n [(3, .int (0 : Int32)), (0, .ref p0), (1, .int p1), (2, .int p2)] K dX11_canLie_1 rfl (by decide) rfl ?_
  obtain ⟨x1, he1, hf⟩ := sk_ob hf
  have hret1 : ∀ r, r = x1 → r = rr := by
    intro r hr
    subst hr
    exact Option.some.inj hf
  refine sk_sub [(0, .ref p0), (1, .int p1), (2, .int p2), (3, .int (0 : Int32))] [1, 2, 3, 0] rfl ?_
  refine sk_loop (fun s1 => sk_G X C 4 S d 2 [(0, .ref p0), (1, .int p1), (2, .int p2), (3, .int s1)] []) he1 (fun s1 o1 hf ih1 hx1 => ?_)
  unfold fX11_canLie_L2 at hf
  refine sk_iload_n K dX11_canLie_2 rfl 3 rfl ?_
  refine sk_iload_n K dX11_canLie_3 rfl 1 rfl ?_
  refine sk_icmp_ge 42 K dX11_canLie_4 (by decide) (fun h1 => ?_) (fun h1 => ?_)
  · rw [if_pos h1] at hf
    refine sk_iconst (1 : Int32) K dX11_canLie_42 (by decide) ?_
    have hR2 : true = rr := hret1 _ (hx1 _ (Option.some.inj hf).symm)
    exact sk_zret (x := true) K dX11_canLie_43 rfl rfl hR2 rfl rfl
  · rw [if_neg h1] at hf
    refine sk_aload_n K dX11_canLie_7 rfl 0 rfl ?_
    obtain ⟨v3, e4, hf⟩ := sk_ob hf
    refine sk_getR K dX11_canLie_8 fl_X11_72 rfl e4 ?_
    refine sk_iload_n K dX11_canLie_11 rfl 3 rfl ?_
    obtain ⟨v5, e6, hf⟩ := sk_ob hf
    refine sk_ald20 K dX11_canLie_12 e6 ?_
    refine sk_iload_n K dX11_canLie_13 rfl 2 rfl ?_
    refine sk_icmp_ne 36 K dX11_canLie_14 (by decide) (fun h7 => ?_) (fun h7 => ?_)
    · rw [if_neg h7] at hf
      refine sk_iinc (s1 + 1) [(3, .int (s1 + 1)), (0, .ref p0), (1, .int p1), (2, .int p2)] K dX11_canLie_36 3 rfl rfl (by decide) rfl ?_
      refine sk_goto 2 K dX11_canLie_39 (by decide) ?_
      refine sk_sub [(0, .ref p0), (1, .int p1), (2, .int p2), (3, .int (s1 + 1))] [1, 2, 3, 0] rfl ?_
      have h9 := ih1 _ (Option.some.inj hf).symm
      exact h9
    · rw [if_pos h7] at hf
      refine sk_aload_n K dX11_canLie_17 rfl 0 rfl ?_
      obtain ⟨v8, e9, hf⟩ := sk_ob hf
      refine sk_getR K dX11_canLie_18 fl_X11_13 rfl e9 ?_
      refine sk_bipush (58 : Int32) K dX11_canLie_21 (by decide) ?_
      refine sk_iload_n K dX11_canLie_23 rfl 1 rfl ?_
      refine sk_iadd K dX11_canLie_24 ?_
      obtain ⟨v10, e11, hf⟩ := sk_ob hf
      refine sk_ald20 K dX11_canLie_25 e11 ?_
      refine sk_i2l K dX11_canLie_26 ?_
      refine sk_iload_n K dX11_canLie_27 rfl 3 rfl ?_
      obtain ⟨v12, e13, hf⟩ := sk_ob hf
      refine sk_callS (As := [.long v10.toInt64, .int s1]) (st := []) K dX11_canLie_28 cl_X11_221 (sX11_isIn C l e13) (by decide) rfl rfl (Nat.le_of_ble_eq_true rfl) R1 R2 ?_
      refine sk_ifeqB 36 K dX11_canLie_31 (by decide) (fun h14 => ?_) (fun h14 => ?_)
      · rw [if_neg h14] at hf
        refine sk_iinc (s1 + 1) [(3, .int (s1 + 1)), (0, .ref p0), (1, .int p1), (2, .int p2)] K dX11_canLie_36 3 rfl rfl (by decide) rfl ?_
        refine sk_goto 2 K dX11_canLie_39 (by decide) ?_
        refine sk_sub [(0, .ref p0), (1, .int p1), (2, .int p2), (3, .int (s1 + 1))] [1, 2, 3, 0] rfl ?_
        have h9 := ih1 _ (Option.some.inj hf).symm
        exact h9
      · rw [if_pos h14] at hf
        refine sk_iconst (0 : Int32) K dX11_canLie_34 (by decide) ?_
        have hR15 : false = rr := hret1 _ (hx1 _ (Option.some.inj hf).symm)
        exact sk_zret (x := false) K dX11_canLie_35 rfl rfl hR15 rfl rfl
noncomputable def fX11_lays_L41 (rec : Nat → sk_D → Nat → Int32 → Int32 → Option (Bool × sk_D)) (S : sk_S) (p0 : Nat) (p1 : Int32) (p2 : Int32) (s1 : Int32 × sk_D) : Option ((Int32 × sk_D) ⊕ (Bool × sk_D)) :=
  if p2 ≤ s1.1 then ((sk_gR S p0 10 33).bind fun v17 => (sk_sI S s1.2 v17 20 p1 (-1 : Int32)).bind fun d19 => some (.inr (false, d19))) else (if S.2.1 p0 = (10, 0) then ((fX11_canLie S s1.2 p0 p1 s1.1).bind fun v22 => if v22 = true then ((sk_gR S p0 10 33).bind fun v26 => (sk_sI S s1.2 v26 20 p1 s1.1).bind fun d28 => if S.2.1 p0 = (10, 0) then ((rec 0 d28 p0 (p1 + (1 : Int32)) p2).bind fun b34 => if b34.1 = true then (some (.inr (true, b34.2))) else (some (.inl (s1.1 + 1, b34.2)))) else none) else (some (.inl (s1.1 + 1, s1.2)))) else none)
noncomputable def fX11_lays_o (rec : Nat → sk_D → Nat → Int32 → Int32 → Option (Bool × sk_D)) (S : sk_S) (d : sk_D) (p0 : Nat) (p1 : Int32) (p2 : Int32) : Option (Bool × sk_D) :=
  (sk_gR S p0 10 1).bind fun v1 => (sk_lI S d v1 20 (1 : Int32)).bind fun v3 => if p1 = v3 then (some (true, d)) else ((sk_gR S p0 10 33).bind fun v6 => (sk_sI S d v6 20 p1 (-1 : Int32)).bind fun d8 => if S.2.1 p0 = (10, 0) then ((fX11_standNow S d8 p0).bind fun v10 => (fX11_isDone S d8 v10 p1).bind fun v13 => if v13 = true then ((sk_itr (fX11_lays_L41 rec S p0 p1 p2) ((0 : Int32), d8)).bind fun x1 => some x1) else (if S.2.1 p0 = (10, 0) then ((rec 0 d8 p0 (p1 + (1 : Int32)) p2).bind fun b41 => some (b41.1, b41.2)) else none)) else none)
noncomputable def gX11l (S : sk_S) : Nat → Nat → sk_D → Nat → Int32 → Int32 → Option (Bool × sk_D)
  | 0 => fun _ _ _ _ _ => none
  | n + 1 => fun t d x0 x1 x2 => match t with
    | _ => fX11_lays_o (gX11l S n) S d x0 x1 x2
def mX11l (C : sk_C) (l : Launch) (S : sk_S) (n : Nat) : Prop := (∀ (d : sk_D) (p0 : Nat) (p1 : Int32) (p2 : Int32) (rr : Bool) (dd : sk_D), gX11l S n 0 d p0 p1 p2 = some (rr, dd) → sk_Met C l (2 + n) yX11_lays cX11_lays 4 (some .boolean) [.ref p0, .int p1, .int p2] S d (some (.int (sk_b rr))) S dd)
set_option maxRecDepth 100000 in
set_option maxHeartbeats 4000000 in
theorem sX11_lays_o (C : sk_C) (l : Launch) {S : sk_S} (n : Nat) (ih : mX11l C l S n) {d : sk_D} {p0 : Nat} {p1 : Int32} {p2 : Int32} {rr : Bool} {dd : sk_D} (hf : fX11_lays_o (gX11l S n) S d p0 p1 p2 = some (rr, dd)) : sk_Met C l (2 + (n + 1)) yX11_lays cX11_lays 4 (some .boolean) [.ref p0, .int p1, .int p2] S d (some (.int (sk_b rr))) S dd := by
  refine sk_Met.of (by decide) (Nat.le_of_ble_eq_true rfl) (Nat.le_refl _) (Nat.le_refl _) (fun X K0 hX => ?_)
  have K : sk_Ok X C cX11_lays 4 RX11 "lays" (some .boolean) (2 + (n + 1)) l (some (.int (sk_b rr))) S dd := K0
  have R1 : X.2.2.2.2.2.2.2.2.2.2.2.1 ≤ S.1.1 ∧ X.2.2.2.2.2.2.2.2.2.2.2.2 ≤ S.1.2 := by rw [hX]; exact ⟨Nat.le_refl _, Nat.le_refl _⟩
  have R2 : S.1.1 ≤ S.1.1 ∧ S.1.2 ≤ S.1.2 := ⟨Nat.le_refl _, Nat.le_refl _⟩
  show sk_G X C 4 S d 0 [(0, .ref p0), (1, .int p1), (2, .int p2)] []
  unfold fX11_lays_o at hf
  refine sk_iload_n K dX11_lays_0 rfl 1 rfl ?_
  refine sk_aload_n K dX11_lays_1 rfl 0 rfl ?_
  obtain ⟨v1, e2, hf⟩ := sk_ob hf
  refine sk_getR K dX11_lays_2 fl_X11_13 rfl e2 ?_
  refine sk_iconst (1 : Int32) K dX11_lays_5 (by decide) ?_
  obtain ⟨v3, e4, hf⟩ := sk_ob hf
  refine sk_ald20 K dX11_lays_6 e4 ?_
  refine sk_icmp_ne 12 K dX11_lays_7 (by decide) (fun h5 => ?_) (fun h5 => ?_)
  · rw [if_neg h5] at hf
    refine sk_aload_n K dX11_lays_12 rfl 0 rfl ?_
    obtain ⟨v6, e7, hf⟩ := sk_ob hf
    refine sk_getR K dX11_lays_13 fl_X11_72 rfl e7 ?_
    refine sk_iload_n K dX11_lays_16 rfl 1 rfl ?_
    refine sk_iconst (-1 : Int32) K dX11_lays_17 (by decide) ?_
    obtain ⟨d8, e9, hf⟩ := sk_ob hf
    refine sk_ast20 d8 K dX11_lays_18 e9 ?_
    refine sk_aload_n K dX11_lays_19 rfl 0 rfl ?_
    obtain ⟨h12, hf⟩ := sk_ib hf
    obtain ⟨v10, e11, hf⟩ := sk_ob hf
    refine sk_callV (As := []) (st := []) K dX11_lays_20 cl_X11_270 h12 (sX11_standNow C l e11) (by omega) rfl rfl (Nat.le_of_ble_eq_true rfl) R1 R2 ?_
    refine sk_iload_n K dX11_lays_23 rfl 1 rfl ?_
    obtain ⟨v13, e14, hf⟩ := sk_ob hf
    refine sk_callS (As := [.int v10, .int p1]) (st := []) K dX11_lays_24 cl_X11_255 (sX11_isDone C l e14) (by omega) rfl rfl (Nat.le_of_ble_eq_true rfl) R1 R2 ?_
    refine sk_ifneB 39 K dX11_lays_27 (by decide) (fun h15 => ?_) (fun h15 => ?_)
    · rw [if_pos h15] at hf
      refine sk_iconst (0 : Int32) K dX11_lays_39 (by decide) ?_
      refine sk_istore_n [(3, .int (0 : Int32)), (0, .ref p0), (1, .int p1), (2, .int p2)] K dX11_lays_40 rfl (by decide) rfl ?_
      obtain ⟨x1, he1, hf⟩ := sk_ob hf
      have hret1 : ∀ r, r = x1 → r = (rr, dd) := by
        intro r hr
        subst hr
        exact Option.some.inj hf
      refine sk_sub [(0, .ref p0), (1, .int p1), (2, .int p2), (3, .int (0 : Int32))] [1, 2, 3, 0] rfl ?_
      refine sk_loop (fun s1 => sk_G X C 4 S s1.2 41 [(0, .ref p0), (1, .int p1), (2, .int p2), (3, .int s1.1)] []) he1 (fun s1 o1 hf ih1 hx1 => ?_)
      unfold fX11_lays_L41 at hf
      refine sk_iload_n K dX11_lays_41 rfl 3 rfl ?_
      refine sk_iload_n K dX11_lays_42 rfl 2 rfl ?_
      refine sk_icmp_ge 84 K dX11_lays_43 (by decide) (fun h16 => ?_) (fun h16 => ?_)
      · rw [if_pos h16] at hf
        refine sk_aload_n K dX11_lays_84 rfl 0 rfl ?_
        obtain ⟨v17, e18, hf⟩ := sk_ob hf
        refine sk_getR K dX11_lays_85 fl_X11_72 rfl e18 ?_
        refine sk_iload_n K dX11_lays_88 rfl 1 rfl ?_
        refine sk_iconst (-1 : Int32) K dX11_lays_89 (by decide) ?_
        obtain ⟨d19, e20, hf⟩ := sk_ob hf
        refine sk_ast20 d19 K dX11_lays_90 e20 ?_
        refine sk_iconst (0 : Int32) K dX11_lays_91 (by decide) ?_
        have hR21 : (false, d19) = (rr, dd) := hret1 _ (hx1 _ (Option.some.inj hf).symm)
        exact sk_zret (x := false) K dX11_lays_92 rfl rfl (congrArg (fun z => z.1) hR21) rfl (congrArg (fun z => z.2) hR21)
      · rw [if_neg h16] at hf
        refine sk_aload_n K dX11_lays_46 rfl 0 rfl ?_
        refine sk_iload_n K dX11_lays_47 rfl 1 rfl ?_
        refine sk_iload_n K dX11_lays_48 rfl 3 rfl ?_
        obtain ⟨h24, hf⟩ := sk_ib hf
        obtain ⟨v22, e23, hf⟩ := sk_ob hf
        refine sk_callV (As := [.int p1, .int s1.1]) (st := []) K dX11_lays_49 cl_X11_438 h24 (sX11_canLie C l e23) (by omega) rfl rfl (Nat.le_of_ble_eq_true rfl) R1 R2 ?_
        refine sk_ifneB 58 K dX11_lays_52 (by decide) (fun h25 => ?_) (fun h25 => ?_)
        · rw [if_pos h25] at hf
          refine sk_aload_n K dX11_lays_58 rfl 0 rfl ?_
          obtain ⟨v26, e27, hf⟩ := sk_ob hf
          refine sk_getR K dX11_lays_59 fl_X11_72 rfl e27 ?_
          refine sk_iload_n K dX11_lays_62 rfl 1 rfl ?_
          refine sk_iload_n K dX11_lays_63 rfl 3 rfl ?_
          obtain ⟨d28, e29, hf⟩ := sk_ob hf
          refine sk_ast20 d28 K dX11_lays_64 e29 ?_
          refine sk_aload_n K dX11_lays_65 rfl 0 rfl ?_
          refine sk_iload_n K dX11_lays_66 rfl 1 rfl ?_
          refine sk_iconst (1 : Int32) K dX11_lays_67 (by decide) ?_
          refine sk_iadd K dX11_lays_68 ?_
          refine sk_iload_n K dX11_lays_69 rfl 2 rfl ?_
          obtain ⟨h33, hf⟩ := sk_ib hf
          obtain ⟨⟨v30, d32⟩, e31, hf⟩ := sk_ob hf
          try dsimp only at hf
          refine sk_callV (As := [.int (p1 + (1 : Int32)), .int p2]) (st := []) K dX11_lays_70 cl_X11_435 h33 (ih _ _ _ _ _ _ e31) (by omega) rfl rfl (Nat.le_of_ble_eq_true rfl) R1 R2 ?_
          refine sk_ifeqB 78 K dX11_lays_73 (by decide) (fun h35 => ?_) (fun h35 => ?_)
          · rw [if_neg h35] at hf
            refine sk_iinc (s1.1 + 1) [(3, .int (s1.1 + 1)), (0, .ref p0), (1, .int p1), (2, .int p2)] K dX11_lays_78 3 rfl rfl (by decide) rfl ?_
            refine sk_goto 41 K dX11_lays_81 (by decide) ?_
            refine sk_sub [(0, .ref p0), (1, .int p1), (2, .int p2), (3, .int (s1.1 + 1))] [1, 2, 3, 0] rfl ?_
            have h9 := ih1 _ (Option.some.inj hf).symm
            exact h9
          · rw [if_pos h35] at hf
            refine sk_iconst (1 : Int32) K dX11_lays_76 (by decide) ?_
            have hR36 : (true, d32) = (rr, dd) := hret1 _ (hx1 _ (Option.some.inj hf).symm)
            exact sk_zret (x := true) K dX11_lays_77 rfl rfl (congrArg (fun z => z.1) hR36) rfl (congrArg (fun z => z.2) hR36)
        · rw [if_neg h25] at hf
          refine sk_goto 78 K dX11_lays_55 (by decide) ?_
          refine sk_iinc (s1.1 + 1) [(3, .int (s1.1 + 1)), (0, .ref p0), (1, .int p1), (2, .int p2)] K dX11_lays_78 3 rfl rfl (by decide) rfl ?_
          refine sk_goto 41 K dX11_lays_81 (by decide) ?_
          refine sk_sub [(0, .ref p0), (1, .int p1), (2, .int p2), (3, .int (s1.1 + 1))] [1, 2, 3, 0] rfl ?_
          have h9 := ih1 _ (Option.some.inj hf).symm
          exact h9
    · rw [if_neg h15] at hf
      refine sk_aload_n K dX11_lays_30 rfl 0 rfl ?_
      refine sk_iload_n K dX11_lays_31 rfl 1 rfl ?_
      refine sk_iconst (1 : Int32) K dX11_lays_32 (by decide) ?_
      refine sk_iadd K dX11_lays_33 ?_
      refine sk_iload_n K dX11_lays_34 rfl 2 rfl ?_
      obtain ⟨h40, hf⟩ := sk_ib hf
      obtain ⟨⟨v37, d39⟩, e38, hf⟩ := sk_ob hf
      try dsimp only at hf
      refine sk_callV (As := [.int (p1 + (1 : Int32)), .int p2]) (st := []) K dX11_lays_35 cl_X11_435 h40 (ih _ _ _ _ _ _ e38) (by omega) rfl rfl (Nat.le_of_ble_eq_true rfl) R1 R2 ?_
      have hR42 : (v37, d39) = (rr, dd) := Option.some.inj hf
      exact sk_zret K dX11_lays_38 rfl rfl (congrArg (fun z => z.1) hR42) rfl (congrArg (fun z => z.2) hR42)
  · rw [if_pos h5] at hf
    refine sk_iconst (1 : Int32) K dX11_lays_10 (by decide) ?_
    have hR43 : (true, d) = (rr, dd) := Option.some.inj hf
    exact sk_zret (x := true) K dX11_lays_11 rfl rfl (congrArg (fun z => z.1) hR43) rfl (congrArg (fun z => z.2) hR43)
theorem gX11l_all (C : sk_C) (l : Launch) (S : sk_S) : ∀ n : Nat, mX11l C l S n := by
  intro n
  induction n with
  | zero =>
    exact (fun _ _ _ _ _ _ hf => by cases hf)
  | succ n ih =>
    exact (fun _ _ _ _ _ _ hf => sX11_lays_o C l n ih hf)
noncomputable def fX11_lays (S : sk_S) (d : sk_D) (p0 : Nat) (p1 : Int32) (p2 : Int32) : Option (Bool × sk_D) := gX11l S 100 0 d p0 p1 p2
theorem sX11_lays (C : sk_C) (l : Launch) {S : sk_S} {d : sk_D} {p0 : Nat} {p1 : Int32} {p2 : Int32} {rr : Bool} {dd : sk_D} (hf : fX11_lays S d p0 p1 p2 = some (rr, dd)) : sk_Met C l 102 yX11_lays cX11_lays 4 (some .boolean) [.ref p0, .int p1, .int p2] S d (some (.int (sk_b rr))) S dd := (gX11l_all C l S 100) _ _ _ _ _ _ hf
noncomputable def fX11_linings_L18 (S : sk_S) (p0 : Nat) (s1 : Int32 × sk_D) : Option ((Int32 × sk_D) ⊕ (Int32 × sk_D)) :=
  if S.2.1 p0 = (10, 0) then ((fX11_lays S s1.2 p0 (0 : Int32) s1.1).bind fun b18 => if b18.1 = true then (some (.inr (s1.1, b18.2))) else (some (.inl (s1.1 + 1, b18.2)))) else none
noncomputable def fX11_linings (S : sk_S) (d : sk_D) (p0 : Nat) (p1 : Int32) : Option (Int32 × sk_D) :=
  (sk_pI S d p0 10 0 (0 : Int32)).bind fun d1 => if S.2.1 p0 = (10, 0) then ((fX11_isWhat S d1 p0 p1).bind fun v3 => if v3 = true then ((sk_itr (fX11_linings_L18 S p0) ((0 : Int32), d1)).bind fun y1 => if p1 = 0 then (some (y1.1, y1.2)) else ((sk_gR S p0 10 33).bind fun v8 => (sk_lI S y1.2 v8 20 (p1 - (10 : Int32))).bind fun v10 => some (v10, y1.2))) else (some ((-2 : Int32), d1))) else none
set_option maxRecDepth 100000 in
set_option maxHeartbeats 4000000 in
theorem sX11_linings (C : sk_C) (l : Launch) {S : sk_S} {d : sk_D} {p0 : Nat} {p1 : Int32} {rr : Int32} {dd : sk_D} (hf : fX11_linings S d p0 p1 = some (rr, dd)) : sk_Met C l 103 yX11_linings cX11_linings 3 (some .int) [.ref p0, .int p1] S d (some (.int rr)) S dd := by
  refine sk_Met.of (by decide) (Nat.le_of_ble_eq_true rfl) (Nat.le_refl _) (Nat.le_refl _) (fun X K0 hX => ?_)
  have K : sk_Ok X C cX11_linings 3 RX11 "linings" (some .int) 103 l (some (.int rr)) S dd := K0
  have R1 : X.2.2.2.2.2.2.2.2.2.2.2.1 ≤ S.1.1 ∧ X.2.2.2.2.2.2.2.2.2.2.2.2 ≤ S.1.2 := by rw [hX]; exact ⟨Nat.le_refl _, Nat.le_refl _⟩
  have R2 : S.1.1 ≤ S.1.1 ∧ S.1.2 ≤ S.1.2 := ⟨Nat.le_refl _, Nat.le_refl _⟩
  show sk_G X C 3 S d 0 [(0, .ref p0), (1, .int p1)] []
  unfold fX11_linings at hf
  refine sk_aload_n K dX11_linings_0 rfl 0 rfl ?_
  refine sk_iconst (0 : Int32) K dX11_linings_1 (by decide) ?_
  obtain ⟨d1, e2, hf⟩ := sk_ob hf
  refine sk_putI d1 K dX11_linings_2 fl_X11_1 rfl rfl rfl e2 ?_
  refine sk_aload_n K dX11_linings_5 rfl 0 rfl ?_
  refine sk_iload_n K dX11_linings_6 rfl 1 rfl ?_
  obtain ⟨h5, hf⟩ := sk_ib hf
  obtain ⟨v3, e4, hf⟩ := sk_ob hf
  refine sk_callV (As := [.int p1]) (st := []) K dX11_linings_7 cl_X11_419 h5 (sX11_isWhat C l e4) (by decide) rfl rfl (Nat.le_of_ble_eq_true rfl) R1 R2 ?_
  refine sk_ifneB 16 K dX11_linings_10 (by decide) (fun h6 => ?_) (fun h6 => ?_)
  · rw [if_pos h6] at hf
    refine sk_iconst (0 : Int32) K dX11_linings_16 (by decide) ?_
    refine sk_istore_n [(2, .int (0 : Int32)), (0, .ref p0), (1, .int p1)] K dX11_linings_17 rfl (by decide) rfl ?_
    obtain ⟨x1, he1, hf⟩ := sk_ob hf
    have rest1 : ∀ y1, y1 = x1 → sk_G X C 3 S y1.2 33 [(0, .ref p0), (1, .int p1), (2, .int y1.1)] [] := by
      intro y1 hy
      subst hy
      refine sk_iload_n K dX11_linings_33 rfl 1 rfl ?_
      refine sk_if_ne 41 K dX11_linings_34 (by decide) (fun h7 => ?_) (fun h7 => ?_)
      · rw [if_neg h7] at hf
        refine sk_aload_n K dX11_linings_41 rfl 0 rfl ?_
        obtain ⟨v8, e9, hf⟩ := sk_ob hf
        refine sk_getR K dX11_linings_42 fl_X11_72 rfl e9 ?_
        refine sk_iload_n K dX11_linings_45 rfl 1 rfl ?_
        refine sk_bipush (10 : Int32) K dX11_linings_46 (by decide) ?_
        refine sk_isub K dX11_linings_48 ?_
        obtain ⟨v10, e11, hf⟩ := sk_ob hf
        refine sk_ald20 K dX11_linings_49 e11 ?_
        have hR12 : (v10, y1.2) = (rr, dd) := Option.some.inj hf
        exact sk_iret K dX11_linings_50 rfl rfl (congrArg (fun z => z.1) hR12) rfl (congrArg (fun z => z.2) hR12)
      · rw [if_pos h7] at hf
        refine sk_iload_n K dX11_linings_37 rfl 2 rfl ?_
        refine sk_goto 50 K dX11_linings_38 (by decide) ?_
        have hR13 : (y1.1, y1.2) = (rr, dd) := Option.some.inj hf
        exact sk_iret K dX11_linings_50 rfl rfl (congrArg (fun z => z.1) hR13) rfl (congrArg (fun z => z.2) hR13)
    refine sk_sub [(0, .ref p0), (1, .int p1), (2, .int (0 : Int32))] [1, 2, 0] rfl ?_
    refine sk_loop (fun s1 => sk_G X C 3 S s1.2 18 [(0, .ref p0), (1, .int p1), (2, .int s1.1)] []) he1 (fun s1 o1 hf ih1 hx1 => ?_)
    unfold fX11_linings_L18 at hf
    refine sk_aload_n K dX11_linings_18 rfl 0 rfl ?_
    refine sk_iconst (0 : Int32) K dX11_linings_19 (by decide) ?_
    refine sk_iload_n K dX11_linings_20 rfl 2 rfl ?_
    obtain ⟨h17, hf⟩ := sk_ib hf
    obtain ⟨⟨v14, d16⟩, e15, hf⟩ := sk_ob hf
    try dsimp only at hf
    refine sk_callV (As := [.int (0 : Int32), .int s1.1]) (st := []) K dX11_linings_21 cl_X11_435 h17 (sX11_lays C l e15) (by decide) rfl rfl (Nat.le_of_ble_eq_true rfl) R1 R2 ?_
    refine sk_ifneB 33 K dX11_linings_24 (by decide) (fun h19 => ?_) (fun h19 => ?_)
    · rw [if_pos h19] at hf
      refine sk_sub [(0, .ref p0), (1, .int p1), (2, .int s1.1)] [0, 1, 2] rfl ?_
      have h9 := rest1 _ (hx1 _ (Option.some.inj hf).symm)
      exact h9
    · rw [if_neg h19] at hf
      refine sk_iinc (s1.1 + 1) [(2, .int (s1.1 + 1)), (0, .ref p0), (1, .int p1)] K dX11_linings_27 2 rfl rfl (by decide) rfl ?_
      refine sk_goto 18 K dX11_linings_30 (by decide) ?_
      refine sk_sub [(0, .ref p0), (1, .int p1), (2, .int (s1.1 + 1))] [1, 2, 0] rfl ?_
      have h9 := ih1 _ (Option.some.inj hf).symm
      exact h9
  · rw [if_neg h6] at hf
    refine sk_bipush (-2 : Int32) K dX11_linings_13 (by decide) ?_
    have hR20 : ((-2 : Int32), d1) = (rr, dd) := Option.some.inj hf
    exact sk_iret K dX11_linings_15 rfl rfl (congrArg (fun z => z.1) hR20) rfl (congrArg (fun z => z.2) hR20)
noncomputable def fX11_allClash_L2 (S : sk_S) (d : sk_D) (p0 : Nat) (p1 : Int32) (s1 : Int32) : Option ((Int32) ⊕ (Bool)) :=
  (sk_gR S p0 10 1).bind fun v1 => (sk_lI S d v1 20 (1 : Int32)).bind fun v3 => if v3 ≤ s1 then (some (.inr true)) else ((fX11_isIn S d p1.toInt64 s1).bind fun v7 => if v7 = true then ((sk_gR S p0 10 1).bind fun v10 => (sk_lI S d v10 20 ((58 : Int32) + s1)).bind fun v12 => if ((p1 &&& (((1 : Int32) <<< (s1 &&& 31)) ^^^ (-1 : Int32))) &&& (v12 ^^^ (-1 : Int32))) = 0 then (some (.inl (s1 + 1))) else (some (.inr false))) else (some (.inl (s1 + 1))))
noncomputable def fX11_allClash (S : sk_S) (d : sk_D) (p0 : Nat) (p1 : Int32) : Option (Bool) :=
  (sk_itr (fX11_allClash_L2 S d p0 p1) (0 : Int32)).bind fun x1 => some x1
set_option maxRecDepth 100000 in
set_option maxHeartbeats 4000000 in
theorem sX11_allClash (C : sk_C) (l : Launch) {S : sk_S} {d : sk_D} {p0 : Nat} {p1 : Int32} {rr : Bool} (hf : fX11_allClash S d p0 p1 = some rr) : sk_Met C l 1 yX11_allClash cX11_allClash 3 (some .boolean) [.ref p0, .int p1] S d (some (.int (sk_b rr))) S d := by
  refine sk_Met.of (by decide) (Nat.le_of_ble_eq_true rfl) (Nat.le_refl _) (Nat.le_refl _) (fun X K0 hX => ?_)
  have K : sk_Ok X C cX11_allClash 3 RX11 "allClash" (some .boolean) 1 l (some (.int (sk_b rr))) S d := K0
  have R1 : X.2.2.2.2.2.2.2.2.2.2.2.1 ≤ S.1.1 ∧ X.2.2.2.2.2.2.2.2.2.2.2.2 ≤ S.1.2 := by rw [hX]; exact ⟨Nat.le_refl _, Nat.le_refl _⟩
  have R2 : S.1.1 ≤ S.1.1 ∧ S.1.2 ≤ S.1.2 := ⟨Nat.le_refl _, Nat.le_refl _⟩
  show sk_G X C 3 S d 0 [(0, .ref p0), (1, .int p1)] []
  unfold fX11_allClash at hf
  refine sk_iconst (0 : Int32) K dX11_allClash_0 (by decide) ?_
  refine sk_istore_n [(2, .int (0 : Int32)), (0, .ref p0), (1, .int p1)] K dX11_allClash_1 rfl (by decide) rfl ?_
  obtain ⟨x1, he1, hf⟩ := sk_ob hf
  have hret1 : ∀ r, r = x1 → r = rr := by
    intro r hr
    subst hr
    exact Option.some.inj hf
  refine sk_sub [(0, .ref p0), (1, .int p1), (2, .int (0 : Int32))] [1, 2, 0] rfl ?_
  refine sk_loop (fun s1 => sk_G X C 3 S d 2 [(0, .ref p0), (1, .int p1), (2, .int s1)] []) he1 (fun s1 o1 hf ih1 hx1 => ?_)
  unfold fX11_allClash_L2 at hf
  refine sk_iload_n K dX11_allClash_2 rfl 2 rfl ?_
  refine sk_aload_n K dX11_allClash_3 rfl 0 rfl ?_
  obtain ⟨v1, e2, hf⟩ := sk_ob hf
  refine sk_getR K dX11_allClash_4 fl_X11_13 rfl e2 ?_
  refine sk_iconst (1 : Int32) K dX11_allClash_7 (by decide) ?_
  obtain ⟨v3, e4, hf⟩ := sk_ob hf
  refine sk_ald20 K dX11_allClash_8 e4 ?_
  refine sk_icmp_ge 51 K dX11_allClash_9 (by decide) (fun h5 => ?_) (fun h5 => ?_)
  · rw [if_pos h5] at hf
    refine sk_iconst (1 : Int32) K dX11_allClash_51 (by decide) ?_
    have hR6 : true = rr := hret1 _ (hx1 _ (Option.some.inj hf).symm)
    exact sk_zret (x := true) K dX11_allClash_52 rfl rfl hR6 rfl rfl
  · rw [if_neg h5] at hf
    refine sk_iload_n K dX11_allClash_12 rfl 1 rfl ?_
    refine sk_i2l K dX11_allClash_13 ?_
    refine sk_iload_n K dX11_allClash_14 rfl 2 rfl ?_
    obtain ⟨v7, e8, hf⟩ := sk_ob hf
    refine sk_callS (As := [.long p1.toInt64, .int s1]) (st := []) K dX11_allClash_15 cl_X11_221 (sX11_isIn C l e8) (by decide) rfl rfl (Nat.le_of_ble_eq_true rfl) R1 R2 ?_
    refine sk_ifeqB 45 K dX11_allClash_18 (by decide) (fun h9 => ?_) (fun h9 => ?_)
    · rw [if_neg h9] at hf
      refine sk_iinc (s1 + 1) [(2, .int (s1 + 1)), (0, .ref p0), (1, .int p1)] K dX11_allClash_45 2 rfl rfl (by decide) rfl ?_
      refine sk_goto 2 K dX11_allClash_48 (by decide) ?_
      refine sk_sub [(0, .ref p0), (1, .int p1), (2, .int (s1 + 1))] [1, 2, 0] rfl ?_
      have h9 := ih1 _ (Option.some.inj hf).symm
      exact h9
    · rw [if_pos h9] at hf
      refine sk_iload_n K dX11_allClash_21 rfl 1 rfl ?_
      refine sk_iconst (1 : Int32) K dX11_allClash_22 (by decide) ?_
      refine sk_iload_n K dX11_allClash_23 rfl 2 rfl ?_
      refine sk_ishl K dX11_allClash_24 ?_
      refine sk_iconst (-1 : Int32) K dX11_allClash_25 (by decide) ?_
      refine sk_ixor K dX11_allClash_26 ?_
      refine sk_iand K dX11_allClash_27 ?_
      refine sk_aload_n K dX11_allClash_28 rfl 0 rfl ?_
      obtain ⟨v10, e11, hf⟩ := sk_ob hf
      refine sk_getR K dX11_allClash_29 fl_X11_13 rfl e11 ?_
      refine sk_bipush (58 : Int32) K dX11_allClash_32 (by decide) ?_
      refine sk_iload_n K dX11_allClash_34 rfl 2 rfl ?_
      refine sk_iadd K dX11_allClash_35 ?_
      obtain ⟨v12, e13, hf⟩ := sk_ob hf
      refine sk_ald20 K dX11_allClash_36 e13 ?_
      refine sk_iconst (-1 : Int32) K dX11_allClash_37 (by decide) ?_
      refine sk_ixor K dX11_allClash_38 ?_
      refine sk_iand K dX11_allClash_39 ?_
      refine sk_if_eq 45 K dX11_allClash_40 (by decide) (fun h14 => ?_) (fun h14 => ?_)
      · rw [if_pos h14] at hf
        refine sk_iinc (s1 + 1) [(2, .int (s1 + 1)), (0, .ref p0), (1, .int p1)] K dX11_allClash_45 2 rfl rfl (by decide) rfl ?_
        refine sk_goto 2 K dX11_allClash_48 (by decide) ?_
        refine sk_sub [(0, .ref p0), (1, .int p1), (2, .int (s1 + 1))] [1, 2, 0] rfl ?_
        have h9 := ih1 _ (Option.some.inj hf).symm
        exact h9
      · rw [if_neg h14] at hf
        refine sk_iconst (0 : Int32) K dX11_allClash_43 (by decide) ?_
        have hR15 : false = rr := hret1 _ (hx1 _ (Option.some.inj hf).symm)
        exact sk_zret (x := false) K dX11_allClash_44 rfl rfl hR15 rfl rfl
noncomputable def fX11_clique_L18 (S : sk_S) (p0 : Nat) (d1 : sk_D) (v6 : Int32) (s1 : Int32 × Int32) : Option ((Int32 × Int32) ⊕ (Int32 × sk_D)) :=
  (sk_gR S p0 10 1).bind fun v9 => (sk_lI S d1 v9 20 (1 : Int32)).bind fun v11 => if ((1 : Int32) <<< (v11 &&& 31)) ≤ s1.2 then (some (.inr (s1.1, d1))) else (if (s1.2 &&& (v6 ^^^ (-1 : Int32))) = 0 then ((fX11_bitsOf S d1 s1.2).bind fun v16 => (fX11_bitsOf S d1 s1.1).bind fun v18 => if v16 ≤ v18 then (some (.inl (s1.1, s1.2 + 1))) else (if S.2.1 p0 = (10, 0) then ((fX11_allClash S d1 p0 s1.2).bind fun v21 => if v21 = true then (some (.inl (s1.2, s1.2 + 1))) else (some (.inl (s1.1, s1.2 + 1)))) else none)) else (some (.inl (s1.1, s1.2 + 1))))
noncomputable def fX11_clique (S : sk_S) (d : sk_D) (p0 : Nat) : Option (Int32 × sk_D) :=
  (sk_pI S d p0 10 0 (0 : Int32)).bind fun d1 => if S.2.1 p0 = (10, 0) then ((fX11_standNow S d1 p0).bind fun v3 => if S.2.1 p0 = (10, 0) then ((fX11_doneIn S d1 p0 v3).bind fun v6 => (sk_itr (fX11_clique_L18 S p0 d1 v6) ((0 : Int32), (1 : Int32))).bind fun x1 => some x1) else none) else none
set_option maxRecDepth 100000 in
set_option maxHeartbeats 4000000 in
theorem sX11_clique (C : sk_C) (l : Launch) {S : sk_S} {d : sk_D} {p0 : Nat} {rr : Int32} {dd : sk_D} (hf : fX11_clique S d p0 = some (rr, dd)) : sk_Met C l 3 yX11_clique cX11_clique 4 (some .int) [.ref p0] S d (some (.int rr)) S dd := by
  refine sk_Met.of (by decide) (Nat.le_of_ble_eq_true rfl) (Nat.le_refl _) (Nat.le_refl _) (fun X K0 hX => ?_)
  have K : sk_Ok X C cX11_clique 4 RX11 "clique" (some .int) 3 l (some (.int rr)) S dd := K0
  have R1 : X.2.2.2.2.2.2.2.2.2.2.2.1 ≤ S.1.1 ∧ X.2.2.2.2.2.2.2.2.2.2.2.2 ≤ S.1.2 := by rw [hX]; exact ⟨Nat.le_refl _, Nat.le_refl _⟩
  have R2 : S.1.1 ≤ S.1.1 ∧ S.1.2 ≤ S.1.2 := ⟨Nat.le_refl _, Nat.le_refl _⟩
  show sk_G X C 4 S d 0 [(0, .ref p0)] []
  unfold fX11_clique at hf
  refine sk_aload_n K dX11_clique_0 rfl 0 rfl ?_
  refine sk_iconst (0 : Int32) K dX11_clique_1 (by decide) ?_
  obtain ⟨d1, e2, hf⟩ := sk_ob hf
  refine sk_putI d1 K dX11_clique_2 fl_X11_1 rfl rfl rfl e2 ?_
  refine sk_aload_n K dX11_clique_5 rfl 0 rfl ?_
  refine sk_aload_n K dX11_clique_6 rfl 0 rfl ?_
  obtain ⟨h5, hf⟩ := sk_ib hf
  obtain ⟨v3, e4, hf⟩ := sk_ob hf
  refine sk_callV (As := []) (st := [.ref p0]) K dX11_clique_7 cl_X11_270 h5 (sX11_standNow C l e4) (by decide) rfl rfl (Nat.le_of_ble_eq_true rfl) R1 R2 ?_
  obtain ⟨h8, hf⟩ := sk_ib hf
  obtain ⟨v6, e7, hf⟩ := sk_ob hf
  refine sk_callV (As := [.int v3]) (st := []) K dX11_clique_10 cl_X11_245 h8 (sX11_doneIn C l e7) (by decide) rfl rfl (Nat.le_of_ble_eq_true rfl) R1 R2 ?_
  refine sk_istore_n [(1, .int v6), (0, .ref p0)] K dX11_clique_13 rfl (by decide) rfl ?_
  refine sk_iconst (0 : Int32) K dX11_clique_14 (by decide) ?_
  refine sk_istore_n [(2, .int (0 : Int32)), (1, .int v6), (0, .ref p0)] K dX11_clique_15 rfl (by decide) rfl ?_
  refine sk_iconst (1 : Int32) K dX11_clique_16 (by decide) ?_
  refine sk_istore_n [(3, .int (1 : Int32)), (2, .int (0 : Int32)), (1, .int v6), (0, .ref p0)] K dX11_clique_17 rfl (by decide) rfl ?_
  obtain ⟨x1, he1, hf⟩ := sk_ob hf
  have hret1 : ∀ r, r = x1 → r = (rr, dd) := by
    intro r hr
    subst hr
    exact Option.some.inj hf
  refine sk_sub [(0, .ref p0), (1, .int v6), (2, .int (0 : Int32)), (3, .int (1 : Int32))] [3, 2, 1, 0] rfl ?_
  refine sk_loop (fun s1 => sk_G X C 4 S d1 18 [(0, .ref p0), (1, .int v6), (2, .int s1.1), (3, .int s1.2)] []) he1 (fun s1 o1 hf ih1 hx1 => ?_)
  unfold fX11_clique_L18 at hf
  refine sk_iload_n K dX11_clique_18 rfl 3 rfl ?_
  refine sk_iconst (1 : Int32) K dX11_clique_19 (by decide) ?_
  refine sk_aload_n K dX11_clique_20 rfl 0 rfl ?_
  obtain ⟨v9, e10, hf⟩ := sk_ob hf
  refine sk_getR K dX11_clique_21 fl_X11_13 rfl e10 ?_
  refine sk_iconst (1 : Int32) K dX11_clique_24 (by decide) ?_
  obtain ⟨v11, e12, hf⟩ := sk_ob hf
  refine sk_ald20 K dX11_clique_25 e12 ?_
  refine sk_ishl K dX11_clique_26 ?_
  refine sk_icmp_ge 65 K dX11_clique_27 (by decide) (fun h13 => ?_) (fun h13 => ?_)
  · rw [if_pos h13] at hf
    refine sk_iload_n K dX11_clique_65 rfl 2 rfl ?_
    have hR14 : (s1.1, d1) = (rr, dd) := hret1 _ (hx1 _ (Option.some.inj hf).symm)
    exact sk_iret K dX11_clique_66 rfl rfl (congrArg (fun z => z.1) hR14) rfl (congrArg (fun z => z.2) hR14)
  · rw [if_neg h13] at hf
    refine sk_iload_n K dX11_clique_30 rfl 3 rfl ?_
    refine sk_iload_n K dX11_clique_31 rfl 1 rfl ?_
    refine sk_iconst (-1 : Int32) K dX11_clique_32 (by decide) ?_
    refine sk_ixor K dX11_clique_33 ?_
    refine sk_iand K dX11_clique_34 ?_
    refine sk_if_ne 59 K dX11_clique_35 (by decide) (fun h15 => ?_) (fun h15 => ?_)
    · rw [if_neg h15] at hf
      refine sk_iinc (s1.2 + 1) [(3, .int (s1.2 + 1)), (0, .ref p0), (1, .int v6), (2, .int s1.1)] K dX11_clique_59 3 rfl rfl (by decide) rfl ?_
      refine sk_goto 18 K dX11_clique_62 (by decide) ?_
      refine sk_sub [(0, .ref p0), (1, .int v6), (2, .int s1.1), (3, .int (s1.2 + 1))] [1, 2, 3, 0] rfl ?_
      have h9 := ih1 _ (Option.some.inj hf).symm
      exact h9
    · rw [if_pos h15] at hf
      refine sk_iload_n K dX11_clique_38 rfl 3 rfl ?_
      obtain ⟨v16, e17, hf⟩ := sk_ob hf
      refine sk_callS (As := [.int s1.2]) (st := []) K dX11_clique_39 cl_X11_235 (sX11_bitsOf C l e17) (by decide) rfl rfl (Nat.le_of_ble_eq_true rfl) R1 R2 ?_
      refine sk_iload_n K dX11_clique_42 rfl 2 rfl ?_
      obtain ⟨v18, e19, hf⟩ := sk_ob hf
      refine sk_callS (As := [.int s1.1]) (st := [.int v16]) K dX11_clique_43 cl_X11_235 (sX11_bitsOf C l e19) (by decide) rfl rfl (Nat.le_of_ble_eq_true rfl) R1 R2 ?_
      refine sk_icmp_le 59 K dX11_clique_46 (by decide) (fun h20 => ?_) (fun h20 => ?_)
      · rw [if_pos h20] at hf
        refine sk_iinc (s1.2 + 1) [(3, .int (s1.2 + 1)), (0, .ref p0), (1, .int v6), (2, .int s1.1)] K dX11_clique_59 3 rfl rfl (by decide) rfl ?_
        refine sk_goto 18 K dX11_clique_62 (by decide) ?_
        refine sk_sub [(0, .ref p0), (1, .int v6), (2, .int s1.1), (3, .int (s1.2 + 1))] [1, 2, 3, 0] rfl ?_
        have h9 := ih1 _ (Option.some.inj hf).symm
        exact h9
      · rw [if_neg h20] at hf
        refine sk_aload_n K dX11_clique_49 rfl 0 rfl ?_
        refine sk_iload_n K dX11_clique_50 rfl 3 rfl ?_
        obtain ⟨h23, hf⟩ := sk_ib hf
        obtain ⟨v21, e22, hf⟩ := sk_ob hf
        refine sk_callV (As := [.int s1.2]) (st := []) K dX11_clique_51 cl_X11_441 h23 (sX11_allClash C l e22) (by decide) rfl rfl (Nat.le_of_ble_eq_true rfl) R1 R2 ?_
        refine sk_ifeqB 59 K dX11_clique_54 (by decide) (fun h24 => ?_) (fun h24 => ?_)
        · rw [if_neg h24] at hf
          refine sk_iinc (s1.2 + 1) [(3, .int (s1.2 + 1)), (0, .ref p0), (1, .int v6), (2, .int s1.1)] K dX11_clique_59 3 rfl rfl (by decide) rfl ?_
          refine sk_goto 18 K dX11_clique_62 (by decide) ?_
          refine sk_sub [(0, .ref p0), (1, .int v6), (2, .int s1.1), (3, .int (s1.2 + 1))] [1, 2, 3, 0] rfl ?_
          have h9 := ih1 _ (Option.some.inj hf).symm
          exact h9
        · rw [if_pos h24] at hf
          refine sk_iload_n K dX11_clique_57 rfl 3 rfl ?_
          refine sk_istore_n [(2, .int s1.2), (0, .ref p0), (1, .int v6), (3, .int s1.2)] K dX11_clique_58 rfl (by decide) rfl ?_
          refine sk_iinc (s1.2 + 1) [(3, .int (s1.2 + 1)), (2, .int s1.2), (0, .ref p0), (1, .int v6)] K dX11_clique_59 3 rfl rfl (by decide) rfl ?_
          refine sk_goto 18 K dX11_clique_62 (by decide) ?_
          refine sk_sub [(0, .ref p0), (1, .int v6), (2, .int s1.2), (3, .int (s1.2 + 1))] [2, 3, 1, 0] rfl ?_
          have h9 := ih1 _ (Option.some.inj hf).symm
          exact h9
noncomputable def fX11_forcesFrom_L15 (rec : Nat → sk_D → Nat → Int32 → Int32 → Int32 → Int32 → Option (Bool × sk_D)) (S : sk_S) (p0 : Nat) (p1 : Int32) (p2 : Int32) (p3 : Int32) (s1 : Int32 × sk_D) : Option ((Int32 × sk_D) ⊕ ((Bool × sk_D) ⊕ (sk_D))) :=
  if (16 : Int32) ≤ s1.1 then (some (.inr (.inr s1.2))) else (if p3 ≤ 0 then (some (.inr (.inr s1.2))) else (if S.2.1 p0 = (10, 0) then ((rec 1 s1.2 p0 p1 s1.1 p2 p3).bind fun b21 => if b21.1 = true then (some (.inr (.inl (true, b21.2)))) else (some (.inl (s1.1 + 1, b21.2)))) else none))
noncomputable def fX11_forcesFrom_o (rec : Nat → sk_D → Nat → Int32 → Int32 → Int32 → Int32 → Option (Bool × sk_D)) (S : sk_S) (d : sk_D) (p0 : Nat) (p1 : Int32) (p2 : Int32) (p3 : Int32) : Option (Bool × sk_D) :=
  if S.2.1 p0 = (10, 0) then ((fX11_hasAll S d p0 p1 p2 true).bind fun v1 => if v1 = true then (some (true, d)) else ((sk_itr (fX11_forcesFrom_L15 rec S p0 p1 p2 p3) ((0 : Int32), d)).bind fun x1 => (match x1 with | .inl r => some r | .inr y1 => if p3 ≤ 0 then (some (false, y1)) else (if S.2.1 p0 = (10, 0) then ((rec 2 y1 p0 p1 p2 (p3 - (1 : Int32)) 0).bind fun b11 => if b11.1 = true then (some (true, b11.2)) else (some (false, b11.2))) else none)))) else none
noncomputable def fX11_forcesBy_o (rec : Nat → sk_D → Nat → Int32 → Int32 → Int32 → Int32 → Option (Bool × sk_D)) (S : sk_S) (d : sk_D) (p0 : Nat) (p1 : Int32) (p2 : Int32) (p3 : Int32) (p4 : Int32) : Option (Bool × sk_D) :=
  if S.2.1 p0 = (10, 0) then ((fX11_movedTo S d p0 p1 p2).bind fun b5 => if b5.1 = (-1 : Int32) then (some (false, b5.2)) else (if S.2.1 p0 = (10, 0) then ((rec 2 b5.2 p0 b5.1 p3 (p4 - (1 : Int32)) 0).bind fun b12 => if b12.1 = true then (some (true, b12.2)) else (some (false, b12.2))) else none)) else none
noncomputable def fX11_officerCant_L21 (rec : Nat → sk_D → Nat → Int32 → Int32 → Int32 → Int32 → Option (Bool × sk_D)) (S : sk_S) (p0 : Nat) (p1 : Int32) (p2 : Int32) (p3 : Int32) (s1 : Int32 × sk_D) : Option ((Int32 × sk_D) ⊕ ((Bool × sk_D) ⊕ (sk_D))) :=
  (sk_gR S p0 10 1).bind fun v12 => (sk_lI S s1.2 v12 20 (1 : Int32)).bind fun v14 => if v14 ≤ s1.1 then (some (.inr (.inr s1.2))) else (if S.2.1 p0 = (10, 0) then ((fX11_askedOf S s1.2 p0 p1 s1.1).bind fun b21 => if b21.1 = 0 then (some (.inl (s1.1 + 1, b21.2))) else ((fX11_opened S b21.2 p1 b21.1).bind fun v23 => if S.2.1 p0 = (10, 0) then ((rec 0 b21.2 p0 v23 p2 p3 0).bind fun b29 => if b29.1 = true then (some (.inl (s1.1 + 1, b29.2))) else (some (.inr (.inl (false, b29.2))))) else none)) else none)
noncomputable def fX11_officerCant_o (rec : Nat → sk_D → Nat → Int32 → Int32 → Int32 → Int32 → Option (Bool × sk_D)) (S : sk_S) (d : sk_D) (p0 : Nat) (p1 : Int32) (p2 : Int32) (p3 : Int32) : Option (Bool × sk_D) :=
  if S.2.1 p0 = (10, 0) then ((fX11_hasAll S d p0 p1 p2 true).bind fun v1 => if v1 = true then (some (true, d)) else (if p3 = 0 then (some (false, d)) else ((sk_itr (fX11_officerCant_L21 rec S p0 p1 p2 p3) ((0 : Int32), d)).bind fun x1 => (match x1 with | .inl r => some r | .inr y1 => if S.2.1 p0 = (10, 0) then ((rec 0 y1 p0 p1 p2 p3 0).bind fun b10 => some (b10.1, b10.2)) else none)))) else none
noncomputable def gX11f (S : sk_S) : Nat → Nat → sk_D → Nat → Int32 → Int32 → Int32 → Int32 → Option (Bool × sk_D)
  | 0 => fun _ _ _ _ _ _ _ => none
  | n + 1 => fun t d x0 x1 x2 x3 x4 => match t with
    | 0 => fX11_forcesFrom_o (gX11f S n) S d x0 x1 x2 x3
    | 1 => fX11_forcesBy_o (gX11f S n) S d x0 x1 x2 x3 x4
    | _ => fX11_officerCant_o (gX11f S n) S d x0 x1 x2 x3
def mX11f (C : sk_C) (l : Launch) (S : sk_S) (n : Nat) : Prop := (∀ (d : sk_D) (p0 : Nat) (p1 : Int32) (p2 : Int32) (p3 : Int32) (rr : Bool) (dd : sk_D), gX11f S n 0 d p0 p1 p2 p3 0 = some (rr, dd) → sk_Met C l (7 + n) yX11_forcesFrom cX11_forcesFrom 5 (some .boolean) [.ref p0, .int p1, .int p2, .int p3] S d (some (.int (sk_b rr))) S dd) ∧ (∀ (d : sk_D) (p0 : Nat) (p1 : Int32) (p2 : Int32) (p3 : Int32) (p4 : Int32) (rr : Bool) (dd : sk_D), gX11f S n 1 d p0 p1 p2 p3 p4 = some (rr, dd) → sk_Met C l (7 + n) yX11_forcesBy cX11_forcesBy 6 (some .boolean) [.ref p0, .int p1, .int p2, .int p3, .int p4] S d (some (.int (sk_b rr))) S dd) ∧ (∀ (d : sk_D) (p0 : Nat) (p1 : Int32) (p2 : Int32) (p3 : Int32) (rr : Bool) (dd : sk_D), gX11f S n 2 d p0 p1 p2 p3 0 = some (rr, dd) → sk_Met C l (7 + n) yX11_officerCant cX11_officerCant 6 (some .boolean) [.ref p0, .int p1, .int p2, .int p3] S d (some (.int (sk_b rr))) S dd)
set_option maxRecDepth 100000 in
set_option maxHeartbeats 4000000 in
theorem sX11_forcesFrom_o (C : sk_C) (l : Launch) {S : sk_S} (n : Nat) (ih : mX11f C l S n) {d : sk_D} {p0 : Nat} {p1 : Int32} {p2 : Int32} {p3 : Int32} {rr : Bool} {dd : sk_D} (hf : fX11_forcesFrom_o (gX11f S n) S d p0 p1 p2 p3 = some (rr, dd)) : sk_Met C l (7 + (n + 1)) yX11_forcesFrom cX11_forcesFrom 5 (some .boolean) [.ref p0, .int p1, .int p2, .int p3] S d (some (.int (sk_b rr))) S dd := by
  refine sk_Met.of (by decide) (Nat.le_of_ble_eq_true rfl) (Nat.le_refl _) (Nat.le_refl _) (fun X K0 hX => ?_)
  have K : sk_Ok X C cX11_forcesFrom 5 RX11 "forcesFrom" (some .boolean) (7 + (n + 1)) l (some (.int (sk_b rr))) S dd := K0
  have R1 : X.2.2.2.2.2.2.2.2.2.2.2.1 ≤ S.1.1 ∧ X.2.2.2.2.2.2.2.2.2.2.2.2 ≤ S.1.2 := by rw [hX]; exact ⟨Nat.le_refl _, Nat.le_refl _⟩
  have R2 : S.1.1 ≤ S.1.1 ∧ S.1.2 ≤ S.1.2 := ⟨Nat.le_refl _, Nat.le_refl _⟩
  show sk_G X C 5 S d 0 [(0, .ref p0), (1, .int p1), (2, .int p2), (3, .int p3)] []
  unfold fX11_forcesFrom_o at hf
  refine sk_aload_n K dX11_forcesFrom_0 rfl 0 rfl ?_
  refine sk_iload_n K dX11_forcesFrom_1 rfl 1 rfl ?_
  refine sk_iload_n K dX11_forcesFrom_2 rfl 2 rfl ?_
  refine sk_iconst (1 : Int32) K dX11_forcesFrom_3 (by decide) ?_
  obtain ⟨h3, hf⟩ := sk_ib hf
  obtain ⟨v1, e2, hf⟩ := sk_ob hf
  refine sk_callV (As := [.int p1, .int p2, .int (sk_b true)]) (st := []) K dX11_forcesFrom_4 cl_X11_368 h3 (sX11_hasAll C l e2) (by omega) rfl rfl (Nat.le_of_ble_eq_true rfl) R1 R2 ?_
  refine sk_ifeqB 12 K dX11_forcesFrom_7 (by decide) (fun h4 => ?_) (fun h4 => ?_)
  · rw [if_neg h4] at hf
    refine sk_iconst (0 : Int32) K dX11_forcesFrom_12 (by decide) ?_
    refine sk_istore [(4, .int (0 : Int32)), (0, .ref p0), (1, .int p1), (2, .int p2), (3, .int p3)] K dX11_forcesFrom_13 (by decide) rfl ?_
    obtain ⟨x1, he1, hf⟩ := sk_ob hf
    have hret1 : ∀ r, .inl r = x1 → r = (rr, dd) := by
      intro r hr
      subst hr
      exact Option.some.inj hf
    have rest1 : ∀ y1, .inr y1 = x1 → sk_G X C 5 S y1 46 [(0, .ref p0), (1, .int p1), (2, .int p2), (3, .int p3)] [] := by
      intro y1 hy
      subst hy
      dsimp only at hf
      refine sk_iload_n K dX11_forcesFrom_46 rfl 3 rfl ?_
      refine sk_if_le 66 K dX11_forcesFrom_47 (by decide) (fun h5 => ?_) (fun h5 => ?_)
      · rw [if_pos h5] at hf
        refine sk_iconst (0 : Int32) K dX11_forcesFrom_66 (by decide) ?_
        have hR6 : (false, y1) = (rr, dd) := Option.some.inj hf
        exact sk_zret (x := false) K dX11_forcesFrom_67 rfl rfl (congrArg (fun z => z.1) hR6) rfl (congrArg (fun z => z.2) hR6)
      · rw [if_neg h5] at hf
        refine sk_aload_n K dX11_forcesFrom_50 rfl 0 rfl ?_
        refine sk_iload_n K dX11_forcesFrom_51 rfl 1 rfl ?_
        refine sk_iload_n K dX11_forcesFrom_52 rfl 2 rfl ?_
        refine sk_iload_n K dX11_forcesFrom_53 rfl 3 rfl ?_
        refine sk_iconst (1 : Int32) K dX11_forcesFrom_54 (by decide) ?_
        refine sk_isub K dX11_forcesFrom_55 ?_
        obtain ⟨h10, hf⟩ := sk_ib hf
        obtain ⟨⟨v7, d9⟩, e8, hf⟩ := sk_ob hf
        try dsimp only at hf
        refine sk_callV (As := [.int p1, .int p2, .int (p3 - (1 : Int32))]) (st := []) K dX11_forcesFrom_56 cl_X11_447 h10 (ih.2.2 _ _ _ _ _ _ _ e8) (by omega) rfl rfl (Nat.le_of_ble_eq_true rfl) R1 R2 ?_
        refine sk_ifeqB 66 K dX11_forcesFrom_59 (by decide) (fun h12 => ?_) (fun h12 => ?_)
        · rw [if_neg h12] at hf
          refine sk_iconst (0 : Int32) K dX11_forcesFrom_66 (by decide) ?_
          have hR13 : (false, d9) = (rr, dd) := Option.some.inj hf
          exact sk_zret (x := false) K dX11_forcesFrom_67 rfl rfl (congrArg (fun z => z.1) hR13) rfl (congrArg (fun z => z.2) hR13)
        · rw [if_pos h12] at hf
          refine sk_iconst (1 : Int32) K dX11_forcesFrom_62 (by decide) ?_
          refine sk_goto 67 K dX11_forcesFrom_63 (by decide) ?_
          have hR14 : (true, d9) = (rr, dd) := Option.some.inj hf
          exact sk_zret (x := true) K dX11_forcesFrom_67 rfl rfl (congrArg (fun z => z.1) hR14) rfl (congrArg (fun z => z.2) hR14)
    refine sk_sub [(0, .ref p0), (1, .int p1), (2, .int p2), (3, .int p3), (4, .int (0 : Int32))] [1, 2, 3, 4, 0] rfl ?_
    refine sk_loop (fun s1 => sk_G X C 5 S s1.2 15 [(0, .ref p0), (1, .int p1), (2, .int p2), (3, .int p3), (4, .int s1.1)] []) he1 (fun s1 o1 hf ih1 hx1 => ?_)
    unfold fX11_forcesFrom_L15 at hf
    refine sk_iload K dX11_forcesFrom_15 4 rfl ?_
    refine sk_bipush (16 : Int32) K dX11_forcesFrom_17 (by decide) ?_
    refine sk_icmp_ge 46 K dX11_forcesFrom_19 (by decide) (fun h15 => ?_) (fun h15 => ?_)
    · rw [if_pos h15] at hf
      refine sk_sub [(0, .ref p0), (1, .int p1), (2, .int p2), (3, .int p3)] [0, 1, 2, 3] rfl ?_
      have h9 := rest1 _ (hx1 _ (Option.some.inj hf).symm)
      exact h9
    · rw [if_neg h15] at hf
      refine sk_iload_n K dX11_forcesFrom_22 rfl 3 rfl ?_
      refine sk_if_le 46 K dX11_forcesFrom_23 (by decide) (fun h16 => ?_) (fun h16 => ?_)
      · rw [if_pos h16] at hf
        refine sk_sub [(0, .ref p0), (1, .int p1), (2, .int p2), (3, .int p3)] [0, 1, 2, 3] rfl ?_
        have h9 := rest1 _ (hx1 _ (Option.some.inj hf).symm)
        exact h9
      · rw [if_neg h16] at hf
        refine sk_aload_n K dX11_forcesFrom_26 rfl 0 rfl ?_
        refine sk_iload_n K dX11_forcesFrom_27 rfl 1 rfl ?_
        refine sk_iload K dX11_forcesFrom_28 4 rfl ?_
        refine sk_iload_n K dX11_forcesFrom_30 rfl 2 rfl ?_
        refine sk_iload_n K dX11_forcesFrom_31 rfl 3 rfl ?_
        obtain ⟨h20, hf⟩ := sk_ib hf
        obtain ⟨⟨v17, d19⟩, e18, hf⟩ := sk_ob hf
        try dsimp only at hf
        refine sk_callV (As := [.int p1, .int s1.1, .int p2, .int p3]) (st := []) K dX11_forcesFrom_32 cl_X11_444 h20 (ih.2.1 _ _ _ _ _ _ _ _ e18) (by omega) rfl rfl (Nat.le_of_ble_eq_true rfl) R1 R2 ?_
        refine sk_ifeqB 40 K dX11_forcesFrom_35 (by decide) (fun h22 => ?_) (fun h22 => ?_)
        · rw [if_neg h22] at hf
          refine sk_iinc (s1.1 + 1) [(4, .int (s1.1 + 1)), (0, .ref p0), (1, .int p1), (2, .int p2), (3, .int p3)] K dX11_forcesFrom_40 4 rfl rfl (by decide) rfl ?_
          refine sk_goto 15 K dX11_forcesFrom_43 (by decide) ?_
          refine sk_sub [(0, .ref p0), (1, .int p1), (2, .int p2), (3, .int p3), (4, .int (s1.1 + 1))] [1, 2, 3, 4, 0] rfl ?_
          have h9 := ih1 _ (Option.some.inj hf).symm
          exact h9
        · rw [if_pos h22] at hf
          refine sk_iconst (1 : Int32) K dX11_forcesFrom_38 (by decide) ?_
          have hR23 : (true, d19) = (rr, dd) := hret1 _ (hx1 _ (Option.some.inj hf).symm)
          exact sk_zret (x := true) K dX11_forcesFrom_39 rfl rfl (congrArg (fun z => z.1) hR23) rfl (congrArg (fun z => z.2) hR23)
  · rw [if_pos h4] at hf
    refine sk_iconst (1 : Int32) K dX11_forcesFrom_10 (by decide) ?_
    have hR24 : (true, d) = (rr, dd) := Option.some.inj hf
    exact sk_zret (x := true) K dX11_forcesFrom_11 rfl rfl (congrArg (fun z => z.1) hR24) rfl (congrArg (fun z => z.2) hR24)
set_option maxRecDepth 100000 in
set_option maxHeartbeats 4000000 in
theorem sX11_forcesBy_o (C : sk_C) (l : Launch) {S : sk_S} (n : Nat) (ih : mX11f C l S n) {d : sk_D} {p0 : Nat} {p1 : Int32} {p2 : Int32} {p3 : Int32} {p4 : Int32} {rr : Bool} {dd : sk_D} (hf : fX11_forcesBy_o (gX11f S n) S d p0 p1 p2 p3 p4 = some (rr, dd)) : sk_Met C l (7 + (n + 1)) yX11_forcesBy cX11_forcesBy 6 (some .boolean) [.ref p0, .int p1, .int p2, .int p3, .int p4] S d (some (.int (sk_b rr))) S dd := by
  refine sk_Met.of (by decide) (Nat.le_of_ble_eq_true rfl) (Nat.le_refl _) (Nat.le_refl _) (fun X K0 hX => ?_)
  have K : sk_Ok X C cX11_forcesBy 6 RX11 "forcesBy" (some .boolean) (7 + (n + 1)) l (some (.int (sk_b rr))) S dd := K0
  have R1 : X.2.2.2.2.2.2.2.2.2.2.2.1 ≤ S.1.1 ∧ X.2.2.2.2.2.2.2.2.2.2.2.2 ≤ S.1.2 := by rw [hX]; exact ⟨Nat.le_refl _, Nat.le_refl _⟩
  have R2 : S.1.1 ≤ S.1.1 ∧ S.1.2 ≤ S.1.2 := ⟨Nat.le_refl _, Nat.le_refl _⟩
  show sk_G X C 6 S d 0 [(0, .ref p0), (1, .int p1), (2, .int p2), (3, .int p3), (4, .int p4)] []
  unfold fX11_forcesBy_o at hf
  refine sk_aload_n K dX11_forcesBy_0 rfl 0 rfl ?_
  refine sk_iload_n K dX11_forcesBy_1 rfl 1 rfl ?_
  refine sk_iload_n K dX11_forcesBy_2 rfl 2 rfl ?_
  obtain ⟨h4, hf⟩ := sk_ib hf
  obtain ⟨⟨v1, d3⟩, e2, hf⟩ := sk_ob hf
  try dsimp only at hf
  refine sk_callV (As := [.int p1, .int p2]) (st := []) K dX11_forcesBy_3 cl_X11_361 h4 (sX11_movedTo C l e2) (by omega) rfl rfl (Nat.le_of_ble_eq_true rfl) R1 R2 ?_
  refine sk_istore [(5, .int v1), (0, .ref p0), (1, .int p1), (2, .int p2), (3, .int p3), (4, .int p4)] K dX11_forcesBy_6 (by decide) rfl ?_
  refine sk_iload K dX11_forcesBy_8 0 rfl ?_
  refine sk_iconst (-1 : Int32) K dX11_forcesBy_10 (by decide) ?_
  refine sk_icmp_eq 32 K dX11_forcesBy_11 (by decide) (fun h6 => ?_) (fun h6 => ?_)
  · rw [if_pos h6] at hf
    refine sk_iconst (0 : Int32) K dX11_forcesBy_32 (by decide) ?_
    have hR7 : (false, d3) = (rr, dd) := Option.some.inj hf
    exact sk_zret (x := false) K dX11_forcesBy_33 rfl rfl (congrArg (fun z => z.1) hR7) rfl (congrArg (fun z => z.2) hR7)
  · rw [if_neg h6] at hf
    refine sk_aload_n K dX11_forcesBy_14 rfl 1 rfl ?_
    refine sk_iload K dX11_forcesBy_15 0 rfl ?_
    refine sk_iload_n K dX11_forcesBy_17 rfl 4 rfl ?_
    refine sk_iload K dX11_forcesBy_18 5 rfl ?_
    refine sk_iconst (1 : Int32) K dX11_forcesBy_20 (by decide) ?_
    refine sk_isub K dX11_forcesBy_21 ?_
    obtain ⟨h11, hf⟩ := sk_ib hf
    obtain ⟨⟨v8, d10⟩, e9, hf⟩ := sk_ob hf
    try dsimp only at hf
    refine sk_callV (As := [.int v1, .int p3, .int (p4 - (1 : Int32))]) (st := []) K dX11_forcesBy_22 cl_X11_447 h11 (ih.2.2 _ _ _ _ _ _ _ e9) (by omega) rfl rfl (Nat.le_of_ble_eq_true rfl) R1 R2 ?_
    refine sk_ifeqB 32 K dX11_forcesBy_25 (by decide) (fun h13 => ?_) (fun h13 => ?_)
    · rw [if_neg h13] at hf
      refine sk_iconst (0 : Int32) K dX11_forcesBy_32 (by decide) ?_
      have hR14 : (false, d10) = (rr, dd) := Option.some.inj hf
      exact sk_zret (x := false) K dX11_forcesBy_33 rfl rfl (congrArg (fun z => z.1) hR14) rfl (congrArg (fun z => z.2) hR14)
    · rw [if_pos h13] at hf
      refine sk_iconst (1 : Int32) K dX11_forcesBy_28 (by decide) ?_
      refine sk_goto 33 K dX11_forcesBy_29 (by decide) ?_
      have hR15 : (true, d10) = (rr, dd) := Option.some.inj hf
      exact sk_zret (x := true) K dX11_forcesBy_33 rfl rfl (congrArg (fun z => z.1) hR15) rfl (congrArg (fun z => z.2) hR15)
set_option maxRecDepth 100000 in
set_option maxHeartbeats 4000000 in
theorem sX11_officerCant_o (C : sk_C) (l : Launch) {S : sk_S} (n : Nat) (ih : mX11f C l S n) {d : sk_D} {p0 : Nat} {p1 : Int32} {p2 : Int32} {p3 : Int32} {rr : Bool} {dd : sk_D} (hf : fX11_officerCant_o (gX11f S n) S d p0 p1 p2 p3 = some (rr, dd)) : sk_Met C l (7 + (n + 1)) yX11_officerCant cX11_officerCant 6 (some .boolean) [.ref p0, .int p1, .int p2, .int p3] S d (some (.int (sk_b rr))) S dd := by
  refine sk_Met.of (by decide) (Nat.le_of_ble_eq_true rfl) (Nat.le_refl _) (Nat.le_refl _) (fun X K0 hX => ?_)
  have K : sk_Ok X C cX11_officerCant 6 RX11 "officerCant" (some .boolean) (7 + (n + 1)) l (some (.int (sk_b rr))) S dd := K0
  have R1 : X.2.2.2.2.2.2.2.2.2.2.2.1 ≤ S.1.1 ∧ X.2.2.2.2.2.2.2.2.2.2.2.2 ≤ S.1.2 := by rw [hX]; exact ⟨Nat.le_refl _, Nat.le_refl _⟩
  have R2 : S.1.1 ≤ S.1.1 ∧ S.1.2 ≤ S.1.2 := ⟨Nat.le_refl _, Nat.le_refl _⟩
  show sk_G X C 6 S d 0 [(0, .ref p0), (1, .int p1), (2, .int p2), (3, .int p3)] []
  unfold fX11_officerCant_o at hf
  refine sk_aload_n K dX11_officerCant_0 rfl 0 rfl ?_
  refine sk_iload_n K dX11_officerCant_1 rfl 1 rfl ?_
  refine sk_iload_n K dX11_officerCant_2 rfl 2 rfl ?_
  refine sk_iconst (1 : Int32) K dX11_officerCant_3 (by decide) ?_
  obtain ⟨h3, hf⟩ := sk_ib hf
  obtain ⟨v1, e2, hf⟩ := sk_ob hf
  refine sk_callV (As := [.int p1, .int p2, .int (sk_b true)]) (st := []) K dX11_officerCant_4 cl_X11_368 h3 (sX11_hasAll C l e2) (by omega) rfl rfl (Nat.le_of_ble_eq_true rfl) R1 R2 ?_
  refine sk_ifeqB 12 K dX11_officerCant_7 (by decide) (fun h4 => ?_) (fun h4 => ?_)
  · rw [if_neg h4] at hf
    refine sk_iload_n K dX11_officerCant_12 rfl 3 rfl ?_
    refine sk_if_ne 18 K dX11_officerCant_13 (by decide) (fun h5 => ?_) (fun h5 => ?_)
    · rw [if_neg h5] at hf
      refine sk_iconst (0 : Int32) K dX11_officerCant_18 (by decide) ?_
      refine sk_istore [(4, .int (0 : Int32)), (0, .ref p0), (1, .int p1), (2, .int p2), (3, .int p3)] K dX11_officerCant_19 (by decide) rfl ?_
      obtain ⟨x1, he1, hf⟩ := sk_ob hf
      have hret1 : ∀ r, .inl r = x1 → r = (rr, dd) := by
        intro r hr
        subst hr
        exact Option.some.inj hf
      have rest1 : ∀ y1, .inr y1 = x1 → sk_G X C 6 S y1 69 [(0, .ref p0), (1, .int p1), (2, .int p2), (3, .int p3)] [] := by
        intro y1 hy
        subst hy
        dsimp only at hf
        refine sk_aload_n K dX11_officerCant_69 rfl 0 rfl ?_
        refine sk_iload_n K dX11_officerCant_70 rfl 1 rfl ?_
        refine sk_iload_n K dX11_officerCant_71 rfl 2 rfl ?_
        refine sk_iload_n K dX11_officerCant_72 rfl 3 rfl ?_
        obtain ⟨h9, hf⟩ := sk_ib hf
        obtain ⟨⟨v6, d8⟩, e7, hf⟩ := sk_ob hf
        try dsimp only at hf
        refine sk_callV (As := [.int p1, .int p2, .int p3]) (st := []) K dX11_officerCant_73 cl_X11_450 h9 (ih.1 _ _ _ _ _ _ _ e7) (by omega) rfl rfl (Nat.le_of_ble_eq_true rfl) R1 R2 ?_
        have hR11 : (v6, d8) = (rr, dd) := Option.some.inj hf
        exact sk_zret K dX11_officerCant_76 rfl rfl (congrArg (fun z => z.1) hR11) rfl (congrArg (fun z => z.2) hR11)
      refine sk_sub [(0, .ref p0), (1, .int p1), (2, .int p2), (3, .int p3), (4, .int (0 : Int32))] [1, 2, 3, 4, 0] rfl ?_
      refine sk_loop (fun s1 => sk_G X C 6 S s1.2 21 [(0, .ref p0), (1, .int p1), (2, .int p2), (3, .int p3), (4, .int s1.1)] []) he1 (fun s1 o1 hf ih1 hx1 => ?_)
      unfold fX11_officerCant_L21 at hf
      refine sk_iload K dX11_officerCant_21 4 rfl ?_
      refine sk_aload_n K dX11_officerCant_23 rfl 0 rfl ?_
      obtain ⟨v12, e13, hf⟩ := sk_ob hf
      refine sk_getR K dX11_officerCant_24 fl_X11_13 rfl e13 ?_
      refine sk_iconst (1 : Int32) K dX11_officerCant_27 (by decide) ?_
      obtain ⟨v14, e15, hf⟩ := sk_ob hf
      refine sk_ald20 K dX11_officerCant_28 e15 ?_
      refine sk_icmp_ge 69 K dX11_officerCant_29 (by decide) (fun h16 => ?_) (fun h16 => ?_)
      · rw [if_pos h16] at hf
        refine sk_sub [(0, .ref p0), (1, .int p1), (2, .int p2), (3, .int p3)] [0, 1, 2, 3] rfl ?_
        have h9 := rest1 _ (hx1 _ (Option.some.inj hf).symm)
        exact h9
      · rw [if_neg h16] at hf
        refine sk_aload_n K dX11_officerCant_32 rfl 0 rfl ?_
        refine sk_iload_n K dX11_officerCant_33 rfl 1 rfl ?_
        refine sk_iload K dX11_officerCant_34 4 rfl ?_
        obtain ⟨h20, hf⟩ := sk_ib hf
        obtain ⟨⟨v17, d19⟩, e18, hf⟩ := sk_ob hf
        try dsimp only at hf
        refine sk_callV (As := [.int p1, .int s1.1]) (st := []) K dX11_officerCant_36 cl_X11_301 h20 (sX11_askedOf C l e18) (by omega) rfl rfl (Nat.le_of_ble_eq_true rfl) R1 R2 ?_
        refine sk_istore [(5, .int v17), (0, .ref p0), (1, .int p1), (2, .int p2), (3, .int p3), (4, .int s1.1)] K dX11_officerCant_39 (by decide) rfl ?_
        refine sk_iload K dX11_officerCant_41 0 rfl ?_
        refine sk_if_eq 63 K dX11_officerCant_43 (by decide) (fun h22 => ?_) (fun h22 => ?_)
        · rw [if_pos h22] at hf
          refine sk_iinc (s1.1 + 1) [(4, .int (s1.1 + 1)), (5, .int v17), (0, .ref p0), (1, .int p1), (2, .int p2), (3, .int p3)] K dX11_officerCant_63 5 rfl rfl (by decide) rfl ?_
          refine sk_goto 21 K dX11_officerCant_66 (by decide) ?_
          refine sk_sub [(0, .ref p0), (1, .int p1), (2, .int p2), (3, .int p3), (4, .int (s1.1 + 1))] [2, 3, 4, 5, 0] rfl ?_
          have h9 := ih1 _ (Option.some.inj hf).symm
          exact h9
        · rw [if_neg h22] at hf
          refine sk_aload_n K dX11_officerCant_46 rfl 1 rfl ?_
          refine sk_iload_n K dX11_officerCant_47 rfl 2 rfl ?_
          refine sk_iload K dX11_officerCant_48 0 rfl ?_
          obtain ⟨v23, e24, hf⟩ := sk_ob hf
          refine sk_callS (As := [.int p1, .int v17]) (st := [.ref p0]) K dX11_officerCant_50 cl_X11_304 (sX11_opened C l e24) (by omega) rfl rfl (Nat.le_of_ble_eq_true rfl) R1 R2 ?_
          refine sk_iload_n K dX11_officerCant_53 rfl 3 rfl ?_
          refine sk_iload_n K dX11_officerCant_54 rfl 4 rfl ?_
          obtain ⟨h28, hf⟩ := sk_ib hf
          obtain ⟨⟨v25, d27⟩, e26, hf⟩ := sk_ob hf
          try dsimp only at hf
          refine sk_callV (As := [.int v23, .int p2, .int p3]) (st := []) K dX11_officerCant_55 cl_X11_450 h28 (ih.1 _ _ _ _ _ _ _ e26) (by omega) rfl rfl (Nat.le_of_ble_eq_true rfl) R1 R2 ?_
          refine sk_ifneB 63 K dX11_officerCant_58 (by decide) (fun h30 => ?_) (fun h30 => ?_)
          · rw [if_pos h30] at hf
            refine sk_iinc (s1.1 + 1) [(4, .int (s1.1 + 1)), (5, .int v17), (0, .ref p0), (1, .int p1), (2, .int p2), (3, .int p3)] K dX11_officerCant_63 5 rfl rfl (by decide) rfl ?_
            refine sk_goto 21 K dX11_officerCant_66 (by decide) ?_
            refine sk_sub [(0, .ref p0), (1, .int p1), (2, .int p2), (3, .int p3), (4, .int (s1.1 + 1))] [2, 3, 4, 5, 0] rfl ?_
            have h9 := ih1 _ (Option.some.inj hf).symm
            exact h9
          · rw [if_neg h30] at hf
            refine sk_iconst (0 : Int32) K dX11_officerCant_61 (by decide) ?_
            have hR31 : (false, d27) = (rr, dd) := hret1 _ (hx1 _ (Option.some.inj hf).symm)
            exact sk_zret (x := false) K dX11_officerCant_62 rfl rfl (congrArg (fun z => z.1) hR31) rfl (congrArg (fun z => z.2) hR31)
    · rw [if_pos h5] at hf
      refine sk_iconst (0 : Int32) K dX11_officerCant_16 (by decide) ?_
      have hR32 : (false, d) = (rr, dd) := Option.some.inj hf
      exact sk_zret (x := false) K dX11_officerCant_17 rfl rfl (congrArg (fun z => z.1) hR32) rfl (congrArg (fun z => z.2) hR32)
  · rw [if_pos h4] at hf
    refine sk_iconst (1 : Int32) K dX11_officerCant_10 (by decide) ?_
    have hR33 : (true, d) = (rr, dd) := Option.some.inj hf
    exact sk_zret (x := true) K dX11_officerCant_11 rfl rfl (congrArg (fun z => z.1) hR33) rfl (congrArg (fun z => z.2) hR33)
theorem gX11f_all (C : sk_C) (l : Launch) (S : sk_S) : ∀ n : Nat, mX11f C l S n := by
  intro n
  induction n with
  | zero =>
    exact ⟨(fun _ _ _ _ _ _ _ hf => by cases hf), (fun _ _ _ _ _ _ _ _ hf => by cases hf), (fun _ _ _ _ _ _ _ hf => by cases hf)⟩
  | succ n ih =>
    exact ⟨(fun _ _ _ _ _ _ _ hf => sX11_forcesFrom_o C l n ih hf), (fun _ _ _ _ _ _ _ _ hf => sX11_forcesBy_o C l n ih hf), (fun _ _ _ _ _ _ _ hf => sX11_officerCant_o C l n ih hf)⟩
noncomputable def fX11_forcesFrom (S : sk_S) (d : sk_D) (p0 : Nat) (p1 : Int32) (p2 : Int32) (p3 : Int32) : Option (Bool × sk_D) := gX11f S 100 0 d p0 p1 p2 p3 0
theorem sX11_forcesFrom (C : sk_C) (l : Launch) {S : sk_S} {d : sk_D} {p0 : Nat} {p1 : Int32} {p2 : Int32} {p3 : Int32} {rr : Bool} {dd : sk_D} (hf : fX11_forcesFrom S d p0 p1 p2 p3 = some (rr, dd)) : sk_Met C l 107 yX11_forcesFrom cX11_forcesFrom 5 (some .boolean) [.ref p0, .int p1, .int p2, .int p3] S d (some (.int (sk_b rr))) S dd := (gX11f_all C l S 100).1 _ _ _ _ _ _ _ hf
noncomputable def fX11_forcesBy (S : sk_S) (d : sk_D) (p0 : Nat) (p1 : Int32) (p2 : Int32) (p3 : Int32) (p4 : Int32) : Option (Bool × sk_D) := gX11f S 100 1 d p0 p1 p2 p3 p4
theorem sX11_forcesBy (C : sk_C) (l : Launch) {S : sk_S} {d : sk_D} {p0 : Nat} {p1 : Int32} {p2 : Int32} {p3 : Int32} {p4 : Int32} {rr : Bool} {dd : sk_D} (hf : fX11_forcesBy S d p0 p1 p2 p3 p4 = some (rr, dd)) : sk_Met C l 107 yX11_forcesBy cX11_forcesBy 6 (some .boolean) [.ref p0, .int p1, .int p2, .int p3, .int p4] S d (some (.int (sk_b rr))) S dd := (gX11f_all C l S 100).2.1 _ _ _ _ _ _ _ _ hf
noncomputable def fX11_officerCant (S : sk_S) (d : sk_D) (p0 : Nat) (p1 : Int32) (p2 : Int32) (p3 : Int32) : Option (Bool × sk_D) := gX11f S 100 2 d p0 p1 p2 p3 0
theorem sX11_officerCant (C : sk_C) (l : Launch) {S : sk_S} {d : sk_D} {p0 : Nat} {p1 : Int32} {p2 : Int32} {p3 : Int32} {rr : Bool} {dd : sk_D} (hf : fX11_officerCant S d p0 p1 p2 p3 = some (rr, dd)) : sk_Met C l 107 yX11_officerCant cX11_officerCant 6 (some .boolean) [.ref p0, .int p1, .int p2, .int p3] S d (some (.int (sk_b rr))) S dd := (gX11f_all C l S 100).2.2 _ _ _ _ _ _ _ hf
