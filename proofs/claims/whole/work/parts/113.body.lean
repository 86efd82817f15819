noncomputable def fX11_forcedIn_L2 (S : sk_S) (p0 : Nat) (p1 : Int32) (s1 : Int32 × sk_D) : Option ((Int32 × sk_D) ⊕ (Int32 × sk_D)) :=
  if (3 : Int32) < s1.1 then (some (.inr ((-1 : Int32), s1.2))) else (if S.2.1 p0 = (10, 0) then ((fX11_standNow S s1.2 p0).bind fun v3 => if S.2.1 p0 = (10, 0) then ((fX11_forcesFrom S s1.2 p0 v3 p1 s1.1).bind fun b10 => if b10.1 = true then (some (.inr (s1.1, b10.2))) else (some (.inl (s1.1 + 1, b10.2)))) else none) else none)
noncomputable def fX11_forcedIn (S : sk_S) (d : sk_D) (p0 : Nat) (p1 : Int32) : Option (Int32 × sk_D) :=
  (sk_itr (fX11_forcedIn_L2 S p0 p1) ((0 : Int32), d)).bind fun x1 => some x1
set_option maxRecDepth 100000 in
set_option maxHeartbeats 4000000 in
theorem sX11_forcedIn (C : sk_C) (l : Launch) {S : sk_S} {d : sk_D} {p0 : Nat} {p1 : Int32} {rr : Int32} {dd : sk_D} (hf : fX11_forcedIn S d p0 p1 = some (rr, dd)) : sk_Met C l 108 yX11_forcedIn cX11_forcedIn 3 (some .int) [.ref p0, .int p1] S d (some (.int rr)) S dd := by
  refine sk_Met.of (by decide) (Nat.le_of_ble_eq_true rfl) (Nat.le_refl _) (Nat.le_refl _) (fun X K0 hX => ?_)
  have K : sk_Ok X C cX11_forcedIn 3 RX11 "forcedIn" (some .int) 108 l (some (.int rr)) S dd := K0
  have R1 : X.2.2.2.2.2.2.2.2.2.2.2.1 ≤ S.1.1 ∧ X.2.2.2.2.2.2.2.2.2.2.2.2 ≤ S.1.2 := by rw [hX]; exact ⟨Nat.le_refl _, Nat.le_refl _⟩
  have R2 : S.1.1 ≤ S.1.1 ∧ S.1.2 ≤ S.1.2 := ⟨Nat.le_refl _, Nat.le_refl _⟩
  show sk_G X C 3 S d 0 [(0, .ref p0), (1, .int p1)] []
  unfold fX11_forcedIn at hf
  refine sk_iconst (0 : Int32) K dX11_forcedIn_0 (by decide) ?_
  refine sk_istore_n [(2, .int (0 : Int32)), (0, .ref p0), (1, .int p1)] K dX11_forcedIn_1 rfl (by decide) rfl ?_
  obtain ⟨x1, he1, hf⟩ := sk_ob hf
  have hret1 : ∀ r, r = x1 → r = (rr, dd) := by
    intro r hr
    subst hr
    exact Option.some.inj hf
  refine sk_sub [(0, .ref p0), (1, .int p1), (2, .int (0 : Int32))] [1, 2, 0] rfl ?_
  refine sk_loop (fun s1 => sk_G X C 3 S s1.2 2 [(0, .ref p0), (1, .int p1), (2, .int s1.1)] []) he1 (fun s1 o1 hf ih1 hx1 => ?_)
  unfold fX11_forcedIn_L2 at hf
  refine sk_iload_n K dX11_forcedIn_2 rfl 2 rfl ?_
  refine sk_iconst (3 : Int32) K dX11_forcedIn_3 (by decide) ?_
  refine sk_icmp_gt 28 K dX11_forcedIn_4 (by decide) (fun h1 => ?_) (fun h1 => ?_)
  · rw [if_pos h1] at hf
    refine sk_iconst (-1 : Int32) K dX11_forcedIn_28 (by decide) ?_
    have hR2 : ((-1 : Int32), s1.2) = (rr, dd) := hret1 _ (hx1 _ (Option.some.inj hf).symm)
    exact sk_iret K dX11_forcedIn_29 rfl rfl (congrArg (fun z => z.1) hR2) rfl (congrArg (fun z => z.2) hR2)
  · rw [if_neg h1] at hf
    refine sk_aload_n K dX11_forcedIn_7 rfl 0 rfl ?_
    refine sk_aload_n K dX11_forcedIn_8 rfl 0 rfl ?_
    obtain ⟨h5, hf⟩ := sk_ib hf
    obtain ⟨v3, e4, hf⟩ := sk_ob hf
    refine sk_callV (As := []) (st := [.ref p0]) K dX11_forcedIn_9 cl_X11_270 h5 (sX11_standNow C l e4) (by decide) rfl rfl (Nat.le_of_ble_eq_true rfl) R1 R2 ?_
    refine sk_iload_n K dX11_forcedIn_12 rfl 1 rfl ?_
    refine sk_iload_n K dX11_forcedIn_13 rfl 2 rfl ?_
    obtain ⟨h9, hf⟩ := sk_ib hf
    obtain ⟨⟨v6, d8⟩, e7, hf⟩ := sk_ob hf
    try dsimp only at hf
    refine sk_callV (As := [.int v3, .int p1, .int s1.1]) (st := []) K dX11_forcedIn_14 cl_X11_450 h9 (sX11_forcesFrom C l e7) (by decide) rfl rfl (Nat.le_of_ble_eq_true rfl) R1 R2 ?_
    refine sk_ifeqB 22 K dX11_forcedIn_17 (by decide) (fun h11 => ?_) (fun h11 => ?_)
    · rw [if_neg h11] at hf
      refine sk_iinc (s1.1 + 1) [(2, .int (s1.1 + 1)), (0, .ref p0), (1, .int p1)] K dX11_forcedIn_22 2 rfl rfl (by decide) rfl ?_
      refine sk_goto 2 K dX11_forcedIn_25 (by decide) ?_
      refine sk_sub [(0, .ref p0), (1, .int p1), (2, .int (s1.1 + 1))] [1, 2, 0] rfl ?_
      have h9 := ih1 _ (Option.some.inj hf).symm
      exact h9
    · rw [if_pos h11] at hf
      refine sk_iload_n K dX11_forcedIn_20 rfl 2 rfl ?_
      have hR12 : (s1.1, d8) = (rr, dd) := hret1 _ (hx1 _ (Option.some.inj hf).symm)
      exact sk_iret K dX11_forcedIn_21 rfl rfl (congrArg (fun z => z.1) hR12) rfl (congrArg (fun z => z.2) hR12)
noncomputable def fX11_forces (S : sk_S) (d : sk_D) (p0 : Nat) (p1 : Int32) : Option (Int32 × sk_D) :=
  (sk_pI S d p0 10 0 (0 : Int32)).bind fun d1 => if S.2.1 p0 = (10, 0) then ((fX11_isSet S d1 p0 p1).bind fun v3 => if v3 = true then (if S.2.1 p0 = (10, 0) then ((fX11_forcedIn S d1 p0 p1).bind fun b12 => some (b12.1, b12.2)) else none) else (some ((-3 : Int32), d1))) else none
set_option maxRecDepth 100000 in
set_option maxHeartbeats 4000000 in
theorem sX11_forces (C : sk_C) (l : Launch) {S : sk_S} {d : sk_D} {p0 : Nat} {p1 : Int32} {rr : Int32} {dd : sk_D} (hf : fX11_forces S d p0 p1 = some (rr, dd)) : sk_Met C l 109 yX11_forces cX11_forces 2 (some .int) [.ref p0, .int p1] S d (some (.int rr)) S dd := by
  refine sk_Met.of (by decide) (Nat.le_of_ble_eq_true rfl) (Nat.le_refl _) (Nat.le_refl _) (fun X K0 hX => ?_)
  have K : sk_Ok X C cX11_forces 2 RX11 "forces" (some .int) 109 l (some (.int rr)) S dd := K0
  have R1 : X.2.2.2.2.2.2.2.2.2.2.2.1 ≤ S.1.1 ∧ X.2.2.2.2.2.2.2.2.2.2.2.2 ≤ S.1.2 := by rw [hX]; exact ⟨Nat.le_refl _, Nat.le_refl _⟩
  have R2 : S.1.1 ≤ S.1.1 ∧ S.1.2 ≤ S.1.2 := ⟨Nat.le_refl _, Nat.le_refl _⟩
  show sk_G X C 2 S d 0 [(0, .ref p0), (1, .int p1)] []
  unfold fX11_forces at hf
  refine sk_aload_n K dX11_forces_0 rfl 0 rfl ?_
  refine sk_iconst (0 : Int32) K dX11_forces_1 (by decide) ?_
  obtain ⟨d1, e2, hf⟩ := sk_ob hf
  refine sk_putI d1 K dX11_forces_2 fl_X11_1 rfl rfl rfl e2 ?_
  refine sk_aload_n K dX11_forces_5 rfl 0 rfl ?_
  refine sk_iload_n K dX11_forces_6 rfl 1 rfl ?_
  obtain ⟨h5, hf⟩ := sk_ib hf
  obtain ⟨v3, e4, hf⟩ := sk_ob hf
  refine sk_callV (As := [.int p1]) (st := []) K dX11_forces_7 cl_X11_378 h5 (sX11_isSet C l e4) (by decide) rfl rfl (Nat.le_of_ble_eq_true rfl) R1 R2 ?_
  refine sk_ifeqB 21 K dX11_forces_10 (by decide) (fun h6 => ?_) (fun h6 => ?_)
  · rw [if_neg h6] at hf
    refine sk_bipush (-3 : Int32) K dX11_forces_21 (by decide) ?_
    have hR7 : ((-3 : Int32), d1) = (rr, dd) := Option.some.inj hf
    exact sk_iret K dX11_forces_23 rfl rfl (congrArg (fun z => z.1) hR7) rfl (congrArg (fun z => z.2) hR7)
  · rw [if_pos h6] at hf
    refine sk_aload_n K dX11_forces_13 rfl 0 rfl ?_
    refine sk_iload_n K dX11_forces_14 rfl 1 rfl ?_
    obtain ⟨h11, hf⟩ := sk_ib hf
    obtain ⟨⟨v8, d10⟩, e9, hf⟩ := sk_ob hf
    try dsimp only at hf
    refine sk_callV (As := [.int p1]) (st := []) K dX11_forces_15 cl_X11_453 h11 (sX11_forcedIn C l e9) (by decide) rfl rfl (Nat.le_of_ble_eq_true rfl) R1 R2 ?_
    refine sk_goto 23 K dX11_forces_18 (by decide) ?_
    have hR13 : (v8, d10) = (rr, dd) := Option.some.inj hf
    exact sk_iret K dX11_forces_23 rfl rfl (congrArg (fun z => z.1) hR13) rfl (congrArg (fun z => z.2) hR13)
noncomputable def fX11_best_L31 (S : sk_S) (p0 : Nat) (p1 : Int32) (v7 : Int32) (s1 : Int32 × sk_D) : Option ((Int32 × sk_D) ⊕ ((Int32 × sk_D) ⊕ (Int32 × sk_D))) :=
  if (16 : Int32) ≤ s1.1 then (some (.inr (.inl ((99 : Int32), s1.2)))) else (if S.2.1 p0 = (10, 0) then ((fX11_standNow S s1.2 p0).bind fun v18 => if S.2.1 p0 = (10, 0) then ((fX11_forcesBy S s1.2 p0 v18 s1.1 p1 v7).bind fun b25 => if b25.1 = true then (some (.inr (.inr (s1.1, b25.2)))) else (some (.inl (s1.1 + 1, b25.2)))) else none) else none)
noncomputable def fX11_best (S : sk_S) (d : sk_D) (p0 : Nat) (p1 : Int32) : Option (Int32 × sk_D) :=
  (sk_pI S d p0 10 0 (0 : Int32)).bind fun d1 => if S.2.1 p0 = (10, 0) then ((fX11_isSet S d1 p0 p1).bind fun v3 => if v3 = true then (if S.2.1 p0 = (10, 0) then ((fX11_forcedIn S d1 p0 p1).bind fun b11 => if (1 : Int32) ≤ b11.1 then ((sk_itr (fX11_best_L31 S p0 p1 b11.1) ((0 : Int32), b11.2)).bind fun x1 => (match x1 with | .inl r => some r | .inr y1 => (fX11_toldMove S y1.2 y1.1).bind fun v13 => some (v13, y1.2))) else (some ((-1 : Int32), b11.2))) else none) else (some ((-3 : Int32), d1))) else none
set_option maxRecDepth 100000 in
set_option maxHeartbeats 4000000 in
theorem sX11_best (C : sk_C) (l : Launch) {S : sk_S} {d : sk_D} {p0 : Nat} {p1 : Int32} {rr : Int32} {dd : sk_D} (hf : fX11_best S d p0 p1 = some (rr, dd)) : sk_Met C l 109 yX11_best cX11_best 4 (some .int) [.ref p0, .int p1] S d (some (.int rr)) S dd := by
  refine sk_Met.of (by decide) (Nat.le_of_ble_eq_true rfl) (Nat.le_refl _) (Nat.le_refl _) (fun X K0 hX => ?_)
  have K : sk_Ok X C cX11_best 4 RX11 "best" (some .int) 109 l (some (.int rr)) S dd := K0
  have R1 : X.2.2.2.2.2.2.2.2.2.2.2.1 ≤ S.1.1 ∧ X.2.2.2.2.2.2.2.2.2.2.2.2 ≤ S.1.2 := by rw [hX]; exact ⟨Nat.le_refl _, Nat.le_refl _⟩
  have R2 : S.1.1 ≤ S.1.1 ∧ S.1.2 ≤ S.1.2 := ⟨Nat.le_refl _, Nat.le_refl _⟩
  show sk_G X C 4 S d 0 [(0, .ref p0), (1, .int p1)] []
  unfold fX11_best at hf
  refine sk_aload_n K dX11_best_0 rfl 0 rfl ?_
  refine sk_iconst (0 : Int32) K dX11_best_1 (by decide) ?_
  obtain ⟨d1, e2, hf⟩ := sk_ob hf
  refine sk_putI d1 K dX11_best_2 fl_X11_1 rfl rfl rfl e2 ?_
  refine sk_aload_n K dX11_best_5 rfl 0 rfl ?_
  refine sk_iload_n K dX11_best_6 rfl 1 rfl ?_
  obtain ⟨h5, hf⟩ := sk_ib hf
  obtain ⟨v3, e4, hf⟩ := sk_ob hf
  refine sk_callV (As := [.int p1]) (st := []) K dX11_best_7 cl_X11_378 h5 (sX11_isSet C l e4) (by decide) rfl rfl (Nat.le_of_ble_eq_true rfl) R1 R2 ?_
  refine sk_ifneB 16 K dX11_best_10 (by decide) (fun h6 => ?_) (fun h6 => ?_)
  · rw [if_pos h6] at hf
    refine sk_aload_n K dX11_best_16 rfl 0 rfl ?_
    refine sk_iload_n K dX11_best_17 rfl 1 rfl ?_
    obtain ⟨h10, hf⟩ := sk_ib hf
    obtain ⟨⟨v7, d9⟩, e8, hf⟩ := sk_ob hf
    try dsimp only at hf
    refine sk_callV (As := [.int p1]) (st := []) K dX11_best_18 cl_X11_453 h10 (sX11_forcedIn C l e8) (by decide) rfl rfl (Nat.le_of_ble_eq_true rfl) R1 R2 ?_
    refine sk_istore_n [(2, .int v7), (0, .ref p0), (1, .int p1)] K dX11_best_21 rfl (by decide) rfl ?_
    refine sk_iload_n K dX11_best_22 rfl 0 rfl ?_
    refine sk_iconst (1 : Int32) K dX11_best_23 (by decide) ?_
    refine sk_icmp_ge 29 K dX11_best_24 (by decide) (fun h12 => ?_) (fun h12 => ?_)
    · rw [if_pos h12] at hf
      refine sk_iconst (0 : Int32) K dX11_best_29 (by decide) ?_
      refine sk_istore_n [(3, .int (0 : Int32)), (2, .int v7), (0, .ref p0), (1, .int p1)] K dX11_best_30 rfl (by decide) rfl ?_
      obtain ⟨x1, he1, hf⟩ := sk_ob hf
      have hret1 : ∀ r, .inl r = x1 → r = (rr, dd) := by
        intro r hr
        subst hr
        exact Option.some.inj hf
      have rest1 : ∀ y1, .inr y1 = x1 → sk_G X C 4 S y1.2 51 [(3, .int y1.1)] [] := by
        intro y1 hy
        subst hy
        dsimp only at hf
        refine sk_iload_n K dX11_best_51 rfl 0 rfl ?_
        obtain ⟨v13, e14, hf⟩ := sk_ob hf
        refine sk_callS (As := [.int y1.1]) (st := []) K dX11_best_52 cl_X11_375 (sX11_toldMove C l e14) (by decide) rfl rfl (Nat.le_of_ble_eq_true rfl) R1 R2 ?_
        have hR15 : (v13, y1.2) = (rr, dd) := Option.some.inj hf
        exact sk_iret K dX11_best_55 rfl rfl (congrArg (fun z => z.1) hR15) rfl (congrArg (fun z => z.2) hR15)
      refine sk_sub [(0, .ref p0), (1, .int p1), (2, .int v7), (3, .int (0 : Int32))] [2, 3, 1, 0] rfl ?_
      refine sk_loop (fun s1 => sk_G X C 4 S s1.2 31 [(0, .ref p0), (1, .int p1), (2, .int v7), (3, .int s1.1)] []) he1 (fun s1 o1 hf ih1 hx1 => ?_)
      unfold fX11_best_L31 at hf
      refine sk_iload_n K dX11_best_31 rfl 3 rfl ?_
      refine sk_bipush (16 : Int32) K dX11_best_32 (by decide) ?_
      refine sk_icmp_ge 62 K dX11_best_34 (by decide) (fun h16 => ?_) (fun h16 => ?_)
      · rw [if_pos h16] at hf
        refine sk_bipush (99 : Int32) K dX11_best_62 (by decide) ?_
        have hR17 : ((99 : Int32), s1.2) = (rr, dd) := hret1 _ (hx1 _ (Option.some.inj hf).symm)
        exact sk_iret K dX11_best_64 rfl rfl (congrArg (fun z => z.1) hR17) rfl (congrArg (fun z => z.2) hR17)
      · rw [if_neg h16] at hf
        refine sk_aload_n K dX11_best_37 rfl 0 rfl ?_
        refine sk_aload_n K dX11_best_38 rfl 0 rfl ?_
        obtain ⟨h20, hf⟩ := sk_ib hf
        obtain ⟨v18, e19, hf⟩ := sk_ob hf
        refine sk_callV (As := []) (st := [.ref p0]) K dX11_best_39 cl_X11_270 h20 (sX11_standNow C l e19) (by decide) rfl rfl (Nat.le_of_ble_eq_true rfl) R1 R2 ?_
        refine sk_iload_n K dX11_best_42 rfl 3 rfl ?_
        refine sk_iload_n K dX11_best_43 rfl 1 rfl ?_
        refine sk_iload_n K dX11_best_44 rfl 2 rfl ?_
        obtain ⟨h24, hf⟩ := sk_ib hf
        obtain ⟨⟨v21, d23⟩, e22, hf⟩ := sk_ob hf
        try dsimp only at hf
        refine sk_callV (As := [.int v18, .int s1.1, .int p1, .int v7]) (st := []) K dX11_best_45 cl_X11_444 h24 (sX11_forcesBy C l e22) (by decide) rfl rfl (Nat.le_of_ble_eq_true rfl) R1 R2 ?_
        refine sk_ifeqB 56 K dX11_best_48 (by decide) (fun h26 => ?_) (fun h26 => ?_)
        · rw [if_neg h26] at hf
          refine sk_iinc (s1.1 + 1) [(3, .int (s1.1 + 1)), (0, .ref p0), (1, .int p1), (2, .int v7)] K dX11_best_56 3 rfl rfl (by decide) rfl ?_
          refine sk_goto 31 K dX11_best_59 (by decide) ?_
          refine sk_sub [(0, .ref p0), (1, .int p1), (2, .int v7), (3, .int (s1.1 + 1))] [1, 2, 3, 0] rfl ?_
          have h9 := ih1 _ (Option.some.inj hf).symm
          exact h9
        · rw [if_pos h26] at hf
          refine sk_sub [(3, .int s1.1)] [3] rfl ?_
          have h9 := rest1 _ (hx1 _ (Option.some.inj hf).symm)
          exact h9
    · rw [if_neg h12] at hf
      refine sk_iconst (-1 : Int32) K dX11_best_27 (by decide) ?_
      have hR27 : ((-1 : Int32), d9) = (rr, dd) := Option.some.inj hf
      exact sk_iret K dX11_best_28 rfl rfl (congrArg (fun z => z.1) hR27) rfl (congrArg (fun z => z.2) hR27)
  · rw [if_neg h6] at hf
    refine sk_bipush (-3 : Int32) K dX11_best_13 (by decide) ?_
    have hR28 : ((-3 : Int32), d1) = (rr, dd) := Option.some.inj hf
    exact sk_iret K dX11_best_15 rfl rfl (congrArg (fun z => z.1) hR28) rfl (congrArg (fun z => z.2) hR28)
noncomputable def fX11_needsOf_L6 (S : sk_S) (d : sk_D) (p0 : Nat) (s1 : Int32 × Int32) : Option ((Int32 × Int32) ⊕ (Int32)) :=
  if s1.2 < 0 then (some (.inr s1.1)) else ((fX11_isIn S d s1.1.toInt64 s1.2).bind fun v3 => if v3 = true then ((sk_gR S p0 10 1).bind fun v6 => (sk_lI S d v6 20 ((50 : Int32) + s1.2)).bind fun v8 => some (.inl (s1.1 ||| v8, s1.2 - 1))) else (some (.inl (s1.1 ||| (0 : Int32), s1.2 - 1))))
noncomputable def fX11_needsOf (S : sk_S) (d : sk_D) (p0 : Nat) (p1 : Int32) : Option (Int32) :=
  (sk_itr (fX11_needsOf_L6 S d p0) ((1 : Int32) <<< (p1 &&& 31), p1)).bind fun x1 => some x1
set_option maxRecDepth 100000 in
set_option maxHeartbeats 4000000 in
theorem sX11_needsOf (C : sk_C) (l : Launch) {S : sk_S} {d : sk_D} {p0 : Nat} {p1 : Int32} {rr : Int32} (hf : fX11_needsOf S d p0 p1 = some rr) : sk_Met C l 1 yX11_needsOf cX11_needsOf 4 (some .int) [.ref p0, .int p1] S d (some (.int rr)) S d := by
  refine sk_Met.of (by decide) (Nat.le_of_ble_eq_true rfl) (Nat.le_refl _) (Nat.le_refl _) (fun X K0 hX => ?_)
  have K : sk_Ok X C cX11_needsOf 4 RX11 "needsOf" (some .int) 1 l (some (.int rr)) S d := K0
  have R1 : X.2.2.2.2.2.2.2.2.2.2.2.1 ≤ S.1.1 ∧ X.2.2.2.2.2.2.2.2.2.2.2.2 ≤ S.1.2 := by rw [hX]; exact ⟨Nat.le_refl _, Nat.le_refl _⟩
  have R2 : S.1.1 ≤ S.1.1 ∧ S.1.2 ≤ S.1.2 := ⟨Nat.le_refl _, Nat.le_refl _⟩
  show sk_G X C 4 S d 0 [(0, .ref p0), (1, .int p1)] []
  unfold fX11_needsOf at hf
  refine sk_iconst (1 : Int32) K dX11_needsOf_0 (by decide) ?_
  refine sk_iload_n K dX11_needsOf_1 rfl 1 rfl ?_
  refine sk_ishl K dX11_needsOf_2 ?_
  refine sk_istore_n [(2, .int ((1 : Int32) <<< (p1 &&& 31))), (0, .ref p0), (1, .int p1)] K dX11_needsOf_3 rfl (by decide) rfl ?_
  refine sk_iload_n K dX11_needsOf_4 rfl 2 rfl ?_
  refine sk_istore_n [(3, .int p1), (2, .int ((1 : Int32) <<< (p1 &&& 31))), (0, .ref p0), (1, .int p1)] K dX11_needsOf_5 rfl (by decide) rfl ?_
  obtain ⟨x1, he1, hf⟩ := sk_ob hf
  have hret1 : ∀ r, r = x1 → r = rr := by
    intro r hr
    subst hr
    exact Option.some.inj hf
  refine sk_sub [(0, .ref p0), (2, .int ((1 : Int32) <<< (p1 &&& 31))), (3, .int p1)] [2, 1, 0] rfl ?_
  refine sk_loop (fun s1 => sk_G X C 4 S d 6 [(0, .ref p0), (2, .int s1.1), (3, .int s1.2)] []) he1 (fun s1 o1 hf ih1 hx1 => ?_)
  unfold fX11_needsOf_L6 at hf
  refine sk_iload_n K dX11_needsOf_6 rfl 2 rfl ?_
  refine sk_if_lt 41 K dX11_needsOf_7 (by decide) (fun h1 => ?_) (fun h1 => ?_)
  · rw [if_pos h1] at hf
    refine sk_iload_n K dX11_needsOf_41 rfl 1 rfl ?_
    have hR2 : s1.1 = rr := hret1 _ (hx1 _ (Option.some.inj hf).symm)
    exact sk_iret K dX11_needsOf_42 rfl rfl hR2 rfl rfl
  · rw [if_neg h1] at hf
    refine sk_iload_n K dX11_needsOf_10 rfl 1 rfl ?_
    refine sk_iload_n K dX11_needsOf_11 rfl 1 rfl ?_
    refine sk_i2l K dX11_needsOf_12 ?_
    refine sk_iload_n K dX11_needsOf_13 rfl 2 rfl ?_
    obtain ⟨v3, e4, hf⟩ := sk_ob hf
    refine sk_callS (As := [.long s1.1.toInt64, .int s1.2]) (st := [.int s1.1]) K dX11_needsOf_14 cl_X11_221 (sX11_isIn C l e4) (by decide) rfl rfl (Nat.le_of_ble_eq_true rfl) R1 R2 ?_
    refine sk_ifeqB 32 K dX11_needsOf_17 (by decide) (fun h5 => ?_) (fun h5 => ?_)
    · rw [if_neg h5] at hf
      refine sk_iconst (0 : Int32) K dX11_needsOf_32 (by decide) ?_
      refine sk_ior K dX11_needsOf_33 ?_
      refine sk_istore_n [(2, .int (s1.1 ||| (0 : Int32))), (0, .ref p0), (3, .int s1.2)] K dX11_needsOf_34 rfl (by decide) rfl ?_
      refine sk_iinc (s1.2 - 1) [(3, .int (s1.2 - 1)), (2, .int (s1.1 ||| (0 : Int32))), (0, .ref p0)] K dX11_needsOf_35 2 rfl (sk_dec1 _) (by decide) rfl ?_
      refine sk_goto 6 K dX11_needsOf_38 (by decide) ?_
      refine sk_sub [(0, .ref p0), (2, .int (s1.1 ||| (0 : Int32))), (3, .int (s1.2 - 1))] [2, 1, 0] rfl ?_
      have h9 := ih1 _ (Option.some.inj hf).symm
      exact h9
    · rw [if_pos h5] at hf
      refine sk_aload_n K dX11_needsOf_20 rfl 0 rfl ?_
      obtain ⟨v6, e7, hf⟩ := sk_ob hf
      refine sk_getR K dX11_needsOf_21 fl_X11_13 rfl e7 ?_
      refine sk_bipush (50 : Int32) K dX11_needsOf_24 (by decide) ?_
      refine sk_iload_n K dX11_needsOf_26 rfl 2 rfl ?_
      refine sk_iadd K dX11_needsOf_27 ?_
      obtain ⟨v8, e9, hf⟩ := sk_ob hf
      refine sk_ald20 K dX11_needsOf_28 e9 ?_
      refine sk_goto 33 K dX11_needsOf_29 (by decide) ?_
      refine sk_ior K dX11_needsOf_33 ?_
      refine sk_istore_n [(2, .int (s1.1 ||| v8)), (0, .ref p0), (3, .int s1.2)] K dX11_needsOf_34 rfl (by decide) rfl ?_
      refine sk_iinc (s1.2 - 1) [(3, .int (s1.2 - 1)), (2, .int (s1.1 ||| v8)), (0, .ref p0)] K dX11_needsOf_35 2 rfl (sk_dec1 _) (by decide) rfl ?_
      refine sk_goto 6 K dX11_needsOf_38 (by decide) ?_
      refine sk_sub [(0, .ref p0), (2, .int (s1.1 ||| v8)), (3, .int (s1.2 - 1))] [2, 1, 0] rfl ?_
      have h9 := ih1 _ (Option.some.inj hf).symm
      exact h9
noncomputable def fX11_staysDone_L14 (S : sk_S) (d : sk_D) (p0 : Nat) (p1 : Int32) (p2 : Int32) (v1 : Int32) (s1 : Int64 × Int32) : Option ((Int64 × Int32) ⊕ (Int64)) :=
  if p2 < s1.2 then (some (.inr s1.1)) else ((fX11_isIn S d v1.toInt64 s1.2).bind fun v6 => if v6 = true then ((sk_gR S p0 10 1).bind fun v9 => (sk_lI S d v9 20 ((26 : Int32) + s1.2)).bind fun v11 => (fX11_howIn S d p1 s1.2).bind fun v13 => if v13 = (1 : Int32) then ((sk_gR S p0 10 1).bind fun v16 => (sk_lI S d v16 20 ((34 : Int32) + s1.2)).bind fun v18 => some (.inl ((s1.1 / (100 : Int64)) * (((100 : Int32) - (v11 * v18)).toInt64), s1.2 + 1))) else (some (.inl ((s1.1 / (100 : Int64)) * (((100 : Int32) - (v11 * (10 : Int32))).toInt64), s1.2 + 1)))) else (some (.inl (s1.1, s1.2 + 1))))
noncomputable def fX11_staysDone (S : sk_S) (d : sk_D) (p0 : Nat) (p1 : Int32) (p2 : Int32) : Option (Int64) :=
  if S.2.1 p0 = (10, 0) then ((fX11_needsOf S d p0 p2).bind fun v1 => (sk_itr (fX11_staysDone_L14 S d p0 p1 p2 v1) ((10000000000000000 : Int64), (0 : Int32))).bind fun x1 => some x1) else none
set_option maxRecDepth 100000 in
set_option maxHeartbeats 4000000 in
theorem sX11_staysDone (C : sk_C) (l : Launch) {S : sk_S} {d : sk_D} {p0 : Nat} {p1 : Int32} {p2 : Int32} {rr : Int64} (hf : fX11_staysDone S d p0 p1 p2 = some rr) : sk_Met C l 2 yX11_staysDone cX11_staysDone 7 (some .long) [.ref p0, .int p1, .int p2] S d (some (.long rr)) S d := by
  refine sk_Met.of (by decide) (Nat.le_of_ble_eq_true rfl) (Nat.le_refl _) (Nat.le_refl _) (fun X K0 hX => ?_)
  have K : sk_Ok X C cX11_staysDone 7 RX11 "staysDone" (some .long) 2 l (some (.long rr)) S d := K0
  have R1 : X.2.2.2.2.2.2.2.2.2.2.2.1 ≤ S.1.1 ∧ X.2.2.2.2.2.2.2.2.2.2.2.2 ≤ S.1.2 := by rw [hX]; exact ⟨Nat.le_refl _, Nat.le_refl _⟩
  have R2 : S.1.1 ≤ S.1.1 ∧ S.1.2 ≤ S.1.2 := ⟨Nat.le_refl _, Nat.le_refl _⟩
  show sk_G X C 7 S d 0 [(0, .ref p0), (1, .int p1), (2, .int p2)] []
  unfold fX11_staysDone at hf
  refine sk_aload_n K dX11_staysDone_0 rfl 0 rfl ?_
  refine sk_iload_n K dX11_staysDone_1 rfl 2 rfl ?_
  obtain ⟨h3, hf⟩ := sk_ib hf
  obtain ⟨v1, e2, hf⟩ := sk_ob hf
  refine sk_callV (As := [.int p2]) (st := []) K dX11_staysDone_2 cl_X11_456 h3 (sX11_needsOf C l e2) (by decide) rfl rfl (Nat.le_of_ble_eq_true rfl) R1 R2 ?_
  refine sk_istore_n [(3, .int v1), (0, .ref p0), (1, .int p1), (2, .int p2)] K dX11_staysDone_5 rfl (by decide) rfl ?_
  refine sk_ldc2 K dX11_staysDone_6 qw_1941 ?_
  refine sk_lstore [(4, .long (10000000000000000 : Int64)), (3, .int v1), (0, .ref p0), (1, .int p1), (2, .int p2)] K dX11_staysDone_9 (by decide) rfl ?_
  refine sk_iconst (0 : Int32) K dX11_staysDone_11 (by decide) ?_
  refine sk_istore [(6, .int (0 : Int32)), (4, .long (10000000000000000 : Int64)), (3, .int v1), (0, .ref p0), (1, .int p1), (2, .int p2)] K dX11_staysDone_12 (by decide) rfl ?_
  obtain ⟨x1, he1, hf⟩ := sk_ob hf
  have hret1 : ∀ r, r = x1 → r = rr := by
    intro r hr
    subst hr
    exact Option.some.inj hf
  refine sk_sub [(0, .ref p0), (1, .int p1), (2, .int p2), (3, .int v1), (4, .long (10000000000000000 : Int64)), (6, .int (0 : Int32))] [3, 4, 5, 2, 1, 0] rfl ?_
  refine sk_loop (fun s1 => sk_G X C 7 S d 14 [(0, .ref p0), (1, .int p1), (2, .int p2), (3, .int v1), (4, .long s1.1), (6, .int s1.2)] []) he1 (fun s1 o1 hf ih1 hx1 => ?_)
  unfold fX11_staysDone_L14 at hf
  refine sk_iload K dX11_staysDone_14 5 rfl ?_
  refine sk_iload_n K dX11_staysDone_16 rfl 2 rfl ?_
  refine sk_icmp_gt 85 K dX11_staysDone_17 (by decide) (fun h4 => ?_) (fun h4 => ?_)
  · rw [if_pos h4] at hf
    refine sk_lload K dX11_staysDone_85 4 rfl ?_
    have hR5 : s1.1 = rr := hret1 _ (hx1 _ (Option.some.inj hf).symm)
    exact sk_lret K dX11_staysDone_87 rfl rfl hR5 rfl rfl
  · rw [if_neg h4] at hf
    refine sk_iload_n K dX11_staysDone_20 rfl 3 rfl ?_
    refine sk_i2l K dX11_staysDone_21 ?_
    refine sk_iload K dX11_staysDone_22 5 rfl ?_
    obtain ⟨v6, e7, hf⟩ := sk_ob hf
    refine sk_callS (As := [.long v1.toInt64, .int s1.2]) (st := []) K dX11_staysDone_24 cl_X11_221 (sX11_isIn C l e7) (by decide) rfl rfl (Nat.le_of_ble_eq_true rfl) R1 R2 ?_
    refine sk_ifeqB 79 K dX11_staysDone_27 (by decide) (fun h8 => ?_) (fun h8 => ?_)
    · rw [if_neg h8] at hf
      refine sk_iinc (s1.2 + 1) [(6, .int (s1.2 + 1)), (0, .ref p0), (1, .int p1), (2, .int p2), (3, .int v1), (4, .long s1.1)] K dX11_staysDone_79 5 rfl rfl (by decide) rfl ?_
      refine sk_goto 14 K dX11_staysDone_82 (by decide) ?_
      refine sk_sub [(0, .ref p0), (1, .int p1), (2, .int p2), (3, .int v1), (4, .long s1.1), (6, .int (s1.2 + 1))] [1, 2, 3, 4, 5, 0] rfl ?_
      have h9 := ih1 _ (Option.some.inj hf).symm
      exact h9
    · rw [if_pos h8] at hf
      refine sk_lload K dX11_staysDone_30 4 rfl ?_
      refine sk_ldc2 K dX11_staysDone_32 qw_1942 ?_
      refine sk_ldiv K dX11_staysDone_35 (by decide) ?_
      refine sk_bipush (100 : Int32) K dX11_staysDone_36 (by decide) ?_
      refine sk_aload_n K dX11_staysDone_38 rfl 0 rfl ?_
      obtain ⟨v9, e10, hf⟩ := sk_ob hf
      refine sk_getR K dX11_staysDone_39 fl_X11_13 rfl e10 ?_
      refine sk_bipush (26 : Int32) K dX11_staysDone_42 (by decide) ?_
      refine sk_iload K dX11_staysDone_44 5 rfl ?_
      refine sk_iadd K dX11_staysDone_46 ?_
      obtain ⟨v11, e12, hf⟩ := sk_ob hf
      refine sk_ald20 K dX11_staysDone_47 e12 ?_
      refine sk_iload_n K dX11_staysDone_48 rfl 1 rfl ?_
      refine sk_iload K dX11_staysDone_49 5 rfl ?_
      obtain ⟨v13, e14, hf⟩ := sk_ob hf
      refine sk_callS (As := [.int p1, .int s1.2]) (st := [.int v11, .int (100 : Int32), .long (s1.1 / (100 : Int64))]) K dX11_staysDone_51 cl_X11_215 (sX11_howIn C l e14) (by decide) rfl rfl (Nat.le_of_ble_eq_true rfl) R1 R2 ?_
      refine sk_iconst (1 : Int32) K dX11_staysDone_54 (by decide) ?_
      refine sk_icmp_ne 71 K dX11_staysDone_55 (by decide) (fun h15 => ?_) (fun h15 => ?_)
      · rw [if_neg h15] at hf
        refine sk_bipush (10 : Int32) K dX11_staysDone_71 (by decide) ?_
        refine sk_imul K dX11_staysDone_73 ?_
        refine sk_isub K dX11_staysDone_74 ?_
        refine sk_i2l K dX11_staysDone_75 ?_
        refine sk_lmul K dX11_staysDone_76 ?_
        refine sk_lstore [(4, .long ((s1.1 / (100 : Int64)) * (((100 : Int32) - (v11 * (10 : Int32))).toInt64))), (0, .ref p0), (1, .int p1), (2, .int p2), (3, .int v1), (6, .int s1.2)] K dX11_staysDone_77 (by decide) rfl ?_
        refine sk_iinc (s1.2 + 1) [(6, .int (s1.2 + 1)), (4, .long ((s1.1 / (100 : Int64)) * (((100 : Int32) - (v11 * (10 : Int32))).toInt64))), (0, .ref p0), (1, .int p1), (2, .int p2), (3, .int v1)] K dX11_staysDone_79 5 rfl rfl (by decide) rfl ?_
        refine sk_goto 14 K dX11_staysDone_82 (by decide) ?_
        refine sk_sub [(0, .ref p0), (1, .int p1), (2, .int p2), (3, .int v1), (4, .long ((s1.1 / (100 : Int64)) * (((100 : Int32) - (v11 * (10 : Int32))).toInt64))), (6, .int (s1.2 + 1))] [2, 3, 4, 5, 1, 0] rfl ?_
        have h9 := ih1 _ (Option.some.inj hf).symm
        exact h9
      · rw [if_pos h15] at hf
        refine sk_aload_n K dX11_staysDone_58 rfl 0 rfl ?_
        obtain ⟨v16, e17, hf⟩ := sk_ob hf
        refine sk_getR K dX11_staysDone_59 fl_X11_13 rfl e17 ?_
        refine sk_bipush (34 : Int32) K dX11_staysDone_62 (by decide) ?_
        refine sk_iload K dX11_staysDone_64 5 rfl ?_
        refine sk_iadd K dX11_staysDone_66 ?_
        obtain ⟨v18, e19, hf⟩ := sk_ob hf
        refine sk_ald20 K dX11_staysDone_67 e19 ?_
        refine sk_goto 73 K dX11_staysDone_68 (by decide) ?_
        refine sk_imul K dX11_staysDone_73 ?_
        refine sk_isub K dX11_staysDone_74 ?_
        refine sk_i2l K dX11_staysDone_75 ?_
        refine sk_lmul K dX11_staysDone_76 ?_
        refine sk_lstore [(4, .long ((s1.1 / (100 : Int64)) * (((100 : Int32) - (v11 * v18)).toInt64))), (0, .ref p0), (1, .int p1), (2, .int p2), (3, .int v1), (6, .int s1.2)] K dX11_staysDone_77 (by decide) rfl ?_
        refine sk_iinc (s1.2 + 1) [(6, .int (s1.2 + 1)), (4, .long ((s1.1 / (100 : Int64)) * (((100 : Int32) - (v11 * v18)).toInt64))), (0, .ref p0), (1, .int p1), (2, .int p2), (3, .int v1)] K dX11_staysDone_79 5 rfl rfl (by decide) rfl ?_
        refine sk_goto 14 K dX11_staysDone_82 (by decide) ?_
        refine sk_sub [(0, .ref p0), (1, .int p1), (2, .int p2), (3, .int v1), (4, .long ((s1.1 / (100 : Int64)) * (((100 : Int32) - (v11 * v18)).toInt64))), (6, .int (s1.2 + 1))] [2, 3, 4, 5, 1, 0] rfl ?_
        have h9 := ih1 _ (Option.some.inj hf).symm
        exact h9
noncomputable def fX11_meanOf_L5 (S : sk_S) (d : sk_D) (p0 : Nat) (p1 : Int32) (s1 : Int64 × Int32) : Option ((Int64 × Int32) ⊕ (Int64)) :=
  (sk_gR S p0 10 1).bind fun v1 => (sk_lI S d v1 20 (1 : Int32)).bind fun v3 => if v3 ≤ s1.2 then (some (.inr s1.1)) else ((fX11_isDone S d p1 s1.2).bind fun v7 => if v7 = true then (if S.2.1 p0 = (10, 0) then ((fX11_staysDone S d p0 p1 s1.2).bind fun v10 => some (.inl (s1.1 + v10, s1.2 + 1))) else none) else (some (.inl (s1.1 + (0 : Int64), s1.2 + 1))))
noncomputable def fX11_meanOf (S : sk_S) (d : sk_D) (p0 : Nat) (p1 : Int32) : Option (Int64) :=
  (sk_itr (fX11_meanOf_L5 S d p0 p1) ((0 : Int64), (0 : Int32))).bind fun x1 => some x1
set_option maxRecDepth 100000 in
set_option maxHeartbeats 4000000 in
theorem sX11_meanOf (C : sk_C) (l : Launch) {S : sk_S} {d : sk_D} {p0 : Nat} {p1 : Int32} {rr : Int64} (hf : fX11_meanOf S d p0 p1 = some rr) : sk_Met C l 3 yX11_meanOf cX11_meanOf 5 (some .long) [.ref p0, .int p1] S d (some (.long rr)) S d := by
  refine sk_Met.of (by decide) (Nat.le_of_ble_eq_true rfl) (Nat.le_refl _) (Nat.le_refl _) (fun X K0 hX => ?_)
  have K : sk_Ok X C cX11_meanOf 5 RX11 "meanOf" (some .long) 3 l (some (.long rr)) S d := K0
  have R1 : X.2.2.2.2.2.2.2.2.2.2.2.1 ≤ S.1.1 ∧ X.2.2.2.2.2.2.2.2.2.2.2.2 ≤ S.1.2 := by rw [hX]; exact ⟨Nat.le_refl _, Nat.le_refl _⟩
  have R2 : S.1.1 ≤ S.1.1 ∧ S.1.2 ≤ S.1.2 := ⟨Nat.le_refl _, Nat.le_refl _⟩
  show sk_G X C 5 S d 0 [(0, .ref p0), (1, .int p1)] []
  unfold fX11_meanOf at hf
  refine sk_lconst (0 : Int64) K dX11_meanOf_0 (by decide) ?_
  refine sk_lstore_n [(2, .long (0 : Int64)), (0, .ref p0), (1, .int p1)] K dX11_meanOf_1 rfl (by decide) rfl ?_
  refine sk_iconst (0 : Int32) K dX11_meanOf_2 (by decide) ?_
  refine sk_istore [(4, .int (0 : Int32)), (2, .long (0 : Int64)), (0, .ref p0), (1, .int p1)] K dX11_meanOf_3 (by decide) rfl ?_
  obtain ⟨x1, he1, hf⟩ := sk_ob hf
  have hret1 : ∀ r, r = x1 → r = rr := by
    intro r hr
    subst hr
    exact Option.some.inj hf
  refine sk_sub [(0, .ref p0), (1, .int p1), (2, .long (0 : Int64)), (4, .int (0 : Int32))] [2, 3, 1, 0] rfl ?_
  refine sk_loop (fun s1 => sk_G X C 5 S d 5 [(0, .ref p0), (1, .int p1), (2, .long s1.1), (4, .int s1.2)] []) he1 (fun s1 o1 hf ih1 hx1 => ?_)
  unfold fX11_meanOf_L5 at hf
  refine sk_iload K dX11_meanOf_5 3 rfl ?_
  refine sk_aload_n K dX11_meanOf_7 rfl 0 rfl ?_
  obtain ⟨v1, e2, hf⟩ := sk_ob hf
  refine sk_getR K dX11_meanOf_8 fl_X11_13 rfl e2 ?_
  refine sk_iconst (1 : Int32) K dX11_meanOf_11 (by decide) ?_
  obtain ⟨v3, e4, hf⟩ := sk_ob hf
  refine sk_ald20 K dX11_meanOf_12 e4 ?_
  refine sk_icmp_ge 45 K dX11_meanOf_13 (by decide) (fun h5 => ?_) (fun h5 => ?_)
  · rw [if_pos h5] at hf
    refine sk_lload_n K dX11_meanOf_45 rfl 2 rfl ?_
    have hR6 : s1.1 = rr := hret1 _ (hx1 _ (Option.some.inj hf).symm)
    exact sk_lret K dX11_meanOf_46 rfl rfl hR6 rfl rfl
  · rw [if_neg h5] at hf
    refine sk_lload_n K dX11_meanOf_16 rfl 2 rfl ?_
    refine sk_iload_n K dX11_meanOf_17 rfl 1 rfl ?_
    refine sk_iload K dX11_meanOf_18 3 rfl ?_
    obtain ⟨v7, e8, hf⟩ := sk_ob hf
    refine sk_callS (As := [.int p1, .int s1.2]) (st := [.long s1.1]) K dX11_meanOf_20 cl_X11_255 (sX11_isDone C l e8) (by decide) rfl rfl (Nat.le_of_ble_eq_true rfl) R1 R2 ?_
    refine sk_ifeqB 36 K dX11_meanOf_23 (by decide) (fun h9 => ?_) (fun h9 => ?_)
    · rw [if_neg h9] at hf
      refine sk_lconst (0 : Int64) K dX11_meanOf_36 (by decide) ?_
      refine sk_ladd K dX11_meanOf_37 ?_
      refine sk_lstore_n [(2, .long (s1.1 + (0 : Int64))), (0, .ref p0), (1, .int p1), (4, .int s1.2)] K dX11_meanOf_38 rfl (by decide) rfl ?_
      refine sk_iinc (s1.2 + 1) [(4, .int (s1.2 + 1)), (2, .long (s1.1 + (0 : Int64))), (0, .ref p0), (1, .int p1)] K dX11_meanOf_39 3 rfl rfl (by decide) rfl ?_
      refine sk_goto 5 K dX11_meanOf_42 (by decide) ?_
      refine sk_sub [(0, .ref p0), (1, .int p1), (2, .long (s1.1 + (0 : Int64))), (4, .int (s1.2 + 1))] [2, 3, 1, 0] rfl ?_
      have h9 := ih1 _ (Option.some.inj hf).symm
      exact h9
    · rw [if_pos h9] at hf
      refine sk_aload_n K dX11_meanOf_26 rfl 0 rfl ?_
      refine sk_iload_n K dX11_meanOf_27 rfl 1 rfl ?_
      refine sk_iload K dX11_meanOf_28 3 rfl ?_
      obtain ⟨h12, hf⟩ := sk_ib hf
      obtain ⟨v10, e11, hf⟩ := sk_ob hf
      refine sk_callV (As := [.int p1, .int s1.2]) (st := [.long s1.1]) K dX11_meanOf_30 cl_X11_463 h12 (sX11_staysDone C l e11) (by decide) rfl rfl (Nat.le_of_ble_eq_true rfl) R1 R2 ?_
      refine sk_goto 37 K dX11_meanOf_33 (by decide) ?_
      refine sk_ladd K dX11_meanOf_37 ?_
      refine sk_lstore_n [(2, .long (s1.1 + v10)), (0, .ref p0), (1, .int p1), (4, .int s1.2)] K dX11_meanOf_38 rfl (by decide) rfl ?_
      refine sk_iinc (s1.2 + 1) [(4, .int (s1.2 + 1)), (2, .long (s1.1 + v10)), (0, .ref p0), (1, .int p1)] K dX11_meanOf_39 3 rfl rfl (by decide) rfl ?_
      refine sk_goto 5 K dX11_meanOf_42 (by decide) ?_
      refine sk_sub [(0, .ref p0), (1, .int p1), (2, .long (s1.1 + v10)), (4, .int (s1.2 + 1))] [2, 3, 1, 0] rfl ?_
      have h9 := ih1 _ (Option.some.inj hf).symm
      exact h9
noncomputable def fX11_common_o (rec : Nat → sk_D → Int64 → Int64 → Option Int64) (S : sk_S) (d : sk_D) (p0 : Int64) (p2 : Int64) : Option (Int64) :=
  if p2 = (0 : Int64) then (some p0) else (if ¬ p2 = 0 then ((rec 0 d p2 (p0 - p0 / p2 * p2)).bind fun v3 => some v3) else none)
noncomputable def gX11c (S : sk_S) : Nat → Nat → sk_D → Int64 → Int64 → Option Int64
  | 0 => fun _ _ _ _ => none
  | n + 1 => fun t d x0 x1 => match t with
    | _ => fX11_common_o (gX11c S n) S d x0 x1
def mX11c (C : sk_C) (l : Launch) (S : sk_S) (n : Nat) : Prop := (∀ (d : sk_D) (p0 : Int64) (p2 : Int64) (rr : Int64), gX11c S n 0 d p0 p2 = some rr → sk_Met C l (0 + n) yX11_common cX11_common 4 (some .long) [.long p0, .long p2] S d (some (.long rr)) S d)
set_option maxRecDepth 100000 in
set_option maxHeartbeats 4000000 in
theorem sX11_common_o (C : sk_C) (l : Launch) {S : sk_S} (n : Nat) (ih : mX11c C l S n) {d : sk_D} {p0 : Int64} {p2 : Int64} {rr : Int64} (hf : fX11_common_o (gX11c S n) S d p0 p2 = some rr) : sk_Met C l (0 + (n + 1)) yX11_common cX11_common 4 (some .long) [.long p0, .long p2] S d (some (.long rr)) S d := by
  refine sk_Met.of (by decide) (Nat.le_of_ble_eq_true rfl) (Nat.le_refl _) (Nat.le_refl _) (fun X K0 hX => ?_)
  have K : sk_Ok X C cX11_common 4 RX11 "common" (some .long) (0 + (n + 1)) l (some (.long rr)) S d := K0
  have R1 : X.2.2.2.2.2.2.2.2.2.2.2.1 ≤ S.1.1 ∧ X.2.2.2.2.2.2.2.2.2.2.2.2 ≤ S.1.2 := by rw [hX]; exact ⟨Nat.le_refl _, Nat.le_refl _⟩
  have R2 : S.1.1 ≤ S.1.1 ∧ S.1.2 ≤ S.1.2 := ⟨Nat.le_refl _, Nat.le_refl _⟩
  show sk_G X C 4 S d 0 [(0, .long p0), (2, .long p2)] []
  unfold fX11_common_o at hf
  refine sk_lload_n K dX11_common_0 rfl 1 rfl ?_
  refine sk_lconst (0 : Int64) K dX11_common_1 (by decide) ?_
  refine sk_lcmp_ne 10 K dX11_common_2 dX11_common_3 (by decide) (fun h1 => ?_) (fun h1 => ?_)
  · rw [if_neg h1] at hf
    refine sk_lload_n K dX11_common_10 rfl 1 rfl ?_
    refine sk_lload_n K dX11_common_11 rfl 0 rfl ?_
    refine sk_lload_n K dX11_common_12 rfl 1 rfl ?_
    obtain ⟨hz2, hf⟩ := sk_ib hf
    refine sk_lrem K dX11_common_13 hz2 ?_
    obtain ⟨v3, e4, hf⟩ := sk_ob hf
    refine sk_callS (As := [.long p2, .long (p0 - p0 / p2 * p2)]) (st := []) K dX11_common_14 cl_X11_467 (ih _ _ _ _ e4) (by omega) rfl rfl (Nat.le_of_ble_eq_true rfl) R1 R2 ?_
    have hR5 : v3 = rr := Option.some.inj hf
    exact sk_lret K dX11_common_17 rfl rfl hR5 rfl rfl
  · rw [if_pos h1] at hf
    refine sk_lload_n K dX11_common_6 rfl 0 rfl ?_
    refine sk_goto 17 K dX11_common_7 (by decide) ?_
    have hR6 : p0 = rr := Option.some.inj hf
    exact sk_lret K dX11_common_17 rfl rfl hR6 rfl rfl
theorem gX11c_all (C : sk_C) (l : Launch) (S : sk_S) : ∀ n : Nat, mX11c C l S n := by
  intro n
  induction n with
  | zero =>
    exact (fun _ _ _ _ hf => by cases hf)
  | succ n ih =>
    exact (fun _ _ _ _ hf => sX11_common_o C l n ih hf)
noncomputable def fX11_common (S : sk_S) (d : sk_D) (p0 : Int64) (p2 : Int64) : Option (Int64) := gX11c S 100 0 d p0 p2
theorem sX11_common (C : sk_C) (l : Launch) {S : sk_S} {d : sk_D} {p0 : Int64} {p2 : Int64} {rr : Int64} (hf : fX11_common S d p0 p2 = some rr) : sk_Met C l 100 yX11_common cX11_common 4 (some .long) [.long p0, .long p2] S d (some (.long rr)) S d := (gX11c_all C l S 100) _ _ _ _ hf
noncomputable def fX11_part_J11 (S : sk_S) (d : sk_D) (p0 : Int64) (v1 : Int64) : Option (Int64) :=
  (fX11_common S d p0 (10000000000000000 : Int64)).bind fun v2 => if ¬ v2 = 0 then (some (v1 / v2)) else none
noncomputable def fX11_part (S : sk_S) (d : sk_D) (p0 : Int64) (p2 : Int32) : Option (Int64) :=
  if p2 = 0 then (fX11_part_J11 S d p0 p0) else (fX11_part_J11 S d p0 (10000000000000000 : Int64))
set_option maxRecDepth 100000 in
set_option maxHeartbeats 4000000 in
theorem sX11_part (C : sk_C) (l : Launch) {S : sk_S} {d : sk_D} {p0 : Int64} {p2 : Int32} {rr : Int64} (hf : fX11_part S d p0 p2 = some rr) : sk_Met C l 101 yX11_part cX11_part 3 (some .long) [.long p0, .int p2] S d (some (.long rr)) S d := by
  refine sk_Met.of (by decide) (Nat.le_of_ble_eq_true rfl) (Nat.le_refl _) (Nat.le_refl _) (fun X K0 hX => ?_)
  have K : sk_Ok X C cX11_part 3 RX11 "part" (some .long) 101 l (some (.long rr)) S d := K0
  have R1 : X.2.2.2.2.2.2.2.2.2.2.2.1 ≤ S.1.1 ∧ X.2.2.2.2.2.2.2.2.2.2.2.2 ≤ S.1.2 := by rw [hX]; exact ⟨Nat.le_refl _, Nat.le_refl _⟩
  have R2 : S.1.1 ≤ S.1.1 ∧ S.1.2 ≤ S.1.2 := ⟨Nat.le_refl _, Nat.le_refl _⟩
  show sk_G X C 3 S d 0 [(0, .long p0), (2, .int p2)] []
  unfold fX11_part at hf
  have j11_0 : ∀ (v1 : Int64), fX11_part_J11 S d p0 v1 = some rr → sk_G X C 3 S d 11 [(0, .long p0)] [.long v1] := by
    intro v1 hf
    unfold fX11_part_J11 at hf
    refine sk_lload_n K dX11_part_11 rfl 0 rfl ?_
    refine sk_ldc2 K dX11_part_12 qw_1941 ?_
    obtain ⟨v2, e3, hf⟩ := sk_ob hf
    refine sk_callS (As := [.long p0, .long (10000000000000000 : Int64)]) (st := [.long v1]) K dX11_part_15 cl_X11_467 (sX11_common C l e3) (by decide) rfl rfl (Nat.le_of_ble_eq_true rfl) R1 R2 ?_
    obtain ⟨hz4, hf⟩ := sk_ib hf
    refine sk_ldiv K dX11_part_18 hz4 ?_
    have hR5 : (v1 / v2) = rr := Option.some.inj hf
    exact sk_lret K dX11_part_19 rfl rfl hR5 rfl rfl
  refine sk_iload_n K dX11_part_0 rfl 1 rfl ?_
  refine sk_if_ne 8 K dX11_part_1 (by decide) (fun h6 => ?_) (fun h6 => ?_)
  · rw [if_neg h6] at hf
    refine sk_ldc2 K dX11_part_8 qw_1941 ?_
    refine sk_sub [(0, .long p0)] [0] rfl ?_
    have h9 := j11_0 _ hf
    exact h9
  · rw [if_pos h6] at hf
    refine sk_lload_n K dX11_part_4 rfl 0 rfl ?_
    refine sk_goto 11 K dX11_part_5 (by decide) ?_
    refine sk_sub [(0, .long p0)] [0] rfl ?_
    have h9 := j11_0 _ hf
    exact h9
noncomputable def fX11_chance (S : sk_S) (d : sk_D) (p0 : Nat) (p1 : Int32) (p2 : Int32) : Option (Int64 × sk_D) :=
  (sk_pI S d p0 10 0 (0 : Int32)).bind fun d1 => if S.2.1 p0 = (10, 0) then ((fX11_isDoing S d1 p0 p1.toInt64).bind fun v3 => if v3 = true then ((fX11_within S d1 p2.toInt64 (0 : Int64) (1 : Int64)).bind fun v8 => if v8 = true then (if S.2.1 p0 = (10, 0) then ((fX11_standNow S d1 p0).bind fun v11 => (fX11_isDone S d1 v11 p1).bind fun v14 => if v14 = true then (if S.2.1 p0 = (10, 0) then ((fX11_standNow S d1 p0).bind fun v18 => if S.2.1 p0 = (10, 0) then ((fX11_staysDone S d1 p0 v18 p1).bind fun v21 => (fX11_part S d1 v21 p2).bind fun v24 => some (v24, d1)) else none) else none) else (some ((-5 : Int64), d1))) else none) else (some ((-2 : Int64), d1))) else (some ((-2 : Int64), d1))) else none
set_option maxRecDepth 100000 in
set_option maxHeartbeats 4000000 in
theorem sX11_chance (C : sk_C) (l : Launch) {S : sk_S} {d : sk_D} {p0 : Nat} {p1 : Int32} {p2 : Int32} {rr : Int64} {dd : sk_D} (hf : fX11_chance S d p0 p1 p2 = some (rr, dd)) : sk_Met C l 102 yX11_chance cX11_chance 3 (some .long) [.ref p0, .int p1, .int p2] S d (some (.long rr)) S dd := by
  refine sk_Met.of (by decide) (Nat.le_of_ble_eq_true rfl) (Nat.le_refl _) (Nat.le_refl _) (fun X K0 hX => ?_)
  have K : sk_Ok X C cX11_chance 3 RX11 "chance" (some .long) 102 l (some (.long rr)) S dd := K0
  have R1 : X.2.2.2.2.2.2.2.2.2.2.2.1 ≤ S.1.1 ∧ X.2.2.2.2.2.2.2.2.2.2.2.2 ≤ S.1.2 := by rw [hX]; exact ⟨Nat.le_refl _, Nat.le_refl _⟩
  have R2 : S.1.1 ≤ S.1.1 ∧ S.1.2 ≤ S.1.2 := ⟨Nat.le_refl _, Nat.le_refl _⟩
  show sk_G X C 3 S d 0 [(0, .ref p0), (1, .int p1), (2, .int p2)] []
  unfold fX11_chance at hf
  refine sk_aload_n K dX11_chance_0 rfl 0 rfl ?_
  refine sk_iconst (0 : Int32) K dX11_chance_1 (by decide) ?_
  obtain ⟨d1, e2, hf⟩ := sk_ob hf
  refine sk_putI d1 K dX11_chance_2 fl_X11_1 rfl rfl rfl e2 ?_
  refine sk_aload_n K dX11_chance_5 rfl 0 rfl ?_
  refine sk_iload_n K dX11_chance_6 rfl 1 rfl ?_
  refine sk_i2l K dX11_chance_7 ?_
  obtain ⟨h5, hf⟩ := sk_ib hf
  obtain ⟨v3, e4, hf⟩ := sk_ob hf
  refine sk_callV (As := [.long p1.toInt64]) (st := []) K dX11_chance_8 cl_X11_266 h5 (sX11_isDoing C l e4) (by decide) rfl rfl (Nat.le_of_ble_eq_true rfl) R1 R2 ?_
  refine sk_ifeqB 24 K dX11_chance_11 (by decide) (fun h6 => ?_) (fun h6 => ?_)
  · rw [if_neg h6] at hf
    refine sk_ldc2 K dX11_chance_24 qw_1932 ?_
    have hR7 : ((-2 : Int64), d1) = (rr, dd) := Option.some.inj hf
    exact sk_lret K dX11_chance_27 rfl rfl (congrArg (fun z => z.1) hR7) rfl (congrArg (fun z => z.2) hR7)
  · rw [if_pos h6] at hf
    refine sk_iload_n K dX11_chance_14 rfl 2 rfl ?_
    refine sk_i2l K dX11_chance_15 ?_
    refine sk_lconst (0 : Int64) K dX11_chance_16 (by decide) ?_
    refine sk_lconst (1 : Int64) K dX11_chance_17 (by decide) ?_
    obtain ⟨v8, e9, hf⟩ := sk_ob hf
    refine sk_callS (As := [.long p2.toInt64, .long (0 : Int64), .long (1 : Int64)]) (st := []) K dX11_chance_18 cl_X11_150 (sX11_within C l e9) (by decide) rfl rfl (Nat.le_of_ble_eq_true rfl) R1 R2 ?_
    refine sk_ifneB 28 K dX11_chance_21 (by decide) (fun h10 => ?_) (fun h10 => ?_)
    · rw [if_pos h10] at hf
      refine sk_aload_n K dX11_chance_28 rfl 0 rfl ?_
      obtain ⟨h13, hf⟩ := sk_ib hf
      obtain ⟨v11, e12, hf⟩ := sk_ob hf
      refine sk_callV (As := []) (st := []) K dX11_chance_29 cl_X11_270 h13 (sX11_standNow C l e12) (by decide) rfl rfl (Nat.le_of_ble_eq_true rfl) R1 R2 ?_
      refine sk_iload_n K dX11_chance_32 rfl 1 rfl ?_
      obtain ⟨v14, e15, hf⟩ := sk_ob hf
      refine sk_callS (As := [.int v11, .int p1]) (st := []) K dX11_chance_33 cl_X11_255 (sX11_isDone C l e15) (by decide) rfl rfl (Nat.le_of_ble_eq_true rfl) R1 R2 ?_
      refine sk_ifeqB 55 K dX11_chance_36 (by decide) (fun h16 => ?_) (fun h16 => ?_)
      · rw [if_neg h16] at hf
        refine sk_ldc2 K dX11_chance_55 qw_1949 ?_
        have hR17 : ((-5 : Int64), d1) = (rr, dd) := Option.some.inj hf
        exact sk_lret K dX11_chance_58 rfl rfl (congrArg (fun z => z.1) hR17) rfl (congrArg (fun z => z.2) hR17)
      · rw [if_pos h16] at hf
        refine sk_aload_n K dX11_chance_39 rfl 0 rfl ?_
        refine sk_aload_n K dX11_chance_40 rfl 0 rfl ?_
        obtain ⟨h20, hf⟩ := sk_ib hf
        obtain ⟨v18, e19, hf⟩ := sk_ob hf
        refine sk_callV (As := []) (st := [.ref p0]) K dX11_chance_41 cl_X11_270 h20 (sX11_standNow C l e19) (by decide) rfl rfl (Nat.le_of_ble_eq_true rfl) R1 R2 ?_
        refine sk_iload_n K dX11_chance_44 rfl 1 rfl ?_
        obtain ⟨h23, hf⟩ := sk_ib hf
        obtain ⟨v21, e22, hf⟩ := sk_ob hf
        refine sk_callV (As := [.int v18, .int p1]) (st := []) K dX11_chance_45 cl_X11_463 h23 (sX11_staysDone C l e22) (by decide) rfl rfl (Nat.le_of_ble_eq_true rfl) R1 R2 ?_
        refine sk_iload_n K dX11_chance_48 rfl 2 rfl ?_
        obtain ⟨v24, e25, hf⟩ := sk_ob hf
        refine sk_callS (As := [.long v21, .int p2]) (st := []) K dX11_chance_49 cl_X11_473 (sX11_part C l e25) (by decide) rfl rfl (Nat.le_of_ble_eq_true rfl) R1 R2 ?_
        refine sk_goto 58 K dX11_chance_52 (by decide) ?_
        have hR26 : (v24, d1) = (rr, dd) := Option.some.inj hf
        exact sk_lret K dX11_chance_58 rfl rfl (congrArg (fun z => z.1) hR26) rfl (congrArg (fun z => z.2) hR26)
    · rw [if_neg h10] at hf
      refine sk_ldc2 K dX11_chance_24 qw_1932 ?_
      have hR27 : ((-2 : Int64), d1) = (rr, dd) := Option.some.inj hf
      exact sk_lret K dX11_chance_27 rfl rfl (congrArg (fun z => z.1) hR27) rfl (congrArg (fun z => z.2) hR27)
noncomputable def fX11_mean (S : sk_S) (d : sk_D) (p0 : Nat) (p1 : Int32) : Option (Int64 × sk_D) :=
  (sk_pI S d p0 10 0 (0 : Int32)).bind fun d1 => (fX11_within S d1 p1.toInt64 (0 : Int64) (1 : Int64)).bind fun v3 => if v3 = true then (if S.2.1 p0 = (10, 0) then ((fX11_standNow S d1 p0).bind fun v7 => if S.2.1 p0 = (10, 0) then ((fX11_meanOf S d1 p0 v7).bind fun v10 => (fX11_part S d1 v10 p1).bind fun v13 => some (v13, d1)) else none) else none) else (some ((-2 : Int64), d1))
set_option maxRecDepth 100000 in
set_option maxHeartbeats 4000000 in
theorem sX11_mean (C : sk_C) (l : Launch) {S : sk_S} {d : sk_D} {p0 : Nat} {p1 : Int32} {rr : Int64} {dd : sk_D} (hf : fX11_mean S d p0 p1 = some (rr, dd)) : sk_Met C l 102 yX11_mean cX11_mean 2 (some .long) [.ref p0, .int p1] S d (some (.long rr)) S dd := by
  refine sk_Met.of (by decide) (Nat.le_of_ble_eq_true rfl) (Nat.le_refl _) (Nat.le_refl _) (fun X K0 hX => ?_)
  have K : sk_Ok X C cX11_mean 2 RX11 "mean" (some .long) 102 l (some (.long rr)) S dd := K0
  have R1 : X.2.2.2.2.2.2.2.2.2.2.2.1 ≤ S.1.1 ∧ X.2.2.2.2.2.2.2.2.2.2.2.2 ≤ S.1.2 := by rw [hX]; exact ⟨Nat.le_refl _, Nat.le_refl _⟩
  have R2 : S.1.1 ≤ S.1.1 ∧ S.1.2 ≤ S.1.2 := ⟨Nat.le_refl _, Nat.le_refl _⟩
  show sk_G X C 2 S d 0 [(0, .ref p0), (1, .int p1)] []
  unfold fX11_mean at hf
  refine sk_aload_n K dX11_mean_0 rfl 0 rfl ?_
  refine sk_iconst (0 : Int32) K dX11_mean_1 (by decide) ?_
  obtain ⟨d1, e2, hf⟩ := sk_ob hf
  refine sk_putI d1 K dX11_mean_2 fl_X11_1 rfl rfl rfl e2 ?_
  refine sk_iload_n K dX11_mean_5 rfl 1 rfl ?_
  refine sk_i2l K dX11_mean_6 ?_
  refine sk_lconst (0 : Int64) K dX11_mean_7 (by decide) ?_
  refine sk_lconst (1 : Int64) K dX11_mean_8 (by decide) ?_
  obtain ⟨v3, e4, hf⟩ := sk_ob hf
  refine sk_callS (As := [.long p1.toInt64, .long (0 : Int64), .long (1 : Int64)]) (st := []) K dX11_mean_9 cl_X11_150 (sX11_within C l e4) (by decide) rfl rfl (Nat.le_of_ble_eq_true rfl) R1 R2 ?_
  refine sk_ifeqB 30 K dX11_mean_12 (by decide) (fun h5 => ?_) (fun h5 => ?_)
  · rw [if_neg h5] at hf
    refine sk_ldc2 K dX11_mean_30 qw_1932 ?_
    have hR6 : ((-2 : Int64), d1) = (rr, dd) := Option.some.inj hf
    exact sk_lret K dX11_mean_33 rfl rfl (congrArg (fun z => z.1) hR6) rfl (congrArg (fun z => z.2) hR6)
  · rw [if_pos h5] at hf
    refine sk_aload_n K dX11_mean_15 rfl 0 rfl ?_
    refine sk_aload_n K dX11_mean_16 rfl 0 rfl ?_
    obtain ⟨h9, hf⟩ := sk_ib hf
    obtain ⟨v7, e8, hf⟩ := sk_ob hf
    refine sk_callV (As := []) (st := [.ref p0]) K dX11_mean_17 cl_X11_270 h9 (sX11_standNow C l e8) (by decide) rfl rfl (Nat.le_of_ble_eq_true rfl) R1 R2 ?_
    obtain ⟨h12, hf⟩ := sk_ib hf
    obtain ⟨v10, e11, hf⟩ := sk_ob hf
    refine sk_callV (As := [.int v7]) (st := []) K dX11_mean_20 cl_X11_479 h12 (sX11_meanOf C l e11) (by decide) rfl rfl (Nat.le_of_ble_eq_true rfl) R1 R2 ?_
    refine sk_iload_n K dX11_mean_23 rfl 1 rfl ?_
    obtain ⟨v13, e14, hf⟩ := sk_ob hf
    refine sk_callS (As := [.long v10, .int p1]) (st := []) K dX11_mean_24 cl_X11_473 (sX11_part C l e14) (by decide) rfl rfl (Nat.le_of_ble_eq_true rfl) R1 R2 ?_
    refine sk_goto 33 K dX11_mean_27 (by decide) ?_
    have hR15 : (v13, d1) = (rr, dd) := Option.some.inj hf
    exact sk_lret K dX11_mean_33 rfl rfl (congrArg (fun z => z.1) hR15) rfl (congrArg (fun z => z.2) hR15)
noncomputable def fX11_wanted_L14 (S : sk_S) (p0 : Nat) (d1 : sk_D) (s1 : Int32 × Int64 × Int32) : Option ((Int32 × Int64 × Int32) ⊕ (Int32 × sk_D)) :=
  (sk_gR S p0 10 1).bind fun v3 => (sk_lI S d1 v3 20 (1 : Int32)).bind fun v5 => if v5 ≤ s1.2.2 then (some (.inr (s1.1, d1))) else ((sk_gR S p0 10 1).bind fun v9 => (sk_lI S d1 v9 20 ((74 : Int32) + s1.2.2)).bind fun v11 => if v11 = (2 : Int32) then (if S.2.1 p0 = (10, 0) then ((fX11_standNow S d1 p0).bind fun v14 => (fX11_withHow S d1 v14 s1.2.2 (1 : Int32)).bind fun v17 => if S.2.1 p0 = (10, 0) then ((fX11_meanOf S d1 p0 v17).bind fun v19 => if s1.2.1 < v19 then (some (.inl (s1.2.2, v19, s1.2.2 + 1))) else (some (.inl (s1.1, s1.2.1, s1.2.2 + 1)))) else none) else none) else (some (.inl (s1.1, s1.2.1, s1.2.2 + 1))))
noncomputable def fX11_wanted (S : sk_S) (d : sk_D) (p0 : Nat) : Option (Int32 × sk_D) :=
  (sk_pI S d p0 10 0 (0 : Int32)).bind fun d1 => (sk_itr (fX11_wanted_L14 S p0 d1) ((-1 : Int32), (-1 : Int64), (0 : Int32))).bind fun x1 => some x1
set_option maxRecDepth 100000 in
set_option maxHeartbeats 4000000 in
theorem sX11_wanted (C : sk_C) (l : Launch) {S : sk_S} {d : sk_D} {p0 : Nat} {rr : Int32} {dd : sk_D} (hf : fX11_wanted S d p0 = some (rr, dd)) : sk_Met C l 4 yX11_wanted cX11_wanted 7 (some .int) [.ref p0] S d (some (.int rr)) S dd := by
  refine sk_Met.of (by decide) (Nat.le_of_ble_eq_true rfl) (Nat.le_refl _) (Nat.le_refl _) (fun X K0 hX => ?_)
  have K : sk_Ok X C cX11_wanted 7 RX11 "wanted" (some .int) 4 l (some (.int rr)) S dd := K0
  have R1 : X.2.2.2.2.2.2.2.2.2.2.2.1 ≤ S.1.1 ∧ X.2.2.2.2.2.2.2.2.2.2.2.2 ≤ S.1.2 := by rw [hX]; exact ⟨Nat.le_refl _, Nat.le_refl _⟩
  have R2 : S.1.1 ≤ S.1.1 ∧ S.1.2 ≤ S.1.2 := ⟨Nat.le_refl _, Nat.le_refl _⟩
  show sk_G X C 7 S d 0 [(0, .ref p0)] []
  unfold fX11_wanted at hf
  refine sk_aload_n K dX11_wanted_0 rfl 0 rfl ?_
  refine sk_iconst (0 : Int32) K dX11_wanted_1 (by decide) ?_
  obtain ⟨d1, e2, hf⟩ := sk_ob hf
  refine sk_putI d1 K dX11_wanted_2 fl_X11_1 rfl rfl rfl e2 ?_
  refine sk_iconst (-1 : Int32) K dX11_wanted_5 (by decide) ?_
  refine sk_istore_n [(1, .int (-1 : Int32)), (0, .ref p0)] K dX11_wanted_6 rfl (by decide) rfl ?_
  refine sk_ldc2 K dX11_wanted_7 qw_1962 ?_
  refine sk_lstore_n [(2, .long (-1 : Int64)), (1, .int (-1 : Int32)), (0, .ref p0)] K dX11_wanted_10 rfl (by decide) rfl ?_
  refine sk_iconst (0 : Int32) K dX11_wanted_11 (by decide) ?_
  refine sk_istore [(4, .int (0 : Int32)), (2, .long (-1 : Int64)), (1, .int (-1 : Int32)), (0, .ref p0)] K dX11_wanted_12 (by decide) rfl ?_
  obtain ⟨x1, he1, hf⟩ := sk_ob hf
  have hret1 : ∀ r, r = x1 → r = (rr, dd) := by
    intro r hr
    subst hr
    exact Option.some.inj hf
  refine sk_sub [(0, .ref p0), (1, .int (-1 : Int32)), (2, .long (-1 : Int64)), (4, .int (0 : Int32))] [3, 2, 1, 0] rfl ?_
  refine sk_loop (fun s1 => sk_G X C 7 S d1 14 [(0, .ref p0), (1, .int s1.1), (2, .long s1.2.1), (4, .int s1.2.2)] []) he1 (fun s1 o1 hf ih1 hx1 => ?_)
  unfold fX11_wanted_L14 at hf
  refine sk_iload K dX11_wanted_14 3 rfl ?_
  refine sk_aload_n K dX11_wanted_16 rfl 0 rfl ?_
  obtain ⟨v3, e4, hf⟩ := sk_ob hf
  refine sk_getR K dX11_wanted_17 fl_X11_13 rfl e4 ?_
  refine sk_iconst (1 : Int32) K dX11_wanted_20 (by decide) ?_
  obtain ⟨v5, e6, hf⟩ := sk_ob hf
  refine sk_ald20 K dX11_wanted_21 e6 ?_
  refine sk_icmp_ge 80 K dX11_wanted_22 (by decide) (fun h7 => ?_) (fun h7 => ?_)
  · rw [if_pos h7] at hf
    refine sk_iload_n K dX11_wanted_80 rfl 1 rfl ?_
    have hR8 : (s1.1, d1) = (rr, dd) := hret1 _ (hx1 _ (Option.some.inj hf).symm)
    exact sk_iret K dX11_wanted_81 rfl rfl (congrArg (fun z => z.1) hR8) rfl (congrArg (fun z => z.2) hR8)
  · rw [if_neg h7] at hf
    refine sk_aload_n K dX11_wanted_25 rfl 0 rfl ?_
    obtain ⟨v9, e10, hf⟩ := sk_ob hf
    refine sk_getR K dX11_wanted_26 fl_X11_13 rfl e10 ?_
    refine sk_bipush (74 : Int32) K dX11_wanted_29 (by decide) ?_
    refine sk_iload K dX11_wanted_31 3 rfl ?_
    refine sk_iadd K dX11_wanted_33 ?_
    obtain ⟨v11, e12, hf⟩ := sk_ob hf
    refine sk_ald20 K dX11_wanted_34 e12 ?_
    refine sk_iconst (2 : Int32) K dX11_wanted_35 (by decide) ?_
    refine sk_icmp_eq 42 K dX11_wanted_36 (by decide) (fun h13 => ?_) (fun h13 => ?_)
    · rw [if_pos h13] at hf
      refine sk_aload_n K dX11_wanted_42 rfl 0 rfl ?_
      refine sk_aload_n K dX11_wanted_43 rfl 0 rfl ?_
      obtain ⟨h16, hf⟩ := sk_ib hf
      obtain ⟨v14, e15, hf⟩ := sk_ob hf
      refine sk_callV (As := []) (st := [.ref p0]) K dX11_wanted_44 cl_X11_270 h16 (sX11_standNow C l e15) (by decide) rfl rfl (Nat.le_of_ble_eq_true rfl) R1 R2 ?_
      refine sk_iload K dX11_wanted_47 3 rfl ?_
      refine sk_iconst (1 : Int32) K dX11_wanted_49 (by decide) ?_
      obtain ⟨v17, e18, hf⟩ := sk_ob hf
      refine sk_callS (As := [.int v14, .int s1.2.2, .int (1 : Int32)]) (st := [.ref p0]) K dX11_wanted_50 cl_X11_248 (sX11_withHow C l e18) (by decide) rfl rfl (Nat.le_of_ble_eq_true rfl) R1 R2 ?_
      obtain ⟨h21, hf⟩ := sk_ib hf
      obtain ⟨v19, e20, hf⟩ := sk_ob hf
      refine sk_callV (As := [.int v17]) (st := []) K dX11_wanted_53 cl_X11_479 h21 (sX11_meanOf C l e20) (by decide) rfl rfl (Nat.le_of_ble_eq_true rfl) R1 R2 ?_
      refine sk_lstore [(5, .long v19), (0, .ref p0), (1, .int s1.1), (2, .long s1.2.1), (4, .int s1.2.2)] K dX11_wanted_56 (by decide) rfl ?_
      refine sk_lload K dX11_wanted_58 0 rfl ?_
      refine sk_lload_n K dX11_wanted_60 rfl 3 rfl ?_
      refine sk_lcmp_gt 68 K dX11_wanted_61 dX11_wanted_62 (by decide) (fun h22 => ?_) (fun h22 => ?_)
      · rw [if_pos h22] at hf
        refine sk_iload K dX11_wanted_68 4 rfl ?_
        refine sk_istore_n [(1, .int s1.2.2), (5, .long v19), (0, .ref p0), (2, .long s1.2.1), (4, .int s1.2.2)] K dX11_wanted_70 rfl (by decide) rfl ?_
        refine sk_lload K dX11_wanted_71 1 rfl ?_
        refine sk_lstore_n [(2, .long v19), (1, .int s1.2.2), (5, .long v19), (0, .ref p0), (4, .int s1.2.2)] K dX11_wanted_73 rfl (by decide) rfl ?_
        refine sk_iinc (s1.2.2 + 1) [(4, .int (s1.2.2 + 1)), (2, .long v19), (1, .int s1.2.2), (5, .long v19), (0, .ref p0)] K dX11_wanted_74 4 rfl rfl (by decide) rfl ?_
        refine sk_goto 14 K dX11_wanted_77 (by decide) ?_
        refine sk_sub [(0, .ref p0), (1, .int s1.2.2), (2, .long v19), (4, .int (s1.2.2 + 1))] [4, 2, 1, 0] rfl ?_
        have h9 := ih1 _ (Option.some.inj hf).symm
        exact h9
      · rw [if_neg h22] at hf
        refine sk_goto 74 K dX11_wanted_65 (by decide) ?_
        refine sk_iinc (s1.2.2 + 1) [(4, .int (s1.2.2 + 1)), (5, .long v19), (0, .ref p0), (1, .int s1.1), (2, .long s1.2.1)] K dX11_wanted_74 4 rfl rfl (by decide) rfl ?_
        refine sk_goto 14 K dX11_wanted_77 (by decide) ?_
        refine sk_sub [(0, .ref p0), (1, .int s1.1), (2, .long s1.2.1), (4, .int (s1.2.2 + 1))] [2, 3, 4, 0] rfl ?_
        have h9 := ih1 _ (Option.some.inj hf).symm
        exact h9
    · rw [if_neg h13] at hf
      refine sk_goto 74 K dX11_wanted_39 (by decide) ?_
      refine sk_iinc (s1.2.2 + 1) [(4, .int (s1.2.2 + 1)), (0, .ref p0), (1, .int s1.1), (2, .long s1.2.1)] K dX11_wanted_74 3 rfl rfl (by decide) rfl ?_
      refine sk_goto 14 K dX11_wanted_77 (by decide) ?_
      refine sk_sub [(0, .ref p0), (1, .int s1.1), (2, .long s1.2.1), (4, .int (s1.2.2 + 1))] [1, 2, 3, 0] rfl ?_
      have h9 := ih1 _ (Option.some.inj hf).symm
      exact h9
noncomputable def fX11_cut (S : sk_S) (d : sk_D) (p0 : Int64) (p2 : Int32) : Option (Int64) :=
  if p2 = 0 then (some p0.toInt32.toInt8.toInt32.toInt64) else (if p2 = (1 : Int32) then (some p0.toInt32.toInt16.toInt32.toInt64) else (if p2 = (2 : Int32) then (some p0.toInt32.toInt64) else (some p0)))
set_option maxRecDepth 100000 in
set_option maxHeartbeats 4000000 in
theorem sX11_cut (C : sk_C) (l : Launch) {S : sk_S} {d : sk_D} {p0 : Int64} {p2 : Int32} {rr : Int64} (hf : fX11_cut S d p0 p2 = some rr) : sk_Met C l 0 yX11_cut cX11_cut 3 (some .long) [.long p0, .int p2] S d (some (.long rr)) S d := by
  refine sk_Met.of (by decide) (Nat.le_of_ble_eq_true rfl) (Nat.le_refl _) (Nat.le_refl _) (fun X K0 hX => ?_)
  have K : sk_Ok X C cX11_cut 3 RX11 "cut" (some .long) 0 l (some (.long rr)) S d := K0
  have R1 : X.2.2.2.2.2.2.2.2.2.2.2.1 ≤ S.1.1 ∧ X.2.2.2.2.2.2.2.2.2.2.2.2 ≤ S.1.2 := by rw [hX]; exact ⟨Nat.le_refl _, Nat.le_refl _⟩
  have R2 : S.1.1 ≤ S.1.1 ∧ S.1.2 ≤ S.1.2 := ⟨Nat.le_refl _, Nat.le_refl _⟩
  show sk_G X C 3 S d 0 [(0, .long p0), (2, .int p2)] []
  unfold fX11_cut at hf
  refine sk_iload_n K dX11_cut_0 rfl 1 rfl ?_
  refine sk_if_ne 11 K dX11_cut_1 (by decide) (fun h1 => ?_) (fun h1 => ?_)
  · rw [if_neg h1] at hf
    refine sk_iload_n K dX11_cut_11 rfl 1 rfl ?_
    refine sk_iconst (1 : Int32) K dX11_cut_12 (by decide) ?_
    refine sk_icmp_ne 23 K dX11_cut_13 (by decide) (fun h2 => ?_) (fun h2 => ?_)
    · rw [if_neg h2] at hf
      refine sk_iload_n K dX11_cut_23 rfl 1 rfl ?_
      refine sk_iconst (2 : Int32) K dX11_cut_24 (by decide) ?_
      refine sk_icmp_ne 34 K dX11_cut_25 (by decide) (fun h3 => ?_) (fun h3 => ?_)
      · rw [if_neg h3] at hf
        refine sk_lload_n K dX11_cut_34 rfl 0 rfl ?_
        have hR4 : p0 = rr := Option.some.inj hf
        exact sk_lret K dX11_cut_35 rfl rfl hR4 rfl rfl
      · rw [if_pos h3] at hf
        refine sk_lload_n K dX11_cut_28 rfl 0 rfl ?_
        refine sk_l2i K dX11_cut_29 ?_
        refine sk_i2l K dX11_cut_30 ?_
        refine sk_goto 35 K dX11_cut_31 (by decide) ?_
        have hR5 : p0.toInt32.toInt64 = rr := Option.some.inj hf
        exact sk_lret K dX11_cut_35 rfl rfl hR5 rfl rfl
    · rw [if_pos h2] at hf
      refine sk_lload_n K dX11_cut_16 rfl 0 rfl ?_
      refine sk_l2i K dX11_cut_17 ?_
      refine sk_i2s K dX11_cut_18 ?_
      refine sk_i2l K dX11_cut_19 ?_
      refine sk_goto 35 K dX11_cut_20 (by decide) ?_
      have hR6 : p0.toInt32.toInt16.toInt32.toInt64 = rr := Option.some.inj hf
      exact sk_lret K dX11_cut_35 rfl rfl hR6 rfl rfl
  · rw [if_pos h1] at hf
    refine sk_lload_n K dX11_cut_4 rfl 0 rfl ?_
    refine sk_l2i K dX11_cut_5 ?_
    refine sk_i2b K dX11_cut_6 ?_
    refine sk_i2l K dX11_cut_7 ?_
    refine sk_goto 35 K dX11_cut_8 (by decide) ?_
    have hR7 : p0.toInt32.toInt8.toInt32.toInt64 = rr := Option.some.inj hf
    exact sk_lret K dX11_cut_35 rfl rfl hR7 rfl rfl
noncomputable def fX11_numbers_L64 (S : sk_S) (p0 : Nat) (p1 : Int32) (p3 : Int32) (s1 : Int32 × sk_D) : Option ((Int32 × sk_D) ⊕ (Int32 × sk_D)) :=
  if p3 ≤ s1.1 then (some (.inr ((0 : Int32), s1.2))) else ((sk_gR S p0 10 36).bind fun v23 => (sk_sJ S s1.2 v23 (((40 : Int32) * p1) + s1.1) (0 : Int64)).bind fun d25 => some (.inl (s1.1 + 1, d25)))
noncomputable def fX11_numbers (S : sk_S) (d : sk_D) (p0 : Nat) (p1 : Int32) (p2 : Int32) (p3 : Int32) : Option (Int32 × sk_D) :=
  (sk_pI S d p0 10 0 (0 : Int32)).bind fun d1 => (fX11_within S d1 p1.toInt64 (0 : Int64) (3 : Int64)).bind fun v3 => if v3 = true then ((fX11_within S d1 p2.toInt64 (0 : Int64) (3 : Int64)).bind fun v7 => if v7 = true then ((fX11_within S d1 p3.toInt64 (0 : Int64) (40 : Int64)).bind fun v10 => if v10 = true then ((sk_gR S p0 10 34).bind fun v13 => (sk_sI S d1 v13 20 p1 p2).bind fun d15 => (sk_gR S p0 10 35).bind fun v17 => (sk_sI S d15 v17 20 p1 p3).bind fun d19 => (sk_itr (fX11_numbers_L64 S p0 p1 p3) ((0 : Int32), d19)).bind fun x1 => some x1) else (some ((-3 : Int32), d1))) else (some ((-2 : Int32), d1))) else (some ((-2 : Int32), d1))
set_option maxRecDepth 100000 in
set_option maxHeartbeats 4000000 in
theorem sX11_numbers (C : sk_C) (l : Launch) {S : sk_S} {d : sk_D} {p0 : Nat} {p1 : Int32} {p2 : Int32} {p3 : Int32} {rr : Int32} {dd : sk_D} (hf : fX11_numbers S d p0 p1 p2 p3 = some (rr, dd)) : sk_Met C l 1 yX11_numbers cX11_numbers 5 (some .int) [.ref p0, .int p1, .int p2, .int p3] S d (some (.int rr)) S dd := by
  refine sk_Met.of (by decide) (Nat.le_of_ble_eq_true rfl) (Nat.le_refl _) (Nat.le_refl _) (fun X K0 hX => ?_)
  have K : sk_Ok X C cX11_numbers 5 RX11 "numbers" (some .int) 1 l (some (.int rr)) S dd := K0
  have R1 : X.2.2.2.2.2.2.2.2.2.2.2.1 ≤ S.1.1 ∧ X.2.2.2.2.2.2.2.2.2.2.2.2 ≤ S.1.2 := by rw [hX]; exact ⟨Nat.le_refl _, Nat.le_refl _⟩
  have R2 : S.1.1 ≤ S.1.1 ∧ S.1.2 ≤ S.1.2 := ⟨Nat.le_refl _, Nat.le_refl _⟩
  show sk_G X C 5 S d 0 [(0, .ref p0), (1, .int p1), (2, .int p2), (3, .int p3)] []
  unfold fX11_numbers at hf
  refine sk_aload_n K dX11_numbers_0 rfl 0 rfl ?_
  refine sk_iconst (0 : Int32) K dX11_numbers_1 (by decide) ?_
  obtain ⟨d1, e2, hf⟩ := sk_ob hf
  refine sk_putI d1 K dX11_numbers_2 fl_X11_1 rfl rfl rfl e2 ?_
  refine sk_iload_n K dX11_numbers_5 rfl 1 rfl ?_
  refine sk_i2l K dX11_numbers_6 ?_
  refine sk_lconst (0 : Int64) K dX11_numbers_7 (by decide) ?_
  refine sk_ldc2 K dX11_numbers_8 qw_1691 ?_
  obtain ⟨v3, e4, hf⟩ := sk_ob hf
  refine sk_callS (As := [.long p1.toInt64, .long (0 : Int64), .long (3 : Int64)]) (st := []) K dX11_numbers_11 cl_X11_150 (sX11_within C l e4) (by decide) rfl rfl (Nat.le_of_ble_eq_true rfl) R1 R2 ?_
  refine sk_ifeqB 29 K dX11_numbers_14 (by decide) (fun h5 => ?_) (fun h5 => ?_)
  · rw [if_neg h5] at hf
    refine sk_bipush (-2 : Int32) K dX11_numbers_29 (by decide) ?_
    have hR6 : ((-2 : Int32), d1) = (rr, dd) := Option.some.inj hf
    exact sk_iret K dX11_numbers_31 rfl rfl (congrArg (fun z => z.1) hR6) rfl (congrArg (fun z => z.2) hR6)
  · rw [if_pos h5] at hf
    refine sk_iload_n K dX11_numbers_17 rfl 2 rfl ?_
    refine sk_i2l K dX11_numbers_18 ?_
    refine sk_lconst (0 : Int64) K dX11_numbers_19 (by decide) ?_
    refine sk_ldc2 K dX11_numbers_20 qw_1691 ?_
    obtain ⟨v7, e8, hf⟩ := sk_ob hf
    refine sk_callS (As := [.long p2.toInt64, .long (0 : Int64), .long (3 : Int64)]) (st := []) K dX11_numbers_23 cl_X11_150 (sX11_within C l e8) (by decide) rfl rfl (Nat.le_of_ble_eq_true rfl) R1 R2 ?_
    refine sk_ifneB 32 K dX11_numbers_26 (by decide) (fun h9 => ?_) (fun h9 => ?_)
    · rw [if_pos h9] at hf
      refine sk_iload_n K dX11_numbers_32 rfl 3 rfl ?_
      refine sk_i2l K dX11_numbers_33 ?_
      refine sk_lconst (0 : Int64) K dX11_numbers_34 (by decide) ?_
      refine sk_ldc2 K dX11_numbers_35 qw_1709 ?_
      obtain ⟨v10, e11, hf⟩ := sk_ob hf
      refine sk_callS (As := [.long p3.toInt64, .long (0 : Int64), .long (40 : Int64)]) (st := []) K dX11_numbers_38 cl_X11_150 (sX11_within C l e11) (by decide) rfl rfl (Nat.le_of_ble_eq_true rfl) R1 R2 ?_
      refine sk_ifneB 47 K dX11_numbers_41 (by decide) (fun h12 => ?_) (fun h12 => ?_)
      · rw [if_pos h12] at hf
        refine sk_aload_n K dX11_numbers_47 rfl 0 rfl ?_
        obtain ⟨v13, e14, hf⟩ := sk_ob hf
        refine sk_getR K dX11_numbers_48 fl_X11_75 rfl e14 ?_
        refine sk_iload_n K dX11_numbers_51 rfl 1 rfl ?_
        refine sk_iload_n K dX11_numbers_52 rfl 2 rfl ?_
        obtain ⟨d15, e16, hf⟩ := sk_ob hf
        refine sk_ast20 d15 K dX11_numbers_53 e16 ?_
        refine sk_aload_n K dX11_numbers_54 rfl 0 rfl ?_
        obtain ⟨v17, e18, hf⟩ := sk_ob hf
        refine sk_getR K dX11_numbers_55 fl_X11_78 rfl e18 ?_
        refine sk_iload_n K dX11_numbers_58 rfl 1 rfl ?_
        refine sk_iload_n K dX11_numbers_59 rfl 3 rfl ?_
        obtain ⟨d19, e20, hf⟩ := sk_ob hf
        refine sk_ast20 d19 K dX11_numbers_60 e20 ?_
        refine sk_iconst (0 : Int32) K dX11_numbers_61 (by decide) ?_
        refine sk_istore [(4, .int (0 : Int32)), (0, .ref p0), (1, .int p1), (2, .int p2), (3, .int p3)] K dX11_numbers_62 (by decide) rfl ?_
        obtain ⟨x1, he1, hf⟩ := sk_ob hf
        have hret1 : ∀ r, r = x1 → r = (rr, dd) := by
          intro r hr
          subst hr
          exact Option.some.inj hf
        refine sk_sub [(0, .ref p0), (1, .int p1), (3, .int p3), (4, .int (0 : Int32))] [1, 2, 4, 0] rfl ?_
        refine sk_loop (fun s1 => sk_G X C 5 S s1.2 64 [(0, .ref p0), (1, .int p1), (3, .int p3), (4, .int s1.1)] []) he1 (fun s1 o1 hf ih1 hx1 => ?_)
        unfold fX11_numbers_L64 at hf
        refine sk_iload K dX11_numbers_64 3 rfl ?_
        refine sk_iload_n K dX11_numbers_66 rfl 2 rfl ?_
        refine sk_icmp_ge 89 K dX11_numbers_67 (by decide) (fun h21 => ?_) (fun h21 => ?_)
        · rw [if_pos h21] at hf
          refine sk_iconst (0 : Int32) K dX11_numbers_89 (by decide) ?_
          have hR22 : ((0 : Int32), s1.2) = (rr, dd) := hret1 _ (hx1 _ (Option.some.inj hf).symm)
          exact sk_iret K dX11_numbers_90 rfl rfl (congrArg (fun z => z.1) hR22) rfl (congrArg (fun z => z.2) hR22)
        · rw [if_neg h21] at hf
          refine sk_aload_n K dX11_numbers_70 rfl 0 rfl ?_
          obtain ⟨v23, e24, hf⟩ := sk_ob hf
          refine sk_getR K dX11_numbers_71 fl_X11_81 rfl e24 ?_
          refine sk_bipush (40 : Int32) K dX11_numbers_74 (by decide) ?_
          refine sk_iload_n K dX11_numbers_76 rfl 1 rfl ?_
          refine sk_imul K dX11_numbers_77 ?_
          refine sk_iload K dX11_numbers_78 3 rfl ?_
          refine sk_iadd K dX11_numbers_80 ?_
          refine sk_lconst (0 : Int64) K dX11_numbers_81 (by decide) ?_
          obtain ⟨d25, e26, hf⟩ := sk_ob hf
          refine sk_ast21 d25 K dX11_numbers_82 e26 ?_
          refine sk_iinc (s1.1 + 1) [(4, .int (s1.1 + 1)), (0, .ref p0), (1, .int p1), (3, .int p3)] K dX11_numbers_83 3 rfl rfl (by decide) rfl ?_
          refine sk_goto 64 K dX11_numbers_86 (by decide) ?_
          refine sk_sub [(0, .ref p0), (1, .int p1), (3, .int p3), (4, .int (s1.1 + 1))] [1, 2, 3, 0] rfl ?_
          have h9 := ih1 _ (Option.some.inj hf).symm
          exact h9
      · rw [if_neg h12] at hf
        refine sk_bipush (-3 : Int32) K dX11_numbers_44 (by decide) ?_
        have hR27 : ((-3 : Int32), d1) = (rr, dd) := Option.some.inj hf
        exact sk_iret K dX11_numbers_46 rfl rfl (congrArg (fun z => z.1) hR27) rfl (congrArg (fun z => z.2) hR27)
    · rw [if_neg h9] at hf
      refine sk_bipush (-2 : Int32) K dX11_numbers_29 (by decide) ?_
      have hR28 : ((-2 : Int32), d1) = (rr, dd) := Option.some.inj hf
      exact sk_iret K dX11_numbers_31 rfl rfl (congrArg (fun z => z.1) hR28) rfl (congrArg (fun z => z.2) hR28)
noncomputable def fX11_write (S : sk_S) (d : sk_D) (p0 : Nat) (p1 : Int32) (p2 : Int32) (p3 : Int64) : Option (Int64 × sk_D) :=
  (sk_pI S d p0 10 0 (0 : Int32)).bind fun d1 => if S.2.1 p0 = (10, 0) then ((fX11_noTray S d1 p0 p1).bind fun v3 => if v3 = 0 then ((sk_gR S p0 10 35).bind fun v7 => (sk_lI S d1 v7 20 p1).bind fun v9 => (fX11_within S d1 p2.toInt64 (0 : Int64) ((v9 - (1 : Int32)).toInt64)).bind fun v11 => if v11 = true then ((sk_gR S p0 10 36).bind fun v14 => (sk_gR S p0 10 34).bind fun v16 => (sk_lI S d1 v16 20 p1).bind fun v18 => (fX11_cut S d1 p3 v18).bind fun v20 => (sk_sJ S d1 v14 (((40 : Int32) * p1) + p2) v20).bind fun d22 => (sk_gR S p0 10 36).bind fun v24 => (sk_lJ S d22 v24 (((40 : Int32) * p1) + p2)).bind fun v26 => some (v26, d22)) else (some ((-7 : Int64), d1))) else (some (v3.toInt64, d1))) else none
set_option maxRecDepth 100000 in
set_option maxHeartbeats 4000000 in
theorem sX11_write (C : sk_C) (l : Launch) {S : sk_S} {d : sk_D} {p0 : Nat} {p1 : Int32} {p2 : Int32} {p3 : Int64} {rr : Int64} {dd : sk_D} (hf : fX11_write S d p0 p1 p2 p3 = some (rr, dd)) : sk_Met C l 2 yX11_write cX11_write 6 (some .long) [.ref p0, .int p1, .int p2, .long p3] S d (some (.long rr)) S dd := by
  refine sk_Met.of (by decide) (Nat.le_of_ble_eq_true rfl) (Nat.le_refl _) (Nat.le_refl _) (fun X K0 hX => ?_)
  have K : sk_Ok X C cX11_write 6 RX11 "write" (some .long) 2 l (some (.long rr)) S dd := K0
  have R1 : X.2.2.2.2.2.2.2.2.2.2.2.1 ≤ S.1.1 ∧ X.2.2.2.2.2.2.2.2.2.2.2.2 ≤ S.1.2 := by rw [hX]; exact ⟨Nat.le_refl _, Nat.le_refl _⟩
  have R2 : S.1.1 ≤ S.1.1 ∧ S.1.2 ≤ S.1.2 := ⟨Nat.le_refl _, Nat.le_refl _⟩
  show sk_G X C 6 S d 0 [(0, .ref p0), (1, .int p1), (2, .int p2), (3, .long p3)] []
  unfold fX11_write at hf
  refine sk_aload_n K dX11_write_0 rfl 0 rfl ?_
  refine sk_iconst (0 : Int32) K dX11_write_1 (by decide) ?_
  obtain ⟨d1, e2, hf⟩ := sk_ob hf
  refine sk_putI d1 K dX11_write_2 fl_X11_1 rfl rfl rfl e2 ?_
  refine sk_aload_n K dX11_write_5 rfl 0 rfl ?_
  refine sk_iload_n K dX11_write_6 rfl 1 rfl ?_
  obtain ⟨h5, hf⟩ := sk_ib hf
  obtain ⟨v3, e4, hf⟩ := sk_ob hf
  refine sk_callV (As := [.int p1]) (st := []) K dX11_write_7 cl_X11_336 h5 (sX11_noTray C l e4) (by decide) rfl rfl (Nat.le_of_ble_eq_true rfl) R1 R2 ?_
  refine sk_istore [(5, .int v3), (0, .ref p0), (1, .int p1), (2, .int p2), (3, .long p3)] K dX11_write_10 (by decide) rfl ?_
  refine sk_iload K dX11_write_12 0 rfl ?_
  refine sk_if_eq 21 K dX11_write_14 (by decide) (fun h6 => ?_) (fun h6 => ?_)
  · rw [if_pos h6] at hf
    refine sk_iload_n K dX11_write_21 rfl 3 rfl ?_
    refine sk_i2l K dX11_write_22 ?_
    refine sk_lconst (0 : Int64) K dX11_write_23 (by decide) ?_
    refine sk_aload_n K dX11_write_24 rfl 1 rfl ?_
    obtain ⟨v7, e8, hf⟩ := sk_ob hf
    refine sk_getR K dX11_write_25 fl_X11_78 rfl e8 ?_
    refine sk_iload_n K dX11_write_28 rfl 2 rfl ?_
    obtain ⟨v9, e10, hf⟩ := sk_ob hf
    refine sk_ald20 K dX11_write_29 e10 ?_
    refine sk_iconst (1 : Int32) K dX11_write_30 (by decide) ?_
    refine sk_isub K dX11_write_31 ?_
    refine sk_i2l K dX11_write_32 ?_
    obtain ⟨v11, e12, hf⟩ := sk_ob hf
    refine sk_callS (As := [.long p2.toInt64, .long (0 : Int64), .long ((v9 - (1 : Int32)).toInt64)]) (st := []) K dX11_write_33 cl_X11_150 (sX11_within C l e12) (by decide) rfl rfl (Nat.le_of_ble_eq_true rfl) R1 R2 ?_
    refine sk_ifneB 43 K dX11_write_36 (by decide) (fun h13 => ?_) (fun h13 => ?_)
    · rw [if_pos h13] at hf
      refine sk_aload_n K dX11_write_43 rfl 1 rfl ?_
      obtain ⟨v14, e15, hf⟩ := sk_ob hf
      refine sk_getR K dX11_write_44 fl_X11_81 rfl e15 ?_
      refine sk_bipush (40 : Int32) K dX11_write_47 (by decide) ?_
      refine sk_iload_n K dX11_write_49 rfl 2 rfl ?_
      refine sk_imul K dX11_write_50 ?_
      refine sk_iload_n K dX11_write_51 rfl 3 rfl ?_
      refine sk_iadd K dX11_write_52 ?_
      refine sk_lload_n K dX11_write_53 rfl 4 rfl ?_
      refine sk_aload_n K dX11_write_54 rfl 1 rfl ?_
      obtain ⟨v16, e17, hf⟩ := sk_ob hf
      refine sk_getR K dX11_write_55 fl_X11_75 rfl e17 ?_
      refine sk_iload_n K dX11_write_58 rfl 2 rfl ?_
      obtain ⟨v18, e19, hf⟩ := sk_ob hf
      refine sk_ald20 K dX11_write_59 e19 ?_
      obtain ⟨v20, e21, hf⟩ := sk_ob hf
      refine sk_callS (As := [.long p3, .int v18]) (st := [.int (((40 : Int32) * p1) + p2), .ref v14]) K dX11_write_60 cl_X11_487 (sX11_cut C l e21) (by decide) rfl rfl (Nat.le_of_ble_eq_true rfl) R1 R2 ?_
      obtain ⟨d22, e23, hf⟩ := sk_ob hf
      refine sk_ast21 d22 K dX11_write_63 e23 ?_
      refine sk_aload_n K dX11_write_64 rfl 1 rfl ?_
      obtain ⟨v24, e25, hf⟩ := sk_ob hf
      refine sk_getR K dX11_write_65 fl_X11_81 rfl e25 ?_
      refine sk_bipush (40 : Int32) K dX11_write_68 (by decide) ?_
      refine sk_iload_n K dX11_write_70 rfl 2 rfl ?_
      refine sk_imul K dX11_write_71 ?_
      refine sk_iload_n K dX11_write_72 rfl 3 rfl ?_
      refine sk_iadd K dX11_write_73 ?_
      obtain ⟨v26, e27, hf⟩ := sk_ob hf
      refine sk_ald21 K dX11_write_74 e27 ?_
      have hR28 : (v26, d22) = (rr, dd) := Option.some.inj hf
      exact sk_lret K dX11_write_75 rfl rfl (congrArg (fun z => z.1) hR28) rfl (congrArg (fun z => z.2) hR28)
    · rw [if_neg h13] at hf
      refine sk_ldc2 K dX11_write_39 qw_1971 ?_
      have hR29 : ((-7 : Int64), d1) = (rr, dd) := Option.some.inj hf
      exact sk_lret K dX11_write_42 rfl rfl (congrArg (fun z => z.1) hR29) rfl (congrArg (fun z => z.2) hR29)
  · rw [if_neg h6] at hf
    refine sk_iload K dX11_write_17 0 rfl ?_
    refine sk_i2l K dX11_write_19 ?_
    have hR30 : (v3.toInt64, d1) = (rr, dd) := Option.some.inj hf
    exact sk_lret K dX11_write_20 rfl rfl (congrArg (fun z => z.1) hR30) rfl (congrArg (fun z => z.2) hR30)
noncomputable def fX11_lists_L74 (S : sk_S) (p0 : Nat) (p1 : Int32) (v1 : Int32) (s1 : Int32 × sk_D) : Option ((Int32 × sk_D) ⊕ (Int32 × sk_D)) :=
  if v1 ≤ s1.1 then (some (.inr (v1, s1.2))) else ((sk_gR S p0 10 36).bind fun v5 => if S.2.1 p0 = (10, 0) then ((fX11_moveAt S s1.2 p0 s1.1).bind fun v7 => (sk_sJ S s1.2 v5 (((40 : Int32) * p1) + s1.1) v7.toInt64).bind fun d10 => some (.inl (s1.1 + 1, d10))) else none)
noncomputable def fX11_lists_J69 (S : sk_S) (p0 : Nat) (p1 : Int32) (v1 : Int32) (d2 : sk_D) : Option (Int32 × sk_D) :=
  (sk_itr (fX11_lists_L74 S p0 p1 v1) ((0 : Int32), d2)).bind fun x1 => some x1
noncomputable def fX11_lists (S : sk_S) (d : sk_D) (p0 : Nat) (p1 : Int32) (p2 : Int32) : Option (Int32 × sk_D) :=
  (sk_pI S d p0 10 0 (0 : Int32)).bind fun d12 => if S.2.1 p0 = (10, 0) then ((fX11_noTray S d12 p0 p1).bind fun v14 => if v14 = 0 then (if S.2.1 p0 = (10, 0) then ((fX11_isSet S d12 p0 p2).bind fun v18 => if v18 = true then (if S.2.1 p0 = (10, 0) then ((fX11_laysFar S d12 p0 p2 true).bind fun b26 => if b26.1 = (268435456 : Int32) then (some ((-5 : Int32), b26.2)) else ((sk_gR S p0 10 35).bind fun v28 => (sk_lI S b26.2 v28 20 p1).bind fun v30 => if v30 ≤ b26.1 then ((sk_gR S p0 10 35).bind fun v33 => (sk_lI S b26.2 v33 20 p1).bind fun v35 => fX11_lists_J69 S p0 p1 v35 b26.2) else (fX11_lists_J69 S p0 p1 b26.1 b26.2))) else none) else (some ((-3 : Int32), d12))) else none) else (some (v14, d12))) else none
set_option maxRecDepth 100000 in
set_option maxHeartbeats 4000000 in
theorem sX11_lists (C : sk_C) (l : Launch) {S : sk_S} {d : sk_D} {p0 : Nat} {p1 : Int32} {p2 : Int32} {rr : Int32} {dd : sk_D} (hf : fX11_lists S d p0 p1 p2 = some (rr, dd)) : sk_Met C l 9 yX11_lists cX11_lists 7 (some .int) [.ref p0, .int p1, .int p2] S d (some (.int rr)) S dd := by
  refine sk_Met.of (by decide) (Nat.le_of_ble_eq_true rfl) (Nat.le_refl _) (Nat.le_refl _) (fun X K0 hX => ?_)
  have K : sk_Ok X C cX11_lists 7 RX11 "lists" (some .int) 9 l (some (.int rr)) S dd := K0
  have R1 : X.2.2.2.2.2.2.2.2.2.2.2.1 ≤ S.1.1 ∧ X.2.2.2.2.2.2.2.2.2.2.2.2 ≤ S.1.2 := by rw [hX]; exact ⟨Nat.le_refl _, Nat.le_refl _⟩
  have R2 : S.1.1 ≤ S.1.1 ∧ S.1.2 ≤ S.1.2 := ⟨Nat.le_refl _, Nat.le_refl _⟩
  show sk_G X C 7 S d 0 [(0, .ref p0), (1, .int p1), (2, .int p2)] []
  unfold fX11_lists at hf
  have j69_0 : ∀ (v1 : Int32) (d2 : sk_D), fX11_lists_J69 S p0 p1 v1 d2 = some (rr, dd) → sk_G X C 7 S d2 69 [(0, .ref p0), (1, .int p1)] [.int v1] := by
    intro v1 d2 hf
    unfold fX11_lists_J69 at hf
    refine sk_istore [(5, .int v1), (0, .ref p0), (1, .int p1)] K dX11_lists_69 (by decide) rfl ?_
    refine sk_iconst (0 : Int32) K dX11_lists_71 (by decide) ?_
    refine sk_istore [(6, .int (0 : Int32)), (5, .int v1), (0, .ref p0), (1, .int p1)] K dX11_lists_72 (by decide) rfl ?_
    obtain ⟨x1, he1, hf⟩ := sk_ob hf
    have hret1 : ∀ r, r = x1 → r = (rr, dd) := by
      intro r hr
      subst hr
      exact Option.some.inj hf
    refine sk_sub [(0, .ref p0), (1, .int p1), (5, .int v1), (6, .int (0 : Int32))] [2, 3, 1, 0] rfl ?_
    refine sk_loop (fun s1 => sk_G X C 7 S s1.2 74 [(0, .ref p0), (1, .int p1), (5, .int v1), (6, .int s1.1)] []) he1 (fun s1 o1 hf ih1 hx1 => ?_)
    unfold fX11_lists_L74 at hf
    refine sk_iload K dX11_lists_74 3 rfl ?_
    refine sk_iload K dX11_lists_76 2 rfl ?_
    refine sk_icmp_ge 106 K dX11_lists_78 (by decide) (fun h3 => ?_) (fun h3 => ?_)
    · rw [if_pos h3] at hf
      refine sk_iload K dX11_lists_106 2 rfl ?_
      have hR4 : (v1, s1.2) = (rr, dd) := hret1 _ (hx1 _ (Option.some.inj hf).symm)
      exact sk_iret K dX11_lists_108 rfl rfl (congrArg (fun z => z.1) hR4) rfl (congrArg (fun z => z.2) hR4)
    · rw [if_neg h3] at hf
      refine sk_aload_n K dX11_lists_81 rfl 0 rfl ?_
      obtain ⟨v5, e6, hf⟩ := sk_ob hf
      refine sk_getR K dX11_lists_82 fl_X11_81 rfl e6 ?_
      refine sk_bipush (40 : Int32) K dX11_lists_85 (by decide) ?_
      refine sk_iload_n K dX11_lists_87 rfl 1 rfl ?_
      refine sk_imul K dX11_lists_88 ?_
      refine sk_iload K dX11_lists_89 3 rfl ?_
      refine sk_iadd K dX11_lists_91 ?_
      refine sk_aload_n K dX11_lists_92 rfl 0 rfl ?_
      refine sk_iload K dX11_lists_93 3 rfl ?_
      obtain ⟨h9, hf⟩ := sk_ib hf
      obtain ⟨v7, e8, hf⟩ := sk_ob hf
      refine sk_callV (As := [.int s1.1]) (st := [.int (((40 : Int32) * p1) + s1.1), .ref v5]) K dX11_lists_95 cl_X11_388 h9 (sX11_moveAt C l e8) (by decide) rfl rfl (Nat.le_of_ble_eq_true rfl) R1 R2 ?_
      refine sk_i2l K dX11_lists_98 ?_
      obtain ⟨d10, e11, hf⟩ := sk_ob hf
      refine sk_ast21 d10 K dX11_lists_99 e11 ?_
      refine sk_iinc (s1.1 + 1) [(6, .int (s1.1 + 1)), (0, .ref p0), (1, .int p1), (5, .int v1)] K dX11_lists_100 3 rfl rfl (by decide) rfl ?_
      refine sk_goto 74 K dX11_lists_103 (by decide) ?_
      refine sk_sub [(0, .ref p0), (1, .int p1), (5, .int v1), (6, .int (s1.1 + 1))] [1, 2, 3, 0] rfl ?_
      have h9 := ih1 _ (Option.some.inj hf).symm
      exact h9
  refine sk_aload_n K dX11_lists_0 rfl 0 rfl ?_
  refine sk_iconst (0 : Int32) K dX11_lists_1 (by decide) ?_
  obtain ⟨d12, e13, hf⟩ := sk_ob hf
  refine sk_putI d12 K dX11_lists_2 fl_X11_1 rfl rfl rfl e13 ?_
  refine sk_aload_n K dX11_lists_5 rfl 0 rfl ?_
  refine sk_iload_n K dX11_lists_6 rfl 1 rfl ?_
  obtain ⟨h16, hf⟩ := sk_ib hf
  obtain ⟨v14, e15, hf⟩ := sk_ob hf
  refine sk_callV (As := [.int p1]) (st := []) K dX11_lists_7 cl_X11_336 h16 (sX11_noTray C l e15) (by decide) rfl rfl (Nat.le_of_ble_eq_true rfl) R1 R2 ?_
  refine sk_istore_n [(3, .int v14), (0, .ref p0), (1, .int p1), (2, .int p2)] K dX11_lists_10 rfl (by decide) rfl ?_
  refine sk_iload_n K dX11_lists_11 rfl 0 rfl ?_
  refine sk_if_eq 17 K dX11_lists_12 (by decide) (fun h17 => ?_) (fun h17 => ?_)
  · rw [if_pos h17] at hf
    refine sk_aload_n K dX11_lists_17 rfl 1 rfl ?_
    refine sk_iload_n K dX11_lists_18 rfl 3 rfl ?_
    obtain ⟨h20, hf⟩ := sk_ib hf
    obtain ⟨v18, e19, hf⟩ := sk_ob hf
    refine sk_callV (As := [.int p2]) (st := []) K dX11_lists_19 cl_X11_378 h20 (sX11_isSet C l e19) (by decide) rfl rfl (Nat.le_of_ble_eq_true rfl) R1 R2 ?_
    refine sk_ifneB 28 K dX11_lists_22 (by decide) (fun h21 => ?_) (fun h21 => ?_)
    · rw [if_pos h21] at hf
      refine sk_aload_n K dX11_lists_28 rfl 1 rfl ?_
      refine sk_iload_n K dX11_lists_29 rfl 3 rfl ?_
      refine sk_iconst (1 : Int32) K dX11_lists_30 (by decide) ?_
      obtain ⟨h25, hf⟩ := sk_ib hf
      obtain ⟨⟨v22, d24⟩, e23, hf⟩ := sk_ob hf
      try dsimp only at hf
      refine sk_callV (As := [.int p2, .int (sk_b true)]) (st := []) K dX11_lists_31 cl_X11_381 h25 (sX11_laysFar C l e23) (by decide) rfl rfl (Nat.le_of_ble_eq_true rfl) R1 R2 ?_
      refine sk_istore [(4, .int v22), (3, .int v14), (0, .ref p0), (1, .int p1), (2, .int p2)] K dX11_lists_34 (by decide) rfl ?_
      refine sk_iload K dX11_lists_36 0 rfl ?_
      refine sk_ldcw K dX11_lists_38 qw_1768 ?_
      refine sk_icmp_ne 47 K dX11_lists_41 (by decide) (fun h27 => ?_) (fun h27 => ?_)
      · rw [if_neg h27] at hf
        refine sk_iload K dX11_lists_47 0 rfl ?_
        refine sk_aload_n K dX11_lists_49 rfl 2 rfl ?_
        obtain ⟨v28, e29, hf⟩ := sk_ob hf
        refine sk_getR K dX11_lists_50 fl_X11_78 rfl e29 ?_
        refine sk_iload_n K dX11_lists_53 rfl 3 rfl ?_
        obtain ⟨v30, e31, hf⟩ := sk_ob hf
        refine sk_ald20 K dX11_lists_54 e31 ?_
        refine sk_icmp_ge 63 K dX11_lists_55 (by decide) (fun h32 => ?_) (fun h32 => ?_)
        · rw [if_pos h32] at hf
          refine sk_aload_n K dX11_lists_63 rfl 2 rfl ?_
          obtain ⟨v33, e34, hf⟩ := sk_ob hf
          refine sk_getR K dX11_lists_64 fl_X11_78 rfl e34 ?_
          refine sk_iload_n K dX11_lists_67 rfl 3 rfl ?_
          obtain ⟨v35, e36, hf⟩ := sk_ob hf
          refine sk_ald20 K dX11_lists_68 e36 ?_
          refine sk_sub [(0, .ref p0), (1, .int p1)] [2, 3] rfl ?_
          have h9 := j69_0 _ _ hf
          exact h9
        · rw [if_neg h32] at hf
          refine sk_iload K dX11_lists_58 0 rfl ?_
          refine sk_goto 69 K dX11_lists_60 (by decide) ?_
          refine sk_sub [(0, .ref p0), (1, .int p1)] [2, 3] rfl ?_
          have h9 := j69_0 _ _ hf
          exact h9
      · rw [if_pos h27] at hf
        refine sk_bipush (-5 : Int32) K dX11_lists_44 (by decide) ?_
        have hR37 : ((-5 : Int32), d24) = (rr, dd) := Option.some.inj hf
        exact sk_iret K dX11_lists_46 rfl rfl (congrArg (fun z => z.1) hR37) rfl (congrArg (fun z => z.2) hR37)
    · rw [if_neg h21] at hf
      refine sk_bipush (-3 : Int32) K dX11_lists_25 (by decide) ?_
      have hR38 : ((-3 : Int32), d12) = (rr, dd) := Option.some.inj hf
      exact sk_iret K dX11_lists_27 rfl rfl (congrArg (fun z => z.1) hR38) rfl (congrArg (fun z => z.2) hR38)
  · rw [if_neg h17] at hf
    refine sk_iload_n K dX11_lists_15 rfl 0 rfl ?_
    have hR39 : (v14, d12) = (rr, dd) := Option.some.inj hf
    exact sk_iret K dX11_lists_16 rfl rfl (congrArg (fun z => z.1) hR39) rfl (congrArg (fun z => z.2) hR39)
noncomputable def fX11_image_L20 (S : sk_S) (p0 : Nat) (p1 : Int32) (s1 : Int32 × sk_D) : Option ((Int32 × sk_D) ⊕ (Int32 × sk_D)) :=
  if (1075 : Int32) ≤ s1.1 then ((sk_gR S p0 10 2).bind fun v7 => (sk_sI S s1.2 v7 23 p1 (vp_nar .boolean (1 : Int32))).bind fun d9 => some (.inr ((0 : Int32), d9))) else ((sk_gR S p0 10 1).bind fun v12 => (sk_gR S p0 10 1).bind fun v14 => (sk_lI S s1.2 v14 20 s1.1).bind fun v16 => (sk_sI S s1.2 v12 20 (((1075 : Int32) * (p1 + (1 : Int32))) + s1.1) v16).bind fun d18 => some (.inl (s1.1 + 1, d18)))
noncomputable def fX11_image (S : sk_S) (d : sk_D) (p0 : Nat) (p1 : Int32) : Option (Int32 × sk_D) :=
  (sk_pI S d p0 10 0 (0 : Int32)).bind fun d1 => (fX11_within S d1 p1.toInt64 (0 : Int64) (1 : Int64)).bind fun v3 => if v3 = true then ((sk_itr (fX11_image_L20 S p0 p1) ((0 : Int32), d1)).bind fun x1 => some x1) else (some ((-2 : Int32), d1))
set_option maxRecDepth 100000 in
set_option maxHeartbeats 4000000 in
theorem sX11_image (C : sk_C) (l : Launch) {S : sk_S} {d : sk_D} {p0 : Nat} {p1 : Int32} {rr : Int32} {dd : sk_D} (hf : fX11_image S d p0 p1 = some (rr, dd)) : sk_Met C l 1 yX11_image cX11_image 3 (some .int) [.ref p0, .int p1] S d (some (.int rr)) S dd := by
  refine sk_Met.of (by decide) (Nat.le_of_ble_eq_true rfl) (Nat.le_refl _) (Nat.le_refl _) (fun X K0 hX => ?_)
  have K : sk_Ok X C cX11_image 3 RX11 "image" (some .int) 1 l (some (.int rr)) S dd := K0
  have R1 : X.2.2.2.2.2.2.2.2.2.2.2.1 ≤ S.1.1 ∧ X.2.2.2.2.2.2.2.2.2.2.2.2 ≤ S.1.2 := by rw [hX]; exact ⟨Nat.le_refl _, Nat.le_refl _⟩
  have R2 : S.1.1 ≤ S.1.1 ∧ S.1.2 ≤ S.1.2 := ⟨Nat.le_refl _, Nat.le_refl _⟩
  show sk_G X C 3 S d 0 [(0, .ref p0), (1, .int p1)] []
  unfold fX11_image at hf
  refine sk_aload_n K dX11_image_0 rfl 0 rfl ?_
  refine sk_iconst (0 : Int32) K dX11_image_1 (by decide) ?_
  obtain ⟨d1, e2, hf⟩ := sk_ob hf
  refine sk_putI d1 K dX11_image_2 fl_X11_1 rfl rfl rfl e2 ?_
  refine sk_iload_n K dX11_image_5 rfl 1 rfl ?_
  refine sk_i2l K dX11_image_6 ?_
  refine sk_lconst (0 : Int64) K dX11_image_7 (by decide) ?_
  refine sk_lconst (1 : Int64) K dX11_image_8 (by decide) ?_
  obtain ⟨v3, e4, hf⟩ := sk_ob hf
  refine sk_callS (As := [.long p1.toInt64, .long (0 : Int64), .long (1 : Int64)]) (st := []) K dX11_image_9 cl_X11_150 (sX11_within C l e4) (by decide) rfl rfl (Nat.le_of_ble_eq_true rfl) R1 R2 ?_
  refine sk_ifneB 18 K dX11_image_12 (by decide) (fun h5 => ?_) (fun h5 => ?_)
  · rw [if_pos h5] at hf
    refine sk_iconst (0 : Int32) K dX11_image_18 (by decide) ?_
    refine sk_istore_n [(2, .int (0 : Int32)), (0, .ref p0), (1, .int p1)] K dX11_image_19 rfl (by decide) rfl ?_
    obtain ⟨x1, he1, hf⟩ := sk_ob hf
    have hret1 : ∀ r, r = x1 → r = (rr, dd) := by
      intro r hr
      subst hr
      exact Option.some.inj hf
    refine sk_sub [(0, .ref p0), (1, .int p1), (2, .int (0 : Int32))] [1, 2, 0] rfl ?_
    refine sk_loop (fun s1 => sk_G X C 3 S s1.2 20 [(0, .ref p0), (1, .int p1), (2, .int s1.1)] []) he1 (fun s1 o1 hf ih1 hx1 => ?_)
    unfold fX11_image_L20 at hf
    refine sk_iload_n K dX11_image_20 rfl 2 rfl ?_
    refine sk_sipush (1075 : Int32) K dX11_image_21 (by decide) ?_
    refine sk_icmp_ge 53 K dX11_image_24 (by decide) (fun h6 => ?_) (fun h6 => ?_)
    · rw [if_pos h6] at hf
      refine sk_aload_n K dX11_image_53 rfl 0 rfl ?_
      obtain ⟨v7, e8, hf⟩ := sk_ob hf
      refine sk_getR K dX11_image_54 fl_X11_17 rfl e8 ?_
      refine sk_iload_n K dX11_image_57 rfl 1 rfl ?_
      refine sk_iconst (1 : Int32) K dX11_image_58 (by decide) ?_
      obtain ⟨d9, e10, hf⟩ := sk_ob hf
      refine sk_ast23 d9 K dX11_image_59 e10 ?_
      refine sk_iconst (0 : Int32) K dX11_image_60 (by decide) ?_
      have hR11 : ((0 : Int32), d9) = (rr, dd) := hret1 _ (hx1 _ (Option.some.inj hf).symm)
      exact sk_iret K dX11_image_61 rfl rfl (congrArg (fun z => z.1) hR11) rfl (congrArg (fun z => z.2) hR11)
    · rw [if_neg h6] at hf
      refine sk_aload_n K dX11_image_27 rfl 0 rfl ?_
      obtain ⟨v12, e13, hf⟩ := sk_ob hf
      refine sk_getR K dX11_image_28 fl_X11_13 rfl e13 ?_
      refine sk_sipush (1075 : Int32) K dX11_image_31 (by decide) ?_
      refine sk_iload_n K dX11_image_34 rfl 1 rfl ?_
      refine sk_iconst (1 : Int32) K dX11_image_35 (by decide) ?_
      refine sk_iadd K dX11_image_36 ?_
      refine sk_imul K dX11_image_37 ?_
      refine sk_iload_n K dX11_image_38 rfl 2 rfl ?_
      refine sk_iadd K dX11_image_39 ?_
      refine sk_aload_n K dX11_image_40 rfl 0 rfl ?_
      obtain ⟨v14, e15, hf⟩ := sk_ob hf
      refine sk_getR K dX11_image_41 fl_X11_13 rfl e15 ?_
      refine sk_iload_n K dX11_image_44 rfl 2 rfl ?_
      obtain ⟨v16, e17, hf⟩ := sk_ob hf
      refine sk_ald20 K dX11_image_45 e17 ?_
      obtain ⟨d18, e19, hf⟩ := sk_ob hf
      refine sk_ast20 d18 K dX11_image_46 e19 ?_
      refine sk_iinc (s1.1 + 1) [(2, .int (s1.1 + 1)), (0, .ref p0), (1, .int p1)] K dX11_image_47 2 rfl rfl (by decide) rfl ?_
      refine sk_goto 20 K dX11_image_50 (by decide) ?_
      refine sk_sub [(0, .ref p0), (1, .int p1), (2, .int (s1.1 + 1))] [1, 2, 0] rfl ?_
      have h9 := ih1 _ (Option.some.inj hf).symm
      exact h9
  · rw [if_neg h5] at hf
    refine sk_bipush (-2 : Int32) K dX11_image_15 (by decide) ?_
    have hR20 : ((-2 : Int32), d1) = (rr, dd) := Option.some.inj hf
    exact sk_iret K dX11_image_17 rfl rfl (congrArg (fun z => z.1) hR20) rfl (congrArg (fun z => z.2) hR20)
noncomputable def fX11_restore_L32 (S : sk_S) (p0 : Nat) (p1 : Int32) (s1 : Int32 × sk_D) : Option ((Int32 × sk_D) ⊕ (Int32 × sk_D)) :=
  if (1075 : Int32) ≤ s1.1 then ((sk_gR S p0 10 1).bind fun v12 => (sk_sI S s1.2 v12 20 (83 : Int32) (0 : Int32)).bind fun d14 => some (.inr ((0 : Int32), d14))) else ((sk_gR S p0 10 1).bind fun v17 => (sk_gR S p0 10 1).bind fun v19 => (sk_lI S s1.2 v19 20 (((1075 : Int32) * (p1 + (1 : Int32))) + s1.1)).bind fun v21 => (sk_sI S s1.2 v17 20 s1.1 v21).bind fun d23 => some (.inl (s1.1 + 1, d23)))
noncomputable def fX11_restore (S : sk_S) (d : sk_D) (p0 : Nat) (p1 : Int32) : Option (Int32 × sk_D) :=
  (sk_pI S d p0 10 0 (0 : Int32)).bind fun d1 => (fX11_within S d1 p1.toInt64 (0 : Int64) (1 : Int64)).bind fun v3 => if v3 = true then ((sk_gR S p0 10 2).bind fun v6 => (sk_lI S d1 v6 23 p1).bind fun v8 => if v8 = 0 then (some ((-5 : Int32), d1)) else ((sk_itr (fX11_restore_L32 S p0 p1) ((0 : Int32), d1)).bind fun x1 => some x1)) else (some ((-2 : Int32), d1))
set_option maxRecDepth 100000 in
set_option maxHeartbeats 4000000 in
theorem sX11_restore (C : sk_C) (l : Launch) {S : sk_S} {d : sk_D} {p0 : Nat} {p1 : Int32} {rr : Int32} {dd : sk_D} (hf : fX11_restore S d p0 p1 = some (rr, dd)) : sk_Met C l 1 yX11_restore cX11_restore 3 (some .int) [.ref p0, .int p1] S d (some (.int rr)) S dd := by
  refine sk_Met.of (by decide) (Nat.le_of_ble_eq_true rfl) (Nat.le_refl _) (Nat.le_refl _) (fun X K0 hX => ?_)
  have K : sk_Ok X C cX11_restore 3 RX11 "restore" (some .int) 1 l (some (.int rr)) S dd := K0
  have R1 : X.2.2.2.2.2.2.2.2.2.2.2.1 ≤ S.1.1 ∧ X.2.2.2.2.2.2.2.2.2.2.2.2 ≤ S.1.2 := by rw [hX]; exact ⟨Nat.le_refl _, Nat.le_refl _⟩
  have R2 : S.1.1 ≤ S.1.1 ∧ S.1.2 ≤ S.1.2 := ⟨Nat.le_refl _, Nat.le_refl _⟩
  show sk_G X C 3 S d 0 [(0, .ref p0), (1, .int p1)] []
  unfold fX11_restore at hf
  refine sk_aload_n K dX11_restore_0 rfl 0 rfl ?_
  refine sk_iconst (0 : Int32) K dX11_restore_1 (by decide) ?_
  obtain ⟨d1, e2, hf⟩ := sk_ob hf
  refine sk_putI d1 K dX11_restore_2 fl_X11_1 rfl rfl rfl e2 ?_
  refine sk_iload_n K dX11_restore_5 rfl 1 rfl ?_
  refine sk_i2l K dX11_restore_6 ?_
  refine sk_lconst (0 : Int64) K dX11_restore_7 (by decide) ?_
  refine sk_lconst (1 : Int64) K dX11_restore_8 (by decide) ?_
  obtain ⟨v3, e4, hf⟩ := sk_ob hf
  refine sk_callS (As := [.long p1.toInt64, .long (0 : Int64), .long (1 : Int64)]) (st := []) K dX11_restore_9 cl_X11_150 (sX11_within C l e4) (by decide) rfl rfl (Nat.le_of_ble_eq_true rfl) R1 R2 ?_
  refine sk_ifneB 18 K dX11_restore_12 (by decide) (fun h5 => ?_) (fun h5 => ?_)
  · rw [if_pos h5] at hf
    refine sk_aload_n K dX11_restore_18 rfl 0 rfl ?_
    obtain ⟨v6, e7, hf⟩ := sk_ob hf
    refine sk_getR K dX11_restore_19 fl_X11_17 rfl e7 ?_
    refine sk_iload_n K dX11_restore_22 rfl 1 rfl ?_
    obtain ⟨v8, e9, hf⟩ := sk_ob hf
    refine sk_ald23 K dX11_restore_23 e9 ?_
    refine sk_if_ne 30 K dX11_restore_24 (by decide) (fun h10 => ?_) (fun h10 => ?_)
    · rw [if_neg h10] at hf
      refine sk_iconst (0 : Int32) K dX11_restore_30 (by decide) ?_
      refine sk_istore_n [(2, .int (0 : Int32)), (0, .ref p0), (1, .int p1)] K dX11_restore_31 rfl (by decide) rfl ?_
      obtain ⟨x1, he1, hf⟩ := sk_ob hf
      have hret1 : ∀ r, r = x1 → r = (rr, dd) := by
        intro r hr
        subst hr
        exact Option.some.inj hf
      refine sk_sub [(0, .ref p0), (1, .int p1), (2, .int (0 : Int32))] [1, 2, 0] rfl ?_
      refine sk_loop (fun s1 => sk_G X C 3 S s1.2 32 [(0, .ref p0), (1, .int p1), (2, .int s1.1)] []) he1 (fun s1 o1 hf ih1 hx1 => ?_)
      unfold fX11_restore_L32 at hf
      refine sk_iload_n K dX11_restore_32 rfl 2 rfl ?_
      refine sk_sipush (1075 : Int32) K dX11_restore_33 (by decide) ?_
      refine sk_icmp_ge 65 K dX11_restore_36 (by decide) (fun h11 => ?_) (fun h11 => ?_)
      · rw [if_pos h11] at hf
        refine sk_aload_n K dX11_restore_65 rfl 0 rfl ?_
        obtain ⟨v12, e13, hf⟩ := sk_ob hf
        refine sk_getR K dX11_restore_66 fl_X11_13 rfl e13 ?_
        refine sk_bipush (83 : Int32) K dX11_restore_69 (by decide) ?_
        refine sk_iconst (0 : Int32) K dX11_restore_71 (by decide) ?_
        obtain ⟨d14, e15, hf⟩ := sk_ob hf
        refine sk_ast20 d14 K dX11_restore_72 e15 ?_
        refine sk_iconst (0 : Int32) K dX11_restore_73 (by decide) ?_
        have hR16 : ((0 : Int32), d14) = (rr, dd) := hret1 _ (hx1 _ (Option.some.inj hf).symm)
        exact sk_iret K dX11_restore_74 rfl rfl (congrArg (fun z => z.1) hR16) rfl (congrArg (fun z => z.2) hR16)
      · rw [if_neg h11] at hf
        refine sk_aload_n K dX11_restore_39 rfl 0 rfl ?_
        obtain ⟨v17, e18, hf⟩ := sk_ob hf
        refine sk_getR K dX11_restore_40 fl_X11_13 rfl e18 ?_
        refine sk_iload_n K dX11_restore_43 rfl 2 rfl ?_
        refine sk_aload_n K dX11_restore_44 rfl 0 rfl ?_
        obtain ⟨v19, e20, hf⟩ := sk_ob hf
        refine sk_getR K dX11_restore_45 fl_X11_13 rfl e20 ?_
        refine sk_sipush (1075 : Int32) K dX11_restore_48 (by decide) ?_
        refine sk_iload_n K dX11_restore_51 rfl 1 rfl ?_
        refine sk_iconst (1 : Int32) K dX11_restore_52 (by decide) ?_
        refine sk_iadd K dX11_restore_53 ?_
        refine sk_imul K dX11_restore_54 ?_
        refine sk_iload_n K dX11_restore_55 rfl 2 rfl ?_
        refine sk_iadd K dX11_restore_56 ?_
        obtain ⟨v21, e22, hf⟩ := sk_ob hf
        refine sk_ald20 K dX11_restore_57 e22 ?_
        obtain ⟨d23, e24, hf⟩ := sk_ob hf
        refine sk_ast20 d23 K dX11_restore_58 e24 ?_
        refine sk_iinc (s1.1 + 1) [(2, .int (s1.1 + 1)), (0, .ref p0), (1, .int p1)] K dX11_restore_59 2 rfl rfl (by decide) rfl ?_
        refine sk_goto 32 K dX11_restore_62 (by decide) ?_
        refine sk_sub [(0, .ref p0), (1, .int p1), (2, .int (s1.1 + 1))] [1, 2, 0] rfl ?_
        have h9 := ih1 _ (Option.some.inj hf).symm
        exact h9
    · rw [if_pos h10] at hf
      refine sk_bipush (-5 : Int32) K dX11_restore_27 (by decide) ?_
      have hR25 : ((-5 : Int32), d1) = (rr, dd) := Option.some.inj hf
      exact sk_iret K dX11_restore_29 rfl rfl (congrArg (fun z => z.1) hR25) rfl (congrArg (fun z => z.2) hR25)
  · rw [if_neg h5] at hf
    refine sk_bipush (-2 : Int32) K dX11_restore_15 (by decide) ?_
    have hR26 : ((-2 : Int32), d1) = (rr, dd) := Option.some.inj hf
    exact sk_iret K dX11_restore_17 rfl rfl (congrArg (fun z => z.1) hR26) rfl (congrArg (fun z => z.2) hR26)
noncomputable def fX11_count (S : sk_S) (d : sk_D) (p0 : Nat) (p1 : Int32) : Option (Int32 × sk_D) :=
  (sk_pI S d p0 10 0 (0 : Int32)).bind fun d1 => if p1 = (0 : Int32) then ((sk_gR S p0 10 1).bind fun v4 => (sk_lI S d1 v4 20 (1 : Int32)).bind fun v6 => some (v6, d1)) else (if p1 = (1 : Int32) then ((sk_gR S p0 10 1).bind fun v10 => (sk_lI S d1 v10 20 (2 : Int32)).bind fun v12 => some (v12, d1)) else (if p1 = (2 : Int32) then ((sk_gR S p0 10 1).bind fun v16 => (sk_lI S d1 v16 20 (3 : Int32)).bind fun v18 => some (v18, d1)) else (if p1 = (3 : Int32) then (if S.2.1 p0 = (10, 0) then ((fX11_standNow S d1 p0).bind fun v22 => if S.2.1 p0 = (10, 0) then ((fX11_leftIn S d1 p0 v22).bind fun v25 => some (v25, d1)) else none) else none) else (if p1 = (4 : Int32) then (if S.2.1 p0 = (10, 0) then ((fX11_standNow S d1 p0).bind fun v30 => if S.2.1 p0 = (10, 0) then ((fX11_doneIn S d1 p0 v30).bind fun v33 => some (v33, d1)) else none) else none) else (if p1 = (5 : Int32) then (if S.2.1 p0 = (10, 0) then ((fX11_standNow S d1 p0).bind fun v38 => if S.2.1 p0 = (10, 0) then ((fX11_stubsIn S d1 p0 v38).bind fun v41 => some (v41, d1)) else none) else none) else (if p1 = (6 : Int32) then (if S.2.1 p0 = (10, 0) then ((fX11_standNow S d1 p0).bind fun v46 => if S.2.1 p0 = (10, 0) then ((fX11_thoseIn S d1 p0 v46 (3 : Int32)).bind fun v49 => some (v49, d1)) else none) else none) else (if p1 = (7 : Int32) then ((sk_gR S p0 10 1).bind fun v54 => (sk_lI S d1 v54 20 (82 : Int32)).bind fun v56 => some (v56, d1)) else (if p1 = (8 : Int32) then ((sk_gR S p0 10 1).bind fun v60 => (sk_lI S d1 v60 20 (83 : Int32)).bind fun v62 => some (v62, d1)) else (if p1 = (9 : Int32) then ((sk_gI S d1 p0 10 5).bind fun v66 => some (v66, d1)) else (if p1 = (10 : Int32) then ((sk_gR S p0 10 1).bind fun v70 => (sk_lI S d1 v70 20 (0 : Int32)).bind fun v72 => some (v72, d1)) else (some ((-1 : Int32), d1))))))))))))
set_option maxRecDepth 100000 in
set_option maxHeartbeats 4000000 in
theorem sX11_count (C : sk_C) (l : Launch) {S : sk_S} {d : sk_D} {p0 : Nat} {p1 : Int32} {rr : Int32} {dd : sk_D} (hf : fX11_count S d p0 p1 = some (rr, dd)) : sk_Met C l 4 yX11_count cX11_count 2 (some .int) [.ref p0, .int p1] S d (some (.int rr)) S dd := by
  refine sk_Met.of (by decide) (Nat.le_of_ble_eq_true rfl) (Nat.le_refl _) (Nat.le_refl _) (fun X K0 hX => ?_)
  have K : sk_Ok X C cX11_count 2 RX11 "count" (some .int) 4 l (some (.int rr)) S dd := K0
  have R1 : X.2.2.2.2.2.2.2.2.2.2.2.1 ≤ S.1.1 ∧ X.2.2.2.2.2.2.2.2.2.2.2.2 ≤ S.1.2 := by rw [hX]; exact ⟨Nat.le_refl _, Nat.le_refl _⟩
  have R2 : S.1.1 ≤ S.1.1 ∧ S.1.2 ≤ S.1.2 := ⟨Nat.le_refl _, Nat.le_refl _⟩
  show sk_G X C 2 S d 0 [(0, .ref p0), (1, .int p1)] []
  unfold fX11_count at hf
  refine sk_aload_n K dX11_count_0 rfl 0 rfl ?_
  refine sk_iconst (0 : Int32) K dX11_count_1 (by decide) ?_
  obtain ⟨d1, e2, hf⟩ := sk_ob hf
  refine sk_putI d1 K dX11_count_2 fl_X11_1 rfl rfl rfl e2 ?_
  refine sk_iload_n K dX11_count_5 rfl 1 rfl ?_
  by_cases h3 : p1 = (0 : Int32)
  · rw [if_pos h3] at hf
    refine sk_tsIn (0 : Int32) (58) 64 K dX11_count_6 h3 (by decide) (by decide) rfl (by decide) ?_
    refine sk_aload_n K dX11_count_64 rfl 0 rfl ?_
    obtain ⟨v4, e5, hf⟩ := sk_ob hf
    refine sk_getR K dX11_count_65 fl_X11_13 rfl e5 ?_
    refine sk_iconst (1 : Int32) K dX11_count_68 (by decide) ?_
    obtain ⟨v6, e7, hf⟩ := sk_ob hf
    refine sk_ald20 K dX11_count_69 e7 ?_
    have hR8 : (v6, d1) = (rr, dd) := Option.some.inj hf
    exact sk_iret K dX11_count_70 rfl rfl (congrArg (fun z => z.1) hR8) rfl (congrArg (fun z => z.2) hR8)
  · rw [if_neg h3] at hf
    by_cases h9 : p1 = (1 : Int32)
    · rw [if_pos h9] at hf
      refine sk_tsIn (1 : Int32) (65) 71 K dX11_count_6 h9 (by decide) (by decide) rfl (by decide) ?_
      refine sk_aload_n K dX11_count_71 rfl 0 rfl ?_
      obtain ⟨v10, e11, hf⟩ := sk_ob hf
      refine sk_getR K dX11_count_72 fl_X11_13 rfl e11 ?_
      refine sk_iconst (2 : Int32) K dX11_count_75 (by decide) ?_
      obtain ⟨v12, e13, hf⟩ := sk_ob hf
      refine sk_ald20 K dX11_count_76 e13 ?_
      have hR14 : (v12, d1) = (rr, dd) := Option.some.inj hf
      exact sk_iret K dX11_count_77 rfl rfl (congrArg (fun z => z.1) hR14) rfl (congrArg (fun z => z.2) hR14)
    · rw [if_neg h9] at hf
      by_cases h15 : p1 = (2 : Int32)
      · rw [if_pos h15] at hf
        refine sk_tsIn (2 : Int32) (72) 78 K dX11_count_6 h15 (by decide) (by decide) rfl (by decide) ?_
        refine sk_aload_n K dX11_count_78 rfl 0 rfl ?_
        obtain ⟨v16, e17, hf⟩ := sk_ob hf
        refine sk_getR K dX11_count_79 fl_X11_13 rfl e17 ?_
        refine sk_iconst (3 : Int32) K dX11_count_82 (by decide) ?_
        obtain ⟨v18, e19, hf⟩ := sk_ob hf
        refine sk_ald20 K dX11_count_83 e19 ?_
        have hR20 : (v18, d1) = (rr, dd) := Option.some.inj hf
        exact sk_iret K dX11_count_84 rfl rfl (congrArg (fun z => z.1) hR20) rfl (congrArg (fun z => z.2) hR20)
      · rw [if_neg h15] at hf
        by_cases h21 : p1 = (3 : Int32)
        · rw [if_pos h21] at hf
          refine sk_tsIn (3 : Int32) (79) 85 K dX11_count_6 h21 (by decide) (by decide) rfl (by decide) ?_
          refine sk_aload_n K dX11_count_85 rfl 0 rfl ?_
          refine sk_aload_n K dX11_count_86 rfl 0 rfl ?_
          obtain ⟨h24, hf⟩ := sk_ib hf
          obtain ⟨v22, e23, hf⟩ := sk_ob hf
          refine sk_callV (As := []) (st := [.ref p0]) K dX11_count_87 cl_X11_270 h24 (sX11_standNow C l e23) (by decide) rfl rfl (Nat.le_of_ble_eq_true rfl) R1 R2 ?_
          obtain ⟨h27, hf⟩ := sk_ib hf
          obtain ⟨v25, e26, hf⟩ := sk_ob hf
          refine sk_callV (As := [.int v22]) (st := []) K dX11_count_90 cl_X11_238 h27 (sX11_leftIn C l e26) (by decide) rfl rfl (Nat.le_of_ble_eq_true rfl) R1 R2 ?_
          have hR28 : (v25, d1) = (rr, dd) := Option.some.inj hf
          exact sk_iret K dX11_count_93 rfl rfl (congrArg (fun z => z.1) hR28) rfl (congrArg (fun z => z.2) hR28)
        · rw [if_neg h21] at hf
          by_cases h29 : p1 = (4 : Int32)
          · rw [if_pos h29] at hf
            refine sk_tsIn (4 : Int32) (88) 94 K dX11_count_6 h29 (by decide) (by decide) rfl (by decide) ?_
            refine sk_aload_n K dX11_count_94 rfl 0 rfl ?_
            refine sk_aload_n K dX11_count_95 rfl 0 rfl ?_
            obtain ⟨h32, hf⟩ := sk_ib hf
            obtain ⟨v30, e31, hf⟩ := sk_ob hf
            refine sk_callV (As := []) (st := [.ref p0]) K dX11_count_96 cl_X11_270 h32 (sX11_standNow C l e31) (by decide) rfl rfl (Nat.le_of_ble_eq_true rfl) R1 R2 ?_
            obtain ⟨h35, hf⟩ := sk_ib hf
            obtain ⟨v33, e34, hf⟩ := sk_ob hf
            refine sk_callV (As := [.int v30]) (st := []) K dX11_count_99 cl_X11_245 h35 (sX11_doneIn C l e34) (by decide) rfl rfl (Nat.le_of_ble_eq_true rfl) R1 R2 ?_
            have hR36 : (v33, d1) = (rr, dd) := Option.some.inj hf
            exact sk_iret K dX11_count_102 rfl rfl (congrArg (fun z => z.1) hR36) rfl (congrArg (fun z => z.2) hR36)
          · rw [if_neg h29] at hf
            by_cases h37 : p1 = (5 : Int32)
            · rw [if_pos h37] at hf
              refine sk_tsIn (5 : Int32) (97) 103 K dX11_count_6 h37 (by decide) (by decide) rfl (by decide) ?_
              refine sk_aload_n K dX11_count_103 rfl 0 rfl ?_
              refine sk_aload_n K dX11_count_104 rfl 0 rfl ?_
              obtain ⟨h40, hf⟩ := sk_ib hf
              obtain ⟨v38, e39, hf⟩ := sk_ob hf
              refine sk_callV (As := []) (st := [.ref p0]) K dX11_count_105 cl_X11_270 h40 (sX11_standNow C l e39) (by decide) rfl rfl (Nat.le_of_ble_eq_true rfl) R1 R2 ?_
              obtain ⟨h43, hf⟩ := sk_ib hf
              obtain ⟨v41, e42, hf⟩ := sk_ob hf
              refine sk_callV (As := [.int v38]) (st := []) K dX11_count_108 cl_X11_225 h43 (sX11_stubsIn C l e42) (by decide) rfl rfl (Nat.le_of_ble_eq_true rfl) R1 R2 ?_
              have hR44 : (v41, d1) = (rr, dd) := Option.some.inj hf
              exact sk_iret K dX11_count_111 rfl rfl (congrArg (fun z => z.1) hR44) rfl (congrArg (fun z => z.2) hR44)
            · rw [if_neg h37] at hf
              by_cases h45 : p1 = (6 : Int32)
              · rw [if_pos h45] at hf
                refine sk_tsIn (6 : Int32) (106) 112 K dX11_count_6 h45 (by decide) (by decide) rfl (by decide) ?_
                refine sk_aload_n K dX11_count_112 rfl 0 rfl ?_
                refine sk_aload_n K dX11_count_113 rfl 0 rfl ?_
                obtain ⟨h48, hf⟩ := sk_ib hf
                obtain ⟨v46, e47, hf⟩ := sk_ob hf
                refine sk_callV (As := []) (st := [.ref p0]) K dX11_count_114 cl_X11_270 h48 (sX11_standNow C l e47) (by decide) rfl rfl (Nat.le_of_ble_eq_true rfl) R1 R2 ?_
                refine sk_iconst (3 : Int32) K dX11_count_117 (by decide) ?_
                obtain ⟨h51, hf⟩ := sk_ib hf
                obtain ⟨v49, e50, hf⟩ := sk_ob hf
                refine sk_callV (As := [.int v46, .int (3 : Int32)]) (st := []) K dX11_count_118 cl_X11_218 h51 (sX11_thoseIn C l e50) (by decide) rfl rfl (Nat.le_of_ble_eq_true rfl) R1 R2 ?_
                have hR52 : (v49, d1) = (rr, dd) := Option.some.inj hf
                exact sk_iret K dX11_count_121 rfl rfl (congrArg (fun z => z.1) hR52) rfl (congrArg (fun z => z.2) hR52)
              · rw [if_neg h45] at hf
                by_cases h53 : p1 = (7 : Int32)
                · rw [if_pos h53] at hf
                  refine sk_tsIn (7 : Int32) (116) 122 K dX11_count_6 h53 (by decide) (by decide) rfl (by decide) ?_
                  refine sk_aload_n K dX11_count_122 rfl 0 rfl ?_
                  obtain ⟨v54, e55, hf⟩ := sk_ob hf
                  refine sk_getR K dX11_count_123 fl_X11_13 rfl e55 ?_
                  refine sk_bipush (82 : Int32) K dX11_count_126 (by decide) ?_
                  obtain ⟨v56, e57, hf⟩ := sk_ob hf
                  refine sk_ald20 K dX11_count_128 e57 ?_
                  have hR58 : (v56, d1) = (rr, dd) := Option.some.inj hf
                  exact sk_iret K dX11_count_129 rfl rfl (congrArg (fun z => z.1) hR58) rfl (congrArg (fun z => z.2) hR58)
                · rw [if_neg h53] at hf
                  by_cases h59 : p1 = (8 : Int32)
                  · rw [if_pos h59] at hf
                    refine sk_tsIn (8 : Int32) (124) 130 K dX11_count_6 h59 (by decide) (by decide) rfl (by decide) ?_
                    refine sk_aload_n K dX11_count_130 rfl 0 rfl ?_
                    obtain ⟨v60, e61, hf⟩ := sk_ob hf
                    refine sk_getR K dX11_count_131 fl_X11_13 rfl e61 ?_
                    refine sk_bipush (83 : Int32) K dX11_count_134 (by decide) ?_
                    obtain ⟨v62, e63, hf⟩ := sk_ob hf
                    refine sk_ald20 K dX11_count_136 e63 ?_
                    have hR64 : (v62, d1) = (rr, dd) := Option.some.inj hf
                    exact sk_iret K dX11_count_137 rfl rfl (congrArg (fun z => z.1) hR64) rfl (congrArg (fun z => z.2) hR64)
                  · rw [if_neg h59] at hf
                    by_cases h65 : p1 = (9 : Int32)
                    · rw [if_pos h65] at hf
                      refine sk_tsIn (9 : Int32) (132) 138 K dX11_count_6 h65 (by decide) (by decide) rfl (by decide) ?_
                      refine sk_aload_n K dX11_count_138 rfl 0 rfl ?_
                      obtain ⟨v66, e67, hf⟩ := sk_ob hf
                      refine sk_getI K dX11_count_139 fl_X11_88 rfl e67 ?_
                      have hR68 : (v66, d1) = (rr, dd) := Option.some.inj hf
                      exact sk_iret K dX11_count_142 rfl rfl (congrArg (fun z => z.1) hR68) rfl (congrArg (fun z => z.2) hR68)
                    · rw [if_neg h65] at hf
                      by_cases h69 : p1 = (10 : Int32)
                      · rw [if_pos h69] at hf
                        refine sk_tsIn (10 : Int32) (137) 143 K dX11_count_6 h69 (by decide) (by decide) rfl (by decide) ?_
                        refine sk_aload_n K dX11_count_143 rfl 0 rfl ?_
                        obtain ⟨v70, e71, hf⟩ := sk_ob hf
                        refine sk_getR K dX11_count_144 fl_X11_13 rfl e71 ?_
                        refine sk_iconst (0 : Int32) K dX11_count_147 (by decide) ?_
                        obtain ⟨v72, e73, hf⟩ := sk_ob hf
                        refine sk_ald20 K dX11_count_148 e73 ?_
                        have hR74 : (v72, d1) = (rr, dd) := Option.some.inj hf
                        exact sk_iret K dX11_count_149 rfl rfl (congrArg (fun z => z.1) hR74) rfl (congrArg (fun z => z.2) hR74)
                      · rw [if_neg h69] at hf
                        refine sk_tsOut 150 K dX11_count_6 (sk_tsout (0) 11 [(0 : Int32), (1 : Int32), (2 : Int32), (3 : Int32), (4 : Int32), (5 : Int32), (6 : Int32), (7 : Int32), (8 : Int32), (9 : Int32), (10 : Int32)] (by decide) (by simp [h3, h9, h15, h21, h29, h37, h45, h53, h59, h65, h69])) (by decide) ?_
                        refine sk_iconst (-1 : Int32) K dX11_count_150 (by decide) ?_
                        have hR75 : ((-1 : Int32), d1) = (rr, dd) := Option.some.inj hf
                        exact sk_iret K dX11_count_151 rfl rfl (congrArg (fun z => z.1) hR75) rfl (congrArg (fun z => z.2) hR75)
