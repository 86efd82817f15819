noncomputable def fX11_readDoing_L79 (S : sk_S) (p0 : Nat) (v1 : Int32) (s1 : sk_D) : Option ((sk_D) ⊕ (sk_D)) :=
  (sk_gI S s1 p0 10 11).bind fun v31 => if v31 = 0 then (if S.2.1 p0 = (10, 0) then ((fX11_readFlag S s1 p0 v1).bind fun b38 => if b38.1 = true then (some (.inl b38.2)) else (some (.inr b38.2))) else none) else (some (.inr s1))
noncomputable def fX11_readDoing_J43 (S : sk_S) (p0 : Nat) (v1 : Int32) (d2 : sk_D) : Option (sk_D) :=
  (sk_gR S p0 10 4).bind fun v3 => if S.2.1 p0 = (10, 0) then ((fX11_takes S d2 p0 (1 : Int32) (9 : Int32)).bind fun b9 => (sk_sI S b9.2 v3 20 ((10 : Int32) + v1) b9.1).bind fun d10 => (sk_gR S p0 10 4).bind fun v12 => (sk_sI S d10 v12 20 ((26 : Int32) + v1) (5 : Int32)).bind fun d14 => (sk_gR S p0 10 4).bind fun v16 => (sk_sI S d14 v16 20 ((42 : Int32) + v1) (1 : Int32)).bind fun d18 => (sk_itr (fX11_readDoing_L79 S p0 v1) d18).bind fun y1 => (sk_gI S y1 p0 10 11).bind fun v20 => if v20 = 0 then ((sk_gR S p0 10 4).bind fun v24 => (sk_lI S y1 v24 20 (1 : Int32)).bind fun v26 => (sk_sI S y1 v24 20 (1 : Int32) (v26 + (1 : Int32))).bind fun d28 => some d28) else (some y1)) else none
noncomputable def fX11_readDoing_J18 (S : sk_S) (p0 : Nat) (v40 : Int32) (d41 : sk_D) : Option (sk_D) :=
  (sk_gI S d41 p0 10 11).bind fun v42 => if v42 = 0 then (if S.2.1 p0 = (10, 0) then ((fX11_next S d41 p0).bind fun d47 => if S.2.1 p0 = (10, 0) then ((fX11_eats S d47 p0 (3 : Int32)).bind fun b53 => if b53.1 = true then (fX11_readDoing_J43 S p0 v40 b53.2) else (if S.2.1 p0 = (10, 0) then ((fX11_fails S b53.2 p0 (2 : Int32)).bind fun d57 => fX11_readDoing_J43 S p0 v40 d57) else none)) else none) else none) else (some d41)
noncomputable def fX11_readDoing (S : sk_S) (d : sk_D) (p0 : Nat) : Option (sk_D) :=
  (sk_gR S p0 10 4).bind fun v60 => (sk_lI S d v60 20 (1 : Int32)).bind fun v62 => if v62 = (8 : Int32) then (if S.2.1 p0 = (10, 0) then ((fX11_fails S d p0 (4 : Int32)).bind fun d67 => fX11_readDoing_J18 S p0 v62 d67) else none) else (fX11_readDoing_J18 S p0 v62 d)
set_option maxRecDepth 100000 in
set_option maxHeartbeats 4000000 in
theorem sX11_readDoing (C : sk_C) (l : Launch) {S : sk_S} {d : sk_D} {p0 : Nat} {dd : sk_D} (hf : fX11_readDoing S d p0 = some dd) : sk_Met C l 11 yX11_readDoing cX11_readDoing 2 none [.ref p0] S d none S dd := by
  refine sk_Met.of (by decide) (Nat.le_of_ble_eq_true rfl) (Nat.le_refl _) (Nat.le_refl _) (fun X K0 hX => ?_)
  have K : sk_Ok X C cX11_readDoing 2 RX11 "readDoing" none 11 l none S dd := K0
  have R1 : X.2.2.2.2.2.2.2.2.2.2.2.1 ≤ S.1.1 ∧ X.2.2.2.2.2.2.2.2.2.2.2.2 ≤ S.1.2 := by rw [hX]; exact ⟨Nat.le_refl _, Nat.le_refl _⟩
  have R2 : S.1.1 ≤ S.1.1 ∧ S.1.2 ≤ S.1.2 := ⟨Nat.le_refl _, Nat.le_refl _⟩
  show sk_G X C 2 S d 0 [(0, .ref p0)] []
  unfold fX11_readDoing at hf
  have j43_0 : ∀ (v1 : Int32) (d2 : sk_D), fX11_readDoing_J43 S p0 v1 d2 = some dd → sk_G X C 2 S d2 43 [(0, .ref p0), (1, .int v1)] [] := by
    intro v1 d2 hf
    unfold fX11_readDoing_J43 at hf
    refine sk_aload_n K dX11_readDoing_43 rfl 0 rfl ?_
    obtain ⟨v3, e4, hf⟩ := sk_ob hf
    refine sk_getR K dX11_readDoing_44 fl_X11_24 rfl e4 ?_
    refine sk_bipush (10 : Int32) K dX11_readDoing_47 (by decide) ?_
    refine sk_iload_n K dX11_readDoing_49 rfl 1 rfl ?_
    refine sk_iadd K dX11_readDoing_50 ?_
    refine sk_aload_n K dX11_readDoing_51 rfl 0 rfl ?_
    refine sk_iconst (1 : Int32) K dX11_readDoing_52 (by decide) ?_
    refine sk_bipush (9 : Int32) K dX11_readDoing_53 (by decide) ?_
    obtain ⟨h8, hf⟩ := sk_ib hf
    obtain ⟨⟨v5, d7⟩, e6, hf⟩ := sk_ob hf
    try dsimp only at hf
    refine sk_callV (As := [.int (1 : Int32), .int (9 : Int32)]) (st := [.int ((10 : Int32) + v1), .ref v3]) K dX11_readDoing_55 cl_X11_187 h8 (sX11_takes C l e6) (by decide) rfl rfl (Nat.le_of_ble_eq_true rfl) R1 R2 ?_
    obtain ⟨d10, e11, hf⟩ := sk_ob hf
    refine sk_ast20 d10 K dX11_readDoing_58 e11 ?_
    refine sk_aload_n K dX11_readDoing_59 rfl 0 rfl ?_
    obtain ⟨v12, e13, hf⟩ := sk_ob hf
    refine sk_getR K dX11_readDoing_60 fl_X11_24 rfl e13 ?_
    refine sk_bipush (26 : Int32) K dX11_readDoing_63 (by decide) ?_
    refine sk_iload_n K dX11_readDoing_65 rfl 1 rfl ?_
    refine sk_iadd K dX11_readDoing_66 ?_
    refine sk_iconst (5 : Int32) K dX11_readDoing_67 (by decide) ?_
    obtain ⟨d14, e15, hf⟩ := sk_ob hf
    refine sk_ast20 d14 K dX11_readDoing_68 e15 ?_
    refine sk_aload_n K dX11_readDoing_69 rfl 0 rfl ?_
    obtain ⟨v16, e17, hf⟩ := sk_ob hf
    refine sk_getR K dX11_readDoing_70 fl_X11_24 rfl e17 ?_
    refine sk_bipush (42 : Int32) K dX11_readDoing_73 (by decide) ?_
    refine sk_iload_n K dX11_readDoing_75 rfl 1 rfl ?_
    refine sk_iadd K dX11_readDoing_76 ?_
    refine sk_iconst (1 : Int32) K dX11_readDoing_77 (by decide) ?_
    obtain ⟨d18, e19, hf⟩ := sk_ob hf
    refine sk_ast20 d18 K dX11_readDoing_78 e19 ?_
    obtain ⟨x1, he1, hf⟩ := sk_ob hf
    have rest1 : ∀ y1, y1 = x1 → sk_G X C 2 S y1 97 [(0, .ref p0)] [] := by
      intro y1 hy
      subst hy
      refine sk_aload_n K dX11_readDoing_97 rfl 0 rfl ?_
      obtain ⟨v20, e21, hf⟩ := sk_ob hf
      refine sk_getI K dX11_readDoing_98 fl_X11_134 rfl e21 ?_
      refine sk_if_ne 114 K dX11_readDoing_101 (by decide) (fun h22 => ?_) (fun h22 => ?_)
      · rw [if_neg h22] at hf
        have hR23 : y1 = dd := Option.some.inj hf
        exact sk_vret K dX11_readDoing_114 rfl rfl rfl hR23
      · rw [if_pos h22] at hf
        refine sk_aload_n K dX11_readDoing_104 rfl 0 rfl ?_
        obtain ⟨v24, e25, hf⟩ := sk_ob hf
        refine sk_getR K dX11_readDoing_105 fl_X11_24 rfl e25 ?_
        refine sk_iconst (1 : Int32) K dX11_readDoing_108 (by decide) ?_
        refine sk_dup2 K dX11_readDoing_109 rfl rfl ?_
        obtain ⟨v26, e27, hf⟩ := sk_ob hf
        refine sk_ald20 K dX11_readDoing_110 e27 ?_
        refine sk_iconst (1 : Int32) K dX11_readDoing_111 (by decide) ?_
        refine sk_iadd K dX11_readDoing_112 ?_
        obtain ⟨d28, e29, hf⟩ := sk_ob hf
        refine sk_ast20 d28 K dX11_readDoing_113 e29 ?_
        have hR30 : d28 = dd := Option.some.inj hf
        exact sk_vret K dX11_readDoing_114 rfl rfl rfl hR30
    refine sk_sub [(0, .ref p0), (1, .int v1)] [0, 1] rfl ?_
    refine sk_loop (fun s1 => sk_G X C 2 S s1 79 [(0, .ref p0), (1, .int v1)] []) he1 (fun s1 o1 hf ih1 hx1 => ?_)
    unfold fX11_readDoing_L79 at hf
    refine sk_aload_n K dX11_readDoing_79 rfl 0 rfl ?_
    obtain ⟨v31, e32, hf⟩ := sk_ob hf
    refine sk_getI K dX11_readDoing_80 fl_X11_134 rfl e32 ?_
    refine sk_if_ne 97 K dX11_readDoing_83 (by decide) (fun h33 => ?_) (fun h33 => ?_)
    · rw [if_neg h33] at hf
      refine sk_sub [(0, .ref p0)] [0] rfl ?_
      have h9 := rest1 _ (hx1 _ (Option.some.inj hf).symm)
      exact h9
    · rw [if_pos h33] at hf
      refine sk_aload_n K dX11_readDoing_86 rfl 0 rfl ?_
      refine sk_iload_n K dX11_readDoing_87 rfl 1 rfl ?_
      obtain ⟨h37, hf⟩ := sk_ib hf
      obtain ⟨⟨v34, d36⟩, e35, hf⟩ := sk_ob hf
      try dsimp only at hf
      refine sk_callV (As := [.int v1]) (st := []) K dX11_readDoing_88 cl_X11_191 h37 (sX11_readFlag C l e35) (by decide) rfl rfl (Nat.le_of_ble_eq_true rfl) R1 R2 ?_
      refine sk_ifeqB 97 K dX11_readDoing_91 (by decide) (fun h39 => ?_) (fun h39 => ?_)
      · rw [if_neg h39] at hf
        refine sk_sub [(0, .ref p0)] [0] rfl ?_
        have h9 := rest1 _ (hx1 _ (Option.some.inj hf).symm)
        exact h9
      · rw [if_pos h39] at hf
        refine sk_goto 79 K dX11_readDoing_94 (by decide) ?_
        refine sk_sub [(0, .ref p0), (1, .int v1)] [0, 1] rfl ?_
        have h9 := ih1 _ (Option.some.inj hf).symm
        exact h9
  have j18_0 : ∀ (v40 : Int32) (d41 : sk_D), fX11_readDoing_J18 S p0 v40 d41 = some dd → sk_G X C 2 S d41 18 [(0, .ref p0), (1, .int v40)] [] := by
    intro v40 d41 hf
    unfold fX11_readDoing_J18 at hf
    refine sk_aload_n K dX11_readDoing_18 rfl 0 rfl ?_
    obtain ⟨v42, e43, hf⟩ := sk_ob hf
    refine sk_getI K dX11_readDoing_19 fl_X11_134 rfl e43 ?_
    refine sk_if_eq 26 K dX11_readDoing_22 (by decide) (fun h44 => ?_) (fun h44 => ?_)
    · rw [if_pos h44] at hf
      refine sk_aload_n K dX11_readDoing_26 rfl 0 rfl ?_
      obtain ⟨h48, hf⟩ := sk_ib hf
      obtain ⟨d47, e46, hf⟩ := sk_ob hf
      refine sk_callV (As := []) (st := []) K dX11_readDoing_27 cl_X11_143 h48 (sX11_next C l e46) (by decide) rfl rfl (Nat.le_of_ble_eq_true rfl) R1 R2 ?_
      refine sk_aload_n K dX11_readDoing_30 rfl 0 rfl ?_
      refine sk_iconst (3 : Int32) K dX11_readDoing_31 (by decide) ?_
      obtain ⟨h52, hf⟩ := sk_ib hf
      obtain ⟨⟨v49, d51⟩, e50, hf⟩ := sk_ob hf
      try dsimp only at hf
      refine sk_callV (As := [.int (3 : Int32)]) (st := []) K dX11_readDoing_32 cl_X11_169 h52 (sX11_eats C l e50) (by decide) rfl rfl (Nat.le_of_ble_eq_true rfl) R1 R2 ?_
      refine sk_ifneB 43 K dX11_readDoing_35 (by decide) (fun h54 => ?_) (fun h54 => ?_)
      · rw [if_pos h54] at hf
        refine sk_sub [(0, .ref p0), (1, .int v40)] [0, 1] rfl ?_
        have h9 := j43_0 _ _ hf
        exact h9
      · rw [if_neg h54] at hf
        refine sk_aload_n K dX11_readDoing_38 rfl 0 rfl ?_
        refine sk_iconst (2 : Int32) K dX11_readDoing_39 (by decide) ?_
        obtain ⟨h58, hf⟩ := sk_ib hf
        obtain ⟨d57, e56, hf⟩ := sk_ob hf
        refine sk_callV (As := [.int (2 : Int32)]) (st := []) K dX11_readDoing_40 cl_X11_146 h58 (sX11_fails C l e56) (by decide) rfl rfl (Nat.le_of_ble_eq_true rfl) R1 R2 ?_
        refine sk_sub [(0, .ref p0), (1, .int v40)] [0, 1] rfl ?_
        have h9 := j43_0 _ _ hf
        exact h9
    · rw [if_neg h44] at hf
      have hR59 : d41 = dd := Option.some.inj hf
      exact sk_vret K dX11_readDoing_25 rfl rfl rfl hR59
  refine sk_aload_n K dX11_readDoing_0 rfl 0 rfl ?_
  obtain ⟨v60, e61, hf⟩ := sk_ob hf
  refine sk_getR K dX11_readDoing_1 fl_X11_24 rfl e61 ?_
  refine sk_iconst (1 : Int32) K dX11_readDoing_4 (by decide) ?_
  obtain ⟨v62, e63, hf⟩ := sk_ob hf
  refine sk_ald20 K dX11_readDoing_5 e63 ?_
  refine sk_istore_n [(1, .int v62), (0, .ref p0)] K dX11_readDoing_6 rfl (by decide) rfl ?_
  refine sk_iload_n K dX11_readDoing_7 rfl 0 rfl ?_
  refine sk_bipush (8 : Int32) K dX11_readDoing_8 (by decide) ?_
  refine sk_icmp_ne 18 K dX11_readDoing_10 (by decide) (fun h64 => ?_) (fun h64 => ?_)
  · rw [if_neg h64] at hf
    refine sk_sub [(0, .ref p0), (1, .int v62)] [1, 0] rfl ?_
    have h9 := j18_0 _ _ hf
    exact h9
  · rw [if_pos h64] at hf
    refine sk_aload_n K dX11_readDoing_13 rfl 1 rfl ?_
    refine sk_iconst (4 : Int32) K dX11_readDoing_14 (by decide) ?_
    obtain ⟨h68, hf⟩ := sk_ib hf
    obtain ⟨d67, e66, hf⟩ := sk_ob hf
    refine sk_callV (As := [.int (4 : Int32)]) (st := []) K dX11_readDoing_15 cl_X11_146 h68 (sX11_fails C l e66) (by decide) rfl rfl (Nat.le_of_ble_eq_true rfl) R1 R2 ?_
    refine sk_sub [(0, .ref p0), (1, .int v62)] [1, 0] rfl ?_
    have h9 := j18_0 _ _ hf
    exact h9
noncomputable def fX11_readDoor_J18 (S : sk_S) (p0 : Nat) (v1 : Int32) (d2 : sk_D) : Option (sk_D) :=
  (sk_gI S d2 p0 10 11).bind fun v3 => if v3 = 0 then (if S.2.1 p0 = (10, 0) then ((fX11_next S d2 p0).bind fun d8 => (sk_gR S p0 10 4).bind fun v10 => if S.2.1 p0 = (10, 0) then ((fX11_takes S d8 p0 (0 : Int32) (9 : Int32)).bind fun b16 => (sk_sI S b16.2 v10 20 ((66 : Int32) + v1) b16.1).bind fun d17 => (sk_gI S d17 p0 10 11).bind fun v19 => if v19 = 0 then ((sk_gR S p0 10 4).bind fun v23 => (sk_lI S d17 v23 20 (2 : Int32)).bind fun v25 => (sk_sI S d17 v23 20 (2 : Int32) (v25 + (1 : Int32))).bind fun d27 => some d27) else (some d17)) else none) else none) else (some d2)
noncomputable def fX11_readDoor (S : sk_S) (d : sk_D) (p0 : Nat) : Option (sk_D) :=
  (sk_gR S p0 10 4).bind fun v31 => (sk_lI S d v31 20 (2 : Int32)).bind fun v33 => if v33 = (8 : Int32) then (if S.2.1 p0 = (10, 0) then ((fX11_fails S d p0 (4 : Int32)).bind fun d38 => fX11_readDoor_J18 S p0 v33 d38) else none) else (fX11_readDoor_J18 S p0 v33 d)
set_option maxRecDepth 100000 in
set_option maxHeartbeats 4000000 in
theorem sX11_readDoor (C : sk_C) (l : Launch) {S : sk_S} {d : sk_D} {p0 : Nat} {dd : sk_D} (hf : fX11_readDoor S d p0 = some dd) : sk_Met C l 10 yX11_readDoor cX11_readDoor 2 none [.ref p0] S d none S dd := by
  refine sk_Met.of (by decide) (Nat.le_of_ble_eq_true rfl) (Nat.le_refl _) (Nat.le_refl _) (fun X K0 hX => ?_)
  have K : sk_Ok X C cX11_readDoor 2 RX11 "readDoor" none 10 l none S dd := K0
  have R1 : X.2.2.2.2.2.2.2.2.2.2.2.1 ≤ S.1.1 ∧ X.2.2.2.2.2.2.2.2.2.2.2.2 ≤ S.1.2 := by rw [hX]; exact ⟨Nat.le_refl _, Nat.le_refl _⟩
  have R2 : S.1.1 ≤ S.1.1 ∧ S.1.2 ≤ S.1.2 := ⟨Nat.le_refl _, Nat.le_refl _⟩
  show sk_G X C 2 S d 0 [(0, .ref p0)] []
  unfold fX11_readDoor at hf
  have j18_0 : ∀ (v1 : Int32) (d2 : sk_D), fX11_readDoor_J18 S p0 v1 d2 = some dd → sk_G X C 2 S d2 18 [(0, .ref p0), (1, .int v1)] [] := by
    intro v1 d2 hf
    unfold fX11_readDoor_J18 at hf
    refine sk_aload_n K dX11_readDoor_18 rfl 0 rfl ?_
    obtain ⟨v3, e4, hf⟩ := sk_ob hf
    refine sk_getI K dX11_readDoor_19 fl_X11_134 rfl e4 ?_
    refine sk_if_eq 26 K dX11_readDoor_22 (by decide) (fun h5 => ?_) (fun h5 => ?_)
    · rw [if_pos h5] at hf
      refine sk_aload_n K dX11_readDoor_26 rfl 0 rfl ?_
      obtain ⟨h9, hf⟩ := sk_ib hf
      obtain ⟨d8, e7, hf⟩ := sk_ob hf
      refine sk_callV (As := []) (st := []) K dX11_readDoor_27 cl_X11_143 h9 (sX11_next C l e7) (by decide) rfl rfl (Nat.le_of_ble_eq_true rfl) R1 R2 ?_
      refine sk_aload_n K dX11_readDoor_30 rfl 0 rfl ?_
      obtain ⟨v10, e11, hf⟩ := sk_ob hf
      refine sk_getR K dX11_readDoor_31 fl_X11_24 rfl e11 ?_
      refine sk_bipush (66 : Int32) K dX11_readDoor_34 (by decide) ?_
      refine sk_iload_n K dX11_readDoor_36 rfl 1 rfl ?_
      refine sk_iadd K dX11_readDoor_37 ?_
      refine sk_aload_n K dX11_readDoor_38 rfl 0 rfl ?_
      refine sk_iconst (0 : Int32) K dX11_readDoor_39 (by decide) ?_
      refine sk_bipush (9 : Int32) K dX11_readDoor_40 (by decide) ?_
      obtain ⟨h15, hf⟩ := sk_ib hf
      obtain ⟨⟨v12, d14⟩, e13, hf⟩ := sk_ob hf
      try dsimp only at hf
      refine sk_callV (As := [.int (0 : Int32), .int (9 : Int32)]) (st := [.int ((66 : Int32) + v1), .ref v10]) K dX11_readDoor_42 cl_X11_187 h15 (sX11_takes C l e13) (by decide) rfl rfl (Nat.le_of_ble_eq_true rfl) R1 R2 ?_
      obtain ⟨d17, e18, hf⟩ := sk_ob hf
      refine sk_ast20 d17 K dX11_readDoor_45 e18 ?_
      refine sk_aload_n K dX11_readDoor_46 rfl 0 rfl ?_
      obtain ⟨v19, e20, hf⟩ := sk_ob hf
      refine sk_getI K dX11_readDoor_47 fl_X11_134 rfl e20 ?_
      refine sk_if_ne 63 K dX11_readDoor_50 (by decide) (fun h21 => ?_) (fun h21 => ?_)
      · rw [if_neg h21] at hf
        have hR22 : d17 = dd := Option.some.inj hf
        exact sk_vret K dX11_readDoor_63 rfl rfl rfl hR22
      · rw [if_pos h21] at hf
        refine sk_aload_n K dX11_readDoor_53 rfl 0 rfl ?_
        obtain ⟨v23, e24, hf⟩ := sk_ob hf
        refine sk_getR K dX11_readDoor_54 fl_X11_24 rfl e24 ?_
        refine sk_iconst (2 : Int32) K dX11_readDoor_57 (by decide) ?_
        refine sk_dup2 K dX11_readDoor_58 rfl rfl ?_
        obtain ⟨v25, e26, hf⟩ := sk_ob hf
        refine sk_ald20 K dX11_readDoor_59 e26 ?_
        refine sk_iconst (1 : Int32) K dX11_readDoor_60 (by decide) ?_
        refine sk_iadd K dX11_readDoor_61 ?_
        obtain ⟨d27, e28, hf⟩ := sk_ob hf
        refine sk_ast20 d27 K dX11_readDoor_62 e28 ?_
        have hR29 : d27 = dd := Option.some.inj hf
        exact sk_vret K dX11_readDoor_63 rfl rfl rfl hR29
    · rw [if_neg h5] at hf
      have hR30 : d2 = dd := Option.some.inj hf
      exact sk_vret K dX11_readDoor_25 rfl rfl rfl hR30
  refine sk_aload_n K dX11_readDoor_0 rfl 0 rfl ?_
  obtain ⟨v31, e32, hf⟩ := sk_ob hf
  refine sk_getR K dX11_readDoor_1 fl_X11_24 rfl e32 ?_
  refine sk_iconst (2 : Int32) K dX11_readDoor_4 (by decide) ?_
  obtain ⟨v33, e34, hf⟩ := sk_ob hf
  refine sk_ald20 K dX11_readDoor_5 e34 ?_
  refine sk_istore_n [(1, .int v33), (0, .ref p0)] K dX11_readDoor_6 rfl (by decide) rfl ?_
  refine sk_iload_n K dX11_readDoor_7 rfl 0 rfl ?_
  refine sk_bipush (8 : Int32) K dX11_readDoor_8 (by decide) ?_
  refine sk_icmp_ne 18 K dX11_readDoor_10 (by decide) (fun h35 => ?_) (fun h35 => ?_)
  · rw [if_neg h35] at hf
    refine sk_sub [(0, .ref p0), (1, .int v33)] [1, 0] rfl ?_
    have h9 := j18_0 _ _ hf
    exact h9
  · rw [if_pos h35] at hf
    refine sk_aload_n K dX11_readDoor_13 rfl 1 rfl ?_
    refine sk_iconst (4 : Int32) K dX11_readDoor_14 (by decide) ?_
    obtain ⟨h39, hf⟩ := sk_ib hf
    obtain ⟨d38, e37, hf⟩ := sk_ob hf
    refine sk_callV (As := [.int (4 : Int32)]) (st := []) K dX11_readDoor_15 cl_X11_146 h39 (sX11_fails C l e37) (by decide) rfl rfl (Nat.le_of_ble_eq_true rfl) R1 R2 ?_
    refine sk_sub [(0, .ref p0), (1, .int v33)] [1, 0] rfl ?_
    have h9 := j18_0 _ _ hf
    exact h9
noncomputable def fX11_readClash_J40 (S : sk_S) (p0 : Nat) (v1 : Int32) (d2 : sk_D) : Option (sk_D) :=
  (sk_gR S p0 10 4).bind fun v3 => (sk_lI S d2 v3 20 (1 : Int32)).bind fun v5 => if S.2.1 p0 = (10, 0) then ((fX11_takes S d2 p0 (0 : Int32) (v5 - (1 : Int32))).bind fun b11 => (sk_gI S b11.2 p0 10 11).bind fun v12 => if v12 = 0 then ((sk_gR S p0 10 4).bind fun v15 => (sk_lI S b11.2 v15 20 ((58 : Int32) + v1)).bind fun v17 => (sk_sI S b11.2 v15 20 ((58 : Int32) + v1) (v17 ||| ((1 : Int32) <<< (b11.1 &&& 31)))).bind fun d19 => (sk_gR S p0 10 4).bind fun v21 => (sk_lI S d19 v21 20 ((58 : Int32) + b11.1)).bind fun v23 => (sk_sI S d19 v21 20 ((58 : Int32) + b11.1) (v23 ||| ((1 : Int32) <<< (v1 &&& 31)))).bind fun d25 => some d25) else (some b11.2)) else none
noncomputable def fX11_readClash (S : sk_S) (d : sk_D) (p0 : Nat) : Option (sk_D) :=
  if S.2.1 p0 = (10, 0) then ((fX11_next S d p0).bind fun d31 => (sk_gR S p0 10 4).bind fun v33 => (sk_lI S d31 v33 20 (1 : Int32)).bind fun v35 => if S.2.1 p0 = (10, 0) then ((fX11_takes S d31 p0 (0 : Int32) (v35 - (1 : Int32))).bind fun b41 => if S.2.1 p0 = (10, 0) then ((fX11_is S b41.2 p0 (23 : Int32)).bind fun v42 => if v42 = true then ((sk_gI S b41.2 p0 10 10).bind fun v46 => if v46 = b41.1 then (if S.2.1 p0 = (10, 0) then ((fX11_fails S b41.2 p0 (3 : Int32)).bind fun d51 => fX11_readClash_J40 S p0 b41.1 d51) else none) else (fX11_readClash_J40 S p0 b41.1 b41.2)) else (fX11_readClash_J40 S p0 b41.1 b41.2)) else none) else none) else none
set_option maxRecDepth 100000 in
set_option maxHeartbeats 4000000 in
theorem sX11_readClash (C : sk_C) (l : Launch) {S : sk_S} {d : sk_D} {p0 : Nat} {dd : sk_D} (hf : fX11_readClash S d p0 = some dd) : sk_Met C l 10 yX11_readClash cX11_readClash 3 none [.ref p0] S d none S dd := by
  refine sk_Met.of (by decide) (Nat.le_of_ble_eq_true rfl) (Nat.le_refl _) (Nat.le_refl _) (fun X K0 hX => ?_)
  have K : sk_Ok X C cX11_readClash 3 RX11 "readClash" none 10 l none S dd := K0
  have R1 : X.2.2.2.2.2.2.2.2.2.2.2.1 ≤ S.1.1 ∧ X.2.2.2.2.2.2.2.2.2.2.2.2 ≤ S.1.2 := by rw [hX]; exact ⟨Nat.le_refl _, Nat.le_refl _⟩
  have R2 : S.1.1 ≤ S.1.1 ∧ S.1.2 ≤ S.1.2 := ⟨Nat.le_refl _, Nat.le_refl _⟩
  show sk_G X C 3 S d 0 [(0, .ref p0)] []
  unfold fX11_readClash at hf
  have j40_0 : ∀ (v1 : Int32) (d2 : sk_D), fX11_readClash_J40 S p0 v1 d2 = some dd → sk_G X C 3 S d2 40 [(0, .ref p0), (1, .int v1)] [] := by
    intro v1 d2 hf
    unfold fX11_readClash_J40 at hf
    refine sk_aload_n K dX11_readClash_40 rfl 0 rfl ?_
    refine sk_iconst (0 : Int32) K dX11_readClash_41 (by decide) ?_
    refine sk_aload_n K dX11_readClash_42 rfl 0 rfl ?_
    obtain ⟨v3, e4, hf⟩ := sk_ob hf
    refine sk_getR K dX11_readClash_43 fl_X11_24 rfl e4 ?_
    refine sk_iconst (1 : Int32) K dX11_readClash_46 (by decide) ?_
    obtain ⟨v5, e6, hf⟩ := sk_ob hf
    refine sk_ald20 K dX11_readClash_47 e6 ?_
    refine sk_iconst (1 : Int32) K dX11_readClash_48 (by decide) ?_
    refine sk_isub K dX11_readClash_49 ?_
    obtain ⟨h10, hf⟩ := sk_ib hf
    obtain ⟨⟨v7, d9⟩, e8, hf⟩ := sk_ob hf
    try dsimp only at hf
    refine sk_callV (As := [.int (0 : Int32), .int (v5 - (1 : Int32))]) (st := []) K dX11_readClash_50 cl_X11_187 h10 (sX11_takes C l e8) (by decide) rfl rfl (Nat.le_of_ble_eq_true rfl) R1 R2 ?_
    refine sk_istore_n [(2, .int v7), (0, .ref p0), (1, .int v1)] K dX11_readClash_53 rfl (by decide) rfl ?_
    refine sk_aload_n K dX11_readClash_54 rfl 1 rfl ?_
    obtain ⟨v12, e13, hf⟩ := sk_ob hf
    refine sk_getI K dX11_readClash_55 fl_X11_134 rfl e13 ?_
    refine sk_if_eq 62 K dX11_readClash_58 (by decide) (fun h14 => ?_) (fun h14 => ?_)
    · rw [if_pos h14] at hf
      refine sk_aload_n K dX11_readClash_62 rfl 1 rfl ?_
      obtain ⟨v15, e16, hf⟩ := sk_ob hf
      refine sk_getR K dX11_readClash_63 fl_X11_24 rfl e16 ?_
      refine sk_bipush (58 : Int32) K dX11_readClash_66 (by decide) ?_
      refine sk_iload_n K dX11_readClash_68 rfl 2 rfl ?_
      refine sk_iadd K dX11_readClash_69 ?_
      refine sk_dup2 K dX11_readClash_70 rfl rfl ?_
      obtain ⟨v17, e18, hf⟩ := sk_ob hf
      refine sk_ald20 K dX11_readClash_71 e18 ?_
      refine sk_iconst (1 : Int32) K dX11_readClash_72 (by decide) ?_
      refine sk_iload_n K dX11_readClash_73 rfl 0 rfl ?_
      refine sk_ishl K dX11_readClash_74 ?_
      refine sk_ior K dX11_readClash_75 ?_
      obtain ⟨d19, e20, hf⟩ := sk_ob hf
      refine sk_ast20 d19 K dX11_readClash_76 e20 ?_
      refine sk_aload_n K dX11_readClash_77 rfl 1 rfl ?_
      obtain ⟨v21, e22, hf⟩ := sk_ob hf
      refine sk_getR K dX11_readClash_78 fl_X11_24 rfl e22 ?_
      refine sk_bipush (58 : Int32) K dX11_readClash_81 (by decide) ?_
      refine sk_iload_n K dX11_readClash_83 rfl 0 rfl ?_
      refine sk_iadd K dX11_readClash_84 ?_
      refine sk_dup2 K dX11_readClash_85 rfl rfl ?_
      obtain ⟨v23, e24, hf⟩ := sk_ob hf
      refine sk_ald20 K dX11_readClash_86 e24 ?_
      refine sk_iconst (1 : Int32) K dX11_readClash_87 (by decide) ?_
      refine sk_iload_n K dX11_readClash_88 rfl 2 rfl ?_
      refine sk_ishl K dX11_readClash_89 ?_
      refine sk_ior K dX11_readClash_90 ?_
      obtain ⟨d25, e26, hf⟩ := sk_ob hf
      refine sk_ast20 d25 K dX11_readClash_91 e26 ?_
      have hR27 : d25 = dd := Option.some.inj hf
      exact sk_vret K dX11_readClash_92 rfl rfl rfl hR27
    · rw [if_neg h14] at hf
      have hR28 : d9 = dd := Option.some.inj hf
      exact sk_vret K dX11_readClash_61 rfl rfl rfl hR28
  refine sk_aload_n K dX11_readClash_0 rfl 0 rfl ?_
  obtain ⟨h32, hf⟩ := sk_ib hf
  obtain ⟨d31, e30, hf⟩ := sk_ob hf
  refine sk_callV (As := []) (st := []) K dX11_readClash_1 cl_X11_143 h32 (sX11_next C l e30) (by decide) rfl rfl (Nat.le_of_ble_eq_true rfl) R1 R2 ?_
  refine sk_aload_n K dX11_readClash_4 rfl 0 rfl ?_
  refine sk_iconst (0 : Int32) K dX11_readClash_5 (by decide) ?_
  refine sk_aload_n K dX11_readClash_6 rfl 0 rfl ?_
  obtain ⟨v33, e34, hf⟩ := sk_ob hf
  refine sk_getR K dX11_readClash_7 fl_X11_24 rfl e34 ?_
  refine sk_iconst (1 : Int32) K dX11_readClash_10 (by decide) ?_
  obtain ⟨v35, e36, hf⟩ := sk_ob hf
  refine sk_ald20 K dX11_readClash_11 e36 ?_
  refine sk_iconst (1 : Int32) K dX11_readClash_12 (by decide) ?_
  refine sk_isub K dX11_readClash_13 ?_
  obtain ⟨h40, hf⟩ := sk_ib hf
  obtain ⟨⟨v37, d39⟩, e38, hf⟩ := sk_ob hf
  try dsimp only at hf
  refine sk_callV (As := [.int (0 : Int32), .int (v35 - (1 : Int32))]) (st := []) K dX11_readClash_14 cl_X11_187 h40 (sX11_takes C l e38) (by decide) rfl rfl (Nat.le_of_ble_eq_true rfl) R1 R2 ?_
  refine sk_istore_n [(1, .int v37), (0, .ref p0)] K dX11_readClash_17 rfl (by decide) rfl ?_
  refine sk_aload_n K dX11_readClash_18 rfl 1 rfl ?_
  refine sk_bipush (23 : Int32) K dX11_readClash_19 (by decide) ?_
  obtain ⟨h44, hf⟩ := sk_ib hf
  obtain ⟨v42, e43, hf⟩ := sk_ob hf
  refine sk_callV (As := [.int (23 : Int32)]) (st := []) K dX11_readClash_21 cl_X11_140 h44 (sX11_is C l e43) (by decide) rfl rfl (Nat.le_of_ble_eq_true rfl) R1 R2 ?_
  refine sk_ifeqB 40 K dX11_readClash_24 (by decide) (fun h45 => ?_) (fun h45 => ?_)
  · rw [if_neg h45] at hf
    refine sk_sub [(0, .ref p0), (1, .int v37)] [1, 0] rfl ?_
    have h9 := j40_0 _ _ hf
    exact h9
  · rw [if_pos h45] at hf
    refine sk_aload_n K dX11_readClash_27 rfl 1 rfl ?_
    obtain ⟨v46, e47, hf⟩ := sk_ob hf
    refine sk_getI K dX11_readClash_28 fl_X11_129 rfl e47 ?_
    refine sk_iload_n K dX11_readClash_31 rfl 0 rfl ?_
    refine sk_icmp_ne 40 K dX11_readClash_32 (by decide) (fun h48 => ?_) (fun h48 => ?_)
    · rw [if_neg h48] at hf
      refine sk_sub [(0, .ref p0), (1, .int v37)] [1, 0] rfl ?_
      have h9 := j40_0 _ _ hf
      exact h9
    · rw [if_pos h48] at hf
      refine sk_aload_n K dX11_readClash_35 rfl 1 rfl ?_
      refine sk_iconst (3 : Int32) K dX11_readClash_36 (by decide) ?_
      obtain ⟨h52, hf⟩ := sk_ib hf
      obtain ⟨d51, e50, hf⟩ := sk_ob hf
      refine sk_callV (As := [.int (3 : Int32)]) (st := []) K dX11_readClash_37 cl_X11_146 h52 (sX11_fails C l e50) (by decide) rfl rfl (Nat.le_of_ble_eq_true rfl) R1 R2 ?_
      refine sk_sub [(0, .ref p0), (1, .int v37)] [1, 0] rfl ?_
      have h9 := j40_0 _ _ hf
      exact h9
noncomputable def fX11_readLaw_J18 (S : sk_S) (p0 : Nat) (p1 : Int32) (d1 : sk_D) : Option (sk_D) :=
  (sk_gR S p0 10 4).bind fun v2 => (sk_lI S d1 v2 20 (174 : Int32)).bind fun v4 => (sk_pI S d1 p0 10 15 p1).bind fun d6 => if S.2.1 p0 = (10, 0) then ((fX11_readTruth S d6 p0 (0 : Int32)).bind fun d10 => (sk_gI S d10 p0 10 11).bind fun v12 => if v12 = 0 then ((sk_gR S p0 10 4).bind fun v15 => (sk_sI S d10 v15 20 ((4 : Int32) + p1) (1 : Int32)).bind fun d17 => (sk_gR S p0 10 4).bind fun v19 => (sk_sI S d17 v19 20 ((6 : Int32) + p1) v4).bind fun d21 => (sk_gR S p0 10 4).bind fun v23 => (sk_gR S p0 10 4).bind fun v25 => (sk_lI S d21 v25 20 (174 : Int32)).bind fun v27 => (sk_sI S d21 v23 20 ((8 : Int32) + p1) (v27 - v4)).bind fun d29 => some d29) else (some d10)) else none
noncomputable def fX11_readLaw (S : sk_S) (d : sk_D) (p0 : Nat) (p1 : Int32) : Option (sk_D) :=
  if S.2.1 p0 = (10, 0) then ((fX11_next S d p0).bind fun d35 => if S.2.1 p0 = (10, 0) then ((fX11_eats S d35 p0 (31 : Int32)).bind fun b41 => if b41.1 = true then (fX11_readLaw_J18 S p0 p1 b41.2) else (if S.2.1 p0 = (10, 0) then ((fX11_fails S b41.2 p0 (2 : Int32)).bind fun d45 => fX11_readLaw_J18 S p0 p1 d45) else none)) else none) else none
set_option maxRecDepth 100000 in
set_option maxHeartbeats 4000000 in
theorem sX11_readLaw (C : sk_C) (l : Launch) {S : sk_S} {d : sk_D} {p0 : Nat} {p1 : Int32} {dd : sk_D} (hf : fX11_readLaw S d p0 p1 = some dd) : sk_Met C l 111 yX11_readLaw cX11_readLaw 3 none [.ref p0, .int p1] S d none S dd := by
  refine sk_Met.of (by decide) (Nat.le_of_ble_eq_true rfl) (Nat.le_refl _) (Nat.le_refl _) (fun X K0 hX => ?_)
  have K : sk_Ok X C cX11_readLaw 3 RX11 "readLaw" none 111 l none S dd := K0
  have R1 : X.2.2.2.2.2.2.2.2.2.2.2.1 ≤ S.1.1 ∧ X.2.2.2.2.2.2.2.2.2.2.2.2 ≤ S.1.2 := by rw [hX]; exact ⟨Nat.le_refl _, Nat.le_refl _⟩
  have R2 : S.1.1 ≤ S.1.1 ∧ S.1.2 ≤ S.1.2 := ⟨Nat.le_refl _, Nat.le_refl _⟩
  show sk_G X C 3 S d 0 [(0, .ref p0), (1, .int p1)] []
  unfold fX11_readLaw at hf
  have j18_0 : ∀ (d1 : sk_D), fX11_readLaw_J18 S p0 p1 d1 = some dd → sk_G X C 3 S d1 18 [(0, .ref p0), (1, .int p1)] [] := by
    intro d1 hf
    unfold fX11_readLaw_J18 at hf
    refine sk_aload_n K dX11_readLaw_18 rfl 0 rfl ?_
    obtain ⟨v2, e3, hf⟩ := sk_ob hf
    refine sk_getR K dX11_readLaw_19 fl_X11_24 rfl e3 ?_
    refine sk_sipush (174 : Int32) K dX11_readLaw_22 (by decide) ?_
    obtain ⟨v4, e5, hf⟩ := sk_ob hf
    refine sk_ald20 K dX11_readLaw_25 e5 ?_
    refine sk_istore_n [(2, .int v4), (0, .ref p0), (1, .int p1)] K dX11_readLaw_26 rfl (by decide) rfl ?_
    refine sk_aload_n K dX11_readLaw_27 rfl 1 rfl ?_
    refine sk_iload_n K dX11_readLaw_28 rfl 2 rfl ?_
    obtain ⟨d6, e7, hf⟩ := sk_ob hf
    refine sk_putI d6 K dX11_readLaw_29 fl_X11_154 rfl rfl rfl e7 ?_
    refine sk_aload_n K dX11_readLaw_32 rfl 1 rfl ?_
    refine sk_iconst (0 : Int32) K dX11_readLaw_33 (by decide) ?_
    obtain ⟨h11, hf⟩ := sk_ib hf
    obtain ⟨d10, e9, hf⟩ := sk_ob hf
    refine sk_callV (As := [.int (0 : Int32)]) (st := []) K dX11_readLaw_34 cl_X11_181 h11 (sX11_readTruth C l e9) (by decide) rfl rfl (Nat.le_of_ble_eq_true rfl) R1 R2 ?_
    refine sk_aload_n K dX11_readLaw_37 rfl 1 rfl ?_
    obtain ⟨v12, e13, hf⟩ := sk_ob hf
    refine sk_getI K dX11_readLaw_38 fl_X11_134 rfl e13 ?_
    refine sk_if_eq 45 K dX11_readLaw_41 (by decide) (fun h14 => ?_) (fun h14 => ?_)
    · rw [if_pos h14] at hf
      refine sk_aload_n K dX11_readLaw_45 rfl 1 rfl ?_
      obtain ⟨v15, e16, hf⟩ := sk_ob hf
      refine sk_getR K dX11_readLaw_46 fl_X11_24 rfl e16 ?_
      refine sk_iconst (4 : Int32) K dX11_readLaw_49 (by decide) ?_
      refine sk_iload_n K dX11_readLaw_50 rfl 2 rfl ?_
      refine sk_iadd K dX11_readLaw_51 ?_
      refine sk_iconst (1 : Int32) K dX11_readLaw_52 (by decide) ?_
      obtain ⟨d17, e18, hf⟩ := sk_ob hf
      refine sk_ast20 d17 K dX11_readLaw_53 e18 ?_
      refine sk_aload_n K dX11_readLaw_54 rfl 1 rfl ?_
      obtain ⟨v19, e20, hf⟩ := sk_ob hf
      refine sk_getR K dX11_readLaw_55 fl_X11_24 rfl e20 ?_
      refine sk_bipush (6 : Int32) K dX11_readLaw_58 (by decide) ?_
      refine sk_iload_n K dX11_readLaw_60 rfl 2 rfl ?_
      refine sk_iadd K dX11_readLaw_61 ?_
      refine sk_iload_n K dX11_readLaw_62 rfl 0 rfl ?_
      obtain ⟨d21, e22, hf⟩ := sk_ob hf
      refine sk_ast20 d21 K dX11_readLaw_63 e22 ?_
      refine sk_aload_n K dX11_readLaw_64 rfl 1 rfl ?_
      obtain ⟨v23, e24, hf⟩ := sk_ob hf
      refine sk_getR K dX11_readLaw_65 fl_X11_24 rfl e24 ?_
      refine sk_bipush (8 : Int32) K dX11_readLaw_68 (by decide) ?_
      refine sk_iload_n K dX11_readLaw_70 rfl 2 rfl ?_
      refine sk_iadd K dX11_readLaw_71 ?_
      refine sk_aload_n K dX11_readLaw_72 rfl 1 rfl ?_
      obtain ⟨v25, e26, hf⟩ := sk_ob hf
      refine sk_getR K dX11_readLaw_73 fl_X11_24 rfl e26 ?_
      refine sk_sipush (174 : Int32) K dX11_readLaw_76 (by decide) ?_
      obtain ⟨v27, e28, hf⟩ := sk_ob hf
      refine sk_ald20 K dX11_readLaw_79 e28 ?_
      refine sk_iload_n K dX11_readLaw_80 rfl 0 rfl ?_
      refine sk_isub K dX11_readLaw_81 ?_
      obtain ⟨d29, e30, hf⟩ := sk_ob hf
      refine sk_ast20 d29 K dX11_readLaw_82 e30 ?_
      have hR31 : d29 = dd := Option.some.inj hf
      exact sk_vret K dX11_readLaw_83 rfl rfl rfl hR31
    · rw [if_neg h14] at hf
      have hR32 : d10 = dd := Option.some.inj hf
      exact sk_vret K dX11_readLaw_44 rfl rfl rfl hR32
  refine sk_aload_n K dX11_readLaw_0 rfl 0 rfl ?_
  obtain ⟨h36, hf⟩ := sk_ib hf
  obtain ⟨d35, e34, hf⟩ := sk_ob hf
  refine sk_callV (As := []) (st := []) K dX11_readLaw_1 cl_X11_143 h36 (sX11_next C l e34) (by decide) rfl rfl (Nat.le_of_ble_eq_true rfl) R1 R2 ?_
  refine sk_aload_n K dX11_readLaw_4 rfl 0 rfl ?_
  refine sk_bipush (31 : Int32) K dX11_readLaw_5 (by decide) ?_
  obtain ⟨h40, hf⟩ := sk_ib hf
  obtain ⟨⟨v37, d39⟩, e38, hf⟩ := sk_ob hf
  try dsimp only at hf
  refine sk_callV (As := [.int (31 : Int32)]) (st := []) K dX11_readLaw_7 cl_X11_169 h40 (sX11_eats C l e38) (by decide) rfl rfl (Nat.le_of_ble_eq_true rfl) R1 R2 ?_
  refine sk_ifneB 18 K dX11_readLaw_10 (by decide) (fun h42 => ?_) (fun h42 => ?_)
  · rw [if_pos h42] at hf
    refine sk_sub [(0, .ref p0), (1, .int p1)] [0, 1] rfl ?_
    have h9 := j18_0 _ hf
    exact h9
  · rw [if_neg h42] at hf
    refine sk_aload_n K dX11_readLaw_13 rfl 0 rfl ?_
    refine sk_iconst (2 : Int32) K dX11_readLaw_14 (by decide) ?_
    obtain ⟨h46, hf⟩ := sk_ib hf
    obtain ⟨d45, e44, hf⟩ := sk_ob hf
    refine sk_callV (As := [.int (2 : Int32)]) (st := []) K dX11_readLaw_15 cl_X11_146 h46 (sX11_fails C l e44) (by decide) rfl rfl (Nat.le_of_ble_eq_true rfl) R1 R2 ?_
    refine sk_sub [(0, .ref p0), (1, .int p1)] [0, 1] rfl ?_
    have h9 := j18_0 _ hf
    exact h9
noncomputable def fX11_readLine_J99 (S : sk_S) (p0 : Nat) (d1 : sk_D) : Option (sk_D) :=
  (sk_gI S d1 p0 10 9).bind fun v2 => if S.2.1 p0 = (10, 0) then ((fX11_readLaw S d1 p0 (v2 - (12 : Int32))).bind fun d6 => some d6) else none
noncomputable def fX11_readLine (S : sk_S) (d : sk_D) (p0 : Nat) : Option (sk_D) :=
  (sk_gI S d p0 10 11).bind fun v9 => if v9 = 0 then (if S.2.1 p0 = (10, 0) then ((fX11_is S d p0 (2 : Int32)).bind fun v12 => if v12 = true then (if S.2.1 p0 = (10, 0) then ((fX11_readDoing S d p0).bind fun d65 => some d65) else none) else (if S.2.1 p0 = (10, 0) then ((fX11_is S d p0 (9 : Int32)).bind fun v16 => if v16 = true then (if S.2.1 p0 = (10, 0) then ((fX11_readDoor S d p0).bind fun d60 => some d60) else none) else (if S.2.1 p0 = (10, 0) then ((fX11_is S d p0 (10 : Int32)).bind fun v20 => if v20 = true then (if S.2.1 p0 = (10, 0) then ((fX11_readClash S d p0).bind fun d55 => some d55) else none) else (if S.2.1 p0 = (10, 0) then ((fX11_eats S d p0 (11 : Int32)).bind fun b28 => if b28.1 = true then ((sk_gR S p0 10 4).bind fun v43 => if S.2.1 p0 = (10, 0) then ((fX11_takes S b28.2 p0 (0 : Int32) (9 : Int32)).bind fun b49 => (sk_sI S b49.2 v43 20 (82 : Int32) b49.1).bind fun d50 => some d50) else none) else (if S.2.1 p0 = (10, 0) then ((fX11_is S b28.2 p0 (12 : Int32)).bind fun v30 => if v30 = true then (fX11_readLine_J99 S p0 b28.2) else (if S.2.1 p0 = (10, 0) then ((fX11_is S b28.2 p0 (13 : Int32)).bind fun v34 => if v34 = true then (fX11_readLine_J99 S p0 b28.2) else (if S.2.1 p0 = (10, 0) then ((fX11_fails S b28.2 p0 (2 : Int32)).bind fun d40 => some d40) else none)) else none)) else none)) else none)) else none)) else none)) else none) else (some d)
set_option maxRecDepth 100000 in
set_option maxHeartbeats 4000000 in
theorem sX11_readLine (C : sk_C) (l : Launch) {S : sk_S} {d : sk_D} {p0 : Nat} {dd : sk_D} (hf : fX11_readLine S d p0 = some dd) : sk_Met C l 112 yX11_readLine cX11_readLine 1 none [.ref p0] S d none S dd := by
  refine sk_Met.of (by decide) (Nat.le_of_ble_eq_true rfl) (Nat.le_refl _) (Nat.le_refl _) (fun X K0 hX => ?_)
  have K : sk_Ok X C cX11_readLine 1 RX11 "readLine" none 112 l none S dd := K0
  have R1 : X.2.2.2.2.2.2.2.2.2.2.2.1 ≤ S.1.1 ∧ X.2.2.2.2.2.2.2.2.2.2.2.2 ≤ S.1.2 := by rw [hX]; exact ⟨Nat.le_refl _, Nat.le_refl _⟩
  have R2 : S.1.1 ≤ S.1.1 ∧ S.1.2 ≤ S.1.2 := ⟨Nat.le_refl _, Nat.le_refl _⟩
  show sk_G X C 1 S d 0 [(0, .ref p0)] []
  unfold fX11_readLine at hf
  have j99_0 : ∀ (d1 : sk_D), fX11_readLine_J99 S p0 d1 = some dd → sk_G X C 1 S d1 99 [(0, .ref p0)] [] := by
    intro d1 hf
    unfold fX11_readLine_J99 at hf
    refine sk_aload_n K dX11_readLine_99 rfl 0 rfl ?_
    refine sk_aload_n K dX11_readLine_100 rfl 0 rfl ?_
    obtain ⟨v2, e3, hf⟩ := sk_ob hf
    refine sk_getI K dX11_readLine_101 fl_X11_116 rfl e3 ?_
    refine sk_bipush (12 : Int32) K dX11_readLine_104 (by decide) ?_
    refine sk_isub K dX11_readLine_106 ?_
    obtain ⟨h7, hf⟩ := sk_ib hf
    obtain ⟨d6, e5, hf⟩ := sk_ob hf
    refine sk_callV (As := [.int (v2 - (12 : Int32))]) (st := []) K dX11_readLine_107 cl_X11_203 h7 (sX11_readLaw C l e5) (by decide) rfl rfl (Nat.le_of_ble_eq_true rfl) R1 R2 ?_
    refine sk_goto 118 K dX11_readLine_110 (by decide) ?_
    have hR8 : d6 = dd := Option.some.inj hf
    exact sk_vret K dX11_readLine_118 rfl rfl rfl hR8
  refine sk_aload_n K dX11_readLine_0 rfl 0 rfl ?_
  obtain ⟨v9, e10, hf⟩ := sk_ob hf
  refine sk_getI K dX11_readLine_1 fl_X11_134 rfl e10 ?_
  refine sk_if_eq 8 K dX11_readLine_4 (by decide) (fun h11 => ?_) (fun h11 => ?_)
  · rw [if_pos h11] at hf
    refine sk_aload_n K dX11_readLine_8 rfl 0 rfl ?_
    refine sk_iconst (2 : Int32) K dX11_readLine_9 (by decide) ?_
    obtain ⟨h14, hf⟩ := sk_ib hf
    obtain ⟨v12, e13, hf⟩ := sk_ob hf
    refine sk_callV (As := [.int (2 : Int32)]) (st := []) K dX11_readLine_10 cl_X11_140 h14 (sX11_is C l e13) (by decide) rfl rfl (Nat.le_of_ble_eq_true rfl) R1 R2 ?_
    refine sk_ifeqB 23 K dX11_readLine_13 (by decide) (fun h15 => ?_) (fun h15 => ?_)
    · rw [if_neg h15] at hf
      refine sk_aload_n K dX11_readLine_23 rfl 0 rfl ?_
      refine sk_bipush (9 : Int32) K dX11_readLine_24 (by decide) ?_
      obtain ⟨h18, hf⟩ := sk_ib hf
      obtain ⟨v16, e17, hf⟩ := sk_ob hf
      refine sk_callV (As := [.int (9 : Int32)]) (st := []) K dX11_readLine_26 cl_X11_140 h18 (sX11_is C l e17) (by decide) rfl rfl (Nat.le_of_ble_eq_true rfl) R1 R2 ?_
      refine sk_ifeqB 39 K dX11_readLine_29 (by decide) (fun h19 => ?_) (fun h19 => ?_)
      · rw [if_neg h19] at hf
        refine sk_aload_n K dX11_readLine_39 rfl 0 rfl ?_
        refine sk_bipush (10 : Int32) K dX11_readLine_40 (by decide) ?_
        obtain ⟨h22, hf⟩ := sk_ib hf
        obtain ⟨v20, e21, hf⟩ := sk_ob hf
        refine sk_callV (As := [.int (10 : Int32)]) (st := []) K dX11_readLine_42 cl_X11_140 h22 (sX11_is C l e21) (by decide) rfl rfl (Nat.le_of_ble_eq_true rfl) R1 R2 ?_
        refine sk_ifeqB 55 K dX11_readLine_45 (by decide) (fun h23 => ?_) (fun h23 => ?_)
        · rw [if_neg h23] at hf
          refine sk_aload_n K dX11_readLine_55 rfl 0 rfl ?_
          refine sk_bipush (11 : Int32) K dX11_readLine_56 (by decide) ?_
          obtain ⟨h27, hf⟩ := sk_ib hf
          obtain ⟨⟨v24, d26⟩, e25, hf⟩ := sk_ob hf
          try dsimp only at hf
          refine sk_callV (As := [.int (11 : Int32)]) (st := []) K dX11_readLine_58 cl_X11_169 h27 (sX11_eats C l e25) (by decide) rfl rfl (Nat.le_of_ble_eq_true rfl) R1 R2 ?_
          refine sk_ifeqB 81 K dX11_readLine_61 (by decide) (fun h29 => ?_) (fun h29 => ?_)
          · rw [if_neg h29] at hf
            refine sk_aload_n K dX11_readLine_81 rfl 0 rfl ?_
            refine sk_bipush (12 : Int32) K dX11_readLine_82 (by decide) ?_
            obtain ⟨h32, hf⟩ := sk_ib hf
            obtain ⟨v30, e31, hf⟩ := sk_ob hf
            refine sk_callV (As := [.int (12 : Int32)]) (st := []) K dX11_readLine_84 cl_X11_140 h32 (sX11_is C l e31) (by decide) rfl rfl (Nat.le_of_ble_eq_true rfl) R1 R2 ?_
            refine sk_ifneB 99 K dX11_readLine_87 (by decide) (fun h33 => ?_) (fun h33 => ?_)
            · rw [if_pos h33] at hf
              refine sk_sub [(0, .ref p0)] [0] rfl ?_
              have h9 := j99_0 _ hf
              exact h9
            · rw [if_neg h33] at hf
              refine sk_aload_n K dX11_readLine_90 rfl 0 rfl ?_
              refine sk_bipush (13 : Int32) K dX11_readLine_91 (by decide) ?_
              obtain ⟨h36, hf⟩ := sk_ib hf
              obtain ⟨v34, e35, hf⟩ := sk_ob hf
              refine sk_callV (As := [.int (13 : Int32)]) (st := []) K dX11_readLine_93 cl_X11_140 h36 (sX11_is C l e35) (by decide) rfl rfl (Nat.le_of_ble_eq_true rfl) R1 R2 ?_
              refine sk_ifeqB 113 K dX11_readLine_96 (by decide) (fun h37 => ?_) (fun h37 => ?_)
              · rw [if_neg h37] at hf
                refine sk_aload_n K dX11_readLine_113 rfl 0 rfl ?_
                refine sk_iconst (2 : Int32) K dX11_readLine_114 (by decide) ?_
                obtain ⟨h41, hf⟩ := sk_ib hf
                obtain ⟨d40, e39, hf⟩ := sk_ob hf
                refine sk_callV (As := [.int (2 : Int32)]) (st := []) K dX11_readLine_115 cl_X11_146 h41 (sX11_fails C l e39) (by decide) rfl rfl (Nat.le_of_ble_eq_true rfl) R1 R2 ?_
                have hR42 : d40 = dd := Option.some.inj hf
                exact sk_vret K dX11_readLine_118 rfl rfl rfl hR42
              · rw [if_pos h37] at hf
                refine sk_sub [(0, .ref p0)] [0] rfl ?_
                have h9 := j99_0 _ hf
                exact h9
          · rw [if_pos h29] at hf
            refine sk_aload_n K dX11_readLine_64 rfl 0 rfl ?_
            obtain ⟨v43, e44, hf⟩ := sk_ob hf
            refine sk_getR K dX11_readLine_65 fl_X11_24 rfl e44 ?_
            refine sk_bipush (82 : Int32) K dX11_readLine_68 (by decide) ?_
            refine sk_aload_n K dX11_readLine_70 rfl 0 rfl ?_
            refine sk_iconst (0 : Int32) K dX11_readLine_71 (by decide) ?_
            refine sk_bipush (9 : Int32) K dX11_readLine_72 (by decide) ?_
            obtain ⟨h48, hf⟩ := sk_ib hf
            obtain ⟨⟨v45, d47⟩, e46, hf⟩ := sk_ob hf
            try dsimp only at hf
            refine sk_callV (As := [.int (0 : Int32), .int (9 : Int32)]) (st := [.int (82 : Int32), .ref v43]) K dX11_readLine_74 cl_X11_187 h48 (sX11_takes C l e46) (by decide) rfl rfl (Nat.le_of_ble_eq_true rfl) R1 R2 ?_
            obtain ⟨d50, e51, hf⟩ := sk_ob hf
            refine sk_ast20 d50 K dX11_readLine_77 e51 ?_
            refine sk_goto 118 K dX11_readLine_78 (by decide) ?_
            have hR52 : d50 = dd := Option.some.inj hf
            exact sk_vret K dX11_readLine_118 rfl rfl rfl hR52
        · rw [if_pos h23] at hf
          refine sk_aload_n K dX11_readLine_48 rfl 0 rfl ?_
          obtain ⟨h56, hf⟩ := sk_ib hf
          obtain ⟨d55, e54, hf⟩ := sk_ob hf
          refine sk_callV (As := []) (st := []) K dX11_readLine_49 cl_X11_200 h56 (sX11_readClash C l e54) (by decide) rfl rfl (Nat.le_of_ble_eq_true rfl) R1 R2 ?_
          refine sk_goto 118 K dX11_readLine_52 (by decide) ?_
          have hR57 : d55 = dd := Option.some.inj hf
          exact sk_vret K dX11_readLine_118 rfl rfl rfl hR57
      · rw [if_pos h19] at hf
        refine sk_aload_n K dX11_readLine_32 rfl 0 rfl ?_
        obtain ⟨h61, hf⟩ := sk_ib hf
        obtain ⟨d60, e59, hf⟩ := sk_ob hf
        refine sk_callV (As := []) (st := []) K dX11_readLine_33 cl_X11_197 h61 (sX11_readDoor C l e59) (by decide) rfl rfl (Nat.le_of_ble_eq_true rfl) R1 R2 ?_
        refine sk_goto 118 K dX11_readLine_36 (by decide) ?_
        have hR62 : d60 = dd := Option.some.inj hf
        exact sk_vret K dX11_readLine_118 rfl rfl rfl hR62
    · rw [if_pos h15] at hf
      refine sk_aload_n K dX11_readLine_16 rfl 0 rfl ?_
      obtain ⟨h66, hf⟩ := sk_ib hf
      obtain ⟨d65, e64, hf⟩ := sk_ob hf
      refine sk_callV (As := []) (st := []) K dX11_readLine_17 cl_X11_194 h66 (sX11_readDoing C l e64) (by decide) rfl rfl (Nat.le_of_ble_eq_true rfl) R1 R2 ?_
      refine sk_goto 118 K dX11_readLine_20 (by decide) ?_
      have hR67 : d65 = dd := Option.some.inj hf
      exact sk_vret K dX11_readLine_118 rfl rfl rfl hR67
  · rw [if_neg h11] at hf
    have hR68 : d = dd := Option.some.inj hf
    exact sk_vret K dX11_readLine_7 rfl rfl rfl hR68
noncomputable def fX11_ends (S : sk_S) (d : sk_D) (p0 : Nat) : Option (sk_D) :=
  if S.2.1 p0 = (10, 0) then ((fX11_eats S d p0 (30 : Int32)).bind fun b5 => if b5.1 = true then ((sk_gR S p0 10 4).bind fun v7 => (sk_lI S b5.2 v7 20 (0 : Int32)).bind fun v9 => (sk_sI S b5.2 v7 20 (0 : Int32) (v9 + (1 : Int32))).bind fun d11 => some d11) else (if S.2.1 p0 = (10, 0) then ((fX11_fails S b5.2 p0 (2 : Int32)).bind fun d16 => (sk_gR S p0 10 4).bind fun v18 => (sk_lI S d16 v18 20 (0 : Int32)).bind fun v20 => (sk_sI S d16 v18 20 (0 : Int32) (v20 + (1 : Int32))).bind fun d22 => some d22) else none)) else none
set_option maxRecDepth 100000 in
set_option maxHeartbeats 4000000 in
theorem sX11_ends (C : sk_C) (l : Launch) {S : sk_S} {d : sk_D} {p0 : Nat} {dd : sk_D} (hf : fX11_ends S d p0 = some dd) : sk_Met C l 10 yX11_ends cX11_ends 1 none [.ref p0] S d none S dd := by
  refine sk_Met.of (by decide) (Nat.le_of_ble_eq_true rfl) (Nat.le_refl _) (Nat.le_refl _) (fun X K0 hX => ?_)
  have K : sk_Ok X C cX11_ends 1 RX11 "ends" none 10 l none S dd := K0
  have R1 : X.2.2.2.2.2.2.2.2.2.2.2.1 ≤ S.1.1 ∧ X.2.2.2.2.2.2.2.2.2.2.2.2 ≤ S.1.2 := by rw [hX]; exact ⟨Nat.le_refl _, Nat.le_refl _⟩
  have R2 : S.1.1 ≤ S.1.1 ∧ S.1.2 ≤ S.1.2 := ⟨Nat.le_refl _, Nat.le_refl _⟩
  show sk_G X C 1 S d 0 [(0, .ref p0)] []
  unfold fX11_ends at hf
  refine sk_aload_n K dX11_ends_0 rfl 0 rfl ?_
  refine sk_bipush (30 : Int32) K dX11_ends_1 (by decide) ?_
  obtain ⟨h4, hf⟩ := sk_ib hf
  obtain ⟨⟨v1, d3⟩, e2, hf⟩ := sk_ob hf
  try dsimp only at hf
  refine sk_callV (As := [.int (30 : Int32)]) (st := []) K dX11_ends_3 cl_X11_169 h4 (sX11_eats C l e2) (by decide) rfl rfl (Nat.le_of_ble_eq_true rfl) R1 R2 ?_
  refine sk_ifneB 14 K dX11_ends_6 (by decide) (fun h6 => ?_) (fun h6 => ?_)
  · rw [if_pos h6] at hf
    refine sk_aload_n K dX11_ends_14 rfl 0 rfl ?_
    obtain ⟨v7, e8, hf⟩ := sk_ob hf
    refine sk_getR K dX11_ends_15 fl_X11_24 rfl e8 ?_
    refine sk_iconst (0 : Int32) K dX11_ends_18 (by decide) ?_
    refine sk_dup2 K dX11_ends_19 rfl rfl ?_
    obtain ⟨v9, e10, hf⟩ := sk_ob hf
    refine sk_ald20 K dX11_ends_20 e10 ?_
    refine sk_iconst (1 : Int32) K dX11_ends_21 (by decide) ?_
    refine sk_iadd K dX11_ends_22 ?_
    obtain ⟨d11, e12, hf⟩ := sk_ob hf
    refine sk_ast20 d11 K dX11_ends_23 e12 ?_
    have hR13 : d11 = dd := Option.some.inj hf
    exact sk_vret K dX11_ends_24 rfl rfl rfl hR13
  · rw [if_neg h6] at hf
    refine sk_aload_n K dX11_ends_9 rfl 0 rfl ?_
    refine sk_iconst (2 : Int32) K dX11_ends_10 (by decide) ?_
    obtain ⟨h17, hf⟩ := sk_ib hf
    obtain ⟨d16, e15, hf⟩ := sk_ob hf
    refine sk_callV (As := [.int (2 : Int32)]) (st := []) K dX11_ends_11 cl_X11_146 h17 (sX11_fails C l e15) (by decide) rfl rfl (Nat.le_of_ble_eq_true rfl) R1 R2 ?_
    refine sk_aload_n K dX11_ends_14 rfl 0 rfl ?_
    obtain ⟨v18, e19, hf⟩ := sk_ob hf
    refine sk_getR K dX11_ends_15 fl_X11_24 rfl e19 ?_
    refine sk_iconst (0 : Int32) K dX11_ends_18 (by decide) ?_
    refine sk_dup2 K dX11_ends_19 rfl rfl ?_
    obtain ⟨v20, e21, hf⟩ := sk_ob hf
    refine sk_ald20 K dX11_ends_20 e21 ?_
    refine sk_iconst (1 : Int32) K dX11_ends_21 (by decide) ?_
    refine sk_iadd K dX11_ends_22 ?_
    obtain ⟨d22, e23, hf⟩ := sk_ob hf
    refine sk_ast20 d22 K dX11_ends_23 e23 ?_
    have hR24 : d22 = dd := Option.some.inj hf
    exact sk_vret K dX11_ends_24 rfl rfl rfl hR24
noncomputable def fX11_life_L162 (S : sk_S) (p0 : Nat) (s1 : Int32 × sk_D) : Option ((Int32 × sk_D) ⊕ (Int32 × sk_D)) :=
  if (1075 : Int32) ≤ s1.1 then ((sk_gR S p0 10 1).bind fun v10 => (sk_lI S s1.2 v10 20 (0 : Int32)).bind fun v12 => some (.inr (v12, s1.2))) else ((sk_gR S p0 10 1).bind fun v15 => (sk_gR S p0 10 4).bind fun v17 => (sk_lI S s1.2 v17 20 s1.1).bind fun v19 => (sk_sI S s1.2 v15 20 s1.1 v19).bind fun d21 => some (.inl (s1.1 + 1, d21)))
noncomputable def fX11_life_J142 (S : sk_S) (p0 : Nat) (v1 : Nat) (v2 : Int32) (d3 : sk_D) : Option (Int32 × sk_D) :=
  (sk_pI S d3 v1 10 14 v2).bind fun d4 => (sk_gI S d4 p0 10 11).bind fun v6 => if v6 = 0 then ((sk_itr (fX11_life_L162 S p0) ((0 : Int32), d4)).bind fun x1 => some x1) else ((sk_gI S d4 p0 10 11).bind fun v23 => some ((-30 : Int32) - v23, d4))
noncomputable def fX11_life_L91 (S : sk_S) (p0 : Nat) (s2 : sk_D) : Option ((sk_D) ⊕ (sk_D)) :=
  (sk_gI S s2 p0 10 11).bind fun v49 => if v49 = 0 then ((sk_gI S s2 p0 10 9).bind fun v52 => if v52 = (24 : Int32) then (some (.inr s2)) else (if S.2.1 p0 = (10, 0) then ((fX11_readLine S s2 p0).bind fun d57 => if S.2.1 p0 = (10, 0) then ((fX11_ends S d57 p0).bind fun d61 => some (.inl d61)) else none) else none)) else (some (.inr s2))
noncomputable def fX11_life_J74 (S : sk_S) (p0 : Nat) (d26 : sk_D) : Option (Int32 × sk_D) :=
  (sk_gR S p0 10 4).bind fun v27 => if S.2.1 p0 = (10, 0) then ((fX11_takes S d26 p0 (0 : Int32) (40 : Int32)).bind fun b33 => (sk_sI S b33.2 v27 20 (3 : Int32) b33.1).bind fun d34 => if S.2.1 p0 = (10, 0) then ((fX11_ends S d34 p0).bind fun d38 => (sk_itr (fX11_life_L91 S p0) d38).bind fun y2 => (sk_gI S y2 p0 10 11).bind fun v40 => (sk_pI S y2 p0 10 13 v40).bind fun d42 => (sk_gI S d42 p0 10 11).bind fun v44 => if v44 = 0 then (fX11_life_J142 S p0 p0 (-1 : Int32) d42) else ((sk_gI S d42 p0 10 12).bind fun v47 => fX11_life_J142 S p0 p0 v47 d42)) else none) else none
noncomputable def fX11_life_J69 (S : sk_S) (p0 : Nat) (d63 : sk_D) : Option (Int32 × sk_D) :=
  if S.2.1 p0 = (10, 0) then ((fX11_fails S d63 p0 (2 : Int32)).bind fun d66 => fX11_life_J74 S p0 d66) else none
noncomputable def fX11_life (S : sk_S) (d : sk_D) (p0 : Nat) (p1 : Int32) : Option (Int32 × sk_D) :=
  (sk_pI S d p0 10 0 (0 : Int32)).bind fun d68 => (sk_gI S d68 p0 10 5).bind fun v70 => (fX11_within S d68 p1.toInt64 (0 : Int64) v70.toInt64).bind fun v72 => if v72 = true then ((sk_pI S d68 p0 10 8 p1).bind fun d75 => (sk_pI S d75 p0 10 5 (0 : Int32)).bind fun d77 => (sk_pI S d77 p0 10 7 (0 : Int32)).bind fun d79 => (sk_pI S d79 p0 10 11 (0 : Int32)).bind fun d81 => (sk_gR S p0 10 4).bind fun v83 => (fX11_plain S d81 v83).bind fun d87 => if S.2.1 p0 = (10, 0) then ((fX11_next S d87 p0).bind fun d90 => if S.2.1 p0 = (10, 0) then ((fX11_eats S d90 p0 (0 : Int32)).bind fun b96 => if b96.1 = true then (if S.2.1 p0 = (10, 0) then ((fX11_eats S b96.2 p0 (1 : Int32)).bind fun b102 => if b102.1 = true then (fX11_life_J74 S p0 b102.2) else (fX11_life_J69 S p0 b102.2)) else none) else (fX11_life_J69 S p0 b96.2)) else none) else none) else (some ((-3 : Int32), d68))
set_option maxRecDepth 100000 in
set_option maxHeartbeats 4000000 in
theorem sX11_life (C : sk_C) (l : Launch) {S : sk_S} {d : sk_D} {p0 : Nat} {p1 : Int32} {rr : Int32} {dd : sk_D} (hf : fX11_life S d p0 p1 = some (rr, dd)) : sk_Met C l 113 yX11_life cX11_life 3 (some .int) [.ref p0, .int p1] S d (some (.int rr)) S dd := by
  refine sk_Met.of (by decide) (Nat.le_of_ble_eq_true rfl) (Nat.le_refl _) (Nat.le_refl _) (fun X K0 hX => ?_)
  have K : sk_Ok X C cX11_life 3 RX11 "life" (some .int) 113 l (some (.int rr)) S dd := K0
  have R1 : X.2.2.2.2.2.2.2.2.2.2.2.1 ≤ S.1.1 ∧ X.2.2.2.2.2.2.2.2.2.2.2.2 ≤ S.1.2 := by rw [hX]; exact ⟨Nat.le_refl _, Nat.le_refl _⟩
  have R2 : S.1.1 ≤ S.1.1 ∧ S.1.2 ≤ S.1.2 := ⟨Nat.le_refl _, Nat.le_refl _⟩
  show sk_G X C 3 S d 0 [(0, .ref p0), (1, .int p1)] []
  unfold fX11_life at hf
  have j142_0 : ∀ (v1 : Nat) (v2 : Int32) (d3 : sk_D), fX11_life_J142 S p0 v1 v2 d3 = some (rr, dd) → sk_G X C 3 S d3 142 [(0, .ref p0)] [.int v2, .ref v1] := by
    intro v1 v2 d3 hf
    unfold fX11_life_J142 at hf
    obtain ⟨d4, e5, hf⟩ := sk_ob hf
    refine sk_putI d4 K dX11_life_142 fl_X11_27 rfl rfl rfl e5 ?_
    refine sk_aload_n K dX11_life_145 rfl 0 rfl ?_
    obtain ⟨v6, e7, hf⟩ := sk_ob hf
    refine sk_getI K dX11_life_146 fl_X11_134 rfl e7 ?_
    refine sk_if_eq 160 K dX11_life_149 (by decide) (fun h8 => ?_) (fun h8 => ?_)
    · rw [if_pos h8] at hf
      refine sk_iconst (0 : Int32) K dX11_life_160 (by decide) ?_
      refine sk_istore_n [(2, .int (0 : Int32)), (0, .ref p0)] K dX11_life_161 rfl (by decide) rfl ?_
      obtain ⟨x1, he1, hf⟩ := sk_ob hf
      have hret1 : ∀ r, r = x1 → r = (rr, dd) := by
        intro r hr
        subst hr
        exact Option.some.inj hf
      refine sk_sub [(0, .ref p0), (2, .int (0 : Int32))] [1, 0] rfl ?_
      refine sk_loop (fun s1 => sk_G X C 3 S s1.2 162 [(0, .ref p0), (2, .int s1.1)] []) he1 (fun s1 o1 hf ih1 hx1 => ?_)
      unfold fX11_life_L162 at hf
      refine sk_iload_n K dX11_life_162 rfl 1 rfl ?_
      refine sk_sipush (1075 : Int32) K dX11_life_163 (by decide) ?_
      refine sk_icmp_ge 187 K dX11_life_166 (by decide) (fun h9 => ?_) (fun h9 => ?_)
      · rw [if_pos h9] at hf
        refine sk_aload_n K dX11_life_187 rfl 0 rfl ?_
        obtain ⟨v10, e11, hf⟩ := sk_ob hf
        refine sk_getR K dX11_life_188 fl_X11_13 rfl e11 ?_
        refine sk_iconst (0 : Int32) K dX11_life_191 (by decide) ?_
        obtain ⟨v12, e13, hf⟩ := sk_ob hf
        refine sk_ald20 K dX11_life_192 e13 ?_
        have hR14 : (v12, s1.2) = (rr, dd) := hret1 _ (hx1 _ (Option.some.inj hf).symm)
        exact sk_iret K dX11_life_193 rfl rfl (congrArg (fun z => z.1) hR14) rfl (congrArg (fun z => z.2) hR14)
      · rw [if_neg h9] at hf
        refine sk_aload_n K dX11_life_169 rfl 0 rfl ?_
        obtain ⟨v15, e16, hf⟩ := sk_ob hf
        refine sk_getR K dX11_life_170 fl_X11_13 rfl e16 ?_
        refine sk_iload_n K dX11_life_173 rfl 1 rfl ?_
        refine sk_aload_n K dX11_life_174 rfl 0 rfl ?_
        obtain ⟨v17, e18, hf⟩ := sk_ob hf
        refine sk_getR K dX11_life_175 fl_X11_24 rfl e18 ?_
        refine sk_iload_n K dX11_life_178 rfl 1 rfl ?_
        obtain ⟨v19, e20, hf⟩ := sk_ob hf
        refine sk_ald20 K dX11_life_179 e20 ?_
        obtain ⟨d21, e22, hf⟩ := sk_ob hf
        refine sk_ast20 d21 K dX11_life_180 e22 ?_
        refine sk_iinc (s1.1 + 1) [(2, .int (s1.1 + 1)), (0, .ref p0)] K dX11_life_181 1 rfl rfl (by decide) rfl ?_
        refine sk_goto 162 K dX11_life_184 (by decide) ?_
        refine sk_sub [(0, .ref p0), (2, .int (s1.1 + 1))] [1, 0] rfl ?_
        have h9 := ih1 _ (Option.some.inj hf).symm
        exact h9
    · rw [if_neg h8] at hf
      refine sk_bipush (-30 : Int32) K dX11_life_152 (by decide) ?_
      refine sk_aload_n K dX11_life_154 rfl 0 rfl ?_
      obtain ⟨v23, e24, hf⟩ := sk_ob hf
      refine sk_getI K dX11_life_155 fl_X11_134 rfl e24 ?_
      refine sk_isub K dX11_life_158 ?_
      have hR25 : ((-30 : Int32) - v23, d4) = (rr, dd) := Option.some.inj hf
      exact sk_iret K dX11_life_159 rfl rfl (congrArg (fun z => z.1) hR25) rfl (congrArg (fun z => z.2) hR25)
  have j74_0 : ∀ (d26 : sk_D), fX11_life_J74 S p0 d26 = some (rr, dd) → sk_G X C 3 S d26 74 [(0, .ref p0)] [] := by
    intro d26 hf
    unfold fX11_life_J74 at hf
    refine sk_aload_n K dX11_life_74 rfl 0 rfl ?_
    obtain ⟨v27, e28, hf⟩ := sk_ob hf
    refine sk_getR K dX11_life_75 fl_X11_24 rfl e28 ?_
    refine sk_iconst (3 : Int32) K dX11_life_78 (by decide) ?_
    refine sk_aload_n K dX11_life_79 rfl 0 rfl ?_
    refine sk_iconst (0 : Int32) K dX11_life_80 (by decide) ?_
    refine sk_bipush (40 : Int32) K dX11_life_81 (by decide) ?_
    obtain ⟨h32, hf⟩ := sk_ib hf
    obtain ⟨⟨v29, d31⟩, e30, hf⟩ := sk_ob hf
    try dsimp only at hf
    refine sk_callV (As := [.int (0 : Int32), .int (40 : Int32)]) (st := [.int (3 : Int32), .ref v27]) K dX11_life_83 cl_X11_187 h32 (sX11_takes C l e30) (by decide) rfl rfl (Nat.le_of_ble_eq_true rfl) R1 R2 ?_
    obtain ⟨d34, e35, hf⟩ := sk_ob hf
    refine sk_ast20 d34 K dX11_life_86 e35 ?_
    refine sk_aload_n K dX11_life_87 rfl 0 rfl ?_
    obtain ⟨h39, hf⟩ := sk_ib hf
    obtain ⟨d38, e37, hf⟩ := sk_ob hf
    refine sk_callV (As := []) (st := []) K dX11_life_88 cl_X11_206 h39 (sX11_ends C l e37) (by decide) rfl rfl (Nat.le_of_ble_eq_true rfl) R1 R2 ?_
    obtain ⟨x2, he2, hf⟩ := sk_ob hf
    have rest2 : ∀ y2, y2 = x2 → sk_G X C 3 S y2 118 [(0, .ref p0)] [] := by
      intro y2 hy
      subst hy
      refine sk_aload_n K dX11_life_118 rfl 0 rfl ?_
      refine sk_aload_n K dX11_life_119 rfl 0 rfl ?_
      obtain ⟨v40, e41, hf⟩ := sk_ob hf
      refine sk_getI K dX11_life_120 fl_X11_134 rfl e41 ?_
      obtain ⟨d42, e43, hf⟩ := sk_ob hf
      refine sk_putI d42 K dX11_life_123 fl_X11_212 rfl rfl rfl e43 ?_
      refine sk_aload_n K dX11_life_126 rfl 0 rfl ?_
      refine sk_aload_n K dX11_life_127 rfl 0 rfl ?_
      obtain ⟨v44, e45, hf⟩ := sk_ob hf
      refine sk_getI K dX11_life_128 fl_X11_134 rfl e45 ?_
      refine sk_if_ne 138 K dX11_life_131 (by decide) (fun h46 => ?_) (fun h46 => ?_)
      · rw [if_neg h46] at hf
        refine sk_aload_n K dX11_life_138 rfl 0 rfl ?_
        obtain ⟨v47, e48, hf⟩ := sk_ob hf
        refine sk_getI K dX11_life_139 fl_X11_137 rfl e48 ?_
        refine sk_sub [(0, .ref p0)] [0] rfl ?_
        have h9 := j142_0 _ _ _ hf
        exact h9
      · rw [if_pos h46] at hf
        refine sk_iconst (-1 : Int32) K dX11_life_134 (by decide) ?_
        refine sk_goto 142 K dX11_life_135 (by decide) ?_
        refine sk_sub [(0, .ref p0)] [0] rfl ?_
        have h9 := j142_0 _ _ _ hf
        exact h9
    refine sk_sub [(0, .ref p0)] [0] rfl ?_
    refine sk_loop (fun s2 => sk_G X C 3 S s2 91 [(0, .ref p0)] []) he2 (fun s2 o2 hf ih2 hx2 => ?_)
    unfold fX11_life_L91 at hf
    refine sk_aload_n K dX11_life_91 rfl 0 rfl ?_
    obtain ⟨v49, e50, hf⟩ := sk_ob hf
    refine sk_getI K dX11_life_92 fl_X11_134 rfl e50 ?_
    refine sk_if_ne 118 K dX11_life_95 (by decide) (fun h51 => ?_) (fun h51 => ?_)
    · rw [if_neg h51] at hf
      refine sk_sub [(0, .ref p0)] [0] rfl ?_
      have h9 := rest2 _ (hx2 _ (Option.some.inj hf).symm)
      exact h9
    · rw [if_pos h51] at hf
      refine sk_aload_n K dX11_life_98 rfl 0 rfl ?_
      obtain ⟨v52, e53, hf⟩ := sk_ob hf
      refine sk_getI K dX11_life_99 fl_X11_116 rfl e53 ?_
      refine sk_bipush (24 : Int32) K dX11_life_102 (by decide) ?_
      refine sk_icmp_eq 118 K dX11_life_104 (by decide) (fun h54 => ?_) (fun h54 => ?_)
      · rw [if_pos h54] at hf
        refine sk_sub [(0, .ref p0)] [0] rfl ?_
        have h9 := rest2 _ (hx2 _ (Option.some.inj hf).symm)
        exact h9
      · rw [if_neg h54] at hf
        refine sk_aload_n K dX11_life_107 rfl 0 rfl ?_
        obtain ⟨h58, hf⟩ := sk_ib hf
        obtain ⟨d57, e56, hf⟩ := sk_ob hf
        refine sk_callV (As := []) (st := []) K dX11_life_108 cl_X11_209 h58 (sX11_readLine C l e56) (by decide) rfl rfl (Nat.le_of_ble_eq_true rfl) R1 R2 ?_
        refine sk_aload_n K dX11_life_111 rfl 0 rfl ?_
        obtain ⟨h62, hf⟩ := sk_ib hf
        obtain ⟨d61, e60, hf⟩ := sk_ob hf
        refine sk_callV (As := []) (st := []) K dX11_life_112 cl_X11_206 h62 (sX11_ends C l e60) (by decide) rfl rfl (Nat.le_of_ble_eq_true rfl) R1 R2 ?_
        refine sk_goto 91 K dX11_life_115 (by decide) ?_
        refine sk_sub [(0, .ref p0)] [0] rfl ?_
        have h9 := ih2 _ (Option.some.inj hf).symm
        exact h9
  have j69_0 : ∀ (d63 : sk_D), fX11_life_J69 S p0 d63 = some (rr, dd) → sk_G X C 3 S d63 69 [(0, .ref p0)] [] := by
    intro d63 hf
    unfold fX11_life_J69 at hf
    refine sk_aload_n K dX11_life_69 rfl 0 rfl ?_
    refine sk_iconst (2 : Int32) K dX11_life_70 (by decide) ?_
    obtain ⟨h67, hf⟩ := sk_ib hf
    obtain ⟨d66, e65, hf⟩ := sk_ob hf
    refine sk_callV (As := [.int (2 : Int32)]) (st := []) K dX11_life_71 cl_X11_146 h67 (sX11_fails C l e65) (by decide) rfl rfl (Nat.le_of_ble_eq_true rfl) R1 R2 ?_
    refine sk_sub [(0, .ref p0)] [0] rfl ?_
    have h9 := j74_0 _ hf
    exact h9
  refine sk_aload_n K dX11_life_0 rfl 0 rfl ?_
  refine sk_iconst (0 : Int32) K dX11_life_1 (by decide) ?_
  obtain ⟨d68, e69, hf⟩ := sk_ob hf
  refine sk_putI d68 K dX11_life_2 fl_X11_1 rfl rfl rfl e69 ?_
  refine sk_iload_n K dX11_life_5 rfl 1 rfl ?_
  refine sk_i2l K dX11_life_6 ?_
  refine sk_lconst (0 : Int64) K dX11_life_7 (by decide) ?_
  refine sk_aload_n K dX11_life_8 rfl 0 rfl ?_
  obtain ⟨v70, e71, hf⟩ := sk_ob hf
  refine sk_getI K dX11_life_9 fl_X11_88 rfl e71 ?_
  refine sk_i2l K dX11_life_12 ?_
  obtain ⟨v72, e73, hf⟩ := sk_ob hf
  refine sk_callS (As := [.long p1.toInt64, .long (0 : Int64), .long v70.toInt64]) (st := []) K dX11_life_13 cl_X11_150 (sX11_within C l e73) (by decide) rfl rfl (Nat.le_of_ble_eq_true rfl) R1 R2 ?_
  refine sk_ifneB 22 K dX11_life_16 (by decide) (fun h74 => ?_) (fun h74 => ?_)
  · rw [if_pos h74] at hf
    refine sk_aload_n K dX11_life_22 rfl 0 rfl ?_
    refine sk_iload_n K dX11_life_23 rfl 1 rfl ?_
    obtain ⟨d75, e76, hf⟩ := sk_ob hf
    refine sk_putI d75 K dX11_life_24 fl_X11_91 rfl rfl rfl e76 ?_
    refine sk_aload_n K dX11_life_27 rfl 0 rfl ?_
    refine sk_iconst (0 : Int32) K dX11_life_28 (by decide) ?_
    obtain ⟨d77, e78, hf⟩ := sk_ob hf
    refine sk_putI d77 K dX11_life_29 fl_X11_88 rfl rfl rfl e78 ?_
    refine sk_aload_n K dX11_life_32 rfl 0 rfl ?_
    refine sk_iconst (0 : Int32) K dX11_life_33 (by decide) ?_
    obtain ⟨d79, e80, hf⟩ := sk_ob hf
    refine sk_putI d79 K dX11_life_34 fl_X11_109 rfl rfl rfl e80 ?_
    refine sk_aload_n K dX11_life_37 rfl 0 rfl ?_
    refine sk_iconst (0 : Int32) K dX11_life_38 (by decide) ?_
    obtain ⟨d81, e82, hf⟩ := sk_ob hf
    refine sk_putI d81 K dX11_life_39 fl_X11_134 rfl rfl rfl e82 ?_
    refine sk_aload_n K dX11_life_42 rfl 0 rfl ?_
    obtain ⟨v83, e84, hf⟩ := sk_ob hf
    refine sk_getR K dX11_life_43 fl_X11_24 rfl e84 ?_
    obtain ⟨d87, e86, hf⟩ := sk_ob hf
    refine sk_callS (As := [.ref v83]) (st := []) K dX11_life_46 cl_X11_84 (sX11_plain C l e86) (by decide) rfl rfl (Nat.le_of_ble_eq_true rfl) R1 R2 ?_
    refine sk_aload_n K dX11_life_49 rfl 0 rfl ?_
    obtain ⟨h91, hf⟩ := sk_ib hf
    obtain ⟨d90, e89, hf⟩ := sk_ob hf
    refine sk_callV (As := []) (st := []) K dX11_life_50 cl_X11_143 h91 (sX11_next C l e89) (by decide) rfl rfl (Nat.le_of_ble_eq_true rfl) R1 R2 ?_
    refine sk_aload_n K dX11_life_53 rfl 0 rfl ?_
    refine sk_iconst (0 : Int32) K dX11_life_54 (by decide) ?_
    obtain ⟨h95, hf⟩ := sk_ib hf
    obtain ⟨⟨v92, d94⟩, e93, hf⟩ := sk_ob hf
    try dsimp only at hf
    refine sk_callV (As := [.int (0 : Int32)]) (st := []) K dX11_life_55 cl_X11_169 h95 (sX11_eats C l e93) (by decide) rfl rfl (Nat.le_of_ble_eq_true rfl) R1 R2 ?_
    refine sk_ifeqB 69 K dX11_life_58 (by decide) (fun h97 => ?_) (fun h97 => ?_)
    · rw [if_neg h97] at hf
      refine sk_sub [(0, .ref p0)] [0] rfl ?_
      have h9 := j69_0 _ hf
      exact h9
    · rw [if_pos h97] at hf
      refine sk_aload_n K dX11_life_61 rfl 0 rfl ?_
      refine sk_iconst (1 : Int32) K dX11_life_62 (by decide) ?_
      obtain ⟨h101, hf⟩ := sk_ib hf
      obtain ⟨⟨v98, d100⟩, e99, hf⟩ := sk_ob hf
      try dsimp only at hf
      refine sk_callV (As := [.int (1 : Int32)]) (st := []) K dX11_life_63 cl_X11_169 h101 (sX11_eats C l e99) (by decide) rfl rfl (Nat.le_of_ble_eq_true rfl) R1 R2 ?_
      refine sk_ifneB 74 K dX11_life_66 (by decide) (fun h103 => ?_) (fun h103 => ?_)
      · rw [if_pos h103] at hf
        refine sk_sub [(0, .ref p0)] [0] rfl ?_
        have h9 := j74_0 _ hf
        exact h9
      · rw [if_neg h103] at hf
        refine sk_sub [(0, .ref p0)] [0] rfl ?_
        have h9 := j69_0 _ hf
        exact h9
  · rw [if_neg h74] at hf
    refine sk_bipush (-3 : Int32) K dX11_life_19 (by decide) ?_
    have hR104 : ((-3 : Int32), d68) = (rr, dd) := Option.some.inj hf
    exact sk_iret K dX11_life_21 rfl rfl (congrArg (fun z => z.1) hR104) rfl (congrArg (fun z => z.2) hR104)
noncomputable def fX11_fault (S : sk_S) (d : sk_D) (p0 : Nat) (p1 : Int32) : Option (Int32 × sk_D) :=
  (sk_pI S d p0 10 0 (0 : Int32)).bind fun d1 => if p1 = 0 then ((sk_gI S d1 p0 10 13).bind fun v9 => some (v9, d1)) else (if p1 = (1 : Int32) then ((sk_gI S d1 p0 10 14).bind fun v6 => some (v6, d1)) else (some ((-1 : Int32), d1)))
set_option maxRecDepth 100000 in
set_option maxHeartbeats 4000000 in
theorem sX11_fault (C : sk_C) (l : Launch) {S : sk_S} {d : sk_D} {p0 : Nat} {p1 : Int32} {rr : Int32} {dd : sk_D} (hf : fX11_fault S d p0 p1 = some (rr, dd)) : sk_Met C l 0 yX11_fault cX11_fault 2 (some .int) [.ref p0, .int p1] S d (some (.int rr)) S dd := by
  refine sk_Met.of (by decide) (Nat.le_of_ble_eq_true rfl) (Nat.le_refl _) (Nat.le_refl _) (fun X K0 hX => ?_)
  have K : sk_Ok X C cX11_fault 2 RX11 "fault" (some .int) 0 l (some (.int rr)) S dd := K0
  have R1 : X.2.2.2.2.2.2.2.2.2.2.2.1 ≤ S.1.1 ∧ X.2.2.2.2.2.2.2.2.2.2.2.2 ≤ S.1.2 := by rw [hX]; exact ⟨Nat.le_refl _, Nat.le_refl _⟩
  have R2 : S.1.1 ≤ S.1.1 ∧ S.1.2 ≤ S.1.2 := ⟨Nat.le_refl _, Nat.le_refl _⟩
  show sk_G X C 2 S d 0 [(0, .ref p0), (1, .int p1)] []
  unfold fX11_fault at hf
  refine sk_aload_n K dX11_fault_0 rfl 0 rfl ?_
  refine sk_iconst (0 : Int32) K dX11_fault_1 (by decide) ?_
  obtain ⟨d1, e2, hf⟩ := sk_ob hf
  refine sk_putI d1 K dX11_fault_2 fl_X11_1 rfl rfl rfl e2 ?_
  refine sk_iload_n K dX11_fault_5 rfl 1 rfl ?_
  refine sk_if_ne 16 K dX11_fault_6 (by decide) (fun h3 => ?_) (fun h3 => ?_)
  · rw [if_neg h3] at hf
    refine sk_iload_n K dX11_fault_16 rfl 1 rfl ?_
    refine sk_iconst (1 : Int32) K dX11_fault_17 (by decide) ?_
    refine sk_icmp_ne 28 K dX11_fault_18 (by decide) (fun h4 => ?_) (fun h4 => ?_)
    · rw [if_neg h4] at hf
      refine sk_iconst (-1 : Int32) K dX11_fault_28 (by decide) ?_
      have hR5 : ((-1 : Int32), d1) = (rr, dd) := Option.some.inj hf
      exact sk_iret K dX11_fault_29 rfl rfl (congrArg (fun z => z.1) hR5) rfl (congrArg (fun z => z.2) hR5)
    · rw [if_pos h4] at hf
      refine sk_aload_n K dX11_fault_21 rfl 0 rfl ?_
      obtain ⟨v6, e7, hf⟩ := sk_ob hf
      refine sk_getI K dX11_fault_22 fl_X11_27 rfl e7 ?_
      refine sk_goto 29 K dX11_fault_25 (by decide) ?_
      have hR8 : (v6, d1) = (rr, dd) := Option.some.inj hf
      exact sk_iret K dX11_fault_29 rfl rfl (congrArg (fun z => z.1) hR8) rfl (congrArg (fun z => z.2) hR8)
  · rw [if_pos h3] at hf
    refine sk_aload_n K dX11_fault_9 rfl 0 rfl ?_
    obtain ⟨v9, e10, hf⟩ := sk_ob hf
    refine sk_getI K dX11_fault_10 fl_X11_212 rfl e10 ?_
    refine sk_goto 29 K dX11_fault_13 (by decide) ?_
    have hR11 : (v9, d1) = (rr, dd) := Option.some.inj hf
    exact sk_iret K dX11_fault_29 rfl rfl (congrArg (fun z => z.1) hR11) rfl (congrArg (fun z => z.2) hR11)
noncomputable def fX11_isDoing (S : sk_S) (d : sk_D) (p0 : Nat) (p1 : Int64) : Option (Bool) :=
  (sk_gR S p0 10 1).bind fun v1 => (sk_lI S d v1 20 (1 : Int32)).bind fun v3 => (fX11_within S d p1 (0 : Int64) ((v3 - (1 : Int32)).toInt64)).bind fun v5 => some v5
set_option maxRecDepth 100000 in
set_option maxHeartbeats 4000000 in
theorem sX11_isDoing (C : sk_C) (l : Launch) {S : sk_S} {d : sk_D} {p0 : Nat} {p1 : Int64} {rr : Bool} (hf : fX11_isDoing S d p0 p1 = some rr) : sk_Met C l 1 yX11_isDoing cX11_isDoing 3 (some .boolean) [.ref p0, .long p1] S d (some (.int (sk_b rr))) S d := by
  refine sk_Met.of (by decide) (Nat.le_of_ble_eq_true rfl) (Nat.le_refl _) (Nat.le_refl _) (fun X K0 hX => ?_)
  have K : sk_Ok X C cX11_isDoing 3 RX11 "isDoing" (some .boolean) 1 l (some (.int (sk_b rr))) S d := K0
  have R1 : X.2.2.2.2.2.2.2.2.2.2.2.1 ≤ S.1.1 ∧ X.2.2.2.2.2.2.2.2.2.2.2.2 ≤ S.1.2 := by rw [hX]; exact ⟨Nat.le_refl _, Nat.le_refl _⟩
  have R2 : S.1.1 ≤ S.1.1 ∧ S.1.2 ≤ S.1.2 := ⟨Nat.le_refl _, Nat.le_refl _⟩
  show sk_G X C 3 S d 0 [(0, .ref p0), (1, .long p1)] []
  unfold fX11_isDoing at hf
  refine sk_lload_n K dX11_isDoing_0 rfl 1 rfl ?_
  refine sk_lconst (0 : Int64) K dX11_isDoing_1 (by decide) ?_
  refine sk_aload_n K dX11_isDoing_2 rfl 0 rfl ?_
  obtain ⟨v1, e2, hf⟩ := sk_ob hf
  refine sk_getR K dX11_isDoing_3 fl_X11_13 rfl e2 ?_
  refine sk_iconst (1 : Int32) K dX11_isDoing_6 (by decide) ?_
  obtain ⟨v3, e4, hf⟩ := sk_ob hf
  refine sk_ald20 K dX11_isDoing_7 e4 ?_
  refine sk_iconst (1 : Int32) K dX11_isDoing_8 (by decide) ?_
  refine sk_isub K dX11_isDoing_9 ?_
  refine sk_i2l K dX11_isDoing_10 ?_
  obtain ⟨v5, e6, hf⟩ := sk_ob hf
  refine sk_callS (As := [.long p1, .long (0 : Int64), .long ((v3 - (1 : Int32)).toInt64)]) (st := []) K dX11_isDoing_11 cl_X11_150 (sX11_within C l e6) (by decide) rfl rfl (Nat.le_of_ble_eq_true rfl) R1 R2 ?_
  have hR7 : v5 = rr := Option.some.inj hf
  exact sk_zret K dX11_isDoing_14 rfl rfl hR7 rfl rfl
noncomputable def fX11_isSet (S : sk_S) (d : sk_D) (p0 : Nat) (p1 : Int32) : Option (Bool) :=
  if p1 < 0 then (some false) else ((sk_gR S p0 10 1).bind fun v3 => (sk_lI S d v3 20 (1 : Int32)).bind fun v5 => if ((1 : Int32) <<< (v5 &&& 31)) ≤ p1 then (some false) else (some true))
set_option maxRecDepth 100000 in
set_option maxHeartbeats 4000000 in
theorem sX11_isSet (C : sk_C) (l : Launch) {S : sk_S} {d : sk_D} {p0 : Nat} {p1 : Int32} {rr : Bool} (hf : fX11_isSet S d p0 p1 = some rr) : sk_Met C l 0 yX11_isSet cX11_isSet 2 (some .boolean) [.ref p0, .int p1] S d (some (.int (sk_b rr))) S d := by
  refine sk_Met.of (by decide) (Nat.le_of_ble_eq_true rfl) (Nat.le_refl _) (Nat.le_refl _) (fun X K0 hX => ?_)
  have K : sk_Ok X C cX11_isSet 2 RX11 "isSet" (some .boolean) 0 l (some (.int (sk_b rr))) S d := K0
  have R1 : X.2.2.2.2.2.2.2.2.2.2.2.1 ≤ S.1.1 ∧ X.2.2.2.2.2.2.2.2.2.2.2.2 ≤ S.1.2 := by rw [hX]; exact ⟨Nat.le_refl _, Nat.le_refl _⟩
  have R2 : S.1.1 ≤ S.1.1 ∧ S.1.2 ≤ S.1.2 := ⟨Nat.le_refl _, Nat.le_refl _⟩
  show sk_G X C 2 S d 0 [(0, .ref p0), (1, .int p1)] []
  unfold fX11_isSet at hf
  refine sk_iload_n K dX11_isSet_0 rfl 1 rfl ?_
  refine sk_if_lt 20 K dX11_isSet_1 (by decide) (fun h1 => ?_) (fun h1 => ?_)
  · rw [if_pos h1] at hf
    refine sk_iconst (0 : Int32) K dX11_isSet_20 (by decide) ?_
    have hR2 : false = rr := Option.some.inj hf
    exact sk_zret (x := false) K dX11_isSet_21 rfl rfl hR2 rfl rfl
  · rw [if_neg h1] at hf
    refine sk_iload_n K dX11_isSet_4 rfl 1 rfl ?_
    refine sk_iconst (1 : Int32) K dX11_isSet_5 (by decide) ?_
    refine sk_aload_n K dX11_isSet_6 rfl 0 rfl ?_
    obtain ⟨v3, e4, hf⟩ := sk_ob hf
    refine sk_getR K dX11_isSet_7 fl_X11_13 rfl e4 ?_
    refine sk_iconst (1 : Int32) K dX11_isSet_10 (by decide) ?_
    obtain ⟨v5, e6, hf⟩ := sk_ob hf
    refine sk_ald20 K dX11_isSet_11 e6 ?_
    refine sk_ishl K dX11_isSet_12 ?_
    refine sk_icmp_ge 20 K dX11_isSet_13 (by decide) (fun h7 => ?_) (fun h7 => ?_)
    · rw [if_pos h7] at hf
      refine sk_iconst (0 : Int32) K dX11_isSet_20 (by decide) ?_
      have hR8 : false = rr := Option.some.inj hf
      exact sk_zret (x := false) K dX11_isSet_21 rfl rfl hR8 rfl rfl
    · rw [if_neg h7] at hf
      refine sk_iconst (1 : Int32) K dX11_isSet_16 (by decide) ?_
      refine sk_goto 21 K dX11_isSet_17 (by decide) ?_
      have hR9 : true = rr := Option.some.inj hf
      exact sk_zret (x := true) K dX11_isSet_21 rfl rfl hR9 rfl rfl
noncomputable def fX11_bitsOf_L4 (p0 : Int32) (s1 : Int32 × Int32) : Option ((Int32 × Int32) ⊕ (Int32)) :=
  if (10 : Int32) ≤ s1.2 then (some (.inr s1.1)) else (some (.inl (s1.1 + ((p0 >>> (s1.2 &&& 31)) &&& (1 : Int32)), s1.2 + 1)))
noncomputable def fX11_bitsOf (S : sk_S) (d : sk_D) (p0 : Int32) : Option (Int32) :=
  (sk_itr (fX11_bitsOf_L4 p0) ((0 : Int32), (0 : Int32))).bind fun x1 => some x1
set_option maxRecDepth 100000 in
set_option maxHeartbeats 4000000 in
theorem sX11_bitsOf (C : sk_C) (l : Launch) {S : sk_S} {d : sk_D} {p0 : Int32} {rr : Int32} (hf : fX11_bitsOf S d p0 = some rr) : sk_Met C l 0 yX11_bitsOf cX11_bitsOf 3 (some .int) [.int p0] S d (some (.int rr)) S d := by
  refine sk_Met.of (by decide) (Nat.le_of_ble_eq_true rfl) (Nat.le_refl _) (Nat.le_refl _) (fun X K0 hX => ?_)
  have K : sk_Ok X C cX11_bitsOf 3 RX11 "bitsOf" (some .int) 0 l (some (.int rr)) S d := K0
  have R1 : X.2.2.2.2.2.2.2.2.2.2.2.1 ≤ S.1.1 ∧ X.2.2.2.2.2.2.2.2.2.2.2.2 ≤ S.1.2 := by rw [hX]; exact ⟨Nat.le_refl _, Nat.le_refl _⟩
  have R2 : S.1.1 ≤ S.1.1 ∧ S.1.2 ≤ S.1.2 := ⟨Nat.le_refl _, Nat.le_refl _⟩
  show sk_G X C 3 S d 0 [(0, .int p0)] []
  unfold fX11_bitsOf at hf
  refine sk_iconst (0 : Int32) K dX11_bitsOf_0 (by decide) ?_
  refine sk_istore_n [(1, .int (0 : Int32)), (0, .int p0)] K dX11_bitsOf_1 rfl (by decide) rfl ?_
  refine sk_iconst (0 : Int32) K dX11_bitsOf_2 (by decide) ?_
  refine sk_istore_n [(2, .int (0 : Int32)), (1, .int (0 : Int32)), (0, .int p0)] K dX11_bitsOf_3 rfl (by decide) rfl ?_
  obtain ⟨x1, he1, hf⟩ := sk_ob hf
  have hret1 : ∀ r, r = x1 → r = rr := by
    intro r hr
    subst hr
    exact Option.some.inj hf
  refine sk_sub [(0, .int p0), (1, .int (0 : Int32)), (2, .int (0 : Int32))] [2, 1, 0] rfl ?_
  refine sk_loop (fun s1 => sk_G X C 3 S d 4 [(0, .int p0), (1, .int s1.1), (2, .int s1.2)] []) he1 (fun s1 o1 hf ih1 hx1 => ?_)
  unfold fX11_bitsOf_L4 at hf
  refine sk_iload_n K dX11_bitsOf_4 rfl 2 rfl ?_
  refine sk_bipush (10 : Int32) K dX11_bitsOf_5 (by decide) ?_
  refine sk_icmp_ge 24 K dX11_bitsOf_7 (by decide) (fun h1 => ?_) (fun h1 => ?_)
  · rw [if_pos h1] at hf
    refine sk_iload_n K dX11_bitsOf_24 rfl 1 rfl ?_
    have hR2 : s1.1 = rr := hret1 _ (hx1 _ (Option.some.inj hf).symm)
    exact sk_iret K dX11_bitsOf_25 rfl rfl hR2 rfl rfl
  · rw [if_neg h1] at hf
    refine sk_iload_n K dX11_bitsOf_10 rfl 1 rfl ?_
    refine sk_iload_n K dX11_bitsOf_11 rfl 0 rfl ?_
    refine sk_iload_n K dX11_bitsOf_12 rfl 2 rfl ?_
    refine sk_ishr K dX11_bitsOf_13 ?_
    refine sk_iconst (1 : Int32) K dX11_bitsOf_14 (by decide) ?_
    refine sk_iand K dX11_bitsOf_15 ?_
    refine sk_iadd K dX11_bitsOf_16 ?_
    refine sk_istore_n [(1, .int (s1.1 + ((p0 >>> (s1.2 &&& 31)) &&& (1 : Int32)))), (0, .int p0), (2, .int s1.2)] K dX11_bitsOf_17 rfl (by decide) rfl ?_
    refine sk_iinc (s1.2 + 1) [(2, .int (s1.2 + 1)), (1, .int (s1.1 + ((p0 >>> (s1.2 &&& 31)) &&& (1 : Int32)))), (0, .int p0)] K dX11_bitsOf_18 2 rfl rfl (by decide) rfl ?_
    refine sk_goto 4 K dX11_bitsOf_21 (by decide) ?_
    refine sk_sub [(0, .int p0), (1, .int (s1.1 + ((p0 >>> (s1.2 &&& 31)) &&& (1 : Int32)))), (2, .int (s1.2 + 1))] [2, 1, 0] rfl ?_
    have h9 := ih1 _ (Option.some.inj hf).symm
    exact h9
noncomputable def fX11_howIn (S : sk_S) (d : sk_D) (p0 : Int32) (p1 : Int32) : Option (Int32) :=
  some ((p0 >>> (((2 : Int32) * p1) &&& 31)) &&& (3 : Int32))
set_option maxRecDepth 100000 in
set_option maxHeartbeats 4000000 in
theorem sX11_howIn (C : sk_C) (l : Launch) {S : sk_S} {d : sk_D} {p0 : Int32} {p1 : Int32} {rr : Int32} (hf : fX11_howIn S d p0 p1 = some rr) : sk_Met C l 0 yX11_howIn cX11_howIn 2 (some .int) [.int p0, .int p1] S d (some (.int rr)) S d := by
  refine sk_Met.of (by decide) (Nat.le_of_ble_eq_true rfl) (Nat.le_refl _) (Nat.le_refl _) (fun X K0 hX => ?_)
  have K : sk_Ok X C cX11_howIn 2 RX11 "howIn" (some .int) 0 l (some (.int rr)) S d := K0
  have R1 : X.2.2.2.2.2.2.2.2.2.2.2.1 ≤ S.1.1 ∧ X.2.2.2.2.2.2.2.2.2.2.2.2 ≤ S.1.2 := by rw [hX]; exact ⟨Nat.le_refl _, Nat.le_refl _⟩
  have R2 : S.1.1 ≤ S.1.1 ∧ S.1.2 ≤ S.1.2 := ⟨Nat.le_refl _, Nat.le_refl _⟩
  show sk_G X C 2 S d 0 [(0, .int p0), (1, .int p1)] []
  unfold fX11_howIn at hf
  refine sk_iload_n K dX11_howIn_0 rfl 0 rfl ?_
  refine sk_iconst (2 : Int32) K dX11_howIn_1 (by decide) ?_
  refine sk_iload_n K dX11_howIn_2 rfl 1 rfl ?_
  refine sk_imul K dX11_howIn_3 ?_
  refine sk_ishr K dX11_howIn_4 ?_
  refine sk_iconst (3 : Int32) K dX11_howIn_5 (by decide) ?_
  refine sk_iand K dX11_howIn_6 ?_
  have hR1 : ((p0 >>> (((2 : Int32) * p1) &&& 31)) &&& (3 : Int32)) = rr := Option.some.inj hf
  exact sk_iret K dX11_howIn_7 rfl rfl hR1 rfl rfl
noncomputable def fX11_withHow (S : sk_S) (d : sk_D) (p0 : Int32) (p1 : Int32) (p2 : Int32) : Option (Int32) :=
  some ((p0 &&& (((3 : Int32) <<< (((2 : Int32) * p1) &&& 31)) ^^^ (-1 : Int32))) ||| (p2 <<< (((2 : Int32) * p1) &&& 31)))
set_option maxRecDepth 100000 in
set_option maxHeartbeats 4000000 in
theorem sX11_withHow (C : sk_C) (l : Launch) {S : sk_S} {d : sk_D} {p0 : Int32} {p1 : Int32} {p2 : Int32} {rr : Int32} (hf : fX11_withHow S d p0 p1 p2 = some rr) : sk_Met C l 0 yX11_withHow cX11_withHow 3 (some .int) [.int p0, .int p1, .int p2] S d (some (.int rr)) S d := by
  refine sk_Met.of (by decide) (Nat.le_of_ble_eq_true rfl) (Nat.le_refl _) (Nat.le_refl _) (fun X K0 hX => ?_)
  have K : sk_Ok X C cX11_withHow 3 RX11 "withHow" (some .int) 0 l (some (.int rr)) S d := K0
  have R1 : X.2.2.2.2.2.2.2.2.2.2.2.1 ≤ S.1.1 ∧ X.2.2.2.2.2.2.2.2.2.2.2.2 ≤ S.1.2 := by rw [hX]; exact ⟨Nat.le_refl _, Nat.le_refl _⟩
  have R2 : S.1.1 ≤ S.1.1 ∧ S.1.2 ≤ S.1.2 := ⟨Nat.le_refl _, Nat.le_refl _⟩
  show sk_G X C 3 S d 0 [(0, .int p0), (1, .int p1), (2, .int p2)] []
  unfold fX11_withHow at hf
  refine sk_iload_n K dX11_withHow_0 rfl 0 rfl ?_
  refine sk_iconst (3 : Int32) K dX11_withHow_1 (by decide) ?_
  refine sk_iconst (2 : Int32) K dX11_withHow_2 (by decide) ?_
  refine sk_iload_n K dX11_withHow_3 rfl 1 rfl ?_
  refine sk_imul K dX11_withHow_4 ?_
  refine sk_ishl K dX11_withHow_5 ?_
  refine sk_iconst (-1 : Int32) K dX11_withHow_6 (by decide) ?_
  refine sk_ixor K dX11_withHow_7 ?_
  refine sk_iand K dX11_withHow_8 ?_
  refine sk_iload_n K dX11_withHow_9 rfl 2 rfl ?_
  refine sk_iconst (2 : Int32) K dX11_withHow_10 (by decide) ?_
  refine sk_iload_n K dX11_withHow_11 rfl 1 rfl ?_
  refine sk_imul K dX11_withHow_12 ?_
  refine sk_ishl K dX11_withHow_13 ?_
  refine sk_ior K dX11_withHow_14 ?_
  have hR1 : ((p0 &&& (((3 : Int32) <<< (((2 : Int32) * p1) &&& 31)) ^^^ (-1 : Int32))) ||| (p2 <<< (((2 : Int32) * p1) &&& 31))) = rr := Option.some.inj hf
  exact sk_iret K dX11_withHow_15 rfl rfl hR1 rfl rfl
noncomputable def fX11_standNow_L4 (S : sk_S) (d : sk_D) (p0 : Nat) (s1 : Int32 × Int32) : Option ((Int32 × Int32) ⊕ (Int32)) :=
  if (8 : Int32) ≤ s1.2 then (some (.inr s1.1)) else ((sk_gR S p0 10 1).bind fun v3 => (sk_lI S d v3 20 ((74 : Int32) + s1.2)).bind fun v5 => some (.inl (s1.1 ||| (v5 <<< (((2 : Int32) * s1.2) &&& 31)), s1.2 + 1)))
noncomputable def fX11_standNow (S : sk_S) (d : sk_D) (p0 : Nat) : Option (Int32) :=
  (sk_itr (fX11_standNow_L4 S d p0) ((0 : Int32), (0 : Int32))).bind fun x1 => some x1
set_option maxRecDepth 100000 in
set_option maxHeartbeats 4000000 in
theorem sX11_standNow (C : sk_C) (l : Launch) {S : sk_S} {d : sk_D} {p0 : Nat} {rr : Int32} (hf : fX11_standNow S d p0 = some rr) : sk_Met C l 0 yX11_standNow cX11_standNow 3 (some .int) [.ref p0] S d (some (.int rr)) S d := by
  refine sk_Met.of (by decide) (Nat.le_of_ble_eq_true rfl) (Nat.le_refl _) (Nat.le_refl _) (fun X K0 hX => ?_)
  have K : sk_Ok X C cX11_standNow 3 RX11 "standNow" (some .int) 0 l (some (.int rr)) S d := K0
  have R1 : X.2.2.2.2.2.2.2.2.2.2.2.1 ≤ S.1.1 ∧ X.2.2.2.2.2.2.2.2.2.2.2.2 ≤ S.1.2 := by rw [hX]; exact ⟨Nat.le_refl _, Nat.le_refl _⟩
  have R2 : S.1.1 ≤ S.1.1 ∧ S.1.2 ≤ S.1.2 := ⟨Nat.le_refl _, Nat.le_refl _⟩
  show sk_G X C 3 S d 0 [(0, .ref p0)] []
  unfold fX11_standNow at hf
  refine sk_iconst (0 : Int32) K dX11_standNow_0 (by decide) ?_
  refine sk_istore_n [(1, .int (0 : Int32)), (0, .ref p0)] K dX11_standNow_1 rfl (by decide) rfl ?_
  refine sk_iconst (0 : Int32) K dX11_standNow_2 (by decide) ?_
  refine sk_istore_n [(2, .int (0 : Int32)), (1, .int (0 : Int32)), (0, .ref p0)] K dX11_standNow_3 rfl (by decide) rfl ?_
  obtain ⟨x1, he1, hf⟩ := sk_ob hf
  have hret1 : ∀ r, r = x1 → r = rr := by
    intro r hr
    subst hr
    exact Option.some.inj hf
  refine sk_sub [(0, .ref p0), (1, .int (0 : Int32)), (2, .int (0 : Int32))] [2, 1, 0] rfl ?_
  refine sk_loop (fun s1 => sk_G X C 3 S d 4 [(0, .ref p0), (1, .int s1.1), (2, .int s1.2)] []) he1 (fun s1 o1 hf ih1 hx1 => ?_)
  unfold fX11_standNow_L4 at hf
  refine sk_iload_n K dX11_standNow_4 rfl 2 rfl ?_
  refine sk_bipush (8 : Int32) K dX11_standNow_5 (by decide) ?_
  refine sk_icmp_ge 32 K dX11_standNow_7 (by decide) (fun h1 => ?_) (fun h1 => ?_)
  · rw [if_pos h1] at hf
    refine sk_iload_n K dX11_standNow_32 rfl 1 rfl ?_
    have hR2 : s1.1 = rr := hret1 _ (hx1 _ (Option.some.inj hf).symm)
    exact sk_iret K dX11_standNow_33 rfl rfl hR2 rfl rfl
  · rw [if_neg h1] at hf
    refine sk_iload_n K dX11_standNow_10 rfl 1 rfl ?_
    refine sk_aload_n K dX11_standNow_11 rfl 0 rfl ?_
    obtain ⟨v3, e4, hf⟩ := sk_ob hf
    refine sk_getR K dX11_standNow_12 fl_X11_13 rfl e4 ?_
    refine sk_bipush (74 : Int32) K dX11_standNow_15 (by decide) ?_
    refine sk_iload_n K dX11_standNow_17 rfl 2 rfl ?_
    refine sk_iadd K dX11_standNow_18 ?_
    obtain ⟨v5, e6, hf⟩ := sk_ob hf
    refine sk_ald20 K dX11_standNow_19 e6 ?_
    refine sk_iconst (2 : Int32) K dX11_standNow_20 (by decide) ?_
    refine sk_iload_n K dX11_standNow_21 rfl 2 rfl ?_
    refine sk_imul K dX11_standNow_22 ?_
    refine sk_ishl K dX11_standNow_23 ?_
    refine sk_ior K dX11_standNow_24 ?_
    refine sk_istore_n [(1, .int (s1.1 ||| (v5 <<< (((2 : Int32) * s1.2) &&& 31)))), (0, .ref p0), (2, .int s1.2)] K dX11_standNow_25 rfl (by decide) rfl ?_
    refine sk_iinc (s1.2 + 1) [(2, .int (s1.2 + 1)), (1, .int (s1.1 ||| (v5 <<< (((2 : Int32) * s1.2) &&& 31)))), (0, .ref p0)] K dX11_standNow_26 2 rfl rfl (by decide) rfl ?_
    refine sk_goto 4 K dX11_standNow_29 (by decide) ?_
    refine sk_sub [(0, .ref p0), (1, .int (s1.1 ||| (v5 <<< (((2 : Int32) * s1.2) &&& 31)))), (2, .int (s1.2 + 1))] [2, 1, 0] rfl ?_
    have h9 := ih1 _ (Option.some.inj hf).symm
    exact h9
noncomputable def fX11_isStand_L2 (S : sk_S) (p0 : Nat) (p1 : Int32) (s1 : Int32 × sk_D) : Option ((Int32 × sk_D) ⊕ (sk_D)) :=
  if (8 : Int32) ≤ s1.1 then (some (.inr s1.2)) else ((sk_gR S p0 10 1).bind fun v3 => (fX11_howIn S s1.2 p1 s1.1).bind fun v5 => (sk_sI S s1.2 v3 20 ((74 : Int32) + s1.1) v5).bind fun d7 => some (.inl (s1.1 + 1, d7)))
noncomputable def fX11_isStand (S : sk_S) (d : sk_D) (p0 : Nat) (p1 : Int32) : Option (sk_D) :=
  (sk_itr (fX11_isStand_L2 S p0 p1) ((0 : Int32), d)).bind fun x1 => some x1
set_option maxRecDepth 100000 in
set_option maxHeartbeats 4000000 in
theorem sX11_isStand (C : sk_C) (l : Launch) {S : sk_S} {d : sk_D} {p0 : Nat} {p1 : Int32} {dd : sk_D} (hf : fX11_isStand S d p0 p1 = some dd) : sk_Met C l 1 yX11_isStand cX11_isStand 3 none [.ref p0, .int p1] S d none S dd := by
  refine sk_Met.of (by decide) (Nat.le_of_ble_eq_true rfl) (Nat.le_refl _) (Nat.le_refl _) (fun X K0 hX => ?_)
  have K : sk_Ok X C cX11_isStand 3 RX11 "isStand" none 1 l none S dd := K0
  have R1 : X.2.2.2.2.2.2.2.2.2.2.2.1 ≤ S.1.1 ∧ X.2.2.2.2.2.2.2.2.2.2.2.2 ≤ S.1.2 := by rw [hX]; exact ⟨Nat.le_refl _, Nat.le_refl _⟩
  have R2 : S.1.1 ≤ S.1.1 ∧ S.1.2 ≤ S.1.2 := ⟨Nat.le_refl _, Nat.le_refl _⟩
  show sk_G X C 3 S d 0 [(0, .ref p0), (1, .int p1)] []
  unfold fX11_isStand at hf
  refine sk_iconst (0 : Int32) K dX11_isStand_0 (by decide) ?_
  refine sk_istore_n [(2, .int (0 : Int32)), (0, .ref p0), (1, .int p1)] K dX11_isStand_1 rfl (by decide) rfl ?_
  obtain ⟨x1, he1, hf⟩ := sk_ob hf
  have hret1 : ∀ r, r = x1 → r = dd := by
    intro r hr
    subst hr
    exact Option.some.inj hf
  refine sk_sub [(0, .ref p0), (1, .int p1), (2, .int (0 : Int32))] [1, 2, 0] rfl ?_
  refine sk_loop (fun s1 => sk_G X C 3 S s1.2 2 [(0, .ref p0), (1, .int p1), (2, .int s1.1)] []) he1 (fun s1 o1 hf ih1 hx1 => ?_)
  unfold fX11_isStand_L2 at hf
  refine sk_iload_n K dX11_isStand_2 rfl 2 rfl ?_
  refine sk_bipush (8 : Int32) K dX11_isStand_3 (by decide) ?_
  refine sk_icmp_ge 28 K dX11_isStand_5 (by decide) (fun h1 => ?_) (fun h1 => ?_)
  · rw [if_pos h1] at hf
    have hR2 : s1.2 = dd := hret1 _ (hx1 _ (Option.some.inj hf).symm)
    exact sk_vret K dX11_isStand_28 rfl rfl rfl hR2
  · rw [if_neg h1] at hf
    refine sk_aload_n K dX11_isStand_8 rfl 0 rfl ?_
    obtain ⟨v3, e4, hf⟩ := sk_ob hf
    refine sk_getR K dX11_isStand_9 fl_X11_13 rfl e4 ?_
    refine sk_bipush (74 : Int32) K dX11_isStand_12 (by decide) ?_
    refine sk_iload_n K dX11_isStand_14 rfl 2 rfl ?_
    refine sk_iadd K dX11_isStand_15 ?_
    refine sk_iload_n K dX11_isStand_16 rfl 1 rfl ?_
    refine sk_iload_n K dX11_isStand_17 rfl 2 rfl ?_
    obtain ⟨v5, e6, hf⟩ := sk_ob hf
    refine sk_callS (As := [.int p1, .int s1.1]) (st := [.int ((74 : Int32) + s1.1), .ref v3]) K dX11_isStand_18 cl_X11_215 (sX11_howIn C l e6) (by decide) rfl rfl (Nat.le_of_ble_eq_true rfl) R1 R2 ?_
    obtain ⟨d7, e8, hf⟩ := sk_ob hf
    refine sk_ast20 d7 K dX11_isStand_21 e8 ?_
    refine sk_iinc (s1.1 + 1) [(2, .int (s1.1 + 1)), (0, .ref p0), (1, .int p1)] K dX11_isStand_22 2 rfl rfl (by decide) rfl ?_
    refine sk_goto 2 K dX11_isStand_25 (by decide) ?_
    refine sk_sub [(0, .ref p0), (1, .int p1), (2, .int (s1.1 + 1))] [1, 2, 0] rfl ?_
    have h9 := ih1 _ (Option.some.inj hf).symm
    exact h9
noncomputable def fX11_thoseIn_L5 (S : sk_S) (d : sk_D) (p0 : Nat) (p1 : Int32) (p2 : Int32) (s1 : Int32 × Int32) : Option ((Int32 × Int32) ⊕ (Int32)) :=
  (sk_gR S p0 10 1).bind fun v1 => (sk_lI S d v1 20 (1 : Int32)).bind fun v3 => if v3 ≤ s1.2 then (some (.inr s1.1)) else ((fX11_howIn S d p1 s1.2).bind fun v7 => if v7 = p2 then (some (.inl (s1.1 ||| ((1 : Int32) <<< (s1.2 &&& 31)), s1.2 + 1))) else (some (.inl (s1.1 ||| (0 : Int32), s1.2 + 1))))
noncomputable def fX11_thoseIn (S : sk_S) (d : sk_D) (p0 : Nat) (p1 : Int32) (p2 : Int32) : Option (Int32) :=
  (sk_itr (fX11_thoseIn_L5 S d p0 p1 p2) ((0 : Int32), (0 : Int32))).bind fun x1 => some x1
set_option maxRecDepth 100000 in
set_option maxHeartbeats 4000000 in
theorem sX11_thoseIn (C : sk_C) (l : Launch) {S : sk_S} {d : sk_D} {p0 : Nat} {p1 : Int32} {p2 : Int32} {rr : Int32} (hf : fX11_thoseIn S d p0 p1 p2 = some rr) : sk_Met C l 1 yX11_thoseIn cX11_thoseIn 5 (some .int) [.ref p0, .int p1, .int p2] S d (some (.int rr)) S d := by
  refine sk_Met.of (by decide) (Nat.le_of_ble_eq_true rfl) (Nat.le_refl _) (Nat.le_refl _) (fun X K0 hX => ?_)
  have K : sk_Ok X C cX11_thoseIn 5 RX11 "thoseIn" (some .int) 1 l (some (.int rr)) S d := K0
  have R1 : X.2.2.2.2.2.2.2.2.2.2.2.1 ≤ S.1.1 ∧ X.2.2.2.2.2.2.2.2.2.2.2.2 ≤ S.1.2 := by rw [hX]; exact ⟨Nat.le_refl _, Nat.le_refl _⟩
  have R2 : S.1.1 ≤ S.1.1 ∧ S.1.2 ≤ S.1.2 := ⟨Nat.le_refl _, Nat.le_refl _⟩
  show sk_G X C 5 S d 0 [(0, .ref p0), (1, .int p1), (2, .int p2)] []
  unfold fX11_thoseIn at hf
  refine sk_iconst (0 : Int32) K dX11_thoseIn_0 (by decide) ?_
  refine sk_istore_n [(3, .int (0 : Int32)), (0, .ref p0), (1, .int p1), (2, .int p2)] K dX11_thoseIn_1 rfl (by decide) rfl ?_
  refine sk_iconst (0 : Int32) K dX11_thoseIn_2 (by decide) ?_
  refine sk_istore [(4, .int (0 : Int32)), (3, .int (0 : Int32)), (0, .ref p0), (1, .int p1), (2, .int p2)] K dX11_thoseIn_3 (by decide) rfl ?_
  obtain ⟨x1, he1, hf⟩ := sk_ob hf
  have hret1 : ∀ r, r = x1 → r = rr := by
    intro r hr
    subst hr
    exact Option.some.inj hf
  refine sk_sub [(0, .ref p0), (1, .int p1), (2, .int p2), (3, .int (0 : Int32)), (4, .int (0 : Int32))] [2, 3, 4, 1, 0] rfl ?_
  refine sk_loop (fun s1 => sk_G X C 5 S d 5 [(0, .ref p0), (1, .int p1), (2, .int p2), (3, .int s1.1), (4, .int s1.2)] []) he1 (fun s1 o1 hf ih1 hx1 => ?_)
  unfold fX11_thoseIn_L5 at hf
  refine sk_iload K dX11_thoseIn_5 4 rfl ?_
  refine sk_aload_n K dX11_thoseIn_7 rfl 0 rfl ?_
  obtain ⟨v1, e2, hf⟩ := sk_ob hf
  refine sk_getR K dX11_thoseIn_8 fl_X11_13 rfl e2 ?_
  refine sk_iconst (1 : Int32) K dX11_thoseIn_11 (by decide) ?_
  obtain ⟨v3, e4, hf⟩ := sk_ob hf
  refine sk_ald20 K dX11_thoseIn_12 e4 ?_
  refine sk_icmp_ge 43 K dX11_thoseIn_13 (by decide) (fun h5 => ?_) (fun h5 => ?_)
  · rw [if_pos h5] at hf
    refine sk_iload_n K dX11_thoseIn_43 rfl 3 rfl ?_
    have hR6 : s1.1 = rr := hret1 _ (hx1 _ (Option.some.inj hf).symm)
    exact sk_iret K dX11_thoseIn_44 rfl rfl hR6 rfl rfl
  · rw [if_neg h5] at hf
    refine sk_iload_n K dX11_thoseIn_16 rfl 3 rfl ?_
    refine sk_iload_n K dX11_thoseIn_17 rfl 1 rfl ?_
    refine sk_iload K dX11_thoseIn_18 4 rfl ?_
    obtain ⟨v7, e8, hf⟩ := sk_ob hf
    refine sk_callS (As := [.int p1, .int s1.2]) (st := [.int s1.1]) K dX11_thoseIn_20 cl_X11_215 (sX11_howIn C l e8) (by decide) rfl rfl (Nat.le_of_ble_eq_true rfl) R1 R2 ?_
    refine sk_iload_n K dX11_thoseIn_23 rfl 2 rfl ?_
    refine sk_icmp_ne 34 K dX11_thoseIn_24 (by decide) (fun h9 => ?_) (fun h9 => ?_)
    · rw [if_neg h9] at hf
      refine sk_iconst (0 : Int32) K dX11_thoseIn_34 (by decide) ?_
      refine sk_ior K dX11_thoseIn_35 ?_
      refine sk_istore_n [(3, .int (s1.1 ||| (0 : Int32))), (0, .ref p0), (1, .int p1), (2, .int p2), (4, .int s1.2)] K dX11_thoseIn_36 rfl (by decide) rfl ?_
      refine sk_iinc (s1.2 + 1) [(4, .int (s1.2 + 1)), (3, .int (s1.1 ||| (0 : Int32))), (0, .ref p0), (1, .int p1), (2, .int p2)] K dX11_thoseIn_37 4 rfl rfl (by decide) rfl ?_
      refine sk_goto 5 K dX11_thoseIn_40 (by decide) ?_
      refine sk_sub [(0, .ref p0), (1, .int p1), (2, .int p2), (3, .int (s1.1 ||| (0 : Int32))), (4, .int (s1.2 + 1))] [2, 3, 4, 1, 0] rfl ?_
      have h9 := ih1 _ (Option.some.inj hf).symm
      exact h9
    · rw [if_pos h9] at hf
      refine sk_iconst (1 : Int32) K dX11_thoseIn_27 (by decide) ?_
      refine sk_iload K dX11_thoseIn_28 4 rfl ?_
      refine sk_ishl K dX11_thoseIn_30 ?_
      refine sk_goto 35 K dX11_thoseIn_31 (by decide) ?_
      refine sk_ior K dX11_thoseIn_35 ?_
      refine sk_istore_n [(3, .int (s1.1 ||| ((1 : Int32) <<< (s1.2 &&& 31)))), (0, .ref p0), (1, .int p1), (2, .int p2), (4, .int s1.2)] K dX11_thoseIn_36 rfl (by decide) rfl ?_
      refine sk_iinc (s1.2 + 1) [(4, .int (s1.2 + 1)), (3, .int (s1.1 ||| ((1 : Int32) <<< (s1.2 &&& 31)))), (0, .ref p0), (1, .int p1), (2, .int p2)] K dX11_thoseIn_37 4 rfl rfl (by decide) rfl ?_
      refine sk_goto 5 K dX11_thoseIn_40 (by decide) ?_
      refine sk_sub [(0, .ref p0), (1, .int p1), (2, .int p2), (3, .int (s1.1 ||| ((1 : Int32) <<< (s1.2 &&& 31)))), (4, .int (s1.2 + 1))] [2, 3, 4, 1, 0] rfl ?_
      have h9 := ih1 _ (Option.some.inj hf).symm
      exact h9
noncomputable def fX11_doneIn (S : sk_S) (d : sk_D) (p0 : Nat) (p1 : Int32) : Option (Int32) :=
  if S.2.1 p0 = (10, 0) then ((fX11_thoseIn S d p0 p1 (1 : Int32)).bind fun v1 => if S.2.1 p0 = (10, 0) then ((fX11_thoseIn S d p0 p1 (2 : Int32)).bind fun v4 => some (v1 ||| v4)) else none) else none
set_option maxRecDepth 100000 in
set_option maxHeartbeats 4000000 in
theorem sX11_doneIn (C : sk_C) (l : Launch) {S : sk_S} {d : sk_D} {p0 : Nat} {p1 : Int32} {rr : Int32} (hf : fX11_doneIn S d p0 p1 = some rr) : sk_Met C l 2 yX11_doneIn cX11_doneIn 2 (some .int) [.ref p0, .int p1] S d (some (.int rr)) S d := by
  refine sk_Met.of (by decide) (Nat.le_of_ble_eq_true rfl) (Nat.le_refl _) (Nat.le_refl _) (fun X K0 hX => ?_)
  have K : sk_Ok X C cX11_doneIn 2 RX11 "doneIn" (some .int) 2 l (some (.int rr)) S d := K0
  have R1 : X.2.2.2.2.2.2.2.2.2.2.2.1 ≤ S.1.1 ∧ X.2.2.2.2.2.2.2.2.2.2.2.2 ≤ S.1.2 := by rw [hX]; exact ⟨Nat.le_refl _, Nat.le_refl _⟩
  have R2 : S.1.1 ≤ S.1.1 ∧ S.1.2 ≤ S.1.2 := ⟨Nat.le_refl _, Nat.le_refl _⟩
  show sk_G X C 2 S d 0 [(0, .ref p0), (1, .int p1)] []
  unfold fX11_doneIn at hf
  refine sk_aload_n K dX11_doneIn_0 rfl 0 rfl ?_
  refine sk_iload_n K dX11_doneIn_1 rfl 1 rfl ?_
  refine sk_iconst (1 : Int32) K dX11_doneIn_2 (by decide) ?_
  obtain ⟨h3, hf⟩ := sk_ib hf
  obtain ⟨v1, e2, hf⟩ := sk_ob hf
  refine sk_callV (As := [.int p1, .int (1 : Int32)]) (st := []) K dX11_doneIn_3 cl_X11_218 h3 (sX11_thoseIn C l e2) (by decide) rfl rfl (Nat.le_of_ble_eq_true rfl) R1 R2 ?_
  refine sk_aload_n K dX11_doneIn_6 rfl 0 rfl ?_
  refine sk_iload_n K dX11_doneIn_7 rfl 1 rfl ?_
  refine sk_iconst (2 : Int32) K dX11_doneIn_8 (by decide) ?_
  obtain ⟨h6, hf⟩ := sk_ib hf
  obtain ⟨v4, e5, hf⟩ := sk_ob hf
  refine sk_callV (As := [.int p1, .int (2 : Int32)]) (st := [.int v1]) K dX11_doneIn_9 cl_X11_218 h6 (sX11_thoseIn C l e5) (by decide) rfl rfl (Nat.le_of_ble_eq_true rfl) R1 R2 ?_
  refine sk_ior K dX11_doneIn_12 ?_
  have hR7 : (v1 ||| v4) = rr := Option.some.inj hf
  exact sk_iret K dX11_doneIn_13 rfl rfl hR7 rfl rfl
noncomputable def fX11_stubsIn (S : sk_S) (d : sk_D) (p0 : Nat) (p1 : Int32) : Option (Int32) :=
  if S.2.1 p0 = (10, 0) then ((fX11_thoseIn S d p0 p1 (1 : Int32)).bind fun v1 => if S.2.1 p0 = (10, 0) then ((fX11_thoseIn S d p0 p1 (3 : Int32)).bind fun v4 => some (v1 ||| v4)) else none) else none
set_option maxRecDepth 100000 in
set_option maxHeartbeats 4000000 in
theorem sX11_stubsIn (C : sk_C) (l : Launch) {S : sk_S} {d : sk_D} {p0 : Nat} {p1 : Int32} {rr : Int32} (hf : fX11_stubsIn S d p0 p1 = some rr) : sk_Met C l 2 yX11_stubsIn cX11_stubsIn 2 (some .int) [.ref p0, .int p1] S d (some (.int rr)) S d := by
  refine sk_Met.of (by decide) (Nat.le_of_ble_eq_true rfl) (Nat.le_refl _) (Nat.le_refl _) (fun X K0 hX => ?_)
  have K : sk_Ok X C cX11_stubsIn 2 RX11 "stubsIn" (some .int) 2 l (some (.int rr)) S d := K0
  have R1 : X.2.2.2.2.2.2.2.2.2.2.2.1 ≤ S.1.1 ∧ X.2.2.2.2.2.2.2.2.2.2.2.2 ≤ S.1.2 := by rw [hX]; exact ⟨Nat.le_refl _, Nat.le_refl _⟩
  have R2 : S.1.1 ≤ S.1.1 ∧ S.1.2 ≤ S.1.2 := ⟨Nat.le_refl _, Nat.le_refl _⟩
  show sk_G X C 2 S d 0 [(0, .ref p0), (1, .int p1)] []
  unfold fX11_stubsIn at hf
  refine sk_aload_n K dX11_stubsIn_0 rfl 0 rfl ?_
  refine sk_iload_n K dX11_stubsIn_1 rfl 1 rfl ?_
  refine sk_iconst (1 : Int32) K dX11_stubsIn_2 (by decide) ?_
  obtain ⟨h3, hf⟩ := sk_ib hf
  obtain ⟨v1, e2, hf⟩ := sk_ob hf
  refine sk_callV (As := [.int p1, .int (1 : Int32)]) (st := []) K dX11_stubsIn_3 cl_X11_218 h3 (sX11_thoseIn C l e2) (by decide) rfl rfl (Nat.le_of_ble_eq_true rfl) R1 R2 ?_
  refine sk_aload_n K dX11_stubsIn_6 rfl 0 rfl ?_
  refine sk_iload_n K dX11_stubsIn_7 rfl 1 rfl ?_
  refine sk_iconst (3 : Int32) K dX11_stubsIn_8 (by decide) ?_
  obtain ⟨h6, hf⟩ := sk_ib hf
  obtain ⟨v4, e5, hf⟩ := sk_ob hf
  refine sk_callV (As := [.int p1, .int (3 : Int32)]) (st := [.int v1]) K dX11_stubsIn_9 cl_X11_218 h6 (sX11_thoseIn C l e5) (by decide) rfl rfl (Nat.le_of_ble_eq_true rfl) R1 R2 ?_
  refine sk_ior K dX11_stubsIn_12 ?_
  have hR7 : (v1 ||| v4) = rr := Option.some.inj hf
  exact sk_iret K dX11_stubsIn_13 rfl rfl hR7 rfl rfl
noncomputable def fX11_sizesOf_L4 (S : sk_S) (d : sk_D) (p0 : Nat) (p1 : Int32) (s1 : Int32 × Int32) : Option ((Int32 × Int32) ⊕ (Int32)) :=
  (sk_gR S p0 10 1).bind fun v1 => (sk_lI S d v1 20 (1 : Int32)).bind fun v3 => if v3 ≤ s1.2 then (some (.inr s1.1)) else ((fX11_isIn S d p1.toInt64 s1.2).bind fun v7 => if v7 = true then ((sk_gR S p0 10 1).bind fun v10 => (sk_lI S d v10 20 ((10 : Int32) + s1.2)).bind fun v12 => some (.inl (s1.1 + v12, s1.2 + 1))) else (some (.inl (s1.1 + (0 : Int32), s1.2 + 1))))
noncomputable def fX11_sizesOf (S : sk_S) (d : sk_D) (p0 : Nat) (p1 : Int32) : Option (Int32) :=
  (sk_itr (fX11_sizesOf_L4 S d p0 p1) ((0 : Int32), (0 : Int32))).bind fun x1 => some x1
set_option maxRecDepth 100000 in
set_option maxHeartbeats 4000000 in
theorem sX11_sizesOf (C : sk_C) (l : Launch) {S : sk_S} {d : sk_D} {p0 : Nat} {p1 : Int32} {rr : Int32} (hf : fX11_sizesOf S d p0 p1 = some rr) : sk_Met C l 1 yX11_sizesOf cX11_sizesOf 4 (some .int) [.ref p0, .int p1] S d (some (.int rr)) S d := by
  refine sk_Met.of (by decide) (Nat.le_of_ble_eq_true rfl) (Nat.le_refl _) (Nat.le_refl _) (fun X K0 hX => ?_)
  have K : sk_Ok X C cX11_sizesOf 4 RX11 "sizesOf" (some .int) 1 l (some (.int rr)) S d := K0
  have R1 : X.2.2.2.2.2.2.2.2.2.2.2.1 ≤ S.1.1 ∧ X.2.2.2.2.2.2.2.2.2.2.2.2 ≤ S.1.2 := by rw [hX]; exact ⟨Nat.le_refl _, Nat.le_refl _⟩
  have R2 : S.1.1 ≤ S.1.1 ∧ S.1.2 ≤ S.1.2 := ⟨Nat.le_refl _, Nat.le_refl _⟩
  show sk_G X C 4 S d 0 [(0, .ref p0), (1, .int p1)] []
  unfold fX11_sizesOf at hf
  refine sk_iconst (0 : Int32) K dX11_sizesOf_0 (by decide) ?_
  refine sk_istore_n [(2, .int (0 : Int32)), (0, .ref p0), (1, .int p1)] K dX11_sizesOf_1 rfl (by decide) rfl ?_
  refine sk_iconst (0 : Int32) K dX11_sizesOf_2 (by decide) ?_
  refine sk_istore_n [(3, .int (0 : Int32)), (2, .int (0 : Int32)), (0, .ref p0), (1, .int p1)] K dX11_sizesOf_3 rfl (by decide) rfl ?_
  obtain ⟨x1, he1, hf⟩ := sk_ob hf
  have hret1 : ∀ r, r = x1 → r = rr := by
    intro r hr
    subst hr
    exact Option.some.inj hf
  refine sk_sub [(0, .ref p0), (1, .int p1), (2, .int (0 : Int32)), (3, .int (0 : Int32))] [2, 3, 1, 0] rfl ?_
  refine sk_loop (fun s1 => sk_G X C 4 S d 4 [(0, .ref p0), (1, .int p1), (2, .int s1.1), (3, .int s1.2)] []) he1 (fun s1 o1 hf ih1 hx1 => ?_)
  unfold fX11_sizesOf_L4 at hf
  refine sk_iload_n K dX11_sizesOf_4 rfl 3 rfl ?_
  refine sk_aload_n K dX11_sizesOf_5 rfl 0 rfl ?_
  obtain ⟨v1, e2, hf⟩ := sk_ob hf
  refine sk_getR K dX11_sizesOf_6 fl_X11_13 rfl e2 ?_
  refine sk_iconst (1 : Int32) K dX11_sizesOf_9 (by decide) ?_
  obtain ⟨v3, e4, hf⟩ := sk_ob hf
  refine sk_ald20 K dX11_sizesOf_10 e4 ?_
  refine sk_icmp_ge 45 K dX11_sizesOf_11 (by decide) (fun h5 => ?_) (fun h5 => ?_)
  · rw [if_pos h5] at hf
    refine sk_iload_n K dX11_sizesOf_45 rfl 2 rfl ?_
    have hR6 : s1.1 = rr := hret1 _ (hx1 _ (Option.some.inj hf).symm)
    exact sk_iret K dX11_sizesOf_46 rfl rfl hR6 rfl rfl
  · rw [if_neg h5] at hf
    refine sk_iload_n K dX11_sizesOf_14 rfl 2 rfl ?_
    refine sk_iload_n K dX11_sizesOf_15 rfl 1 rfl ?_
    refine sk_i2l K dX11_sizesOf_16 ?_
    refine sk_iload_n K dX11_sizesOf_17 rfl 3 rfl ?_
    obtain ⟨v7, e8, hf⟩ := sk_ob hf
    refine sk_callS (As := [.long p1.toInt64, .int s1.2]) (st := [.int s1.1]) K dX11_sizesOf_18 cl_X11_221 (sX11_isIn C l e8) (by decide) rfl rfl (Nat.le_of_ble_eq_true rfl) R1 R2 ?_
    refine sk_ifeqB 36 K dX11_sizesOf_21 (by decide) (fun h9 => ?_) (fun h9 => ?_)
    · rw [if_neg h9] at hf
      refine sk_iconst (0 : Int32) K dX11_sizesOf_36 (by decide) ?_
      refine sk_iadd K dX11_sizesOf_37 ?_
      refine sk_istore_n [(2, .int (s1.1 + (0 : Int32))), (0, .ref p0), (1, .int p1), (3, .int s1.2)] K dX11_sizesOf_38 rfl (by decide) rfl ?_
      refine sk_iinc (s1.2 + 1) [(3, .int (s1.2 + 1)), (2, .int (s1.1 + (0 : Int32))), (0, .ref p0), (1, .int p1)] K dX11_sizesOf_39 3 rfl rfl (by decide) rfl ?_
      refine sk_goto 4 K dX11_sizesOf_42 (by decide) ?_
      refine sk_sub [(0, .ref p0), (1, .int p1), (2, .int (s1.1 + (0 : Int32))), (3, .int (s1.2 + 1))] [2, 3, 1, 0] rfl ?_
      have h9 := ih1 _ (Option.some.inj hf).symm
      exact h9
    · rw [if_pos h9] at hf
      refine sk_aload_n K dX11_sizesOf_24 rfl 0 rfl ?_
      obtain ⟨v10, e11, hf⟩ := sk_ob hf
      refine sk_getR K dX11_sizesOf_25 fl_X11_13 rfl e11 ?_
      refine sk_bipush (10 : Int32) K dX11_sizesOf_28 (by decide) ?_
      refine sk_iload_n K dX11_sizesOf_30 rfl 3 rfl ?_
      refine sk_iadd K dX11_sizesOf_31 ?_
      obtain ⟨v12, e13, hf⟩ := sk_ob hf
      refine sk_ald20 K dX11_sizesOf_32 e13 ?_
      refine sk_goto 37 K dX11_sizesOf_33 (by decide) ?_
      refine sk_iadd K dX11_sizesOf_37 ?_
      refine sk_istore_n [(2, .int (s1.1 + v12)), (0, .ref p0), (1, .int p1), (3, .int s1.2)] K dX11_sizesOf_38 rfl (by decide) rfl ?_
      refine sk_iinc (s1.2 + 1) [(3, .int (s1.2 + 1)), (2, .int (s1.1 + v12)), (0, .ref p0), (1, .int p1)] K dX11_sizesOf_39 3 rfl rfl (by decide) rfl ?_
      refine sk_goto 4 K dX11_sizesOf_42 (by decide) ?_
      refine sk_sub [(0, .ref p0), (1, .int p1), (2, .int (s1.1 + v12)), (3, .int (s1.2 + 1))] [2, 3, 1, 0] rfl ?_
      have h9 := ih1 _ (Option.some.inj hf).symm
      exact h9
noncomputable def fX11_leftIn (S : sk_S) (d : sk_D) (p0 : Nat) (p1 : Int32) : Option (Int32) :=
  (sk_gR S p0 10 1).bind fun v1 => (sk_lI S d v1 20 (3 : Int32)).bind fun v3 => if S.2.1 p0 = (10, 0) then ((fX11_stubsIn S d p0 p1).bind fun v5 => if S.2.1 p0 = (10, 0) then ((fX11_sizesOf S d p0 v5).bind fun v8 => some (v3 - v8)) else none) else none
set_option maxRecDepth 100000 in
set_option maxHeartbeats 4000000 in
theorem sX11_leftIn (C : sk_C) (l : Launch) {S : sk_S} {d : sk_D} {p0 : Nat} {p1 : Int32} {rr : Int32} (hf : fX11_leftIn S d p0 p1 = some rr) : sk_Met C l 3 yX11_leftIn cX11_leftIn 2 (some .int) [.ref p0, .int p1] S d (some (.int rr)) S d := by
  refine sk_Met.of (by decide) (Nat.le_of_ble_eq_true rfl) (Nat.le_refl _) (Nat.le_refl _) (fun X K0 hX => ?_)
  have K : sk_Ok X C cX11_leftIn 2 RX11 "leftIn" (some .int) 3 l (some (.int rr)) S d := K0
  have R1 : X.2.2.2.2.2.2.2.2.2.2.2.1 ≤ S.1.1 ∧ X.2.2.2.2.2.2.2.2.2.2.2.2 ≤ S.1.2 := by rw [hX]; exact ⟨Nat.le_refl _, Nat.le_refl _⟩
  have R2 : S.1.1 ≤ S.1.1 ∧ S.1.2 ≤ S.1.2 := ⟨Nat.le_refl _, Nat.le_refl _⟩
  show sk_G X C 2 S d 0 [(0, .ref p0), (1, .int p1)] []
  unfold fX11_leftIn at hf
  refine sk_aload_n K dX11_leftIn_0 rfl 0 rfl ?_
  obtain ⟨v1, e2, hf⟩ := sk_ob hf
  refine sk_getR K dX11_leftIn_1 fl_X11_13 rfl e2 ?_
  refine sk_iconst (3 : Int32) K dX11_leftIn_4 (by decide) ?_
  obtain ⟨v3, e4, hf⟩ := sk_ob hf
  refine sk_ald20 K dX11_leftIn_5 e4 ?_
  refine sk_aload_n K dX11_leftIn_6 rfl 0 rfl ?_
  refine sk_aload_n K dX11_leftIn_7 rfl 0 rfl ?_
  refine sk_iload_n K dX11_leftIn_8 rfl 1 rfl ?_
  obtain ⟨h7, hf⟩ := sk_ib hf
  obtain ⟨v5, e6, hf⟩ := sk_ob hf
  refine sk_callV (As := [.int p1]) (st := [.ref p0, .int v3]) K dX11_leftIn_9 cl_X11_225 h7 (sX11_stubsIn C l e6) (by decide) rfl rfl (Nat.le_of_ble_eq_true rfl) R1 R2 ?_
  obtain ⟨h10, hf⟩ := sk_ib hf
  obtain ⟨v8, e9, hf⟩ := sk_ob hf
  refine sk_callV (As := [.int v5]) (st := [.int v3]) K dX11_leftIn_12 cl_X11_228 h10 (sX11_sizesOf C l e9) (by decide) rfl rfl (Nat.le_of_ble_eq_true rfl) R1 R2 ?_
  refine sk_isub K dX11_leftIn_15 ?_
  have hR11 : (v3 - v8) = rr := Option.some.inj hf
  exact sk_iret K dX11_leftIn_16 rfl rfl hR11 rfl rfl
noncomputable def fX11_between_J116 (v1 : Int64) : Option (Int32) :=
  if v1 ≤ (1000000 : Int64) then (if (-1000000 : Int64) ≤ v1 then (some v1.toInt32) else (some ((-1000000 : Int64).toInt32))) else (some ((1000000 : Int64).toInt32))
noncomputable def fX11_between (S : sk_S) (d : sk_D) (p0 : Int32) (p1 : Int32) (p2 : Int32) : Option (Int32) :=
  if p0 = (3003 : Int32) then (if p1 = p2 then (some (1 : Int32)) else (some (0 : Int32))) else (if p0 = (3004 : Int32) then (if p2 ≤ p1 then (some (0 : Int32)) else (some (1 : Int32))) else (if p0 = (3005 : Int32) then (if p1 ≤ p2 then (some (0 : Int32)) else (some (1 : Int32))) else (if p0 = (3006 : Int32) then (if p0 = (3000 : Int32) then (fX11_between_J116 (p1.toInt64 + p2.toInt64)) else (if p0 = (3001 : Int32) then (fX11_between_J116 (p1.toInt64 - p2.toInt64)) else (fX11_between_J116 (p1.toInt64 * p2.toInt64)))) else (if p0 = (3007 : Int32) then (some (p1 &&& p2)) else (if p0 = (3008 : Int32) then (some (p1 ||| p2)) else (if p0 = (3000 : Int32) then (fX11_between_J116 (p1.toInt64 + p2.toInt64)) else (if p0 = (3001 : Int32) then (fX11_between_J116 (p1.toInt64 - p2.toInt64)) else (fX11_between_J116 (p1.toInt64 * p2.toInt64)))))))))
set_option maxRecDepth 100000 in
set_option maxHeartbeats 4000000 in
theorem sX11_between (C : sk_C) (l : Launch) {S : sk_S} {d : sk_D} {p0 : Int32} {p1 : Int32} {p2 : Int32} {rr : Int32} (hf : fX11_between S d p0 p1 p2 = some rr) : sk_Met C l 0 yX11_between cX11_between 5 (some .int) [.int p0, .int p1, .int p2] S d (some (.int rr)) S d := by
  refine sk_Met.of (by decide) (Nat.le_of_ble_eq_true rfl) (Nat.le_refl _) (Nat.le_refl _) (fun X K0 hX => ?_)
  have K : sk_Ok X C cX11_between 5 RX11 "between" (some .int) 0 l (some (.int rr)) S d := K0
  have R1 : X.2.2.2.2.2.2.2.2.2.2.2.1 ≤ S.1.1 ∧ X.2.2.2.2.2.2.2.2.2.2.2.2 ≤ S.1.2 := by rw [hX]; exact ⟨Nat.le_refl _, Nat.le_refl _⟩
  have R2 : S.1.1 ≤ S.1.1 ∧ S.1.2 ≤ S.1.2 := ⟨Nat.le_refl _, Nat.le_refl _⟩
  show sk_G X C 5 S d 0 [(0, .int p0), (1, .int p1), (2, .int p2)] []
  unfold fX11_between at hf
  have j116_0 : ∀ (v1 : Int64), fX11_between_J116 v1 = some rr → sk_G X C 5 S d 116 [] [.long v1] := by
    intro v1 hf
    unfold fX11_between_J116 at hf
    refine sk_lstore_n [(3, .long v1)] K dX11_between_116 rfl (by decide) rfl ?_
    refine sk_lload_n K dX11_between_117 rfl 0 rfl ?_
    refine sk_ldc2 K dX11_between_118 qw_1633 ?_
    refine sk_lcmp_le 131 K dX11_between_121 dX11_between_122 (by decide) (fun h2 => ?_) (fun h2 => ?_)
    · rw [if_pos h2] at hf
      refine sk_lload_n K dX11_between_131 rfl 0 rfl ?_
      refine sk_ldc2 K dX11_between_132 qw_1634 ?_
      refine sk_lcmp_ge 145 K dX11_between_135 dX11_between_136 (by decide) (fun h3 => ?_) (fun h3 => ?_)
      · rw [if_pos h3] at hf
        refine sk_lload_n K dX11_between_145 rfl 0 rfl ?_
        refine sk_l2i K dX11_between_146 ?_
        have hR4 : v1.toInt32 = rr := Option.some.inj hf
        exact sk_iret K dX11_between_147 rfl rfl hR4 rfl rfl
      · rw [if_neg h3] at hf
        refine sk_ldc2 K dX11_between_139 qw_1634 ?_
        refine sk_goto 146 K dX11_between_142 (by decide) ?_
        refine sk_l2i K dX11_between_146 ?_
        have hR5 : ((-1000000 : Int64).toInt32) = rr := Option.some.inj hf
        exact sk_iret K dX11_between_147 rfl rfl hR5 rfl rfl
    · rw [if_neg h2] at hf
      refine sk_ldc2 K dX11_between_125 qw_1633 ?_
      refine sk_goto 146 K dX11_between_128 (by decide) ?_
      refine sk_l2i K dX11_between_146 ?_
      have hR6 : ((1000000 : Int64).toInt32) = rr := Option.some.inj hf
      exact sk_iret K dX11_between_147 rfl rfl hR6 rfl rfl
  refine sk_iload_n K dX11_between_0 rfl 0 rfl ?_
  by_cases h7 : p0 = (3003 : Int32)
  · rw [if_pos h7] at hf
    refine sk_tsIn (3003 : Int32) (39) 40 K dX11_between_1 h7 (by decide) (by decide) rfl (by decide) ?_
    refine sk_iload_n K dX11_between_40 rfl 1 rfl ?_
    refine sk_iload_n K dX11_between_41 rfl 2 rfl ?_
    refine sk_icmp_ne 49 K dX11_between_42 (by decide) (fun h8 => ?_) (fun h8 => ?_)
    · rw [if_neg h8] at hf
      refine sk_iconst (0 : Int32) K dX11_between_49 (by decide) ?_
      have hR9 : (0 : Int32) = rr := Option.some.inj hf
      exact sk_iret K dX11_between_50 rfl rfl hR9 rfl rfl
    · rw [if_pos h8] at hf
      refine sk_iconst (1 : Int32) K dX11_between_45 (by decide) ?_
      refine sk_goto 50 K dX11_between_46 (by decide) ?_
      have hR10 : (1 : Int32) = rr := Option.some.inj hf
      exact sk_iret K dX11_between_50 rfl rfl hR10 rfl rfl
  · rw [if_neg h7] at hf
    by_cases h11 : p0 = (3004 : Int32)
    · rw [if_pos h11] at hf
      refine sk_tsIn (3004 : Int32) (50) 51 K dX11_between_1 h11 (by decide) (by decide) rfl (by decide) ?_
      refine sk_iload_n K dX11_between_51 rfl 1 rfl ?_
      refine sk_iload_n K dX11_between_52 rfl 2 rfl ?_
      refine sk_icmp_ge 60 K dX11_between_53 (by decide) (fun h12 => ?_) (fun h12 => ?_)
      · rw [if_pos h12] at hf
        refine sk_iconst (0 : Int32) K dX11_between_60 (by decide) ?_
        have hR13 : (0 : Int32) = rr := Option.some.inj hf
        exact sk_iret K dX11_between_61 rfl rfl hR13 rfl rfl
      · rw [if_neg h12] at hf
        refine sk_iconst (1 : Int32) K dX11_between_56 (by decide) ?_
        refine sk_goto 61 K dX11_between_57 (by decide) ?_
        have hR14 : (1 : Int32) = rr := Option.some.inj hf
        exact sk_iret K dX11_between_61 rfl rfl hR14 rfl rfl
    · rw [if_neg h11] at hf
      by_cases h15 : p0 = (3005 : Int32)
      · rw [if_pos h15] at hf
        refine sk_tsIn (3005 : Int32) (61) 62 K dX11_between_1 h15 (by decide) (by decide) rfl (by decide) ?_
        refine sk_iload_n K dX11_between_62 rfl 1 rfl ?_
        refine sk_iload_n K dX11_between_63 rfl 2 rfl ?_
        refine sk_icmp_le 71 K dX11_between_64 (by decide) (fun h16 => ?_) (fun h16 => ?_)
        · rw [if_pos h16] at hf
          refine sk_iconst (0 : Int32) K dX11_between_71 (by decide) ?_
          have hR17 : (0 : Int32) = rr := Option.some.inj hf
          exact sk_iret K dX11_between_72 rfl rfl hR17 rfl rfl
        · rw [if_neg h16] at hf
          refine sk_iconst (1 : Int32) K dX11_between_67 (by decide) ?_
          refine sk_goto 72 K dX11_between_68 (by decide) ?_
          have hR18 : (1 : Int32) = rr := Option.some.inj hf
          exact sk_iret K dX11_between_72 rfl rfl hR18 rfl rfl
      · rw [if_neg h15] at hf
        by_cases h19 : p0 = (3006 : Int32)
        · rw [if_pos h19] at hf
          refine sk_tsIn (3006 : Int32) (80) 81 K dX11_between_1 h19 (by decide) (by decide) rfl (by decide) ?_
          refine sk_iload_n K dX11_between_81 rfl 0 rfl ?_
          refine sk_sipush (3000 : Int32) K dX11_between_82 (by decide) ?_
          refine sk_icmp_ne 96 K dX11_between_85 (by decide) (fun h20 => ?_) (fun h20 => ?_)
          · rw [if_neg h20] at hf
            refine sk_iload_n K dX11_between_96 rfl 0 rfl ?_
            refine sk_sipush (3001 : Int32) K dX11_between_97 (by decide) ?_
            refine sk_icmp_ne 111 K dX11_between_100 (by decide) (fun h21 => ?_) (fun h21 => ?_)
            · rw [if_neg h21] at hf
              refine sk_iload_n K dX11_between_111 rfl 1 rfl ?_
              refine sk_i2l K dX11_between_112 ?_
              refine sk_iload_n K dX11_between_113 rfl 2 rfl ?_
              refine sk_i2l K dX11_between_114 ?_
              refine sk_lmul K dX11_between_115 ?_
              refine sk_sub [] [] rfl ?_
              have h9 := j116_0 _ hf
              exact h9
            · rw [if_pos h21] at hf
              refine sk_iload_n K dX11_between_103 rfl 1 rfl ?_
              refine sk_i2l K dX11_between_104 ?_
              refine sk_iload_n K dX11_between_105 rfl 2 rfl ?_
              refine sk_i2l K dX11_between_106 ?_
              refine sk_lsub K dX11_between_107 ?_
              refine sk_goto 116 K dX11_between_108 (by decide) ?_
              refine sk_sub [] [] rfl ?_
              have h9 := j116_0 _ hf
              exact h9
          · rw [if_pos h20] at hf
            refine sk_iload_n K dX11_between_88 rfl 1 rfl ?_
            refine sk_i2l K dX11_between_89 ?_
            refine sk_iload_n K dX11_between_90 rfl 2 rfl ?_
            refine sk_i2l K dX11_between_91 ?_
            refine sk_ladd K dX11_between_92 ?_
            refine sk_goto 116 K dX11_between_93 (by decide) ?_
            refine sk_sub [] [] rfl ?_
            have h9 := j116_0 _ hf
            exact h9
        · rw [if_neg h19] at hf
          by_cases h22 : p0 = (3007 : Int32)
          · rw [if_pos h22] at hf
            refine sk_tsIn (3007 : Int32) (72) 73 K dX11_between_1 h22 (by decide) (by decide) rfl (by decide) ?_
            refine sk_iload_n K dX11_between_73 rfl 1 rfl ?_
            refine sk_iload_n K dX11_between_74 rfl 2 rfl ?_
            refine sk_iand K dX11_between_75 ?_
            have hR23 : (p1 &&& p2) = rr := Option.some.inj hf
            exact sk_iret K dX11_between_76 rfl rfl hR23 rfl rfl
          · rw [if_neg h22] at hf
            by_cases h24 : p0 = (3008 : Int32)
            · rw [if_pos h24] at hf
              refine sk_tsIn (3008 : Int32) (76) 77 K dX11_between_1 h24 (by decide) (by decide) rfl (by decide) ?_
              refine sk_iload_n K dX11_between_77 rfl 1 rfl ?_
              refine sk_iload_n K dX11_between_78 rfl 2 rfl ?_
              refine sk_ior K dX11_between_79 ?_
              have hR25 : (p1 ||| p2) = rr := Option.some.inj hf
              exact sk_iret K dX11_between_80 rfl rfl hR25 rfl rfl
            · rw [if_neg h24] at hf
              refine sk_tsOut 81 K dX11_between_1 (sk_tsout (3003) 6 [(3003 : Int32), (3004 : Int32), (3005 : Int32), (3006 : Int32), (3007 : Int32), (3008 : Int32)] (by decide) (by simp [h7, h11, h15, h19, h22, h24])) (by decide) ?_
              refine sk_iload_n K dX11_between_81 rfl 0 rfl ?_
              refine sk_sipush (3000 : Int32) K dX11_between_82 (by decide) ?_
              refine sk_icmp_ne 96 K dX11_between_85 (by decide) (fun h26 => ?_) (fun h26 => ?_)
              · rw [if_neg h26] at hf
                refine sk_iload_n K dX11_between_96 rfl 0 rfl ?_
                refine sk_sipush (3001 : Int32) K dX11_between_97 (by decide) ?_
                refine sk_icmp_ne 111 K dX11_between_100 (by decide) (fun h27 => ?_) (fun h27 => ?_)
                · rw [if_neg h27] at hf
                  refine sk_iload_n K dX11_between_111 rfl 1 rfl ?_
                  refine sk_i2l K dX11_between_112 ?_
                  refine sk_iload_n K dX11_between_113 rfl 2 rfl ?_
                  refine sk_i2l K dX11_between_114 ?_
                  refine sk_lmul K dX11_between_115 ?_
                  refine sk_sub [] [] rfl ?_
                  have h9 := j116_0 _ hf
                  exact h9
                · rw [if_pos h27] at hf
                  refine sk_iload_n K dX11_between_103 rfl 1 rfl ?_
                  refine sk_i2l K dX11_between_104 ?_
                  refine sk_iload_n K dX11_between_105 rfl 2 rfl ?_
                  refine sk_i2l K dX11_between_106 ?_
                  refine sk_lsub K dX11_between_107 ?_
                  refine sk_goto 116 K dX11_between_108 (by decide) ?_
                  refine sk_sub [] [] rfl ?_
                  have h9 := j116_0 _ hf
                  exact h9
              · rw [if_pos h26] at hf
                refine sk_iload_n K dX11_between_88 rfl 1 rfl ?_
                refine sk_i2l K dX11_between_89 ?_
                refine sk_iload_n K dX11_between_90 rfl 2 rfl ?_
                refine sk_i2l K dX11_between_91 ?_
                refine sk_ladd K dX11_between_92 ?_
                refine sk_goto 116 K dX11_between_93 (by decide) ?_
                refine sk_sub [] [] rfl ?_
                have h9 := j116_0 _ hf
                exact h9
noncomputable def fX11_reckons_L76 (S : sk_S) (p0 : Nat) (p1 : Int32) (s1 : Int32 × Int32 × sk_D) : Option ((Int32 × Int32 × sk_D) ⊕ (sk_D)) :=
  (sk_gR S p0 10 1).bind fun v48 => (sk_lI S s1.2.2 v48 20 ((8 : Int32) + p1)).bind fun v50 => if v50 ≤ s1.2.1 then (some (.inr s1.2.2)) else ((sk_gR S p0 10 1).bind fun v53 => (sk_gR S p0 10 1).bind fun v55 => (sk_lI S s1.2.2 v55 20 ((6 : Int32) + p1)).bind fun v57 => (sk_lI S s1.2.2 v53 20 (((175 : Int32) + v57) + s1.2.1)).bind fun v59 => if (3000 : Int32) ≤ v59 then (if v59 = (3006 : Int32) then ((sk_gR S p0 10 16).bind fun v77 => (sk_gR S p0 10 16).bind fun v79 => (sk_lI S s1.2.2 v79 20 (s1.1 - (1 : Int32))).bind fun v81 => (sk_sI S s1.2.2 v77 20 (s1.1 - (1 : Int32)) ((1 : Int32) - v81)).bind fun d83 => some (.inl (s1.1, s1.2.1 + 1, d83))) else ((sk_gR S p0 10 16).bind fun v63 => (sk_gR S p0 10 16).bind fun v65 => (sk_lI S s1.2.2 v65 20 ((s1.1 - 1) - (1 : Int32))).bind fun v67 => (sk_gR S p0 10 16).bind fun v69 => (sk_lI S s1.2.2 v69 20 (s1.1 - 1)).bind fun v71 => (fX11_between S s1.2.2 v59 v67 v71).bind fun v73 => (sk_sI S s1.2.2 v63 20 ((s1.1 - 1) - (1 : Int32)) v73).bind fun d75 => some (.inl (s1.1 - 1, s1.2.1 + 1, d75)))) else ((sk_gR S p0 10 16).bind fun v85 => if (1000 : Int32) ≤ v59 then ((sk_gR S p0 10 17).bind fun v88 => (sk_lI S s1.2.2 v88 20 (v59 - (1000 : Int32))).bind fun v90 => (sk_sI S s1.2.2 v85 20 s1.1 v90).bind fun d92 => some (.inl (s1.1 + 1, s1.2.1 + 1, d92))) else ((sk_sI S s1.2.2 v85 20 s1.1 v59).bind fun d94 => some (.inl (s1.1 + 1, s1.2.1 + 1, d94)))))
noncomputable def fX11_reckons (S : sk_S) (d : sk_D) (p0 : Nat) (p1 : Int32) (p2 : Int32) (p3 : Int32) (p4 : Int32) : Option (Bool × sk_D) :=
  (sk_gR S p0 10 17).bind fun v1 => (sk_sI S d v1 20 (0 : Int32) p3).bind fun d3 => (sk_gR S p0 10 17).bind fun v5 => (sk_gR S p0 10 1).bind fun v7 => (sk_lI S d3 v7 20 ((10 : Int32) + p3)).bind fun v9 => (sk_sI S d3 v5 20 (1 : Int32) v9).bind fun d11 => (sk_gR S p0 10 17).bind fun v13 => (sk_gR S p0 10 1).bind fun v15 => (sk_lI S d11 v15 20 ((18 : Int32) + p3)).bind fun v17 => (sk_sI S d11 v13 20 (2 : Int32) v17).bind fun d19 => (sk_gR S p0 10 17).bind fun v21 => if S.2.1 p0 = (10, 0) then ((fX11_stubsIn S d19 p0 p2).bind fun v23 => (fX11_bitsOf S d19 v23).bind fun v26 => (sk_sI S d19 v21 20 (3 : Int32) v26).bind fun d28 => (sk_gR S p0 10 17).bind fun v30 => if S.2.1 p0 = (10, 0) then ((fX11_leftIn S d28 p0 p2).bind fun v32 => (sk_sI S d28 v30 20 (4 : Int32) v32).bind fun d35 => (sk_gR S p0 10 17).bind fun v37 => (sk_sI S d35 v37 20 (5 : Int32) p4).bind fun d39 => (sk_itr (fX11_reckons_L76 S p0 p1) ((0 : Int32), (0 : Int32), d39)).bind fun y1 => (sk_gR S p0 10 16).bind fun v41 => (sk_lI S y1 v41 20 (0 : Int32)).bind fun v43 => if v43 = (1 : Int32) then (some (true, y1)) else (some (false, y1))) else none) else none
set_option maxRecDepth 100000 in
set_option maxHeartbeats 4000000 in
theorem sX11_reckons (C : sk_C) (l : Launch) {S : sk_S} {d : sk_D} {p0 : Nat} {p1 : Int32} {p2 : Int32} {p3 : Int32} {p4 : Int32} {rr : Bool} {dd : sk_D} (hf : fX11_reckons S d p0 p1 p2 p3 p4 = some (rr, dd)) : sk_Met C l 4 yX11_reckons cX11_reckons 8 (some .boolean) [.ref p0, .int p1, .int p2, .int p3, .int p4] S d (some (.int (sk_b rr))) S dd := by
  refine sk_Met.of (by decide) (Nat.le_of_ble_eq_true rfl) (Nat.le_refl _) (Nat.le_refl _) (fun X K0 hX => ?_)
  have K : sk_Ok X C cX11_reckons 8 RX11 "reckons" (some .boolean) 4 l (some (.int (sk_b rr))) S dd := K0
  have R1 : X.2.2.2.2.2.2.2.2.2.2.2.1 ≤ S.1.1 ∧ X.2.2.2.2.2.2.2.2.2.2.2.2 ≤ S.1.2 := by rw [hX]; exact ⟨Nat.le_refl _, Nat.le_refl _⟩
  have R2 : S.1.1 ≤ S.1.1 ∧ S.1.2 ≤ S.1.2 := ⟨Nat.le_refl _, Nat.le_refl _⟩
  show sk_G X C 8 S d 0 [(0, .ref p0), (1, .int p1), (2, .int p2), (3, .int p3), (4, .int p4)] []
  unfold fX11_reckons at hf
  refine sk_aload_n K dX11_reckons_0 rfl 0 rfl ?_
  obtain ⟨v1, e2, hf⟩ := sk_ob hf
  refine sk_getR K dX11_reckons_1 fl_X11_33 rfl e2 ?_
  refine sk_iconst (0 : Int32) K dX11_reckons_4 (by decide) ?_
  refine sk_iload_n K dX11_reckons_5 rfl 3 rfl ?_
  obtain ⟨d3, e4, hf⟩ := sk_ob hf
  refine sk_ast20 d3 K dX11_reckons_6 e4 ?_
  refine sk_aload_n K dX11_reckons_7 rfl 0 rfl ?_
  obtain ⟨v5, e6, hf⟩ := sk_ob hf
  refine sk_getR K dX11_reckons_8 fl_X11_33 rfl e6 ?_
  refine sk_iconst (1 : Int32) K dX11_reckons_11 (by decide) ?_
  refine sk_aload_n K dX11_reckons_12 rfl 0 rfl ?_
  obtain ⟨v7, e8, hf⟩ := sk_ob hf
  refine sk_getR K dX11_reckons_13 fl_X11_13 rfl e8 ?_
  refine sk_bipush (10 : Int32) K dX11_reckons_16 (by decide) ?_
  refine sk_iload_n K dX11_reckons_18 rfl 3 rfl ?_
  refine sk_iadd K dX11_reckons_19 ?_
  obtain ⟨v9, e10, hf⟩ := sk_ob hf
  refine sk_ald20 K dX11_reckons_20 e10 ?_
  obtain ⟨d11, e12, hf⟩ := sk_ob hf
  refine sk_ast20 d11 K dX11_reckons_21 e12 ?_
  refine sk_aload_n K dX11_reckons_22 rfl 0 rfl ?_
  obtain ⟨v13, e14, hf⟩ := sk_ob hf
  refine sk_getR K dX11_reckons_23 fl_X11_33 rfl e14 ?_
  refine sk_iconst (2 : Int32) K dX11_reckons_26 (by decide) ?_
  refine sk_aload_n K dX11_reckons_27 rfl 0 rfl ?_
  obtain ⟨v15, e16, hf⟩ := sk_ob hf
  refine sk_getR K dX11_reckons_28 fl_X11_13 rfl e16 ?_
  refine sk_bipush (18 : Int32) K dX11_reckons_31 (by decide) ?_
  refine sk_iload_n K dX11_reckons_33 rfl 3 rfl ?_
  refine sk_iadd K dX11_reckons_34 ?_
  obtain ⟨v17, e18, hf⟩ := sk_ob hf
  refine sk_ald20 K dX11_reckons_35 e18 ?_
  obtain ⟨d19, e20, hf⟩ := sk_ob hf
  refine sk_ast20 d19 K dX11_reckons_36 e20 ?_
  refine sk_aload_n K dX11_reckons_37 rfl 0 rfl ?_
  obtain ⟨v21, e22, hf⟩ := sk_ob hf
  refine sk_getR K dX11_reckons_38 fl_X11_33 rfl e22 ?_
  refine sk_iconst (3 : Int32) K dX11_reckons_41 (by decide) ?_
  refine sk_aload_n K dX11_reckons_42 rfl 0 rfl ?_
  refine sk_iload_n K dX11_reckons_43 rfl 2 rfl ?_
  obtain ⟨h25, hf⟩ := sk_ib hf
  obtain ⟨v23, e24, hf⟩ := sk_ob hf
  refine sk_callV (As := [.int p2]) (st := [.int (3 : Int32), .ref v21]) K dX11_reckons_44 cl_X11_225 h25 (sX11_stubsIn C l e24) (by decide) rfl rfl (Nat.le_of_ble_eq_true rfl) R1 R2 ?_
  obtain ⟨v26, e27, hf⟩ := sk_ob hf
  refine sk_callS (As := [.int v23]) (st := [.int (3 : Int32), .ref v21]) K dX11_reckons_47 cl_X11_235 (sX11_bitsOf C l e27) (by decide) rfl rfl (Nat.le_of_ble_eq_true rfl) R1 R2 ?_
  obtain ⟨d28, e29, hf⟩ := sk_ob hf
  refine sk_ast20 d28 K dX11_reckons_50 e29 ?_
  refine sk_aload_n K dX11_reckons_51 rfl 0 rfl ?_
  obtain ⟨v30, e31, hf⟩ := sk_ob hf
  refine sk_getR K dX11_reckons_52 fl_X11_33 rfl e31 ?_
  refine sk_iconst (4 : Int32) K dX11_reckons_55 (by decide) ?_
  refine sk_aload_n K dX11_reckons_56 rfl 0 rfl ?_
  refine sk_iload_n K dX11_reckons_57 rfl 2 rfl ?_
  obtain ⟨h34, hf⟩ := sk_ib hf
  obtain ⟨v32, e33, hf⟩ := sk_ob hf
  refine sk_callV (As := [.int p2]) (st := [.int (4 : Int32), .ref v30]) K dX11_reckons_58 cl_X11_238 h34 (sX11_leftIn C l e33) (by decide) rfl rfl (Nat.le_of_ble_eq_true rfl) R1 R2 ?_
  obtain ⟨d35, e36, hf⟩ := sk_ob hf
  refine sk_ast20 d35 K dX11_reckons_61 e36 ?_
  refine sk_aload_n K dX11_reckons_62 rfl 0 rfl ?_
  obtain ⟨v37, e38, hf⟩ := sk_ob hf
  refine sk_getR K dX11_reckons_63 fl_X11_33 rfl e38 ?_
  refine sk_iconst (5 : Int32) K dX11_reckons_66 (by decide) ?_
  refine sk_iload K dX11_reckons_67 4 rfl ?_
  obtain ⟨d39, e40, hf⟩ := sk_ob hf
  refine sk_ast20 d39 K dX11_reckons_69 e40 ?_
  refine sk_iconst (0 : Int32) K dX11_reckons_70 (by decide) ?_
  refine sk_istore [(5, .int (0 : Int32)), (0, .ref p0), (1, .int p1), (2, .int p2), (3, .int p3), (4, .int p4)] K dX11_reckons_71 (by decide) rfl ?_
  refine sk_iconst (0 : Int32) K dX11_reckons_73 (by decide) ?_
  refine sk_istore [(6, .int (0 : Int32)), (5, .int (0 : Int32)), (0, .ref p0), (1, .int p1), (2, .int p2), (3, .int p3), (4, .int p4)] K dX11_reckons_74 (by decide) rfl ?_
  obtain ⟨x1, he1, hf⟩ := sk_ob hf
  have rest1 : ∀ y1, y1 = x1 → sk_G X C 8 S y1 228 [(0, .ref p0)] [] := by
    intro y1 hy
    subst hy
    refine sk_aload_n K dX11_reckons_228 rfl 0 rfl ?_
    obtain ⟨v41, e42, hf⟩ := sk_ob hf
    refine sk_getR K dX11_reckons_229 fl_X11_30 rfl e42 ?_
    refine sk_iconst (0 : Int32) K dX11_reckons_232 (by decide) ?_
    obtain ⟨v43, e44, hf⟩ := sk_ob hf
    refine sk_ald20 K dX11_reckons_233 e44 ?_
    refine sk_iconst (1 : Int32) K dX11_reckons_234 (by decide) ?_
    refine sk_icmp_ne 242 K dX11_reckons_235 (by decide) (fun h45 => ?_) (fun h45 => ?_)
    · rw [if_neg h45] at hf
      refine sk_iconst (0 : Int32) K dX11_reckons_242 (by decide) ?_
      have hR46 : (false, y1) = (rr, dd) := Option.some.inj hf
      exact sk_zret (x := false) K dX11_reckons_243 rfl rfl (congrArg (fun z => z.1) hR46) rfl (congrArg (fun z => z.2) hR46)
    · rw [if_pos h45] at hf
      refine sk_iconst (1 : Int32) K dX11_reckons_238 (by decide) ?_
      refine sk_goto 243 K dX11_reckons_239 (by decide) ?_
      have hR47 : (true, y1) = (rr, dd) := Option.some.inj hf
      exact sk_zret (x := true) K dX11_reckons_243 rfl rfl (congrArg (fun z => z.1) hR47) rfl (congrArg (fun z => z.2) hR47)
  refine sk_sub [(0, .ref p0), (1, .int p1), (5, .int (0 : Int32)), (6, .int (0 : Int32))] [2, 3, 1, 0] rfl ?_
  refine sk_loop (fun s1 => sk_G X C 8 S s1.2.2 76 [(0, .ref p0), (1, .int p1), (5, .int s1.1), (6, .int s1.2.1)] []) he1 (fun s1 o1 hf ih1 hx1 => ?_)
  unfold fX11_reckons_L76 at hf
  refine sk_iload K dX11_reckons_76 3 rfl ?_
  refine sk_aload_n K dX11_reckons_78 rfl 0 rfl ?_
  obtain ⟨v48, e49, hf⟩ := sk_ob hf
  refine sk_getR K dX11_reckons_79 fl_X11_13 rfl e49 ?_
  refine sk_bipush (8 : Int32) K dX11_reckons_82 (by decide) ?_
  refine sk_iload_n K dX11_reckons_84 rfl 1 rfl ?_
  refine sk_iadd K dX11_reckons_85 ?_
  obtain ⟨v50, e51, hf⟩ := sk_ob hf
  refine sk_ald20 K dX11_reckons_86 e51 ?_
  refine sk_icmp_ge 228 K dX11_reckons_87 (by decide) (fun h52 => ?_) (fun h52 => ?_)
  · rw [if_pos h52] at hf
    refine sk_sub [(0, .ref p0)] [0] rfl ?_
    have h9 := rest1 _ (hx1 _ (Option.some.inj hf).symm)
    exact h9
  · rw [if_neg h52] at hf
    refine sk_aload_n K dX11_reckons_90 rfl 0 rfl ?_
    obtain ⟨v53, e54, hf⟩ := sk_ob hf
    refine sk_getR K dX11_reckons_91 fl_X11_13 rfl e54 ?_
    refine sk_sipush (175 : Int32) K dX11_reckons_94 (by decide) ?_
    refine sk_aload_n K dX11_reckons_97 rfl 0 rfl ?_
    obtain ⟨v55, e56, hf⟩ := sk_ob hf
    refine sk_getR K dX11_reckons_98 fl_X11_13 rfl e56 ?_
    refine sk_bipush (6 : Int32) K dX11_reckons_101 (by decide) ?_
    refine sk_iload_n K dX11_reckons_103 rfl 1 rfl ?_
    refine sk_iadd K dX11_reckons_104 ?_
    obtain ⟨v57, e58, hf⟩ := sk_ob hf
    refine sk_ald20 K dX11_reckons_105 e58 ?_
    refine sk_iadd K dX11_reckons_106 ?_
    refine sk_iload K dX11_reckons_107 3 rfl ?_
    refine sk_iadd K dX11_reckons_109 ?_
    obtain ⟨v59, e60, hf⟩ := sk_ob hf
    refine sk_ald20 K dX11_reckons_110 e60 ?_
    refine sk_istore [(7, .int v59), (0, .ref p0), (1, .int p1), (5, .int s1.1), (6, .int s1.2.1)] K dX11_reckons_111 (by decide) rfl ?_
    refine sk_iload K dX11_reckons_113 0 rfl ?_
    refine sk_sipush (3000 : Int32) K dX11_reckons_115 (by decide) ?_
    refine sk_icmp_ge 158 K dX11_reckons_118 (by decide) (fun h61 => ?_) (fun h61 => ?_)
    · rw [if_pos h61] at hf
      refine sk_iload K dX11_reckons_158 0 rfl ?_
      refine sk_sipush (3006 : Int32) K dX11_reckons_160 (by decide) ?_
      refine sk_icmp_ne 189 K dX11_reckons_163 (by decide) (fun h62 => ?_) (fun h62 => ?_)
      · rw [if_neg h62] at hf
        refine sk_iinc (s1.1 - 1) [(5, .int (s1.1 - 1)), (7, .int v59), (0, .ref p0), (1, .int p1), (6, .int s1.2.1)] K dX11_reckons_189 3 rfl (sk_dec1 _) (by decide) rfl ?_
        refine sk_aload_n K dX11_reckons_192 rfl 2 rfl ?_
        obtain ⟨v63, e64, hf⟩ := sk_ob hf
        refine sk_getR K dX11_reckons_193 fl_X11_30 rfl e64 ?_
        refine sk_iload K dX11_reckons_196 0 rfl ?_
        refine sk_iconst (1 : Int32) K dX11_reckons_198 (by decide) ?_
        refine sk_isub K dX11_reckons_199 ?_
        refine sk_iload K dX11_reckons_200 1 rfl ?_
        refine sk_aload_n K dX11_reckons_202 rfl 2 rfl ?_
        obtain ⟨v65, e66, hf⟩ := sk_ob hf
        refine sk_getR K dX11_reckons_203 fl_X11_30 rfl e66 ?_
        refine sk_iload K dX11_reckons_206 0 rfl ?_
        refine sk_iconst (1 : Int32) K dX11_reckons_208 (by decide) ?_
        refine sk_isub K dX11_reckons_209 ?_
        obtain ⟨v67, e68, hf⟩ := sk_ob hf
        refine sk_ald20 K dX11_reckons_210 e68 ?_
        refine sk_aload_n K dX11_reckons_211 rfl 2 rfl ?_
        obtain ⟨v69, e70, hf⟩ := sk_ob hf
        refine sk_getR K dX11_reckons_212 fl_X11_30 rfl e70 ?_
        refine sk_iload K dX11_reckons_215 0 rfl ?_
        obtain ⟨v71, e72, hf⟩ := sk_ob hf
        refine sk_ald20 K dX11_reckons_217 e72 ?_
        obtain ⟨v73, e74, hf⟩ := sk_ob hf
        refine sk_callS (As := [.int v59, .int v67, .int v71]) (st := [.int ((s1.1 - 1) - (1 : Int32)), .ref v63]) K dX11_reckons_218 cl_X11_241 (sX11_between C l e74) (by decide) rfl rfl (Nat.le_of_ble_eq_true rfl) R1 R2 ?_
        obtain ⟨d75, e76, hf⟩ := sk_ob hf
        refine sk_ast20 d75 K dX11_reckons_221 e76 ?_
        refine sk_iinc (s1.2.1 + 1) [(6, .int (s1.2.1 + 1)), (5, .int (s1.1 - 1)), (7, .int v59), (0, .ref p0), (1, .int p1)] K dX11_reckons_222 4 rfl rfl (by decide) rfl ?_
        refine sk_goto 76 K dX11_reckons_225 (by decide) ?_
        refine sk_sub [(0, .ref p0), (1, .int p1), (5, .int (s1.1 - 1)), (6, .int (s1.2.1 + 1))] [3, 4, 1, 0] rfl ?_
        have h9 := ih1 _ (Option.some.inj hf).symm
        exact h9
      · rw [if_pos h62] at hf
        refine sk_aload_n K dX11_reckons_166 rfl 1 rfl ?_
        obtain ⟨v77, e78, hf⟩ := sk_ob hf
        refine sk_getR K dX11_reckons_167 fl_X11_30 rfl e78 ?_
        refine sk_iload K dX11_reckons_170 3 rfl ?_
        refine sk_iconst (1 : Int32) K dX11_reckons_172 (by decide) ?_
        refine sk_isub K dX11_reckons_173 ?_
        refine sk_iconst (1 : Int32) K dX11_reckons_174 (by decide) ?_
        refine sk_aload_n K dX11_reckons_175 rfl 1 rfl ?_
        obtain ⟨v79, e80, hf⟩ := sk_ob hf
        refine sk_getR K dX11_reckons_176 fl_X11_30 rfl e80 ?_
        refine sk_iload K dX11_reckons_179 3 rfl ?_
        refine sk_iconst (1 : Int32) K dX11_reckons_181 (by decide) ?_
        refine sk_isub K dX11_reckons_182 ?_
        obtain ⟨v81, e82, hf⟩ := sk_ob hf
        refine sk_ald20 K dX11_reckons_183 e82 ?_
        refine sk_isub K dX11_reckons_184 ?_
        obtain ⟨d83, e84, hf⟩ := sk_ob hf
        refine sk_ast20 d83 K dX11_reckons_185 e84 ?_
        refine sk_goto 222 K dX11_reckons_186 (by decide) ?_
        refine sk_iinc (s1.2.1 + 1) [(6, .int (s1.2.1 + 1)), (7, .int v59), (0, .ref p0), (1, .int p1), (5, .int s1.1)] K dX11_reckons_222 4 rfl rfl (by decide) rfl ?_
        refine sk_goto 76 K dX11_reckons_225 (by decide) ?_
        refine sk_sub [(0, .ref p0), (1, .int p1), (5, .int s1.1), (6, .int (s1.2.1 + 1))] [2, 3, 4, 0] rfl ?_
        have h9 := ih1 _ (Option.some.inj hf).symm
        exact h9
    · rw [if_neg h61] at hf
      refine sk_aload_n K dX11_reckons_121 rfl 1 rfl ?_
      obtain ⟨v85, e86, hf⟩ := sk_ob hf
      refine sk_getR K dX11_reckons_122 fl_X11_30 rfl e86 ?_
      refine sk_iload K dX11_reckons_125 3 rfl ?_
      refine sk_iload K dX11_reckons_127 0 rfl ?_
      refine sk_sipush (1000 : Int32) K dX11_reckons_129 (by decide) ?_
      refine sk_icmp_ge 140 K dX11_reckons_132 (by decide) (fun h87 => ?_) (fun h87 => ?_)
      · rw [if_pos h87] at hf
        refine sk_aload_n K dX11_reckons_140 rfl 1 rfl ?_
        obtain ⟨v88, e89, hf⟩ := sk_ob hf
        refine sk_getR K dX11_reckons_141 fl_X11_33 rfl e89 ?_
        refine sk_iload K dX11_reckons_144 0 rfl ?_
        refine sk_sipush (1000 : Int32) K dX11_reckons_146 (by decide) ?_
        refine sk_isub K dX11_reckons_149 ?_
        obtain ⟨v90, e91, hf⟩ := sk_ob hf
        refine sk_ald20 K dX11_reckons_150 e91 ?_
        obtain ⟨d92, e93, hf⟩ := sk_ob hf
        refine sk_ast20 d92 K dX11_reckons_151 e93 ?_
        refine sk_iinc (s1.1 + 1) [(5, .int (s1.1 + 1)), (7, .int v59), (0, .ref p0), (1, .int p1), (6, .int s1.2.1)] K dX11_reckons_152 3 rfl rfl (by decide) rfl ?_
        refine sk_goto 222 K dX11_reckons_155 (by decide) ?_
        refine sk_iinc (s1.2.1 + 1) [(6, .int (s1.2.1 + 1)), (5, .int (s1.1 + 1)), (7, .int v59), (0, .ref p0), (1, .int p1)] K dX11_reckons_222 4 rfl rfl (by decide) rfl ?_
        refine sk_goto 76 K dX11_reckons_225 (by decide) ?_
        refine sk_sub [(0, .ref p0), (1, .int p1), (5, .int (s1.1 + 1)), (6, .int (s1.2.1 + 1))] [3, 4, 1, 0] rfl ?_
        have h9 := ih1 _ (Option.some.inj hf).symm
        exact h9
      · rw [if_neg h87] at hf
        refine sk_iload K dX11_reckons_135 0 rfl ?_
        refine sk_goto 151 K dX11_reckons_137 (by decide) ?_
        obtain ⟨d94, e95, hf⟩ := sk_ob hf
        refine sk_ast20 d94 K dX11_reckons_151 e95 ?_
        refine sk_iinc (s1.1 + 1) [(5, .int (s1.1 + 1)), (7, .int v59), (0, .ref p0), (1, .int p1), (6, .int s1.2.1)] K dX11_reckons_152 3 rfl rfl (by decide) rfl ?_
        refine sk_goto 222 K dX11_reckons_155 (by decide) ?_
        refine sk_iinc (s1.2.1 + 1) [(6, .int (s1.2.1 + 1)), (5, .int (s1.1 + 1)), (7, .int v59), (0, .ref p0), (1, .int p1)] K dX11_reckons_222 4 rfl rfl (by decide) rfl ?_
        refine sk_goto 76 K dX11_reckons_225 (by decide) ?_
        refine sk_sub [(0, .ref p0), (1, .int p1), (5, .int (s1.1 + 1)), (6, .int (s1.2.1 + 1))] [3, 4, 1, 0] rfl ?_
        have h9 := ih1 _ (Option.some.inj hf).symm
        exact h9
