noncomputable def fX11_init (S : sk_S) (d : sk_D) (p0 : Nat) : Option (sk_S × sk_D) :=
  (sk_mk S d 20 (3225 : Int32)).bind fun b5 => (sk_pR b5.2.1 p0 10 1 b5.1).bind fun S6 => (sk_mk S6 b5.2.2 23 (2 : Int32)).bind fun b12 => (sk_pR b12.2.1 p0 10 2 b12.1).bind fun S13 => (sk_mk S13 b12.2.2 20 (900 : Int32)).bind fun b19 => (sk_pR b19.2.1 p0 10 3 b19.1).bind fun S20 => (sk_mk S20 b19.2.2 20 (1075 : Int32)).bind fun b26 => (sk_pR b26.2.1 p0 10 4 b26.1).bind fun S27 => (sk_pI S27 b26.2.2 p0 10 14 (-1 : Int32)).bind fun d29 => (sk_mk S27 d29 20 (900 : Int32)).bind fun b35 => (sk_pR b35.2.1 p0 10 16 b35.1).bind fun S36 => (sk_mk S36 b35.2.2 20 (6 : Int32)).bind fun b42 => (sk_pR b42.2.1 p0 10 17 b42.1).bind fun S43 => (sk_mk S43 b42.2.2 20 (9 : Int32)).bind fun b49 => (sk_pR b49.2.1 p0 10 18 b49.1).bind fun S50 => (sk_mk S50 b49.2.2 20 (65536 : Int32)).bind fun b56 => (sk_pR b56.2.1 p0 10 21 b56.1).bind fun S57 => (sk_mk S57 b56.2.2 20 (1048576 : Int32)).bind fun b63 => (sk_pR b63.2.1 p0 10 22 b63.1).bind fun S64 => (sk_mk S64 b63.2.2 20 (65536 : Int32)).bind fun b70 => (sk_pR b70.2.1 p0 10 23 b70.1).bind fun S71 => (sk_mk S71 b70.2.2 23 (65536 : Int32)).bind fun b77 => (sk_pR b77.2.1 p0 10 24 b77.1).bind fun S78 => (sk_mk S78 b77.2.2 21 (65536 : Int32)).bind fun b84 => (sk_pR b84.2.1 p0 10 26 b84.1).bind fun S85 => (sk_mk S85 b84.2.2 21 (65536 : Int32)).bind fun b91 => (sk_pR b91.2.1 p0 10 27 b91.1).bind fun S92 => (sk_mk S92 b91.2.2 20 (8 : Int32)).bind fun b98 => (sk_pR b98.2.1 p0 10 28 b98.1).bind fun S99 => (sk_mk S99 b98.2.2 20 (256 : Int32)).bind fun b105 => (sk_pR b105.2.1 p0 10 29 b105.1).bind fun S106 => (sk_mk S106 b105.2.2 20 (8 : Int32)).bind fun b112 => (sk_pR b112.2.1 p0 10 30 b112.1).bind fun S113 => (sk_mk S113 b112.2.2 20 (8 : Int32)).bind fun b119 => (sk_pR b119.2.1 p0 10 31 b119.1).bind fun S120 => (sk_mk S120 b119.2.2 20 (8 : Int32)).bind fun b126 => (sk_pR b126.2.1 p0 10 33 b126.1).bind fun S127 => (sk_mk S127 b126.2.2 20 (4 : Int32)).bind fun b133 => (sk_sI b133.2.1 b133.2.2 b133.1 20 (0 : Int32) (-1 : Int32)).bind fun d134 => (sk_sI b133.2.1 d134 b133.1 20 (1 : Int32) (-1 : Int32)).bind fun d136 => (sk_sI b133.2.1 d136 b133.1 20 (2 : Int32) (-1 : Int32)).bind fun d138 => (sk_sI b133.2.1 d138 b133.1 20 (3 : Int32) (-1 : Int32)).bind fun d140 => (sk_pR b133.2.1 p0 10 34 b133.1).bind fun S142 => (sk_mk S142 d140 20 (4 : Int32)).bind fun b148 => (sk_pR b148.2.1 p0 10 35 b148.1).bind fun S149 => (sk_mk S149 b148.2.2 21 (160 : Int32)).bind fun b155 => (sk_pR b155.2.1 p0 10 36 b155.1).bind fun S156 => (sk_gR S156 p0 10 1).bind fun v158 => (fX11_plain S156 b155.2.2 v158).bind fun d162 => some (S156, d162)
theorem monoX11_init (S : sk_S) (d : sk_D) (p0 : Nat) : sk_Mo S.1 (fun z => z.1.1) (fX11_init S d p0) := by
  unfold fX11_init
  repeat' (first | exact mo_none | exact mo_some ⟨Nat.le_refl _, Nat.le_refl _⟩ | refine mo_pR (fun _ => ?_) | refine mo_mk (fun _ => ?_) | refine mo_sR24 (fun _ => ?_) | refine mo_sR25 (fun _ => ?_) | refine mo_ite ?_ ?_ | refine mo_bind (fun _ => ?_) | split)
set_option maxRecDepth 100000 in
set_option maxHeartbeats 4000000 in
theorem sX11_init (C : sk_C) (l : Launch) {S : sk_S} {d : sk_D} {p0 : Nat} {SS : sk_S} {dd : sk_D} (hf : fX11_init S d p0 = some (SS, dd)) : sk_Met C l 1 yX11_init cX11_init 1 none [.ref p0] S d none SS dd := by
  have hmono := mo_use (n := S.1) (pr := (fun z => z.1.1)) hf (monoX11_init S d p0)
  refine sk_Met.of (by decide) (Nat.le_of_ble_eq_true rfl) hmono.1 hmono.2 (fun X K0 hX => ?_)
  have K : sk_Ok X C cX11_init 1 RX11 "<init>" none 1 l none SS dd := K0
  have R1 : X.2.2.2.2.2.2.2.2.2.2.2.1 ≤ S.1.1 ∧ X.2.2.2.2.2.2.2.2.2.2.2.2 ≤ S.1.2 := by rw [hX]; exact ⟨Nat.le_refl _, Nat.le_refl _⟩
  have R2 : S.1.1 ≤ SS.1.1 ∧ S.1.2 ≤ SS.1.2 := hmono
  show sk_G X C 1 S d 0 [(0, .ref p0)] []
  unfold fX11_init at hf
  refine sk_aload_n K dX11_init_0 rfl 0 rfl ?_
  refine sk_objInit K dX11_init_1 qw_1304 qw_153 qw_154 (by decide) (Nat.le_of_ble_eq_true rfl) ?_
  refine sk_aload_n K dX11_init_4 rfl 0 rfl ?_
  refine sk_sipush (3225 : Int32) K dX11_init_5 (by decide) ?_
  obtain ⟨⟨v1, S2, d3⟩, e4, hf⟩ := sk_ob hf
  try dsimp only at hf
  have R1_S2 := sk_le_tr R1 (sk_mk_1 e4)
  have R2_S2 := mo_use (n := S2.1) (pr := (fun z => z.1.1)) hf (by repeat' (first | exact mo_none | exact mo_some ⟨Nat.le_refl _, Nat.le_refl _⟩ | refine mo_pR (fun _ => ?_) | refine mo_mk (fun _ => ?_) | refine mo_sR24 (fun _ => ?_) | refine mo_sR25 (fun _ => ?_) | refine mo_ite ?_ ?_ | refine mo_bind (fun _ => ?_) | split))
  refine sk_newa20 K dX11_init_8 qw_183 e4 R1 R2_S2 ?_
  obtain ⟨S6, e7, hf⟩ := sk_ob hf
  have R1_S6 := sk_le_eq R1_S2 (sk_pR_1 e7)
  have R2_S6 := mo_use (n := S6.1) (pr := (fun z => z.1.1)) hf (by repeat' (first | exact mo_none | exact mo_some ⟨Nat.le_refl _, Nat.le_refl _⟩ | refine mo_pR (fun _ => ?_) | refine mo_mk (fun _ => ?_) | refine mo_sR24 (fun _ => ?_) | refine mo_sR25 (fun _ => ?_) | refine mo_ite ?_ ?_ | refine mo_bind (fun _ => ?_) | split))
  refine sk_putRF S6 K dX11_init_10 fl_X11_13 (fun _ _ _ h => by cases h; rfl) rfl rfl rfl rfl e7 ?_
  refine sk_aload_n K dX11_init_13 rfl 0 rfl ?_
  refine sk_iconst (2 : Int32) K dX11_init_14 (by decide) ?_
  obtain ⟨⟨v8, S9, d10⟩, e11, hf⟩ := sk_ob hf
  try dsimp only at hf
  have R1_S9 := sk_le_tr R1_S6 (sk_mk_1 e11)
  have R2_S9 := mo_use (n := S9.1) (pr := (fun z => z.1.1)) hf (by repeat' (first | exact mo_none | exact mo_some ⟨Nat.le_refl _, Nat.le_refl _⟩ | refine mo_pR (fun _ => ?_) | refine mo_mk (fun _ => ?_) | refine mo_sR24 (fun _ => ?_) | refine mo_sR25 (fun _ => ?_) | refine mo_ite ?_ ?_ | refine mo_bind (fun _ => ?_) | split))
  refine sk_newa23 K dX11_init_15 qw_1422 e11 R1_S6 R2_S9 ?_
  obtain ⟨S13, e14, hf⟩ := sk_ob hf
  have R1_S13 := sk_le_eq R1_S9 (sk_pR_1 e14)
  have R2_S13 := mo_use (n := S13.1) (pr := (fun z => z.1.1)) hf (by repeat' (first | exact mo_none | exact mo_some ⟨Nat.le_refl _, Nat.le_refl _⟩ | refine mo_pR (fun _ => ?_) | refine mo_mk (fun _ => ?_) | refine mo_sR24 (fun _ => ?_) | refine mo_sR25 (fun _ => ?_) | refine mo_ite ?_ ?_ | refine mo_bind (fun _ => ?_) | split))
  refine sk_putRF S13 K dX11_init_17 fl_X11_17 (fun _ _ _ h => by cases h; rfl) rfl rfl rfl rfl e14 ?_
  refine sk_aload_n K dX11_init_20 rfl 0 rfl ?_
  refine sk_sipush (900 : Int32) K dX11_init_21 (by decide) ?_
  obtain ⟨⟨v15, S16, d17⟩, e18, hf⟩ := sk_ob hf
  try dsimp only at hf
  have R1_S16 := sk_le_tr R1_S13 (sk_mk_1 e18)
  have R2_S16 := mo_use (n := S16.1) (pr := (fun z => z.1.1)) hf (by repeat' (first | exact mo_none | exact mo_some ⟨Nat.le_refl _, Nat.le_refl _⟩ | refine mo_pR (fun _ => ?_) | refine mo_mk (fun _ => ?_) | refine mo_sR24 (fun _ => ?_) | refine mo_sR25 (fun _ => ?_) | refine mo_ite ?_ ?_ | refine mo_bind (fun _ => ?_) | split))
  refine sk_newa20 K dX11_init_24 qw_183 e18 R1_S13 R2_S16 ?_
  obtain ⟨S20, e21, hf⟩ := sk_ob hf
  have R1_S20 := sk_le_eq R1_S16 (sk_pR_1 e21)
  have R2_S20 := mo_use (n := S20.1) (pr := (fun z => z.1.1)) hf (by repeat' (first | exact mo_none | exact mo_some ⟨Nat.le_refl _, Nat.le_refl _⟩ | refine mo_pR (fun _ => ?_) | refine mo_mk (fun _ => ?_) | refine mo_sR24 (fun _ => ?_) | refine mo_sR25 (fun _ => ?_) | refine mo_ite ?_ ?_ | refine mo_bind (fun _ => ?_) | split))
  refine sk_putRF S20 K dX11_init_26 fl_X11_21 (fun _ _ _ h => by cases h; rfl) rfl rfl rfl rfl e21 ?_
  refine sk_aload_n K dX11_init_29 rfl 0 rfl ?_
  refine sk_sipush (1075 : Int32) K dX11_init_30 (by decide) ?_
  obtain ⟨⟨v22, S23, d24⟩, e25, hf⟩ := sk_ob hf
  try dsimp only at hf
  have R1_S23 := sk_le_tr R1_S20 (sk_mk_1 e25)
  have R2_S23 := mo_use (n := S23.1) (pr := (fun z => z.1.1)) hf (by repeat' (first | exact mo_none | exact mo_some ⟨Nat.le_refl _, Nat.le_refl _⟩ | refine mo_pR (fun _ => ?_) | refine mo_mk (fun _ => ?_) | refine mo_sR24 (fun _ => ?_) | refine mo_sR25 (fun _ => ?_) | refine mo_ite ?_ ?_ | refine mo_bind (fun _ => ?_) | split))
  refine sk_newa20 K dX11_init_33 qw_183 e25 R1_S20 R2_S23 ?_
  obtain ⟨S27, e28, hf⟩ := sk_ob hf
  have R1_S27 := sk_le_eq R1_S23 (sk_pR_1 e28)
  have R2_S27 := mo_use (n := S27.1) (pr := (fun z => z.1.1)) hf (by repeat' (first | exact mo_none | exact mo_some ⟨Nat.le_refl _, Nat.le_refl _⟩ | refine mo_pR (fun _ => ?_) | refine mo_mk (fun _ => ?_) | refine mo_sR24 (fun _ => ?_) | refine mo_sR25 (fun _ => ?_) | refine mo_ite ?_ ?_ | refine mo_bind (fun _ => ?_) | split))
  refine sk_putRF S27 K dX11_init_35 fl_X11_24 (fun _ _ _ h => by cases h; rfl) rfl rfl rfl rfl e28 ?_
  refine sk_aload_n K dX11_init_38 rfl 0 rfl ?_
  refine sk_iconst (-1 : Int32) K dX11_init_39 (by decide) ?_
  obtain ⟨d29, e30, hf⟩ := sk_ob hf
  refine sk_putI d29 K dX11_init_40 fl_X11_27 rfl rfl rfl e30 ?_
  refine sk_aload_n K dX11_init_43 rfl 0 rfl ?_
  refine sk_sipush (900 : Int32) K dX11_init_44 (by decide) ?_
  obtain ⟨⟨v31, S32, d33⟩, e34, hf⟩ := sk_ob hf
  try dsimp only at hf
  have R1_S32 := sk_le_tr R1_S27 (sk_mk_1 e34)
  have R2_S32 := mo_use (n := S32.1) (pr := (fun z => z.1.1)) hf (by repeat' (first | exact mo_none | exact mo_some ⟨Nat.le_refl _, Nat.le_refl _⟩ | refine mo_pR (fun _ => ?_) | refine mo_mk (fun _ => ?_) | refine mo_sR24 (fun _ => ?_) | refine mo_sR25 (fun _ => ?_) | refine mo_ite ?_ ?_ | refine mo_bind (fun _ => ?_) | split))
  refine sk_newa20 K dX11_init_47 qw_183 e34 R1_S27 R2_S32 ?_
  obtain ⟨S36, e37, hf⟩ := sk_ob hf
  have R1_S36 := sk_le_eq R1_S32 (sk_pR_1 e37)
  have R2_S36 := mo_use (n := S36.1) (pr := (fun z => z.1.1)) hf (by repeat' (first | exact mo_none | exact mo_some ⟨Nat.le_refl _, Nat.le_refl _⟩ | refine mo_pR (fun _ => ?_) | refine mo_mk (fun _ => ?_) | refine mo_sR24 (fun _ => ?_) | refine mo_sR25 (fun _ => ?_) | refine mo_ite ?_ ?_ | refine mo_bind (fun _ => ?_) | split))
  refine sk_putRF S36 K dX11_init_49 fl_X11_30 (fun _ _ _ h => by cases h; rfl) rfl rfl rfl rfl e37 ?_
  refine sk_aload_n K dX11_init_52 rfl 0 rfl ?_
  refine sk_bipush (6 : Int32) K dX11_init_53 (by decide) ?_
  obtain ⟨⟨v38, S39, d40⟩, e41, hf⟩ := sk_ob hf
  try dsimp only at hf
  have R1_S39 := sk_le_tr R1_S36 (sk_mk_1 e41)
  have R2_S39 := mo_use (n := S39.1) (pr := (fun z => z.1.1)) hf (by repeat' (first | exact mo_none | exact mo_some ⟨Nat.le_refl _, Nat.le_refl _⟩ | refine mo_pR (fun _ => ?_) | refine mo_mk (fun _ => ?_) | refine mo_sR24 (fun _ => ?_) | refine mo_sR25 (fun _ => ?_) | refine mo_ite ?_ ?_ | refine mo_bind (fun _ => ?_) | split))
  refine sk_newa20 K dX11_init_55 qw_183 e41 R1_S36 R2_S39 ?_
  obtain ⟨S43, e44, hf⟩ := sk_ob hf
  have R1_S43 := sk_le_eq R1_S39 (sk_pR_1 e44)
  have R2_S43 := mo_use (n := S43.1) (pr := (fun z => z.1.1)) hf (by repeat' (first | exact mo_none | exact mo_some ⟨Nat.le_refl _, Nat.le_refl _⟩ | refine mo_pR (fun _ => ?_) | refine mo_mk (fun _ => ?_) | refine mo_sR24 (fun _ => ?_) | refine mo_sR25 (fun _ => ?_) | refine mo_ite ?_ ?_ | refine mo_bind (fun _ => ?_) | split))
  refine sk_putRF S43 K dX11_init_57 fl_X11_33 (fun _ _ _ h => by cases h; rfl) rfl rfl rfl rfl e44 ?_
  refine sk_aload_n K dX11_init_60 rfl 0 rfl ?_
  refine sk_bipush (9 : Int32) K dX11_init_61 (by decide) ?_
  obtain ⟨⟨v45, S46, d47⟩, e48, hf⟩ := sk_ob hf
  try dsimp only at hf
  have R1_S46 := sk_le_tr R1_S43 (sk_mk_1 e48)
  have R2_S46 := mo_use (n := S46.1) (pr := (fun z => z.1.1)) hf (by repeat' (first | exact mo_none | exact mo_some ⟨Nat.le_refl _, Nat.le_refl _⟩ | refine mo_pR (fun _ => ?_) | refine mo_mk (fun _ => ?_) | refine mo_sR24 (fun _ => ?_) | refine mo_sR25 (fun _ => ?_) | refine mo_ite ?_ ?_ | refine mo_bind (fun _ => ?_) | split))
  refine sk_newa20 K dX11_init_63 qw_183 e48 R1_S43 R2_S46 ?_
  obtain ⟨S50, e51, hf⟩ := sk_ob hf
  have R1_S50 := sk_le_eq R1_S46 (sk_pR_1 e51)
  have R2_S50 := mo_use (n := S50.1) (pr := (fun z => z.1.1)) hf (by repeat' (first | exact mo_none | exact mo_some ⟨Nat.le_refl _, Nat.le_refl _⟩ | refine mo_pR (fun _ => ?_) | refine mo_mk (fun _ => ?_) | refine mo_sR24 (fun _ => ?_) | refine mo_sR25 (fun _ => ?_) | refine mo_ite ?_ ?_ | refine mo_bind (fun _ => ?_) | split))
  refine sk_putRF S50 K dX11_init_65 fl_X11_36 (fun _ _ _ h => by cases h; rfl) rfl rfl rfl rfl e51 ?_
  refine sk_aload_n K dX11_init_68 rfl 0 rfl ?_
  refine sk_ldc K dX11_init_69 qw_1305 ?_
  obtain ⟨⟨v52, S53, d54⟩, e55, hf⟩ := sk_ob hf
  try dsimp only at hf
  have R1_S53 := sk_le_tr R1_S50 (sk_mk_1 e55)
  have R2_S53 := mo_use (n := S53.1) (pr := (fun z => z.1.1)) hf (by repeat' (first | exact mo_none | exact mo_some ⟨Nat.le_refl _, Nat.le_refl _⟩ | refine mo_pR (fun _ => ?_) | refine mo_mk (fun _ => ?_) | refine mo_sR24 (fun _ => ?_) | refine mo_sR25 (fun _ => ?_) | refine mo_ite ?_ ?_ | refine mo_bind (fun _ => ?_) | split))
  refine sk_newa20 K dX11_init_71 qw_183 e55 R1_S50 R2_S53 ?_
  obtain ⟨S57, e58, hf⟩ := sk_ob hf
  have R1_S57 := sk_le_eq R1_S53 (sk_pR_1 e58)
  have R2_S57 := mo_use (n := S57.1) (pr := (fun z => z.1.1)) hf (by repeat' (first | exact mo_none | exact mo_some ⟨Nat.le_refl _, Nat.le_refl _⟩ | refine mo_pR (fun _ => ?_) | refine mo_mk (fun _ => ?_) | refine mo_sR24 (fun _ => ?_) | refine mo_sR25 (fun _ => ?_) | refine mo_ite ?_ ?_ | refine mo_bind (fun _ => ?_) | split))
  refine sk_putRF S57 K dX11_init_73 fl_X11_40 (fun _ _ _ h => by cases h; rfl) rfl rfl rfl rfl e58 ?_
  refine sk_aload_n K dX11_init_76 rfl 0 rfl ?_
  refine sk_ldc K dX11_init_77 qw_1306 ?_
  obtain ⟨⟨v59, S60, d61⟩, e62, hf⟩ := sk_ob hf
  try dsimp only at hf
  have R1_S60 := sk_le_tr R1_S57 (sk_mk_1 e62)
  have R2_S60 := mo_use (n := S60.1) (pr := (fun z => z.1.1)) hf (by repeat' (first | exact mo_none | exact mo_some ⟨Nat.le_refl _, Nat.le_refl _⟩ | refine mo_pR (fun _ => ?_) | refine mo_mk (fun _ => ?_) | refine mo_sR24 (fun _ => ?_) | refine mo_sR25 (fun _ => ?_) | refine mo_ite ?_ ?_ | refine mo_bind (fun _ => ?_) | split))
  refine sk_newa20 K dX11_init_79 qw_183 e62 R1_S57 R2_S60 ?_
  obtain ⟨S64, e65, hf⟩ := sk_ob hf
  have R1_S64 := sk_le_eq R1_S60 (sk_pR_1 e65)
  have R2_S64 := mo_use (n := S64.1) (pr := (fun z => z.1.1)) hf (by repeat' (first | exact mo_none | exact mo_some ⟨Nat.le_refl _, Nat.le_refl _⟩ | refine mo_pR (fun _ => ?_) | refine mo_mk (fun _ => ?_) | refine mo_sR24 (fun _ => ?_) | refine mo_sR25 (fun _ => ?_) | refine mo_ite ?_ ?_ | refine mo_bind (fun _ => ?_) | split))
  refine sk_putRF S64 K dX11_init_81 fl_X11_44 (fun _ _ _ h => by cases h; rfl) rfl rfl rfl rfl e65 ?_
  refine sk_aload_n K dX11_init_84 rfl 0 rfl ?_
  refine sk_ldc K dX11_init_85 qw_1305 ?_
  obtain ⟨⟨v66, S67, d68⟩, e69, hf⟩ := sk_ob hf
  try dsimp only at hf
  have R1_S67 := sk_le_tr R1_S64 (sk_mk_1 e69)
  have R2_S67 := mo_use (n := S67.1) (pr := (fun z => z.1.1)) hf (by repeat' (first | exact mo_none | exact mo_some ⟨Nat.le_refl _, Nat.le_refl _⟩ | refine mo_pR (fun _ => ?_) | refine mo_mk (fun _ => ?_) | refine mo_sR24 (fun _ => ?_) | refine mo_sR25 (fun _ => ?_) | refine mo_ite ?_ ?_ | refine mo_bind (fun _ => ?_) | split))
  refine sk_newa20 K dX11_init_87 qw_183 e69 R1_S64 R2_S67 ?_
  obtain ⟨S71, e72, hf⟩ := sk_ob hf
  have R1_S71 := sk_le_eq R1_S67 (sk_pR_1 e72)
  have R2_S71 := mo_use (n := S71.1) (pr := (fun z => z.1.1)) hf (by repeat' (first | exact mo_none | exact mo_some ⟨Nat.le_refl _, Nat.le_refl _⟩ | refine mo_pR (fun _ => ?_) | refine mo_mk (fun _ => ?_) | refine mo_sR24 (fun _ => ?_) | refine mo_sR25 (fun _ => ?_) | refine mo_ite ?_ ?_ | refine mo_bind (fun _ => ?_) | split))
  refine sk_putRF S71 K dX11_init_89 fl_X11_47 (fun _ _ _ h => by cases h; rfl) rfl rfl rfl rfl e72 ?_
  refine sk_aload_n K dX11_init_92 rfl 0 rfl ?_
  refine sk_ldc K dX11_init_93 qw_1305 ?_
  obtain ⟨⟨v73, S74, d75⟩, e76, hf⟩ := sk_ob hf
  try dsimp only at hf
  have R1_S74 := sk_le_tr R1_S71 (sk_mk_1 e76)
  have R2_S74 := mo_use (n := S74.1) (pr := (fun z => z.1.1)) hf (by repeat' (first | exact mo_none | exact mo_some ⟨Nat.le_refl _, Nat.le_refl _⟩ | refine mo_pR (fun _ => ?_) | refine mo_mk (fun _ => ?_) | refine mo_sR24 (fun _ => ?_) | refine mo_sR25 (fun _ => ?_) | refine mo_ite ?_ ?_ | refine mo_bind (fun _ => ?_) | split))
  refine sk_newa23 K dX11_init_95 qw_1422 e76 R1_S71 R2_S74 ?_
  obtain ⟨S78, e79, hf⟩ := sk_ob hf
  have R1_S78 := sk_le_eq R1_S74 (sk_pR_1 e79)
  have R2_S78 := mo_use (n := S78.1) (pr := (fun z => z.1.1)) hf (by repeat' (first | exact mo_none | exact mo_some ⟨Nat.le_refl _, Nat.le_refl _⟩ | refine mo_pR (fun _ => ?_) | refine mo_mk (fun _ => ?_) | refine mo_sR24 (fun _ => ?_) | refine mo_sR25 (fun _ => ?_) | refine mo_ite ?_ ?_ | refine mo_bind (fun _ => ?_) | split))
  refine sk_putRF S78 K dX11_init_97 fl_X11_50 (fun _ _ _ h => by cases h; rfl) rfl rfl rfl rfl e79 ?_
  refine sk_aload_n K dX11_init_100 rfl 0 rfl ?_
  refine sk_ldc K dX11_init_101 qw_1305 ?_
  obtain ⟨⟨v80, S81, d82⟩, e83, hf⟩ := sk_ob hf
  try dsimp only at hf
  have R1_S81 := sk_le_tr R1_S78 (sk_mk_1 e83)
  have R2_S81 := mo_use (n := S81.1) (pr := (fun z => z.1.1)) hf (by repeat' (first | exact mo_none | exact mo_some ⟨Nat.le_refl _, Nat.le_refl _⟩ | refine mo_pR (fun _ => ?_) | refine mo_mk (fun _ => ?_) | refine mo_sR24 (fun _ => ?_) | refine mo_sR25 (fun _ => ?_) | refine mo_ite ?_ ?_ | refine mo_bind (fun _ => ?_) | split))
  refine sk_newa21 K dX11_init_103 qw_351 e83 R1_S78 R2_S81 ?_
  obtain ⟨S85, e86, hf⟩ := sk_ob hf
  have R1_S85 := sk_le_eq R1_S81 (sk_pR_1 e86)
  have R2_S85 := mo_use (n := S85.1) (pr := (fun z => z.1.1)) hf (by repeat' (first | exact mo_none | exact mo_some ⟨Nat.le_refl _, Nat.le_refl _⟩ | refine mo_pR (fun _ => ?_) | refine mo_mk (fun _ => ?_) | refine mo_sR24 (fun _ => ?_) | refine mo_sR25 (fun _ => ?_) | refine mo_ite ?_ ?_ | refine mo_bind (fun _ => ?_) | split))
  refine sk_putRF S85 K dX11_init_105 fl_X11_53 (fun _ _ _ h => by cases h; rfl) rfl rfl rfl rfl e86 ?_
  refine sk_aload_n K dX11_init_108 rfl 0 rfl ?_
  refine sk_ldc K dX11_init_109 qw_1305 ?_
  obtain ⟨⟨v87, S88, d89⟩, e90, hf⟩ := sk_ob hf
  try dsimp only at hf
  have R1_S88 := sk_le_tr R1_S85 (sk_mk_1 e90)
  have R2_S88 := mo_use (n := S88.1) (pr := (fun z => z.1.1)) hf (by repeat' (first | exact mo_none | exact mo_some ⟨Nat.le_refl _, Nat.le_refl _⟩ | refine mo_pR (fun _ => ?_) | refine mo_mk (fun _ => ?_) | refine mo_sR24 (fun _ => ?_) | refine mo_sR25 (fun _ => ?_) | refine mo_ite ?_ ?_ | refine mo_bind (fun _ => ?_) | split))
  refine sk_newa21 K dX11_init_111 qw_351 e90 R1_S85 R2_S88 ?_
  obtain ⟨S92, e93, hf⟩ := sk_ob hf
  have R1_S92 := sk_le_eq R1_S88 (sk_pR_1 e93)
  have R2_S92 := mo_use (n := S92.1) (pr := (fun z => z.1.1)) hf (by repeat' (first | exact mo_none | exact mo_some ⟨Nat.le_refl _, Nat.le_refl _⟩ | refine mo_pR (fun _ => ?_) | refine mo_mk (fun _ => ?_) | refine mo_sR24 (fun _ => ?_) | refine mo_sR25 (fun _ => ?_) | refine mo_ite ?_ ?_ | refine mo_bind (fun _ => ?_) | split))
  refine sk_putRF S92 K dX11_init_113 fl_X11_57 (fun _ _ _ h => by cases h; rfl) rfl rfl rfl rfl e93 ?_
  refine sk_aload_n K dX11_init_116 rfl 0 rfl ?_
  refine sk_bipush (8 : Int32) K dX11_init_117 (by decide) ?_
  obtain ⟨⟨v94, S95, d96⟩, e97, hf⟩ := sk_ob hf
  try dsimp only at hf
  have R1_S95 := sk_le_tr R1_S92 (sk_mk_1 e97)
  have R2_S95 := mo_use (n := S95.1) (pr := (fun z => z.1.1)) hf (by repeat' (first | exact mo_none | exact mo_some ⟨Nat.le_refl _, Nat.le_refl _⟩ | refine mo_pR (fun _ => ?_) | refine mo_mk (fun _ => ?_) | refine mo_sR24 (fun _ => ?_) | refine mo_sR25 (fun _ => ?_) | refine mo_ite ?_ ?_ | refine mo_bind (fun _ => ?_) | split))
  refine sk_newa20 K dX11_init_119 qw_183 e97 R1_S92 R2_S95 ?_
  obtain ⟨S99, e100, hf⟩ := sk_ob hf
  have R1_S99 := sk_le_eq R1_S95 (sk_pR_1 e100)
  have R2_S99 := mo_use (n := S99.1) (pr := (fun z => z.1.1)) hf (by repeat' (first | exact mo_none | exact mo_some ⟨Nat.le_refl _, Nat.le_refl _⟩ | refine mo_pR (fun _ => ?_) | refine mo_mk (fun _ => ?_) | refine mo_sR24 (fun _ => ?_) | refine mo_sR25 (fun _ => ?_) | refine mo_ite ?_ ?_ | refine mo_bind (fun _ => ?_) | split))
  refine sk_putRF S99 K dX11_init_121 fl_X11_60 (fun _ _ _ h => by cases h; rfl) rfl rfl rfl rfl e100 ?_
  refine sk_aload_n K dX11_init_124 rfl 0 rfl ?_
  refine sk_sipush (256 : Int32) K dX11_init_125 (by decide) ?_
  obtain ⟨⟨v101, S102, d103⟩, e104, hf⟩ := sk_ob hf
  try dsimp only at hf
  have R1_S102 := sk_le_tr R1_S99 (sk_mk_1 e104)
  have R2_S102 := mo_use (n := S102.1) (pr := (fun z => z.1.1)) hf (by repeat' (first | exact mo_none | exact mo_some ⟨Nat.le_refl _, Nat.le_refl _⟩ | refine mo_pR (fun _ => ?_) | refine mo_mk (fun _ => ?_) | refine mo_sR24 (fun _ => ?_) | refine mo_sR25 (fun _ => ?_) | refine mo_ite ?_ ?_ | refine mo_bind (fun _ => ?_) | split))
  refine sk_newa20 K dX11_init_128 qw_183 e104 R1_S99 R2_S102 ?_
  obtain ⟨S106, e107, hf⟩ := sk_ob hf
  have R1_S106 := sk_le_eq R1_S102 (sk_pR_1 e107)
  have R2_S106 := mo_use (n := S106.1) (pr := (fun z => z.1.1)) hf (by repeat' (first | exact mo_none | exact mo_some ⟨Nat.le_refl _, Nat.le_refl _⟩ | refine mo_pR (fun _ => ?_) | refine mo_mk (fun _ => ?_) | refine mo_sR24 (fun _ => ?_) | refine mo_sR25 (fun _ => ?_) | refine mo_ite ?_ ?_ | refine mo_bind (fun _ => ?_) | split))
  refine sk_putRF S106 K dX11_init_130 fl_X11_63 (fun _ _ _ h => by cases h; rfl) rfl rfl rfl rfl e107 ?_
  refine sk_aload_n K dX11_init_133 rfl 0 rfl ?_
  refine sk_bipush (8 : Int32) K dX11_init_134 (by decide) ?_
  obtain ⟨⟨v108, S109, d110⟩, e111, hf⟩ := sk_ob hf
  try dsimp only at hf
  have R1_S109 := sk_le_tr R1_S106 (sk_mk_1 e111)
  have R2_S109 := mo_use (n := S109.1) (pr := (fun z => z.1.1)) hf (by repeat' (first | exact mo_none | exact mo_some ⟨Nat.le_refl _, Nat.le_refl _⟩ | refine mo_pR (fun _ => ?_) | refine mo_mk (fun _ => ?_) | refine mo_sR24 (fun _ => ?_) | refine mo_sR25 (fun _ => ?_) | refine mo_ite ?_ ?_ | refine mo_bind (fun _ => ?_) | split))
  refine sk_newa20 K dX11_init_136 qw_183 e111 R1_S106 R2_S109 ?_
  obtain ⟨S113, e114, hf⟩ := sk_ob hf
  have R1_S113 := sk_le_eq R1_S109 (sk_pR_1 e114)
  have R2_S113 := mo_use (n := S113.1) (pr := (fun z => z.1.1)) hf (by repeat' (first | exact mo_none | exact mo_some ⟨Nat.le_refl _, Nat.le_refl _⟩ | refine mo_pR (fun _ => ?_) | refine mo_mk (fun _ => ?_) | refine mo_sR24 (fun _ => ?_) | refine mo_sR25 (fun _ => ?_) | refine mo_ite ?_ ?_ | refine mo_bind (fun _ => ?_) | split))
  refine sk_putRF S113 K dX11_init_138 fl_X11_66 (fun _ _ _ h => by cases h; rfl) rfl rfl rfl rfl e114 ?_
  refine sk_aload_n K dX11_init_141 rfl 0 rfl ?_
  refine sk_bipush (8 : Int32) K dX11_init_142 (by decide) ?_
  obtain ⟨⟨v115, S116, d117⟩, e118, hf⟩ := sk_ob hf
  try dsimp only at hf
  have R1_S116 := sk_le_tr R1_S113 (sk_mk_1 e118)
  have R2_S116 := mo_use (n := S116.1) (pr := (fun z => z.1.1)) hf (by repeat' (first | exact mo_none | exact mo_some ⟨Nat.le_refl _, Nat.le_refl _⟩ | refine mo_pR (fun _ => ?_) | refine mo_mk (fun _ => ?_) | refine mo_sR24 (fun _ => ?_) | refine mo_sR25 (fun _ => ?_) | refine mo_ite ?_ ?_ | refine mo_bind (fun _ => ?_) | split))
  refine sk_newa20 K dX11_init_144 qw_183 e118 R1_S113 R2_S116 ?_
  obtain ⟨S120, e121, hf⟩ := sk_ob hf
  have R1_S120 := sk_le_eq R1_S116 (sk_pR_1 e121)
  have R2_S120 := mo_use (n := S120.1) (pr := (fun z => z.1.1)) hf (by repeat' (first | exact mo_none | exact mo_some ⟨Nat.le_refl _, Nat.le_refl _⟩ | refine mo_pR (fun _ => ?_) | refine mo_mk (fun _ => ?_) | refine mo_sR24 (fun _ => ?_) | refine mo_sR25 (fun _ => ?_) | refine mo_ite ?_ ?_ | refine mo_bind (fun _ => ?_) | split))
  refine sk_putRF S120 K dX11_init_146 fl_X11_69 (fun _ _ _ h => by cases h; rfl) rfl rfl rfl rfl e121 ?_
  refine sk_aload_n K dX11_init_149 rfl 0 rfl ?_
  refine sk_bipush (8 : Int32) K dX11_init_150 (by decide) ?_
  obtain ⟨⟨v122, S123, d124⟩, e125, hf⟩ := sk_ob hf
  try dsimp only at hf
  have R1_S123 := sk_le_tr R1_S120 (sk_mk_1 e125)
  have R2_S123 := mo_use (n := S123.1) (pr := (fun z => z.1.1)) hf (by repeat' (first | exact mo_none | exact mo_some ⟨Nat.le_refl _, Nat.le_refl _⟩ | refine mo_pR (fun _ => ?_) | refine mo_mk (fun _ => ?_) | refine mo_sR24 (fun _ => ?_) | refine mo_sR25 (fun _ => ?_) | refine mo_ite ?_ ?_ | refine mo_bind (fun _ => ?_) | split))
  refine sk_newa20 K dX11_init_152 qw_183 e125 R1_S120 R2_S123 ?_
  obtain ⟨S127, e128, hf⟩ := sk_ob hf
  have R1_S127 := sk_le_eq R1_S123 (sk_pR_1 e128)
  have R2_S127 := mo_use (n := S127.1) (pr := (fun z => z.1.1)) hf (by repeat' (first | exact mo_none | exact mo_some ⟨Nat.le_refl _, Nat.le_refl _⟩ | refine mo_pR (fun _ => ?_) | refine mo_mk (fun _ => ?_) | refine mo_sR24 (fun _ => ?_) | refine mo_sR25 (fun _ => ?_) | refine mo_ite ?_ ?_ | refine mo_bind (fun _ => ?_) | split))
  refine sk_putRF S127 K dX11_init_154 fl_X11_72 (fun _ _ _ h => by cases h; rfl) rfl rfl rfl rfl e128 ?_
  refine sk_aload_n K dX11_init_157 rfl 0 rfl ?_
  refine sk_iconst (4 : Int32) K dX11_init_158 (by decide) ?_
  obtain ⟨⟨v129, S130, d131⟩, e132, hf⟩ := sk_ob hf
  try dsimp only at hf
  have R1_S130 := sk_le_tr R1_S127 (sk_mk_1 e132)
  have R2_S130 := mo_use (n := S130.1) (pr := (fun z => z.1.1)) hf (by repeat' (first | exact mo_none | exact mo_some ⟨Nat.le_refl _, Nat.le_refl _⟩ | refine mo_pR (fun _ => ?_) | refine mo_mk (fun _ => ?_) | refine mo_sR24 (fun _ => ?_) | refine mo_sR25 (fun _ => ?_) | refine mo_ite ?_ ?_ | refine mo_bind (fun _ => ?_) | split))
  refine sk_newa20 K dX11_init_159 qw_183 e132 R1_S127 R2_S130 ?_
  refine sk_dup K dX11_init_161 rfl ?_
  refine sk_iconst (0 : Int32) K dX11_init_162 (by decide) ?_
  refine sk_iconst (-1 : Int32) K dX11_init_163 (by decide) ?_
  obtain ⟨d134, e135, hf⟩ := sk_ob hf
  refine sk_ast20 d134 K dX11_init_164 e135 ?_
  refine sk_dup K dX11_init_165 rfl ?_
  refine sk_iconst (1 : Int32) K dX11_init_166 (by decide) ?_
  refine sk_iconst (-1 : Int32) K dX11_init_167 (by decide) ?_
  obtain ⟨d136, e137, hf⟩ := sk_ob hf
  refine sk_ast20 d136 K dX11_init_168 e137 ?_
  refine sk_dup K dX11_init_169 rfl ?_
  refine sk_iconst (2 : Int32) K dX11_init_170 (by decide) ?_
  refine sk_iconst (-1 : Int32) K dX11_init_171 (by decide) ?_
  obtain ⟨d138, e139, hf⟩ := sk_ob hf
  refine sk_ast20 d138 K dX11_init_172 e139 ?_
  refine sk_dup K dX11_init_173 rfl ?_
  refine sk_iconst (3 : Int32) K dX11_init_174 (by decide) ?_
  refine sk_iconst (-1 : Int32) K dX11_init_175 (by decide) ?_
  obtain ⟨d140, e141, hf⟩ := sk_ob hf
  refine sk_ast20 d140 K dX11_init_176 e141 ?_
  obtain ⟨S142, e143, hf⟩ := sk_ob hf
  have R1_S142 := sk_le_eq R1_S130 (sk_pR_1 e143)
  have R2_S142 := mo_use (n := S142.1) (pr := (fun z => z.1.1)) hf (by repeat' (first | exact mo_none | exact mo_some ⟨Nat.le_refl _, Nat.le_refl _⟩ | refine mo_pR (fun _ => ?_) | refine mo_mk (fun _ => ?_) | refine mo_sR24 (fun _ => ?_) | refine mo_sR25 (fun _ => ?_) | refine mo_ite ?_ ?_ | refine mo_bind (fun _ => ?_) | split))
  refine sk_putRF S142 K dX11_init_177 fl_X11_75 (fun _ _ _ h => by cases h; rfl) rfl rfl rfl rfl e143 ?_
  refine sk_aload_n K dX11_init_180 rfl 0 rfl ?_
  refine sk_iconst (4 : Int32) K dX11_init_181 (by decide) ?_
  obtain ⟨⟨v144, S145, d146⟩, e147, hf⟩ := sk_ob hf
  try dsimp only at hf
  have R1_S145 := sk_le_tr R1_S142 (sk_mk_1 e147)
  have R2_S145 := mo_use (n := S145.1) (pr := (fun z => z.1.1)) hf (by repeat' (first | exact mo_none | exact mo_some ⟨Nat.le_refl _, Nat.le_refl _⟩ | refine mo_pR (fun _ => ?_) | refine mo_mk (fun _ => ?_) | refine mo_sR24 (fun _ => ?_) | refine mo_sR25 (fun _ => ?_) | refine mo_ite ?_ ?_ | refine mo_bind (fun _ => ?_) | split))
  refine sk_newa20 K dX11_init_182 qw_183 e147 R1_S142 R2_S145 ?_
  obtain ⟨S149, e150, hf⟩ := sk_ob hf
  have R1_S149 := sk_le_eq R1_S145 (sk_pR_1 e150)
  have R2_S149 := mo_use (n := S149.1) (pr := (fun z => z.1.1)) hf (by repeat' (first | exact mo_none | exact mo_some ⟨Nat.le_refl _, Nat.le_refl _⟩ | refine mo_pR (fun _ => ?_) | refine mo_mk (fun _ => ?_) | refine mo_sR24 (fun _ => ?_) | refine mo_sR25 (fun _ => ?_) | refine mo_ite ?_ ?_ | refine mo_bind (fun _ => ?_) | split))
  refine sk_putRF S149 K dX11_init_184 fl_X11_78 (fun _ _ _ h => by cases h; rfl) rfl rfl rfl rfl e150 ?_
  refine sk_aload_n K dX11_init_187 rfl 0 rfl ?_
  refine sk_sipush (160 : Int32) K dX11_init_188 (by decide) ?_
  obtain ⟨⟨v151, S152, d153⟩, e154, hf⟩ := sk_ob hf
  try dsimp only at hf
  have R1_S152 := sk_le_tr R1_S149 (sk_mk_1 e154)
  have R2_S152 := mo_use (n := S152.1) (pr := (fun z => z.1.1)) hf (by repeat' (first | exact mo_none | exact mo_some ⟨Nat.le_refl _, Nat.le_refl _⟩ | refine mo_pR (fun _ => ?_) | refine mo_mk (fun _ => ?_) | refine mo_sR24 (fun _ => ?_) | refine mo_sR25 (fun _ => ?_) | refine mo_ite ?_ ?_ | refine mo_bind (fun _ => ?_) | split))
  refine sk_newa21 K dX11_init_191 qw_351 e154 R1_S149 R2_S152 ?_
  obtain ⟨S156, e157, hf⟩ := sk_ob hf
  have R1_S156 := sk_le_eq R1_S152 (sk_pR_1 e157)
  have R2_S156 := mo_use (n := S156.1) (pr := (fun z => z.1.1)) hf (by repeat' (first | exact mo_none | exact mo_some ⟨Nat.le_refl _, Nat.le_refl _⟩ | refine mo_pR (fun _ => ?_) | refine mo_mk (fun _ => ?_) | refine mo_sR24 (fun _ => ?_) | refine mo_sR25 (fun _ => ?_) | refine mo_ite ?_ ?_ | refine mo_bind (fun _ => ?_) | split))
  refine sk_putRF S156 K dX11_init_193 fl_X11_81 (fun _ _ _ h => by cases h; rfl) rfl rfl rfl rfl e157 ?_
  refine sk_aload_n K dX11_init_196 rfl 0 rfl ?_
  obtain ⟨v158, e159, hf⟩ := sk_ob hf
  refine sk_getR K dX11_init_197 fl_X11_13 rfl e159 ?_
  obtain ⟨d162, e161, hf⟩ := sk_ob hf
  refine sk_callS (As := [.ref v158]) (st := []) K dX11_init_200 cl_X11_84 (sX11_plain C l e161) (by decide) rfl rfl (Nat.le_of_ble_eq_true rfl) R1_S156 R2_S156 ?_
  have hR163 : (S156, d162) = (SS, dd) := Option.some.inj hf
  exact sk_vret K dX11_init_203 rfl rfl (congrArg (fun z => z.1) hR163) (congrArg (fun z => z.2) hR163)
