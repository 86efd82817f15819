noncomputable def fX0_init (S : sk_S) (d : sk_D) (p0 : Nat) : Option (sk_S × sk_D) :=
  (sk_mk S d 20 (8 : Int32)).bind fun b5 => (sk_pR b5.2.1 p0 0 0 b5.1).bind fun S6 => some (S6, b5.2.2)
theorem monoX0_init (S : sk_S) (d : sk_D) (p0 : Nat) : sk_Mo S.1 (fun z => z.1.1) (fX0_init S d p0) := by
  unfold fX0_init
  repeat' (first | exact mo_none | exact mo_some ⟨Nat.le_refl _, Nat.le_refl _⟩ | refine mo_pR (fun _ => ?_) | refine mo_mk (fun _ => ?_) | refine mo_sR24 (fun _ => ?_) | refine mo_sR25 (fun _ => ?_) | refine mo_ite ?_ ?_ | refine mo_bind (fun _ => ?_) | split)
set_option maxRecDepth 100000 in
set_option maxHeartbeats 4000000 in
theorem sX0_init (C : sk_C) (l : Launch) {S : sk_S} {d : sk_D} {p0 : Nat} {SS : sk_S} {dd : sk_D} (hf : fX0_init S d p0 = some (SS, dd)) : sk_Met C l 1 yX0_init cX0_init 1 none [.ref p0] S d none SS dd := by
  have hmono := mo_use (n := S.1) (pr := (fun z => z.1.1)) hf (monoX0_init S d p0)
  refine sk_Met.of (by decide) (Nat.le_of_ble_eq_true rfl) hmono.1 hmono.2 (fun X K0 hX => ?_)
  have K : sk_Ok X C cX0_init 1 RX0 "<init>" none 1 l none SS dd := K0
  have R1 : X.2.2.2.2.2.2.2.2.2.2.2.1 ≤ S.1.1 ∧ X.2.2.2.2.2.2.2.2.2.2.2.2 ≤ S.1.2 := by rw [hX]; exact ⟨Nat.le_refl _, Nat.le_refl _⟩
  have R2 : S.1.1 ≤ SS.1.1 ∧ S.1.2 ≤ SS.1.2 := hmono
  show sk_G X C 1 S d 0 [(0, .ref p0)] []
  unfold fX0_init at hf
  refine sk_aload_n K dX0_init_0 rfl 0 rfl ?_
  refine sk_objInit K dX0_init_1 qw_373 qw_153 qw_154 (by decide) (Nat.le_of_ble_eq_true rfl) ?_
  refine sk_aload_n K dX0_init_4 rfl 0 rfl ?_
  refine sk_bipush (8 : Int32) K dX0_init_5 (by decide) ?_
  obtain ⟨⟨v1, S2, d3⟩, e4, hf⟩ := sk_ob hf
  try dsimp only at hf
  have R1_S2 := sk_le_tr R1 (sk_mk_1 e4)
  have R2_S2 := mo_use (n := S2.1) (pr := (fun z => z.1.1)) hf (by repeat' (first | exact mo_none | exact mo_some ⟨Nat.le_refl _, Nat.le_refl _⟩ | refine mo_pR (fun _ => ?_) | refine mo_mk (fun _ => ?_) | refine mo_sR24 (fun _ => ?_) | refine mo_sR25 (fun _ => ?_) | refine mo_ite ?_ ?_ | refine mo_bind (fun _ => ?_) | split))
  refine sk_newa20 K dX0_init_7 qw_183 e4 R1 R2_S2 ?_
  obtain ⟨S6, e7, hf⟩ := sk_ob hf
  have R1_S6 := sk_le_eq R1_S2 (sk_pR_1 e7)
  have R2_S6 := mo_use (n := S6.1) (pr := (fun z => z.1.1)) hf (by repeat' (first | exact mo_none | exact mo_some ⟨Nat.le_refl _, Nat.le_refl _⟩ | refine mo_pR (fun _ => ?_) | refine mo_mk (fun _ => ?_) | refine mo_sR24 (fun _ => ?_) | refine mo_sR25 (fun _ => ?_) | refine mo_ite ?_ ?_ | refine mo_bind (fun _ => ?_) | split))
  refine sk_putRF S6 K dX0_init_9 fl_X0_9 (fun _ _ _ h => by cases h; rfl) rfl rfl rfl rfl e7 ?_
  have hR8 : (S6, d3) = (SS, dd) := Option.some.inj hf
  exact sk_vret K dX0_init_12 rfl rfl (congrArg (fun z => z.1) hR8) (congrArg (fun z => z.2) hR8)
noncomputable def fX1_init (S : sk_S) (d : sk_D) (p0 : Nat) : Option (sk_S × sk_D) :=
  (sk_mk S d 20 (900 : Int32)).bind fun b5 => (sk_pR b5.2.1 p0 1 0 b5.1).bind fun S6 => (sk_mk S6 b5.2.2 20 (64 : Int32)).bind fun b12 => (sk_pR b12.2.1 p0 1 1 b12.1).bind fun S13 => (sk_pI S13 b12.2.2 p0 1 2 (0 : Int32)).bind fun d15 => some (S13, d15)
theorem monoX1_init (S : sk_S) (d : sk_D) (p0 : Nat) : sk_Mo S.1 (fun z => z.1.1) (fX1_init S d p0) := by
  unfold fX1_init
  repeat' (first | exact mo_none | exact mo_some ⟨Nat.le_refl _, Nat.le_refl _⟩ | refine mo_pR (fun _ => ?_) | refine mo_mk (fun _ => ?_) | refine mo_sR24 (fun _ => ?_) | refine mo_sR25 (fun _ => ?_) | refine mo_ite ?_ ?_ | refine mo_bind (fun _ => ?_) | split)
set_option maxRecDepth 100000 in
set_option maxHeartbeats 4000000 in
theorem sX1_init (C : sk_C) (l : Launch) {S : sk_S} {d : sk_D} {p0 : Nat} {SS : sk_S} {dd : sk_D} (hf : fX1_init S d p0 = some (SS, dd)) : sk_Met C l 1 yX1_init cX1_init 1 none [.ref p0] S d none SS dd := by
  have hmono := mo_use (n := S.1) (pr := (fun z => z.1.1)) hf (monoX1_init S d p0)
  refine sk_Met.of (by decide) (Nat.le_of_ble_eq_true rfl) hmono.1 hmono.2 (fun X K0 hX => ?_)
  have K : sk_Ok X C cX1_init 1 RX1 "<init>" none 1 l none SS dd := K0
  have R1 : X.2.2.2.2.2.2.2.2.2.2.2.1 ≤ S.1.1 ∧ X.2.2.2.2.2.2.2.2.2.2.2.2 ≤ S.1.2 := by rw [hX]; exact ⟨Nat.le_refl _, Nat.le_refl _⟩
  have R2 : S.1.1 ≤ SS.1.1 ∧ S.1.2 ≤ SS.1.2 := hmono
  show sk_G X C 1 S d 0 [(0, .ref p0)] []
  unfold fX1_init at hf
  refine sk_aload_n K dX1_init_0 rfl 0 rfl ?_
  refine sk_objInit K dX1_init_1 qw_172 qw_153 qw_154 (by decide) (Nat.le_of_ble_eq_true rfl) ?_
  refine sk_aload_n K dX1_init_4 rfl 0 rfl ?_
  refine sk_sipush (900 : Int32) K dX1_init_5 (by decide) ?_
  obtain ⟨⟨v1, S2, d3⟩, e4, hf⟩ := sk_ob hf
  try dsimp only at hf
  have R1_S2 := sk_le_tr R1 (sk_mk_1 e4)
  have R2_S2 := mo_use (n := S2.1) (pr := (fun z => z.1.1)) hf (by repeat' (first | exact mo_none | exact mo_some ⟨Nat.le_refl _, Nat.le_refl _⟩ | refine mo_pR (fun _ => ?_) | refine mo_mk (fun _ => ?_) | refine mo_sR24 (fun _ => ?_) | refine mo_sR25 (fun _ => ?_) | refine mo_ite ?_ ?_ | refine mo_bind (fun _ => ?_) | split))
  refine sk_newa20 K dX1_init_8 qw_183 e4 R1 R2_S2 ?_
  obtain ⟨S6, e7, hf⟩ := sk_ob hf
  have R1_S6 := sk_le_eq R1_S2 (sk_pR_1 e7)
  have R2_S6 := mo_use (n := S6.1) (pr := (fun z => z.1.1)) hf (by repeat' (first | exact mo_none | exact mo_some ⟨Nat.le_refl _, Nat.le_refl _⟩ | refine mo_pR (fun _ => ?_) | refine mo_mk (fun _ => ?_) | refine mo_sR24 (fun _ => ?_) | refine mo_sR25 (fun _ => ?_) | refine mo_ite ?_ ?_ | refine mo_bind (fun _ => ?_) | split))
  refine sk_putRF S6 K dX1_init_10 fl_X1_9 (fun _ _ _ h => by cases h; rfl) rfl rfl rfl rfl e7 ?_
  refine sk_aload_n K dX1_init_13 rfl 0 rfl ?_
  refine sk_bipush (64 : Int32) K dX1_init_14 (by decide) ?_
  obtain ⟨⟨v8, S9, d10⟩, e11, hf⟩ := sk_ob hf
  try dsimp only at hf
  have R1_S9 := sk_le_tr R1_S6 (sk_mk_1 e11)
  have R2_S9 := mo_use (n := S9.1) (pr := (fun z => z.1.1)) hf (by repeat' (first | exact mo_none | exact mo_some ⟨Nat.le_refl _, Nat.le_refl _⟩ | refine mo_pR (fun _ => ?_) | refine mo_mk (fun _ => ?_) | refine mo_sR24 (fun _ => ?_) | refine mo_sR25 (fun _ => ?_) | refine mo_ite ?_ ?_ | refine mo_bind (fun _ => ?_) | split))
  refine sk_newa20 K dX1_init_16 qw_183 e11 R1_S6 R2_S9 ?_
  obtain ⟨S13, e14, hf⟩ := sk_ob hf
  have R1_S13 := sk_le_eq R1_S9 (sk_pR_1 e14)
  have R2_S13 := mo_use (n := S13.1) (pr := (fun z => z.1.1)) hf (by repeat' (first | exact mo_none | exact mo_some ⟨Nat.le_refl _, Nat.le_refl _⟩ | refine mo_pR (fun _ => ?_) | refine mo_mk (fun _ => ?_) | refine mo_sR24 (fun _ => ?_) | refine mo_sR25 (fun _ => ?_) | refine mo_ite ?_ ?_ | refine mo_bind (fun _ => ?_) | split))
  refine sk_putRF S13 K dX1_init_18 fl_X1_15 (fun _ _ _ h => by cases h; rfl) rfl rfl rfl rfl e14 ?_
  refine sk_aload_n K dX1_init_21 rfl 0 rfl ?_
  refine sk_iconst (0 : Int32) K dX1_init_22 (by decide) ?_
  obtain ⟨d15, e16, hf⟩ := sk_ob hf
  refine sk_putI d15 K dX1_init_23 fl_X1_18 rfl rfl rfl e16 ?_
  have hR17 : (S13, d15) = (SS, dd) := Option.some.inj hf
  exact sk_vret K dX1_init_26 rfl rfl (congrArg (fun z => z.1) hR17) (congrArg (fun z => z.2) hR17)
noncomputable def fX2_init (S : sk_S) (d : sk_D) (p0 : Nat) : Option (sk_S × sk_D) :=
  (sk_pI S d p0 2 0 (0 : Int32)).bind fun d1 => (sk_pI S d1 p0 2 1 (0 : Int32)).bind fun d3 => (sk_pI S d3 p0 2 2 (0 : Int32)).bind fun d5 => (sk_pI S d5 p0 2 3 (0 : Int32)).bind fun d7 => (sk_pI S d7 p0 2 4 (0 : Int32)).bind fun d9 => (sk_mk S d9 20 (8 : Int32)).bind fun b15 => (sk_pR b15.2.1 p0 2 5 b15.1).bind fun S16 => (sk_mk S16 b15.2.2 20 (8 : Int32)).bind fun b22 => (sk_pR b22.2.1 p0 2 6 b22.1).bind fun S23 => (sk_mk S23 b22.2.2 20 (8 : Int32)).bind fun b29 => (sk_pR b29.2.1 p0 2 7 b29.1).bind fun S30 => (sk_mk S30 b29.2.2 20 (8 : Int32)).bind fun b36 => (sk_pR b36.2.1 p0 2 8 b36.1).bind fun S37 => (sk_mk S37 b36.2.2 20 (8 : Int32)).bind fun b43 => (sk_pR b43.2.1 p0 2 9 b43.1).bind fun S44 => (sk_mk S44 b43.2.2 20 (8 : Int32)).bind fun b50 => (sk_pR b50.2.1 p0 2 10 b50.1).bind fun S51 => (sk_mk S51 b50.2.2 20 (8 : Int32)).bind fun b57 => (sk_pR b57.2.1 p0 2 11 b57.1).bind fun S58 => (sk_mk S58 b57.2.2 20 (8 : Int32)).bind fun b64 => (sk_pR b64.2.1 p0 2 12 b64.1).bind fun S65 => (fX1_init (sk_nS S65 1 0 (sk_N 1)) (sk_nD S65 b64.2.2) (S65.1.1 + 1)).bind fun b71 => (sk_pR b71.1 p0 2 13 (S65.1.1 + 1)).bind fun S72 => (fX1_init (sk_nS S72 1 0 (sk_N 1)) (sk_nD S72 b71.2) (S72.1.1 + 1)).bind fun b78 => (sk_pR b78.1 p0 2 14 (S72.1.1 + 1)).bind fun S79 => some (S79, b78.2)
theorem monoX2_init (S : sk_S) (d : sk_D) (p0 : Nat) : sk_Mo S.1 (fun z => z.1.1) (fX2_init S d p0) := by
  unfold fX2_init
  repeat' (first | exact mo_none | exact mo_some ⟨Nat.le_refl _, Nat.le_refl _⟩ | refine mo_pR (fun _ => ?_) | refine mo_mk (fun _ => ?_) | refine mo_sR24 (fun _ => ?_) | refine mo_sR25 (fun _ => ?_) | refine mo_A ⟨Nat.le_refl _, Nat.le_refl _⟩ (monoX1_init _ _ _) (fun _ => ?_) | refine mo_A (sk_nS_le _ _ _ _) (monoX1_init _ _ _) (fun _ => ?_) | refine mo_ite ?_ ?_ | refine mo_bind (fun _ => ?_) | split)
set_option maxRecDepth 100000 in
set_option maxHeartbeats 4000000 in
theorem sX2_init (C : sk_C) (l : Launch) {S : sk_S} {d : sk_D} {p0 : Nat} {SS : sk_S} {dd : sk_D} (hf : fX2_init S d p0 = some (SS, dd)) : sk_Met C l 2 yX2_init cX2_init 1 none [.ref p0] S d none SS dd := by
  have hmono := mo_use (n := S.1) (pr := (fun z => z.1.1)) hf (monoX2_init S d p0)
  refine sk_Met.of (by decide) (Nat.le_of_ble_eq_true rfl) hmono.1 hmono.2 (fun X K0 hX => ?_)
  have K : sk_Ok X C cX2_init 1 RX2 "<init>" none 2 l none SS dd := K0
  have R1 : X.2.2.2.2.2.2.2.2.2.2.2.1 ≤ S.1.1 ∧ X.2.2.2.2.2.2.2.2.2.2.2.2 ≤ S.1.2 := by rw [hX]; exact ⟨Nat.le_refl _, Nat.le_refl _⟩
  have R2 : S.1.1 ≤ SS.1.1 ∧ S.1.2 ≤ SS.1.2 := hmono
  show sk_G X C 1 S d 0 [(0, .ref p0)] []
  unfold fX2_init at hf
  refine sk_aload_n K dX2_init_0 rfl 0 rfl ?_
  refine sk_objInit K dX2_init_1 qw_166 qw_153 qw_154 (by decide) (Nat.le_of_ble_eq_true rfl) ?_
  refine sk_aload_n K dX2_init_4 rfl 0 rfl ?_
  refine sk_iconst (0 : Int32) K dX2_init_5 (by decide) ?_
  obtain ⟨d1, e2, hf⟩ := sk_ob hf
  refine sk_putI d1 K dX2_init_6 fl_X2_9 rfl rfl rfl e2 ?_
  refine sk_aload_n K dX2_init_9 rfl 0 rfl ?_
  refine sk_iconst (0 : Int32) K dX2_init_10 (by decide) ?_
  obtain ⟨d3, e4, hf⟩ := sk_ob hf
  refine sk_putI d3 K dX2_init_11 fl_X2_15 rfl rfl rfl e4 ?_
  refine sk_aload_n K dX2_init_14 rfl 0 rfl ?_
  refine sk_iconst (0 : Int32) K dX2_init_15 (by decide) ?_
  obtain ⟨d5, e6, hf⟩ := sk_ob hf
  refine sk_putI d5 K dX2_init_16 fl_X2_18 rfl rfl rfl e6 ?_
  refine sk_aload_n K dX2_init_19 rfl 0 rfl ?_
  refine sk_iconst (0 : Int32) K dX2_init_20 (by decide) ?_
  obtain ⟨d7, e8, hf⟩ := sk_ob hf
  refine sk_putI d7 K dX2_init_21 fl_X2_21 rfl rfl rfl e8 ?_
  refine sk_aload_n K dX2_init_24 rfl 0 rfl ?_
  refine sk_iconst (0 : Int32) K dX2_init_25 (by decide) ?_
  obtain ⟨d9, e10, hf⟩ := sk_ob hf
  refine sk_putI d9 K dX2_init_26 fl_X2_24 rfl rfl rfl e10 ?_
  refine sk_aload_n K dX2_init_29 rfl 0 rfl ?_
  refine sk_bipush (8 : Int32) K dX2_init_30 (by decide) ?_
  obtain ⟨⟨v11, S12, d13⟩, e14, hf⟩ := sk_ob hf
  try dsimp only at hf
  have R1_S12 := sk_le_tr R1 (sk_mk_1 e14)
  have R2_S12 := mo_use (n := S12.1) (pr := (fun z => z.1.1)) hf (by repeat' (first | exact mo_none | exact mo_some ⟨Nat.le_refl _, Nat.le_refl _⟩ | refine mo_pR (fun _ => ?_) | refine mo_mk (fun _ => ?_) | refine mo_sR24 (fun _ => ?_) | refine mo_sR25 (fun _ => ?_) | refine mo_A ⟨Nat.le_refl _, Nat.le_refl _⟩ (monoX1_init _ _ _) (fun _ => ?_) | refine mo_A (sk_nS_le _ _ _ _) (monoX1_init _ _ _) (fun _ => ?_) | refine mo_ite ?_ ?_ | refine mo_bind (fun _ => ?_) | split))
  refine sk_newa20 K dX2_init_32 qw_183 e14 R1 R2_S12 ?_
  obtain ⟨S16, e17, hf⟩ := sk_ob hf
  have R1_S16 := sk_le_eq R1_S12 (sk_pR_1 e17)
  have R2_S16 := mo_use (n := S16.1) (pr := (fun z => z.1.1)) hf (by repeat' (first | exact mo_none | exact mo_some ⟨Nat.le_refl _, Nat.le_refl _⟩ | refine mo_pR (fun _ => ?_) | refine mo_mk (fun _ => ?_) | refine mo_sR24 (fun _ => ?_) | refine mo_sR25 (fun _ => ?_) | refine mo_A ⟨Nat.le_refl _, Nat.le_refl _⟩ (monoX1_init _ _ _) (fun _ => ?_) | refine mo_A (sk_nS_le _ _ _ _) (monoX1_init _ _ _) (fun _ => ?_) | refine mo_ite ?_ ?_ | refine mo_bind (fun _ => ?_) | split))
  refine sk_putRF S16 K dX2_init_34 fl_X2_27 (fun _ _ _ h => by cases h; rfl) rfl rfl rfl rfl e17 ?_
  refine sk_aload_n K dX2_init_37 rfl 0 rfl ?_
  refine sk_bipush (8 : Int32) K dX2_init_38 (by decide) ?_
  obtain ⟨⟨v18, S19, d20⟩, e21, hf⟩ := sk_ob hf
  try dsimp only at hf
  have R1_S19 := sk_le_tr R1_S16 (sk_mk_1 e21)
  have R2_S19 := mo_use (n := S19.1) (pr := (fun z => z.1.1)) hf (by repeat' (first | exact mo_none | exact mo_some ⟨Nat.le_refl _, Nat.le_refl _⟩ | refine mo_pR (fun _ => ?_) | refine mo_mk (fun _ => ?_) | refine mo_sR24 (fun _ => ?_) | refine mo_sR25 (fun _ => ?_) | refine mo_A ⟨Nat.le_refl _, Nat.le_refl _⟩ (monoX1_init _ _ _) (fun _ => ?_) | refine mo_A (sk_nS_le _ _ _ _) (monoX1_init _ _ _) (fun _ => ?_) | refine mo_ite ?_ ?_ | refine mo_bind (fun _ => ?_) | split))
  refine sk_newa20 K dX2_init_40 qw_183 e21 R1_S16 R2_S19 ?_
  obtain ⟨S23, e24, hf⟩ := sk_ob hf
  have R1_S23 := sk_le_eq R1_S19 (sk_pR_1 e24)
  have R2_S23 := mo_use (n := S23.1) (pr := (fun z => z.1.1)) hf (by repeat' (first | exact mo_none | exact mo_some ⟨Nat.le_refl _, Nat.le_refl _⟩ | refine mo_pR (fun _ => ?_) | refine mo_mk (fun _ => ?_) | refine mo_sR24 (fun _ => ?_) | refine mo_sR25 (fun _ => ?_) | refine mo_A ⟨Nat.le_refl _, Nat.le_refl _⟩ (monoX1_init _ _ _) (fun _ => ?_) | refine mo_A (sk_nS_le _ _ _ _) (monoX1_init _ _ _) (fun _ => ?_) | refine mo_ite ?_ ?_ | refine mo_bind (fun _ => ?_) | split))
  refine sk_putRF S23 K dX2_init_42 fl_X2_31 (fun _ _ _ h => by cases h; rfl) rfl rfl rfl rfl e24 ?_
  refine sk_aload_n K dX2_init_45 rfl 0 rfl ?_
  refine sk_bipush (8 : Int32) K dX2_init_46 (by decide) ?_
  obtain ⟨⟨v25, S26, d27⟩, e28, hf⟩ := sk_ob hf
  try dsimp only at hf
  have R1_S26 := sk_le_tr R1_S23 (sk_mk_1 e28)
  have R2_S26 := mo_use (n := S26.1) (pr := (fun z => z.1.1)) hf (by repeat' (first | exact mo_none | exact mo_some ⟨Nat.le_refl _, Nat.le_refl _⟩ | refine mo_pR (fun _ => ?_) | refine mo_mk (fun _ => ?_) | refine mo_sR24 (fun _ => ?_) | refine mo_sR25 (fun _ => ?_) | refine mo_A ⟨Nat.le_refl _, Nat.le_refl _⟩ (monoX1_init _ _ _) (fun _ => ?_) | refine mo_A (sk_nS_le _ _ _ _) (monoX1_init _ _ _) (fun _ => ?_) | refine mo_ite ?_ ?_ | refine mo_bind (fun _ => ?_) | split))
  refine sk_newa20 K dX2_init_48 qw_183 e28 R1_S23 R2_S26 ?_
  obtain ⟨S30, e31, hf⟩ := sk_ob hf
  have R1_S30 := sk_le_eq R1_S26 (sk_pR_1 e31)
  have R2_S30 := mo_use (n := S30.1) (pr := (fun z => z.1.1)) hf (by repeat' (first | exact mo_none | exact mo_some ⟨Nat.le_refl _, Nat.le_refl _⟩ | refine mo_pR (fun _ => ?_) | refine mo_mk (fun _ => ?_) | refine mo_sR24 (fun _ => ?_) | refine mo_sR25 (fun _ => ?_) | refine mo_A ⟨Nat.le_refl _, Nat.le_refl _⟩ (monoX1_init _ _ _) (fun _ => ?_) | refine mo_A (sk_nS_le _ _ _ _) (monoX1_init _ _ _) (fun _ => ?_) | refine mo_ite ?_ ?_ | refine mo_bind (fun _ => ?_) | split))
  refine sk_putRF S30 K dX2_init_50 fl_X2_34 (fun _ _ _ h => by cases h; rfl) rfl rfl rfl rfl e31 ?_
  refine sk_aload_n K dX2_init_53 rfl 0 rfl ?_
  refine sk_bipush (8 : Int32) K dX2_init_54 (by decide) ?_
  obtain ⟨⟨v32, S33, d34⟩, e35, hf⟩ := sk_ob hf
  try dsimp only at hf
  have R1_S33 := sk_le_tr R1_S30 (sk_mk_1 e35)
  have R2_S33 := mo_use (n := S33.1) (pr := (fun z => z.1.1)) hf (by repeat' (first | exact mo_none | exact mo_some ⟨Nat.le_refl _, Nat.le_refl _⟩ | refine mo_pR (fun _ => ?_) | refine mo_mk (fun _ => ?_) | refine mo_sR24 (fun _ => ?_) | refine mo_sR25 (fun _ => ?_) | refine mo_A ⟨Nat.le_refl _, Nat.le_refl _⟩ (monoX1_init _ _ _) (fun _ => ?_) | refine mo_A (sk_nS_le _ _ _ _) (monoX1_init _ _ _) (fun _ => ?_) | refine mo_ite ?_ ?_ | refine mo_bind (fun _ => ?_) | split))
  refine sk_newa20 K dX2_init_56 qw_183 e35 R1_S30 R2_S33 ?_
  obtain ⟨S37, e38, hf⟩ := sk_ob hf
  have R1_S37 := sk_le_eq R1_S33 (sk_pR_1 e38)
  have R2_S37 := mo_use (n := S37.1) (pr := (fun z => z.1.1)) hf (by repeat' (first | exact mo_none | exact mo_some ⟨Nat.le_refl _, Nat.le_refl _⟩ | refine mo_pR (fun _ => ?_) | refine mo_mk (fun _ => ?_) | refine mo_sR24 (fun _ => ?_) | refine mo_sR25 (fun _ => ?_) | refine mo_A ⟨Nat.le_refl _, Nat.le_refl _⟩ (monoX1_init _ _ _) (fun _ => ?_) | refine mo_A (sk_nS_le _ _ _ _) (monoX1_init _ _ _) (fun _ => ?_) | refine mo_ite ?_ ?_ | refine mo_bind (fun _ => ?_) | split))
  refine sk_putRF S37 K dX2_init_58 fl_X2_37 (fun _ _ _ h => by cases h; rfl) rfl rfl rfl rfl e38 ?_
  refine sk_aload_n K dX2_init_61 rfl 0 rfl ?_
  refine sk_bipush (8 : Int32) K dX2_init_62 (by decide) ?_
  obtain ⟨⟨v39, S40, d41⟩, e42, hf⟩ := sk_ob hf
  try dsimp only at hf
  have R1_S40 := sk_le_tr R1_S37 (sk_mk_1 e42)
  have R2_S40 := mo_use (n := S40.1) (pr := (fun z => z.1.1)) hf (by repeat' (first | exact mo_none | exact mo_some ⟨Nat.le_refl _, Nat.le_refl _⟩ | refine mo_pR (fun _ => ?_) | refine mo_mk (fun _ => ?_) | refine mo_sR24 (fun _ => ?_) | refine mo_sR25 (fun _ => ?_) | refine mo_A ⟨Nat.le_refl _, Nat.le_refl _⟩ (monoX1_init _ _ _) (fun _ => ?_) | refine mo_A (sk_nS_le _ _ _ _) (monoX1_init _ _ _) (fun _ => ?_) | refine mo_ite ?_ ?_ | refine mo_bind (fun _ => ?_) | split))
  refine sk_newa20 K dX2_init_64 qw_183 e42 R1_S37 R2_S40 ?_
  obtain ⟨S44, e45, hf⟩ := sk_ob hf
  have R1_S44 := sk_le_eq R1_S40 (sk_pR_1 e45)
  have R2_S44 := mo_use (n := S44.1) (pr := (fun z => z.1.1)) hf (by repeat' (first | exact mo_none | exact mo_some ⟨Nat.le_refl _, Nat.le_refl _⟩ | refine mo_pR (fun _ => ?_) | refine mo_mk (fun _ => ?_) | refine mo_sR24 (fun _ => ?_) | refine mo_sR25 (fun _ => ?_) | refine mo_A ⟨Nat.le_refl _, Nat.le_refl _⟩ (monoX1_init _ _ _) (fun _ => ?_) | refine mo_A (sk_nS_le _ _ _ _) (monoX1_init _ _ _) (fun _ => ?_) | refine mo_ite ?_ ?_ | refine mo_bind (fun _ => ?_) | split))
  refine sk_putRF S44 K dX2_init_66 fl_X2_40 (fun _ _ _ h => by cases h; rfl) rfl rfl rfl rfl e45 ?_
  refine sk_aload_n K dX2_init_69 rfl 0 rfl ?_
  refine sk_bipush (8 : Int32) K dX2_init_70 (by decide) ?_
  obtain ⟨⟨v46, S47, d48⟩, e49, hf⟩ := sk_ob hf
  try dsimp only at hf
  have R1_S47 := sk_le_tr R1_S44 (sk_mk_1 e49)
  have R2_S47 := mo_use (n := S47.1) (pr := (fun z => z.1.1)) hf (by repeat' (first | exact mo_none | exact mo_some ⟨Nat.le_refl _, Nat.le_refl _⟩ | refine mo_pR (fun _ => ?_) | refine mo_mk (fun _ => ?_) | refine mo_sR24 (fun _ => ?_) | refine mo_sR25 (fun _ => ?_) | refine mo_A ⟨Nat.le_refl _, Nat.le_refl _⟩ (monoX1_init _ _ _) (fun _ => ?_) | refine mo_A (sk_nS_le _ _ _ _) (monoX1_init _ _ _) (fun _ => ?_) | refine mo_ite ?_ ?_ | refine mo_bind (fun _ => ?_) | split))
  refine sk_newa20 K dX2_init_72 qw_183 e49 R1_S44 R2_S47 ?_
  obtain ⟨S51, e52, hf⟩ := sk_ob hf
  have R1_S51 := sk_le_eq R1_S47 (sk_pR_1 e52)
  have R2_S51 := mo_use (n := S51.1) (pr := (fun z => z.1.1)) hf (by repeat' (first | exact mo_none | exact mo_some ⟨Nat.le_refl _, Nat.le_refl _⟩ | refine mo_pR (fun _ => ?_) | refine mo_mk (fun _ => ?_) | refine mo_sR24 (fun _ => ?_) | refine mo_sR25 (fun _ => ?_) | refine mo_A ⟨Nat.le_refl _, Nat.le_refl _⟩ (monoX1_init _ _ _) (fun _ => ?_) | refine mo_A (sk_nS_le _ _ _ _) (monoX1_init _ _ _) (fun _ => ?_) | refine mo_ite ?_ ?_ | refine mo_bind (fun _ => ?_) | split))
  refine sk_putRF S51 K dX2_init_74 fl_X2_43 (fun _ _ _ h => by cases h; rfl) rfl rfl rfl rfl e52 ?_
  refine sk_aload_n K dX2_init_77 rfl 0 rfl ?_
  refine sk_bipush (8 : Int32) K dX2_init_78 (by decide) ?_
  obtain ⟨⟨v53, S54, d55⟩, e56, hf⟩ := sk_ob hf
  try dsimp only at hf
  have R1_S54 := sk_le_tr R1_S51 (sk_mk_1 e56)
  have R2_S54 := mo_use (n := S54.1) (pr := (fun z => z.1.1)) hf (by repeat' (first | exact mo_none | exact mo_some ⟨Nat.le_refl _, Nat.le_refl _⟩ | refine mo_pR (fun _ => ?_) | refine mo_mk (fun _ => ?_) | refine mo_sR24 (fun _ => ?_) | refine mo_sR25 (fun _ => ?_) | refine mo_A ⟨Nat.le_refl _, Nat.le_refl _⟩ (monoX1_init _ _ _) (fun _ => ?_) | refine mo_A (sk_nS_le _ _ _ _) (monoX1_init _ _ _) (fun _ => ?_) | refine mo_ite ?_ ?_ | refine mo_bind (fun _ => ?_) | split))
  refine sk_newa20 K dX2_init_80 qw_183 e56 R1_S51 R2_S54 ?_
  obtain ⟨S58, e59, hf⟩ := sk_ob hf
  have R1_S58 := sk_le_eq R1_S54 (sk_pR_1 e59)
  have R2_S58 := mo_use (n := S58.1) (pr := (fun z => z.1.1)) hf (by repeat' (first | exact mo_none | exact mo_some ⟨Nat.le_refl _, Nat.le_refl _⟩ | refine mo_pR (fun _ => ?_) | refine mo_mk (fun _ => ?_) | refine mo_sR24 (fun _ => ?_) | refine mo_sR25 (fun _ => ?_) | refine mo_A ⟨Nat.le_refl _, Nat.le_refl _⟩ (monoX1_init _ _ _) (fun _ => ?_) | refine mo_A (sk_nS_le _ _ _ _) (monoX1_init _ _ _) (fun _ => ?_) | refine mo_ite ?_ ?_ | refine mo_bind (fun _ => ?_) | split))
  refine sk_putRF S58 K dX2_init_82 fl_X2_46 (fun _ _ _ h => by cases h; rfl) rfl rfl rfl rfl e59 ?_
  refine sk_aload_n K dX2_init_85 rfl 0 rfl ?_
  refine sk_bipush (8 : Int32) K dX2_init_86 (by decide) ?_
  obtain ⟨⟨v60, S61, d62⟩, e63, hf⟩ := sk_ob hf
  try dsimp only at hf
  have R1_S61 := sk_le_tr R1_S58 (sk_mk_1 e63)
  have R2_S61 := mo_use (n := S61.1) (pr := (fun z => z.1.1)) hf (by repeat' (first | exact mo_none | exact mo_some ⟨Nat.le_refl _, Nat.le_refl _⟩ | refine mo_pR (fun _ => ?_) | refine mo_mk (fun _ => ?_) | refine mo_sR24 (fun _ => ?_) | refine mo_sR25 (fun _ => ?_) | refine mo_A ⟨Nat.le_refl _, Nat.le_refl _⟩ (monoX1_init _ _ _) (fun _ => ?_) | refine mo_A (sk_nS_le _ _ _ _) (monoX1_init _ _ _) (fun _ => ?_) | refine mo_ite ?_ ?_ | refine mo_bind (fun _ => ?_) | split))
  refine sk_newa20 K dX2_init_88 qw_183 e63 R1_S58 R2_S61 ?_
  obtain ⟨S65, e66, hf⟩ := sk_ob hf
  have R1_S65 := sk_le_eq R1_S61 (sk_pR_1 e66)
  have R2_S65 := mo_use (n := S65.1) (pr := (fun z => z.1.1)) hf (by repeat' (first | exact mo_none | exact mo_some ⟨Nat.le_refl _, Nat.le_refl _⟩ | refine mo_pR (fun _ => ?_) | refine mo_mk (fun _ => ?_) | refine mo_sR24 (fun _ => ?_) | refine mo_sR25 (fun _ => ?_) | refine mo_A ⟨Nat.le_refl _, Nat.le_refl _⟩ (monoX1_init _ _ _) (fun _ => ?_) | refine mo_A (sk_nS_le _ _ _ _) (monoX1_init _ _ _) (fun _ => ?_) | refine mo_ite ?_ ?_ | refine mo_bind (fun _ => ?_) | split))
  refine sk_putRF S65 K dX2_init_90 fl_X2_49 (fun _ _ _ h => by cases h; rfl) rfl rfl rfl rfl e66 ?_
  refine sk_aload_n K dX2_init_93 rfl 0 rfl ?_
  refine sk_new K dX2_init_94 nw_X2_52 R1_S65 (mo_use (n := (sk_nS S65 1 0 (sk_N 1)).1) (pr := (fun z => z.1.1)) hf (by repeat' (first | exact mo_none | exact mo_some ⟨Nat.le_refl _, Nat.le_refl _⟩ | refine mo_pR (fun _ => ?_) | refine mo_mk (fun _ => ?_) | refine mo_sR24 (fun _ => ?_) | refine mo_sR25 (fun _ => ?_) | refine mo_A ⟨Nat.le_refl _, Nat.le_refl _⟩ (monoX1_init _ _ _) (fun _ => ?_) | refine mo_A (sk_nS_le _ _ _ _) (monoX1_init _ _ _) (fun _ => ?_) | refine mo_ite ?_ ?_ | refine mo_bind (fun _ => ?_) | split))) ?_
  refine sk_dup K dX2_init_97 rfl ?_
  obtain ⟨⟨S69, d70⟩, e68, hf⟩ := sk_ob hf
  try dsimp only at hf
  have R1_S69 := sk_le_tr (sk_nS_le2 R1_S65) (mo_use e68 (monoX1_init _ _ _))
  have R2_S69 := mo_use (n := S69.1) (pr := (fun z => z.1.1)) hf (by repeat' (first | exact mo_none | exact mo_some ⟨Nat.le_refl _, Nat.le_refl _⟩ | refine mo_pR (fun _ => ?_) | refine mo_mk (fun _ => ?_) | refine mo_sR24 (fun _ => ?_) | refine mo_sR25 (fun _ => ?_) | refine mo_A ⟨Nat.le_refl _, Nat.le_refl _⟩ (monoX1_init _ _ _) (fun _ => ?_) | refine mo_A (sk_nS_le _ _ _ _) (monoX1_init _ _ _) (fun _ => ?_) | refine mo_ite ?_ ?_ | refine mo_bind (fun _ => ?_) | split))
  refine sk_callI (As := []) (st := [.ref (S65.1.1 + 1), .ref p0]) K dX2_init_98 cl_X2_54 rfl (sX1_init C l e68) (by decide) rfl rfl (Nat.le_of_ble_eq_true rfl) (sk_nS_le2 R1_S65) R2_S69 ?_
  obtain ⟨S72, e73, hf⟩ := sk_ob hf
  have R1_S72 := sk_le_eq R1_S69 (sk_pR_1 e73)
  have R2_S72 := mo_use (n := S72.1) (pr := (fun z => z.1.1)) hf (by repeat' (first | exact mo_none | exact mo_some ⟨Nat.le_refl _, Nat.le_refl _⟩ | refine mo_pR (fun _ => ?_) | refine mo_mk (fun _ => ?_) | refine mo_sR24 (fun _ => ?_) | refine mo_sR25 (fun _ => ?_) | refine mo_A ⟨Nat.le_refl _, Nat.le_refl _⟩ (monoX1_init _ _ _) (fun _ => ?_) | refine mo_A (sk_nS_le _ _ _ _) (monoX1_init _ _ _) (fun _ => ?_) | refine mo_ite ?_ ?_ | refine mo_bind (fun _ => ?_) | split))
  refine sk_putRF S72 K dX2_init_101 fl_X2_55 (fun _ _ _ h => by cases h; rfl) rfl rfl rfl rfl e73 ?_
  refine sk_aload_n K dX2_init_104 rfl 0 rfl ?_
  refine sk_new K dX2_init_105 nw_X2_52 R1_S72 (mo_use (n := (sk_nS S72 1 0 (sk_N 1)).1) (pr := (fun z => z.1.1)) hf (by repeat' (first | exact mo_none | exact mo_some ⟨Nat.le_refl _, Nat.le_refl _⟩ | refine mo_pR (fun _ => ?_) | refine mo_mk (fun _ => ?_) | refine mo_sR24 (fun _ => ?_) | refine mo_sR25 (fun _ => ?_) | refine mo_A ⟨Nat.le_refl _, Nat.le_refl _⟩ (monoX1_init _ _ _) (fun _ => ?_) | refine mo_A (sk_nS_le _ _ _ _) (monoX1_init _ _ _) (fun _ => ?_) | refine mo_ite ?_ ?_ | refine mo_bind (fun _ => ?_) | split))) ?_
  refine sk_dup K dX2_init_108 rfl ?_
  obtain ⟨⟨S76, d77⟩, e75, hf⟩ := sk_ob hf
  try dsimp only at hf
  have R1_S76 := sk_le_tr (sk_nS_le2 R1_S72) (mo_use e75 (monoX1_init _ _ _))
  have R2_S76 := mo_use (n := S76.1) (pr := (fun z => z.1.1)) hf (by repeat' (first | exact mo_none | exact mo_some ⟨Nat.le_refl _, Nat.le_refl _⟩ | refine mo_pR (fun _ => ?_) | refine mo_mk (fun _ => ?_) | refine mo_sR24 (fun _ => ?_) | refine mo_sR25 (fun _ => ?_) | refine mo_A ⟨Nat.le_refl _, Nat.le_refl _⟩ (monoX1_init _ _ _) (fun _ => ?_) | refine mo_A (sk_nS_le _ _ _ _) (monoX1_init _ _ _) (fun _ => ?_) | refine mo_ite ?_ ?_ | refine mo_bind (fun _ => ?_) | split))
  refine sk_callI (As := []) (st := [.ref (S72.1.1 + 1), .ref p0]) K dX2_init_109 cl_X2_54 rfl (sX1_init C l e75) (by decide) rfl rfl (Nat.le_of_ble_eq_true rfl) (sk_nS_le2 R1_S72) R2_S76 ?_
  obtain ⟨S79, e80, hf⟩ := sk_ob hf
  have R1_S79 := sk_le_eq R1_S76 (sk_pR_1 e80)
  have R2_S79 := mo_use (n := S79.1) (pr := (fun z => z.1.1)) hf (by repeat' (first | exact mo_none | exact mo_some ⟨Nat.le_refl _, Nat.le_refl _⟩ | refine mo_pR (fun _ => ?_) | refine mo_mk (fun _ => ?_) | refine mo_sR24 (fun _ => ?_) | refine mo_sR25 (fun _ => ?_) | refine mo_A ⟨Nat.le_refl _, Nat.le_refl _⟩ (monoX1_init _ _ _) (fun _ => ?_) | refine mo_A (sk_nS_le _ _ _ _) (monoX1_init _ _ _) (fun _ => ?_) | refine mo_ite ?_ ?_ | refine mo_bind (fun _ => ?_) | split))
  refine sk_putRF S79 K dX2_init_112 fl_X2_59 (fun _ _ _ h => by cases h; rfl) rfl rfl rfl rfl e80 ?_
  have hR81 : (S79, d77) = (SS, dd) := Option.some.inj hf
  exact sk_vret K dX2_init_115 rfl rfl (congrArg (fun z => z.1) hR81) (congrArg (fun z => z.2) hR81)
noncomputable def fX3_init (S : sk_S) (d : sk_D) (p0 : Nat) : Option (sk_S × sk_D) :=
  (sk_mk S d 20 (8 : Int32)).bind fun b5 => (sk_pR b5.2.1 p0 3 0 b5.1).bind fun S6 => (sk_mk S6 b5.2.2 20 (256 : Int32)).bind fun b12 => (sk_pR b12.2.1 p0 3 1 b12.1).bind fun S13 => (sk_pI S13 b12.2.2 p0 3 2 (0 : Int32)).bind fun d15 => some (S13, d15)
theorem monoX3_init (S : sk_S) (d : sk_D) (p0 : Nat) : sk_Mo S.1 (fun z => z.1.1) (fX3_init S d p0) := by
  unfold fX3_init
  repeat' (first | exact mo_none | exact mo_some ⟨Nat.le_refl _, Nat.le_refl _⟩ | refine mo_pR (fun _ => ?_) | refine mo_mk (fun _ => ?_) | refine mo_sR24 (fun _ => ?_) | refine mo_sR25 (fun _ => ?_) | refine mo_ite ?_ ?_ | refine mo_bind (fun _ => ?_) | split)
set_option maxRecDepth 100000 in
set_option maxHeartbeats 4000000 in
theorem sX3_init (C : sk_C) (l : Launch) {S : sk_S} {d : sk_D} {p0 : Nat} {SS : sk_S} {dd : sk_D} (hf : fX3_init S d p0 = some (SS, dd)) : sk_Met C l 1 yX3_init cX3_init 1 none [.ref p0] S d none SS dd := by
  have hmono := mo_use (n := S.1) (pr := (fun z => z.1.1)) hf (monoX3_init S d p0)
  refine sk_Met.of (by decide) (Nat.le_of_ble_eq_true rfl) hmono.1 hmono.2 (fun X K0 hX => ?_)
  have K : sk_Ok X C cX3_init 1 RX3 "<init>" none 1 l none SS dd := K0
  have R1 : X.2.2.2.2.2.2.2.2.2.2.2.1 ≤ S.1.1 ∧ X.2.2.2.2.2.2.2.2.2.2.2.2 ≤ S.1.2 := by rw [hX]; exact ⟨Nat.le_refl _, Nat.le_refl _⟩
  have R2 : S.1.1 ≤ SS.1.1 ∧ S.1.2 ≤ SS.1.2 := hmono
  show sk_G X C 1 S d 0 [(0, .ref p0)] []
  unfold fX3_init at hf
  refine sk_aload_n K dX3_init_0 rfl 0 rfl ?_
  refine sk_objInit K dX3_init_1 qw_357 qw_153 qw_154 (by decide) (Nat.le_of_ble_eq_true rfl) ?_
  refine sk_aload_n K dX3_init_4 rfl 0 rfl ?_
  refine sk_bipush (8 : Int32) K dX3_init_5 (by decide) ?_
  obtain ⟨⟨v1, S2, d3⟩, e4, hf⟩ := sk_ob hf
  try dsimp only at hf
  have R1_S2 := sk_le_tr R1 (sk_mk_1 e4)
  have R2_S2 := mo_use (n := S2.1) (pr := (fun z => z.1.1)) hf (by repeat' (first | exact mo_none | exact mo_some ⟨Nat.le_refl _, Nat.le_refl _⟩ | refine mo_pR (fun _ => ?_) | refine mo_mk (fun _ => ?_) | refine mo_sR24 (fun _ => ?_) | refine mo_sR25 (fun _ => ?_) | refine mo_ite ?_ ?_ | refine mo_bind (fun _ => ?_) | split))
  refine sk_newa20 K dX3_init_7 qw_183 e4 R1 R2_S2 ?_
  obtain ⟨S6, e7, hf⟩ := sk_ob hf
  have R1_S6 := sk_le_eq R1_S2 (sk_pR_1 e7)
  have R2_S6 := mo_use (n := S6.1) (pr := (fun z => z.1.1)) hf (by repeat' (first | exact mo_none | exact mo_some ⟨Nat.le_refl _, Nat.le_refl _⟩ | refine mo_pR (fun _ => ?_) | refine mo_mk (fun _ => ?_) | refine mo_sR24 (fun _ => ?_) | refine mo_sR25 (fun _ => ?_) | refine mo_ite ?_ ?_ | refine mo_bind (fun _ => ?_) | split))
  refine sk_putRF S6 K dX3_init_9 fl_X3_9 (fun _ _ _ h => by cases h; rfl) rfl rfl rfl rfl e7 ?_
  refine sk_aload_n K dX3_init_12 rfl 0 rfl ?_
  refine sk_sipush (256 : Int32) K dX3_init_13 (by decide) ?_
  obtain ⟨⟨v8, S9, d10⟩, e11, hf⟩ := sk_ob hf
  try dsimp only at hf
  have R1_S9 := sk_le_tr R1_S6 (sk_mk_1 e11)
  have R2_S9 := mo_use (n := S9.1) (pr := (fun z => z.1.1)) hf (by repeat' (first | exact mo_none | exact mo_some ⟨Nat.le_refl _, Nat.le_refl _⟩ | refine mo_pR (fun _ => ?_) | refine mo_mk (fun _ => ?_) | refine mo_sR24 (fun _ => ?_) | refine mo_sR25 (fun _ => ?_) | refine mo_ite ?_ ?_ | refine mo_bind (fun _ => ?_) | split))
  refine sk_newa20 K dX3_init_16 qw_183 e11 R1_S6 R2_S9 ?_
  obtain ⟨S13, e14, hf⟩ := sk_ob hf
  have R1_S13 := sk_le_eq R1_S9 (sk_pR_1 e14)
  have R2_S13 := mo_use (n := S13.1) (pr := (fun z => z.1.1)) hf (by repeat' (first | exact mo_none | exact mo_some ⟨Nat.le_refl _, Nat.le_refl _⟩ | refine mo_pR (fun _ => ?_) | refine mo_mk (fun _ => ?_) | refine mo_sR24 (fun _ => ?_) | refine mo_sR25 (fun _ => ?_) | refine mo_ite ?_ ?_ | refine mo_bind (fun _ => ?_) | split))
  refine sk_putRF S13 K dX3_init_18 fl_X3_15 (fun _ _ _ h => by cases h; rfl) rfl rfl rfl rfl e14 ?_
  refine sk_aload_n K dX3_init_21 rfl 0 rfl ?_
  refine sk_iconst (0 : Int32) K dX3_init_22 (by decide) ?_
  obtain ⟨d15, e16, hf⟩ := sk_ob hf
  refine sk_putI d15 K dX3_init_23 fl_X3_18 rfl rfl rfl e16 ?_
  have hR17 : (S13, d15) = (SS, dd) := Option.some.inj hf
  exact sk_vret K dX3_init_26 rfl rfl (congrArg (fun z => z.1) hR17) (congrArg (fun z => z.2) hR17)
noncomputable def fX4_init (S : sk_S) (d : sk_D) (p0 : Nat) : Option (sk_S × sk_D) :=
  (sk_mk S d 20 (10 : Int32)).bind fun b5 => (sk_pR b5.2.1 p0 4 0 b5.1).bind fun S6 => (sk_pI S6 b5.2.2 p0 4 1 (0 : Int32)).bind fun d8 => (sk_pI S6 d8 p0 4 2 (0 : Int32)).bind fun d10 => some (S6, d10)
theorem monoX4_init (S : sk_S) (d : sk_D) (p0 : Nat) : sk_Mo S.1 (fun z => z.1.1) (fX4_init S d p0) := by
  unfold fX4_init
  repeat' (first | exact mo_none | exact mo_some ⟨Nat.le_refl _, Nat.le_refl _⟩ | refine mo_pR (fun _ => ?_) | refine mo_mk (fun _ => ?_) | refine mo_sR24 (fun _ => ?_) | refine mo_sR25 (fun _ => ?_) | refine mo_ite ?_ ?_ | refine mo_bind (fun _ => ?_) | split)
set_option maxRecDepth 100000 in
set_option maxHeartbeats 4000000 in
theorem sX4_init (C : sk_C) (l : Launch) {S : sk_S} {d : sk_D} {p0 : Nat} {SS : sk_S} {dd : sk_D} (hf : fX4_init S d p0 = some (SS, dd)) : sk_Met C l 1 yX4_init cX4_init 1 none [.ref p0] S d none SS dd := by
  have hmono := mo_use (n := S.1) (pr := (fun z => z.1.1)) hf (monoX4_init S d p0)
  refine sk_Met.of (by decide) (Nat.le_of_ble_eq_true rfl) hmono.1 hmono.2 (fun X K0 hX => ?_)
  have K : sk_Ok X C cX4_init 1 RX4 "<init>" none 1 l none SS dd := K0
  have R1 : X.2.2.2.2.2.2.2.2.2.2.2.1 ≤ S.1.1 ∧ X.2.2.2.2.2.2.2.2.2.2.2.2 ≤ S.1.2 := by rw [hX]; exact ⟨Nat.le_refl _, Nat.le_refl _⟩
  have R2 : S.1.1 ≤ SS.1.1 ∧ S.1.2 ≤ SS.1.2 := hmono
  show sk_G X C 1 S d 0 [(0, .ref p0)] []
  unfold fX4_init at hf
  refine sk_aload_n K dX4_init_0 rfl 0 rfl ?_
  refine sk_objInit K dX4_init_1 qw_383 qw_153 qw_154 (by decide) (Nat.le_of_ble_eq_true rfl) ?_
  refine sk_aload_n K dX4_init_4 rfl 0 rfl ?_
  refine sk_bipush (10 : Int32) K dX4_init_5 (by decide) ?_
  obtain ⟨⟨v1, S2, d3⟩, e4, hf⟩ := sk_ob hf
  try dsimp only at hf
  have R1_S2 := sk_le_tr R1 (sk_mk_1 e4)
  have R2_S2 := mo_use (n := S2.1) (pr := (fun z => z.1.1)) hf (by repeat' (first | exact mo_none | exact mo_some ⟨Nat.le_refl _, Nat.le_refl _⟩ | refine mo_pR (fun _ => ?_) | refine mo_mk (fun _ => ?_) | refine mo_sR24 (fun _ => ?_) | refine mo_sR25 (fun _ => ?_) | refine mo_ite ?_ ?_ | refine mo_bind (fun _ => ?_) | split))
  refine sk_newa20 K dX4_init_7 qw_183 e4 R1 R2_S2 ?_
  obtain ⟨S6, e7, hf⟩ := sk_ob hf
  have R1_S6 := sk_le_eq R1_S2 (sk_pR_1 e7)
  have R2_S6 := mo_use (n := S6.1) (pr := (fun z => z.1.1)) hf (by repeat' (first | exact mo_none | exact mo_some ⟨Nat.le_refl _, Nat.le_refl _⟩ | refine mo_pR (fun _ => ?_) | refine mo_mk (fun _ => ?_) | refine mo_sR24 (fun _ => ?_) | refine mo_sR25 (fun _ => ?_) | refine mo_ite ?_ ?_ | refine mo_bind (fun _ => ?_) | split))
  refine sk_putRF S6 K dX4_init_9 fl_X4_9 (fun _ _ _ h => by cases h; rfl) rfl rfl rfl rfl e7 ?_
  refine sk_aload_n K dX4_init_12 rfl 0 rfl ?_
  refine sk_iconst (0 : Int32) K dX4_init_13 (by decide) ?_
  obtain ⟨d8, e9, hf⟩ := sk_ob hf
  refine sk_putI d8 K dX4_init_14 fl_X4_13 rfl rfl rfl e9 ?_
  refine sk_aload_n K dX4_init_17 rfl 0 rfl ?_
  refine sk_iconst (0 : Int32) K dX4_init_18 (by decide) ?_
  obtain ⟨d10, e11, hf⟩ := sk_ob hf
  refine sk_putI d10 K dX4_init_19 fl_X4_17 rfl rfl rfl e11 ?_
  have hR12 : (S6, d10) = (SS, dd) := Option.some.inj hf
  exact sk_vret K dX4_init_22 rfl rfl (congrArg (fun z => z.1) hR12) (congrArg (fun z => z.2) hR12)
noncomputable def fX5_init (S : sk_S) (d : sk_D) (p0 : Nat) : Option (sk_S × sk_D) :=
  (fX2_init (sk_nS S 2 0 (sk_N 2)) (sk_nD S d) (S.1.1 + 1)).bind fun b5 => (sk_pR b5.1 p0 5 0 (S.1.1 + 1)).bind fun S6 => (sk_pI S6 b5.2 p0 5 1 (0 : Int32)).bind fun d8 => (sk_pI S6 d8 p0 5 2 (-1 : Int32)).bind fun d10 => (sk_mk S6 d10 20 (901 : Int32)).bind fun b16 => (sk_pR b16.2.1 p0 5 3 b16.1).bind fun S17 => (sk_mk S17 b16.2.2 20 (901 : Int32)).bind fun b23 => (sk_pR b23.2.1 p0 5 4 b23.1).bind fun S24 => (sk_mk S24 b23.2.2 20 (901 : Int32)).bind fun b30 => (sk_pR b30.2.1 p0 5 5 b30.1).bind fun S31 => (sk_pI S31 b30.2.2 p0 5 6 (0 : Int32)).bind fun d33 => (sk_pI S31 d33 p0 5 7 (0 : Int32)).bind fun d35 => (sk_pI S31 d35 p0 5 8 (0 : Int32)).bind fun d37 => some (S31, d37)
theorem monoX5_init (S : sk_S) (d : sk_D) (p0 : Nat) : sk_Mo S.1 (fun z => z.1.1) (fX5_init S d p0) := by
  unfold fX5_init
  repeat' (first | exact mo_none | exact mo_some ⟨Nat.le_refl _, Nat.le_refl _⟩ | refine mo_pR (fun _ => ?_) | refine mo_mk (fun _ => ?_) | refine mo_sR24 (fun _ => ?_) | refine mo_sR25 (fun _ => ?_) | refine mo_A ⟨Nat.le_refl _, Nat.le_refl _⟩ (monoX2_init _ _ _) (fun _ => ?_) | refine mo_A (sk_nS_le _ _ _ _) (monoX2_init _ _ _) (fun _ => ?_) | refine mo_ite ?_ ?_ | refine mo_bind (fun _ => ?_) | split)
set_option maxRecDepth 100000 in
set_option maxHeartbeats 4000000 in
theorem sX5_init (C : sk_C) (l : Launch) {S : sk_S} {d : sk_D} {p0 : Nat} {SS : sk_S} {dd : sk_D} (hf : fX5_init S d p0 = some (SS, dd)) : sk_Met C l 3 yX5_init cX5_init 1 none [.ref p0] S d none SS dd := by
  have hmono := mo_use (n := S.1) (pr := (fun z => z.1.1)) hf (monoX5_init S d p0)
  refine sk_Met.of (by decide) (Nat.le_of_ble_eq_true rfl) hmono.1 hmono.2 (fun X K0 hX => ?_)
  have K : sk_Ok X C cX5_init 1 RX5 "<init>" none 3 l none SS dd := K0
  have R1 : X.2.2.2.2.2.2.2.2.2.2.2.1 ≤ S.1.1 ∧ X.2.2.2.2.2.2.2.2.2.2.2.2 ≤ S.1.2 := by rw [hX]; exact ⟨Nat.le_refl _, Nat.le_refl _⟩
  have R2 : S.1.1 ≤ SS.1.1 ∧ S.1.2 ≤ SS.1.2 := hmono
  show sk_G X C 1 S d 0 [(0, .ref p0)] []
  unfold fX5_init at hf
  refine sk_aload_n K dX5_init_0 rfl 0 rfl ?_
  refine sk_objInit K dX5_init_1 qw_288 qw_153 qw_154 (by decide) (Nat.le_of_ble_eq_true rfl) ?_
  refine sk_aload_n K dX5_init_4 rfl 0 rfl ?_
  refine sk_new K dX5_init_5 nw_X5_9 R1 (mo_use (n := (sk_nS S 2 0 (sk_N 2)).1) (pr := (fun z => z.1.1)) hf (by repeat' (first | exact mo_none | exact mo_some ⟨Nat.le_refl _, Nat.le_refl _⟩ | refine mo_pR (fun _ => ?_) | refine mo_mk (fun _ => ?_) | refine mo_sR24 (fun _ => ?_) | refine mo_sR25 (fun _ => ?_) | refine mo_A ⟨Nat.le_refl _, Nat.le_refl _⟩ (monoX2_init _ _ _) (fun _ => ?_) | refine mo_A (sk_nS_le _ _ _ _) (monoX2_init _ _ _) (fun _ => ?_) | refine mo_ite ?_ ?_ | refine mo_bind (fun _ => ?_) | split))) ?_
  refine sk_dup K dX5_init_8 rfl ?_
  obtain ⟨⟨S3, d4⟩, e2, hf⟩ := sk_ob hf
  try dsimp only at hf
  have R1_S3 := sk_le_tr (sk_nS_le2 R1) (mo_use e2 (monoX2_init _ _ _))
  have R2_S3 := mo_use (n := S3.1) (pr := (fun z => z.1.1)) hf (by repeat' (first | exact mo_none | exact mo_some ⟨Nat.le_refl _, Nat.le_refl _⟩ | refine mo_pR (fun _ => ?_) | refine mo_mk (fun _ => ?_) | refine mo_sR24 (fun _ => ?_) | refine mo_sR25 (fun _ => ?_) | refine mo_A ⟨Nat.le_refl _, Nat.le_refl _⟩ (monoX2_init _ _ _) (fun _ => ?_) | refine mo_A (sk_nS_le _ _ _ _) (monoX2_init _ _ _) (fun _ => ?_) | refine mo_ite ?_ ?_ | refine mo_bind (fun _ => ?_) | split))
  refine sk_callI (As := []) (st := [.ref (S.1.1 + 1), .ref p0]) K dX5_init_9 cl_X5_11 rfl (sX2_init C l e2) (by decide) rfl rfl (Nat.le_of_ble_eq_true rfl) (sk_nS_le2 R1) R2_S3 ?_
  obtain ⟨S6, e7, hf⟩ := sk_ob hf
  have R1_S6 := sk_le_eq R1_S3 (sk_pR_1 e7)
  have R2_S6 := mo_use (n := S6.1) (pr := (fun z => z.1.1)) hf (by repeat' (first | exact mo_none | exact mo_some ⟨Nat.le_refl _, Nat.le_refl _⟩ | refine mo_pR (fun _ => ?_) | refine mo_mk (fun _ => ?_) | refine mo_sR24 (fun _ => ?_) | refine mo_sR25 (fun _ => ?_) | refine mo_A ⟨Nat.le_refl _, Nat.le_refl _⟩ (monoX2_init _ _ _) (fun _ => ?_) | refine mo_A (sk_nS_le _ _ _ _) (monoX2_init _ _ _) (fun _ => ?_) | refine mo_ite ?_ ?_ | refine mo_bind (fun _ => ?_) | split))
  refine sk_putRF S6 K dX5_init_12 fl_X5_12 (fun _ _ _ h => by cases h; rfl) rfl rfl rfl rfl e7 ?_
  refine sk_aload_n K dX5_init_15 rfl 0 rfl ?_
  refine sk_iconst (0 : Int32) K dX5_init_16 (by decide) ?_
  obtain ⟨d8, e9, hf⟩ := sk_ob hf
  refine sk_putI d8 K dX5_init_17 fl_X5_18 rfl rfl rfl e9 ?_
  refine sk_aload_n K dX5_init_20 rfl 0 rfl ?_
  refine sk_iconst (-1 : Int32) K dX5_init_21 (by decide) ?_
  obtain ⟨d10, e11, hf⟩ := sk_ob hf
  refine sk_putI d10 K dX5_init_22 fl_X5_22 rfl rfl rfl e11 ?_
  refine sk_aload_n K dX5_init_25 rfl 0 rfl ?_
  refine sk_sipush (901 : Int32) K dX5_init_26 (by decide) ?_
  obtain ⟨⟨v12, S13, d14⟩, e15, hf⟩ := sk_ob hf
  try dsimp only at hf
  have R1_S13 := sk_le_tr R1_S6 (sk_mk_1 e15)
  have R2_S13 := mo_use (n := S13.1) (pr := (fun z => z.1.1)) hf (by repeat' (first | exact mo_none | exact mo_some ⟨Nat.le_refl _, Nat.le_refl _⟩ | refine mo_pR (fun _ => ?_) | refine mo_mk (fun _ => ?_) | refine mo_sR24 (fun _ => ?_) | refine mo_sR25 (fun _ => ?_) | refine mo_A ⟨Nat.le_refl _, Nat.le_refl _⟩ (monoX2_init _ _ _) (fun _ => ?_) | refine mo_A (sk_nS_le _ _ _ _) (monoX2_init _ _ _) (fun _ => ?_) | refine mo_ite ?_ ?_ | refine mo_bind (fun _ => ?_) | split))
  refine sk_newa20 K dX5_init_29 qw_183 e15 R1_S6 R2_S13 ?_
  obtain ⟨S17, e18, hf⟩ := sk_ob hf
  have R1_S17 := sk_le_eq R1_S13 (sk_pR_1 e18)
  have R2_S17 := mo_use (n := S17.1) (pr := (fun z => z.1.1)) hf (by repeat' (first | exact mo_none | exact mo_some ⟨Nat.le_refl _, Nat.le_refl _⟩ | refine mo_pR (fun _ => ?_) | refine mo_mk (fun _ => ?_) | refine mo_sR24 (fun _ => ?_) | refine mo_sR25 (fun _ => ?_) | refine mo_A ⟨Nat.le_refl _, Nat.le_refl _⟩ (monoX2_init _ _ _) (fun _ => ?_) | refine mo_A (sk_nS_le _ _ _ _) (monoX2_init _ _ _) (fun _ => ?_) | refine mo_ite ?_ ?_ | refine mo_bind (fun _ => ?_) | split))
  refine sk_putRF S17 K dX5_init_31 fl_X5_25 (fun _ _ _ h => by cases h; rfl) rfl rfl rfl rfl e18 ?_
  refine sk_aload_n K dX5_init_34 rfl 0 rfl ?_
  refine sk_sipush (901 : Int32) K dX5_init_35 (by decide) ?_
  obtain ⟨⟨v19, S20, d21⟩, e22, hf⟩ := sk_ob hf
  try dsimp only at hf
  have R1_S20 := sk_le_tr R1_S17 (sk_mk_1 e22)
  have R2_S20 := mo_use (n := S20.1) (pr := (fun z => z.1.1)) hf (by repeat' (first | exact mo_none | exact mo_some ⟨Nat.le_refl _, Nat.le_refl _⟩ | refine mo_pR (fun _ => ?_) | refine mo_mk (fun _ => ?_) | refine mo_sR24 (fun _ => ?_) | refine mo_sR25 (fun _ => ?_) | refine mo_A ⟨Nat.le_refl _, Nat.le_refl _⟩ (monoX2_init _ _ _) (fun _ => ?_) | refine mo_A (sk_nS_le _ _ _ _) (monoX2_init _ _ _) (fun _ => ?_) | refine mo_ite ?_ ?_ | refine mo_bind (fun _ => ?_) | split))
  refine sk_newa20 K dX5_init_38 qw_183 e22 R1_S17 R2_S20 ?_
  obtain ⟨S24, e25, hf⟩ := sk_ob hf
  have R1_S24 := sk_le_eq R1_S20 (sk_pR_1 e25)
  have R2_S24 := mo_use (n := S24.1) (pr := (fun z => z.1.1)) hf (by repeat' (first | exact mo_none | exact mo_some ⟨Nat.le_refl _, Nat.le_refl _⟩ | refine mo_pR (fun _ => ?_) | refine mo_mk (fun _ => ?_) | refine mo_sR24 (fun _ => ?_) | refine mo_sR25 (fun _ => ?_) | refine mo_A ⟨Nat.le_refl _, Nat.le_refl _⟩ (monoX2_init _ _ _) (fun _ => ?_) | refine mo_A (sk_nS_le _ _ _ _) (monoX2_init _ _ _) (fun _ => ?_) | refine mo_ite ?_ ?_ | refine mo_bind (fun _ => ?_) | split))
  refine sk_putRF S24 K dX5_init_40 fl_X5_29 (fun _ _ _ h => by cases h; rfl) rfl rfl rfl rfl e25 ?_
  refine sk_aload_n K dX5_init_43 rfl 0 rfl ?_
  refine sk_sipush (901 : Int32) K dX5_init_44 (by decide) ?_
  obtain ⟨⟨v26, S27, d28⟩, e29, hf⟩ := sk_ob hf
  try dsimp only at hf
  have R1_S27 := sk_le_tr R1_S24 (sk_mk_1 e29)
  have R2_S27 := mo_use (n := S27.1) (pr := (fun z => z.1.1)) hf (by repeat' (first | exact mo_none | exact mo_some ⟨Nat.le_refl _, Nat.le_refl _⟩ | refine mo_pR (fun _ => ?_) | refine mo_mk (fun _ => ?_) | refine mo_sR24 (fun _ => ?_) | refine mo_sR25 (fun _ => ?_) | refine mo_A ⟨Nat.le_refl _, Nat.le_refl _⟩ (monoX2_init _ _ _) (fun _ => ?_) | refine mo_A (sk_nS_le _ _ _ _) (monoX2_init _ _ _) (fun _ => ?_) | refine mo_ite ?_ ?_ | refine mo_bind (fun _ => ?_) | split))
  refine sk_newa20 K dX5_init_47 qw_183 e29 R1_S24 R2_S27 ?_
  obtain ⟨S31, e32, hf⟩ := sk_ob hf
  have R1_S31 := sk_le_eq R1_S27 (sk_pR_1 e32)
  have R2_S31 := mo_use (n := S31.1) (pr := (fun z => z.1.1)) hf (by repeat' (first | exact mo_none | exact mo_some ⟨Nat.le_refl _, Nat.le_refl _⟩ | refine mo_pR (fun _ => ?_) | refine mo_mk (fun _ => ?_) | refine mo_sR24 (fun _ => ?_) | refine mo_sR25 (fun _ => ?_) | refine mo_A ⟨Nat.le_refl _, Nat.le_refl _⟩ (monoX2_init _ _ _) (fun _ => ?_) | refine mo_A (sk_nS_le _ _ _ _) (monoX2_init _ _ _) (fun _ => ?_) | refine mo_ite ?_ ?_ | refine mo_bind (fun _ => ?_) | split))
  refine sk_putRF S31 K dX5_init_49 fl_X5_32 (fun _ _ _ h => by cases h; rfl) rfl rfl rfl rfl e32 ?_
  refine sk_aload_n K dX5_init_52 rfl 0 rfl ?_
  refine sk_iconst (0 : Int32) K dX5_init_53 (by decide) ?_
  obtain ⟨d33, e34, hf⟩ := sk_ob hf
  refine sk_putI d33 K dX5_init_54 fl_X5_35 rfl rfl rfl e34 ?_
  refine sk_aload_n K dX5_init_57 rfl 0 rfl ?_
  refine sk_iconst (0 : Int32) K dX5_init_58 (by decide) ?_
  obtain ⟨d35, e36, hf⟩ := sk_ob hf
  refine sk_putI d35 K dX5_init_59 fl_X5_38 rfl rfl rfl e36 ?_
  refine sk_aload_n K dX5_init_62 rfl 0 rfl ?_
  refine sk_iconst (0 : Int32) K dX5_init_63 (by decide) ?_
  obtain ⟨d37, e38, hf⟩ := sk_ob hf
  refine sk_putI d37 K dX5_init_64 fl_X5_41 rfl (by decide) (by decide) e38 ?_
  have hR39 : (S31, d37) = (SS, dd) := Option.some.inj hf
  exact sk_vret K dX5_init_67 rfl rfl (congrArg (fun z => z.1) hR39) (congrArg (fun z => z.2) hR39)
noncomputable def fX6_init (S : sk_S) (d : sk_D) (p0 : Nat) : Option (sk_S × sk_D) :=
  (sk_mk S d 21 (40 : Int32)).bind fun b5 => (sk_pR b5.2.1 p0 6 0 b5.1).bind fun S6 => (sk_pI S6 b5.2.2 p0 6 1 (0 : Int32)).bind fun d8 => (sk_pI S6 d8 p0 6 2 (0 : Int32)).bind fun d10 => (sk_pI S6 d10 p0 6 3 (0 : Int32)).bind fun d12 => some (S6, d12)
theorem monoX6_init (S : sk_S) (d : sk_D) (p0 : Nat) : sk_Mo S.1 (fun z => z.1.1) (fX6_init S d p0) := by
  unfold fX6_init
  repeat' (first | exact mo_none | exact mo_some ⟨Nat.le_refl _, Nat.le_refl _⟩ | refine mo_pR (fun _ => ?_) | refine mo_mk (fun _ => ?_) | refine mo_sR24 (fun _ => ?_) | refine mo_sR25 (fun _ => ?_) | refine mo_ite ?_ ?_ | refine mo_bind (fun _ => ?_) | split)
set_option maxRecDepth 100000 in
set_option maxHeartbeats 4000000 in
theorem sX6_init (C : sk_C) (l : Launch) {S : sk_S} {d : sk_D} {p0 : Nat} {SS : sk_S} {dd : sk_D} (hf : fX6_init S d p0 = some (SS, dd)) : sk_Met C l 1 yX6_init cX6_init 1 none [.ref p0] S d none SS dd := by
  have hmono := mo_use (n := S.1) (pr := (fun z => z.1.1)) hf (monoX6_init S d p0)
  refine sk_Met.of (by decide) (Nat.le_of_ble_eq_true rfl) hmono.1 hmono.2 (fun X K0 hX => ?_)
  have K : sk_Ok X C cX6_init 1 RX6 "<init>" none 1 l none SS dd := K0
  have R1 : X.2.2.2.2.2.2.2.2.2.2.2.1 ≤ S.1.1 ∧ X.2.2.2.2.2.2.2.2.2.2.2.2 ≤ S.1.2 := by rw [hX]; exact ⟨Nat.le_refl _, Nat.le_refl _⟩
  have R2 : S.1.1 ≤ SS.1.1 ∧ S.1.2 ≤ SS.1.2 := hmono
  show sk_G X C 1 S d 0 [(0, .ref p0)] []
  unfold fX6_init at hf
  refine sk_aload_n K dX6_init_0 rfl 0 rfl ?_
  refine sk_objInit K dX6_init_1 qw_404 qw_153 qw_154 (by decide) (Nat.le_of_ble_eq_true rfl) ?_
  refine sk_aload_n K dX6_init_4 rfl 0 rfl ?_
  refine sk_bipush (40 : Int32) K dX6_init_5 (by decide) ?_
  obtain ⟨⟨v1, S2, d3⟩, e4, hf⟩ := sk_ob hf
  try dsimp only at hf
  have R1_S2 := sk_le_tr R1 (sk_mk_1 e4)
  have R2_S2 := mo_use (n := S2.1) (pr := (fun z => z.1.1)) hf (by repeat' (first | exact mo_none | exact mo_some ⟨Nat.le_refl _, Nat.le_refl _⟩ | refine mo_pR (fun _ => ?_) | refine mo_mk (fun _ => ?_) | refine mo_sR24 (fun _ => ?_) | refine mo_sR25 (fun _ => ?_) | refine mo_ite ?_ ?_ | refine mo_bind (fun _ => ?_) | split))
  refine sk_newa21 K dX6_init_7 qw_351 e4 R1 R2_S2 ?_
  obtain ⟨S6, e7, hf⟩ := sk_ob hf
  have R1_S6 := sk_le_eq R1_S2 (sk_pR_1 e7)
  have R2_S6 := mo_use (n := S6.1) (pr := (fun z => z.1.1)) hf (by repeat' (first | exact mo_none | exact mo_some ⟨Nat.le_refl _, Nat.le_refl _⟩ | refine mo_pR (fun _ => ?_) | refine mo_mk (fun _ => ?_) | refine mo_sR24 (fun _ => ?_) | refine mo_sR25 (fun _ => ?_) | refine mo_ite ?_ ?_ | refine mo_bind (fun _ => ?_) | split))
  refine sk_putRF S6 K dX6_init_9 fl_X6_9 (fun _ _ _ h => by cases h; rfl) rfl rfl rfl rfl e7 ?_
  refine sk_aload_n K dX6_init_12 rfl 0 rfl ?_
  refine sk_iconst (0 : Int32) K dX6_init_13 (by decide) ?_
  obtain ⟨d8, e9, hf⟩ := sk_ob hf
  refine sk_putI d8 K dX6_init_14 fl_X6_13 rfl rfl rfl e9 ?_
  refine sk_aload_n K dX6_init_17 rfl 0 rfl ?_
  refine sk_iconst (0 : Int32) K dX6_init_18 (by decide) ?_
  obtain ⟨d10, e11, hf⟩ := sk_ob hf
  refine sk_putI d10 K dX6_init_19 fl_X6_17 rfl rfl rfl e11 ?_
  refine sk_aload_n K dX6_init_22 rfl 0 rfl ?_
  refine sk_iconst (0 : Int32) K dX6_init_23 (by decide) ?_
  obtain ⟨d12, e13, hf⟩ := sk_ob hf
  refine sk_putI d12 K dX6_init_24 fl_X6_20 rfl (by decide) (by decide) e13 ?_
  have hR14 : (S6, d12) = (SS, dd) := Option.some.inj hf
  exact sk_vret K dX6_init_27 rfl rfl (congrArg (fun z => z.1) hR14) (congrArg (fun z => z.2) hR14)
noncomputable def fX8_init (S : sk_S) (d : sk_D) (p0 : Nat) : Option (sk_S × sk_D) :=
  (sk_pI S d p0 7 0 (0 : Int32)).bind fun d1 => (sk_pI S d1 p0 7 1 (-1 : Int32)).bind fun d3 => (sk_pI S d3 p0 7 2 (0 : Int32)).bind fun d5 => (sk_mk S d5 20 (1 : Int32)).bind fun b11 => (sk_pR b11.2.1 p0 7 3 b11.1).bind fun S12 => (sk_mk S12 b11.2.2 20 (1 : Int32)).bind fun b18 => (sk_pR b18.2.1 p0 7 4 b18.1).bind fun S19 => (sk_mk S19 b18.2.2 21 (1 : Int32)).bind fun b25 => (sk_pR b25.2.1 p0 7 5 b25.1).bind fun S26 => (sk_mk S26 b25.2.2 21 (1 : Int32)).bind fun b32 => (sk_pR b32.2.1 p0 7 6 b32.1).bind fun S33 => some (S33, b32.2.2)
theorem monoX8_init (S : sk_S) (d : sk_D) (p0 : Nat) : sk_Mo S.1 (fun z => z.1.1) (fX8_init S d p0) := by
  unfold fX8_init
  repeat' (first | exact mo_none | exact mo_some ⟨Nat.le_refl _, Nat.le_refl _⟩ | refine mo_pR (fun _ => ?_) | refine mo_mk (fun _ => ?_) | refine mo_sR24 (fun _ => ?_) | refine mo_sR25 (fun _ => ?_) | refine mo_ite ?_ ?_ | refine mo_bind (fun _ => ?_) | split)
set_option maxRecDepth 100000 in
set_option maxHeartbeats 4000000 in
theorem sX8_init (C : sk_C) (l : Launch) {S : sk_S} {d : sk_D} {p0 : Nat} {SS : sk_S} {dd : sk_D} (hf : fX8_init S d p0 = some (SS, dd)) : sk_Met C l 1 yX8_init cX8_init 1 none [.ref p0] S d none SS dd := by
  have hmono := mo_use (n := S.1) (pr := (fun z => z.1.1)) hf (monoX8_init S d p0)
  refine sk_Met.of (by decide) (Nat.le_of_ble_eq_true rfl) hmono.1 hmono.2 (fun X K0 hX => ?_)
  have K : sk_Ok X C cX8_init 1 RX8 "<init>" none 1 l none SS dd := K0
  have R1 : X.2.2.2.2.2.2.2.2.2.2.2.1 ≤ S.1.1 ∧ X.2.2.2.2.2.2.2.2.2.2.2.2 ≤ S.1.2 := by rw [hX]; exact ⟨Nat.le_refl _, Nat.le_refl _⟩
  have R2 : S.1.1 ≤ SS.1.1 ∧ S.1.2 ≤ SS.1.2 := hmono
  show sk_G X C 1 S d 0 [(0, .ref p0)] []
  unfold fX8_init at hf
  refine sk_aload_n K dX8_init_0 rfl 0 rfl ?_
  refine sk_objInit K dX8_init_1 qw_327 qw_153 qw_154 (by decide) (Nat.le_of_ble_eq_true rfl) ?_
  refine sk_aload_n K dX8_init_4 rfl 0 rfl ?_
  refine sk_iconst (0 : Int32) K dX8_init_5 (by decide) ?_
  obtain ⟨d1, e2, hf⟩ := sk_ob hf
  refine sk_putI d1 K dX8_init_6 fl_X8_9 rfl rfl rfl e2 ?_
  refine sk_aload_n K dX8_init_9 rfl 0 rfl ?_
  refine sk_iconst (-1 : Int32) K dX8_init_10 (by decide) ?_
  obtain ⟨d3, e4, hf⟩ := sk_ob hf
  refine sk_putI d3 K dX8_init_11 fl_X8_15 rfl rfl rfl e4 ?_
  refine sk_aload_n K dX8_init_14 rfl 0 rfl ?_
  refine sk_iconst (0 : Int32) K dX8_init_15 (by decide) ?_
  obtain ⟨d5, e6, hf⟩ := sk_ob hf
  refine sk_putI d5 K dX8_init_16 fl_X8_18 rfl rfl rfl e6 ?_
  refine sk_aload_n K dX8_init_19 rfl 0 rfl ?_
  refine sk_iconst (1 : Int32) K dX8_init_20 (by decide) ?_
  obtain ⟨⟨v7, S8, d9⟩, e10, hf⟩ := sk_ob hf
  try dsimp only at hf
  have R1_S8 := sk_le_tr R1 (sk_mk_1 e10)
  have R2_S8 := mo_use (n := S8.1) (pr := (fun z => z.1.1)) hf (by repeat' (first | exact mo_none | exact mo_some ⟨Nat.le_refl _, Nat.le_refl _⟩ | refine mo_pR (fun _ => ?_) | refine mo_mk (fun _ => ?_) | refine mo_sR24 (fun _ => ?_) | refine mo_sR25 (fun _ => ?_) | refine mo_ite ?_ ?_ | refine mo_bind (fun _ => ?_) | split))
  refine sk_newa20 K dX8_init_21 qw_183 e10 R1 R2_S8 ?_
  obtain ⟨S12, e13, hf⟩ := sk_ob hf
  have R1_S12 := sk_le_eq R1_S8 (sk_pR_1 e13)
  have R2_S12 := mo_use (n := S12.1) (pr := (fun z => z.1.1)) hf (by repeat' (first | exact mo_none | exact mo_some ⟨Nat.le_refl _, Nat.le_refl _⟩ | refine mo_pR (fun _ => ?_) | refine mo_mk (fun _ => ?_) | refine mo_sR24 (fun _ => ?_) | refine mo_sR25 (fun _ => ?_) | refine mo_ite ?_ ?_ | refine mo_bind (fun _ => ?_) | split))
  refine sk_putR S12 K dX8_init_23 fl_X8_21 rfl rfl rfl e13 ?_
  refine sk_aload_n K dX8_init_26 rfl 0 rfl ?_
  refine sk_iconst (1 : Int32) K dX8_init_27 (by decide) ?_
  obtain ⟨⟨v14, S15, d16⟩, e17, hf⟩ := sk_ob hf
  try dsimp only at hf
  have R1_S15 := sk_le_tr R1_S12 (sk_mk_1 e17)
  have R2_S15 := mo_use (n := S15.1) (pr := (fun z => z.1.1)) hf (by repeat' (first | exact mo_none | exact mo_some ⟨Nat.le_refl _, Nat.le_refl _⟩ | refine mo_pR (fun _ => ?_) | refine mo_mk (fun _ => ?_) | refine mo_sR24 (fun _ => ?_) | refine mo_sR25 (fun _ => ?_) | refine mo_ite ?_ ?_ | refine mo_bind (fun _ => ?_) | split))
  refine sk_newa20 K dX8_init_28 qw_183 e17 R1_S12 R2_S15 ?_
  obtain ⟨S19, e20, hf⟩ := sk_ob hf
  have R1_S19 := sk_le_eq R1_S15 (sk_pR_1 e20)
  have R2_S19 := mo_use (n := S19.1) (pr := (fun z => z.1.1)) hf (by repeat' (first | exact mo_none | exact mo_some ⟨Nat.le_refl _, Nat.le_refl _⟩ | refine mo_pR (fun _ => ?_) | refine mo_mk (fun _ => ?_) | refine mo_sR24 (fun _ => ?_) | refine mo_sR25 (fun _ => ?_) | refine mo_ite ?_ ?_ | refine mo_bind (fun _ => ?_) | split))
  refine sk_putR S19 K dX8_init_30 fl_X8_25 rfl rfl rfl e20 ?_
  refine sk_aload_n K dX8_init_33 rfl 0 rfl ?_
  refine sk_iconst (1 : Int32) K dX8_init_34 (by decide) ?_
  obtain ⟨⟨v21, S22, d23⟩, e24, hf⟩ := sk_ob hf
  try dsimp only at hf
  have R1_S22 := sk_le_tr R1_S19 (sk_mk_1 e24)
  have R2_S22 := mo_use (n := S22.1) (pr := (fun z => z.1.1)) hf (by repeat' (first | exact mo_none | exact mo_some ⟨Nat.le_refl _, Nat.le_refl _⟩ | refine mo_pR (fun _ => ?_) | refine mo_mk (fun _ => ?_) | refine mo_sR24 (fun _ => ?_) | refine mo_sR25 (fun _ => ?_) | refine mo_ite ?_ ?_ | refine mo_bind (fun _ => ?_) | split))
  refine sk_newa21 K dX8_init_35 qw_351 e24 R1_S19 R2_S22 ?_
  obtain ⟨S26, e27, hf⟩ := sk_ob hf
  have R1_S26 := sk_le_eq R1_S22 (sk_pR_1 e27)
  have R2_S26 := mo_use (n := S26.1) (pr := (fun z => z.1.1)) hf (by repeat' (first | exact mo_none | exact mo_some ⟨Nat.le_refl _, Nat.le_refl _⟩ | refine mo_pR (fun _ => ?_) | refine mo_mk (fun _ => ?_) | refine mo_sR24 (fun _ => ?_) | refine mo_sR25 (fun _ => ?_) | refine mo_ite ?_ ?_ | refine mo_bind (fun _ => ?_) | split))
  refine sk_putR S26 K dX8_init_37 fl_X8_28 rfl rfl rfl e27 ?_
  refine sk_aload_n K dX8_init_40 rfl 0 rfl ?_
  refine sk_iconst (1 : Int32) K dX8_init_41 (by decide) ?_
  obtain ⟨⟨v28, S29, d30⟩, e31, hf⟩ := sk_ob hf
  try dsimp only at hf
  have R1_S29 := sk_le_tr R1_S26 (sk_mk_1 e31)
  have R2_S29 := mo_use (n := S29.1) (pr := (fun z => z.1.1)) hf (by repeat' (first | exact mo_none | exact mo_some ⟨Nat.le_refl _, Nat.le_refl _⟩ | refine mo_pR (fun _ => ?_) | refine mo_mk (fun _ => ?_) | refine mo_sR24 (fun _ => ?_) | refine mo_sR25 (fun _ => ?_) | refine mo_ite ?_ ?_ | refine mo_bind (fun _ => ?_) | split))
  refine sk_newa21 K dX8_init_42 qw_351 e31 R1_S26 R2_S29 ?_
  obtain ⟨S33, e34, hf⟩ := sk_ob hf
  have R1_S33 := sk_le_eq R1_S29 (sk_pR_1 e34)
  have R2_S33 := mo_use (n := S33.1) (pr := (fun z => z.1.1)) hf (by repeat' (first | exact mo_none | exact mo_some ⟨Nat.le_refl _, Nat.le_refl _⟩ | refine mo_pR (fun _ => ?_) | refine mo_mk (fun _ => ?_) | refine mo_sR24 (fun _ => ?_) | refine mo_sR25 (fun _ => ?_) | refine mo_ite ?_ ?_ | refine mo_bind (fun _ => ?_) | split))
  refine sk_putR S33 K dX8_init_44 fl_X8_32 rfl rfl rfl e34 ?_
  have hR35 : (S33, d30) = (SS, dd) := Option.some.inj hf
  exact sk_vret K dX8_init_47 rfl rfl (congrArg (fun z => z.1) hR35) (congrArg (fun z => z.2) hR35)
noncomputable def fX8_fit (S : sk_S) (d : sk_D) (p0 : Nat) (p1 : Int32) : Option (sk_S × sk_D) :=
  (sk_pI S d p0 7 2 (if (0 : Int32) < (if p1 < (8 : Int32) then p1 else (8 : Int32)) then (if p1 < (8 : Int32) then p1 else (8 : Int32)) else (0 : Int32))).bind fun d5 => (sk_gI S d5 p0 7 2).bind fun v7 => (sk_gR S p0 7 4).bind fun v9 => (sk_al S v9 20).bind fun v11 => if ((1 : Int32) <<< (((2 : Int32) * v7) &&& 31)) ≤ v11 then (some (S, d5)) else ((sk_mk S d5 20 ((1 : Int32) <<< (((2 : Int32) * v7) &&& 31))).bind fun b19 => (sk_pR b19.2.1 p0 7 3 b19.1).bind fun S20 => (sk_mk S20 b19.2.2 20 ((1 : Int32) <<< (((2 : Int32) * v7) &&& 31))).bind fun b26 => (sk_pR b26.2.1 p0 7 4 b26.1).bind fun S27 => (sk_mk S27 b26.2.2 21 ((1 : Int32) <<< (((2 : Int32) * v7) &&& 31))).bind fun b33 => (sk_pR b33.2.1 p0 7 5 b33.1).bind fun S34 => (sk_mk S34 b33.2.2 21 ((1 : Int32) <<< (((2 : Int32) * v7) &&& 31))).bind fun b40 => (sk_pR b40.2.1 p0 7 6 b40.1).bind fun S41 => some (S41, b40.2.2))
theorem monoX8_fit (S : sk_S) (d : sk_D) (p0 : Nat) (p1 : Int32) : sk_Mo S.1 (fun z => z.1.1) (fX8_fit S d p0 p1) := by
  unfold fX8_fit
  repeat' (first | exact mo_none | exact mo_some ⟨Nat.le_refl _, Nat.le_refl _⟩ | refine mo_pR (fun _ => ?_) | refine mo_mk (fun _ => ?_) | refine mo_sR24 (fun _ => ?_) | refine mo_sR25 (fun _ => ?_) | refine mo_ite ?_ ?_ | refine mo_bind (fun _ => ?_) | split)
set_option maxRecDepth 100000 in
set_option maxHeartbeats 4000000 in
theorem sX8_fit (C : sk_C) (l : Launch) {S : sk_S} {d : sk_D} {p0 : Nat} {p1 : Int32} {SS : sk_S} {dd : sk_D} (hf : fX8_fit S d p0 p1 = some (SS, dd)) : sk_Met C l 1 yX8_fit cX8_fit 3 none [.ref p0, .int p1] S d none SS dd := by
  have hmono := mo_use (n := S.1) (pr := (fun z => z.1.1)) hf (monoX8_fit S d p0 p1)
  refine sk_Met.of (by decide) (Nat.le_of_ble_eq_true rfl) hmono.1 hmono.2 (fun X K0 hX => ?_)
  have K : sk_Ok X C cX8_fit 3 RX8 "fit" none 1 l none SS dd := K0
  have R1 : X.2.2.2.2.2.2.2.2.2.2.2.1 ≤ S.1.1 ∧ X.2.2.2.2.2.2.2.2.2.2.2.2 ≤ S.1.2 := by rw [hX]; exact ⟨Nat.le_refl _, Nat.le_refl _⟩
  have R2 : S.1.1 ≤ SS.1.1 ∧ S.1.2 ≤ SS.1.2 := hmono
  show sk_G X C 3 S d 0 [(0, .ref p0), (1, .int p1)] []
  unfold fX8_fit at hf
  refine sk_aload_n K dX8_fit_0 rfl 0 rfl ?_
  refine sk_iconst (0 : Int32) K dX8_fit_1 (by decide) ?_
  refine sk_bipush (8 : Int32) K dX8_fit_2 (by decide) ?_
  refine sk_iload_n K dX8_fit_4 rfl 1 rfl ?_
  refine sk_mmin K dX8_fit_5 qw_972 qw_473 qw_137 qw_474 (by decide) (Nat.le_of_ble_eq_true rfl) R2 ?_
  refine sk_mmax K dX8_fit_8 qw_973 qw_558 qw_137 qw_559 (by decide) (Nat.le_of_ble_eq_true rfl) R2 ?_
  obtain ⟨d5, e6, hf⟩ := sk_ob hf
  refine sk_putI d5 K dX8_fit_11 fl_X8_18 rfl rfl rfl e6 ?_
  refine sk_iconst (1 : Int32) K dX8_fit_14 (by decide) ?_
  refine sk_iconst (2 : Int32) K dX8_fit_15 (by decide) ?_
  refine sk_aload_n K dX8_fit_16 rfl 0 rfl ?_
  obtain ⟨v7, e8, hf⟩ := sk_ob hf
  refine sk_getI K dX8_fit_17 fl_X8_18 rfl e8 ?_
  refine sk_imul K dX8_fit_20 ?_
  refine sk_ishl K dX8_fit_21 ?_
  refine sk_istore_n [(2, .int ((1 : Int32) <<< (((2 : Int32) * v7) &&& 31))), (0, .ref p0), (1, .int p1)] K dX8_fit_22 rfl (by decide) rfl ?_
  refine sk_aload_n K dX8_fit_23 rfl 1 rfl ?_
  obtain ⟨v9, e10, hf⟩ := sk_ob hf
  refine sk_getR K dX8_fit_24 fl_X8_25 rfl e10 ?_
  obtain ⟨v11, e12, hf⟩ := sk_ob hf
  refine sk_al20 K dX8_fit_27 e12 ?_
  refine sk_iload_n K dX8_fit_28 rfl 0 rfl ?_
  refine sk_icmp_ge 60 K dX8_fit_29 (by decide) (fun h13 => ?_) (fun h13 => ?_)
  · rw [if_pos h13] at hf
    have hR14 : (S, d5) = (SS, dd) := Option.some.inj hf
    exact sk_vret K dX8_fit_60 rfl rfl (congrArg (fun z => z.1) hR14) (congrArg (fun z => z.2) hR14)
  · rw [if_neg h13] at hf
    refine sk_aload_n K dX8_fit_32 rfl 1 rfl ?_
    refine sk_iload_n K dX8_fit_33 rfl 0 rfl ?_
    obtain ⟨⟨v15, S16, d17⟩, e18, hf⟩ := sk_ob hf
    try dsimp only at hf
    have R1_S16 := sk_le_tr R1 (sk_mk_1 e18)
    have R2_S16 := mo_use (n := S16.1) (pr := (fun z => z.1.1)) hf (by repeat' (first | exact mo_none | exact mo_some ⟨Nat.le_refl _, Nat.le_refl _⟩ | refine mo_pR (fun _ => ?_) | refine mo_mk (fun _ => ?_) | refine mo_sR24 (fun _ => ?_) | refine mo_sR25 (fun _ => ?_) | refine mo_ite ?_ ?_ | refine mo_bind (fun _ => ?_) | split))
    refine sk_newa20 K dX8_fit_34 qw_183 e18 R1 R2_S16 ?_
    obtain ⟨S20, e21, hf⟩ := sk_ob hf
    have R1_S20 := sk_le_eq R1_S16 (sk_pR_1 e21)
    have R2_S20 := mo_use (n := S20.1) (pr := (fun z => z.1.1)) hf (by repeat' (first | exact mo_none | exact mo_some ⟨Nat.le_refl _, Nat.le_refl _⟩ | refine mo_pR (fun _ => ?_) | refine mo_mk (fun _ => ?_) | refine mo_sR24 (fun _ => ?_) | refine mo_sR25 (fun _ => ?_) | refine mo_ite ?_ ?_ | refine mo_bind (fun _ => ?_) | split))
    refine sk_putR S20 K dX8_fit_36 fl_X8_21 rfl rfl rfl e21 ?_
    refine sk_aload_n K dX8_fit_39 rfl 1 rfl ?_
    refine sk_iload_n K dX8_fit_40 rfl 0 rfl ?_
    obtain ⟨⟨v22, S23, d24⟩, e25, hf⟩ := sk_ob hf
    try dsimp only at hf
    have R1_S23 := sk_le_tr R1_S20 (sk_mk_1 e25)
    have R2_S23 := mo_use (n := S23.1) (pr := (fun z => z.1.1)) hf (by repeat' (first | exact mo_none | exact mo_some ⟨Nat.le_refl _, Nat.le_refl _⟩ | refine mo_pR (fun _ => ?_) | refine mo_mk (fun _ => ?_) | refine mo_sR24 (fun _ => ?_) | refine mo_sR25 (fun _ => ?_) | refine mo_ite ?_ ?_ | refine mo_bind (fun _ => ?_) | split))
    refine sk_newa20 K dX8_fit_41 qw_183 e25 R1_S20 R2_S23 ?_
    obtain ⟨S27, e28, hf⟩ := sk_ob hf
    have R1_S27 := sk_le_eq R1_S23 (sk_pR_1 e28)
    have R2_S27 := mo_use (n := S27.1) (pr := (fun z => z.1.1)) hf (by repeat' (first | exact mo_none | exact mo_some ⟨Nat.le_refl _, Nat.le_refl _⟩ | refine mo_pR (fun _ => ?_) | refine mo_mk (fun _ => ?_) | refine mo_sR24 (fun _ => ?_) | refine mo_sR25 (fun _ => ?_) | refine mo_ite ?_ ?_ | refine mo_bind (fun _ => ?_) | split))
    refine sk_putR S27 K dX8_fit_43 fl_X8_25 rfl rfl rfl e28 ?_
    refine sk_aload_n K dX8_fit_46 rfl 1 rfl ?_
    refine sk_iload_n K dX8_fit_47 rfl 0 rfl ?_
    obtain ⟨⟨v29, S30, d31⟩, e32, hf⟩ := sk_ob hf
    try dsimp only at hf
    have R1_S30 := sk_le_tr R1_S27 (sk_mk_1 e32)
    have R2_S30 := mo_use (n := S30.1) (pr := (fun z => z.1.1)) hf (by repeat' (first | exact mo_none | exact mo_some ⟨Nat.le_refl _, Nat.le_refl _⟩ | refine mo_pR (fun _ => ?_) | refine mo_mk (fun _ => ?_) | refine mo_sR24 (fun _ => ?_) | refine mo_sR25 (fun _ => ?_) | refine mo_ite ?_ ?_ | refine mo_bind (fun _ => ?_) | split))
    refine sk_newa21 K dX8_fit_48 qw_351 e32 R1_S27 R2_S30 ?_
    obtain ⟨S34, e35, hf⟩ := sk_ob hf
    have R1_S34 := sk_le_eq R1_S30 (sk_pR_1 e35)
    have R2_S34 := mo_use (n := S34.1) (pr := (fun z => z.1.1)) hf (by repeat' (first | exact mo_none | exact mo_some ⟨Nat.le_refl _, Nat.le_refl _⟩ | refine mo_pR (fun _ => ?_) | refine mo_mk (fun _ => ?_) | refine mo_sR24 (fun _ => ?_) | refine mo_sR25 (fun _ => ?_) | refine mo_ite ?_ ?_ | refine mo_bind (fun _ => ?_) | split))
    refine sk_putR S34 K dX8_fit_50 fl_X8_28 rfl rfl rfl e35 ?_
    refine sk_aload_n K dX8_fit_53 rfl 1 rfl ?_
    refine sk_iload_n K dX8_fit_54 rfl 0 rfl ?_
    obtain ⟨⟨v36, S37, d38⟩, e39, hf⟩ := sk_ob hf
    try dsimp only at hf
    have R1_S37 := sk_le_tr R1_S34 (sk_mk_1 e39)
    have R2_S37 := mo_use (n := S37.1) (pr := (fun z => z.1.1)) hf (by repeat' (first | exact mo_none | exact mo_some ⟨Nat.le_refl _, Nat.le_refl _⟩ | refine mo_pR (fun _ => ?_) | refine mo_mk (fun _ => ?_) | refine mo_sR24 (fun _ => ?_) | refine mo_sR25 (fun _ => ?_) | refine mo_ite ?_ ?_ | refine mo_bind (fun _ => ?_) | split))
    refine sk_newa21 K dX8_fit_55 qw_351 e39 R1_S34 R2_S37 ?_
    obtain ⟨S41, e42, hf⟩ := sk_ob hf
    have R1_S41 := sk_le_eq R1_S37 (sk_pR_1 e42)
    have R2_S41 := mo_use (n := S41.1) (pr := (fun z => z.1.1)) hf (by repeat' (first | exact mo_none | exact mo_some ⟨Nat.le_refl _, Nat.le_refl _⟩ | refine mo_pR (fun _ => ?_) | refine mo_mk (fun _ => ?_) | refine mo_sR24 (fun _ => ?_) | refine mo_sR25 (fun _ => ?_) | refine mo_ite ?_ ?_ | refine mo_bind (fun _ => ?_) | split))
    refine sk_putR S41 K dX8_fit_57 fl_X8_32 rfl rfl rfl e42 ?_
    have hR43 : (S41, d38) = (SS, dd) := Option.some.inj hf
    exact sk_vret K dX8_fit_60 rfl rfl (congrArg (fun z => z.1) hR43) (congrArg (fun z => z.2) hR43)
noncomputable def fX8_spread_L101 (p0 : Nat) (p1 : Nat) (S14 : sk_S) (v36 : Int32) (s3 : Int32 × sk_D) : Option ((Int32 × sk_D) ⊕ (sk_D)) :=
  (sk_gI S14 s3.2 p0 7 2).bind fun v38 => if v38 ≤ s3.1 then (some (.inr s3.2)) else (if S14.2.1 p1 = (8, 0) then ((fX9_tryDrop S14 s3.2 p1 v36 s3.1).bind fun v41 => if S14.2.1 p0 = (7, 0) then ((fX8_reach S14 s3.2 p0 v41 v36 ((10 : Int32) + s3.1)).bind fun d46 => some (.inl (s3.1 + 1, d46))) else none) else none)
noncomputable def fX8_spread_L67 (p0 : Nat) (p1 : Nat) (S14 : sk_S) (v36 : Int32) (s2 : Int32 × sk_D) : Option ((Int32 × sk_D) ⊕ (sk_D)) :=
  (sk_gI S14 s2.2 p0 7 2).bind fun v48 => if v48 ≤ s2.1 then (some (.inr s2.2)) else (if S14.2.1 p1 = (8, 0) then ((fX9_tryDo S14 s2.2 p1 v36 s2.1).bind fun b55 => if S14.2.1 p0 = (7, 0) then ((fX8_reach S14 b55.2 p0 b55.1 v36 s2.1).bind fun d58 => some (.inl (s2.1 + 1, d58))) else none) else none)
noncomputable def fX8_spread_L39 (p0 : Nat) (p1 : Nat) (S14 : sk_S) (s1 : Int32 × sk_D) : Option ((Int32 × sk_D) ⊕ (sk_S × sk_D)) :=
  (sk_gI S14 s1.2 p0 7 0).bind fun v24 => if v24 ≤ s1.1 then (some (.inr (S14, s1.2))) else ((sk_gR S14 p0 7 3).bind fun v28 => (sk_al S14 v28 20).bind fun v30 => if v30 ≤ s1.1 then (some (.inr (S14, s1.2))) else ((sk_gR S14 p0 7 3).bind fun v34 => (sk_lI S14 s1.2 v34 20 s1.1).bind fun v36 => (sk_itr (fX8_spread_L67 p0 p1 S14 v36) ((0 : Int32), s1.2)).bind fun y2 => (sk_itr (fX8_spread_L101 p0 p1 S14 v36) ((0 : Int32), y2)).bind fun y3 => some (.inl (s1.1 + 1, y3))))
noncomputable def fX8_spread (S : sk_S) (d : sk_D) (p0 : Nat) (p1 : Nat) (p2 : Int32) : Option (sk_S × sk_D) :=
  (sk_gI S d p0 7 1).bind fun v1 => if p2 = v1 then (some (S, d)) else (if S.2.1 p0 = (7, 0) then ((fX8_forget S d p0).bind fun d6 => (sk_gR S p1 8 0).bind fun v8 => (sk_gI S d6 v8 2 1).bind fun v10 => if S.2.1 p0 = (7, 0) then ((fX8_fit S d6 p0 v10).bind fun b17 => (sk_pI b17.1 b17.2 p0 7 1 p2).bind fun d18 => if b17.1.2.1 p0 = (7, 0) then ((fX8_reach b17.1 d18 p0 p2 (0 : Int32) (31 : Int32)).bind fun d22 => (sk_itr (fX8_spread_L39 p0 p1 b17.1) ((0 : Int32), d22)).bind fun x1 => some x1) else none) else none) else none)
theorem monoX8_spread (S : sk_S) (d : sk_D) (p0 : Nat) (p1 : Nat) (p2 : Int32) : sk_Mo S.1 (fun z => z.1.1) (fX8_spread S d p0 p1 p2) := by
  unfold fX8_spread
  repeat' (first | exact mo_none | exact mo_some ⟨Nat.le_refl _, Nat.le_refl _⟩ | refine mo_pR (fun _ => ?_) | refine mo_mk (fun _ => ?_) | refine mo_sR24 (fun _ => ?_) | refine mo_sR25 (fun _ => ?_) | refine mo_A ⟨Nat.le_refl _, Nat.le_refl _⟩ (monoX8_fit _ _ _ _) (fun _ => ?_) | refine mo_A (sk_nS_le _ _ _ _) (monoX8_fit _ _ _ _) (fun _ => ?_) | refine mo_ite ?_ ?_ | refine mo_bind (fun _ => ?_) | split)
set_option maxRecDepth 100000 in
set_option maxHeartbeats 4000000 in
theorem sX8_spread (C : sk_C) (l : Launch) {S : sk_S} {d : sk_D} {p0 : Nat} {p1 : Nat} {p2 : Int32} {SS : sk_S} {dd : sk_D} (hf : fX8_spread S d p0 p1 p2 = some (SS, dd)) : sk_Met C l 5 yX8_spread cX8_spread 6 none [.ref p0, .ref p1, .int p2] S d none SS dd := by
  have hmono := mo_use (n := S.1) (pr := (fun z => z.1.1)) hf (monoX8_spread S d p0 p1 p2)
  refine sk_Met.of (by decide) (Nat.le_of_ble_eq_true rfl) hmono.1 hmono.2 (fun X K0 hX => ?_)
  have K : sk_Ok X C cX8_spread 6 RX8 "spread" none 5 l none SS dd := K0
  have R1 : X.2.2.2.2.2.2.2.2.2.2.2.1 ≤ S.1.1 ∧ X.2.2.2.2.2.2.2.2.2.2.2.2 ≤ S.1.2 := by rw [hX]; exact ⟨Nat.le_refl _, Nat.le_refl _⟩
  have R2 : S.1.1 ≤ SS.1.1 ∧ S.1.2 ≤ SS.1.2 := hmono
  show sk_G X C 6 S d 0 [(0, .ref p0), (1, .ref p1), (2, .int p2)] []
  unfold fX8_spread at hf
  refine sk_iload_n K dX8_spread_0 rfl 2 rfl ?_
  refine sk_aload_n K dX8_spread_1 rfl 0 rfl ?_
  obtain ⟨v1, e2, hf⟩ := sk_ob hf
  refine sk_getI K dX8_spread_2 fl_X8_15 rfl e2 ?_
  refine sk_icmp_ne 9 K dX8_spread_5 (by decide) (fun h3 => ?_) (fun h3 => ?_)
  · rw [if_neg h3] at hf
    refine sk_aload_n K dX8_spread_9 rfl 0 rfl ?_
    obtain ⟨h7, hf⟩ := sk_ib hf
    obtain ⟨d6, e5, hf⟩ := sk_ob hf
    refine sk_callV (As := []) (st := []) K dX8_spread_10 cl_X8_54 h7 (sX8_forget C l e5) (by decide) rfl rfl (Nat.le_of_ble_eq_true rfl) R1 R2 ?_
    refine sk_aload_n K dX8_spread_13 rfl 0 rfl ?_
    refine sk_aload_n K dX8_spread_14 rfl 1 rfl ?_
    obtain ⟨v8, e9, hf⟩ := sk_ob hf
    refine sk_getR K dX8_spread_15 fl_X8_57 rfl e9 ?_
    obtain ⟨v10, e11, hf⟩ := sk_ob hf
    refine sk_getI K dX8_spread_18 fl_X8_63 rfl e11 ?_
    obtain ⟨h16, hf⟩ := sk_ib hf
    obtain ⟨⟨S14, d15⟩, e13, hf⟩ := sk_ob hf
    try dsimp only at hf
    have R1_S14 := sk_le_tr R1 (mo_use e13 (monoX8_fit _ _ _ _))
    have R2_S14 := mo_use (n := S14.1) (pr := (fun z => z.1.1)) hf (by repeat' (first | exact mo_none | exact mo_some ⟨Nat.le_refl _, Nat.le_refl _⟩ | refine mo_pR (fun _ => ?_) | refine mo_mk (fun _ => ?_) | refine mo_sR24 (fun _ => ?_) | refine mo_sR25 (fun _ => ?_) | refine mo_A ⟨Nat.le_refl _, Nat.le_refl _⟩ (monoX8_fit _ _ _ _) (fun _ => ?_) | refine mo_A (sk_nS_le _ _ _ _) (monoX8_fit _ _ _ _) (fun _ => ?_) | refine mo_ite ?_ ?_ | refine mo_bind (fun _ => ?_) | split))
    refine sk_callV (As := [.int v10]) (st := []) K dX8_spread_21 cl_X8_66 h16 (sX8_fit C l e13) (by decide) rfl rfl (Nat.le_of_ble_eq_true rfl) R1 R2_S14 ?_
    refine sk_aload_n K dX8_spread_24 rfl 0 rfl ?_
    refine sk_iload_n K dX8_spread_25 rfl 2 rfl ?_
    obtain ⟨d18, e19, hf⟩ := sk_ob hf
    refine sk_putI d18 K dX8_spread_26 fl_X8_15 rfl rfl rfl e19 ?_
    refine sk_aload_n K dX8_spread_29 rfl 0 rfl ?_
    refine sk_iload_n K dX8_spread_30 rfl 2 rfl ?_
    refine sk_iconst (0 : Int32) K dX8_spread_31 (by decide) ?_
    refine sk_bipush (31 : Int32) K dX8_spread_32 (by decide) ?_
    obtain ⟨h23, hf⟩ := sk_ib hf
    obtain ⟨d22, e21, hf⟩ := sk_ob hf
    refine sk_callV (As := [.int p2, .int (0 : Int32), .int (31 : Int32)]) (st := []) K dX8_spread_34 cl_X8_70 h23 (sX8_reach C l e21) (by decide) rfl rfl (Nat.le_of_ble_eq_true rfl) R1_S14 R2_S14 ?_
    refine sk_iconst (0 : Int32) K dX8_spread_37 (by decide) ?_
    refine sk_istore_n [(3, .int (0 : Int32)), (0, .ref p0), (1, .ref p1), (2, .int p2)] K dX8_spread_38 rfl (by decide) rfl ?_
    obtain ⟨x1, he1, hf⟩ := sk_ob hf
    have hret1 : ∀ r, r = x1 → r = (SS, dd) := by
      intro r hr
      subst hr
      exact Option.some.inj hf
    refine sk_sub [(0, .ref p0), (1, .ref p1), (3, .int (0 : Int32))] [1, 2, 0] rfl ?_
    refine sk_loop (fun s1 => sk_G X C 6 S14 s1.2 39 [(0, .ref p0), (1, .ref p1), (3, .int s1.1)] []) he1 (fun s1 o1 hf ih1 hx1 => ?_)
    unfold fX8_spread_L39 at hf
    refine sk_iload_n K dX8_spread_39 rfl 2 rfl ?_
    refine sk_aload_n K dX8_spread_40 rfl 0 rfl ?_
    obtain ⟨v24, e25, hf⟩ := sk_ob hf
    refine sk_getI K dX8_spread_41 fl_X8_9 rfl e25 ?_
    refine sk_icmp_ge 141 K dX8_spread_44 (by decide) (fun h26 => ?_) (fun h26 => ?_)
    · rw [if_pos h26] at hf
      have hR27 : (S14, s1.2) = (SS, dd) := hret1 _ (hx1 _ (Option.some.inj hf).symm)
      exact sk_vret K dX8_spread_141 rfl rfl (congrArg (fun z => z.1) hR27) (congrArg (fun z => z.2) hR27)
    · rw [if_neg h26] at hf
      refine sk_iload_n K dX8_spread_47 rfl 2 rfl ?_
      refine sk_aload_n K dX8_spread_48 rfl 0 rfl ?_
      obtain ⟨v28, e29, hf⟩ := sk_ob hf
      refine sk_getR K dX8_spread_49 fl_X8_21 rfl e29 ?_
      obtain ⟨v30, e31, hf⟩ := sk_ob hf
      refine sk_al20 K dX8_spread_52 e31 ?_
      refine sk_icmp_ge 141 K dX8_spread_53 (by decide) (fun h32 => ?_) (fun h32 => ?_)
      · rw [if_pos h32] at hf
        have hR33 : (S14, s1.2) = (SS, dd) := hret1 _ (hx1 _ (Option.some.inj hf).symm)
        exact sk_vret K dX8_spread_141 rfl rfl (congrArg (fun z => z.1) hR33) (congrArg (fun z => z.2) hR33)
      · rw [if_neg h32] at hf
        refine sk_aload_n K dX8_spread_56 rfl 0 rfl ?_
        obtain ⟨v34, e35, hf⟩ := sk_ob hf
        refine sk_getR K dX8_spread_57 fl_X8_21 rfl e35 ?_
        refine sk_iload_n K dX8_spread_60 rfl 2 rfl ?_
        obtain ⟨v36, e37, hf⟩ := sk_ob hf
        refine sk_ald20 K dX8_spread_61 e37 ?_
        refine sk_istore [(4, .int v36), (0, .ref p0), (1, .ref p1), (3, .int s1.1)] K dX8_spread_62 (by decide) rfl ?_
        refine sk_iconst (0 : Int32) K dX8_spread_64 (by decide) ?_
        refine sk_istore [(5, .int (0 : Int32)), (4, .int v36), (0, .ref p0), (1, .ref p1), (3, .int s1.1)] K dX8_spread_65 (by decide) rfl ?_
        obtain ⟨x2, he2, hf⟩ := sk_ob hf
        have rest2 : ∀ y2, y2 = x2 → sk_G X C 6 S14 y2 98 [(0, .ref p0), (1, .ref p1), (3, .int s1.1), (4, .int v36)] [] := by
          intro y2 hy
          subst hy
          refine sk_iconst (0 : Int32) K dX8_spread_98 (by decide) ?_
          refine sk_istore [(5, .int (0 : Int32)), (0, .ref p0), (1, .ref p1), (3, .int s1.1), (4, .int v36)] K dX8_spread_99 (by decide) rfl ?_
          obtain ⟨x3, he3, hf⟩ := sk_ob hf
          have rest3 : ∀ y3, y3 = x3 → sk_G X C 6 S14 y3 135 [(0, .ref p0), (1, .ref p1), (3, .int s1.1)] [] := by
            intro y3 hy
            subst hy
            refine sk_iinc (s1.1 + 1) [(3, .int (s1.1 + 1)), (0, .ref p0), (1, .ref p1)] K dX8_spread_135 2 rfl rfl (by decide) rfl ?_
            refine sk_goto 39 K dX8_spread_138 (by decide) ?_
            refine sk_sub [(0, .ref p0), (1, .ref p1), (3, .int (s1.1 + 1))] [1, 2, 0] rfl ?_
            have h9 := ih1 _ (Option.some.inj hf).symm
            exact h9
          refine sk_sub [(0, .ref p0), (1, .ref p1), (3, .int s1.1), (4, .int v36), (5, .int (0 : Int32))] [1, 2, 3, 4, 0] rfl ?_
          refine sk_loop (fun s3 => sk_G X C 6 S14 s3.2 101 [(0, .ref p0), (1, .ref p1), (3, .int s1.1), (4, .int v36), (5, .int s3.1)] []) he3 (fun s3 o3 hf ih3 hx3 => ?_)
          unfold fX8_spread_L101 at hf
          refine sk_iload K dX8_spread_101 4 rfl ?_
          refine sk_aload_n K dX8_spread_103 rfl 0 rfl ?_
          obtain ⟨v38, e39, hf⟩ := sk_ob hf
          refine sk_getI K dX8_spread_104 fl_X8_18 rfl e39 ?_
          refine sk_icmp_ge 135 K dX8_spread_107 (by decide) (fun h40 => ?_) (fun h40 => ?_)
          · rw [if_pos h40] at hf
            refine sk_sub [(0, .ref p0), (1, .ref p1), (3, .int s1.1)] [0, 1, 2] rfl ?_
            have h9 := rest3 _ (hx3 _ (Option.some.inj hf).symm)
            exact h9
          · rw [if_neg h40] at hf
            refine sk_aload_n K dX8_spread_110 rfl 0 rfl ?_
            refine sk_aload_n K dX8_spread_111 rfl 1 rfl ?_
            refine sk_iload K dX8_spread_112 3 rfl ?_
            refine sk_iload K dX8_spread_114 4 rfl ?_
            obtain ⟨h43, hf⟩ := sk_ib hf
            obtain ⟨v41, e42, hf⟩ := sk_ob hf
            refine sk_callV (As := [.int v36, .int s3.1]) (st := [.ref p0]) K dX8_spread_116 cl_X8_77 h43 (sX9_tryDrop C l e42) (by decide) rfl rfl (Nat.le_of_ble_eq_true rfl) R1_S14 R2_S14 ?_
            refine sk_iload K dX8_spread_119 3 rfl ?_
            refine sk_bipush (10 : Int32) K dX8_spread_121 (by decide) ?_
            refine sk_iload K dX8_spread_123 4 rfl ?_
            refine sk_iadd K dX8_spread_125 ?_
            obtain ⟨h47, hf⟩ := sk_ib hf
            obtain ⟨d46, e45, hf⟩ := sk_ob hf
            refine sk_callV (As := [.int v41, .int v36, .int ((10 : Int32) + s3.1)]) (st := []) K dX8_spread_126 cl_X8_70 h47 (sX8_reach C l e45) (by decide) rfl rfl (Nat.le_of_ble_eq_true rfl) R1_S14 R2_S14 ?_
            refine sk_iinc (s3.1 + 1) [(5, .int (s3.1 + 1)), (0, .ref p0), (1, .ref p1), (3, .int s1.1), (4, .int v36)] K dX8_spread_129 4 rfl rfl (by decide) rfl ?_
            refine sk_goto 101 K dX8_spread_132 (by decide) ?_
            refine sk_sub [(0, .ref p0), (1, .ref p1), (3, .int s1.1), (4, .int v36), (5, .int (s3.1 + 1))] [1, 2, 3, 4, 0] rfl ?_
            have h9 := ih3 _ (Option.some.inj hf).symm
            exact h9
        refine sk_sub [(0, .ref p0), (1, .ref p1), (3, .int s1.1), (4, .int v36), (5, .int (0 : Int32))] [2, 3, 4, 1, 0] rfl ?_
        refine sk_loop (fun s2 => sk_G X C 6 S14 s2.2 67 [(0, .ref p0), (1, .ref p1), (3, .int s1.1), (4, .int v36), (5, .int s2.1)] []) he2 (fun s2 o2 hf ih2 hx2 => ?_)
        unfold fX8_spread_L67 at hf
        refine sk_iload K dX8_spread_67 4 rfl ?_
        refine sk_aload_n K dX8_spread_69 rfl 0 rfl ?_
        obtain ⟨v48, e49, hf⟩ := sk_ob hf
        refine sk_getI K dX8_spread_70 fl_X8_18 rfl e49 ?_
        refine sk_icmp_ge 98 K dX8_spread_73 (by decide) (fun h50 => ?_) (fun h50 => ?_)
        · rw [if_pos h50] at hf
          refine sk_sub [(0, .ref p0), (1, .ref p1), (3, .int s1.1), (4, .int v36)] [0, 1, 2, 3] rfl ?_
          have h9 := rest2 _ (hx2 _ (Option.some.inj hf).symm)
          exact h9
        · rw [if_neg h50] at hf
          refine sk_aload_n K dX8_spread_76 rfl 0 rfl ?_
          refine sk_aload_n K dX8_spread_77 rfl 1 rfl ?_
          refine sk_iload K dX8_spread_78 3 rfl ?_
          refine sk_iload K dX8_spread_80 4 rfl ?_
          obtain ⟨h54, hf⟩ := sk_ib hf
          obtain ⟨⟨v51, d53⟩, e52, hf⟩ := sk_ob hf
          try dsimp only at hf
          refine sk_callV (As := [.int v36, .int s2.1]) (st := [.ref p0]) K dX8_spread_82 cl_X8_74 h54 (sX9_tryDo C l e52) (by decide) rfl rfl (Nat.le_of_ble_eq_true rfl) R1_S14 R2_S14 ?_
          refine sk_iload K dX8_spread_85 3 rfl ?_
          refine sk_iload K dX8_spread_87 4 rfl ?_
          obtain ⟨h59, hf⟩ := sk_ib hf
          obtain ⟨d58, e57, hf⟩ := sk_ob hf
          refine sk_callV (As := [.int v51, .int v36, .int s2.1]) (st := []) K dX8_spread_89 cl_X8_70 h59 (sX8_reach C l e57) (by decide) rfl rfl (Nat.le_of_ble_eq_true rfl) R1_S14 R2_S14 ?_
          refine sk_iinc (s2.1 + 1) [(5, .int (s2.1 + 1)), (0, .ref p0), (1, .ref p1), (3, .int s1.1), (4, .int v36)] K dX8_spread_92 4 rfl rfl (by decide) rfl ?_
          refine sk_goto 67 K dX8_spread_95 (by decide) ?_
          refine sk_sub [(0, .ref p0), (1, .ref p1), (3, .int s1.1), (4, .int v36), (5, .int (s2.1 + 1))] [1, 2, 3, 4, 0] rfl ?_
          have h9 := ih2 _ (Option.some.inj hf).symm
          exact h9
  · rw [if_pos h3] at hf
    have hR60 : (S, d) = (SS, dd) := Option.some.inj hf
    exact sk_vret K dX8_spread_8 rfl rfl (congrArg (fun z => z.1) hR60) (congrArg (fun z => z.2) hR60)
noncomputable def fX8_toDone_L9 (p0 : Nat) (p3 : Int32) (S3 : sk_S) (d4 : sk_D) (s1 : Int32) : Option ((Int32) ⊕ (Int32 × sk_S × sk_D)) :=
  (sk_gI S3 d4 p0 7 0).bind fun v7 => if v7 ≤ s1 then (some (.inr ((-1 : Int32), S3, d4))) else ((sk_gR S3 p0 7 3).bind fun v11 => (sk_al S3 v11 20).bind fun v13 => if v13 ≤ s1 then (some (.inr ((-1 : Int32), S3, d4))) else ((sk_gR S3 p0 7 3).bind fun v17 => (sk_lI S3 d4 v17 20 s1).bind fun v19 => (fX10_doneIn S3 d4 v19).bind fun v21 => if (p3 &&& (v21 ^^^ (-1 : Int32))) = 0 then ((sk_gR S3 p0 7 3).bind fun v24 => (sk_lI S3 d4 v24 20 s1).bind fun v26 => some (.inr (v26, S3, d4))) else (some (.inl (s1 + 1)))))
noncomputable def fX8_toDone (S : sk_S) (d : sk_D) (p0 : Nat) (p1 : Nat) (p2 : Int32) (p3 : Int32) : Option (Int32 × sk_S × sk_D) :=
  if S.2.1 p0 = (7, 0) then ((fX8_spread S d p0 p1 p2).bind fun b6 => (sk_itr (fX8_toDone_L9 p0 p3 b6.1 b6.2) (0 : Int32)).bind fun x1 => some x1) else none
theorem monoX8_toDone (S : sk_S) (d : sk_D) (p0 : Nat) (p1 : Nat) (p2 : Int32) (p3 : Int32) : sk_Mo S.1 (fun z => z.2.1.1) (fX8_toDone S d p0 p1 p2 p3) := by
  unfold fX8_toDone
  repeat' (first | exact mo_none | exact mo_some ⟨Nat.le_refl _, Nat.le_refl _⟩ | refine mo_pR (fun _ => ?_) | refine mo_mk (fun _ => ?_) | refine mo_sR24 (fun _ => ?_) | refine mo_sR25 (fun _ => ?_) | refine mo_A ⟨Nat.le_refl _, Nat.le_refl _⟩ (monoX8_spread _ _ _ _ _) (fun _ => ?_) | refine mo_A (sk_nS_le _ _ _ _) (monoX8_spread _ _ _ _ _) (fun _ => ?_) | refine mo_ite ?_ ?_ | refine mo_bind (fun _ => ?_) | split)
set_option maxRecDepth 100000 in
set_option maxHeartbeats 4000000 in
theorem sX8_toDone (C : sk_C) (l : Launch) {S : sk_S} {d : sk_D} {p0 : Nat} {p1 : Nat} {p2 : Int32} {p3 : Int32} {rr : Int32} {SS : sk_S} {dd : sk_D} (hf : fX8_toDone S d p0 p1 p2 p3 = some (rr, SS, dd)) : sk_Met C l 6 yX8_toDone cX8_toDone 5 (some .int) [.ref p0, .ref p1, .int p2, .int p3] S d (some (.int rr)) SS dd := by
  have hmono := mo_use (n := S.1) (pr := (fun z => z.2.1.1)) hf (monoX8_toDone S d p0 p1 p2 p3)
  refine sk_Met.of (by decide) (Nat.le_of_ble_eq_true rfl) hmono.1 hmono.2 (fun X K0 hX => ?_)
  have K : sk_Ok X C cX8_toDone 5 RX8 "toDone" (some .int) 6 l (some (.int rr)) SS dd := K0
  have R1 : X.2.2.2.2.2.2.2.2.2.2.2.1 ≤ S.1.1 ∧ X.2.2.2.2.2.2.2.2.2.2.2.2 ≤ S.1.2 := by rw [hX]; exact ⟨Nat.le_refl _, Nat.le_refl _⟩
  have R2 : S.1.1 ≤ SS.1.1 ∧ S.1.2 ≤ SS.1.2 := hmono
  show sk_G X C 5 S d 0 [(0, .ref p0), (1, .ref p1), (2, .int p2), (3, .int p3)] []
  unfold fX8_toDone at hf
  refine sk_aload_n K dX8_toDone_0 rfl 0 rfl ?_
  refine sk_aload_n K dX8_toDone_1 rfl 1 rfl ?_
  refine sk_iload_n K dX8_toDone_2 rfl 2 rfl ?_
  obtain ⟨h5, hf⟩ := sk_ib hf
  obtain ⟨⟨S3, d4⟩, e2, hf⟩ := sk_ob hf
  try dsimp only at hf
  have R1_S3 := sk_le_tr R1 (mo_use e2 (monoX8_spread _ _ _ _ _))
  have R2_S3 := mo_use (n := S3.1) (pr := (fun z => z.2.1.1)) hf (by repeat' (first | exact mo_none | exact mo_some ⟨Nat.le_refl _, Nat.le_refl _⟩ | refine mo_pR (fun _ => ?_) | refine mo_mk (fun _ => ?_) | refine mo_sR24 (fun _ => ?_) | refine mo_sR25 (fun _ => ?_) | refine mo_A ⟨Nat.le_refl _, Nat.le_refl _⟩ (monoX8_spread _ _ _ _ _) (fun _ => ?_) | refine mo_A (sk_nS_le _ _ _ _) (monoX8_spread _ _ _ _ _) (fun _ => ?_) | refine mo_ite ?_ ?_ | refine mo_bind (fun _ => ?_) | split))
  refine sk_callV (As := [.ref p1, .int p2]) (st := []) K dX8_toDone_3 cl_X8_80 h5 (sX8_spread C l e2) (by decide) rfl rfl (Nat.le_of_ble_eq_true rfl) R1 R2_S3 ?_
  refine sk_iconst (0 : Int32) K dX8_toDone_6 (by decide) ?_
  refine sk_istore [(4, .int (0 : Int32)), (0, .ref p0), (1, .ref p1), (2, .int p2), (3, .int p3)] K dX8_toDone_7 (by decide) rfl ?_
  obtain ⟨x1, he1, hf⟩ := sk_ob hf
  have hret1 : ∀ r, r = x1 → r = (rr, SS, dd) := by
    intro r hr
    subst hr
    exact Option.some.inj hf
  refine sk_sub [(0, .ref p0), (3, .int p3), (4, .int (0 : Int32))] [1, 4, 0] rfl ?_
  refine sk_loop (fun s1 => sk_G X C 5 S3 d4 9 [(0, .ref p0), (3, .int p3), (4, .int s1)] []) he1 (fun s1 o1 hf ih1 hx1 => ?_)
  unfold fX8_toDone_L9 at hf
  refine sk_iload K dX8_toDone_9 2 rfl ?_
  refine sk_aload_n K dX8_toDone_11 rfl 0 rfl ?_
  obtain ⟨v7, e8, hf⟩ := sk_ob hf
  refine sk_getI K dX8_toDone_12 fl_X8_9 rfl e8 ?_
  refine sk_icmp_ge 59 K dX8_toDone_15 (by decide) (fun h9 => ?_) (fun h9 => ?_)
  · rw [if_pos h9] at hf
    refine sk_iconst (-1 : Int32) K dX8_toDone_59 (by decide) ?_
    have hR10 : ((-1 : Int32), S3, d4) = (rr, SS, dd) := hret1 _ (hx1 _ (Option.some.inj hf).symm)
    exact sk_iret K dX8_toDone_60 rfl rfl (congrArg (fun z => z.1) hR10) (congrArg (fun z => z.2.1) hR10) (congrArg (fun z => z.2.2) hR10)
  · rw [if_neg h9] at hf
    refine sk_iload K dX8_toDone_18 2 rfl ?_
    refine sk_aload_n K dX8_toDone_20 rfl 0 rfl ?_
    obtain ⟨v11, e12, hf⟩ := sk_ob hf
    refine sk_getR K dX8_toDone_21 fl_X8_21 rfl e12 ?_
    obtain ⟨v13, e14, hf⟩ := sk_ob hf
    refine sk_al20 K dX8_toDone_24 e14 ?_
    refine sk_icmp_ge 59 K dX8_toDone_25 (by decide) (fun h15 => ?_) (fun h15 => ?_)
    · rw [if_pos h15] at hf
      refine sk_iconst (-1 : Int32) K dX8_toDone_59 (by decide) ?_
      have hR16 : ((-1 : Int32), S3, d4) = (rr, SS, dd) := hret1 _ (hx1 _ (Option.some.inj hf).symm)
      exact sk_iret K dX8_toDone_60 rfl rfl (congrArg (fun z => z.1) hR16) (congrArg (fun z => z.2.1) hR16) (congrArg (fun z => z.2.2) hR16)
    · rw [if_neg h15] at hf
      refine sk_iload_n K dX8_toDone_28 rfl 1 rfl ?_
      refine sk_aload_n K dX8_toDone_29 rfl 0 rfl ?_
      obtain ⟨v17, e18, hf⟩ := sk_ob hf
      refine sk_getR K dX8_toDone_30 fl_X8_21 rfl e18 ?_
      refine sk_iload K dX8_toDone_33 2 rfl ?_
      obtain ⟨v19, e20, hf⟩ := sk_ob hf
      refine sk_ald20 K dX8_toDone_35 e20 ?_
      obtain ⟨v21, e22, hf⟩ := sk_ob hf
      refine sk_callN (As := [.int v19]) (st := [.int p3]) K dX8_toDone_36 cl_X8_39 (sX10_doneIn C l e22) (by decide) rfl rfl (Nat.le_of_ble_eq_true rfl) R1_S3 R2_S3 ?_
      refine sk_iconst (-1 : Int32) K dX8_toDone_39 (by decide) ?_
      refine sk_ixor K dX8_toDone_40 ?_
      refine sk_iand K dX8_toDone_41 ?_
      refine sk_if_ne 53 K dX8_toDone_42 (by decide) (fun h23 => ?_) (fun h23 => ?_)
      · rw [if_neg h23] at hf
        refine sk_iinc (s1 + 1) [(4, .int (s1 + 1)), (0, .ref p0), (3, .int p3)] K dX8_toDone_53 2 rfl rfl (by decide) rfl ?_
        refine sk_goto 9 K dX8_toDone_56 (by decide) ?_
        refine sk_sub [(0, .ref p0), (3, .int p3), (4, .int (s1 + 1))] [1, 2, 0] rfl ?_
        have h9 := ih1 _ (Option.some.inj hf).symm
        exact h9
      · rw [if_pos h23] at hf
        refine sk_aload_n K dX8_toDone_45 rfl 0 rfl ?_
        obtain ⟨v24, e25, hf⟩ := sk_ob hf
        refine sk_getR K dX8_toDone_46 fl_X8_21 rfl e25 ?_
        refine sk_iload K dX8_toDone_49 2 rfl ?_
        obtain ⟨v26, e27, hf⟩ := sk_ob hf
        refine sk_ald20 K dX8_toDone_51 e27 ?_
        have hR28 : (v26, S3, d4) = (rr, SS, dd) := hret1 _ (hx1 _ (Option.some.inj hf).symm)
        exact sk_iret K dX8_toDone_52 rfl rfl (congrArg (fun z => z.1) hR28) (congrArg (fun z => z.2.1) hR28) (congrArg (fun z => z.2.2) hR28)
noncomputable def fX8_toShown_L9 (p0 : Nat) (p3 : Int32) (S3 : sk_S) (d4 : sk_D) (s1 : Int32) : Option ((Int32) ⊕ (Int32 × sk_S × sk_D)) :=
  (sk_gI S3 d4 p0 7 0).bind fun v7 => if v7 ≤ s1 then (some (.inr ((-1 : Int32), S3, d4))) else ((sk_gR S3 p0 7 3).bind fun v11 => (sk_al S3 v11 20).bind fun v13 => if v13 ≤ s1 then (some (.inr ((-1 : Int32), S3, d4))) else ((sk_gR S3 p0 7 3).bind fun v17 => (sk_lI S3 d4 v17 20 s1).bind fun v19 => (fX10_shownIn S3 d4 v19).bind fun v21 => if (p3 &&& (v21 ^^^ (-1 : Int32))) = 0 then ((sk_gR S3 p0 7 3).bind fun v24 => (sk_lI S3 d4 v24 20 s1).bind fun v26 => some (.inr (v26, S3, d4))) else (some (.inl (s1 + 1)))))
noncomputable def fX8_toShown (S : sk_S) (d : sk_D) (p0 : Nat) (p1 : Nat) (p2 : Int32) (p3 : Int32) : Option (Int32 × sk_S × sk_D) :=
  if S.2.1 p0 = (7, 0) then ((fX8_spread S d p0 p1 p2).bind fun b6 => (sk_itr (fX8_toShown_L9 p0 p3 b6.1 b6.2) (0 : Int32)).bind fun x1 => some x1) else none
theorem monoX8_toShown (S : sk_S) (d : sk_D) (p0 : Nat) (p1 : Nat) (p2 : Int32) (p3 : Int32) : sk_Mo S.1 (fun z => z.2.1.1) (fX8_toShown S d p0 p1 p2 p3) := by
  unfold fX8_toShown
  repeat' (first | exact mo_none | exact mo_some ⟨Nat.le_refl _, Nat.le_refl _⟩ | refine mo_pR (fun _ => ?_) | refine mo_mk (fun _ => ?_) | refine mo_sR24 (fun _ => ?_) | refine mo_sR25 (fun _ => ?_) | refine mo_A ⟨Nat.le_refl _, Nat.le_refl _⟩ (monoX8_spread _ _ _ _ _) (fun _ => ?_) | refine mo_A (sk_nS_le _ _ _ _) (monoX8_spread _ _ _ _ _) (fun _ => ?_) | refine mo_ite ?_ ?_ | refine mo_bind (fun _ => ?_) | split)
set_option maxRecDepth 100000 in
set_option maxHeartbeats 4000000 in
theorem sX8_toShown (C : sk_C) (l : Launch) {S : sk_S} {d : sk_D} {p0 : Nat} {p1 : Nat} {p2 : Int32} {p3 : Int32} {rr : Int32} {SS : sk_S} {dd : sk_D} (hf : fX8_toShown S d p0 p1 p2 p3 = some (rr, SS, dd)) : sk_Met C l 6 yX8_toShown cX8_toShown 5 (some .int) [.ref p0, .ref p1, .int p2, .int p3] S d (some (.int rr)) SS dd := by
  have hmono := mo_use (n := S.1) (pr := (fun z => z.2.1.1)) hf (monoX8_toShown S d p0 p1 p2 p3)
  refine sk_Met.of (by decide) (Nat.le_of_ble_eq_true rfl) hmono.1 hmono.2 (fun X K0 hX => ?_)
  have K : sk_Ok X C cX8_toShown 5 RX8 "toShown" (some .int) 6 l (some (.int rr)) SS dd := K0
  have R1 : X.2.2.2.2.2.2.2.2.2.2.2.1 ≤ S.1.1 ∧ X.2.2.2.2.2.2.2.2.2.2.2.2 ≤ S.1.2 := by rw [hX]; exact ⟨Nat.le_refl _, Nat.le_refl _⟩
  have R2 : S.1.1 ≤ SS.1.1 ∧ S.1.2 ≤ SS.1.2 := hmono
  show sk_G X C 5 S d 0 [(0, .ref p0), (1, .ref p1), (2, .int p2), (3, .int p3)] []
  unfold fX8_toShown at hf
  refine sk_aload_n K dX8_toShown_0 rfl 0 rfl ?_
  refine sk_aload_n K dX8_toShown_1 rfl 1 rfl ?_
  refine sk_iload_n K dX8_toShown_2 rfl 2 rfl ?_
  obtain ⟨h5, hf⟩ := sk_ib hf
  obtain ⟨⟨S3, d4⟩, e2, hf⟩ := sk_ob hf
  try dsimp only at hf
  have R1_S3 := sk_le_tr R1 (mo_use e2 (monoX8_spread _ _ _ _ _))
  have R2_S3 := mo_use (n := S3.1) (pr := (fun z => z.2.1.1)) hf (by repeat' (first | exact mo_none | exact mo_some ⟨Nat.le_refl _, Nat.le_refl _⟩ | refine mo_pR (fun _ => ?_) | refine mo_mk (fun _ => ?_) | refine mo_sR24 (fun _ => ?_) | refine mo_sR25 (fun _ => ?_) | refine mo_A ⟨Nat.le_refl _, Nat.le_refl _⟩ (monoX8_spread _ _ _ _ _) (fun _ => ?_) | refine mo_A (sk_nS_le _ _ _ _) (monoX8_spread _ _ _ _ _) (fun _ => ?_) | refine mo_ite ?_ ?_ | refine mo_bind (fun _ => ?_) | split))
  refine sk_callV (As := [.ref p1, .int p2]) (st := []) K dX8_toShown_3 cl_X8_80 h5 (sX8_spread C l e2) (by decide) rfl rfl (Nat.le_of_ble_eq_true rfl) R1 R2_S3 ?_
  refine sk_iconst (0 : Int32) K dX8_toShown_6 (by decide) ?_
  refine sk_istore [(4, .int (0 : Int32)), (0, .ref p0), (1, .ref p1), (2, .int p2), (3, .int p3)] K dX8_toShown_7 (by decide) rfl ?_
  obtain ⟨x1, he1, hf⟩ := sk_ob hf
  have hret1 : ∀ r, r = x1 → r = (rr, SS, dd) := by
    intro r hr
    subst hr
    exact Option.some.inj hf
  refine sk_sub [(0, .ref p0), (3, .int p3), (4, .int (0 : Int32))] [1, 4, 0] rfl ?_
  refine sk_loop (fun s1 => sk_G X C 5 S3 d4 9 [(0, .ref p0), (3, .int p3), (4, .int s1)] []) he1 (fun s1 o1 hf ih1 hx1 => ?_)
  unfold fX8_toShown_L9 at hf
  refine sk_iload K dX8_toShown_9 2 rfl ?_
  refine sk_aload_n K dX8_toShown_11 rfl 0 rfl ?_
  obtain ⟨v7, e8, hf⟩ := sk_ob hf
  refine sk_getI K dX8_toShown_12 fl_X8_9 rfl e8 ?_
  refine sk_icmp_ge 59 K dX8_toShown_15 (by decide) (fun h9 => ?_) (fun h9 => ?_)
  · rw [if_pos h9] at hf
    refine sk_iconst (-1 : Int32) K dX8_toShown_59 (by decide) ?_
    have hR10 : ((-1 : Int32), S3, d4) = (rr, SS, dd) := hret1 _ (hx1 _ (Option.some.inj hf).symm)
    exact sk_iret K dX8_toShown_60 rfl rfl (congrArg (fun z => z.1) hR10) (congrArg (fun z => z.2.1) hR10) (congrArg (fun z => z.2.2) hR10)
  · rw [if_neg h9] at hf
    refine sk_iload K dX8_toShown_18 2 rfl ?_
    refine sk_aload_n K dX8_toShown_20 rfl 0 rfl ?_
    obtain ⟨v11, e12, hf⟩ := sk_ob hf
    refine sk_getR K dX8_toShown_21 fl_X8_21 rfl e12 ?_
    obtain ⟨v13, e14, hf⟩ := sk_ob hf
    refine sk_al20 K dX8_toShown_24 e14 ?_
    refine sk_icmp_ge 59 K dX8_toShown_25 (by decide) (fun h15 => ?_) (fun h15 => ?_)
    · rw [if_pos h15] at hf
      refine sk_iconst (-1 : Int32) K dX8_toShown_59 (by decide) ?_
      have hR16 : ((-1 : Int32), S3, d4) = (rr, SS, dd) := hret1 _ (hx1 _ (Option.some.inj hf).symm)
      exact sk_iret K dX8_toShown_60 rfl rfl (congrArg (fun z => z.1) hR16) (congrArg (fun z => z.2.1) hR16) (congrArg (fun z => z.2.2) hR16)
    · rw [if_neg h15] at hf
      refine sk_iload_n K dX8_toShown_28 rfl 1 rfl ?_
      refine sk_aload_n K dX8_toShown_29 rfl 0 rfl ?_
      obtain ⟨v17, e18, hf⟩ := sk_ob hf
      refine sk_getR K dX8_toShown_30 fl_X8_21 rfl e18 ?_
      refine sk_iload K dX8_toShown_33 2 rfl ?_
      obtain ⟨v19, e20, hf⟩ := sk_ob hf
      refine sk_ald20 K dX8_toShown_35 e20 ?_
      obtain ⟨v21, e22, hf⟩ := sk_ob hf
      refine sk_callN (As := [.int v19]) (st := [.int p3]) K dX8_toShown_36 cl_X8_84 (sX10_shownIn C l e22) (by decide) rfl rfl (Nat.le_of_ble_eq_true rfl) R1_S3 R2_S3 ?_
      refine sk_iconst (-1 : Int32) K dX8_toShown_39 (by decide) ?_
      refine sk_ixor K dX8_toShown_40 ?_
      refine sk_iand K dX8_toShown_41 ?_
      refine sk_if_ne 53 K dX8_toShown_42 (by decide) (fun h23 => ?_) (fun h23 => ?_)
      · rw [if_neg h23] at hf
        refine sk_iinc (s1 + 1) [(4, .int (s1 + 1)), (0, .ref p0), (3, .int p3)] K dX8_toShown_53 2 rfl rfl (by decide) rfl ?_
        refine sk_goto 9 K dX8_toShown_56 (by decide) ?_
        refine sk_sub [(0, .ref p0), (3, .int p3), (4, .int (s1 + 1))] [1, 2, 0] rfl ?_
        have h9 := ih1 _ (Option.some.inj hf).symm
        exact h9
      · rw [if_pos h23] at hf
        refine sk_aload_n K dX8_toShown_45 rfl 0 rfl ?_
        obtain ⟨v24, e25, hf⟩ := sk_ob hf
        refine sk_getR K dX8_toShown_46 fl_X8_21 rfl e25 ?_
        refine sk_iload K dX8_toShown_49 2 rfl ?_
        obtain ⟨v26, e27, hf⟩ := sk_ob hf
        refine sk_ald20 K dX8_toShown_51 e27 ?_
        have hR28 : (v26, S3, d4) = (rr, SS, dd) := hret1 _ (hx1 _ (Option.some.inj hf).symm)
        exact sk_iret K dX8_toShown_52 rfl rfl (congrArg (fun z => z.1) hR28) (congrArg (fun z => z.2.1) hR28) (congrArg (fun z => z.2.2) hR28)
noncomputable def fX8_mostShown_L11 (p0 : Nat) (S3 : sk_S) (d4 : sk_D) (s1 : Int32 × Int32) : Option ((Int32 × Int32) ⊕ (Int32 × sk_S × sk_D)) :=
  (sk_gI S3 d4 p0 7 0).bind fun v7 => if v7 ≤ s1.2 then (some (.inr (s1.1, S3, d4))) else ((sk_gR S3 p0 7 3).bind fun v11 => (sk_al S3 v11 20).bind fun v13 => if v13 ≤ s1.2 then (some (.inr (s1.1, S3, d4))) else ((sk_gR S3 p0 7 3).bind fun v17 => (sk_lI S3 d4 v17 20 s1.2).bind fun v19 => (fX10_shownIn S3 d4 v19).bind fun v21 => (fJ6_bitCount_0f7a4 S3 d4 v21).bind fun v23 => some (.inl ((if s1.1 < v23 then v23 else s1.1), s1.2 + 1))))
noncomputable def fX8_mostShown (S : sk_S) (d : sk_D) (p0 : Nat) (p1 : Nat) (p2 : Int32) : Option (Int32 × sk_S × sk_D) :=
  if S.2.1 p0 = (7, 0) then ((fX8_spread S d p0 p1 p2).bind fun b6 => (sk_itr (fX8_mostShown_L11 p0 b6.1 b6.2) ((0 : Int32), (0 : Int32))).bind fun x1 => some x1) else none
theorem monoX8_mostShown (S : sk_S) (d : sk_D) (p0 : Nat) (p1 : Nat) (p2 : Int32) : sk_Mo S.1 (fun z => z.2.1.1) (fX8_mostShown S d p0 p1 p2) := by
  unfold fX8_mostShown
  repeat' (first | exact mo_none | exact mo_some ⟨Nat.le_refl _, Nat.le_refl _⟩ | refine mo_pR (fun _ => ?_) | refine mo_mk (fun _ => ?_) | refine mo_sR24 (fun _ => ?_) | refine mo_sR25 (fun _ => ?_) | refine mo_A ⟨Nat.le_refl _, Nat.le_refl _⟩ (monoX8_spread _ _ _ _ _) (fun _ => ?_) | refine mo_A (sk_nS_le _ _ _ _) (monoX8_spread _ _ _ _ _) (fun _ => ?_) | refine mo_ite ?_ ?_ | refine mo_bind (fun _ => ?_) | split)
set_option maxRecDepth 100000 in
set_option maxHeartbeats 4000000 in
theorem sX8_mostShown (C : sk_C) (l : Launch) {S : sk_S} {d : sk_D} {p0 : Nat} {p1 : Nat} {p2 : Int32} {rr : Int32} {SS : sk_S} {dd : sk_D} (hf : fX8_mostShown S d p0 p1 p2 = some (rr, SS, dd)) : sk_Met C l 6 yX8_mostShown cX8_mostShown 5 (some .int) [.ref p0, .ref p1, .int p2] S d (some (.int rr)) SS dd := by
  have hmono := mo_use (n := S.1) (pr := (fun z => z.2.1.1)) hf (monoX8_mostShown S d p0 p1 p2)
  refine sk_Met.of (by decide) (Nat.le_of_ble_eq_true rfl) hmono.1 hmono.2 (fun X K0 hX => ?_)
  have K : sk_Ok X C cX8_mostShown 5 RX8 "mostShown" (some .int) 6 l (some (.int rr)) SS dd := K0
  have R1 : X.2.2.2.2.2.2.2.2.2.2.2.1 ≤ S.1.1 ∧ X.2.2.2.2.2.2.2.2.2.2.2.2 ≤ S.1.2 := by rw [hX]; exact ⟨Nat.le_refl _, Nat.le_refl _⟩
  have R2 : S.1.1 ≤ SS.1.1 ∧ S.1.2 ≤ SS.1.2 := hmono
  show sk_G X C 5 S d 0 [(0, .ref p0), (1, .ref p1), (2, .int p2)] []
  unfold fX8_mostShown at hf
  refine sk_aload_n K dX8_mostShown_0 rfl 0 rfl ?_
  refine sk_aload_n K dX8_mostShown_1 rfl 1 rfl ?_
  refine sk_iload_n K dX8_mostShown_2 rfl 2 rfl ?_
  obtain ⟨h5, hf⟩ := sk_ib hf
  obtain ⟨⟨S3, d4⟩, e2, hf⟩ := sk_ob hf
  try dsimp only at hf
  have R1_S3 := sk_le_tr R1 (mo_use e2 (monoX8_spread _ _ _ _ _))
  have R2_S3 := mo_use (n := S3.1) (pr := (fun z => z.2.1.1)) hf (by repeat' (first | exact mo_none | exact mo_some ⟨Nat.le_refl _, Nat.le_refl _⟩ | refine mo_pR (fun _ => ?_) | refine mo_mk (fun _ => ?_) | refine mo_sR24 (fun _ => ?_) | refine mo_sR25 (fun _ => ?_) | refine mo_A ⟨Nat.le_refl _, Nat.le_refl _⟩ (monoX8_spread _ _ _ _ _) (fun _ => ?_) | refine mo_A (sk_nS_le _ _ _ _) (monoX8_spread _ _ _ _ _) (fun _ => ?_) | refine mo_ite ?_ ?_ | refine mo_bind (fun _ => ?_) | split))
  refine sk_callV (As := [.ref p1, .int p2]) (st := []) K dX8_mostShown_3 cl_X8_80 h5 (sX8_spread C l e2) (by decide) rfl rfl (Nat.le_of_ble_eq_true rfl) R1 R2_S3 ?_
  refine sk_iconst (0 : Int32) K dX8_mostShown_6 (by decide) ?_
  refine sk_istore_n [(3, .int (0 : Int32)), (0, .ref p0), (1, .ref p1), (2, .int p2)] K dX8_mostShown_7 rfl (by decide) rfl ?_
  refine sk_iconst (0 : Int32) K dX8_mostShown_8 (by decide) ?_
  refine sk_istore [(4, .int (0 : Int32)), (3, .int (0 : Int32)), (0, .ref p0), (1, .ref p1), (2, .int p2)] K dX8_mostShown_9 (by decide) rfl ?_
  obtain ⟨x1, he1, hf⟩ := sk_ob hf
  have hret1 : ∀ r, r = x1 → r = (rr, SS, dd) := by
    intro r hr
    subst hr
    exact Option.some.inj hf
  refine sk_sub [(0, .ref p0), (3, .int (0 : Int32)), (4, .int (0 : Int32))] [2, 1, 0] rfl ?_
  refine sk_loop (fun s1 => sk_G X C 5 S3 d4 11 [(0, .ref p0), (3, .int s1.1), (4, .int s1.2)] []) he1 (fun s1 o1 hf ih1 hx1 => ?_)
  unfold fX8_mostShown_L11 at hf
  refine sk_iload K dX8_mostShown_11 2 rfl ?_
  refine sk_aload_n K dX8_mostShown_13 rfl 0 rfl ?_
  obtain ⟨v7, e8, hf⟩ := sk_ob hf
  refine sk_getI K dX8_mostShown_14 fl_X8_9 rfl e8 ?_
  refine sk_icmp_ge 54 K dX8_mostShown_17 (by decide) (fun h9 => ?_) (fun h9 => ?_)
  · rw [if_pos h9] at hf
    refine sk_iload_n K dX8_mostShown_54 rfl 1 rfl ?_
    have hR10 : (s1.1, S3, d4) = (rr, SS, dd) := hret1 _ (hx1 _ (Option.some.inj hf).symm)
    exact sk_iret K dX8_mostShown_55 rfl rfl (congrArg (fun z => z.1) hR10) (congrArg (fun z => z.2.1) hR10) (congrArg (fun z => z.2.2) hR10)
  · rw [if_neg h9] at hf
    refine sk_iload K dX8_mostShown_20 2 rfl ?_
    refine sk_aload_n K dX8_mostShown_22 rfl 0 rfl ?_
    obtain ⟨v11, e12, hf⟩ := sk_ob hf
    refine sk_getR K dX8_mostShown_23 fl_X8_21 rfl e12 ?_
    obtain ⟨v13, e14, hf⟩ := sk_ob hf
    refine sk_al20 K dX8_mostShown_26 e14 ?_
    refine sk_icmp_ge 54 K dX8_mostShown_27 (by decide) (fun h15 => ?_) (fun h15 => ?_)
    · rw [if_pos h15] at hf
      refine sk_iload_n K dX8_mostShown_54 rfl 1 rfl ?_
      have hR16 : (s1.1, S3, d4) = (rr, SS, dd) := hret1 _ (hx1 _ (Option.some.inj hf).symm)
      exact sk_iret K dX8_mostShown_55 rfl rfl (congrArg (fun z => z.1) hR16) (congrArg (fun z => z.2.1) hR16) (congrArg (fun z => z.2.2) hR16)
    · rw [if_neg h15] at hf
      refine sk_iload_n K dX8_mostShown_30 rfl 1 rfl ?_
      refine sk_aload_n K dX8_mostShown_31 rfl 0 rfl ?_
      obtain ⟨v17, e18, hf⟩ := sk_ob hf
      refine sk_getR K dX8_mostShown_32 fl_X8_21 rfl e18 ?_
      refine sk_iload K dX8_mostShown_35 2 rfl ?_
      obtain ⟨v19, e20, hf⟩ := sk_ob hf
      refine sk_ald20 K dX8_mostShown_37 e20 ?_
      obtain ⟨v21, e22, hf⟩ := sk_ob hf
      refine sk_callN (As := [.int v19]) (st := [.int s1.1]) K dX8_mostShown_38 cl_X8_84 (sX10_shownIn C l e22) (by decide) rfl rfl (Nat.le_of_ble_eq_true rfl) R1_S3 R2_S3 ?_
      obtain ⟨v23, e24, hf⟩ := sk_ob hf
      refine sk_callS (As := [.int v21]) (st := [.int s1.1]) K dX8_mostShown_41 cl_X8_96 (sJ6_bitCount_0f7a4 C l e24) (by decide) rfl rfl (Nat.le_of_ble_eq_true rfl) R1_S3 R2_S3 ?_
      refine sk_mmax K dX8_mostShown_44 qw_973 qw_558 qw_137 qw_559 (by decide) (Nat.le_of_ble_eq_true rfl) R2_S3 ?_
      refine sk_istore_n [(3, .int (if s1.1 < v23 then v23 else s1.1)), (0, .ref p0), (4, .int s1.2)] K dX8_mostShown_47 rfl (by decide) rfl ?_
      refine sk_iinc (s1.2 + 1) [(4, .int (s1.2 + 1)), (3, .int (if s1.1 < v23 then v23 else s1.1)), (0, .ref p0)] K dX8_mostShown_48 2 rfl rfl (by decide) rfl ?_
      refine sk_goto 11 K dX8_mostShown_51 (by decide) ?_
      refine sk_sub [(0, .ref p0), (3, .int (if s1.1 < v23 then v23 else s1.1)), (4, .int (s1.2 + 1))] [2, 1, 0] rfl ?_
      have h9 := ih1 _ (Option.some.inj hf).symm
      exact h9
noncomputable def fX8_goOneOn_L79 (S : sk_S) (p0 : Nat) (p1 : Nat) (t1_a : Int32) (v27 : Int64) (s3 : Int32 × sk_D) : Option ((Int32 × sk_D) ⊕ (sk_D)) :=
  (sk_gI S s3.2 p0 7 2).bind fun v29 => if v29 ≤ s3.1 then (some (.inr s3.2)) else (if v27 = (0 : Int64) then (some (.inr s3.2)) else ((sk_gR S p0 7 3).bind fun v33 => (sk_lI S s3.2 v33 20 t1_a).bind fun v35 => if S.2.1 p1 = (8, 0) then ((fX9_tryDo S s3.2 p1 v35 s3.1).bind fun b41 => if S.2.1 p0 = (7, 0) then ((fX8_addWays S b41.2 p0 b41.1 v27).bind fun d44 => (sk_gR S p0 7 3).bind fun v46 => (sk_lI S d44 v46 20 t1_a).bind fun v48 => if S.2.1 p1 = (8, 0) then ((fX9_tryDrop S d44 p1 v48 s3.1).bind fun v50 => if S.2.1 p0 = (7, 0) then ((fX8_addWays S d44 p0 v50 v27).bind fun d55 => some (.inl (s3.1 + 1, d55))) else none) else none) else none) else none))
noncomputable def fX8_goOneOn_L43 (S : sk_S) (p0 : Nat) (p1 : Nat) (s2 : Int32 × sk_D) : Option ((Int32 × sk_D) ⊕ (sk_D)) :=
  (sk_gI S s2.2 p0 7 0).bind fun v10 => if v10 ≤ s2.1 then (some (.inr s2.2)) else ((sk_gR S p0 7 3).bind fun v13 => (sk_al S v13 20).bind fun v15 => if v15 ≤ s2.1 then (some (.inr s2.2)) else ((sk_gR S p0 7 5).bind fun v18 => (sk_gR S p0 7 3).bind fun v20 => (sk_lI S s2.2 v20 20 s2.1).bind fun v22 => if S.2.1 p0 = (7, 0) then ((fX8_spot S s2.2 p0 v22).bind fun v24 => (sk_lJ S s2.2 v18 v24).bind fun v27 => (sk_itr (fX8_goOneOn_L79 S p0 p1 s2.1 v27) ((0 : Int32), s2.2)).bind fun y3 => some (.inl (s2.1 + 1, y3))) else none))
noncomputable def fX8_goOneOn_L2 (S : sk_S) (p0 : Nat) (s1 : Int32 × sk_D) : Option ((Int32 × sk_D) ⊕ (sk_D)) :=
  (sk_gI S s1.2 p0 7 0).bind fun v57 => if v57 ≤ s1.1 then (some (.inr s1.2)) else ((sk_gR S p0 7 3).bind fun v60 => (sk_al S v60 20).bind fun v62 => if v62 ≤ s1.1 then (some (.inr s1.2)) else ((sk_gR S p0 7 6).bind fun v65 => (sk_gR S p0 7 3).bind fun v67 => (sk_lI S s1.2 v67 20 s1.1).bind fun v69 => if S.2.1 p0 = (7, 0) then ((fX8_spot S s1.2 p0 v69).bind fun v71 => (sk_sJ S s1.2 v65 v71 (0 : Int64)).bind fun d74 => some (.inl (s1.1 + 1, d74))) else none))
noncomputable def fX8_goOneOn (S : sk_S) (d : sk_D) (p0 : Nat) (p1 : Nat) : Option (sk_S × sk_D) :=
  (sk_itr (fX8_goOneOn_L2 S p0) ((0 : Int32), d)).bind fun y1 => (sk_itr (fX8_goOneOn_L43 S p0 p1) ((0 : Int32), y1)).bind fun y2 => (sk_gR S p0 7 5).bind fun v1 => (sk_gR S p0 7 6).bind fun v3 => (sk_pR S p0 7 5 v3).bind fun S5 => (sk_pR S5 p0 7 6 v1).bind fun S7 => some (S7, y2)
theorem monoX8_goOneOn (S : sk_S) (d : sk_D) (p0 : Nat) (p1 : Nat) : sk_Mo S.1 (fun z => z.1.1) (fX8_goOneOn S d p0 p1) := by
  unfold fX8_goOneOn
  repeat' (first | exact mo_none | exact mo_some ⟨Nat.le_refl _, Nat.le_refl _⟩ | refine mo_pR (fun _ => ?_) | refine mo_mk (fun _ => ?_) | refine mo_sR24 (fun _ => ?_) | refine mo_sR25 (fun _ => ?_) | refine mo_ite ?_ ?_ | refine mo_bind (fun _ => ?_) | split)
set_option maxRecDepth 100000 in
set_option maxHeartbeats 4000000 in
theorem sX8_goOneOn (C : sk_C) (l : Launch) {S : sk_S} {d : sk_D} {p0 : Nat} {p1 : Nat} {SS : sk_S} {dd : sk_D} (hf : fX8_goOneOn S d p0 p1 = some (SS, dd)) : sk_Met C l 5 yX8_goOneOn cX8_goOneOn 6 none [.ref p0, .ref p1] S d none SS dd := by
  have hmono := mo_use (n := S.1) (pr := (fun z => z.1.1)) hf (monoX8_goOneOn S d p0 p1)
  refine sk_Met.of (by decide) (Nat.le_of_ble_eq_true rfl) hmono.1 hmono.2 (fun X K0 hX => ?_)
  have K : sk_Ok X C cX8_goOneOn 6 RX8 "goOneOn" none 5 l none SS dd := K0
  have R1 : X.2.2.2.2.2.2.2.2.2.2.2.1 ≤ S.1.1 ∧ X.2.2.2.2.2.2.2.2.2.2.2.2 ≤ S.1.2 := by rw [hX]; exact ⟨Nat.le_refl _, Nat.le_refl _⟩
  have R2 : S.1.1 ≤ SS.1.1 ∧ S.1.2 ≤ SS.1.2 := hmono
  show sk_G X C 6 S d 0 [(0, .ref p0), (1, .ref p1)] []
  unfold fX8_goOneOn at hf
  refine sk_iconst (0 : Int32) K dX8_goOneOn_0 (by decide) ?_
  refine sk_istore_n [(2, .int (0 : Int32)), (0, .ref p0), (1, .ref p1)] K dX8_goOneOn_1 rfl (by decide) rfl ?_
  obtain ⟨x1, he1, hf⟩ := sk_ob hf
  have rest1 : ∀ y1, y1 = x1 → sk_G X C 6 S y1 41 [(0, .ref p0), (1, .ref p1)] [] := by
    intro y1 hy
    subst hy
    refine sk_iconst (0 : Int32) K dX8_goOneOn_41 (by decide) ?_
    refine sk_istore_n [(2, .int (0 : Int32)), (0, .ref p0), (1, .ref p1)] K dX8_goOneOn_42 rfl (by decide) rfl ?_
    obtain ⟨x2, he2, hf⟩ := sk_ob hf
    have rest2 : ∀ y2, y2 = x2 → sk_G X C 6 S y2 140 [(0, .ref p0)] [] := by
      intro y2 hy
      subst hy
      refine sk_aload_n K dX8_goOneOn_140 rfl 0 rfl ?_
      obtain ⟨v1, e2, hf⟩ := sk_ob hf
      refine sk_getR K dX8_goOneOn_141 fl_X8_28 rfl e2 ?_
      refine sk_astore_n [(2, .ref v1), (0, .ref p0)] K dX8_goOneOn_144 rfl (by decide) rfl ?_
      refine sk_aload_n K dX8_goOneOn_145 rfl 1 rfl ?_
      refine sk_aload_n K dX8_goOneOn_146 rfl 1 rfl ?_
      obtain ⟨v3, e4, hf⟩ := sk_ob hf
      refine sk_getR K dX8_goOneOn_147 fl_X8_32 rfl e4 ?_
      obtain ⟨S5, e6, hf⟩ := sk_ob hf
      have R1_S5 := sk_le_eq R1 (sk_pR_1 e6)
      have R2_S5 := mo_use (n := S5.1) (pr := (fun z => z.1.1)) hf (by repeat' (first | exact mo_none | exact mo_some ⟨Nat.le_refl _, Nat.le_refl _⟩ | refine mo_pR (fun _ => ?_) | refine mo_mk (fun _ => ?_) | refine mo_sR24 (fun _ => ?_) | refine mo_sR25 (fun _ => ?_) | refine mo_ite ?_ ?_ | refine mo_bind (fun _ => ?_) | split))
      refine sk_putR S5 K dX8_goOneOn_150 fl_X8_28 rfl rfl rfl e6 ?_
      refine sk_aload_n K dX8_goOneOn_153 rfl 1 rfl ?_
      refine sk_aload_n K dX8_goOneOn_154 rfl 0 rfl ?_
      obtain ⟨S7, e8, hf⟩ := sk_ob hf
      have R1_S7 := sk_le_eq R1_S5 (sk_pR_1 e8)
      have R2_S7 := mo_use (n := S7.1) (pr := (fun z => z.1.1)) hf (by repeat' (first | exact mo_none | exact mo_some ⟨Nat.le_refl _, Nat.le_refl _⟩ | refine mo_pR (fun _ => ?_) | refine mo_mk (fun _ => ?_) | refine mo_sR24 (fun _ => ?_) | refine mo_sR25 (fun _ => ?_) | refine mo_ite ?_ ?_ | refine mo_bind (fun _ => ?_) | split))
      refine sk_putR S7 K dX8_goOneOn_155 fl_X8_32 rfl rfl rfl e8 ?_
      have hR9 : (S7, y2) = (SS, dd) := Option.some.inj hf
      exact sk_vret K dX8_goOneOn_158 rfl rfl (congrArg (fun z => z.1) hR9) (congrArg (fun z => z.2) hR9)
    refine sk_sub [(0, .ref p0), (1, .ref p1), (2, .int (0 : Int32))] [1, 2, 0] rfl ?_
    refine sk_loop (fun s2 => sk_G X C 6 S s2.2 43 [(0, .ref p0), (1, .ref p1), (2, .int s2.1)] []) he2 (fun s2 o2 hf ih2 hx2 => ?_)
    unfold fX8_goOneOn_L43 at hf
    refine sk_iload_n K dX8_goOneOn_43 rfl 2 rfl ?_
    refine sk_aload_n K dX8_goOneOn_44 rfl 0 rfl ?_
    obtain ⟨v10, e11, hf⟩ := sk_ob hf
    refine sk_getI K dX8_goOneOn_45 fl_X8_9 rfl e11 ?_
    refine sk_icmp_ge 140 K dX8_goOneOn_48 (by decide) (fun h12 => ?_) (fun h12 => ?_)
    · rw [if_pos h12] at hf
      refine sk_sub [(0, .ref p0)] [0] rfl ?_
      have h9 := rest2 _ (hx2 _ (Option.some.inj hf).symm)
      exact h9
    · rw [if_neg h12] at hf
      refine sk_iload_n K dX8_goOneOn_51 rfl 2 rfl ?_
      refine sk_aload_n K dX8_goOneOn_52 rfl 0 rfl ?_
      obtain ⟨v13, e14, hf⟩ := sk_ob hf
      refine sk_getR K dX8_goOneOn_53 fl_X8_21 rfl e14 ?_
      obtain ⟨v15, e16, hf⟩ := sk_ob hf
      refine sk_al20 K dX8_goOneOn_56 e16 ?_
      refine sk_icmp_ge 140 K dX8_goOneOn_57 (by decide) (fun h17 => ?_) (fun h17 => ?_)
      · rw [if_pos h17] at hf
        refine sk_sub [(0, .ref p0)] [0] rfl ?_
        have h9 := rest2 _ (hx2 _ (Option.some.inj hf).symm)
        exact h9
      · rw [if_neg h17] at hf
        refine sk_aload_n K dX8_goOneOn_60 rfl 0 rfl ?_
        obtain ⟨v18, e19, hf⟩ := sk_ob hf
        refine sk_getR K dX8_goOneOn_61 fl_X8_28 rfl e19 ?_
        refine sk_aload_n K dX8_goOneOn_64 rfl 0 rfl ?_
        refine sk_aload_n K dX8_goOneOn_65 rfl 0 rfl ?_
        obtain ⟨v20, e21, hf⟩ := sk_ob hf
        refine sk_getR K dX8_goOneOn_66 fl_X8_21 rfl e21 ?_
        refine sk_iload_n K dX8_goOneOn_69 rfl 2 rfl ?_
        obtain ⟨v22, e23, hf⟩ := sk_ob hf
        refine sk_ald20 K dX8_goOneOn_70 e23 ?_
        obtain ⟨h26, hf⟩ := sk_ib hf
        obtain ⟨v24, e25, hf⟩ := sk_ob hf
        refine sk_callV (As := [.int v22]) (st := [.ref v18]) K dX8_goOneOn_71 cl_X8_35 h26 (sX8_spot C l e25) (by decide) rfl rfl (Nat.le_of_ble_eq_true rfl) R1 R2 ?_
        obtain ⟨v27, e28, hf⟩ := sk_ob hf
        refine sk_ald21 K dX8_goOneOn_74 e28 ?_
        refine sk_lstore_n [(3, .long v27), (0, .ref p0), (1, .ref p1), (2, .int s2.1)] K dX8_goOneOn_75 rfl (by decide) rfl ?_
        refine sk_iconst (0 : Int32) K dX8_goOneOn_76 (by decide) ?_
        refine sk_istore [(5, .int (0 : Int32)), (3, .long v27), (0, .ref p0), (1, .ref p1), (2, .int s2.1)] K dX8_goOneOn_77 (by decide) rfl ?_
        obtain ⟨x3, he3, hf⟩ := sk_ob hf
        have rest3 : ∀ y3, y3 = x3 → sk_G X C 6 S y3 134 [(0, .ref p0), (1, .ref p1), (2, .int s2.1)] [] := by
          intro y3 hy
          subst hy
          refine sk_iinc (s2.1 + 1) [(2, .int (s2.1 + 1)), (0, .ref p0), (1, .ref p1)] K dX8_goOneOn_134 2 rfl rfl (by decide) rfl ?_
          refine sk_goto 43 K dX8_goOneOn_137 (by decide) ?_
          refine sk_sub [(0, .ref p0), (1, .ref p1), (2, .int (s2.1 + 1))] [1, 2, 0] rfl ?_
          have h9 := ih2 _ (Option.some.inj hf).symm
          exact h9
        refine sk_sub [(0, .ref p0), (1, .ref p1), (2, .int s2.1), (3, .long v27), (5, .int (0 : Int32))] [2, 3, 4, 1, 0] rfl ?_
        refine sk_loop (fun s3 => sk_G X C 6 S s3.2 79 [(0, .ref p0), (1, .ref p1), (2, .int s2.1), (3, .long v27), (5, .int s3.1)] []) he3 (fun s3 o3 hf ih3 hx3 => ?_)
        unfold fX8_goOneOn_L79 at hf
        refine sk_iload K dX8_goOneOn_79 4 rfl ?_
        refine sk_aload_n K dX8_goOneOn_81 rfl 0 rfl ?_
        obtain ⟨v29, e30, hf⟩ := sk_ob hf
        refine sk_getI K dX8_goOneOn_82 fl_X8_18 rfl e30 ?_
        refine sk_icmp_ge 134 K dX8_goOneOn_85 (by decide) (fun h31 => ?_) (fun h31 => ?_)
        · rw [if_pos h31] at hf
          refine sk_sub [(0, .ref p0), (1, .ref p1), (2, .int s2.1)] [0, 1, 2] rfl ?_
          have h9 := rest3 _ (hx3 _ (Option.some.inj hf).symm)
          exact h9
        · rw [if_neg h31] at hf
          refine sk_lload_n K dX8_goOneOn_88 rfl 3 rfl ?_
          refine sk_lconst (0 : Int64) K dX8_goOneOn_89 (by decide) ?_
          refine sk_lcmp_eq 134 K dX8_goOneOn_90 dX8_goOneOn_91 (by decide) (fun h32 => ?_) (fun h32 => ?_)
          · rw [if_pos h32] at hf
            refine sk_sub [(0, .ref p0), (1, .ref p1), (2, .int s2.1)] [0, 1, 2] rfl ?_
            have h9 := rest3 _ (hx3 _ (Option.some.inj hf).symm)
            exact h9
          · rw [if_neg h32] at hf
            refine sk_aload_n K dX8_goOneOn_94 rfl 0 rfl ?_
            refine sk_aload_n K dX8_goOneOn_95 rfl 1 rfl ?_
            refine sk_aload_n K dX8_goOneOn_96 rfl 0 rfl ?_
            obtain ⟨v33, e34, hf⟩ := sk_ob hf
            refine sk_getR K dX8_goOneOn_97 fl_X8_21 rfl e34 ?_
            refine sk_iload_n K dX8_goOneOn_100 rfl 2 rfl ?_
            obtain ⟨v35, e36, hf⟩ := sk_ob hf
            refine sk_ald20 K dX8_goOneOn_101 e36 ?_
            refine sk_iload K dX8_goOneOn_102 4 rfl ?_
            obtain ⟨h40, hf⟩ := sk_ib hf
            obtain ⟨⟨v37, d39⟩, e38, hf⟩ := sk_ob hf
            try dsimp only at hf
            refine sk_callV (As := [.int v35, .int s3.1]) (st := [.ref p0]) K dX8_goOneOn_104 cl_X8_74 h40 (sX9_tryDo C l e38) (by decide) rfl rfl (Nat.le_of_ble_eq_true rfl) R1 R2 ?_
            refine sk_lload_n K dX8_goOneOn_107 rfl 3 rfl ?_
            obtain ⟨h45, hf⟩ := sk_ib hf
            obtain ⟨d44, e43, hf⟩ := sk_ob hf
            refine sk_callV (As := [.int v37, .long v27]) (st := []) K dX8_goOneOn_108 cl_X8_105 h45 (sX8_addWays C l e43) (by decide) rfl rfl (Nat.le_of_ble_eq_true rfl) R1 R2 ?_
            refine sk_aload_n K dX8_goOneOn_111 rfl 0 rfl ?_
            refine sk_aload_n K dX8_goOneOn_112 rfl 1 rfl ?_
            refine sk_aload_n K dX8_goOneOn_113 rfl 0 rfl ?_
            obtain ⟨v46, e47, hf⟩ := sk_ob hf
            refine sk_getR K dX8_goOneOn_114 fl_X8_21 rfl e47 ?_
            refine sk_iload_n K dX8_goOneOn_117 rfl 2 rfl ?_
            obtain ⟨v48, e49, hf⟩ := sk_ob hf
            refine sk_ald20 K dX8_goOneOn_118 e49 ?_
            refine sk_iload K dX8_goOneOn_119 4 rfl ?_
            obtain ⟨h52, hf⟩ := sk_ib hf
            obtain ⟨v50, e51, hf⟩ := sk_ob hf
            refine sk_callV (As := [.int v48, .int s3.1]) (st := [.ref p0]) K dX8_goOneOn_121 cl_X8_77 h52 (sX9_tryDrop C l e51) (by decide) rfl rfl (Nat.le_of_ble_eq_true rfl) R1 R2 ?_
            refine sk_lload_n K dX8_goOneOn_124 rfl 3 rfl ?_
            obtain ⟨h56, hf⟩ := sk_ib hf
            obtain ⟨d55, e54, hf⟩ := sk_ob hf
            refine sk_callV (As := [.int v50, .long v27]) (st := []) K dX8_goOneOn_125 cl_X8_105 h56 (sX8_addWays C l e54) (by decide) rfl rfl (Nat.le_of_ble_eq_true rfl) R1 R2 ?_
            refine sk_iinc (s3.1 + 1) [(5, .int (s3.1 + 1)), (0, .ref p0), (1, .ref p1), (2, .int s2.1), (3, .long v27)] K dX8_goOneOn_128 4 rfl rfl (by decide) rfl ?_
            refine sk_goto 79 K dX8_goOneOn_131 (by decide) ?_
            refine sk_sub [(0, .ref p0), (1, .ref p1), (2, .int s2.1), (3, .long v27), (5, .int (s3.1 + 1))] [1, 2, 3, 4, 0] rfl ?_
            have h9 := ih3 _ (Option.some.inj hf).symm
            exact h9
  refine sk_sub [(0, .ref p0), (1, .ref p1), (2, .int (0 : Int32))] [1, 2, 0] rfl ?_
  refine sk_loop (fun s1 => sk_G X C 6 S s1.2 2 [(0, .ref p0), (1, .ref p1), (2, .int s1.1)] []) he1 (fun s1 o1 hf ih1 hx1 => ?_)
  unfold fX8_goOneOn_L2 at hf
  refine sk_iload_n K dX8_goOneOn_2 rfl 2 rfl ?_
  refine sk_aload_n K dX8_goOneOn_3 rfl 0 rfl ?_
  obtain ⟨v57, e58, hf⟩ := sk_ob hf
  refine sk_getI K dX8_goOneOn_4 fl_X8_9 rfl e58 ?_
  refine sk_icmp_ge 41 K dX8_goOneOn_7 (by decide) (fun h59 => ?_) (fun h59 => ?_)
  · rw [if_pos h59] at hf
    refine sk_sub [(0, .ref p0), (1, .ref p1)] [0, 1] rfl ?_
    have h9 := rest1 _ (hx1 _ (Option.some.inj hf).symm)
    exact h9
  · rw [if_neg h59] at hf
    refine sk_iload_n K dX8_goOneOn_10 rfl 2 rfl ?_
    refine sk_aload_n K dX8_goOneOn_11 rfl 0 rfl ?_
    obtain ⟨v60, e61, hf⟩ := sk_ob hf
    refine sk_getR K dX8_goOneOn_12 fl_X8_21 rfl e61 ?_
    obtain ⟨v62, e63, hf⟩ := sk_ob hf
    refine sk_al20 K dX8_goOneOn_15 e63 ?_
    refine sk_icmp_ge 41 K dX8_goOneOn_16 (by decide) (fun h64 => ?_) (fun h64 => ?_)
    · rw [if_pos h64] at hf
      refine sk_sub [(0, .ref p0), (1, .ref p1)] [0, 1] rfl ?_
      have h9 := rest1 _ (hx1 _ (Option.some.inj hf).symm)
      exact h9
    · rw [if_neg h64] at hf
      refine sk_aload_n K dX8_goOneOn_19 rfl 0 rfl ?_
      obtain ⟨v65, e66, hf⟩ := sk_ob hf
      refine sk_getR K dX8_goOneOn_20 fl_X8_32 rfl e66 ?_
      refine sk_aload_n K dX8_goOneOn_23 rfl 0 rfl ?_
      refine sk_aload_n K dX8_goOneOn_24 rfl 0 rfl ?_
      obtain ⟨v67, e68, hf⟩ := sk_ob hf
      refine sk_getR K dX8_goOneOn_25 fl_X8_21 rfl e68 ?_
      refine sk_iload_n K dX8_goOneOn_28 rfl 2 rfl ?_
      obtain ⟨v69, e70, hf⟩ := sk_ob hf
      refine sk_ald20 K dX8_goOneOn_29 e70 ?_
      obtain ⟨h73, hf⟩ := sk_ib hf
      obtain ⟨v71, e72, hf⟩ := sk_ob hf
      refine sk_callV (As := [.int v69]) (st := [.ref v65]) K dX8_goOneOn_30 cl_X8_35 h73 (sX8_spot C l e72) (by decide) rfl rfl (Nat.le_of_ble_eq_true rfl) R1 R2 ?_
      refine sk_lconst (0 : Int64) K dX8_goOneOn_33 (by decide) ?_
      obtain ⟨d74, e75, hf⟩ := sk_ob hf
      refine sk_ast21 d74 K dX8_goOneOn_34 e75 ?_
      refine sk_iinc (s1.1 + 1) [(2, .int (s1.1 + 1)), (0, .ref p0), (1, .ref p1)] K dX8_goOneOn_35 2 rfl rfl (by decide) rfl ?_
      refine sk_goto 2 K dX8_goOneOn_38 (by decide) ?_
      refine sk_sub [(0, .ref p0), (1, .ref p1), (2, .int (s1.1 + 1))] [1, 2, 0] rfl ?_
      have h9 := ih1 _ (Option.some.inj hf).symm
      exact h9
noncomputable def fX9_init (S : sk_S) (d : sk_D) (p0 : Nat) : Option (sk_S × sk_D) :=
  (fX2_init (sk_nS S 2 0 (sk_N 2)) (sk_nD S d) (S.1.1 + 1)).bind fun b5 => (sk_pR b5.1 p0 8 0 (S.1.1 + 1)).bind fun S6 => (sk_mk S6 b5.2 22 (2048 : Int32)).bind fun b12 => (sk_pR b12.2.1 p0 8 1 b12.1).bind fun S13 => (sk_mk S13 b12.2.2 20 (2048 : Int32)).bind fun b19 => (sk_pR b19.2.1 p0 8 2 b19.1).bind fun S20 => (sk_mk S20 b19.2.2 20 (6 : Int32)).bind fun b26 => (sk_pR b26.2.1 p0 8 3 b26.1).bind fun S27 => some (S27, b26.2.2)
theorem monoX9_init (S : sk_S) (d : sk_D) (p0 : Nat) : sk_Mo S.1 (fun z => z.1.1) (fX9_init S d p0) := by
  unfold fX9_init
  repeat' (first | exact mo_none | exact mo_some ⟨Nat.le_refl _, Nat.le_refl _⟩ | refine mo_pR (fun _ => ?_) | refine mo_mk (fun _ => ?_) | refine mo_sR24 (fun _ => ?_) | refine mo_sR25 (fun _ => ?_) | refine mo_A ⟨Nat.le_refl _, Nat.le_refl _⟩ (monoX2_init _ _ _) (fun _ => ?_) | refine mo_A (sk_nS_le _ _ _ _) (monoX2_init _ _ _) (fun _ => ?_) | refine mo_ite ?_ ?_ | refine mo_bind (fun _ => ?_) | split)
set_option maxRecDepth 100000 in
set_option maxHeartbeats 4000000 in
theorem sX9_init (C : sk_C) (l : Launch) {S : sk_S} {d : sk_D} {p0 : Nat} {SS : sk_S} {dd : sk_D} (hf : fX9_init S d p0 = some (SS, dd)) : sk_Met C l 3 yX9_init cX9_init 1 none [.ref p0] S d none SS dd := by
  have hmono := mo_use (n := S.1) (pr := (fun z => z.1.1)) hf (monoX9_init S d p0)
  refine sk_Met.of (by decide) (Nat.le_of_ble_eq_true rfl) hmono.1 hmono.2 (fun X K0 hX => ?_)
  have K : sk_Ok X C cX9_init 1 RX9 "<init>" none 3 l none SS dd := K0
  have R1 : X.2.2.2.2.2.2.2.2.2.2.2.1 ≤ S.1.1 ∧ X.2.2.2.2.2.2.2.2.2.2.2.2 ≤ S.1.2 := by rw [hX]; exact ⟨Nat.le_refl _, Nat.le_refl _⟩
  have R2 : S.1.1 ≤ SS.1.1 ∧ S.1.2 ≤ SS.1.2 := hmono
  show sk_G X C 1 S d 0 [(0, .ref p0)] []
  unfold fX9_init at hf
  refine sk_aload_n K dX9_init_0 rfl 0 rfl ?_
  refine sk_objInit K dX9_init_1 qw_160 qw_153 qw_154 (by decide) (Nat.le_of_ble_eq_true rfl) ?_
  refine sk_aload_n K dX9_init_4 rfl 0 rfl ?_
  refine sk_new K dX9_init_5 nw_X9_9 R1 (mo_use (n := (sk_nS S 2 0 (sk_N 2)).1) (pr := (fun z => z.1.1)) hf (by repeat' (first | exact mo_none | exact mo_some ⟨Nat.le_refl _, Nat.le_refl _⟩ | refine mo_pR (fun _ => ?_) | refine mo_mk (fun _ => ?_) | refine mo_sR24 (fun _ => ?_) | refine mo_sR25 (fun _ => ?_) | refine mo_A ⟨Nat.le_refl _, Nat.le_refl _⟩ (monoX2_init _ _ _) (fun _ => ?_) | refine mo_A (sk_nS_le _ _ _ _) (monoX2_init _ _ _) (fun _ => ?_) | refine mo_ite ?_ ?_ | refine mo_bind (fun _ => ?_) | split))) ?_
  refine sk_dup K dX9_init_8 rfl ?_
  obtain ⟨⟨S3, d4⟩, e2, hf⟩ := sk_ob hf
  try dsimp only at hf
  have R1_S3 := sk_le_tr (sk_nS_le2 R1) (mo_use e2 (monoX2_init _ _ _))
  have R2_S3 := mo_use (n := S3.1) (pr := (fun z => z.1.1)) hf (by repeat' (first | exact mo_none | exact mo_some ⟨Nat.le_refl _, Nat.le_refl _⟩ | refine mo_pR (fun _ => ?_) | refine mo_mk (fun _ => ?_) | refine mo_sR24 (fun _ => ?_) | refine mo_sR25 (fun _ => ?_) | refine mo_A ⟨Nat.le_refl _, Nat.le_refl _⟩ (monoX2_init _ _ _) (fun _ => ?_) | refine mo_A (sk_nS_le _ _ _ _) (monoX2_init _ _ _) (fun _ => ?_) | refine mo_ite ?_ ?_ | refine mo_bind (fun _ => ?_) | split))
  refine sk_callI (As := []) (st := [.ref (S.1.1 + 1), .ref p0]) K dX9_init_9 cl_X9_11 rfl (sX2_init C l e2) (by decide) rfl rfl (Nat.le_of_ble_eq_true rfl) (sk_nS_le2 R1) R2_S3 ?_
  obtain ⟨S6, e7, hf⟩ := sk_ob hf
  have R1_S6 := sk_le_eq R1_S3 (sk_pR_1 e7)
  have R2_S6 := mo_use (n := S6.1) (pr := (fun z => z.1.1)) hf (by repeat' (first | exact mo_none | exact mo_some ⟨Nat.le_refl _, Nat.le_refl _⟩ | refine mo_pR (fun _ => ?_) | refine mo_mk (fun _ => ?_) | refine mo_sR24 (fun _ => ?_) | refine mo_sR25 (fun _ => ?_) | refine mo_A ⟨Nat.le_refl _, Nat.le_refl _⟩ (monoX2_init _ _ _) (fun _ => ?_) | refine mo_A (sk_nS_le _ _ _ _) (monoX2_init _ _ _) (fun _ => ?_) | refine mo_ite ?_ ?_ | refine mo_bind (fun _ => ?_) | split))
  refine sk_putRF S6 K dX9_init_12 fl_X9_12 (fun _ _ _ h => by cases h; rfl) rfl rfl rfl rfl e7 ?_
  refine sk_aload_n K dX9_init_15 rfl 0 rfl ?_
  refine sk_sipush (2048 : Int32) K dX9_init_16 (by decide) ?_
  obtain ⟨⟨v8, S9, d10⟩, e11, hf⟩ := sk_ob hf
  try dsimp only at hf
  have R1_S9 := sk_le_tr R1_S6 (sk_mk_1 e11)
  have R2_S9 := mo_use (n := S9.1) (pr := (fun z => z.1.1)) hf (by repeat' (first | exact mo_none | exact mo_some ⟨Nat.le_refl _, Nat.le_refl _⟩ | refine mo_pR (fun _ => ?_) | refine mo_mk (fun _ => ?_) | refine mo_sR24 (fun _ => ?_) | refine mo_sR25 (fun _ => ?_) | refine mo_A ⟨Nat.le_refl _, Nat.le_refl _⟩ (monoX2_init _ _ _) (fun _ => ?_) | refine mo_A (sk_nS_le _ _ _ _) (monoX2_init _ _ _) (fun _ => ?_) | refine mo_ite ?_ ?_ | refine mo_bind (fun _ => ?_) | split))
  refine sk_newa22 K dX9_init_19 qw_282 e11 R1_S6 R2_S9 ?_
  obtain ⟨S13, e14, hf⟩ := sk_ob hf
  have R1_S13 := sk_le_eq R1_S9 (sk_pR_1 e14)
  have R2_S13 := mo_use (n := S13.1) (pr := (fun z => z.1.1)) hf (by repeat' (first | exact mo_none | exact mo_some ⟨Nat.le_refl _, Nat.le_refl _⟩ | refine mo_pR (fun _ => ?_) | refine mo_mk (fun _ => ?_) | refine mo_sR24 (fun _ => ?_) | refine mo_sR25 (fun _ => ?_) | refine mo_A ⟨Nat.le_refl _, Nat.le_refl _⟩ (monoX2_init _ _ _) (fun _ => ?_) | refine mo_A (sk_nS_le _ _ _ _) (monoX2_init _ _ _) (fun _ => ?_) | refine mo_ite ?_ ?_ | refine mo_bind (fun _ => ?_) | split))
  refine sk_putRF S13 K dX9_init_21 fl_X9_18 (fun _ _ _ h => by cases h; rfl) rfl rfl rfl rfl e14 ?_
  refine sk_aload_n K dX9_init_24 rfl 0 rfl ?_
  refine sk_sipush (2048 : Int32) K dX9_init_25 (by decide) ?_
  obtain ⟨⟨v15, S16, d17⟩, e18, hf⟩ := sk_ob hf
  try dsimp only at hf
  have R1_S16 := sk_le_tr R1_S13 (sk_mk_1 e18)
  have R2_S16 := mo_use (n := S16.1) (pr := (fun z => z.1.1)) hf (by repeat' (first | exact mo_none | exact mo_some ⟨Nat.le_refl _, Nat.le_refl _⟩ | refine mo_pR (fun _ => ?_) | refine mo_mk (fun _ => ?_) | refine mo_sR24 (fun _ => ?_) | refine mo_sR25 (fun _ => ?_) | refine mo_A ⟨Nat.le_refl _, Nat.le_refl _⟩ (monoX2_init _ _ _) (fun _ => ?_) | refine mo_A (sk_nS_le _ _ _ _) (monoX2_init _ _ _) (fun _ => ?_) | refine mo_ite ?_ ?_ | refine mo_bind (fun _ => ?_) | split))
  refine sk_newa20 K dX9_init_28 qw_183 e18 R1_S13 R2_S16 ?_
  obtain ⟨S20, e21, hf⟩ := sk_ob hf
  have R1_S20 := sk_le_eq R1_S16 (sk_pR_1 e21)
  have R2_S20 := mo_use (n := S20.1) (pr := (fun z => z.1.1)) hf (by repeat' (first | exact mo_none | exact mo_some ⟨Nat.le_refl _, Nat.le_refl _⟩ | refine mo_pR (fun _ => ?_) | refine mo_mk (fun _ => ?_) | refine mo_sR24 (fun _ => ?_) | refine mo_sR25 (fun _ => ?_) | refine mo_A ⟨Nat.le_refl _, Nat.le_refl _⟩ (monoX2_init _ _ _) (fun _ => ?_) | refine mo_A (sk_nS_le _ _ _ _) (monoX2_init _ _ _) (fun _ => ?_) | refine mo_ite ?_ ?_ | refine mo_bind (fun _ => ?_) | split))
  refine sk_putRF S20 K dX9_init_30 fl_X9_22 (fun _ _ _ h => by cases h; rfl) rfl rfl rfl rfl e21 ?_
  refine sk_aload_n K dX9_init_33 rfl 0 rfl ?_
  refine sk_bipush (6 : Int32) K dX9_init_34 (by decide) ?_
  obtain ⟨⟨v22, S23, d24⟩, e25, hf⟩ := sk_ob hf
  try dsimp only at hf
  have R1_S23 := sk_le_tr R1_S20 (sk_mk_1 e25)
  have R2_S23 := mo_use (n := S23.1) (pr := (fun z => z.1.1)) hf (by repeat' (first | exact mo_none | exact mo_some ⟨Nat.le_refl _, Nat.le_refl _⟩ | refine mo_pR (fun _ => ?_) | refine mo_mk (fun _ => ?_) | refine mo_sR24 (fun _ => ?_) | refine mo_sR25 (fun _ => ?_) | refine mo_A ⟨Nat.le_refl _, Nat.le_refl _⟩ (monoX2_init _ _ _) (fun _ => ?_) | refine mo_A (sk_nS_le _ _ _ _) (monoX2_init _ _ _) (fun _ => ?_) | refine mo_ite ?_ ?_ | refine mo_bind (fun _ => ?_) | split))
  refine sk_newa20 K dX9_init_36 qw_183 e25 R1_S20 R2_S23 ?_
  obtain ⟨S27, e28, hf⟩ := sk_ob hf
  have R1_S27 := sk_le_eq R1_S23 (sk_pR_1 e28)
  have R2_S27 := mo_use (n := S27.1) (pr := (fun z => z.1.1)) hf (by repeat' (first | exact mo_none | exact mo_some ⟨Nat.le_refl _, Nat.le_refl _⟩ | refine mo_pR (fun _ => ?_) | refine mo_mk (fun _ => ?_) | refine mo_sR24 (fun _ => ?_) | refine mo_sR25 (fun _ => ?_) | refine mo_A ⟨Nat.le_refl _, Nat.le_refl _⟩ (monoX2_init _ _ _) (fun _ => ?_) | refine mo_A (sk_nS_le _ _ _ _) (monoX2_init _ _ _) (fun _ => ?_) | refine mo_ite ?_ ?_ | refine mo_bind (fun _ => ?_) | split))
  refine sk_putRF S27 K dX9_init_38 fl_X9_28 (fun _ _ _ h => by cases h; rfl) rfl rfl rfl rfl e28 ?_
  have hR29 : (S27, d24) = (SS, dd) := Option.some.inj hf
  exact sk_vret K dX9_init_41 rfl rfl (congrArg (fun z => z.1) hR29) (congrArg (fun z => z.2) hR29)
noncomputable def fX10_soonest (S : sk_S) (d : sk_D) (p0 : Nat) (p1 : Int32) : Option (Int32 × sk_S × sk_D) :=
  (sk_gR S p0 9 0).bind fun v1 => (sk_gR S v1 8 0).bind fun v3 => if S.2.1 v3 = (2, 0) then ((fX2_hasAll S d v3 p1).bind fun v5 => if v5 = true then ((sk_gR S p0 9 2).bind fun v9 => (sk_gR S p0 9 2).bind fun v11 => (sk_gR S p0 9 0).bind fun v13 => (sk_gR S p0 9 5).bind fun v15 => (sk_gI S d v15 4 1).bind fun v17 => (fX10_stateIn S d v17).bind fun v19 => if S.2.1 v11 = (7, 0) then ((fX8_toDone S d v11 v13 v19 p1).bind fun b26 => if b26.2.1.2.1 v9 = (7, 0) then ((fX8_length b26.2.1 b26.2.2 v9 b26.1).bind fun v27 => some (v27, b26.2.1, b26.2.2)) else none) else none) else (some ((-3 : Int32), S, d))) else none
theorem monoX10_soonest (S : sk_S) (d : sk_D) (p0 : Nat) (p1 : Int32) : sk_Mo S.1 (fun z => z.2.1.1) (fX10_soonest S d p0 p1) := by
  unfold fX10_soonest
  repeat' (first | exact mo_none | exact mo_some ⟨Nat.le_refl _, Nat.le_refl _⟩ | refine mo_pR (fun _ => ?_) | refine mo_mk (fun _ => ?_) | refine mo_sR24 (fun _ => ?_) | refine mo_sR25 (fun _ => ?_) | refine mo_A ⟨Nat.le_refl _, Nat.le_refl _⟩ (monoX8_toDone _ _ _ _ _ _) (fun _ => ?_) | refine mo_A (sk_nS_le _ _ _ _) (monoX8_toDone _ _ _ _ _ _) (fun _ => ?_) | refine mo_ite ?_ ?_ | refine mo_bind (fun _ => ?_) | split)
set_option maxRecDepth 100000 in
set_option maxHeartbeats 4000000 in
theorem sX10_soonest (C : sk_C) (l : Launch) {S : sk_S} {d : sk_D} {p0 : Nat} {p1 : Int32} {rr : Int32} {SS : sk_S} {dd : sk_D} (hf : fX10_soonest S d p0 p1 = some (rr, SS, dd)) : sk_Met C l 7 yX10_soonest cX10_soonest 2 (some .int) [.ref p0, .int p1] S d (some (.int rr)) SS dd := by
  have hmono := mo_use (n := S.1) (pr := (fun z => z.2.1.1)) hf (monoX10_soonest S d p0 p1)
  refine sk_Met.of (by decide) (Nat.le_of_ble_eq_true rfl) hmono.1 hmono.2 (fun X K0 hX => ?_)
  have K : sk_Ok X C cX10_soonest 2 RX10 "soonest" (some .int) 7 l (some (.int rr)) SS dd := K0
  have R1 : X.2.2.2.2.2.2.2.2.2.2.2.1 ≤ S.1.1 ∧ X.2.2.2.2.2.2.2.2.2.2.2.2 ≤ S.1.2 := by rw [hX]; exact ⟨Nat.le_refl _, Nat.le_refl _⟩
  have R2 : S.1.1 ≤ SS.1.1 ∧ S.1.2 ≤ SS.1.2 := hmono
  show sk_G X C 2 S d 0 [(0, .ref p0), (1, .int p1)] []
  unfold fX10_soonest at hf
  refine sk_aload_n K dX10_soonest_0 rfl 0 rfl ?_
  obtain ⟨v1, e2, hf⟩ := sk_ob hf
  refine sk_getR K dX10_soonest_1 fl_X10_10 rfl e2 ?_
  obtain ⟨v3, e4, hf⟩ := sk_ob hf
  refine sk_getR K dX10_soonest_4 fl_X10_98 rfl e4 ?_
  refine sk_iload_n K dX10_soonest_7 rfl 1 rfl ?_
  obtain ⟨h7, hf⟩ := sk_ib hf
  obtain ⟨v5, e6, hf⟩ := sk_ob hf
  refine sk_callV (As := [.int p1]) (st := []) K dX10_soonest_8 cl_X10_224 h7 (sX2_hasAll C l e6) (by decide) rfl rfl (Nat.le_of_ble_eq_true rfl) R1 R2 ?_
  refine sk_ifneB 17 K dX10_soonest_11 (by decide) (fun h8 => ?_) (fun h8 => ?_)
  · rw [if_pos h8] at hf
    refine sk_aload_n K dX10_soonest_17 rfl 0 rfl ?_
    obtain ⟨v9, e10, hf⟩ := sk_ob hf
    refine sk_getR K dX10_soonest_18 fl_X10_26 rfl e10 ?_
    refine sk_aload_n K dX10_soonest_21 rfl 0 rfl ?_
    obtain ⟨v11, e12, hf⟩ := sk_ob hf
    refine sk_getR K dX10_soonest_22 fl_X10_26 rfl e12 ?_
    refine sk_aload_n K dX10_soonest_25 rfl 0 rfl ?_
    obtain ⟨v13, e14, hf⟩ := sk_ob hf
    refine sk_getR K dX10_soonest_26 fl_X10_10 rfl e14 ?_
    refine sk_aload_n K dX10_soonest_29 rfl 0 rfl ?_
    obtain ⟨v15, e16, hf⟩ := sk_ob hf
    refine sk_getR K dX10_soonest_30 fl_X10_47 rfl e16 ?_
    obtain ⟨v17, e18, hf⟩ := sk_ob hf
    refine sk_getI K dX10_soonest_33 fl_X10_120 rfl e18 ?_
    obtain ⟨v19, e20, hf⟩ := sk_ob hf
    refine sk_callS (As := [.int v17]) (st := [.ref v13, .ref v11, .ref v9]) K dX10_soonest_36 cl_X10_227 (sX10_stateIn C l e20) (by decide) rfl rfl (Nat.le_of_ble_eq_true rfl) R1 R2 ?_
    refine sk_iload_n K dX10_soonest_39 rfl 1 rfl ?_
    obtain ⟨h25, hf⟩ := sk_ib hf
    obtain ⟨⟨v21, S23, d24⟩, e22, hf⟩ := sk_ob hf
    try dsimp only at hf
    have R1_S23 := sk_le_tr R1 (mo_use e22 (monoX8_toDone _ _ _ _ _ _))
    have R2_S23 := mo_use (n := S23.1) (pr := (fun z => z.2.1.1)) hf (by repeat' (first | exact mo_none | exact mo_some ⟨Nat.le_refl _, Nat.le_refl _⟩ | refine mo_pR (fun _ => ?_) | refine mo_mk (fun _ => ?_) | refine mo_sR24 (fun _ => ?_) | refine mo_sR25 (fun _ => ?_) | refine mo_A ⟨Nat.le_refl _, Nat.le_refl _⟩ (monoX8_toDone _ _ _ _ _ _) (fun _ => ?_) | refine mo_A (sk_nS_le _ _ _ _) (monoX8_toDone _ _ _ _ _ _) (fun _ => ?_) | refine mo_ite ?_ ?_ | refine mo_bind (fun _ => ?_) | split))
    refine sk_callV (As := [.ref v13, .int v19, .int p1]) (st := [.ref v9]) K dX10_soonest_40 cl_X10_230 h25 (sX8_toDone C l e22) (by decide) rfl rfl (Nat.le_of_ble_eq_true rfl) R1 R2_S23 ?_
    obtain ⟨h29, hf⟩ := sk_ib hf
    obtain ⟨v27, e28, hf⟩ := sk_ob hf
    refine sk_callV (As := [.int v21]) (st := []) K dX10_soonest_43 cl_X10_234 h29 (sX8_length C l e28) (by decide) rfl rfl (Nat.le_of_ble_eq_true rfl) R1_S23 R2_S23 ?_
    have hR30 : (v27, S23, d24) = (rr, SS, dd) := Option.some.inj hf
    exact sk_iret K dX10_soonest_46 rfl rfl (congrArg (fun z => z.1) hR30) (congrArg (fun z => z.2.1) hR30) (congrArg (fun z => z.2.2) hR30)
  · rw [if_neg h8] at hf
    refine sk_bipush (-3 : Int32) K dX10_soonest_14 (by decide) ?_
    have hR31 : ((-3 : Int32), S, d) = (rr, SS, dd) := Option.some.inj hf
    exact sk_iret K dX10_soonest_16 rfl rfl (congrArg (fun z => z.1) hR31) (congrArg (fun z => z.2.1) hR31) (congrArg (fun z => z.2.2) hR31)
noncomputable def fX10_way (S : sk_S) (d : sk_D) (p0 : Nat) (p1 : Int32) (p2 : Int32) : Option (Int32 × sk_S × sk_D) :=
  (sk_gR S p0 9 0).bind fun v1 => (sk_gR S v1 8 0).bind fun v3 => if S.2.1 v3 = (2, 0) then ((fX2_hasAll S d v3 p1).bind fun v5 => if v5 = true then (if 0 ≤ p2 then ((sk_gR S p0 9 2).bind fun v11 => (sk_gR S p0 9 2).bind fun v13 => (sk_gR S p0 9 0).bind fun v15 => (sk_gR S p0 9 5).bind fun v17 => (sk_gI S d v17 4 1).bind fun v19 => (fX10_stateIn S d v19).bind fun v21 => if S.2.1 v13 = (7, 0) then ((fX8_toDone S d v13 v15 v21 p1).bind fun b28 => if b28.2.1.2.1 v11 = (7, 0) then ((fX8_deedAt b28.2.1 b28.2.2 v11 b28.1 p2).bind fun v29 => some (v29, b28.2.1, b28.2.2)) else none) else none) else (some ((-3 : Int32), S, d))) else (some ((-3 : Int32), S, d))) else none
theorem monoX10_way (S : sk_S) (d : sk_D) (p0 : Nat) (p1 : Int32) (p2 : Int32) : sk_Mo S.1 (fun z => z.2.1.1) (fX10_way S d p0 p1 p2) := by
  unfold fX10_way
  repeat' (first | exact mo_none | exact mo_some ⟨Nat.le_refl _, Nat.le_refl _⟩ | refine mo_pR (fun _ => ?_) | refine mo_mk (fun _ => ?_) | refine mo_sR24 (fun _ => ?_) | refine mo_sR25 (fun _ => ?_) | refine mo_A ⟨Nat.le_refl _, Nat.le_refl _⟩ (monoX8_toDone _ _ _ _ _ _) (fun _ => ?_) | refine mo_A (sk_nS_le _ _ _ _) (monoX8_toDone _ _ _ _ _ _) (fun _ => ?_) | refine mo_ite ?_ ?_ | refine mo_bind (fun _ => ?_) | split)
set_option maxRecDepth 100000 in
set_option maxHeartbeats 4000000 in
theorem sX10_way (C : sk_C) (l : Launch) {S : sk_S} {d : sk_D} {p0 : Nat} {p1 : Int32} {p2 : Int32} {rr : Int32} {SS : sk_S} {dd : sk_D} (hf : fX10_way S d p0 p1 p2 = some (rr, SS, dd)) : sk_Met C l 7 yX10_way cX10_way 3 (some .int) [.ref p0, .int p1, .int p2] S d (some (.int rr)) SS dd := by
  have hmono := mo_use (n := S.1) (pr := (fun z => z.2.1.1)) hf (monoX10_way S d p0 p1 p2)
  refine sk_Met.of (by decide) (Nat.le_of_ble_eq_true rfl) hmono.1 hmono.2 (fun X K0 hX => ?_)
  have K : sk_Ok X C cX10_way 3 RX10 "way" (some .int) 7 l (some (.int rr)) SS dd := K0
  have R1 : X.2.2.2.2.2.2.2.2.2.2.2.1 ≤ S.1.1 ∧ X.2.2.2.2.2.2.2.2.2.2.2.2 ≤ S.1.2 := by rw [hX]; exact ⟨Nat.le_refl _, Nat.le_refl _⟩
  have R2 : S.1.1 ≤ SS.1.1 ∧ S.1.2 ≤ SS.1.2 := hmono
  show sk_G X C 3 S d 0 [(0, .ref p0), (1, .int p1), (2, .int p2)] []
  unfold fX10_way at hf
  refine sk_aload_n K dX10_way_0 rfl 0 rfl ?_
  obtain ⟨v1, e2, hf⟩ := sk_ob hf
  refine sk_getR K dX10_way_1 fl_X10_10 rfl e2 ?_
  obtain ⟨v3, e4, hf⟩ := sk_ob hf
  refine sk_getR K dX10_way_4 fl_X10_98 rfl e4 ?_
  refine sk_iload_n K dX10_way_7 rfl 1 rfl ?_
  obtain ⟨h7, hf⟩ := sk_ib hf
  obtain ⟨v5, e6, hf⟩ := sk_ob hf
  refine sk_callV (As := [.int p1]) (st := []) K dX10_way_8 cl_X10_224 h7 (sX2_hasAll C l e6) (by decide) rfl rfl (Nat.le_of_ble_eq_true rfl) R1 R2 ?_
  refine sk_ifeqB 18 K dX10_way_11 (by decide) (fun h8 => ?_) (fun h8 => ?_)
  · rw [if_neg h8] at hf
    refine sk_bipush (-3 : Int32) K dX10_way_18 (by decide) ?_
    have hR9 : ((-3 : Int32), S, d) = (rr, SS, dd) := Option.some.inj hf
    exact sk_iret K dX10_way_20 rfl rfl (congrArg (fun z => z.1) hR9) (congrArg (fun z => z.2.1) hR9) (congrArg (fun z => z.2.2) hR9)
  · rw [if_pos h8] at hf
    refine sk_iload_n K dX10_way_14 rfl 2 rfl ?_
    refine sk_if_ge 21 K dX10_way_15 (by decide) (fun h10 => ?_) (fun h10 => ?_)
    · rw [if_pos h10] at hf
      refine sk_aload_n K dX10_way_21 rfl 0 rfl ?_
      obtain ⟨v11, e12, hf⟩ := sk_ob hf
      refine sk_getR K dX10_way_22 fl_X10_26 rfl e12 ?_
      refine sk_aload_n K dX10_way_25 rfl 0 rfl ?_
      obtain ⟨v13, e14, hf⟩ := sk_ob hf
      refine sk_getR K dX10_way_26 fl_X10_26 rfl e14 ?_
      refine sk_aload_n K dX10_way_29 rfl 0 rfl ?_
      obtain ⟨v15, e16, hf⟩ := sk_ob hf
      refine sk_getR K dX10_way_30 fl_X10_10 rfl e16 ?_
      refine sk_aload_n K dX10_way_33 rfl 0 rfl ?_
      obtain ⟨v17, e18, hf⟩ := sk_ob hf
      refine sk_getR K dX10_way_34 fl_X10_47 rfl e18 ?_
      obtain ⟨v19, e20, hf⟩ := sk_ob hf
      refine sk_getI K dX10_way_37 fl_X10_120 rfl e20 ?_
      obtain ⟨v21, e22, hf⟩ := sk_ob hf
      refine sk_callS (As := [.int v19]) (st := [.ref v15, .ref v13, .ref v11]) K dX10_way_40 cl_X10_227 (sX10_stateIn C l e22) (by decide) rfl rfl (Nat.le_of_ble_eq_true rfl) R1 R2 ?_
      refine sk_iload_n K dX10_way_43 rfl 1 rfl ?_
      obtain ⟨h27, hf⟩ := sk_ib hf
      obtain ⟨⟨v23, S25, d26⟩, e24, hf⟩ := sk_ob hf
      try dsimp only at hf
      have R1_S25 := sk_le_tr R1 (mo_use e24 (monoX8_toDone _ _ _ _ _ _))
      have R2_S25 := mo_use (n := S25.1) (pr := (fun z => z.2.1.1)) hf (by repeat' (first | exact mo_none | exact mo_some ⟨Nat.le_refl _, Nat.le_refl _⟩ | refine mo_pR (fun _ => ?_) | refine mo_mk (fun _ => ?_) | refine mo_sR24 (fun _ => ?_) | refine mo_sR25 (fun _ => ?_) | refine mo_A ⟨Nat.le_refl _, Nat.le_refl _⟩ (monoX8_toDone _ _ _ _ _ _) (fun _ => ?_) | refine mo_A (sk_nS_le _ _ _ _) (monoX8_toDone _ _ _ _ _ _) (fun _ => ?_) | refine mo_ite ?_ ?_ | refine mo_bind (fun _ => ?_) | split))
      refine sk_callV (As := [.ref v15, .int v21, .int p1]) (st := [.ref v11]) K dX10_way_44 cl_X10_230 h27 (sX8_toDone C l e24) (by decide) rfl rfl (Nat.le_of_ble_eq_true rfl) R1 R2_S25 ?_
      refine sk_iload_n K dX10_way_47 rfl 2 rfl ?_
      obtain ⟨h31, hf⟩ := sk_ib hf
      obtain ⟨v29, e30, hf⟩ := sk_ob hf
      refine sk_callV (As := [.int v23, .int p2]) (st := []) K dX10_way_48 cl_X10_237 h31 (sX8_deedAt C l e30) (by decide) rfl rfl (Nat.le_of_ble_eq_true rfl) R1_S25 R2_S25 ?_
      have hR32 : (v29, S25, d26) = (rr, SS, dd) := Option.some.inj hf
      exact sk_iret K dX10_way_51 rfl rfl (congrArg (fun z => z.1) hR32) (congrArg (fun z => z.2.1) hR32) (congrArg (fun z => z.2.2) hR32)
    · rw [if_neg h10] at hf
      refine sk_bipush (-3 : Int32) K dX10_way_18 (by decide) ?_
      have hR33 : ((-3 : Int32), S, d) = (rr, SS, dd) := Option.some.inj hf
      exact sk_iret K dX10_way_20 rfl rfl (congrArg (fun z => z.1) hR33) (congrArg (fun z => z.2.1) hR33) (congrArg (fun z => z.2.2) hR33)
noncomputable def fX10_shown (S : sk_S) (d : sk_D) (p0 : Nat) (p1 : Int32) : Option (Int32 × sk_S × sk_D) :=
  (sk_gR S p0 9 0).bind fun v1 => (sk_gR S v1 8 0).bind fun v3 => if S.2.1 v3 = (2, 0) then ((fX2_hasAll S d v3 p1).bind fun v5 => if v5 = true then ((sk_gR S p0 9 2).bind fun v9 => (sk_gR S p0 9 2).bind fun v11 => (sk_gR S p0 9 0).bind fun v13 => (sk_gR S p0 9 5).bind fun v15 => (sk_gI S d v15 4 1).bind fun v17 => (fX10_stateIn S d v17).bind fun v19 => if S.2.1 v11 = (7, 0) then ((fX8_toShown S d v11 v13 v19 p1).bind fun b26 => if b26.2.1.2.1 v9 = (7, 0) then ((fX8_length b26.2.1 b26.2.2 v9 b26.1).bind fun v27 => some (v27, b26.2.1, b26.2.2)) else none) else none) else (some ((-3 : Int32), S, d))) else none
theorem monoX10_shown (S : sk_S) (d : sk_D) (p0 : Nat) (p1 : Int32) : sk_Mo S.1 (fun z => z.2.1.1) (fX10_shown S d p0 p1) := by
  unfold fX10_shown
  repeat' (first | exact mo_none | exact mo_some ⟨Nat.le_refl _, Nat.le_refl _⟩ | refine mo_pR (fun _ => ?_) | refine mo_mk (fun _ => ?_) | refine mo_sR24 (fun _ => ?_) | refine mo_sR25 (fun _ => ?_) | refine mo_A ⟨Nat.le_refl _, Nat.le_refl _⟩ (monoX8_toShown _ _ _ _ _ _) (fun _ => ?_) | refine mo_A (sk_nS_le _ _ _ _) (monoX8_toShown _ _ _ _ _ _) (fun _ => ?_) | refine mo_ite ?_ ?_ | refine mo_bind (fun _ => ?_) | split)
set_option maxRecDepth 100000 in
set_option maxHeartbeats 4000000 in
theorem sX10_shown (C : sk_C) (l : Launch) {S : sk_S} {d : sk_D} {p0 : Nat} {p1 : Int32} {rr : Int32} {SS : sk_S} {dd : sk_D} (hf : fX10_shown S d p0 p1 = some (rr, SS, dd)) : sk_Met C l 7 yX10_shown cX10_shown 2 (some .int) [.ref p0, .int p1] S d (some (.int rr)) SS dd := by
  have hmono := mo_use (n := S.1) (pr := (fun z => z.2.1.1)) hf (monoX10_shown S d p0 p1)
  refine sk_Met.of (by decide) (Nat.le_of_ble_eq_true rfl) hmono.1 hmono.2 (fun X K0 hX => ?_)
  have K : sk_Ok X C cX10_shown 2 RX10 "shown" (some .int) 7 l (some (.int rr)) SS dd := K0
  have R1 : X.2.2.2.2.2.2.2.2.2.2.2.1 ≤ S.1.1 ∧ X.2.2.2.2.2.2.2.2.2.2.2.2 ≤ S.1.2 := by rw [hX]; exact ⟨Nat.le_refl _, Nat.le_refl _⟩
  have R2 : S.1.1 ≤ SS.1.1 ∧ S.1.2 ≤ SS.1.2 := hmono
  show sk_G X C 2 S d 0 [(0, .ref p0), (1, .int p1)] []
  unfold fX10_shown at hf
  refine sk_aload_n K dX10_shown_0 rfl 0 rfl ?_
  obtain ⟨v1, e2, hf⟩ := sk_ob hf
  refine sk_getR K dX10_shown_1 fl_X10_10 rfl e2 ?_
  obtain ⟨v3, e4, hf⟩ := sk_ob hf
  refine sk_getR K dX10_shown_4 fl_X10_98 rfl e4 ?_
  refine sk_iload_n K dX10_shown_7 rfl 1 rfl ?_
  obtain ⟨h7, hf⟩ := sk_ib hf
  obtain ⟨v5, e6, hf⟩ := sk_ob hf
  refine sk_callV (As := [.int p1]) (st := []) K dX10_shown_8 cl_X10_224 h7 (sX2_hasAll C l e6) (by decide) rfl rfl (Nat.le_of_ble_eq_true rfl) R1 R2 ?_
  refine sk_ifneB 17 K dX10_shown_11 (by decide) (fun h8 => ?_) (fun h8 => ?_)
  · rw [if_pos h8] at hf
    refine sk_aload_n K dX10_shown_17 rfl 0 rfl ?_
    obtain ⟨v9, e10, hf⟩ := sk_ob hf
    refine sk_getR K dX10_shown_18 fl_X10_26 rfl e10 ?_
    refine sk_aload_n K dX10_shown_21 rfl 0 rfl ?_
    obtain ⟨v11, e12, hf⟩ := sk_ob hf
    refine sk_getR K dX10_shown_22 fl_X10_26 rfl e12 ?_
    refine sk_aload_n K dX10_shown_25 rfl 0 rfl ?_
    obtain ⟨v13, e14, hf⟩ := sk_ob hf
    refine sk_getR K dX10_shown_26 fl_X10_10 rfl e14 ?_
    refine sk_aload_n K dX10_shown_29 rfl 0 rfl ?_
    obtain ⟨v15, e16, hf⟩ := sk_ob hf
    refine sk_getR K dX10_shown_30 fl_X10_47 rfl e16 ?_
    obtain ⟨v17, e18, hf⟩ := sk_ob hf
    refine sk_getI K dX10_shown_33 fl_X10_120 rfl e18 ?_
    obtain ⟨v19, e20, hf⟩ := sk_ob hf
    refine sk_callS (As := [.int v17]) (st := [.ref v13, .ref v11, .ref v9]) K dX10_shown_36 cl_X10_227 (sX10_stateIn C l e20) (by decide) rfl rfl (Nat.le_of_ble_eq_true rfl) R1 R2 ?_
    refine sk_iload_n K dX10_shown_39 rfl 1 rfl ?_
    obtain ⟨h25, hf⟩ := sk_ib hf
    obtain ⟨⟨v21, S23, d24⟩, e22, hf⟩ := sk_ob hf
    try dsimp only at hf
    have R1_S23 := sk_le_tr R1 (mo_use e22 (monoX8_toShown _ _ _ _ _ _))
    have R2_S23 := mo_use (n := S23.1) (pr := (fun z => z.2.1.1)) hf (by repeat' (first | exact mo_none | exact mo_some ⟨Nat.le_refl _, Nat.le_refl _⟩ | refine mo_pR (fun _ => ?_) | refine mo_mk (fun _ => ?_) | refine mo_sR24 (fun _ => ?_) | refine mo_sR25 (fun _ => ?_) | refine mo_A ⟨Nat.le_refl _, Nat.le_refl _⟩ (monoX8_toShown _ _ _ _ _ _) (fun _ => ?_) | refine mo_A (sk_nS_le _ _ _ _) (monoX8_toShown _ _ _ _ _ _) (fun _ => ?_) | refine mo_ite ?_ ?_ | refine mo_bind (fun _ => ?_) | split))
    refine sk_callV (As := [.ref v13, .int v19, .int p1]) (st := [.ref v9]) K dX10_shown_40 cl_X10_240 h25 (sX8_toShown C l e22) (by decide) rfl rfl (Nat.le_of_ble_eq_true rfl) R1 R2_S23 ?_
    obtain ⟨h29, hf⟩ := sk_ib hf
    obtain ⟨v27, e28, hf⟩ := sk_ob hf
    refine sk_callV (As := [.int v21]) (st := []) K dX10_shown_43 cl_X10_234 h29 (sX8_length C l e28) (by decide) rfl rfl (Nat.le_of_ble_eq_true rfl) R1_S23 R2_S23 ?_
    have hR30 : (v27, S23, d24) = (rr, SS, dd) := Option.some.inj hf
    exact sk_iret K dX10_shown_46 rfl rfl (congrArg (fun z => z.1) hR30) (congrArg (fun z => z.2.1) hR30) (congrArg (fun z => z.2.2) hR30)
  · rw [if_neg h8] at hf
    refine sk_bipush (-3 : Int32) K dX10_shown_14 (by decide) ?_
    have hR31 : ((-3 : Int32), S, d) = (rr, SS, dd) := Option.some.inj hf
    exact sk_iret K dX10_shown_16 rfl rfl (congrArg (fun z => z.1) hR31) (congrArg (fun z => z.2.1) hR31) (congrArg (fun z => z.2.2) hR31)
noncomputable def fX10_shownBy (S : sk_S) (d : sk_D) (p0 : Nat) (p1 : Int32) (p2 : Int32) : Option (Int32 × sk_S × sk_D) :=
  (sk_gR S p0 9 0).bind fun v1 => (sk_gR S v1 8 0).bind fun v3 => if S.2.1 v3 = (2, 0) then ((fX2_hasAll S d v3 p1).bind fun v5 => if v5 = true then (if 0 ≤ p2 then ((sk_gR S p0 9 2).bind fun v11 => (sk_gR S p0 9 2).bind fun v13 => (sk_gR S p0 9 0).bind fun v15 => (sk_gR S p0 9 5).bind fun v17 => (sk_gI S d v17 4 1).bind fun v19 => (fX10_stateIn S d v19).bind fun v21 => if S.2.1 v13 = (7, 0) then ((fX8_toShown S d v13 v15 v21 p1).bind fun b28 => if b28.2.1.2.1 v11 = (7, 0) then ((fX8_deedAt b28.2.1 b28.2.2 v11 b28.1 p2).bind fun v29 => some (v29, b28.2.1, b28.2.2)) else none) else none) else (some ((-3 : Int32), S, d))) else (some ((-3 : Int32), S, d))) else none
theorem monoX10_shownBy (S : sk_S) (d : sk_D) (p0 : Nat) (p1 : Int32) (p2 : Int32) : sk_Mo S.1 (fun z => z.2.1.1) (fX10_shownBy S d p0 p1 p2) := by
  unfold fX10_shownBy
  repeat' (first | exact mo_none | exact mo_some ⟨Nat.le_refl _, Nat.le_refl _⟩ | refine mo_pR (fun _ => ?_) | refine mo_mk (fun _ => ?_) | refine mo_sR24 (fun _ => ?_) | refine mo_sR25 (fun _ => ?_) | refine mo_A ⟨Nat.le_refl _, Nat.le_refl _⟩ (monoX8_toShown _ _ _ _ _ _) (fun _ => ?_) | refine mo_A (sk_nS_le _ _ _ _) (monoX8_toShown _ _ _ _ _ _) (fun _ => ?_) | refine mo_ite ?_ ?_ | refine mo_bind (fun _ => ?_) | split)
set_option maxRecDepth 100000 in
set_option maxHeartbeats 4000000 in
theorem sX10_shownBy (C : sk_C) (l : Launch) {S : sk_S} {d : sk_D} {p0 : Nat} {p1 : Int32} {p2 : Int32} {rr : Int32} {SS : sk_S} {dd : sk_D} (hf : fX10_shownBy S d p0 p1 p2 = some (rr, SS, dd)) : sk_Met C l 7 yX10_shownBy cX10_shownBy 3 (some .int) [.ref p0, .int p1, .int p2] S d (some (.int rr)) SS dd := by
  have hmono := mo_use (n := S.1) (pr := (fun z => z.2.1.1)) hf (monoX10_shownBy S d p0 p1 p2)
  refine sk_Met.of (by decide) (Nat.le_of_ble_eq_true rfl) hmono.1 hmono.2 (fun X K0 hX => ?_)
  have K : sk_Ok X C cX10_shownBy 3 RX10 "shownBy" (some .int) 7 l (some (.int rr)) SS dd := K0
  have R1 : X.2.2.2.2.2.2.2.2.2.2.2.1 ≤ S.1.1 ∧ X.2.2.2.2.2.2.2.2.2.2.2.2 ≤ S.1.2 := by rw [hX]; exact ⟨Nat.le_refl _, Nat.le_refl _⟩
  have R2 : S.1.1 ≤ SS.1.1 ∧ S.1.2 ≤ SS.1.2 := hmono
  show sk_G X C 3 S d 0 [(0, .ref p0), (1, .int p1), (2, .int p2)] []
  unfold fX10_shownBy at hf
  refine sk_aload_n K dX10_shownBy_0 rfl 0 rfl ?_
  obtain ⟨v1, e2, hf⟩ := sk_ob hf
  refine sk_getR K dX10_shownBy_1 fl_X10_10 rfl e2 ?_
  obtain ⟨v3, e4, hf⟩ := sk_ob hf
  refine sk_getR K dX10_shownBy_4 fl_X10_98 rfl e4 ?_
  refine sk_iload_n K dX10_shownBy_7 rfl 1 rfl ?_
  obtain ⟨h7, hf⟩ := sk_ib hf
  obtain ⟨v5, e6, hf⟩ := sk_ob hf
  refine sk_callV (As := [.int p1]) (st := []) K dX10_shownBy_8 cl_X10_224 h7 (sX2_hasAll C l e6) (by decide) rfl rfl (Nat.le_of_ble_eq_true rfl) R1 R2 ?_
  refine sk_ifeqB 18 K dX10_shownBy_11 (by decide) (fun h8 => ?_) (fun h8 => ?_)
  · rw [if_neg h8] at hf
    refine sk_bipush (-3 : Int32) K dX10_shownBy_18 (by decide) ?_
    have hR9 : ((-3 : Int32), S, d) = (rr, SS, dd) := Option.some.inj hf
    exact sk_iret K dX10_shownBy_20 rfl rfl (congrArg (fun z => z.1) hR9) (congrArg (fun z => z.2.1) hR9) (congrArg (fun z => z.2.2) hR9)
  · rw [if_pos h8] at hf
    refine sk_iload_n K dX10_shownBy_14 rfl 2 rfl ?_
    refine sk_if_ge 21 K dX10_shownBy_15 (by decide) (fun h10 => ?_) (fun h10 => ?_)
    · rw [if_pos h10] at hf
      refine sk_aload_n K dX10_shownBy_21 rfl 0 rfl ?_
      obtain ⟨v11, e12, hf⟩ := sk_ob hf
      refine sk_getR K dX10_shownBy_22 fl_X10_26 rfl e12 ?_
      refine sk_aload_n K dX10_shownBy_25 rfl 0 rfl ?_
      obtain ⟨v13, e14, hf⟩ := sk_ob hf
      refine sk_getR K dX10_shownBy_26 fl_X10_26 rfl e14 ?_
      refine sk_aload_n K dX10_shownBy_29 rfl 0 rfl ?_
      obtain ⟨v15, e16, hf⟩ := sk_ob hf
      refine sk_getR K dX10_shownBy_30 fl_X10_10 rfl e16 ?_
      refine sk_aload_n K dX10_shownBy_33 rfl 0 rfl ?_
      obtain ⟨v17, e18, hf⟩ := sk_ob hf
      refine sk_getR K dX10_shownBy_34 fl_X10_47 rfl e18 ?_
      obtain ⟨v19, e20, hf⟩ := sk_ob hf
      refine sk_getI K dX10_shownBy_37 fl_X10_120 rfl e20 ?_
      obtain ⟨v21, e22, hf⟩ := sk_ob hf
      refine sk_callS (As := [.int v19]) (st := [.ref v15, .ref v13, .ref v11]) K dX10_shownBy_40 cl_X10_227 (sX10_stateIn C l e22) (by decide) rfl rfl (Nat.le_of_ble_eq_true rfl) R1 R2 ?_
      refine sk_iload_n K dX10_shownBy_43 rfl 1 rfl ?_
      obtain ⟨h27, hf⟩ := sk_ib hf
      obtain ⟨⟨v23, S25, d26⟩, e24, hf⟩ := sk_ob hf
      try dsimp only at hf
      have R1_S25 := sk_le_tr R1 (mo_use e24 (monoX8_toShown _ _ _ _ _ _))
      have R2_S25 := mo_use (n := S25.1) (pr := (fun z => z.2.1.1)) hf (by repeat' (first | exact mo_none | exact mo_some ⟨Nat.le_refl _, Nat.le_refl _⟩ | refine mo_pR (fun _ => ?_) | refine mo_mk (fun _ => ?_) | refine mo_sR24 (fun _ => ?_) | refine mo_sR25 (fun _ => ?_) | refine mo_A ⟨Nat.le_refl _, Nat.le_refl _⟩ (monoX8_toShown _ _ _ _ _ _) (fun _ => ?_) | refine mo_A (sk_nS_le _ _ _ _) (monoX8_toShown _ _ _ _ _ _) (fun _ => ?_) | refine mo_ite ?_ ?_ | refine mo_bind (fun _ => ?_) | split))
      refine sk_callV (As := [.ref v15, .int v21, .int p1]) (st := [.ref v11]) K dX10_shownBy_44 cl_X10_240 h27 (sX8_toShown C l e24) (by decide) rfl rfl (Nat.le_of_ble_eq_true rfl) R1 R2_S25 ?_
      refine sk_iload_n K dX10_shownBy_47 rfl 2 rfl ?_
      obtain ⟨h31, hf⟩ := sk_ib hf
      obtain ⟨v29, e30, hf⟩ := sk_ob hf
      refine sk_callV (As := [.int v23, .int p2]) (st := []) K dX10_shownBy_48 cl_X10_237 h31 (sX8_deedAt C l e30) (by decide) rfl rfl (Nat.le_of_ble_eq_true rfl) R1_S25 R2_S25 ?_
      have hR32 : (v29, S25, d26) = (rr, SS, dd) := Option.some.inj hf
      exact sk_iret K dX10_shownBy_51 rfl rfl (congrArg (fun z => z.1) hR32) (congrArg (fun z => z.2.1) hR32) (congrArg (fun z => z.2.2) hR32)
    · rw [if_neg h10] at hf
      refine sk_bipush (-3 : Int32) K dX10_shownBy_18 (by decide) ?_
      have hR33 : ((-3 : Int32), S, d) = (rr, SS, dd) := Option.some.inj hf
      exact sk_iret K dX10_shownBy_20 rfl rfl (congrArg (fun z => z.1) hR33) (congrArg (fun z => z.2.1) hR33) (congrArg (fun z => z.2.2) hR33)
noncomputable def fX10_most (S : sk_S) (d : sk_D) (p0 : Nat) : Option (Int32 × sk_S × sk_D) :=
  (sk_gR S p0 9 2).bind fun v1 => (sk_gR S p0 9 0).bind fun v3 => (sk_gR S p0 9 5).bind fun v5 => (sk_gI S d v5 4 1).bind fun v7 => (fX10_stateIn S d v7).bind fun v9 => if S.2.1 v1 = (7, 0) then ((fX8_mostShown S d v1 v3 v9).bind fun b16 => some (b16.1, b16.2.1, b16.2.2)) else none
theorem monoX10_most (S : sk_S) (d : sk_D) (p0 : Nat) : sk_Mo S.1 (fun z => z.2.1.1) (fX10_most S d p0) := by
  unfold fX10_most
  repeat' (first | exact mo_none | exact mo_some ⟨Nat.le_refl _, Nat.le_refl _⟩ | refine mo_pR (fun _ => ?_) | refine mo_mk (fun _ => ?_) | refine mo_sR24 (fun _ => ?_) | refine mo_sR25 (fun _ => ?_) | refine mo_A ⟨Nat.le_refl _, Nat.le_refl _⟩ (monoX8_mostShown _ _ _ _ _) (fun _ => ?_) | refine mo_A (sk_nS_le _ _ _ _) (monoX8_mostShown _ _ _ _ _) (fun _ => ?_) | refine mo_ite ?_ ?_ | refine mo_bind (fun _ => ?_) | split)
set_option maxRecDepth 100000 in
set_option maxHeartbeats 4000000 in
theorem sX10_most (C : sk_C) (l : Launch) {S : sk_S} {d : sk_D} {p0 : Nat} {rr : Int32} {SS : sk_S} {dd : sk_D} (hf : fX10_most S d p0 = some (rr, SS, dd)) : sk_Met C l 7 yX10_most cX10_most 1 (some .int) [.ref p0] S d (some (.int rr)) SS dd := by
  have hmono := mo_use (n := S.1) (pr := (fun z => z.2.1.1)) hf (monoX10_most S d p0)
  refine sk_Met.of (by decide) (Nat.le_of_ble_eq_true rfl) hmono.1 hmono.2 (fun X K0 hX => ?_)
  have K : sk_Ok X C cX10_most 1 RX10 "most" (some .int) 7 l (some (.int rr)) SS dd := K0
  have R1 : X.2.2.2.2.2.2.2.2.2.2.2.1 ≤ S.1.1 ∧ X.2.2.2.2.2.2.2.2.2.2.2.2 ≤ S.1.2 := by rw [hX]; exact ⟨Nat.le_refl _, Nat.le_refl _⟩
  have R2 : S.1.1 ≤ SS.1.1 ∧ S.1.2 ≤ SS.1.2 := hmono
  show sk_G X C 1 S d 0 [(0, .ref p0)] []
  unfold fX10_most at hf
  refine sk_aload_n K dX10_most_0 rfl 0 rfl ?_
  obtain ⟨v1, e2, hf⟩ := sk_ob hf
  refine sk_getR K dX10_most_1 fl_X10_26 rfl e2 ?_
  refine sk_aload_n K dX10_most_4 rfl 0 rfl ?_
  obtain ⟨v3, e4, hf⟩ := sk_ob hf
  refine sk_getR K dX10_most_5 fl_X10_10 rfl e4 ?_
  refine sk_aload_n K dX10_most_8 rfl 0 rfl ?_
  obtain ⟨v5, e6, hf⟩ := sk_ob hf
  refine sk_getR K dX10_most_9 fl_X10_47 rfl e6 ?_
  obtain ⟨v7, e8, hf⟩ := sk_ob hf
  refine sk_getI K dX10_most_12 fl_X10_120 rfl e8 ?_
  obtain ⟨v9, e10, hf⟩ := sk_ob hf
  refine sk_callS (As := [.int v7]) (st := [.ref v3, .ref v1]) K dX10_most_15 cl_X10_227 (sX10_stateIn C l e10) (by decide) rfl rfl (Nat.le_of_ble_eq_true rfl) R1 R2 ?_
  obtain ⟨h15, hf⟩ := sk_ib hf
  obtain ⟨⟨v11, S13, d14⟩, e12, hf⟩ := sk_ob hf
  try dsimp only at hf
  have R1_S13 := sk_le_tr R1 (mo_use e12 (monoX8_mostShown _ _ _ _ _))
  have R2_S13 := mo_use (n := S13.1) (pr := (fun z => z.2.1.1)) hf (by repeat' (first | exact mo_none | exact mo_some ⟨Nat.le_refl _, Nat.le_refl _⟩ | refine mo_pR (fun _ => ?_) | refine mo_mk (fun _ => ?_) | refine mo_sR24 (fun _ => ?_) | refine mo_sR25 (fun _ => ?_) | refine mo_A ⟨Nat.le_refl _, Nat.le_refl _⟩ (monoX8_mostShown _ _ _ _ _) (fun _ => ?_) | refine mo_A (sk_nS_le _ _ _ _) (monoX8_mostShown _ _ _ _ _) (fun _ => ?_) | refine mo_ite ?_ ?_ | refine mo_bind (fun _ => ?_) | split))
  refine sk_callV (As := [.ref v3, .int v9]) (st := []) K dX10_most_18 cl_X10_249 h15 (sX8_mostShown C l e12) (by decide) rfl rfl (Nat.le_of_ble_eq_true rfl) R1 R2_S13 ?_
  have hR17 : (v11, S13, d14) = (rr, SS, dd) := Option.some.inj hf
  exact sk_iret K dX10_most_21 rfl rfl (congrArg (fun z => z.1) hR17) (congrArg (fun z => z.2.1) hR17) (congrArg (fun z => z.2.2) hR17)
noncomputable def fX10_stands (S : sk_S) (d : sk_D) (p0 : Nat) : Option (Int32 × sk_S × sk_D) :=
  (sk_gR S p0 9 2).bind fun v1 => (sk_gR S p0 9 0).bind fun v3 => (sk_gR S p0 9 5).bind fun v5 => (sk_gI S d v5 4 1).bind fun v7 => (fX10_stateIn S d v7).bind fun v9 => if S.2.1 v1 = (7, 0) then ((fX8_spread S d v1 v3 v9).bind fun b16 => (sk_gR b16.1 p0 9 2).bind fun v17 => (sk_gI b16.1 b16.2 v17 7 0).bind fun v19 => some (v19, b16.1, b16.2)) else none
theorem monoX10_stands (S : sk_S) (d : sk_D) (p0 : Nat) : sk_Mo S.1 (fun z => z.2.1.1) (fX10_stands S d p0) := by
  unfold fX10_stands
  repeat' (first | exact mo_none | exact mo_some ⟨Nat.le_refl _, Nat.le_refl _⟩ | refine mo_pR (fun _ => ?_) | refine mo_mk (fun _ => ?_) | refine mo_sR24 (fun _ => ?_) | refine mo_sR25 (fun _ => ?_) | refine mo_A ⟨Nat.le_refl _, Nat.le_refl _⟩ (monoX8_spread _ _ _ _ _) (fun _ => ?_) | refine mo_A (sk_nS_le _ _ _ _) (monoX8_spread _ _ _ _ _) (fun _ => ?_) | refine mo_ite ?_ ?_ | refine mo_bind (fun _ => ?_) | split)
set_option maxRecDepth 100000 in
set_option maxHeartbeats 4000000 in
theorem sX10_stands (C : sk_C) (l : Launch) {S : sk_S} {d : sk_D} {p0 : Nat} {rr : Int32} {SS : sk_S} {dd : sk_D} (hf : fX10_stands S d p0 = some (rr, SS, dd)) : sk_Met C l 6 yX10_stands cX10_stands 1 (some .int) [.ref p0] S d (some (.int rr)) SS dd := by
  have hmono := mo_use (n := S.1) (pr := (fun z => z.2.1.1)) hf (monoX10_stands S d p0)
  refine sk_Met.of (by decide) (Nat.le_of_ble_eq_true rfl) hmono.1 hmono.2 (fun X K0 hX => ?_)
  have K : sk_Ok X C cX10_stands 1 RX10 "stands" (some .int) 6 l (some (.int rr)) SS dd := K0
  have R1 : X.2.2.2.2.2.2.2.2.2.2.2.1 ≤ S.1.1 ∧ X.2.2.2.2.2.2.2.2.2.2.2.2 ≤ S.1.2 := by rw [hX]; exact ⟨Nat.le_refl _, Nat.le_refl _⟩
  have R2 : S.1.1 ≤ SS.1.1 ∧ S.1.2 ≤ SS.1.2 := hmono
  show sk_G X C 1 S d 0 [(0, .ref p0)] []
  unfold fX10_stands at hf
  refine sk_aload_n K dX10_stands_0 rfl 0 rfl ?_
  obtain ⟨v1, e2, hf⟩ := sk_ob hf
  refine sk_getR K dX10_stands_1 fl_X10_26 rfl e2 ?_
  refine sk_aload_n K dX10_stands_4 rfl 0 rfl ?_
  obtain ⟨v3, e4, hf⟩ := sk_ob hf
  refine sk_getR K dX10_stands_5 fl_X10_10 rfl e4 ?_
  refine sk_aload_n K dX10_stands_8 rfl 0 rfl ?_
  obtain ⟨v5, e6, hf⟩ := sk_ob hf
  refine sk_getR K dX10_stands_9 fl_X10_47 rfl e6 ?_
  obtain ⟨v7, e8, hf⟩ := sk_ob hf
  refine sk_getI K dX10_stands_12 fl_X10_120 rfl e8 ?_
  obtain ⟨v9, e10, hf⟩ := sk_ob hf
  refine sk_callS (As := [.int v7]) (st := [.ref v3, .ref v1]) K dX10_stands_15 cl_X10_227 (sX10_stateIn C l e10) (by decide) rfl rfl (Nat.le_of_ble_eq_true rfl) R1 R2 ?_
  obtain ⟨h15, hf⟩ := sk_ib hf
  obtain ⟨⟨S13, d14⟩, e12, hf⟩ := sk_ob hf
  try dsimp only at hf
  have R1_S13 := sk_le_tr R1 (mo_use e12 (monoX8_spread _ _ _ _ _))
  have R2_S13 := mo_use (n := S13.1) (pr := (fun z => z.2.1.1)) hf (by repeat' (first | exact mo_none | exact mo_some ⟨Nat.le_refl _, Nat.le_refl _⟩ | refine mo_pR (fun _ => ?_) | refine mo_mk (fun _ => ?_) | refine mo_sR24 (fun _ => ?_) | refine mo_sR25 (fun _ => ?_) | refine mo_A ⟨Nat.le_refl _, Nat.le_refl _⟩ (monoX8_spread _ _ _ _ _) (fun _ => ?_) | refine mo_A (sk_nS_le _ _ _ _) (monoX8_spread _ _ _ _ _) (fun _ => ?_) | refine mo_ite ?_ ?_ | refine mo_bind (fun _ => ?_) | split))
  refine sk_callV (As := [.ref v3, .int v9]) (st := []) K dX10_stands_18 cl_X10_253 h15 (sX8_spread C l e12) (by decide) rfl rfl (Nat.le_of_ble_eq_true rfl) R1 R2_S13 ?_
  refine sk_aload_n K dX10_stands_21 rfl 0 rfl ?_
  obtain ⟨v17, e18, hf⟩ := sk_ob hf
  refine sk_getR K dX10_stands_22 fl_X10_26 rfl e18 ?_
  obtain ⟨v19, e20, hf⟩ := sk_ob hf
  refine sk_getI K dX10_stands_25 fl_X10_257 rfl e20 ?_
  have hR21 : (v19, S13, d14) = (rr, SS, dd) := Option.some.inj hf
  exact sk_iret K dX10_stands_28 rfl rfl (congrArg (fun z => z.1) hR21) (congrArg (fun z => z.2.1) hR21) (congrArg (fun z => z.2.2) hR21)
noncomputable def fX10_lists_L87 (p0 : Nat) (p1 : Int32) (S25 : sk_S) (v23 : Int32) (v32 : Int32) (v39 : Int32) (s1 : Int32 × sk_D) : Option ((Int32 × sk_D) ⊕ (Int32 × sk_S × sk_D)) :=
  if (if v39 < v32 then v39 else v32) ≤ s1.1 then (some (.inr ((if v39 < v32 then v39 else v32), S25, s1.2))) else ((sk_gR S25 p0 9 6).bind fun v45 => (sk_lR S25 v45 24 p1).bind fun v47 => (sk_gR S25 p0 9 2).bind fun v49 => if S25.2.1 v49 = (7, 0) then ((fX8_deedAt S25 s1.2 v49 v23 s1.1).bind fun v51 => if S25.2.1 v47 = (6, 0) then ((fX6_put S25 s1.2 v47 s1.1 v51.toInt64).bind fun d56 => some (.inl (s1.1 + 1, d56))) else none) else none)
noncomputable def fX10_lists (S : sk_S) (d : sk_D) (p0 : Nat) (p1 : Int32) (p2 : Int32) : Option (Int32 × sk_S × sk_D) :=
  if S.2.1 p0 = (9, 0) then ((fX10_noTray S d p0 p1).bind fun v1 => if v1 = 0 then ((sk_gR S p0 9 0).bind fun v5 => (sk_gR S v5 8 0).bind fun v7 => if S.2.1 v7 = (2, 0) then ((fX2_hasAll S d v7 p2).bind fun v9 => if v9 = true then ((sk_gR S p0 9 2).bind fun v13 => (sk_gR S p0 9 0).bind fun v15 => (sk_gR S p0 9 5).bind fun v17 => (sk_gI S d v17 4 1).bind fun v19 => (fX10_stateIn S d v19).bind fun v21 => if S.2.1 v13 = (7, 0) then ((fX8_toShown S d v13 v15 v21 p2).bind fun b28 => if 0 ≤ b28.1 then ((sk_gR b28.2.1 p0 9 2).bind fun v30 => if b28.2.1.2.1 v30 = (7, 0) then ((fX8_length b28.2.1 b28.2.2 v30 b28.1).bind fun v32 => (sk_gR b28.2.1 p0 9 6).bind fun v35 => (sk_lR b28.2.1 v35 24 p1).bind fun v37 => (sk_gI b28.2.1 b28.2.2 v37 6 2).bind fun v39 => (sk_itr (fX10_lists_L87 p0 p1 b28.2.1 b28.1 v32 v39) ((0 : Int32), b28.2.2)).bind fun x1 => some x1) else none) else (some ((-5 : Int32), b28.2.1, b28.2.2))) else none) else (some ((-3 : Int32), S, d))) else none) else (some (v1, S, d))) else none
theorem monoX10_lists (S : sk_S) (d : sk_D) (p0 : Nat) (p1 : Int32) (p2 : Int32) : sk_Mo S.1 (fun z => z.2.1.1) (fX10_lists S d p0 p1 p2) := by
  unfold fX10_lists
  repeat' (first | exact mo_none | exact mo_some ⟨Nat.le_refl _, Nat.le_refl _⟩ | refine mo_pR (fun _ => ?_) | refine mo_mk (fun _ => ?_) | refine mo_sR24 (fun _ => ?_) | refine mo_sR25 (fun _ => ?_) | refine mo_A ⟨Nat.le_refl _, Nat.le_refl _⟩ (monoX8_toShown _ _ _ _ _ _) (fun _ => ?_) | refine mo_A (sk_nS_le _ _ _ _) (monoX8_toShown _ _ _ _ _ _) (fun _ => ?_) | refine mo_ite ?_ ?_ | refine mo_bind (fun _ => ?_) | split)
set_option maxRecDepth 100000 in
set_option maxHeartbeats 4000000 in
theorem sX10_lists (C : sk_C) (l : Launch) {S : sk_S} {d : sk_D} {p0 : Nat} {p1 : Int32} {p2 : Int32} {rr : Int32} {SS : sk_S} {dd : sk_D} (hf : fX10_lists S d p0 p1 p2 = some (rr, SS, dd)) : sk_Met C l 7 yX10_lists cX10_lists 7 (some .int) [.ref p0, .int p1, .int p2] S d (some (.int rr)) SS dd := by
  have hmono := mo_use (n := S.1) (pr := (fun z => z.2.1.1)) hf (monoX10_lists S d p0 p1 p2)
  refine sk_Met.of (by decide) (Nat.le_of_ble_eq_true rfl) hmono.1 hmono.2 (fun X K0 hX => ?_)
  have K : sk_Ok X C cX10_lists 7 RX10 "lists" (some .int) 7 l (some (.int rr)) SS dd := K0
  have R1 : X.2.2.2.2.2.2.2.2.2.2.2.1 ≤ S.1.1 ∧ X.2.2.2.2.2.2.2.2.2.2.2.2 ≤ S.1.2 := by rw [hX]; exact ⟨Nat.le_refl _, Nat.le_refl _⟩
  have R2 : S.1.1 ≤ SS.1.1 ∧ S.1.2 ≤ SS.1.2 := hmono
  show sk_G X C 7 S d 0 [(0, .ref p0), (1, .int p1), (2, .int p2)] []
  unfold fX10_lists at hf
  refine sk_aload_n K dX10_lists_0 rfl 0 rfl ?_
  refine sk_iload_n K dX10_lists_1 rfl 1 rfl ?_
  obtain ⟨h3, hf⟩ := sk_ib hf
  obtain ⟨v1, e2, hf⟩ := sk_ob hf
  refine sk_callV (As := [.int p1]) (st := []) K dX10_lists_2 cl_X10_217 h3 (sX10_noTray C l e2) (by decide) rfl rfl (Nat.le_of_ble_eq_true rfl) R1 R2 ?_
  refine sk_istore_n [(3, .int v1), (0, .ref p0), (1, .int p1), (2, .int p2)] K dX10_lists_5 rfl (by decide) rfl ?_
  refine sk_iload_n K dX10_lists_6 rfl 0 rfl ?_
  refine sk_if_eq 12 K dX10_lists_7 (by decide) (fun h4 => ?_) (fun h4 => ?_)
  · rw [if_pos h4] at hf
    refine sk_aload_n K dX10_lists_12 rfl 1 rfl ?_
    obtain ⟨v5, e6, hf⟩ := sk_ob hf
    refine sk_getR K dX10_lists_13 fl_X10_10 rfl e6 ?_
    obtain ⟨v7, e8, hf⟩ := sk_ob hf
    refine sk_getR K dX10_lists_16 fl_X10_98 rfl e8 ?_
    refine sk_iload_n K dX10_lists_19 rfl 3 rfl ?_
    obtain ⟨h11, hf⟩ := sk_ib hf
    obtain ⟨v9, e10, hf⟩ := sk_ob hf
    refine sk_callV (As := [.int p2]) (st := []) K dX10_lists_20 cl_X10_224 h11 (sX2_hasAll C l e10) (by decide) rfl rfl (Nat.le_of_ble_eq_true rfl) R1 R2 ?_
    refine sk_ifneB 29 K dX10_lists_23 (by decide) (fun h12 => ?_) (fun h12 => ?_)
    · rw [if_pos h12] at hf
      refine sk_aload_n K dX10_lists_29 rfl 1 rfl ?_
      obtain ⟨v13, e14, hf⟩ := sk_ob hf
      refine sk_getR K dX10_lists_30 fl_X10_26 rfl e14 ?_
      refine sk_aload_n K dX10_lists_33 rfl 1 rfl ?_
      obtain ⟨v15, e16, hf⟩ := sk_ob hf
      refine sk_getR K dX10_lists_34 fl_X10_10 rfl e16 ?_
      refine sk_aload_n K dX10_lists_37 rfl 1 rfl ?_
      obtain ⟨v17, e18, hf⟩ := sk_ob hf
      refine sk_getR K dX10_lists_38 fl_X10_47 rfl e18 ?_
      obtain ⟨v19, e20, hf⟩ := sk_ob hf
      refine sk_getI K dX10_lists_41 fl_X10_120 rfl e20 ?_
      obtain ⟨v21, e22, hf⟩ := sk_ob hf
      refine sk_callS (As := [.int v19]) (st := [.ref v15, .ref v13]) K dX10_lists_44 cl_X10_227 (sX10_stateIn C l e22) (by decide) rfl rfl (Nat.le_of_ble_eq_true rfl) R1 R2 ?_
      refine sk_iload_n K dX10_lists_47 rfl 3 rfl ?_
      obtain ⟨h27, hf⟩ := sk_ib hf
      obtain ⟨⟨v23, S25, d26⟩, e24, hf⟩ := sk_ob hf
      try dsimp only at hf
      have R1_S25 := sk_le_tr R1 (mo_use e24 (monoX8_toShown _ _ _ _ _ _))
      have R2_S25 := mo_use (n := S25.1) (pr := (fun z => z.2.1.1)) hf (by repeat' (first | exact mo_none | exact mo_some ⟨Nat.le_refl _, Nat.le_refl _⟩ | refine mo_pR (fun _ => ?_) | refine mo_mk (fun _ => ?_) | refine mo_sR24 (fun _ => ?_) | refine mo_sR25 (fun _ => ?_) | refine mo_A ⟨Nat.le_refl _, Nat.le_refl _⟩ (monoX8_toShown _ _ _ _ _ _) (fun _ => ?_) | refine mo_A (sk_nS_le _ _ _ _) (monoX8_toShown _ _ _ _ _ _) (fun _ => ?_) | refine mo_ite ?_ ?_ | refine mo_bind (fun _ => ?_) | split))
      refine sk_callV (As := [.ref v15, .int v21, .int p2]) (st := []) K dX10_lists_48 cl_X10_240 h27 (sX8_toShown C l e24) (by decide) rfl rfl (Nat.le_of_ble_eq_true rfl) R1 R2_S25 ?_
      refine sk_istore [(4, .int v23), (3, .int v1), (0, .ref p0), (1, .int p1), (2, .int p2)] K dX10_lists_51 (by decide) rfl ?_
      refine sk_iload K dX10_lists_53 0 rfl ?_
      refine sk_if_ge 61 K dX10_lists_55 (by decide) (fun h29 => ?_) (fun h29 => ?_)
      · rw [if_pos h29] at hf
        refine sk_aload_n K dX10_lists_61 rfl 2 rfl ?_
        obtain ⟨v30, e31, hf⟩ := sk_ob hf
        refine sk_getR K dX10_lists_62 fl_X10_26 rfl e31 ?_
        refine sk_iload K dX10_lists_65 0 rfl ?_
        obtain ⟨h34, hf⟩ := sk_ib hf
        obtain ⟨v32, e33, hf⟩ := sk_ob hf
        refine sk_callV (As := [.int v23]) (st := []) K dX10_lists_67 cl_X10_234 h34 (sX8_length C l e33) (by decide) rfl rfl (Nat.le_of_ble_eq_true rfl) R1_S25 R2_S25 ?_
        refine sk_aload_n K dX10_lists_70 rfl 2 rfl ?_
        obtain ⟨v35, e36, hf⟩ := sk_ob hf
        refine sk_getR K dX10_lists_71 fl_X10_53 rfl e36 ?_
        refine sk_iload_n K dX10_lists_74 rfl 3 rfl ?_
        obtain ⟨v37, e38, hf⟩ := sk_ob hf
        refine sk_ald24 K dX10_lists_75 e38 ?_
        obtain ⟨v39, e40, hf⟩ := sk_ob hf
        refine sk_getI K dX10_lists_76 fl_X10_212 rfl e40 ?_
        refine sk_mmin K dX10_lists_79 qw_1154 qw_473 qw_137 qw_474 (by decide) (Nat.le_of_ble_eq_true rfl) R2_S25 ?_
        refine sk_istore [(5, .int (if v39 < v32 then v39 else v32)), (4, .int v23), (3, .int v1), (0, .ref p0), (1, .int p1), (2, .int p2)] K dX10_lists_82 (by decide) rfl ?_
        refine sk_iconst (0 : Int32) K dX10_lists_84 (by decide) ?_
        refine sk_istore [(6, .int (0 : Int32)), (5, .int (if v39 < v32 then v39 else v32)), (4, .int v23), (3, .int v1), (0, .ref p0), (1, .int p1), (2, .int p2)] K dX10_lists_85 (by decide) rfl ?_
        obtain ⟨x1, he1, hf⟩ := sk_ob hf
        have hret1 : ∀ r, r = x1 → r = (rr, SS, dd) := by
          intro r hr
          subst hr
          exact Option.some.inj hf
        refine sk_sub [(0, .ref p0), (1, .int p1), (4, .int v23), (5, .int (if v39 < v32 then v39 else v32)), (6, .int (0 : Int32))] [4, 5, 2, 1, 0] rfl ?_
        refine sk_loop (fun s1 => sk_G X C 7 S25 s1.2 87 [(0, .ref p0), (1, .int p1), (4, .int v23), (5, .int (if v39 < v32 then v39 else v32)), (6, .int s1.1)] []) he1 (fun s1 o1 hf ih1 hx1 => ?_)
        unfold fX10_lists_L87 at hf
        refine sk_iload K dX10_lists_87 4 rfl ?_
        refine sk_iload K dX10_lists_89 3 rfl ?_
        refine sk_icmp_ge 123 K dX10_lists_91 (by decide) (fun h43 => ?_) (fun h43 => ?_)
        · rw [if_pos h43] at hf
          refine sk_iload K dX10_lists_123 3 rfl ?_
          have hR44 : ((if v39 < v32 then v39 else v32), S25, s1.2) = (rr, SS, dd) := hret1 _ (hx1 _ (Option.some.inj hf).symm)
          exact sk_iret K dX10_lists_125 rfl rfl (congrArg (fun z => z.1) hR44) (congrArg (fun z => z.2.1) hR44) (congrArg (fun z => z.2.2) hR44)
        · rw [if_neg h43] at hf
          refine sk_aload_n K dX10_lists_94 rfl 0 rfl ?_
          obtain ⟨v45, e46, hf⟩ := sk_ob hf
          refine sk_getR K dX10_lists_95 fl_X10_53 rfl e46 ?_
          refine sk_iload_n K dX10_lists_98 rfl 1 rfl ?_
          obtain ⟨v47, e48, hf⟩ := sk_ob hf
          refine sk_ald24 K dX10_lists_99 e48 ?_
          refine sk_iload K dX10_lists_100 4 rfl ?_
          refine sk_aload_n K dX10_lists_102 rfl 0 rfl ?_
          obtain ⟨v49, e50, hf⟩ := sk_ob hf
          refine sk_getR K dX10_lists_103 fl_X10_26 rfl e50 ?_
          refine sk_iload K dX10_lists_106 2 rfl ?_
          refine sk_iload K dX10_lists_108 4 rfl ?_
          obtain ⟨h53, hf⟩ := sk_ib hf
          obtain ⟨v51, e52, hf⟩ := sk_ob hf
          refine sk_callV (As := [.int v23, .int s1.1]) (st := [.int s1.1, .ref v47]) K dX10_lists_110 cl_X10_237 h53 (sX8_deedAt C l e52) (by decide) rfl rfl (Nat.le_of_ble_eq_true rfl) R1_S25 R2_S25 ?_
          refine sk_i2l K dX10_lists_113 ?_
          obtain ⟨h57, hf⟩ := sk_ib hf
          obtain ⟨d56, e55, hf⟩ := sk_ob hf
          refine sk_callV (As := [.int s1.1, .long v51.toInt64]) (st := []) K dX10_lists_114 cl_X10_349 h57 (sX6_put C l e55) (by decide) rfl rfl (Nat.le_of_ble_eq_true rfl) R1_S25 R2_S25 ?_
          refine sk_iinc (s1.1 + 1) [(6, .int (s1.1 + 1)), (0, .ref p0), (1, .int p1), (4, .int v23), (5, .int (if v39 < v32 then v39 else v32))] K dX10_lists_117 4 rfl rfl (by decide) rfl ?_
          refine sk_goto 87 K dX10_lists_120 (by decide) ?_
          refine sk_sub [(0, .ref p0), (1, .int p1), (4, .int v23), (5, .int (if v39 < v32 then v39 else v32)), (6, .int (s1.1 + 1))] [1, 2, 3, 4, 0] rfl ?_
          have h9 := ih1 _ (Option.some.inj hf).symm
          exact h9
      · rw [if_neg h29] at hf
        refine sk_bipush (-5 : Int32) K dX10_lists_58 (by decide) ?_
        have hR58 : ((-5 : Int32), S25, d26) = (rr, SS, dd) := Option.some.inj hf
        exact sk_iret K dX10_lists_60 rfl rfl (congrArg (fun z => z.1) hR58) (congrArg (fun z => z.2.1) hR58) (congrArg (fun z => z.2.2) hR58)
    · rw [if_neg h12] at hf
      refine sk_bipush (-3 : Int32) K dX10_lists_26 (by decide) ?_
      have hR59 : ((-3 : Int32), S, d) = (rr, SS, dd) := Option.some.inj hf
      exact sk_iret K dX10_lists_28 rfl rfl (congrArg (fun z => z.1) hR59) (congrArg (fun z => z.2.1) hR59) (congrArg (fun z => z.2.2) hR59)
  · rw [if_neg h4] at hf
    refine sk_iload_n K dX10_lists_10 rfl 0 rfl ?_
    have hR60 : (v1, S, d) = (rr, SS, dd) := Option.some.inj hf
    exact sk_iret K dX10_lists_11 rfl rfl (congrArg (fun z => z.1) hR60) (congrArg (fun z => z.2.1) hR60) (congrArg (fun z => z.2.2) hR60)
