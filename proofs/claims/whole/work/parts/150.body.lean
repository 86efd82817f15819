noncomputable def fX0_init (S : sk_S) (d : sk_D) (p0 : Nat) : Option (sk_S × sk_D) :=
  (sk_mk S d 20 (8 : Int32)).bind fun b5 => (sk_pR b5.2.1 p0 0 0 b5.1).bind fun S6 => some (S6, b5.2.2)
theorem monoX0_init (S : sk_S) (d : sk_D) (p0 : Nat) : sk_Mo S.1 (fun (z : sk_S × sk_D) => z.1.1) (fX0_init S d p0) := by
  unfold fX0_init
  repeat' (first | exact mo_none | exact mo_some ⟨Nat.le_refl _, Nat.le_refl _⟩ | refine mo_pR (fun _ => ?_) | refine mo_mk (fun _ => ?_) | refine mo_sR24 (fun _ => ?_) | refine mo_sR25 (fun _ => ?_) | refine mo_ite ?_ ?_ | refine mo_bind (fun _ => ?_) | dsimp only | split)
set_option maxRecDepth 100000 in
set_option maxHeartbeats 4000000 in
theorem sX0_init (C : sk_C) (l : Launch) {S : sk_S} {d : sk_D} {p0 : Nat} {SS : sk_S} {dd : sk_D} (hf : fX0_init S d p0 = some (SS, dd)) : sk_Met C l 1 yX0_init cX0_init 1 none [.ref p0] S d none SS dd := by
  have hmono := mo_use (n := S.1) (pr := (fun (z : sk_S × sk_D) => z.1.1)) hf (monoX0_init S d p0)
  refine sk_Met.of (by decide) (Nat.le_of_ble_eq_true rfl) hmono.1 hmono.2 (fun X K0 hX => ?_)
  have K : sk_Ok X C cX0_init 1 RX0 "<init>" none 1 l none SS dd := K0
  have R1 : X.2.2.2.2.2.2.2.2.2.2.2.1 ≤ S.1.1 ∧ X.2.2.2.2.2.2.2.2.2.2.2.2 ≤ S.1.2 := by rw [hX]; exact ⟨Nat.le_refl _, Nat.le_refl _⟩
  have R2 : S.1.1 ≤ SS.1.1 ∧ S.1.2 ≤ SS.1.2 := hmono
  show sk_G X C 1 S d 0 [(0, .ref p0)] []
  unfold fX0_init at hf
  obtain ⟨⟨v1, S2, d3⟩, e4, hf⟩ := sk_ob hf
  try dsimp only at hf
  have R1_S2 := sk_le_tr R1 (sk_mk_1 e4)
  obtain ⟨S6, e7, hf⟩ := sk_ob hf
  have R1_S6 := sk_le_eq R1_S2 (sk_pR_1 e7)
  have hR8 : (S6, d3) = (SS, dd) := Option.some.inj hf
  have R2_S6 : S6.1.1 ≤ SS.1.1 ∧ S6.1.2 ≤ SS.1.2 := sk_ss_le (show S6 = SS from congrArg (fun z => z.1) hR8)
  have R2_S2 : S2.1.1 ≤ SS.1.1 ∧ S2.1.2 ≤ SS.1.2 := sk_le_tr (sk_eq_le (sk_pR_1 e7)) R2_S6
  refine sk_aload_n K dX0_init_0 rfl 0 rfl ?_
  refine sk_objInit K dX0_init_1 qw_373 qw_153 qw_154 (by decide) (Nat.le_of_ble_eq_true rfl) ?_
  refine sk_aload_n K dX0_init_4 rfl 0 rfl ?_
  refine sk_bipush (8 : Int32) K dX0_init_5 (by decide) ?_
  refine sk_newa20 K dX0_init_7 qw_183 e4 R1 R2_S2 ?_
  refine sk_putRF S6 K dX0_init_9 fl_X0_9 (fun _ _ _ h => by cases h; rfl) rfl rfl rfl rfl e7 ?_
  exact sk_vret K dX0_init_12 rfl rfl (congrArg (fun z => z.1) hR8) (congrArg (fun z => z.2) hR8)
noncomputable def fX1_init (S : sk_S) (d : sk_D) (p0 : Nat) : Option (sk_S × sk_D) :=
  (sk_mk S d 20 (900 : Int32)).bind fun b5 => (sk_pR b5.2.1 p0 1 0 b5.1).bind fun S6 => (sk_mk S6 b5.2.2 20 (64 : Int32)).bind fun b12 => (sk_pR b12.2.1 p0 1 1 b12.1).bind fun S13 => (sk_pI S13 b12.2.2 p0 1 2 (0 : Int32)).bind fun d15 => some (S13, d15)
theorem monoX1_init (S : sk_S) (d : sk_D) (p0 : Nat) : sk_Mo S.1 (fun (z : sk_S × sk_D) => z.1.1) (fX1_init S d p0) := by
  unfold fX1_init
  repeat' (first | exact mo_none | exact mo_some ⟨Nat.le_refl _, Nat.le_refl _⟩ | refine mo_pR (fun _ => ?_) | refine mo_mk (fun _ => ?_) | refine mo_sR24 (fun _ => ?_) | refine mo_sR25 (fun _ => ?_) | refine mo_ite ?_ ?_ | refine mo_bind (fun _ => ?_) | dsimp only | split)
set_option maxRecDepth 100000 in
set_option maxHeartbeats 4000000 in
theorem sX1_init (C : sk_C) (l : Launch) {S : sk_S} {d : sk_D} {p0 : Nat} {SS : sk_S} {dd : sk_D} (hf : fX1_init S d p0 = some (SS, dd)) : sk_Met C l 1 yX1_init cX1_init 1 none [.ref p0] S d none SS dd := by
  have hmono := mo_use (n := S.1) (pr := (fun (z : sk_S × sk_D) => z.1.1)) hf (monoX1_init S d p0)
  refine sk_Met.of (by decide) (Nat.le_of_ble_eq_true rfl) hmono.1 hmono.2 (fun X K0 hX => ?_)
  have K : sk_Ok X C cX1_init 1 RX1 "<init>" none 1 l none SS dd := K0
  have R1 : X.2.2.2.2.2.2.2.2.2.2.2.1 ≤ S.1.1 ∧ X.2.2.2.2.2.2.2.2.2.2.2.2 ≤ S.1.2 := by rw [hX]; exact ⟨Nat.le_refl _, Nat.le_refl _⟩
  have R2 : S.1.1 ≤ SS.1.1 ∧ S.1.2 ≤ SS.1.2 := hmono
  show sk_G X C 1 S d 0 [(0, .ref p0)] []
  unfold fX1_init at hf
  obtain ⟨⟨v1, S2, d3⟩, e4, hf⟩ := sk_ob hf
  try dsimp only at hf
  have R1_S2 := sk_le_tr R1 (sk_mk_1 e4)
  obtain ⟨S6, e7, hf⟩ := sk_ob hf
  have R1_S6 := sk_le_eq R1_S2 (sk_pR_1 e7)
  obtain ⟨⟨v8, S9, d10⟩, e11, hf⟩ := sk_ob hf
  try dsimp only at hf
  have R1_S9 := sk_le_tr R1_S6 (sk_mk_1 e11)
  obtain ⟨S13, e14, hf⟩ := sk_ob hf
  have R1_S13 := sk_le_eq R1_S9 (sk_pR_1 e14)
  obtain ⟨d15, e16, hf⟩ := sk_ob hf
  have hR17 : (S13, d15) = (SS, dd) := Option.some.inj hf
  have R2_S13 : S13.1.1 ≤ SS.1.1 ∧ S13.1.2 ≤ SS.1.2 := sk_ss_le (show S13 = SS from congrArg (fun z => z.1) hR17)
  have R2_S9 : S9.1.1 ≤ SS.1.1 ∧ S9.1.2 ≤ SS.1.2 := sk_le_tr (sk_eq_le (sk_pR_1 e14)) R2_S13
  have R2_S6 : S6.1.1 ≤ SS.1.1 ∧ S6.1.2 ≤ SS.1.2 := sk_le_tr (sk_mk_1 e11) R2_S9
  have R2_S2 : S2.1.1 ≤ SS.1.1 ∧ S2.1.2 ≤ SS.1.2 := sk_le_tr (sk_eq_le (sk_pR_1 e7)) R2_S6
  refine sk_aload_n K dX1_init_0 rfl 0 rfl ?_
  refine sk_objInit K dX1_init_1 qw_172 qw_153 qw_154 (by decide) (Nat.le_of_ble_eq_true rfl) ?_
  refine sk_aload_n K dX1_init_4 rfl 0 rfl ?_
  refine sk_sipush (900 : Int32) K dX1_init_5 (by decide) ?_
  refine sk_newa20 K dX1_init_8 qw_183 e4 R1 R2_S2 ?_
  refine sk_putRF S6 K dX1_init_10 fl_X1_9 (fun _ _ _ h => by cases h; rfl) rfl rfl rfl rfl e7 ?_
  refine sk_aload_n K dX1_init_13 rfl 0 rfl ?_
  refine sk_bipush (64 : Int32) K dX1_init_14 (by decide) ?_
  refine sk_newa20 K dX1_init_16 qw_183 e11 R1_S6 R2_S9 ?_
  refine sk_putRF S13 K dX1_init_18 fl_X1_15 (fun _ _ _ h => by cases h; rfl) rfl rfl rfl rfl e14 ?_
  refine sk_aload_n K dX1_init_21 rfl 0 rfl ?_
  refine sk_iconst (0 : Int32) K dX1_init_22 (by decide) ?_
  refine sk_putI d15 K dX1_init_23 fl_X1_18 rfl rfl rfl e16 ?_
  exact sk_vret K dX1_init_26 rfl rfl (congrArg (fun z => z.1) hR17) (congrArg (fun z => z.2) hR17)
noncomputable def fX2_init (S : sk_S) (d : sk_D) (p0 : Nat) : Option (sk_S × sk_D) :=
  (sk_pI S d p0 2 0 (0 : Int32)).bind fun d1 => (sk_pI S d1 p0 2 1 (0 : Int32)).bind fun d3 => (sk_pI S d3 p0 2 2 (0 : Int32)).bind fun d5 => (sk_pI S d5 p0 2 3 (0 : Int32)).bind fun d7 => (sk_pI S d7 p0 2 4 (0 : Int32)).bind fun d9 => (sk_mk S d9 20 (8 : Int32)).bind fun b15 => (sk_pR b15.2.1 p0 2 5 b15.1).bind fun S16 => (sk_mk S16 b15.2.2 20 (8 : Int32)).bind fun b22 => (sk_pR b22.2.1 p0 2 6 b22.1).bind fun S23 => (sk_mk S23 b22.2.2 20 (8 : Int32)).bind fun b29 => (sk_pR b29.2.1 p0 2 7 b29.1).bind fun S30 => (sk_mk S30 b29.2.2 20 (8 : Int32)).bind fun b36 => (sk_pR b36.2.1 p0 2 8 b36.1).bind fun S37 => (sk_mk S37 b36.2.2 20 (8 : Int32)).bind fun b43 => (sk_pR b43.2.1 p0 2 9 b43.1).bind fun S44 => (sk_mk S44 b43.2.2 20 (8 : Int32)).bind fun b50 => (sk_pR b50.2.1 p0 2 10 b50.1).bind fun S51 => (sk_mk S51 b50.2.2 20 (8 : Int32)).bind fun b57 => (sk_pR b57.2.1 p0 2 11 b57.1).bind fun S58 => (sk_mk S58 b57.2.2 20 (8 : Int32)).bind fun b64 => (sk_pR b64.2.1 p0 2 12 b64.1).bind fun S65 => (fX1_init (sk_nS S65 1 0 (sk_N 1)) (sk_nD S65 b64.2.2) (S65.1.1 + 1)).bind fun b72 => (sk_pR b72.1 p0 2 13 (S65.1.1 + 1)).bind fun S73 => (fX1_init (sk_nS S73 1 0 (sk_N 1)) (sk_nD S73 b72.2) (S73.1.1 + 1)).bind fun b80 => (sk_pR b80.1 p0 2 14 (S73.1.1 + 1)).bind fun S81 => some (S81, b80.2)
theorem monoX2_init (S : sk_S) (d : sk_D) (p0 : Nat) : sk_Mo S.1 (fun (z : sk_S × sk_D) => z.1.1) (fX2_init S d p0) := by
  unfold fX2_init
  repeat' (first | exact mo_none | exact mo_some ⟨Nat.le_refl _, Nat.le_refl _⟩ | refine mo_pR (fun _ => ?_) | refine mo_mk (fun _ => ?_) | refine mo_sR24 (fun _ => ?_) | refine mo_sR25 (fun _ => ?_) | refine mo_A ⟨Nat.le_refl _, Nat.le_refl _⟩ (monoX1_init _ _ _) (fun _ => ?_) | refine mo_A (sk_nS_le _ _ _ _) (monoX1_init _ _ _) (fun _ => ?_) | refine mo_ite ?_ ?_ | refine mo_bind (fun _ => ?_) | dsimp only | split)
set_option maxRecDepth 100000 in
set_option maxHeartbeats 4000000 in
theorem sX2_init (C : sk_C) (l : Launch) {S : sk_S} {d : sk_D} {p0 : Nat} {SS : sk_S} {dd : sk_D} (hf : fX2_init S d p0 = some (SS, dd)) : sk_Met C l 2 yX2_init cX2_init 1 none [.ref p0] S d none SS dd := by
  have hmono := mo_use (n := S.1) (pr := (fun (z : sk_S × sk_D) => z.1.1)) hf (monoX2_init S d p0)
  refine sk_Met.of (by decide) (Nat.le_of_ble_eq_true rfl) hmono.1 hmono.2 (fun X K0 hX => ?_)
  have K : sk_Ok X C cX2_init 1 RX2 "<init>" none 2 l none SS dd := K0
  have R1 : X.2.2.2.2.2.2.2.2.2.2.2.1 ≤ S.1.1 ∧ X.2.2.2.2.2.2.2.2.2.2.2.2 ≤ S.1.2 := by rw [hX]; exact ⟨Nat.le_refl _, Nat.le_refl _⟩
  have R2 : S.1.1 ≤ SS.1.1 ∧ S.1.2 ≤ SS.1.2 := hmono
  show sk_G X C 1 S d 0 [(0, .ref p0)] []
  unfold fX2_init at hf
  obtain ⟨d1, e2, hf⟩ := sk_ob hf
  obtain ⟨d3, e4, hf⟩ := sk_ob hf
  obtain ⟨d5, e6, hf⟩ := sk_ob hf
  obtain ⟨d7, e8, hf⟩ := sk_ob hf
  obtain ⟨d9, e10, hf⟩ := sk_ob hf
  obtain ⟨⟨v11, S12, d13⟩, e14, hf⟩ := sk_ob hf
  try dsimp only at hf
  have R1_S12 := sk_le_tr R1 (sk_mk_1 e14)
  obtain ⟨S16, e17, hf⟩ := sk_ob hf
  have R1_S16 := sk_le_eq R1_S12 (sk_pR_1 e17)
  obtain ⟨⟨v18, S19, d20⟩, e21, hf⟩ := sk_ob hf
  try dsimp only at hf
  have R1_S19 := sk_le_tr R1_S16 (sk_mk_1 e21)
  obtain ⟨S23, e24, hf⟩ := sk_ob hf
  have R1_S23 := sk_le_eq R1_S19 (sk_pR_1 e24)
  obtain ⟨⟨v25, S26, d27⟩, e28, hf⟩ := sk_ob hf
  try dsimp only at hf
  have R1_S26 := sk_le_tr R1_S23 (sk_mk_1 e28)
  obtain ⟨S30, e31, hf⟩ := sk_ob hf
  have R1_S30 := sk_le_eq R1_S26 (sk_pR_1 e31)
  obtain ⟨⟨v32, S33, d34⟩, e35, hf⟩ := sk_ob hf
  try dsimp only at hf
  have R1_S33 := sk_le_tr R1_S30 (sk_mk_1 e35)
  obtain ⟨S37, e38, hf⟩ := sk_ob hf
  have R1_S37 := sk_le_eq R1_S33 (sk_pR_1 e38)
  obtain ⟨⟨v39, S40, d41⟩, e42, hf⟩ := sk_ob hf
  try dsimp only at hf
  have R1_S40 := sk_le_tr R1_S37 (sk_mk_1 e42)
  obtain ⟨S44, e45, hf⟩ := sk_ob hf
  have R1_S44 := sk_le_eq R1_S40 (sk_pR_1 e45)
  obtain ⟨⟨v46, S47, d48⟩, e49, hf⟩ := sk_ob hf
  try dsimp only at hf
  have R1_S47 := sk_le_tr R1_S44 (sk_mk_1 e49)
  obtain ⟨S51, e52, hf⟩ := sk_ob hf
  have R1_S51 := sk_le_eq R1_S47 (sk_pR_1 e52)
  obtain ⟨⟨v53, S54, d55⟩, e56, hf⟩ := sk_ob hf
  try dsimp only at hf
  have R1_S54 := sk_le_tr R1_S51 (sk_mk_1 e56)
  obtain ⟨S58, e59, hf⟩ := sk_ob hf
  have R1_S58 := sk_le_eq R1_S54 (sk_pR_1 e59)
  obtain ⟨⟨v60, S61, d62⟩, e63, hf⟩ := sk_ob hf
  try dsimp only at hf
  have R1_S61 := sk_le_tr R1_S58 (sk_mk_1 e63)
  obtain ⟨S65, e66, hf⟩ := sk_ob hf
  have R1_S65 := sk_le_eq R1_S61 (sk_pR_1 e66)
  obtain ⟨⟨S70, d71⟩, e69, hf⟩ := sk_ob hf
  try dsimp only at hf
  have R1_S70 := sk_le_tr (sk_nS_le2 R1_S65) (mo_use (pr := (fun (z : sk_S × sk_D) => z.1.1)) e69 (monoX1_init _ _ _))
  obtain ⟨S73, e74, hf⟩ := sk_ob hf
  have R1_S73 := sk_le_eq R1_S70 (sk_pR_1 e74)
  obtain ⟨⟨S78, d79⟩, e77, hf⟩ := sk_ob hf
  try dsimp only at hf
  have R1_S78 := sk_le_tr (sk_nS_le2 R1_S73) (mo_use (pr := (fun (z : sk_S × sk_D) => z.1.1)) e77 (monoX1_init _ _ _))
  obtain ⟨S81, e82, hf⟩ := sk_ob hf
  have R1_S81 := sk_le_eq R1_S78 (sk_pR_1 e82)
  have hR83 : (S81, d79) = (SS, dd) := Option.some.inj hf
  have R2_S81 : S81.1.1 ≤ SS.1.1 ∧ S81.1.2 ≤ SS.1.2 := sk_ss_le (show S81 = SS from congrArg (fun z => z.1) hR83)
  have R2_S78 : S78.1.1 ≤ SS.1.1 ∧ S78.1.2 ≤ SS.1.2 := sk_le_tr (sk_eq_le (sk_pR_1 e82)) R2_S81
  have RN75 : S73.1.1 + 1 ≤ SS.1.1 ∧ S73.1.2 + sk_N 1 ≤ SS.1.2 := sk_le_tr (mo_use (pr := (fun (z : sk_S × sk_D) => z.1.1)) e77 (monoX1_init _ _ _)) R2_S78
  have R2_S73 : S73.1.1 ≤ SS.1.1 ∧ S73.1.2 ≤ SS.1.2 := sk_le_tr (sk_le_tr (sk_nS_le _ _ _ _) (mo_use (pr := (fun (z : sk_S × sk_D) => z.1.1)) e77 (monoX1_init _ _ _))) R2_S78
  have R2_S70 : S70.1.1 ≤ SS.1.1 ∧ S70.1.2 ≤ SS.1.2 := sk_le_tr (sk_eq_le (sk_pR_1 e74)) R2_S73
  have RN67 : S65.1.1 + 1 ≤ SS.1.1 ∧ S65.1.2 + sk_N 1 ≤ SS.1.2 := sk_le_tr (mo_use (pr := (fun (z : sk_S × sk_D) => z.1.1)) e69 (monoX1_init _ _ _)) R2_S70
  have R2_S65 : S65.1.1 ≤ SS.1.1 ∧ S65.1.2 ≤ SS.1.2 := sk_le_tr (sk_le_tr (sk_nS_le _ _ _ _) (mo_use (pr := (fun (z : sk_S × sk_D) => z.1.1)) e69 (monoX1_init _ _ _))) R2_S70
  have R2_S61 : S61.1.1 ≤ SS.1.1 ∧ S61.1.2 ≤ SS.1.2 := sk_le_tr (sk_eq_le (sk_pR_1 e66)) R2_S65
  have R2_S58 : S58.1.1 ≤ SS.1.1 ∧ S58.1.2 ≤ SS.1.2 := sk_le_tr (sk_mk_1 e63) R2_S61
  have R2_S54 : S54.1.1 ≤ SS.1.1 ∧ S54.1.2 ≤ SS.1.2 := sk_le_tr (sk_eq_le (sk_pR_1 e59)) R2_S58
  have R2_S51 : S51.1.1 ≤ SS.1.1 ∧ S51.1.2 ≤ SS.1.2 := sk_le_tr (sk_mk_1 e56) R2_S54
  have R2_S47 : S47.1.1 ≤ SS.1.1 ∧ S47.1.2 ≤ SS.1.2 := sk_le_tr (sk_eq_le (sk_pR_1 e52)) R2_S51
  have R2_S44 : S44.1.1 ≤ SS.1.1 ∧ S44.1.2 ≤ SS.1.2 := sk_le_tr (sk_mk_1 e49) R2_S47
  have R2_S40 : S40.1.1 ≤ SS.1.1 ∧ S40.1.2 ≤ SS.1.2 := sk_le_tr (sk_eq_le (sk_pR_1 e45)) R2_S44
  have R2_S37 : S37.1.1 ≤ SS.1.1 ∧ S37.1.2 ≤ SS.1.2 := sk_le_tr (sk_mk_1 e42) R2_S40
  have R2_S33 : S33.1.1 ≤ SS.1.1 ∧ S33.1.2 ≤ SS.1.2 := sk_le_tr (sk_eq_le (sk_pR_1 e38)) R2_S37
  have R2_S30 : S30.1.1 ≤ SS.1.1 ∧ S30.1.2 ≤ SS.1.2 := sk_le_tr (sk_mk_1 e35) R2_S33
  have R2_S26 : S26.1.1 ≤ SS.1.1 ∧ S26.1.2 ≤ SS.1.2 := sk_le_tr (sk_eq_le (sk_pR_1 e31)) R2_S30
  have R2_S23 : S23.1.1 ≤ SS.1.1 ∧ S23.1.2 ≤ SS.1.2 := sk_le_tr (sk_mk_1 e28) R2_S26
  have R2_S19 : S19.1.1 ≤ SS.1.1 ∧ S19.1.2 ≤ SS.1.2 := sk_le_tr (sk_eq_le (sk_pR_1 e24)) R2_S23
  have R2_S16 : S16.1.1 ≤ SS.1.1 ∧ S16.1.2 ≤ SS.1.2 := sk_le_tr (sk_mk_1 e21) R2_S19
  have R2_S12 : S12.1.1 ≤ SS.1.1 ∧ S12.1.2 ≤ SS.1.2 := sk_le_tr (sk_eq_le (sk_pR_1 e17)) R2_S16
  refine sk_aload_n K dX2_init_0 rfl 0 rfl ?_
  refine sk_objInit K dX2_init_1 qw_166 qw_153 qw_154 (by decide) (Nat.le_of_ble_eq_true rfl) ?_
  refine sk_aload_n K dX2_init_4 rfl 0 rfl ?_
  refine sk_iconst (0 : Int32) K dX2_init_5 (by decide) ?_
  refine sk_putI d1 K dX2_init_6 fl_X2_9 rfl rfl rfl e2 ?_
  refine sk_aload_n K dX2_init_9 rfl 0 rfl ?_
  refine sk_iconst (0 : Int32) K dX2_init_10 (by decide) ?_
  refine sk_putI d3 K dX2_init_11 fl_X2_15 rfl rfl rfl e4 ?_
  refine sk_aload_n K dX2_init_14 rfl 0 rfl ?_
  refine sk_iconst (0 : Int32) K dX2_init_15 (by decide) ?_
  refine sk_putI d5 K dX2_init_16 fl_X2_18 rfl rfl rfl e6 ?_
  refine sk_aload_n K dX2_init_19 rfl 0 rfl ?_
  refine sk_iconst (0 : Int32) K dX2_init_20 (by decide) ?_
  refine sk_putI d7 K dX2_init_21 fl_X2_21 rfl rfl rfl e8 ?_
  refine sk_aload_n K dX2_init_24 rfl 0 rfl ?_
  refine sk_iconst (0 : Int32) K dX2_init_25 (by decide) ?_
  refine sk_putI d9 K dX2_init_26 fl_X2_24 rfl rfl rfl e10 ?_
  refine sk_aload_n K dX2_init_29 rfl 0 rfl ?_
  refine sk_bipush (8 : Int32) K dX2_init_30 (by decide) ?_
  refine sk_newa20 K dX2_init_32 qw_183 e14 R1 R2_S12 ?_
  refine sk_putRF S16 K dX2_init_34 fl_X2_27 (fun _ _ _ h => by cases h; rfl) rfl rfl rfl rfl e17 ?_
  refine sk_aload_n K dX2_init_37 rfl 0 rfl ?_
  refine sk_bipush (8 : Int32) K dX2_init_38 (by decide) ?_
  refine sk_newa20 K dX2_init_40 qw_183 e21 R1_S16 R2_S19 ?_
  refine sk_putRF S23 K dX2_init_42 fl_X2_31 (fun _ _ _ h => by cases h; rfl) rfl rfl rfl rfl e24 ?_
  refine sk_aload_n K dX2_init_45 rfl 0 rfl ?_
  refine sk_bipush (8 : Int32) K dX2_init_46 (by decide) ?_
  refine sk_newa20 K dX2_init_48 qw_183 e28 R1_S23 R2_S26 ?_
  refine sk_putRF S30 K dX2_init_50 fl_X2_34 (fun _ _ _ h => by cases h; rfl) rfl rfl rfl rfl e31 ?_
  refine sk_aload_n K dX2_init_53 rfl 0 rfl ?_
  refine sk_bipush (8 : Int32) K dX2_init_54 (by decide) ?_
  refine sk_newa20 K dX2_init_56 qw_183 e35 R1_S30 R2_S33 ?_
  refine sk_putRF S37 K dX2_init_58 fl_X2_37 (fun _ _ _ h => by cases h; rfl) rfl rfl rfl rfl e38 ?_
  refine sk_aload_n K dX2_init_61 rfl 0 rfl ?_
  refine sk_bipush (8 : Int32) K dX2_init_62 (by decide) ?_
  refine sk_newa20 K dX2_init_64 qw_183 e42 R1_S37 R2_S40 ?_
  refine sk_putRF S44 K dX2_init_66 fl_X2_40 (fun _ _ _ h => by cases h; rfl) rfl rfl rfl rfl e45 ?_
  refine sk_aload_n K dX2_init_69 rfl 0 rfl ?_
  refine sk_bipush (8 : Int32) K dX2_init_70 (by decide) ?_
  refine sk_newa20 K dX2_init_72 qw_183 e49 R1_S44 R2_S47 ?_
  refine sk_putRF S51 K dX2_init_74 fl_X2_43 (fun _ _ _ h => by cases h; rfl) rfl rfl rfl rfl e52 ?_
  refine sk_aload_n K dX2_init_77 rfl 0 rfl ?_
  refine sk_bipush (8 : Int32) K dX2_init_78 (by decide) ?_
  refine sk_newa20 K dX2_init_80 qw_183 e56 R1_S51 R2_S54 ?_
  refine sk_putRF S58 K dX2_init_82 fl_X2_46 (fun _ _ _ h => by cases h; rfl) rfl rfl rfl rfl e59 ?_
  refine sk_aload_n K dX2_init_85 rfl 0 rfl ?_
  refine sk_bipush (8 : Int32) K dX2_init_86 (by decide) ?_
  refine sk_newa20 K dX2_init_88 qw_183 e63 R1_S58 R2_S61 ?_
  refine sk_putRF S65 K dX2_init_90 fl_X2_49 (fun _ _ _ h => by cases h; rfl) rfl rfl rfl rfl e66 ?_
  refine sk_aload_n K dX2_init_93 rfl 0 rfl ?_
  refine sk_new K dX2_init_94 nw_X2_52 R1_S65 RN67 ?_
  refine sk_dup K dX2_init_97 rfl ?_
  refine sk_callI (As := []) (st := [.ref (S65.1.1 + 1), .ref p0]) K dX2_init_98 cl_X2_54 rfl (sX1_init C l e69) (by decide) rfl rfl (Nat.le_of_ble_eq_true rfl) (sk_nS_le2 R1_S65) R2_S70 ?_
  refine sk_putRF S73 K dX2_init_101 fl_X2_55 (fun _ _ _ h => by cases h; rfl) rfl rfl rfl rfl e74 ?_
  refine sk_aload_n K dX2_init_104 rfl 0 rfl ?_
  refine sk_new K dX2_init_105 nw_X2_52 R1_S73 RN75 ?_
  refine sk_dup K dX2_init_108 rfl ?_
  refine sk_callI (As := []) (st := [.ref (S73.1.1 + 1), .ref p0]) K dX2_init_109 cl_X2_54 rfl (sX1_init C l e77) (by decide) rfl rfl (Nat.le_of_ble_eq_true rfl) (sk_nS_le2 R1_S73) R2_S78 ?_
  refine sk_putRF S81 K dX2_init_112 fl_X2_59 (fun _ _ _ h => by cases h; rfl) rfl rfl rfl rfl e82 ?_
  exact sk_vret K dX2_init_115 rfl rfl (congrArg (fun z => z.1) hR83) (congrArg (fun z => z.2) hR83)
noncomputable def fX3_init (S : sk_S) (d : sk_D) (p0 : Nat) : Option (sk_S × sk_D) :=
  (sk_mk S d 20 (8 : Int32)).bind fun b5 => (sk_pR b5.2.1 p0 3 0 b5.1).bind fun S6 => (sk_mk S6 b5.2.2 20 (256 : Int32)).bind fun b12 => (sk_pR b12.2.1 p0 3 1 b12.1).bind fun S13 => (sk_pI S13 b12.2.2 p0 3 2 (0 : Int32)).bind fun d15 => some (S13, d15)
theorem monoX3_init (S : sk_S) (d : sk_D) (p0 : Nat) : sk_Mo S.1 (fun (z : sk_S × sk_D) => z.1.1) (fX3_init S d p0) := by
  unfold fX3_init
  repeat' (first | exact mo_none | exact mo_some ⟨Nat.le_refl _, Nat.le_refl _⟩ | refine mo_pR (fun _ => ?_) | refine mo_mk (fun _ => ?_) | refine mo_sR24 (fun _ => ?_) | refine mo_sR25 (fun _ => ?_) | refine mo_ite ?_ ?_ | refine mo_bind (fun _ => ?_) | dsimp only | split)
set_option maxRecDepth 100000 in
set_option maxHeartbeats 4000000 in
theorem sX3_init (C : sk_C) (l : Launch) {S : sk_S} {d : sk_D} {p0 : Nat} {SS : sk_S} {dd : sk_D} (hf : fX3_init S d p0 = some (SS, dd)) : sk_Met C l 1 yX3_init cX3_init 1 none [.ref p0] S d none SS dd := by
  have hmono := mo_use (n := S.1) (pr := (fun (z : sk_S × sk_D) => z.1.1)) hf (monoX3_init S d p0)
  refine sk_Met.of (by decide) (Nat.le_of_ble_eq_true rfl) hmono.1 hmono.2 (fun X K0 hX => ?_)
  have K : sk_Ok X C cX3_init 1 RX3 "<init>" none 1 l none SS dd := K0
  have R1 : X.2.2.2.2.2.2.2.2.2.2.2.1 ≤ S.1.1 ∧ X.2.2.2.2.2.2.2.2.2.2.2.2 ≤ S.1.2 := by rw [hX]; exact ⟨Nat.le_refl _, Nat.le_refl _⟩
  have R2 : S.1.1 ≤ SS.1.1 ∧ S.1.2 ≤ SS.1.2 := hmono
  show sk_G X C 1 S d 0 [(0, .ref p0)] []
  unfold fX3_init at hf
  obtain ⟨⟨v1, S2, d3⟩, e4, hf⟩ := sk_ob hf
  try dsimp only at hf
  have R1_S2 := sk_le_tr R1 (sk_mk_1 e4)
  obtain ⟨S6, e7, hf⟩ := sk_ob hf
  have R1_S6 := sk_le_eq R1_S2 (sk_pR_1 e7)
  obtain ⟨⟨v8, S9, d10⟩, e11, hf⟩ := sk_ob hf
  try dsimp only at hf
  have R1_S9 := sk_le_tr R1_S6 (sk_mk_1 e11)
  obtain ⟨S13, e14, hf⟩ := sk_ob hf
  have R1_S13 := sk_le_eq R1_S9 (sk_pR_1 e14)
  obtain ⟨d15, e16, hf⟩ := sk_ob hf
  have hR17 : (S13, d15) = (SS, dd) := Option.some.inj hf
  have R2_S13 : S13.1.1 ≤ SS.1.1 ∧ S13.1.2 ≤ SS.1.2 := sk_ss_le (show S13 = SS from congrArg (fun z => z.1) hR17)
  have R2_S9 : S9.1.1 ≤ SS.1.1 ∧ S9.1.2 ≤ SS.1.2 := sk_le_tr (sk_eq_le (sk_pR_1 e14)) R2_S13
  have R2_S6 : S6.1.1 ≤ SS.1.1 ∧ S6.1.2 ≤ SS.1.2 := sk_le_tr (sk_mk_1 e11) R2_S9
  have R2_S2 : S2.1.1 ≤ SS.1.1 ∧ S2.1.2 ≤ SS.1.2 := sk_le_tr (sk_eq_le (sk_pR_1 e7)) R2_S6
  refine sk_aload_n K dX3_init_0 rfl 0 rfl ?_
  refine sk_objInit K dX3_init_1 qw_357 qw_153 qw_154 (by decide) (Nat.le_of_ble_eq_true rfl) ?_
  refine sk_aload_n K dX3_init_4 rfl 0 rfl ?_
  refine sk_bipush (8 : Int32) K dX3_init_5 (by decide) ?_
  refine sk_newa20 K dX3_init_7 qw_183 e4 R1 R2_S2 ?_
  refine sk_putRF S6 K dX3_init_9 fl_X3_9 (fun _ _ _ h => by cases h; rfl) rfl rfl rfl rfl e7 ?_
  refine sk_aload_n K dX3_init_12 rfl 0 rfl ?_
  refine sk_sipush (256 : Int32) K dX3_init_13 (by decide) ?_
  refine sk_newa20 K dX3_init_16 qw_183 e11 R1_S6 R2_S9 ?_
  refine sk_putRF S13 K dX3_init_18 fl_X3_15 (fun _ _ _ h => by cases h; rfl) rfl rfl rfl rfl e14 ?_
  refine sk_aload_n K dX3_init_21 rfl 0 rfl ?_
  refine sk_iconst (0 : Int32) K dX3_init_22 (by decide) ?_
  refine sk_putI d15 K dX3_init_23 fl_X3_18 rfl rfl rfl e16 ?_
  exact sk_vret K dX3_init_26 rfl rfl (congrArg (fun z => z.1) hR17) (congrArg (fun z => z.2) hR17)
noncomputable def fX4_init (S : sk_S) (d : sk_D) (p0 : Nat) : Option (sk_S × sk_D) :=
  (sk_mk S d 20 (10 : Int32)).bind fun b5 => (sk_pR b5.2.1 p0 4 0 b5.1).bind fun S6 => (sk_pI S6 b5.2.2 p0 4 1 (0 : Int32)).bind fun d8 => (sk_pI S6 d8 p0 4 2 (0 : Int32)).bind fun d10 => some (S6, d10)
theorem monoX4_init (S : sk_S) (d : sk_D) (p0 : Nat) : sk_Mo S.1 (fun (z : sk_S × sk_D) => z.1.1) (fX4_init S d p0) := by
  unfold fX4_init
  repeat' (first | exact mo_none | exact mo_some ⟨Nat.le_refl _, Nat.le_refl _⟩ | refine mo_pR (fun _ => ?_) | refine mo_mk (fun _ => ?_) | refine mo_sR24 (fun _ => ?_) | refine mo_sR25 (fun _ => ?_) | refine mo_ite ?_ ?_ | refine mo_bind (fun _ => ?_) | dsimp only | split)
set_option maxRecDepth 100000 in
set_option maxHeartbeats 4000000 in
theorem sX4_init (C : sk_C) (l : Launch) {S : sk_S} {d : sk_D} {p0 : Nat} {SS : sk_S} {dd : sk_D} (hf : fX4_init S d p0 = some (SS, dd)) : sk_Met C l 1 yX4_init cX4_init 1 none [.ref p0] S d none SS dd := by
  have hmono := mo_use (n := S.1) (pr := (fun (z : sk_S × sk_D) => z.1.1)) hf (monoX4_init S d p0)
  refine sk_Met.of (by decide) (Nat.le_of_ble_eq_true rfl) hmono.1 hmono.2 (fun X K0 hX => ?_)
  have K : sk_Ok X C cX4_init 1 RX4 "<init>" none 1 l none SS dd := K0
  have R1 : X.2.2.2.2.2.2.2.2.2.2.2.1 ≤ S.1.1 ∧ X.2.2.2.2.2.2.2.2.2.2.2.2 ≤ S.1.2 := by rw [hX]; exact ⟨Nat.le_refl _, Nat.le_refl _⟩
  have R2 : S.1.1 ≤ SS.1.1 ∧ S.1.2 ≤ SS.1.2 := hmono
  show sk_G X C 1 S d 0 [(0, .ref p0)] []
  unfold fX4_init at hf
  obtain ⟨⟨v1, S2, d3⟩, e4, hf⟩ := sk_ob hf
  try dsimp only at hf
  have R1_S2 := sk_le_tr R1 (sk_mk_1 e4)
  obtain ⟨S6, e7, hf⟩ := sk_ob hf
  have R1_S6 := sk_le_eq R1_S2 (sk_pR_1 e7)
  obtain ⟨d8, e9, hf⟩ := sk_ob hf
  obtain ⟨d10, e11, hf⟩ := sk_ob hf
  have hR12 : (S6, d10) = (SS, dd) := Option.some.inj hf
  have R2_S6 : S6.1.1 ≤ SS.1.1 ∧ S6.1.2 ≤ SS.1.2 := sk_ss_le (show S6 = SS from congrArg (fun z => z.1) hR12)
  have R2_S2 : S2.1.1 ≤ SS.1.1 ∧ S2.1.2 ≤ SS.1.2 := sk_le_tr (sk_eq_le (sk_pR_1 e7)) R2_S6
  refine sk_aload_n K dX4_init_0 rfl 0 rfl ?_
  refine sk_objInit K dX4_init_1 qw_383 qw_153 qw_154 (by decide) (Nat.le_of_ble_eq_true rfl) ?_
  refine sk_aload_n K dX4_init_4 rfl 0 rfl ?_
  refine sk_bipush (10 : Int32) K dX4_init_5 (by decide) ?_
  refine sk_newa20 K dX4_init_7 qw_183 e4 R1 R2_S2 ?_
  refine sk_putRF S6 K dX4_init_9 fl_X4_9 (fun _ _ _ h => by cases h; rfl) rfl rfl rfl rfl e7 ?_
  refine sk_aload_n K dX4_init_12 rfl 0 rfl ?_
  refine sk_iconst (0 : Int32) K dX4_init_13 (by decide) ?_
  refine sk_putI d8 K dX4_init_14 fl_X4_13 rfl rfl rfl e9 ?_
  refine sk_aload_n K dX4_init_17 rfl 0 rfl ?_
  refine sk_iconst (0 : Int32) K dX4_init_18 (by decide) ?_
  refine sk_putI d10 K dX4_init_19 fl_X4_17 rfl rfl rfl e11 ?_
  exact sk_vret K dX4_init_22 rfl rfl (congrArg (fun z => z.1) hR12) (congrArg (fun z => z.2) hR12)
noncomputable def fX5_init (S : sk_S) (d : sk_D) (p0 : Nat) : Option (sk_S × sk_D) :=
  (fX2_init (sk_nS S 2 0 (sk_N 2)) (sk_nD S d) (S.1.1 + 1)).bind fun b6 => (sk_pR b6.1 p0 5 0 (S.1.1 + 1)).bind fun S7 => (sk_pI S7 b6.2 p0 5 1 (0 : Int32)).bind fun d9 => (sk_pI S7 d9 p0 5 2 (-1 : Int32)).bind fun d11 => (sk_mk S7 d11 20 (901 : Int32)).bind fun b17 => (sk_pR b17.2.1 p0 5 3 b17.1).bind fun S18 => (sk_mk S18 b17.2.2 20 (901 : Int32)).bind fun b24 => (sk_pR b24.2.1 p0 5 4 b24.1).bind fun S25 => (sk_mk S25 b24.2.2 20 (901 : Int32)).bind fun b31 => (sk_pR b31.2.1 p0 5 5 b31.1).bind fun S32 => (sk_pI S32 b31.2.2 p0 5 6 (0 : Int32)).bind fun d34 => (sk_pI S32 d34 p0 5 7 (0 : Int32)).bind fun d36 => (sk_pI S32 d36 p0 5 8 (0 : Int32)).bind fun d38 => some (S32, d38)
theorem monoX5_init (S : sk_S) (d : sk_D) (p0 : Nat) : sk_Mo S.1 (fun (z : sk_S × sk_D) => z.1.1) (fX5_init S d p0) := by
  unfold fX5_init
  repeat' (first | exact mo_none | exact mo_some ⟨Nat.le_refl _, Nat.le_refl _⟩ | refine mo_pR (fun _ => ?_) | refine mo_mk (fun _ => ?_) | refine mo_sR24 (fun _ => ?_) | refine mo_sR25 (fun _ => ?_) | refine mo_A ⟨Nat.le_refl _, Nat.le_refl _⟩ (monoX2_init _ _ _) (fun _ => ?_) | refine mo_A (sk_nS_le _ _ _ _) (monoX2_init _ _ _) (fun _ => ?_) | refine mo_ite ?_ ?_ | refine mo_bind (fun _ => ?_) | dsimp only | split)
set_option maxRecDepth 100000 in
set_option maxHeartbeats 4000000 in
theorem sX5_init (C : sk_C) (l : Launch) {S : sk_S} {d : sk_D} {p0 : Nat} {SS : sk_S} {dd : sk_D} (hf : fX5_init S d p0 = some (SS, dd)) : sk_Met C l 3 yX5_init cX5_init 1 none [.ref p0] S d none SS dd := by
  have hmono := mo_use (n := S.1) (pr := (fun (z : sk_S × sk_D) => z.1.1)) hf (monoX5_init S d p0)
  refine sk_Met.of (by decide) (Nat.le_of_ble_eq_true rfl) hmono.1 hmono.2 (fun X K0 hX => ?_)
  have K : sk_Ok X C cX5_init 1 RX5 "<init>" none 3 l none SS dd := K0
  have R1 : X.2.2.2.2.2.2.2.2.2.2.2.1 ≤ S.1.1 ∧ X.2.2.2.2.2.2.2.2.2.2.2.2 ≤ S.1.2 := by rw [hX]; exact ⟨Nat.le_refl _, Nat.le_refl _⟩
  have R2 : S.1.1 ≤ SS.1.1 ∧ S.1.2 ≤ SS.1.2 := hmono
  show sk_G X C 1 S d 0 [(0, .ref p0)] []
  unfold fX5_init at hf
  obtain ⟨⟨S4, d5⟩, e3, hf⟩ := sk_ob hf
  try dsimp only at hf
  have R1_S4 := sk_le_tr (sk_nS_le2 R1) (mo_use (pr := (fun (z : sk_S × sk_D) => z.1.1)) e3 (monoX2_init _ _ _))
  obtain ⟨S7, e8, hf⟩ := sk_ob hf
  have R1_S7 := sk_le_eq R1_S4 (sk_pR_1 e8)
  obtain ⟨d9, e10, hf⟩ := sk_ob hf
  obtain ⟨d11, e12, hf⟩ := sk_ob hf
  obtain ⟨⟨v13, S14, d15⟩, e16, hf⟩ := sk_ob hf
  try dsimp only at hf
  have R1_S14 := sk_le_tr R1_S7 (sk_mk_1 e16)
  obtain ⟨S18, e19, hf⟩ := sk_ob hf
  have R1_S18 := sk_le_eq R1_S14 (sk_pR_1 e19)
  obtain ⟨⟨v20, S21, d22⟩, e23, hf⟩ := sk_ob hf
  try dsimp only at hf
  have R1_S21 := sk_le_tr R1_S18 (sk_mk_1 e23)
  obtain ⟨S25, e26, hf⟩ := sk_ob hf
  have R1_S25 := sk_le_eq R1_S21 (sk_pR_1 e26)
  obtain ⟨⟨v27, S28, d29⟩, e30, hf⟩ := sk_ob hf
  try dsimp only at hf
  have R1_S28 := sk_le_tr R1_S25 (sk_mk_1 e30)
  obtain ⟨S32, e33, hf⟩ := sk_ob hf
  have R1_S32 := sk_le_eq R1_S28 (sk_pR_1 e33)
  obtain ⟨d34, e35, hf⟩ := sk_ob hf
  obtain ⟨d36, e37, hf⟩ := sk_ob hf
  obtain ⟨d38, e39, hf⟩ := sk_ob hf
  have hR40 : (S32, d38) = (SS, dd) := Option.some.inj hf
  have R2_S32 : S32.1.1 ≤ SS.1.1 ∧ S32.1.2 ≤ SS.1.2 := sk_ss_le (show S32 = SS from congrArg (fun z => z.1) hR40)
  have R2_S28 : S28.1.1 ≤ SS.1.1 ∧ S28.1.2 ≤ SS.1.2 := sk_le_tr (sk_eq_le (sk_pR_1 e33)) R2_S32
  have R2_S25 : S25.1.1 ≤ SS.1.1 ∧ S25.1.2 ≤ SS.1.2 := sk_le_tr (sk_mk_1 e30) R2_S28
  have R2_S21 : S21.1.1 ≤ SS.1.1 ∧ S21.1.2 ≤ SS.1.2 := sk_le_tr (sk_eq_le (sk_pR_1 e26)) R2_S25
  have R2_S18 : S18.1.1 ≤ SS.1.1 ∧ S18.1.2 ≤ SS.1.2 := sk_le_tr (sk_mk_1 e23) R2_S21
  have R2_S14 : S14.1.1 ≤ SS.1.1 ∧ S14.1.2 ≤ SS.1.2 := sk_le_tr (sk_eq_le (sk_pR_1 e19)) R2_S18
  have R2_S7 : S7.1.1 ≤ SS.1.1 ∧ S7.1.2 ≤ SS.1.2 := sk_le_tr (sk_mk_1 e16) R2_S14
  have R2_S4 : S4.1.1 ≤ SS.1.1 ∧ S4.1.2 ≤ SS.1.2 := sk_le_tr (sk_eq_le (sk_pR_1 e8)) R2_S7
  have RN1 : S.1.1 + 1 ≤ SS.1.1 ∧ S.1.2 + sk_N 2 ≤ SS.1.2 := sk_le_tr (mo_use (pr := (fun (z : sk_S × sk_D) => z.1.1)) e3 (monoX2_init _ _ _)) R2_S4
  refine sk_aload_n K dX5_init_0 rfl 0 rfl ?_
  refine sk_objInit K dX5_init_1 qw_288 qw_153 qw_154 (by decide) (Nat.le_of_ble_eq_true rfl) ?_
  refine sk_aload_n K dX5_init_4 rfl 0 rfl ?_
  refine sk_new K dX5_init_5 nw_X5_9 R1 RN1 ?_
  refine sk_dup K dX5_init_8 rfl ?_
  refine sk_callI (As := []) (st := [.ref (S.1.1 + 1), .ref p0]) K dX5_init_9 cl_X5_11 rfl (sX2_init C l e3) (by decide) rfl rfl (Nat.le_of_ble_eq_true rfl) (sk_nS_le2 R1) R2_S4 ?_
  refine sk_putRF S7 K dX5_init_12 fl_X5_12 (fun _ _ _ h => by cases h; rfl) rfl rfl rfl rfl e8 ?_
  refine sk_aload_n K dX5_init_15 rfl 0 rfl ?_
  refine sk_iconst (0 : Int32) K dX5_init_16 (by decide) ?_
  refine sk_putI d9 K dX5_init_17 fl_X5_18 rfl rfl rfl e10 ?_
  refine sk_aload_n K dX5_init_20 rfl 0 rfl ?_
  refine sk_iconst (-1 : Int32) K dX5_init_21 (by decide) ?_
  refine sk_putI d11 K dX5_init_22 fl_X5_22 rfl rfl rfl e12 ?_
  refine sk_aload_n K dX5_init_25 rfl 0 rfl ?_
  refine sk_sipush (901 : Int32) K dX5_init_26 (by decide) ?_
  refine sk_newa20 K dX5_init_29 qw_183 e16 R1_S7 R2_S14 ?_
  refine sk_putRF S18 K dX5_init_31 fl_X5_25 (fun _ _ _ h => by cases h; rfl) rfl rfl rfl rfl e19 ?_
  refine sk_aload_n K dX5_init_34 rfl 0 rfl ?_
  refine sk_sipush (901 : Int32) K dX5_init_35 (by decide) ?_
  refine sk_newa20 K dX5_init_38 qw_183 e23 R1_S18 R2_S21 ?_
  refine sk_putRF S25 K dX5_init_40 fl_X5_29 (fun _ _ _ h => by cases h; rfl) rfl rfl rfl rfl e26 ?_
  refine sk_aload_n K dX5_init_43 rfl 0 rfl ?_
  refine sk_sipush (901 : Int32) K dX5_init_44 (by decide) ?_
  refine sk_newa20 K dX5_init_47 qw_183 e30 R1_S25 R2_S28 ?_
  refine sk_putRF S32 K dX5_init_49 fl_X5_32 (fun _ _ _ h => by cases h; rfl) rfl rfl rfl rfl e33 ?_
  refine sk_aload_n K dX5_init_52 rfl 0 rfl ?_
  refine sk_iconst (0 : Int32) K dX5_init_53 (by decide) ?_
  refine sk_putI d34 K dX5_init_54 fl_X5_35 rfl rfl rfl e35 ?_
  refine sk_aload_n K dX5_init_57 rfl 0 rfl ?_
  refine sk_iconst (0 : Int32) K dX5_init_58 (by decide) ?_
  refine sk_putI d36 K dX5_init_59 fl_X5_38 rfl rfl rfl e37 ?_
  refine sk_aload_n K dX5_init_62 rfl 0 rfl ?_
  refine sk_iconst (0 : Int32) K dX5_init_63 (by decide) ?_
  refine sk_putI d38 K dX5_init_64 fl_X5_41 rfl (by decide) (by decide) e39 ?_
  exact sk_vret K dX5_init_67 rfl rfl (congrArg (fun z => z.1) hR40) (congrArg (fun z => z.2) hR40)
noncomputable def fX6_init (S : sk_S) (d : sk_D) (p0 : Nat) : Option (sk_S × sk_D) :=
  (sk_mk S d 21 (40 : Int32)).bind fun b5 => (sk_pR b5.2.1 p0 6 0 b5.1).bind fun S6 => (sk_pI S6 b5.2.2 p0 6 1 (0 : Int32)).bind fun d8 => (sk_pI S6 d8 p0 6 2 (0 : Int32)).bind fun d10 => (sk_pI S6 d10 p0 6 3 (0 : Int32)).bind fun d12 => some (S6, d12)
theorem monoX6_init (S : sk_S) (d : sk_D) (p0 : Nat) : sk_Mo S.1 (fun (z : sk_S × sk_D) => z.1.1) (fX6_init S d p0) := by
  unfold fX6_init
  repeat' (first | exact mo_none | exact mo_some ⟨Nat.le_refl _, Nat.le_refl _⟩ | refine mo_pR (fun _ => ?_) | refine mo_mk (fun _ => ?_) | refine mo_sR24 (fun _ => ?_) | refine mo_sR25 (fun _ => ?_) | refine mo_ite ?_ ?_ | refine mo_bind (fun _ => ?_) | dsimp only | split)
set_option maxRecDepth 100000 in
set_option maxHeartbeats 4000000 in
theorem sX6_init (C : sk_C) (l : Launch) {S : sk_S} {d : sk_D} {p0 : Nat} {SS : sk_S} {dd : sk_D} (hf : fX6_init S d p0 = some (SS, dd)) : sk_Met C l 1 yX6_init cX6_init 1 none [.ref p0] S d none SS dd := by
  have hmono := mo_use (n := S.1) (pr := (fun (z : sk_S × sk_D) => z.1.1)) hf (monoX6_init S d p0)
  refine sk_Met.of (by decide) (Nat.le_of_ble_eq_true rfl) hmono.1 hmono.2 (fun X K0 hX => ?_)
  have K : sk_Ok X C cX6_init 1 RX6 "<init>" none 1 l none SS dd := K0
  have R1 : X.2.2.2.2.2.2.2.2.2.2.2.1 ≤ S.1.1 ∧ X.2.2.2.2.2.2.2.2.2.2.2.2 ≤ S.1.2 := by rw [hX]; exact ⟨Nat.le_refl _, Nat.le_refl _⟩
  have R2 : S.1.1 ≤ SS.1.1 ∧ S.1.2 ≤ SS.1.2 := hmono
  show sk_G X C 1 S d 0 [(0, .ref p0)] []
  unfold fX6_init at hf
  obtain ⟨⟨v1, S2, d3⟩, e4, hf⟩ := sk_ob hf
  try dsimp only at hf
  have R1_S2 := sk_le_tr R1 (sk_mk_1 e4)
  obtain ⟨S6, e7, hf⟩ := sk_ob hf
  have R1_S6 := sk_le_eq R1_S2 (sk_pR_1 e7)
  obtain ⟨d8, e9, hf⟩ := sk_ob hf
  obtain ⟨d10, e11, hf⟩ := sk_ob hf
  obtain ⟨d12, e13, hf⟩ := sk_ob hf
  have hR14 : (S6, d12) = (SS, dd) := Option.some.inj hf
  have R2_S6 : S6.1.1 ≤ SS.1.1 ∧ S6.1.2 ≤ SS.1.2 := sk_ss_le (show S6 = SS from congrArg (fun z => z.1) hR14)
  have R2_S2 : S2.1.1 ≤ SS.1.1 ∧ S2.1.2 ≤ SS.1.2 := sk_le_tr (sk_eq_le (sk_pR_1 e7)) R2_S6
  refine sk_aload_n K dX6_init_0 rfl 0 rfl ?_
  refine sk_objInit K dX6_init_1 qw_404 qw_153 qw_154 (by decide) (Nat.le_of_ble_eq_true rfl) ?_
  refine sk_aload_n K dX6_init_4 rfl 0 rfl ?_
  refine sk_bipush (40 : Int32) K dX6_init_5 (by decide) ?_
  refine sk_newa21 K dX6_init_7 qw_351 e4 R1 R2_S2 ?_
  refine sk_putRF S6 K dX6_init_9 fl_X6_9 (fun _ _ _ h => by cases h; rfl) rfl rfl rfl rfl e7 ?_
  refine sk_aload_n K dX6_init_12 rfl 0 rfl ?_
  refine sk_iconst (0 : Int32) K dX6_init_13 (by decide) ?_
  refine sk_putI d8 K dX6_init_14 fl_X6_13 rfl rfl rfl e9 ?_
  refine sk_aload_n K dX6_init_17 rfl 0 rfl ?_
  refine sk_iconst (0 : Int32) K dX6_init_18 (by decide) ?_
  refine sk_putI d10 K dX6_init_19 fl_X6_17 rfl rfl rfl e11 ?_
  refine sk_aload_n K dX6_init_22 rfl 0 rfl ?_
  refine sk_iconst (0 : Int32) K dX6_init_23 (by decide) ?_
  refine sk_putI d12 K dX6_init_24 fl_X6_20 rfl (by decide) (by decide) e13 ?_
  exact sk_vret K dX6_init_27 rfl rfl (congrArg (fun z => z.1) hR14) (congrArg (fun z => z.2) hR14)
noncomputable def fX8_init (S : sk_S) (d : sk_D) (p0 : Nat) : Option (sk_S × sk_D) :=
  (sk_pI S d p0 7 0 (0 : Int32)).bind fun d1 => (sk_pI S d1 p0 7 1 (-1 : Int32)).bind fun d3 => (sk_pI S d3 p0 7 2 (0 : Int32)).bind fun d5 => (sk_mk S d5 20 (1 : Int32)).bind fun b11 => (sk_pR b11.2.1 p0 7 3 b11.1).bind fun S12 => (sk_mk S12 b11.2.2 20 (1 : Int32)).bind fun b18 => (sk_pR b18.2.1 p0 7 4 b18.1).bind fun S19 => (sk_mk S19 b18.2.2 21 (1 : Int32)).bind fun b25 => (sk_pR b25.2.1 p0 7 5 b25.1).bind fun S26 => (sk_mk S26 b25.2.2 21 (1 : Int32)).bind fun b32 => (sk_pR b32.2.1 p0 7 6 b32.1).bind fun S33 => some (S33, b32.2.2)
theorem monoX8_init (S : sk_S) (d : sk_D) (p0 : Nat) : sk_Mo S.1 (fun (z : sk_S × sk_D) => z.1.1) (fX8_init S d p0) := by
  unfold fX8_init
  repeat' (first | exact mo_none | exact mo_some ⟨Nat.le_refl _, Nat.le_refl _⟩ | refine mo_pR (fun _ => ?_) | refine mo_mk (fun _ => ?_) | refine mo_sR24 (fun _ => ?_) | refine mo_sR25 (fun _ => ?_) | refine mo_ite ?_ ?_ | refine mo_bind (fun _ => ?_) | dsimp only | split)
set_option maxRecDepth 100000 in
set_option maxHeartbeats 4000000 in
theorem sX8_init (C : sk_C) (l : Launch) {S : sk_S} {d : sk_D} {p0 : Nat} {SS : sk_S} {dd : sk_D} (hf : fX8_init S d p0 = some (SS, dd)) : sk_Met C l 1 yX8_init cX8_init 1 none [.ref p0] S d none SS dd := by
  have hmono := mo_use (n := S.1) (pr := (fun (z : sk_S × sk_D) => z.1.1)) hf (monoX8_init S d p0)
  refine sk_Met.of (by decide) (Nat.le_of_ble_eq_true rfl) hmono.1 hmono.2 (fun X K0 hX => ?_)
  have K : sk_Ok X C cX8_init 1 RX8 "<init>" none 1 l none SS dd := K0
  have R1 : X.2.2.2.2.2.2.2.2.2.2.2.1 ≤ S.1.1 ∧ X.2.2.2.2.2.2.2.2.2.2.2.2 ≤ S.1.2 := by rw [hX]; exact ⟨Nat.le_refl _, Nat.le_refl _⟩
  have R2 : S.1.1 ≤ SS.1.1 ∧ S.1.2 ≤ SS.1.2 := hmono
  show sk_G X C 1 S d 0 [(0, .ref p0)] []
  unfold fX8_init at hf
  obtain ⟨d1, e2, hf⟩ := sk_ob hf
  obtain ⟨d3, e4, hf⟩ := sk_ob hf
  obtain ⟨d5, e6, hf⟩ := sk_ob hf
  obtain ⟨⟨v7, S8, d9⟩, e10, hf⟩ := sk_ob hf
  try dsimp only at hf
  have R1_S8 := sk_le_tr R1 (sk_mk_1 e10)
  obtain ⟨S12, e13, hf⟩ := sk_ob hf
  have R1_S12 := sk_le_eq R1_S8 (sk_pR_1 e13)
  obtain ⟨⟨v14, S15, d16⟩, e17, hf⟩ := sk_ob hf
  try dsimp only at hf
  have R1_S15 := sk_le_tr R1_S12 (sk_mk_1 e17)
  obtain ⟨S19, e20, hf⟩ := sk_ob hf
  have R1_S19 := sk_le_eq R1_S15 (sk_pR_1 e20)
  obtain ⟨⟨v21, S22, d23⟩, e24, hf⟩ := sk_ob hf
  try dsimp only at hf
  have R1_S22 := sk_le_tr R1_S19 (sk_mk_1 e24)
  obtain ⟨S26, e27, hf⟩ := sk_ob hf
  have R1_S26 := sk_le_eq R1_S22 (sk_pR_1 e27)
  obtain ⟨⟨v28, S29, d30⟩, e31, hf⟩ := sk_ob hf
  try dsimp only at hf
  have R1_S29 := sk_le_tr R1_S26 (sk_mk_1 e31)
  obtain ⟨S33, e34, hf⟩ := sk_ob hf
  have R1_S33 := sk_le_eq R1_S29 (sk_pR_1 e34)
  have hR35 : (S33, d30) = (SS, dd) := Option.some.inj hf
  have R2_S33 : S33.1.1 ≤ SS.1.1 ∧ S33.1.2 ≤ SS.1.2 := sk_ss_le (show S33 = SS from congrArg (fun z => z.1) hR35)
  have R2_S29 : S29.1.1 ≤ SS.1.1 ∧ S29.1.2 ≤ SS.1.2 := sk_le_tr (sk_eq_le (sk_pR_1 e34)) R2_S33
  have R2_S26 : S26.1.1 ≤ SS.1.1 ∧ S26.1.2 ≤ SS.1.2 := sk_le_tr (sk_mk_1 e31) R2_S29
  have R2_S22 : S22.1.1 ≤ SS.1.1 ∧ S22.1.2 ≤ SS.1.2 := sk_le_tr (sk_eq_le (sk_pR_1 e27)) R2_S26
  have R2_S19 : S19.1.1 ≤ SS.1.1 ∧ S19.1.2 ≤ SS.1.2 := sk_le_tr (sk_mk_1 e24) R2_S22
  have R2_S15 : S15.1.1 ≤ SS.1.1 ∧ S15.1.2 ≤ SS.1.2 := sk_le_tr (sk_eq_le (sk_pR_1 e20)) R2_S19
  have R2_S12 : S12.1.1 ≤ SS.1.1 ∧ S12.1.2 ≤ SS.1.2 := sk_le_tr (sk_mk_1 e17) R2_S15
  have R2_S8 : S8.1.1 ≤ SS.1.1 ∧ S8.1.2 ≤ SS.1.2 := sk_le_tr (sk_eq_le (sk_pR_1 e13)) R2_S12
  refine sk_aload_n K dX8_init_0 rfl 0 rfl ?_
  refine sk_objInit K dX8_init_1 qw_327 qw_153 qw_154 (by decide) (Nat.le_of_ble_eq_true rfl) ?_
  refine sk_aload_n K dX8_init_4 rfl 0 rfl ?_
  refine sk_iconst (0 : Int32) K dX8_init_5 (by decide) ?_
  refine sk_putI d1 K dX8_init_6 fl_X8_9 rfl rfl rfl e2 ?_
  refine sk_aload_n K dX8_init_9 rfl 0 rfl ?_
  refine sk_iconst (-1 : Int32) K dX8_init_10 (by decide) ?_
  refine sk_putI d3 K dX8_init_11 fl_X8_15 rfl rfl rfl e4 ?_
  refine sk_aload_n K dX8_init_14 rfl 0 rfl ?_
  refine sk_iconst (0 : Int32) K dX8_init_15 (by decide) ?_
  refine sk_putI d5 K dX8_init_16 fl_X8_18 rfl rfl rfl e6 ?_
  refine sk_aload_n K dX8_init_19 rfl 0 rfl ?_
  refine sk_iconst (1 : Int32) K dX8_init_20 (by decide) ?_
  refine sk_newa20 K dX8_init_21 qw_183 e10 R1 R2_S8 ?_
  refine sk_putR S12 K dX8_init_23 fl_X8_21 rfl rfl rfl e13 ?_
  refine sk_aload_n K dX8_init_26 rfl 0 rfl ?_
  refine sk_iconst (1 : Int32) K dX8_init_27 (by decide) ?_
  refine sk_newa20 K dX8_init_28 qw_183 e17 R1_S12 R2_S15 ?_
  refine sk_putR S19 K dX8_init_30 fl_X8_25 rfl rfl rfl e20 ?_
  refine sk_aload_n K dX8_init_33 rfl 0 rfl ?_
  refine sk_iconst (1 : Int32) K dX8_init_34 (by decide) ?_
  refine sk_newa21 K dX8_init_35 qw_351 e24 R1_S19 R2_S22 ?_
  refine sk_putR S26 K dX8_init_37 fl_X8_28 rfl rfl rfl e27 ?_
  refine sk_aload_n K dX8_init_40 rfl 0 rfl ?_
  refine sk_iconst (1 : Int32) K dX8_init_41 (by decide) ?_
  refine sk_newa21 K dX8_init_42 qw_351 e31 R1_S26 R2_S29 ?_
  refine sk_putR S33 K dX8_init_44 fl_X8_32 rfl rfl rfl e34 ?_
  exact sk_vret K dX8_init_47 rfl rfl (congrArg (fun z => z.1) hR35) (congrArg (fun z => z.2) hR35)
noncomputable def fX8_fit (S : sk_S) (d : sk_D) (p0 : Nat) (p1 : Int32) : Option (sk_S × sk_D) :=
  (sk_pI S d p0 7 2 (if (0 : Int32) < (if p1 < (8 : Int32) then p1 else (8 : Int32)) then (if p1 < (8 : Int32) then p1 else (8 : Int32)) else (0 : Int32))).bind fun d5 => (sk_gI S d5 p0 7 2).bind fun v7 => (sk_gR S p0 7 4).bind fun v9 => (sk_al S v9 20).bind fun v11 => if ((1 : Int32) <<< (((2 : Int32) * v7) &&& 31)) ≤ v11 then (some (S, d5)) else ((sk_mk S d5 20 ((1 : Int32) <<< (((2 : Int32) * v7) &&& 31))).bind fun b19 => (sk_pR b19.2.1 p0 7 3 b19.1).bind fun S20 => (sk_mk S20 b19.2.2 20 ((1 : Int32) <<< (((2 : Int32) * v7) &&& 31))).bind fun b26 => (sk_pR b26.2.1 p0 7 4 b26.1).bind fun S27 => some (S27, b26.2.2))
theorem monoX8_fit (S : sk_S) (d : sk_D) (p0 : Nat) (p1 : Int32) : sk_Mo S.1 (fun (z : sk_S × sk_D) => z.1.1) (fX8_fit S d p0 p1) := by
  unfold fX8_fit
  repeat' (first | exact mo_none | exact mo_some ⟨Nat.le_refl _, Nat.le_refl _⟩ | refine mo_pR (fun _ => ?_) | refine mo_mk (fun _ => ?_) | refine mo_sR24 (fun _ => ?_) | refine mo_sR25 (fun _ => ?_) | refine mo_ite ?_ ?_ | refine mo_bind (fun _ => ?_) | dsimp only | split)
set_option maxRecDepth 100000 in
set_option maxHeartbeats 4000000 in
theorem sX8_fit (C : sk_C) (l : Launch) {S : sk_S} {d : sk_D} {p0 : Nat} {p1 : Int32} {SS : sk_S} {dd : sk_D} (hf : fX8_fit S d p0 p1 = some (SS, dd)) : sk_Met C l 1 yX8_fit cX8_fit 3 none [.ref p0, .int p1] S d none SS dd := by
  have hmono := mo_use (n := S.1) (pr := (fun (z : sk_S × sk_D) => z.1.1)) hf (monoX8_fit S d p0 p1)
  refine sk_Met.of (by decide) (Nat.le_of_ble_eq_true rfl) hmono.1 hmono.2 (fun X K0 hX => ?_)
  have K : sk_Ok X C cX8_fit 3 RX8 "fit" none 1 l none SS dd := K0
  have R1 : X.2.2.2.2.2.2.2.2.2.2.2.1 ≤ S.1.1 ∧ X.2.2.2.2.2.2.2.2.2.2.2.2 ≤ S.1.2 := by rw [hX]; exact ⟨Nat.le_refl _, Nat.le_refl _⟩
  have R2 : S.1.1 ≤ SS.1.1 ∧ S.1.2 ≤ SS.1.2 := hmono
  show sk_G X C 3 S d 0 [(0, .ref p0), (1, .int p1)] []
  unfold fX8_fit at hf
  refine sk_aload_n K dX8_fit_0 rfl 0 rfl ?_
  refine sk_iconst (0 : Int32) K dX8_fit_1 (by decide) ?_
  refine sk_bipush (8 : Int32) K dX8_fit_2 (by decide) ?_
  refine sk_iload_n K dX8_fit_4 rfl 1 rfl ?_
  refine sk_mmin K dX8_fit_5 qw_972 qw_473 qw_137 qw_474 (by decide) (Nat.le_of_ble_eq_true rfl) R2 ?_
  refine sk_mmax K dX8_fit_8 qw_973 qw_558 qw_137 qw_559 (by decide) (Nat.le_of_ble_eq_true rfl) R2 ?_
  obtain ⟨d5, e6, hf⟩ := sk_ob hf
  refine sk_putI d5 K dX8_fit_11 fl_X8_18 rfl rfl rfl e6 ?_
  refine sk_iconst (1 : Int32) K dX8_fit_14 (by decide) ?_
  refine sk_iconst (2 : Int32) K dX8_fit_15 (by decide) ?_
  refine sk_aload_n K dX8_fit_16 rfl 0 rfl ?_
  obtain ⟨v7, e8, hf⟩ := sk_ob hf
  refine sk_getI K dX8_fit_17 fl_X8_18 rfl e8 ?_
  refine sk_imul K dX8_fit_20 ?_
  refine sk_ishl K dX8_fit_21 ?_
  refine sk_istore_n [(2, .int ((1 : Int32) <<< (((2 : Int32) * v7) &&& 31))), (0, .ref p0), (1, .int p1)] K dX8_fit_22 rfl (by decide) rfl ?_
  refine sk_aload_n K dX8_fit_23 rfl 1 rfl ?_
  obtain ⟨v9, e10, hf⟩ := sk_ob hf
  refine sk_getR K dX8_fit_24 fl_X8_25 rfl e10 ?_
  obtain ⟨v11, e12, hf⟩ := sk_ob hf
  refine sk_al20 K dX8_fit_27 e12 ?_
  refine sk_iload_n K dX8_fit_28 rfl 0 rfl ?_
  refine sk_icmp_ge 46 K dX8_fit_29 (by decide) (fun h13 => ?_) (fun h13 => ?_)
  · rw [if_pos h13] at hf
    have hR14 : (S, d5) = (SS, dd) := Option.some.inj hf
    exact sk_vret K dX8_fit_46 rfl rfl (congrArg (fun z => z.1) hR14) (congrArg (fun z => z.2) hR14)
  · rw [if_neg h13] at hf
    refine sk_aload_n K dX8_fit_32 rfl 1 rfl ?_
    refine sk_iload_n K dX8_fit_33 rfl 0 rfl ?_
    obtain ⟨⟨v15, S16, d17⟩, e18, hf⟩ := sk_ob hf
    try dsimp only at hf
    have R1_S16 := sk_le_tr R1 (sk_mk_1 e18)
    have R2_S16 : S16.1.1 ≤ SS.1.1 ∧ S16.1.2 ≤ SS.1.2 := mo_use (n := S16.1) (pr := (fun (z : sk_S × sk_D) => z.1.1)) hf (by repeat' (first | exact mo_none | exact mo_some ⟨Nat.le_refl _, Nat.le_refl _⟩ | refine mo_pR (fun _ => ?_) | refine mo_mk (fun _ => ?_) | refine mo_sR24 (fun _ => ?_) | refine mo_sR25 (fun _ => ?_) | refine mo_ite ?_ ?_ | refine mo_bind (fun _ => ?_) | dsimp only | split))
    refine sk_newa20 K dX8_fit_34 qw_183 e18 R1 R2_S16 ?_
    obtain ⟨S20, e21, hf⟩ := sk_ob hf
    have R1_S20 := sk_le_eq R1_S16 (sk_pR_1 e21)
    have R2_S20 : S20.1.1 ≤ SS.1.1 ∧ S20.1.2 ≤ SS.1.2 := mo_use (n := S20.1) (pr := (fun (z : sk_S × sk_D) => z.1.1)) hf (by repeat' (first | exact mo_none | exact mo_some ⟨Nat.le_refl _, Nat.le_refl _⟩ | refine mo_pR (fun _ => ?_) | refine mo_mk (fun _ => ?_) | refine mo_sR24 (fun _ => ?_) | refine mo_sR25 (fun _ => ?_) | refine mo_ite ?_ ?_ | refine mo_bind (fun _ => ?_) | dsimp only | split))
    refine sk_putR S20 K dX8_fit_36 fl_X8_21 rfl rfl rfl e21 ?_
    refine sk_aload_n K dX8_fit_39 rfl 1 rfl ?_
    refine sk_iload_n K dX8_fit_40 rfl 0 rfl ?_
    obtain ⟨⟨v22, S23, d24⟩, e25, hf⟩ := sk_ob hf
    try dsimp only at hf
    have R1_S23 := sk_le_tr R1_S20 (sk_mk_1 e25)
    have R2_S23 : S23.1.1 ≤ SS.1.1 ∧ S23.1.2 ≤ SS.1.2 := mo_use (n := S23.1) (pr := (fun (z : sk_S × sk_D) => z.1.1)) hf (by repeat' (first | exact mo_none | exact mo_some ⟨Nat.le_refl _, Nat.le_refl _⟩ | refine mo_pR (fun _ => ?_) | refine mo_mk (fun _ => ?_) | refine mo_sR24 (fun _ => ?_) | refine mo_sR25 (fun _ => ?_) | refine mo_ite ?_ ?_ | refine mo_bind (fun _ => ?_) | dsimp only | split))
    refine sk_newa20 K dX8_fit_41 qw_183 e25 R1_S20 R2_S23 ?_
    obtain ⟨S27, e28, hf⟩ := sk_ob hf
    have R1_S27 := sk_le_eq R1_S23 (sk_pR_1 e28)
    have R2_S27 : S27.1.1 ≤ SS.1.1 ∧ S27.1.2 ≤ SS.1.2 := mo_use (n := S27.1) (pr := (fun (z : sk_S × sk_D) => z.1.1)) hf (by repeat' (first | exact mo_none | exact mo_some ⟨Nat.le_refl _, Nat.le_refl _⟩ | refine mo_pR (fun _ => ?_) | refine mo_mk (fun _ => ?_) | refine mo_sR24 (fun _ => ?_) | refine mo_sR25 (fun _ => ?_) | refine mo_ite ?_ ?_ | refine mo_bind (fun _ => ?_) | dsimp only | split))
    refine sk_putR S27 K dX8_fit_43 fl_X8_25 rfl rfl rfl e28 ?_
    have hR29 : (S27, d24) = (SS, dd) := Option.some.inj hf
    exact sk_vret K dX8_fit_46 rfl rfl (congrArg (fun z => z.1) hR29) (congrArg (fun z => z.2) hR29)
noncomputable def fX8_fitWays (S : sk_S) (d : sk_D) (p0 : Nat) : Option (sk_S × sk_D) :=
  (sk_gR S p0 7 5).bind fun v1 => (sk_al S v1 21).bind fun v3 => (sk_gR S p0 7 4).bind fun v5 => (sk_al S v5 20).bind fun v7 => if v7 ≤ v3 then (some (S, d)) else ((sk_gR S p0 7 4).bind fun v11 => (sk_al S v11 20).bind fun v13 => (sk_mk S d 21 v13).bind fun b19 => (sk_pR b19.2.1 p0 7 5 b19.1).bind fun S20 => (sk_gR S20 p0 7 4).bind fun v22 => (sk_al S20 v22 20).bind fun v24 => (sk_mk S20 b19.2.2 21 v24).bind fun b30 => (sk_pR b30.2.1 p0 7 6 b30.1).bind fun S31 => some (S31, b30.2.2))
theorem monoX8_fitWays (S : sk_S) (d : sk_D) (p0 : Nat) : sk_Mo S.1 (fun (z : sk_S × sk_D) => z.1.1) (fX8_fitWays S d p0) := by
  unfold fX8_fitWays
  repeat' (first | exact mo_none | exact mo_some ⟨Nat.le_refl _, Nat.le_refl _⟩ | refine mo_pR (fun _ => ?_) | refine mo_mk (fun _ => ?_) | refine mo_sR24 (fun _ => ?_) | refine mo_sR25 (fun _ => ?_) | refine mo_ite ?_ ?_ | refine mo_bind (fun _ => ?_) | dsimp only | split)
set_option maxRecDepth 100000 in
set_option maxHeartbeats 4000000 in
theorem sX8_fitWays (C : sk_C) (l : Launch) {S : sk_S} {d : sk_D} {p0 : Nat} {SS : sk_S} {dd : sk_D} (hf : fX8_fitWays S d p0 = some (SS, dd)) : sk_Met C l 0 yX8_fitWays cX8_fitWays 1 none [.ref p0] S d none SS dd := by
  have hmono := mo_use (n := S.1) (pr := (fun (z : sk_S × sk_D) => z.1.1)) hf (monoX8_fitWays S d p0)
  refine sk_Met.of (by decide) (Nat.le_of_ble_eq_true rfl) hmono.1 hmono.2 (fun X K0 hX => ?_)
  have K : sk_Ok X C cX8_fitWays 1 RX8 "fitWays" none 0 l none SS dd := K0
  have R1 : X.2.2.2.2.2.2.2.2.2.2.2.1 ≤ S.1.1 ∧ X.2.2.2.2.2.2.2.2.2.2.2.2 ≤ S.1.2 := by rw [hX]; exact ⟨Nat.le_refl _, Nat.le_refl _⟩
  have R2 : S.1.1 ≤ SS.1.1 ∧ S.1.2 ≤ SS.1.2 := hmono
  show sk_G X C 1 S d 0 [(0, .ref p0)] []
  unfold fX8_fitWays at hf
  refine sk_aload_n K dX8_fitWays_0 rfl 0 rfl ?_
  obtain ⟨v1, e2, hf⟩ := sk_ob hf
  refine sk_getR K dX8_fitWays_1 fl_X8_28 rfl e2 ?_
  obtain ⟨v3, e4, hf⟩ := sk_ob hf
  refine sk_al21 K dX8_fitWays_4 e4 ?_
  refine sk_aload_n K dX8_fitWays_5 rfl 0 rfl ?_
  obtain ⟨v5, e6, hf⟩ := sk_ob hf
  refine sk_getR K dX8_fitWays_6 fl_X8_25 rfl e6 ?_
  obtain ⟨v7, e8, hf⟩ := sk_ob hf
  refine sk_al20 K dX8_fitWays_9 e8 ?_
  refine sk_icmp_ge 35 K dX8_fitWays_10 (by decide) (fun h9 => ?_) (fun h9 => ?_)
  · rw [if_pos h9] at hf
    have hR10 : (S, d) = (SS, dd) := Option.some.inj hf
    exact sk_vret K dX8_fitWays_35 rfl rfl (congrArg (fun z => z.1) hR10) (congrArg (fun z => z.2) hR10)
  · rw [if_neg h9] at hf
    refine sk_aload_n K dX8_fitWays_13 rfl 0 rfl ?_
    refine sk_aload_n K dX8_fitWays_14 rfl 0 rfl ?_
    obtain ⟨v11, e12, hf⟩ := sk_ob hf
    refine sk_getR K dX8_fitWays_15 fl_X8_25 rfl e12 ?_
    obtain ⟨v13, e14, hf⟩ := sk_ob hf
    refine sk_al20 K dX8_fitWays_18 e14 ?_
    obtain ⟨⟨v15, S16, d17⟩, e18, hf⟩ := sk_ob hf
    try dsimp only at hf
    have R1_S16 := sk_le_tr R1 (sk_mk_1 e18)
    have R2_S16 : S16.1.1 ≤ SS.1.1 ∧ S16.1.2 ≤ SS.1.2 := mo_use (n := S16.1) (pr := (fun (z : sk_S × sk_D) => z.1.1)) hf (by repeat' (first | exact mo_none | exact mo_some ⟨Nat.le_refl _, Nat.le_refl _⟩ | refine mo_pR (fun _ => ?_) | refine mo_mk (fun _ => ?_) | refine mo_sR24 (fun _ => ?_) | refine mo_sR25 (fun _ => ?_) | refine mo_ite ?_ ?_ | refine mo_bind (fun _ => ?_) | dsimp only | split))
    refine sk_newa21 K dX8_fitWays_19 qw_351 e18 R1 R2_S16 ?_
    obtain ⟨S20, e21, hf⟩ := sk_ob hf
    have R1_S20 := sk_le_eq R1_S16 (sk_pR_1 e21)
    have R2_S20 : S20.1.1 ≤ SS.1.1 ∧ S20.1.2 ≤ SS.1.2 := mo_use (n := S20.1) (pr := (fun (z : sk_S × sk_D) => z.1.1)) hf (by repeat' (first | exact mo_none | exact mo_some ⟨Nat.le_refl _, Nat.le_refl _⟩ | refine mo_pR (fun _ => ?_) | refine mo_mk (fun _ => ?_) | refine mo_sR24 (fun _ => ?_) | refine mo_sR25 (fun _ => ?_) | refine mo_ite ?_ ?_ | refine mo_bind (fun _ => ?_) | dsimp only | split))
    refine sk_putR S20 K dX8_fitWays_21 fl_X8_28 rfl rfl rfl e21 ?_
    refine sk_aload_n K dX8_fitWays_24 rfl 0 rfl ?_
    refine sk_aload_n K dX8_fitWays_25 rfl 0 rfl ?_
    obtain ⟨v22, e23, hf⟩ := sk_ob hf
    refine sk_getR K dX8_fitWays_26 fl_X8_25 rfl e23 ?_
    obtain ⟨v24, e25, hf⟩ := sk_ob hf
    refine sk_al20 K dX8_fitWays_29 e25 ?_
    obtain ⟨⟨v26, S27, d28⟩, e29, hf⟩ := sk_ob hf
    try dsimp only at hf
    have R1_S27 := sk_le_tr R1_S20 (sk_mk_1 e29)
    have R2_S27 : S27.1.1 ≤ SS.1.1 ∧ S27.1.2 ≤ SS.1.2 := mo_use (n := S27.1) (pr := (fun (z : sk_S × sk_D) => z.1.1)) hf (by repeat' (first | exact mo_none | exact mo_some ⟨Nat.le_refl _, Nat.le_refl _⟩ | refine mo_pR (fun _ => ?_) | refine mo_mk (fun _ => ?_) | refine mo_sR24 (fun _ => ?_) | refine mo_sR25 (fun _ => ?_) | refine mo_ite ?_ ?_ | refine mo_bind (fun _ => ?_) | dsimp only | split))
    refine sk_newa21 K dX8_fitWays_30 qw_351 e29 R1_S20 R2_S27 ?_
    obtain ⟨S31, e32, hf⟩ := sk_ob hf
    have R1_S31 := sk_le_eq R1_S27 (sk_pR_1 e32)
    have R2_S31 : S31.1.1 ≤ SS.1.1 ∧ S31.1.2 ≤ SS.1.2 := mo_use (n := S31.1) (pr := (fun (z : sk_S × sk_D) => z.1.1)) hf (by repeat' (first | exact mo_none | exact mo_some ⟨Nat.le_refl _, Nat.le_refl _⟩ | refine mo_pR (fun _ => ?_) | refine mo_mk (fun _ => ?_) | refine mo_sR24 (fun _ => ?_) | refine mo_sR25 (fun _ => ?_) | refine mo_ite ?_ ?_ | refine mo_bind (fun _ => ?_) | dsimp only | split))
    refine sk_putR S31 K dX8_fitWays_32 fl_X8_32 rfl rfl rfl e32 ?_
    have hR33 : (S31, d28) = (SS, dd) := Option.some.inj hf
    exact sk_vret K dX8_fitWays_35 rfl rfl (congrArg (fun z => z.1) hR33) (congrArg (fun z => z.2) hR33)
noncomputable def fX8_spread_L101 (p0 : Nat) (p1 : Nat) (S14 : sk_S) (v36 : Int32) (s3 : Int32 × sk_D) : Option ((Int32 × sk_D) ⊕ (sk_D)) :=
  (sk_gI S14 s3.2 p0 7 2).bind fun v38 => if v38 ≤ s3.1 then (some (.inr s3.2)) else (if S14.2.1 p1 = (8, 0) then ((fX9_tryDrop S14 s3.2 p1 v36 s3.1).bind fun v41 => if S14.2.1 p0 = (7, 0) then ((fX8_reach S14 s3.2 p0 v41 v36 ((10 : Int32) + s3.1)).bind fun d46 => some (.inl (s3.1 + 1, d46))) else none) else none)
noncomputable def fX8_spread_L67 (p0 : Nat) (p1 : Nat) (S14 : sk_S) (v36 : Int32) (s2 : Int32 × sk_D) : Option ((Int32 × sk_D) ⊕ (sk_D)) :=
  (sk_gI S14 s2.2 p0 7 2).bind fun v48 => if v48 ≤ s2.1 then (some (.inr s2.2)) else (if S14.2.1 p1 = (8, 0) then ((fX9_tryDo S14 s2.2 p1 v36 s2.1).bind fun b55 => if S14.2.1 p0 = (7, 0) then ((fX8_reach S14 b55.2 p0 b55.1 v36 s2.1).bind fun d58 => some (.inl (s2.1 + 1, d58))) else none) else none)
noncomputable def fX8_spread_L39 (p0 : Nat) (p1 : Nat) (S14 : sk_S) (s1 : Int32 × sk_D) : Option ((Int32 × sk_D) ⊕ (sk_S × sk_D)) :=
  (sk_gI S14 s1.2 p0 7 0).bind fun v24 => if v24 ≤ s1.1 then (some (.inr (S14, s1.2))) else ((sk_gR S14 p0 7 3).bind fun v28 => (sk_al S14 v28 20).bind fun v30 => if v30 ≤ s1.1 then (some (.inr (S14, s1.2))) else ((sk_gR S14 p0 7 3).bind fun v34 => (sk_lI S14 s1.2 v34 20 s1.1).bind fun v36 => (sk_itr (fX8_spread_L67 p0 p1 S14 v36) ((0 : Int32), s1.2)).bind fun y2 => (sk_itr (fX8_spread_L101 p0 p1 S14 v36) ((0 : Int32), y2)).bind fun y3 => some (.inl (s1.1 + 1, y3))))
theorem mono_fX8_spread_L39 (p0 : Nat) (p1 : Nat) (S14 : sk_S) : ∀ z, sk_Mo S14.1 (Sum.elim (fun _ => S14.1) (fun (z : sk_S × sk_D) => z.1.1)) (fX8_spread_L39 p0 p1 S14 z) := by
  intro z
  unfold fX8_spread_L39
  repeat' (first | exact mo_none | exact mo_some ⟨Nat.le_refl _, Nat.le_refl _⟩ | refine mo_pR (fun _ => ?_) | refine mo_mk (fun _ => ?_) | refine mo_sR24 (fun _ => ?_) | refine mo_sR25 (fun _ => ?_) | refine mo_A ⟨Nat.le_refl _, Nat.le_refl _⟩ (monoX8_fit _ _ _ _) (fun _ => ?_) | refine mo_A (sk_nS_le _ _ _ _) (monoX8_fit _ _ _ _) (fun _ => ?_) | refine mo_bindQ (q := (fun (z : sk_S × sk_D) => z.1.1)) (mo_itrC (mono_fX8_spread_L39 _ _ _) _) (fun _ => ?_) | refine mo_ite ?_ ?_ | refine mo_bind (fun _ => ?_) | dsimp only | split)
noncomputable def fX8_spread (S : sk_S) (d : sk_D) (p0 : Nat) (p1 : Nat) (p2 : Int32) : Option (sk_S × sk_D) :=
  (sk_gI S d p0 7 1).bind fun v1 => if p2 = v1 then (some (S, d)) else (if S.2.1 p0 = (7, 0) then ((fX8_forget S d p0).bind fun d6 => (sk_gR S p1 8 0).bind fun v8 => (sk_gI S d6 v8 2 1).bind fun v10 => if S.2.1 p0 = (7, 0) then ((fX8_fit S d6 p0 v10).bind fun b17 => (sk_pI b17.1 b17.2 p0 7 1 p2).bind fun d18 => if b17.1.2.1 p0 = (7, 0) then ((fX8_reach b17.1 d18 p0 p2 (0 : Int32) (31 : Int32)).bind fun d22 => (sk_itr (fX8_spread_L39 p0 p1 b17.1) ((0 : Int32), d22)).bind fun x1 => some x1) else none) else none) else none)
theorem monoX8_spread (S : sk_S) (d : sk_D) (p0 : Nat) (p1 : Nat) (p2 : Int32) : sk_Mo S.1 (fun (z : sk_S × sk_D) => z.1.1) (fX8_spread S d p0 p1 p2) := by
  unfold fX8_spread
  repeat' (first | exact mo_none | exact mo_some ⟨Nat.le_refl _, Nat.le_refl _⟩ | refine mo_pR (fun _ => ?_) | refine mo_mk (fun _ => ?_) | refine mo_sR24 (fun _ => ?_) | refine mo_sR25 (fun _ => ?_) | refine mo_A ⟨Nat.le_refl _, Nat.le_refl _⟩ (monoX8_fit _ _ _ _) (fun _ => ?_) | refine mo_A (sk_nS_le _ _ _ _) (monoX8_fit _ _ _ _) (fun _ => ?_) | refine mo_bindQ (q := (fun (z : sk_S × sk_D) => z.1.1)) (mo_itrC (mono_fX8_spread_L39 _ _ _) _) (fun _ => ?_) | refine mo_ite ?_ ?_ | refine mo_bind (fun _ => ?_) | dsimp only | split)
set_option maxRecDepth 100000 in
set_option maxHeartbeats 4000000 in
theorem sX8_spread (C : sk_C) (l : Launch) {S : sk_S} {d : sk_D} {p0 : Nat} {p1 : Nat} {p2 : Int32} {SS : sk_S} {dd : sk_D} (hf : fX8_spread S d p0 p1 p2 = some (SS, dd)) : sk_Met C l 4 yX8_spread cX8_spread 6 none [.ref p0, .ref p1, .int p2] S d none SS dd := by
  have hmono := mo_use (n := S.1) (pr := (fun (z : sk_S × sk_D) => z.1.1)) hf (monoX8_spread S d p0 p1 p2)
  refine sk_Met.of (by decide) (Nat.le_of_ble_eq_true rfl) hmono.1 hmono.2 (fun X K0 hX => ?_)
  have K : sk_Ok X C cX8_spread 6 RX8 "spread" none 4 l none SS dd := K0
  have R1 : X.2.2.2.2.2.2.2.2.2.2.2.1 ≤ S.1.1 ∧ X.2.2.2.2.2.2.2.2.2.2.2.2 ≤ S.1.2 := by rw [hX]; exact ⟨Nat.le_refl _, Nat.le_refl _⟩
  have R2 : S.1.1 ≤ SS.1.1 ∧ S.1.2 ≤ SS.1.2 := hmono
  show sk_G X C 6 S d 0 [(0, .ref p0), (1, .ref p1), (2, .int p2)] []
  unfold fX8_spread at hf
  refine sk_iload_n K dX8_spread_0 rfl 2 rfl ?_
  refine sk_aload_n K dX8_spread_1 rfl 0 rfl ?_
  obtain ⟨v1, e2, hf⟩ := sk_ob hf
  refine sk_getI K dX8_spread_2 fl_X8_15 rfl e2 ?_
  refine sk_icmp_ne 9 K dX8_spread_5 (by decide) (fun h3 => ?_) (fun h3 => ?_)
  · rw [if_neg h3] at hf
    refine sk_aload_n K dX8_spread_9 rfl 0 rfl ?_
    obtain ⟨h7, hf⟩ := sk_ib hf
    obtain ⟨d6, e5, hf⟩ := sk_ob hf
    refine sk_callV (As := []) (st := []) K dX8_spread_10 cl_X8_54 h7 (sX8_forget C l e5) (by decide) rfl rfl (Nat.le_of_ble_eq_true rfl) R1 R2 ?_
    refine sk_aload_n K dX8_spread_13 rfl 0 rfl ?_
    refine sk_aload_n K dX8_spread_14 rfl 1 rfl ?_
    obtain ⟨v8, e9, hf⟩ := sk_ob hf
    refine sk_getR K dX8_spread_15 fl_X8_57 rfl e9 ?_
    obtain ⟨v10, e11, hf⟩ := sk_ob hf
    refine sk_getI K dX8_spread_18 fl_X8_63 rfl e11 ?_
    obtain ⟨h16, hf⟩ := sk_ib hf
    obtain ⟨⟨S14, d15⟩, e13, hf⟩ := sk_ob hf
    try dsimp only at hf
    have R1_S14 := sk_le_tr R1 (mo_use (pr := (fun (z : sk_S × sk_D) => z.1.1)) e13 (monoX8_fit _ _ _ _))
    have R2_S14 : S14.1.1 ≤ SS.1.1 ∧ S14.1.2 ≤ SS.1.2 := mo_use (n := S14.1) (pr := (fun (z : sk_S × sk_D) => z.1.1)) hf (by repeat' (first | exact mo_none | exact mo_some ⟨Nat.le_refl _, Nat.le_refl _⟩ | refine mo_pR (fun _ => ?_) | refine mo_mk (fun _ => ?_) | refine mo_sR24 (fun _ => ?_) | refine mo_sR25 (fun _ => ?_) | refine mo_A ⟨Nat.le_refl _, Nat.le_refl _⟩ (monoX8_fit _ _ _ _) (fun _ => ?_) | refine mo_A (sk_nS_le _ _ _ _) (monoX8_fit _ _ _ _) (fun _ => ?_) | refine mo_bindQ (q := (fun (z : sk_S × sk_D) => z.1.1)) (mo_itrC (mono_fX8_spread_L39 _ _ _) _) (fun _ => ?_) | refine mo_ite ?_ ?_ | refine mo_bind (fun _ => ?_) | dsimp only | split))
    refine sk_callV (As := [.int v10]) (st := []) K dX8_spread_21 cl_X8_66 h16 (sX8_fit C l e13) (by decide) rfl rfl (Nat.le_of_ble_eq_true rfl) R1 R2_S14 ?_
    refine sk_aload_n K dX8_spread_24 rfl 0 rfl ?_
    refine sk_iload_n K dX8_spread_25 rfl 2 rfl ?_
    obtain ⟨d18, e19, hf⟩ := sk_ob hf
    refine sk_putI d18 K dX8_spread_26 fl_X8_15 rfl rfl rfl e19 ?_
    refine sk_aload_n K dX8_spread_29 rfl 0 rfl ?_
    refine sk_iload_n K dX8_spread_30 rfl 2 rfl ?_
    refine sk_iconst (0 : Int32) K dX8_spread_31 (by decide) ?_
    refine sk_bipush (31 : Int32) K dX8_spread_32 (by decide) ?_
    obtain ⟨h23, hf⟩ := sk_ib hf
    obtain ⟨d22, e21, hf⟩ := sk_ob hf
    refine sk_callV (As := [.int p2, .int (0 : Int32), .int (31 : Int32)]) (st := []) K dX8_spread_34 cl_X8_70 h23 (sX8_reach C l e21) (by decide) rfl rfl (Nat.le_of_ble_eq_true rfl) R1_S14 R2_S14 ?_
    refine sk_iconst (0 : Int32) K dX8_spread_37 (by decide) ?_
    refine sk_istore_n [(3, .int (0 : Int32)), (0, .ref p0), (1, .ref p1), (2, .int p2)] K dX8_spread_38 rfl (by decide) rfl ?_
    obtain ⟨x1, he1, hf⟩ := sk_ob hf
    have hret1 : ∀ r, r = x1 → r = (SS, dd) := by
      intro r hr
      subst hr
      exact Option.some.inj hf
    refine sk_sub [(0, .ref p0), (1, .ref p1), (3, .int (0 : Int32))] [1, 2, 0] rfl ?_
    refine sk_loop (fun s1 => sk_G X C 6 S14 s1.2 39 [(0, .ref p0), (1, .ref p1), (3, .int s1.1)] []) he1 (fun s1 o1 hf ih1 hx1 => ?_)
    unfold fX8_spread_L39 at hf
    refine sk_iload_n K dX8_spread_39 rfl 2 rfl ?_
    refine sk_aload_n K dX8_spread_40 rfl 0 rfl ?_
    obtain ⟨v24, e25, hf⟩ := sk_ob hf
    refine sk_getI K dX8_spread_41 fl_X8_9 rfl e25 ?_
    refine sk_icmp_ge 141 K dX8_spread_44 (by decide) (fun h26 => ?_) (fun h26 => ?_)
    · rw [if_pos h26] at hf
      have hR27 : (S14, s1.2) = (SS, dd) := hret1 _ (hx1 _ (Option.some.inj hf).symm)
      exact sk_vret K dX8_spread_141 rfl rfl (congrArg (fun z => z.1) hR27) (congrArg (fun z => z.2) hR27)
    · rw [if_neg h26] at hf
      refine sk_iload_n K dX8_spread_47 rfl 2 rfl ?_
      refine sk_aload_n K dX8_spread_48 rfl 0 rfl ?_
      obtain ⟨v28, e29, hf⟩ := sk_ob hf
      refine sk_getR K dX8_spread_49 fl_X8_21 rfl e29 ?_
      obtain ⟨v30, e31, hf⟩ := sk_ob hf
      refine sk_al20 K dX8_spread_52 e31 ?_
      refine sk_icmp_ge 141 K dX8_spread_53 (by decide) (fun h32 => ?_) (fun h32 => ?_)
      · rw [if_pos h32] at hf
        have hR33 : (S14, s1.2) = (SS, dd) := hret1 _ (hx1 _ (Option.some.inj hf).symm)
        exact sk_vret K dX8_spread_141 rfl rfl (congrArg (fun z => z.1) hR33) (congrArg (fun z => z.2) hR33)
      · rw [if_neg h32] at hf
        refine sk_aload_n K dX8_spread_56 rfl 0 rfl ?_
        obtain ⟨v34, e35, hf⟩ := sk_ob hf
        refine sk_getR K dX8_spread_57 fl_X8_21 rfl e35 ?_
        refine sk_iload_n K dX8_spread_60 rfl 2 rfl ?_
        obtain ⟨v36, e37, hf⟩ := sk_ob hf
        refine sk_ald20 K dX8_spread_61 e37 ?_
        refine sk_istore [(4, .int v36), (0, .ref p0), (1, .ref p1), (3, .int s1.1)] K dX8_spread_62 (by decide) rfl ?_
        refine sk_iconst (0 : Int32) K dX8_spread_64 (by decide) ?_
        refine sk_istore [(5, .int (0 : Int32)), (4, .int v36), (0, .ref p0), (1, .ref p1), (3, .int s1.1)] K dX8_spread_65 (by decide) rfl ?_
        obtain ⟨x2, he2, hf⟩ := sk_ob hf
        have rest2 : ∀ y2, y2 = x2 → sk_G X C 6 S14 y2 98 [(0, .ref p0), (1, .ref p1), (3, .int s1.1), (4, .int v36)] [] := by
          intro y2 hy
          subst hy
          refine sk_iconst (0 : Int32) K dX8_spread_98 (by decide) ?_
          refine sk_istore [(5, .int (0 : Int32)), (0, .ref p0), (1, .ref p1), (3, .int s1.1), (4, .int v36)] K dX8_spread_99 (by decide) rfl ?_
          obtain ⟨x3, he3, hf⟩ := sk_ob hf
          have rest3 : ∀ y3, y3 = x3 → sk_G X C 6 S14 y3 135 [(0, .ref p0), (1, .ref p1), (3, .int s1.1)] [] := by
            intro y3 hy
            subst hy
            refine sk_iinc (s1.1 + 1) [(3, .int (s1.1 + 1)), (0, .ref p0), (1, .ref p1)] K dX8_spread_135 2 rfl rfl (by decide) rfl ?_
            refine sk_goto 39 K dX8_spread_138 (by decide) ?_
            refine sk_sub [(0, .ref p0), (1, .ref p1), (3, .int (s1.1 + 1))] [1, 2, 0] rfl ?_
            have h9 := ih1 _ (Option.some.inj hf).symm
            exact h9
          refine sk_sub [(0, .ref p0), (1, .ref p1), (3, .int s1.1), (4, .int v36), (5, .int (0 : Int32))] [1, 2, 3, 4, 0] rfl ?_
          refine sk_loop (fun s3 => sk_G X C 6 S14 s3.2 101 [(0, .ref p0), (1, .ref p1), (3, .int s1.1), (4, .int v36), (5, .int s3.1)] []) he3 (fun s3 o3 hf ih3 hx3 => ?_)
          unfold fX8_spread_L101 at hf
          refine sk_iload K dX8_spread_101 4 rfl ?_
          refine sk_aload_n K dX8_spread_103 rfl 0 rfl ?_
          obtain ⟨v38, e39, hf⟩ := sk_ob hf
          refine sk_getI K dX8_spread_104 fl_X8_18 rfl e39 ?_
          refine sk_icmp_ge 135 K dX8_spread_107 (by decide) (fun h40 => ?_) (fun h40 => ?_)
          · rw [if_pos h40] at hf
            refine sk_sub [(0, .ref p0), (1, .ref p1), (3, .int s1.1)] [0, 1, 2] rfl ?_
            have h9 := rest3 _ (hx3 _ (Option.some.inj hf).symm)
            exact h9
          · rw [if_neg h40] at hf
            refine sk_aload_n K dX8_spread_110 rfl 0 rfl ?_
            refine sk_aload_n K dX8_spread_111 rfl 1 rfl ?_
            refine sk_iload K dX8_spread_112 3 rfl ?_
            refine sk_iload K dX8_spread_114 4 rfl ?_
            obtain ⟨h43, hf⟩ := sk_ib hf
            obtain ⟨v41, e42, hf⟩ := sk_ob hf
            refine sk_callV (As := [.int v36, .int s3.1]) (st := [.ref p0]) K dX8_spread_116 cl_X8_77 h43 (sX9_tryDrop C l e42) (by decide) rfl rfl (Nat.le_of_ble_eq_true rfl) R1_S14 R2_S14 ?_
            refine sk_iload K dX8_spread_119 3 rfl ?_
            refine sk_bipush (10 : Int32) K dX8_spread_121 (by decide) ?_
            refine sk_iload K dX8_spread_123 4 rfl ?_
            refine sk_iadd K dX8_spread_125 ?_
            obtain ⟨h47, hf⟩ := sk_ib hf
            obtain ⟨d46, e45, hf⟩ := sk_ob hf
            refine sk_callV (As := [.int v41, .int v36, .int ((10 : Int32) + s3.1)]) (st := []) K dX8_spread_126 cl_X8_70 h47 (sX8_reach C l e45) (by decide) rfl rfl (Nat.le_of_ble_eq_true rfl) R1_S14 R2_S14 ?_
            refine sk_iinc (s3.1 + 1) [(5, .int (s3.1 + 1)), (0, .ref p0), (1, .ref p1), (3, .int s1.1), (4, .int v36)] K dX8_spread_129 4 rfl rfl (by decide) rfl ?_
            refine sk_goto 101 K dX8_spread_132 (by decide) ?_
            refine sk_sub [(0, .ref p0), (1, .ref p1), (3, .int s1.1), (4, .int v36), (5, .int (s3.1 + 1))] [1, 2, 3, 4, 0] rfl ?_
            have h9 := ih3 _ (Option.some.inj hf).symm
            exact h9
        refine sk_sub [(0, .ref p0), (1, .ref p1), (3, .int s1.1), (4, .int v36), (5, .int (0 : Int32))] [2, 3, 4, 1, 0] rfl ?_
        refine sk_loop (fun s2 => sk_G X C 6 S14 s2.2 67 [(0, .ref p0), (1, .ref p1), (3, .int s1.1), (4, .int v36), (5, .int s2.1)] []) he2 (fun s2 o2 hf ih2 hx2 => ?_)
        unfold fX8_spread_L67 at hf
        refine sk_iload K dX8_spread_67 4 rfl ?_
        refine sk_aload_n K dX8_spread_69 rfl 0 rfl ?_
        obtain ⟨v48, e49, hf⟩ := sk_ob hf
        refine sk_getI K dX8_spread_70 fl_X8_18 rfl e49 ?_
        refine sk_icmp_ge 98 K dX8_spread_73 (by decide) (fun h50 => ?_) (fun h50 => ?_)
        · rw [if_pos h50] at hf
          refine sk_sub [(0, .ref p0), (1, .ref p1), (3, .int s1.1), (4, .int v36)] [0, 1, 2, 3] rfl ?_
          have h9 := rest2 _ (hx2 _ (Option.some.inj hf).symm)
          exact h9
        · rw [if_neg h50] at hf
          refine sk_aload_n K dX8_spread_76 rfl 0 rfl ?_
          refine sk_aload_n K dX8_spread_77 rfl 1 rfl ?_
          refine sk_iload K dX8_spread_78 3 rfl ?_
          refine sk_iload K dX8_spread_80 4 rfl ?_
          obtain ⟨h54, hf⟩ := sk_ib hf
          obtain ⟨⟨v51, d53⟩, e52, hf⟩ := sk_ob hf
          try dsimp only at hf
          refine sk_callV (As := [.int v36, .int s2.1]) (st := [.ref p0]) K dX8_spread_82 cl_X8_74 h54 (sX9_tryDo C l e52) (by decide) rfl rfl (Nat.le_of_ble_eq_true rfl) R1_S14 R2_S14 ?_
          refine sk_iload K dX8_spread_85 3 rfl ?_
          refine sk_iload K dX8_spread_87 4 rfl ?_
          obtain ⟨h59, hf⟩ := sk_ib hf
          obtain ⟨d58, e57, hf⟩ := sk_ob hf
          refine sk_callV (As := [.int v51, .int v36, .int s2.1]) (st := []) K dX8_spread_89 cl_X8_70 h59 (sX8_reach C l e57) (by decide) rfl rfl (Nat.le_of_ble_eq_true rfl) R1_S14 R2_S14 ?_
          refine sk_iinc (s2.1 + 1) [(5, .int (s2.1 + 1)), (0, .ref p0), (1, .ref p1), (3, .int s1.1), (4, .int v36)] K dX8_spread_92 4 rfl rfl (by decide) rfl ?_
          refine sk_goto 67 K dX8_spread_95 (by decide) ?_
          refine sk_sub [(0, .ref p0), (1, .ref p1), (3, .int s1.1), (4, .int v36), (5, .int (s2.1 + 1))] [1, 2, 3, 4, 0] rfl ?_
          have h9 := ih2 _ (Option.some.inj hf).symm
          exact h9
  · rw [if_pos h3] at hf
    have hR60 : (S, d) = (SS, dd) := Option.some.inj hf
    exact sk_vret K dX8_spread_8 rfl rfl (congrArg (fun z => z.1) hR60) (congrArg (fun z => z.2) hR60)
noncomputable def fX8_toDone_L9 (p0 : Nat) (p3 : Int32) (S3 : sk_S) (d4 : sk_D) (s1 : Int32) : Option ((Int32) ⊕ (Int32 × sk_S × sk_D)) :=
  (sk_gI S3 d4 p0 7 0).bind fun v7 => if v7 ≤ s1 then (some (.inr ((-1 : Int32), S3, d4))) else ((sk_gR S3 p0 7 3).bind fun v11 => (sk_al S3 v11 20).bind fun v13 => if v13 ≤ s1 then (some (.inr ((-1 : Int32), S3, d4))) else ((sk_gR S3 p0 7 3).bind fun v17 => (sk_lI S3 d4 v17 20 s1).bind fun v19 => (fX10_doneIn S3 d4 v19).bind fun v21 => if (p3 &&& (v21 ^^^ (-1 : Int32))) = 0 then ((sk_gR S3 p0 7 3).bind fun v24 => (sk_lI S3 d4 v24 20 s1).bind fun v26 => some (.inr (v26, S3, d4))) else (some (.inl (s1 + 1)))))
theorem mono_fX8_toDone_L9 (p0 : Nat) (p3 : Int32) (S3 : sk_S) (d4 : sk_D) : ∀ z, sk_Mo S3.1 (Sum.elim (fun _ => S3.1) (fun (z : Int32 × sk_S × sk_D) => z.2.1.1)) (fX8_toDone_L9 p0 p3 S3 d4 z) := by
  intro z
  unfold fX8_toDone_L9
  repeat' (first | exact mo_none | exact mo_some ⟨Nat.le_refl _, Nat.le_refl _⟩ | refine mo_pR (fun _ => ?_) | refine mo_mk (fun _ => ?_) | refine mo_sR24 (fun _ => ?_) | refine mo_sR25 (fun _ => ?_) | refine mo_A ⟨Nat.le_refl _, Nat.le_refl _⟩ (monoX8_spread _ _ _ _ _) (fun _ => ?_) | refine mo_A (sk_nS_le _ _ _ _) (monoX8_spread _ _ _ _ _) (fun _ => ?_) | refine mo_bindQ (q := (fun (z : Int32 × sk_S × sk_D) => z.2.1.1)) (mo_itrC (mono_fX8_toDone_L9 _ _ _ _) _) (fun _ => ?_) | refine mo_ite ?_ ?_ | refine mo_bind (fun _ => ?_) | dsimp only | split)
noncomputable def fX8_toDone (S : sk_S) (d : sk_D) (p0 : Nat) (p1 : Nat) (p2 : Int32) (p3 : Int32) : Option (Int32 × sk_S × sk_D) :=
  if S.2.1 p0 = (7, 0) then ((fX8_spread S d p0 p1 p2).bind fun b6 => (sk_itr (fX8_toDone_L9 p0 p3 b6.1 b6.2) (0 : Int32)).bind fun x1 => some x1) else none
theorem monoX8_toDone (S : sk_S) (d : sk_D) (p0 : Nat) (p1 : Nat) (p2 : Int32) (p3 : Int32) : sk_Mo S.1 (fun (z : Int32 × sk_S × sk_D) => z.2.1.1) (fX8_toDone S d p0 p1 p2 p3) := by
  unfold fX8_toDone
  repeat' (first | exact mo_none | exact mo_some ⟨Nat.le_refl _, Nat.le_refl _⟩ | refine mo_pR (fun _ => ?_) | refine mo_mk (fun _ => ?_) | refine mo_sR24 (fun _ => ?_) | refine mo_sR25 (fun _ => ?_) | refine mo_A ⟨Nat.le_refl _, Nat.le_refl _⟩ (monoX8_spread _ _ _ _ _) (fun _ => ?_) | refine mo_A (sk_nS_le _ _ _ _) (monoX8_spread _ _ _ _ _) (fun _ => ?_) | refine mo_bindQ (q := (fun (z : Int32 × sk_S × sk_D) => z.2.1.1)) (mo_itrC (mono_fX8_toDone_L9 _ _ _ _) _) (fun _ => ?_) | refine mo_ite ?_ ?_ | refine mo_bind (fun _ => ?_) | dsimp only | split)
set_option maxRecDepth 100000 in
set_option maxHeartbeats 4000000 in
theorem sX8_toDone (C : sk_C) (l : Launch) {S : sk_S} {d : sk_D} {p0 : Nat} {p1 : Nat} {p2 : Int32} {p3 : Int32} {rr : Int32} {SS : sk_S} {dd : sk_D} (hf : fX8_toDone S d p0 p1 p2 p3 = some (rr, SS, dd)) : sk_Met C l 5 yX8_toDone cX8_toDone 5 (some .int) [.ref p0, .ref p1, .int p2, .int p3] S d (some (.int rr)) SS dd := by
  have hmono := mo_use (n := S.1) (pr := (fun (z : Int32 × sk_S × sk_D) => z.2.1.1)) hf (monoX8_toDone S d p0 p1 p2 p3)
  refine sk_Met.of (by decide) (Nat.le_of_ble_eq_true rfl) hmono.1 hmono.2 (fun X K0 hX => ?_)
  have K : sk_Ok X C cX8_toDone 5 RX8 "toDone" (some .int) 5 l (some (.int rr)) SS dd := K0
  have R1 : X.2.2.2.2.2.2.2.2.2.2.2.1 ≤ S.1.1 ∧ X.2.2.2.2.2.2.2.2.2.2.2.2 ≤ S.1.2 := by rw [hX]; exact ⟨Nat.le_refl _, Nat.le_refl _⟩
  have R2 : S.1.1 ≤ SS.1.1 ∧ S.1.2 ≤ SS.1.2 := hmono
  show sk_G X C 5 S d 0 [(0, .ref p0), (1, .ref p1), (2, .int p2), (3, .int p3)] []
  unfold fX8_toDone at hf
  refine sk_aload_n K dX8_toDone_0 rfl 0 rfl ?_
  refine sk_aload_n K dX8_toDone_1 rfl 1 rfl ?_
  refine sk_iload_n K dX8_toDone_2 rfl 2 rfl ?_
  obtain ⟨h5, hf⟩ := sk_ib hf
  obtain ⟨⟨S3, d4⟩, e2, hf⟩ := sk_ob hf
  try dsimp only at hf
  have R1_S3 := sk_le_tr R1 (mo_use (pr := (fun (z : sk_S × sk_D) => z.1.1)) e2 (monoX8_spread _ _ _ _ _))
  have R2_S3 : S3.1.1 ≤ SS.1.1 ∧ S3.1.2 ≤ SS.1.2 := mo_use (n := S3.1) (pr := (fun (z : Int32 × sk_S × sk_D) => z.2.1.1)) hf (by repeat' (first | exact mo_none | exact mo_some ⟨Nat.le_refl _, Nat.le_refl _⟩ | refine mo_pR (fun _ => ?_) | refine mo_mk (fun _ => ?_) | refine mo_sR24 (fun _ => ?_) | refine mo_sR25 (fun _ => ?_) | refine mo_A ⟨Nat.le_refl _, Nat.le_refl _⟩ (monoX8_spread _ _ _ _ _) (fun _ => ?_) | refine mo_A (sk_nS_le _ _ _ _) (monoX8_spread _ _ _ _ _) (fun _ => ?_) | refine mo_bindQ (q := (fun (z : Int32 × sk_S × sk_D) => z.2.1.1)) (mo_itrC (mono_fX8_toDone_L9 _ _ _ _) _) (fun _ => ?_) | refine mo_ite ?_ ?_ | refine mo_bind (fun _ => ?_) | dsimp only | split))
  refine sk_callV (As := [.ref p1, .int p2]) (st := []) K dX8_toDone_3 cl_X8_80 h5 (sX8_spread C l e2) (by decide) rfl rfl (Nat.le_of_ble_eq_true rfl) R1 R2_S3 ?_
  refine sk_iconst (0 : Int32) K dX8_toDone_6 (by decide) ?_
  refine sk_istore [(4, .int (0 : Int32)), (0, .ref p0), (1, .ref p1), (2, .int p2), (3, .int p3)] K dX8_toDone_7 (by decide) rfl ?_
  obtain ⟨x1, he1, hf⟩ := sk_ob hf
  have hret1 : ∀ r, r = x1 → r = (rr, SS, dd) := by
    intro r hr
    subst hr
    exact Option.some.inj hf
  refine sk_sub [(0, .ref p0), (3, .int p3), (4, .int (0 : Int32))] [1, 4, 0] rfl ?_
  refine sk_loop (fun s1 => sk_G X C 5 S3 d4 9 [(0, .ref p0), (3, .int p3), (4, .int s1)] []) he1 (fun s1 o1 hf ih1 hx1 => ?_)
  unfold fX8_toDone_L9 at hf
  refine sk_iload K dX8_toDone_9 2 rfl ?_
  refine sk_aload_n K dX8_toDone_11 rfl 0 rfl ?_
  obtain ⟨v7, e8, hf⟩ := sk_ob hf
  refine sk_getI K dX8_toDone_12 fl_X8_9 rfl e8 ?_
  refine sk_icmp_ge 59 K dX8_toDone_15 (by decide) (fun h9 => ?_) (fun h9 => ?_)
  · rw [if_pos h9] at hf
    refine sk_iconst (-1 : Int32) K dX8_toDone_59 (by decide) ?_
    have hR10 : ((-1 : Int32), S3, d4) = (rr, SS, dd) := hret1 _ (hx1 _ (Option.some.inj hf).symm)
    exact sk_iret K dX8_toDone_60 rfl rfl (congrArg (fun z => z.1) hR10) (congrArg (fun z => z.2.1) hR10) (congrArg (fun z => z.2.2) hR10)
  · rw [if_neg h9] at hf
    refine sk_iload K dX8_toDone_18 2 rfl ?_
    refine sk_aload_n K dX8_toDone_20 rfl 0 rfl ?_
    obtain ⟨v11, e12, hf⟩ := sk_ob hf
    refine sk_getR K dX8_toDone_21 fl_X8_21 rfl e12 ?_
    obtain ⟨v13, e14, hf⟩ := sk_ob hf
    refine sk_al20 K dX8_toDone_24 e14 ?_
    refine sk_icmp_ge 59 K dX8_toDone_25 (by decide) (fun h15 => ?_) (fun h15 => ?_)
    · rw [if_pos h15] at hf
      refine sk_iconst (-1 : Int32) K dX8_toDone_59 (by decide) ?_
      have hR16 : ((-1 : Int32), S3, d4) = (rr, SS, dd) := hret1 _ (hx1 _ (Option.some.inj hf).symm)
      exact sk_iret K dX8_toDone_60 rfl rfl (congrArg (fun z => z.1) hR16) (congrArg (fun z => z.2.1) hR16) (congrArg (fun z => z.2.2) hR16)
    · rw [if_neg h15] at hf
      refine sk_iload_n K dX8_toDone_28 rfl 1 rfl ?_
      refine sk_aload_n K dX8_toDone_29 rfl 0 rfl ?_
      obtain ⟨v17, e18, hf⟩ := sk_ob hf
      refine sk_getR K dX8_toDone_30 fl_X8_21 rfl e18 ?_
      refine sk_iload K dX8_toDone_33 2 rfl ?_
      obtain ⟨v19, e20, hf⟩ := sk_ob hf
      refine sk_ald20 K dX8_toDone_35 e20 ?_
      obtain ⟨v21, e22, hf⟩ := sk_ob hf
      refine sk_callN (As := [.int v19]) (st := [.int p3]) K dX8_toDone_36 cl_X8_39 (sX10_doneIn C l e22) (by decide) rfl rfl (Nat.le_of_ble_eq_true rfl) R1_S3 R2_S3 ?_
      refine sk_iconst (-1 : Int32) K dX8_toDone_39 (by decide) ?_
      refine sk_ixor K dX8_toDone_40 ?_
      refine sk_iand K dX8_toDone_41 ?_
      refine sk_if_ne 53 K dX8_toDone_42 (by decide) (fun h23 => ?_) (fun h23 => ?_)
      · rw [if_neg h23] at hf
        refine sk_iinc (s1 + 1) [(4, .int (s1 + 1)), (0, .ref p0), (3, .int p3)] K dX8_toDone_53 2 rfl rfl (by decide) rfl ?_
        refine sk_goto 9 K dX8_toDone_56 (by decide) ?_
        refine sk_sub [(0, .ref p0), (3, .int p3), (4, .int (s1 + 1))] [1, 2, 0] rfl ?_
        have h9 := ih1 _ (Option.some.inj hf).symm
        exact h9
      · rw [if_pos h23] at hf
        refine sk_aload_n K dX8_toDone_45 rfl 0 rfl ?_
        obtain ⟨v24, e25, hf⟩ := sk_ob hf
        refine sk_getR K dX8_toDone_46 fl_X8_21 rfl e25 ?_
        refine sk_iload K dX8_toDone_49 2 rfl ?_
        obtain ⟨v26, e27, hf⟩ := sk_ob hf
        refine sk_ald20 K dX8_toDone_51 e27 ?_
        have hR28 : (v26, S3, d4) = (rr, SS, dd) := hret1 _ (hx1 _ (Option.some.inj hf).symm)
        exact sk_iret K dX8_toDone_52 rfl rfl (congrArg (fun z => z.1) hR28) (congrArg (fun z => z.2.1) hR28) (congrArg (fun z => z.2.2) hR28)
noncomputable def fX8_toShown_L9 (p0 : Nat) (p3 : Int32) (S3 : sk_S) (d4 : sk_D) (s1 : Int32) : Option ((Int32) ⊕ (Int32 × sk_S × sk_D)) :=
  (sk_gI S3 d4 p0 7 0).bind fun v7 => if v7 ≤ s1 then (some (.inr ((-1 : Int32), S3, d4))) else ((sk_gR S3 p0 7 3).bind fun v11 => (sk_al S3 v11 20).bind fun v13 => if v13 ≤ s1 then (some (.inr ((-1 : Int32), S3, d4))) else ((sk_gR S3 p0 7 3).bind fun v17 => (sk_lI S3 d4 v17 20 s1).bind fun v19 => (fX10_shownIn S3 d4 v19).bind fun v21 => if (p3 &&& (v21 ^^^ (-1 : Int32))) = 0 then ((sk_gR S3 p0 7 3).bind fun v24 => (sk_lI S3 d4 v24 20 s1).bind fun v26 => some (.inr (v26, S3, d4))) else (some (.inl (s1 + 1)))))
theorem mono_fX8_toShown_L9 (p0 : Nat) (p3 : Int32) (S3 : sk_S) (d4 : sk_D) : ∀ z, sk_Mo S3.1 (Sum.elim (fun _ => S3.1) (fun (z : Int32 × sk_S × sk_D) => z.2.1.1)) (fX8_toShown_L9 p0 p3 S3 d4 z) := by
  intro z
  unfold fX8_toShown_L9
  repeat' (first | exact mo_none | exact mo_some ⟨Nat.le_refl _, Nat.le_refl _⟩ | refine mo_pR (fun _ => ?_) | refine mo_mk (fun _ => ?_) | refine mo_sR24 (fun _ => ?_) | refine mo_sR25 (fun _ => ?_) | refine mo_A ⟨Nat.le_refl _, Nat.le_refl _⟩ (monoX8_spread _ _ _ _ _) (fun _ => ?_) | refine mo_A (sk_nS_le _ _ _ _) (monoX8_spread _ _ _ _ _) (fun _ => ?_) | refine mo_bindQ (q := (fun (z : Int32 × sk_S × sk_D) => z.2.1.1)) (mo_itrC (mono_fX8_toShown_L9 _ _ _ _) _) (fun _ => ?_) | refine mo_ite ?_ ?_ | refine mo_bind (fun _ => ?_) | dsimp only | split)
noncomputable def fX8_toShown (S : sk_S) (d : sk_D) (p0 : Nat) (p1 : Nat) (p2 : Int32) (p3 : Int32) : Option (Int32 × sk_S × sk_D) :=
  if S.2.1 p0 = (7, 0) then ((fX8_spread S d p0 p1 p2).bind fun b6 => (sk_itr (fX8_toShown_L9 p0 p3 b6.1 b6.2) (0 : Int32)).bind fun x1 => some x1) else none
theorem monoX8_toShown (S : sk_S) (d : sk_D) (p0 : Nat) (p1 : Nat) (p2 : Int32) (p3 : Int32) : sk_Mo S.1 (fun (z : Int32 × sk_S × sk_D) => z.2.1.1) (fX8_toShown S d p0 p1 p2 p3) := by
  unfold fX8_toShown
  repeat' (first | exact mo_none | exact mo_some ⟨Nat.le_refl _, Nat.le_refl _⟩ | refine mo_pR (fun _ => ?_) | refine mo_mk (fun _ => ?_) | refine mo_sR24 (fun _ => ?_) | refine mo_sR25 (fun _ => ?_) | refine mo_A ⟨Nat.le_refl _, Nat.le_refl _⟩ (monoX8_spread _ _ _ _ _) (fun _ => ?_) | refine mo_A (sk_nS_le _ _ _ _) (monoX8_spread _ _ _ _ _) (fun _ => ?_) | refine mo_bindQ (q := (fun (z : Int32 × sk_S × sk_D) => z.2.1.1)) (mo_itrC (mono_fX8_toShown_L9 _ _ _ _) _) (fun _ => ?_) | refine mo_ite ?_ ?_ | refine mo_bind (fun _ => ?_) | dsimp only | split)
set_option maxRecDepth 100000 in
set_option maxHeartbeats 4000000 in
theorem sX8_toShown (C : sk_C) (l : Launch) {S : sk_S} {d : sk_D} {p0 : Nat} {p1 : Nat} {p2 : Int32} {p3 : Int32} {rr : Int32} {SS : sk_S} {dd : sk_D} (hf : fX8_toShown S d p0 p1 p2 p3 = some (rr, SS, dd)) : sk_Met C l 5 yX8_toShown cX8_toShown 5 (some .int) [.ref p0, .ref p1, .int p2, .int p3] S d (some (.int rr)) SS dd := by
  have hmono := mo_use (n := S.1) (pr := (fun (z : Int32 × sk_S × sk_D) => z.2.1.1)) hf (monoX8_toShown S d p0 p1 p2 p3)
  refine sk_Met.of (by decide) (Nat.le_of_ble_eq_true rfl) hmono.1 hmono.2 (fun X K0 hX => ?_)
  have K : sk_Ok X C cX8_toShown 5 RX8 "toShown" (some .int) 5 l (some (.int rr)) SS dd := K0
  have R1 : X.2.2.2.2.2.2.2.2.2.2.2.1 ≤ S.1.1 ∧ X.2.2.2.2.2.2.2.2.2.2.2.2 ≤ S.1.2 := by rw [hX]; exact ⟨Nat.le_refl _, Nat.le_refl _⟩
  have R2 : S.1.1 ≤ SS.1.1 ∧ S.1.2 ≤ SS.1.2 := hmono
  show sk_G X C 5 S d 0 [(0, .ref p0), (1, .ref p1), (2, .int p2), (3, .int p3)] []
  unfold fX8_toShown at hf
  refine sk_aload_n K dX8_toShown_0 rfl 0 rfl ?_
  refine sk_aload_n K dX8_toShown_1 rfl 1 rfl ?_
  refine sk_iload_n K dX8_toShown_2 rfl 2 rfl ?_
  obtain ⟨h5, hf⟩ := sk_ib hf
  obtain ⟨⟨S3, d4⟩, e2, hf⟩ := sk_ob hf
  try dsimp only at hf
  have R1_S3 := sk_le_tr R1 (mo_use (pr := (fun (z : sk_S × sk_D) => z.1.1)) e2 (monoX8_spread _ _ _ _ _))
  have R2_S3 : S3.1.1 ≤ SS.1.1 ∧ S3.1.2 ≤ SS.1.2 := mo_use (n := S3.1) (pr := (fun (z : Int32 × sk_S × sk_D) => z.2.1.1)) hf (by repeat' (first | exact mo_none | exact mo_some ⟨Nat.le_refl _, Nat.le_refl _⟩ | refine mo_pR (fun _ => ?_) | refine mo_mk (fun _ => ?_) | refine mo_sR24 (fun _ => ?_) | refine mo_sR25 (fun _ => ?_) | refine mo_A ⟨Nat.le_refl _, Nat.le_refl _⟩ (monoX8_spread _ _ _ _ _) (fun _ => ?_) | refine mo_A (sk_nS_le _ _ _ _) (monoX8_spread _ _ _ _ _) (fun _ => ?_) | refine mo_bindQ (q := (fun (z : Int32 × sk_S × sk_D) => z.2.1.1)) (mo_itrC (mono_fX8_toShown_L9 _ _ _ _) _) (fun _ => ?_) | refine mo_ite ?_ ?_ | refine mo_bind (fun _ => ?_) | dsimp only | split))
  refine sk_callV (As := [.ref p1, .int p2]) (st := []) K dX8_toShown_3 cl_X8_80 h5 (sX8_spread C l e2) (by decide) rfl rfl (Nat.le_of_ble_eq_true rfl) R1 R2_S3 ?_
  refine sk_iconst (0 : Int32) K dX8_toShown_6 (by decide) ?_
  refine sk_istore [(4, .int (0 : Int32)), (0, .ref p0), (1, .ref p1), (2, .int p2), (3, .int p3)] K dX8_toShown_7 (by decide) rfl ?_
  obtain ⟨x1, he1, hf⟩ := sk_ob hf
  have hret1 : ∀ r, r = x1 → r = (rr, SS, dd) := by
    intro r hr
    subst hr
    exact Option.some.inj hf
  refine sk_sub [(0, .ref p0), (3, .int p3), (4, .int (0 : Int32))] [1, 4, 0] rfl ?_
  refine sk_loop (fun s1 => sk_G X C 5 S3 d4 9 [(0, .ref p0), (3, .int p3), (4, .int s1)] []) he1 (fun s1 o1 hf ih1 hx1 => ?_)
  unfold fX8_toShown_L9 at hf
  refine sk_iload K dX8_toShown_9 2 rfl ?_
  refine sk_aload_n K dX8_toShown_11 rfl 0 rfl ?_
  obtain ⟨v7, e8, hf⟩ := sk_ob hf
  refine sk_getI K dX8_toShown_12 fl_X8_9 rfl e8 ?_
  refine sk_icmp_ge 59 K dX8_toShown_15 (by decide) (fun h9 => ?_) (fun h9 => ?_)
  · rw [if_pos h9] at hf
    refine sk_iconst (-1 : Int32) K dX8_toShown_59 (by decide) ?_
    have hR10 : ((-1 : Int32), S3, d4) = (rr, SS, dd) := hret1 _ (hx1 _ (Option.some.inj hf).symm)
    exact sk_iret K dX8_toShown_60 rfl rfl (congrArg (fun z => z.1) hR10) (congrArg (fun z => z.2.1) hR10) (congrArg (fun z => z.2.2) hR10)
  · rw [if_neg h9] at hf
    refine sk_iload K dX8_toShown_18 2 rfl ?_
    refine sk_aload_n K dX8_toShown_20 rfl 0 rfl ?_
    obtain ⟨v11, e12, hf⟩ := sk_ob hf
    refine sk_getR K dX8_toShown_21 fl_X8_21 rfl e12 ?_
    obtain ⟨v13, e14, hf⟩ := sk_ob hf
    refine sk_al20 K dX8_toShown_24 e14 ?_
    refine sk_icmp_ge 59 K dX8_toShown_25 (by decide) (fun h15 => ?_) (fun h15 => ?_)
    · rw [if_pos h15] at hf
      refine sk_iconst (-1 : Int32) K dX8_toShown_59 (by decide) ?_
      have hR16 : ((-1 : Int32), S3, d4) = (rr, SS, dd) := hret1 _ (hx1 _ (Option.some.inj hf).symm)
      exact sk_iret K dX8_toShown_60 rfl rfl (congrArg (fun z => z.1) hR16) (congrArg (fun z => z.2.1) hR16) (congrArg (fun z => z.2.2) hR16)
    · rw [if_neg h15] at hf
      refine sk_iload_n K dX8_toShown_28 rfl 1 rfl ?_
      refine sk_aload_n K dX8_toShown_29 rfl 0 rfl ?_
      obtain ⟨v17, e18, hf⟩ := sk_ob hf
      refine sk_getR K dX8_toShown_30 fl_X8_21 rfl e18 ?_
      refine sk_iload K dX8_toShown_33 2 rfl ?_
      obtain ⟨v19, e20, hf⟩ := sk_ob hf
      refine sk_ald20 K dX8_toShown_35 e20 ?_
      obtain ⟨v21, e22, hf⟩ := sk_ob hf
      refine sk_callN (As := [.int v19]) (st := [.int p3]) K dX8_toShown_36 cl_X8_84 (sX10_shownIn C l e22) (by decide) rfl rfl (Nat.le_of_ble_eq_true rfl) R1_S3 R2_S3 ?_
      refine sk_iconst (-1 : Int32) K dX8_toShown_39 (by decide) ?_
      refine sk_ixor K dX8_toShown_40 ?_
      refine sk_iand K dX8_toShown_41 ?_
      refine sk_if_ne 53 K dX8_toShown_42 (by decide) (fun h23 => ?_) (fun h23 => ?_)
      · rw [if_neg h23] at hf
        refine sk_iinc (s1 + 1) [(4, .int (s1 + 1)), (0, .ref p0), (3, .int p3)] K dX8_toShown_53 2 rfl rfl (by decide) rfl ?_
        refine sk_goto 9 K dX8_toShown_56 (by decide) ?_
        refine sk_sub [(0, .ref p0), (3, .int p3), (4, .int (s1 + 1))] [1, 2, 0] rfl ?_
        have h9 := ih1 _ (Option.some.inj hf).symm
        exact h9
      · rw [if_pos h23] at hf
        refine sk_aload_n K dX8_toShown_45 rfl 0 rfl ?_
        obtain ⟨v24, e25, hf⟩ := sk_ob hf
        refine sk_getR K dX8_toShown_46 fl_X8_21 rfl e25 ?_
        refine sk_iload K dX8_toShown_49 2 rfl ?_
        obtain ⟨v26, e27, hf⟩ := sk_ob hf
        refine sk_ald20 K dX8_toShown_51 e27 ?_
        have hR28 : (v26, S3, d4) = (rr, SS, dd) := hret1 _ (hx1 _ (Option.some.inj hf).symm)
        exact sk_iret K dX8_toShown_52 rfl rfl (congrArg (fun z => z.1) hR28) (congrArg (fun z => z.2.1) hR28) (congrArg (fun z => z.2.2) hR28)
noncomputable def fX8_mostShown_L11 (p0 : Nat) (S3 : sk_S) (d4 : sk_D) (s1 : Int32 × Int32) : Option ((Int32 × Int32) ⊕ (Int32 × sk_S × sk_D)) :=
  (sk_gI S3 d4 p0 7 0).bind fun v7 => if v7 ≤ s1.2 then (some (.inr (s1.1, S3, d4))) else ((sk_gR S3 p0 7 3).bind fun v11 => (sk_al S3 v11 20).bind fun v13 => if v13 ≤ s1.2 then (some (.inr (s1.1, S3, d4))) else ((sk_gR S3 p0 7 3).bind fun v17 => (sk_lI S3 d4 v17 20 s1.2).bind fun v19 => (fX10_shownIn S3 d4 v19).bind fun v21 => (fJ6_bitCount_0f7a4 S3 d4 v21).bind fun v23 => some (.inl ((if s1.1 < v23 then v23 else s1.1), s1.2 + 1))))
theorem mono_fX8_mostShown_L11 (p0 : Nat) (S3 : sk_S) (d4 : sk_D) : ∀ z, sk_Mo S3.1 (Sum.elim (fun _ => S3.1) (fun (z : Int32 × sk_S × sk_D) => z.2.1.1)) (fX8_mostShown_L11 p0 S3 d4 z) := by
  intro z
  unfold fX8_mostShown_L11
  repeat' (first | exact mo_none | exact mo_some ⟨Nat.le_refl _, Nat.le_refl _⟩ | refine mo_pR (fun _ => ?_) | refine mo_mk (fun _ => ?_) | refine mo_sR24 (fun _ => ?_) | refine mo_sR25 (fun _ => ?_) | refine mo_A ⟨Nat.le_refl _, Nat.le_refl _⟩ (monoX8_spread _ _ _ _ _) (fun _ => ?_) | refine mo_A (sk_nS_le _ _ _ _) (monoX8_spread _ _ _ _ _) (fun _ => ?_) | refine mo_bindQ (q := (fun (z : Int32 × sk_S × sk_D) => z.2.1.1)) (mo_itrC (mono_fX8_mostShown_L11 _ _ _) _) (fun _ => ?_) | refine mo_ite ?_ ?_ | refine mo_bind (fun _ => ?_) | dsimp only | split)
noncomputable def fX8_mostShown (S : sk_S) (d : sk_D) (p0 : Nat) (p1 : Nat) (p2 : Int32) : Option (Int32 × sk_S × sk_D) :=
  if S.2.1 p0 = (7, 0) then ((fX8_spread S d p0 p1 p2).bind fun b6 => (sk_itr (fX8_mostShown_L11 p0 b6.1 b6.2) ((0 : Int32), (0 : Int32))).bind fun x1 => some x1) else none
theorem monoX8_mostShown (S : sk_S) (d : sk_D) (p0 : Nat) (p1 : Nat) (p2 : Int32) : sk_Mo S.1 (fun (z : Int32 × sk_S × sk_D) => z.2.1.1) (fX8_mostShown S d p0 p1 p2) := by
  unfold fX8_mostShown
  repeat' (first | exact mo_none | exact mo_some ⟨Nat.le_refl _, Nat.le_refl _⟩ | refine mo_pR (fun _ => ?_) | refine mo_mk (fun _ => ?_) | refine mo_sR24 (fun _ => ?_) | refine mo_sR25 (fun _ => ?_) | refine mo_A ⟨Nat.le_refl _, Nat.le_refl _⟩ (monoX8_spread _ _ _ _ _) (fun _ => ?_) | refine mo_A (sk_nS_le _ _ _ _) (monoX8_spread _ _ _ _ _) (fun _ => ?_) | refine mo_bindQ (q := (fun (z : Int32 × sk_S × sk_D) => z.2.1.1)) (mo_itrC (mono_fX8_mostShown_L11 _ _ _) _) (fun _ => ?_) | refine mo_ite ?_ ?_ | refine mo_bind (fun _ => ?_) | dsimp only | split)
set_option maxRecDepth 100000 in
set_option maxHeartbeats 4000000 in
theorem sX8_mostShown (C : sk_C) (l : Launch) {S : sk_S} {d : sk_D} {p0 : Nat} {p1 : Nat} {p2 : Int32} {rr : Int32} {SS : sk_S} {dd : sk_D} (hf : fX8_mostShown S d p0 p1 p2 = some (rr, SS, dd)) : sk_Met C l 5 yX8_mostShown cX8_mostShown 5 (some .int) [.ref p0, .ref p1, .int p2] S d (some (.int rr)) SS dd := by
  have hmono := mo_use (n := S.1) (pr := (fun (z : Int32 × sk_S × sk_D) => z.2.1.1)) hf (monoX8_mostShown S d p0 p1 p2)
  refine sk_Met.of (by decide) (Nat.le_of_ble_eq_true rfl) hmono.1 hmono.2 (fun X K0 hX => ?_)
  have K : sk_Ok X C cX8_mostShown 5 RX8 "mostShown" (some .int) 5 l (some (.int rr)) SS dd := K0
  have R1 : X.2.2.2.2.2.2.2.2.2.2.2.1 ≤ S.1.1 ∧ X.2.2.2.2.2.2.2.2.2.2.2.2 ≤ S.1.2 := by rw [hX]; exact ⟨Nat.le_refl _, Nat.le_refl _⟩
  have R2 : S.1.1 ≤ SS.1.1 ∧ S.1.2 ≤ SS.1.2 := hmono
  show sk_G X C 5 S d 0 [(0, .ref p0), (1, .ref p1), (2, .int p2)] []
  unfold fX8_mostShown at hf
  refine sk_aload_n K dX8_mostShown_0 rfl 0 rfl ?_
  refine sk_aload_n K dX8_mostShown_1 rfl 1 rfl ?_
  refine sk_iload_n K dX8_mostShown_2 rfl 2 rfl ?_
  obtain ⟨h5, hf⟩ := sk_ib hf
  obtain ⟨⟨S3, d4⟩, e2, hf⟩ := sk_ob hf
  try dsimp only at hf
  have R1_S3 := sk_le_tr R1 (mo_use (pr := (fun (z : sk_S × sk_D) => z.1.1)) e2 (monoX8_spread _ _ _ _ _))
  have R2_S3 : S3.1.1 ≤ SS.1.1 ∧ S3.1.2 ≤ SS.1.2 := mo_use (n := S3.1) (pr := (fun (z : Int32 × sk_S × sk_D) => z.2.1.1)) hf (by repeat' (first | exact mo_none | exact mo_some ⟨Nat.le_refl _, Nat.le_refl _⟩ | refine mo_pR (fun _ => ?_) | refine mo_mk (fun _ => ?_) | refine mo_sR24 (fun _ => ?_) | refine mo_sR25 (fun _ => ?_) | refine mo_A ⟨Nat.le_refl _, Nat.le_refl _⟩ (monoX8_spread _ _ _ _ _) (fun _ => ?_) | refine mo_A (sk_nS_le _ _ _ _) (monoX8_spread _ _ _ _ _) (fun _ => ?_) | refine mo_bindQ (q := (fun (z : Int32 × sk_S × sk_D) => z.2.1.1)) (mo_itrC (mono_fX8_mostShown_L11 _ _ _) _) (fun _ => ?_) | refine mo_ite ?_ ?_ | refine mo_bind (fun _ => ?_) | dsimp only | split))
  refine sk_callV (As := [.ref p1, .int p2]) (st := []) K dX8_mostShown_3 cl_X8_80 h5 (sX8_spread C l e2) (by decide) rfl rfl (Nat.le_of_ble_eq_true rfl) R1 R2_S3 ?_
  refine sk_iconst (0 : Int32) K dX8_mostShown_6 (by decide) ?_
  refine sk_istore_n [(3, .int (0 : Int32)), (0, .ref p0), (1, .ref p1), (2, .int p2)] K dX8_mostShown_7 rfl (by decide) rfl ?_
  refine sk_iconst (0 : Int32) K dX8_mostShown_8 (by decide) ?_
  refine sk_istore [(4, .int (0 : Int32)), (3, .int (0 : Int32)), (0, .ref p0), (1, .ref p1), (2, .int p2)] K dX8_mostShown_9 (by decide) rfl ?_
  obtain ⟨x1, he1, hf⟩ := sk_ob hf
  have hret1 : ∀ r, r = x1 → r = (rr, SS, dd) := by
    intro r hr
    subst hr
    exact Option.some.inj hf
  refine sk_sub [(0, .ref p0), (3, .int (0 : Int32)), (4, .int (0 : Int32))] [2, 1, 0] rfl ?_
  refine sk_loop (fun s1 => sk_G X C 5 S3 d4 11 [(0, .ref p0), (3, .int s1.1), (4, .int s1.2)] []) he1 (fun s1 o1 hf ih1 hx1 => ?_)
  unfold fX8_mostShown_L11 at hf
  refine sk_iload K dX8_mostShown_11 2 rfl ?_
  refine sk_aload_n K dX8_mostShown_13 rfl 0 rfl ?_
  obtain ⟨v7, e8, hf⟩ := sk_ob hf
  refine sk_getI K dX8_mostShown_14 fl_X8_9 rfl e8 ?_
  refine sk_icmp_ge 54 K dX8_mostShown_17 (by decide) (fun h9 => ?_) (fun h9 => ?_)
  · rw [if_pos h9] at hf
    refine sk_iload_n K dX8_mostShown_54 rfl 1 rfl ?_
    have hR10 : (s1.1, S3, d4) = (rr, SS, dd) := hret1 _ (hx1 _ (Option.some.inj hf).symm)
    exact sk_iret K dX8_mostShown_55 rfl rfl (congrArg (fun z => z.1) hR10) (congrArg (fun z => z.2.1) hR10) (congrArg (fun z => z.2.2) hR10)
  · rw [if_neg h9] at hf
    refine sk_iload K dX8_mostShown_20 2 rfl ?_
    refine sk_aload_n K dX8_mostShown_22 rfl 0 rfl ?_
    obtain ⟨v11, e12, hf⟩ := sk_ob hf
    refine sk_getR K dX8_mostShown_23 fl_X8_21 rfl e12 ?_
    obtain ⟨v13, e14, hf⟩ := sk_ob hf
    refine sk_al20 K dX8_mostShown_26 e14 ?_
    refine sk_icmp_ge 54 K dX8_mostShown_27 (by decide) (fun h15 => ?_) (fun h15 => ?_)
    · rw [if_pos h15] at hf
      refine sk_iload_n K dX8_mostShown_54 rfl 1 rfl ?_
      have hR16 : (s1.1, S3, d4) = (rr, SS, dd) := hret1 _ (hx1 _ (Option.some.inj hf).symm)
      exact sk_iret K dX8_mostShown_55 rfl rfl (congrArg (fun z => z.1) hR16) (congrArg (fun z => z.2.1) hR16) (congrArg (fun z => z.2.2) hR16)
    · rw [if_neg h15] at hf
      refine sk_iload_n K dX8_mostShown_30 rfl 1 rfl ?_
      refine sk_aload_n K dX8_mostShown_31 rfl 0 rfl ?_
      obtain ⟨v17, e18, hf⟩ := sk_ob hf
      refine sk_getR K dX8_mostShown_32 fl_X8_21 rfl e18 ?_
      refine sk_iload K dX8_mostShown_35 2 rfl ?_
      obtain ⟨v19, e20, hf⟩ := sk_ob hf
      refine sk_ald20 K dX8_mostShown_37 e20 ?_
      obtain ⟨v21, e22, hf⟩ := sk_ob hf
      refine sk_callN (As := [.int v19]) (st := [.int s1.1]) K dX8_mostShown_38 cl_X8_84 (sX10_shownIn C l e22) (by decide) rfl rfl (Nat.le_of_ble_eq_true rfl) R1_S3 R2_S3 ?_
      obtain ⟨v23, e24, hf⟩ := sk_ob hf
      refine sk_callS (As := [.int v21]) (st := [.int s1.1]) K dX8_mostShown_41 cl_X8_96 (sJ6_bitCount_0f7a4 C l e24) (by decide) rfl rfl (Nat.le_of_ble_eq_true rfl) R1_S3 R2_S3 ?_
      refine sk_mmax K dX8_mostShown_44 qw_973 qw_558 qw_137 qw_559 (by decide) (Nat.le_of_ble_eq_true rfl) R2_S3 ?_
      refine sk_istore_n [(3, .int (if s1.1 < v23 then v23 else s1.1)), (0, .ref p0), (4, .int s1.2)] K dX8_mostShown_47 rfl (by decide) rfl ?_
      refine sk_iinc (s1.2 + 1) [(4, .int (s1.2 + 1)), (3, .int (if s1.1 < v23 then v23 else s1.1)), (0, .ref p0)] K dX8_mostShown_48 2 rfl rfl (by decide) rfl ?_
      refine sk_goto 11 K dX8_mostShown_51 (by decide) ?_
      refine sk_sub [(0, .ref p0), (3, .int (if s1.1 < v23 then v23 else s1.1)), (4, .int (s1.2 + 1))] [2, 1, 0] rfl ?_
      have h9 := ih1 _ (Option.some.inj hf).symm
      exact h9
noncomputable def fX8_goOneOn_L79 (S : sk_S) (p0 : Nat) (p1 : Nat) (t1_a : Int32) (v27 : Int64) (s3 : Int32 × sk_D) : Option ((Int32 × sk_D) ⊕ (sk_D)) :=
  (sk_gI S s3.2 p0 7 2).bind fun v29 => if v29 ≤ s3.1 then (some (.inr s3.2)) else (if v27 = (0 : Int64) then (some (.inr s3.2)) else ((sk_gR S p0 7 3).bind fun v33 => (sk_lI S s3.2 v33 20 t1_a).bind fun v35 => if S.2.1 p1 = (8, 0) then ((fX9_tryDo S s3.2 p1 v35 s3.1).bind fun b41 => if S.2.1 p0 = (7, 0) then ((fX8_addWays S b41.2 p0 b41.1 v27).bind fun d44 => (sk_gR S p0 7 3).bind fun v46 => (sk_lI S d44 v46 20 t1_a).bind fun v48 => if S.2.1 p1 = (8, 0) then ((fX9_tryDrop S d44 p1 v48 s3.1).bind fun v50 => if S.2.1 p0 = (7, 0) then ((fX8_addWays S d44 p0 v50 v27).bind fun d55 => some (.inl (s3.1 + 1, d55))) else none) else none) else none) else none))
noncomputable def fX8_goOneOn_L43 (S : sk_S) (p0 : Nat) (p1 : Nat) (s2 : Int32 × sk_D) : Option ((Int32 × sk_D) ⊕ (sk_D)) :=
  (sk_gI S s2.2 p0 7 0).bind fun v10 => if v10 ≤ s2.1 then (some (.inr s2.2)) else ((sk_gR S p0 7 3).bind fun v13 => (sk_al S v13 20).bind fun v15 => if v15 ≤ s2.1 then (some (.inr s2.2)) else ((sk_gR S p0 7 5).bind fun v18 => (sk_gR S p0 7 3).bind fun v20 => (sk_lI S s2.2 v20 20 s2.1).bind fun v22 => if S.2.1 p0 = (7, 0) then ((fX8_spot S s2.2 p0 v22).bind fun v24 => (sk_lJ S s2.2 v18 v24).bind fun v27 => (sk_itr (fX8_goOneOn_L79 S p0 p1 s2.1 v27) ((0 : Int32), s2.2)).bind fun y3 => some (.inl (s2.1 + 1, y3))) else none))
noncomputable def fX8_goOneOn_L2 (S : sk_S) (p0 : Nat) (s1 : Int32 × sk_D) : Option ((Int32 × sk_D) ⊕ (sk_D)) :=
  (sk_gI S s1.2 p0 7 0).bind fun v57 => if v57 ≤ s1.1 then (some (.inr s1.2)) else ((sk_gR S p0 7 3).bind fun v60 => (sk_al S v60 20).bind fun v62 => if v62 ≤ s1.1 then (some (.inr s1.2)) else ((sk_gR S p0 7 6).bind fun v65 => (sk_gR S p0 7 3).bind fun v67 => (sk_lI S s1.2 v67 20 s1.1).bind fun v69 => if S.2.1 p0 = (7, 0) then ((fX8_spot S s1.2 p0 v69).bind fun v71 => (sk_sJ S s1.2 v65 v71 (0 : Int64)).bind fun d74 => some (.inl (s1.1 + 1, d74))) else none))
noncomputable def fX8_goOneOn (S : sk_S) (d : sk_D) (p0 : Nat) (p1 : Nat) : Option (sk_S × sk_D) :=
  (sk_itr (fX8_goOneOn_L2 S p0) ((0 : Int32), d)).bind fun y1 => (sk_itr (fX8_goOneOn_L43 S p0 p1) ((0 : Int32), y1)).bind fun y2 => (sk_gR S p0 7 5).bind fun v1 => (sk_gR S p0 7 6).bind fun v3 => (sk_pR S p0 7 5 v3).bind fun S5 => (sk_pR S5 p0 7 6 v1).bind fun S7 => some (S7, y2)
theorem monoX8_goOneOn (S : sk_S) (d : sk_D) (p0 : Nat) (p1 : Nat) : sk_Mo S.1 (fun (z : sk_S × sk_D) => z.1.1) (fX8_goOneOn S d p0 p1) := by
  unfold fX8_goOneOn
  repeat' (first | exact mo_none | exact mo_some ⟨Nat.le_refl _, Nat.le_refl _⟩ | refine mo_pR (fun _ => ?_) | refine mo_mk (fun _ => ?_) | refine mo_sR24 (fun _ => ?_) | refine mo_sR25 (fun _ => ?_) | refine mo_ite ?_ ?_ | refine mo_bind (fun _ => ?_) | dsimp only | split)
set_option maxRecDepth 100000 in
set_option maxHeartbeats 4000000 in
theorem sX8_goOneOn (C : sk_C) (l : Launch) {S : sk_S} {d : sk_D} {p0 : Nat} {p1 : Nat} {SS : sk_S} {dd : sk_D} (hf : fX8_goOneOn S d p0 p1 = some (SS, dd)) : sk_Met C l 4 yX8_goOneOn cX8_goOneOn 6 none [.ref p0, .ref p1] S d none SS dd := by
  have hmono := mo_use (n := S.1) (pr := (fun (z : sk_S × sk_D) => z.1.1)) hf (monoX8_goOneOn S d p0 p1)
  refine sk_Met.of (by decide) (Nat.le_of_ble_eq_true rfl) hmono.1 hmono.2 (fun X K0 hX => ?_)
  have K : sk_Ok X C cX8_goOneOn 6 RX8 "goOneOn" none 4 l none SS dd := K0
  have R1 : X.2.2.2.2.2.2.2.2.2.2.2.1 ≤ S.1.1 ∧ X.2.2.2.2.2.2.2.2.2.2.2.2 ≤ S.1.2 := by rw [hX]; exact ⟨Nat.le_refl _, Nat.le_refl _⟩
  have R2 : S.1.1 ≤ SS.1.1 ∧ S.1.2 ≤ SS.1.2 := hmono
  show sk_G X C 6 S d 0 [(0, .ref p0), (1, .ref p1)] []
  unfold fX8_goOneOn at hf
  refine sk_iconst (0 : Int32) K dX8_goOneOn_0 (by decide) ?_
  refine sk_istore_n [(2, .int (0 : Int32)), (0, .ref p0), (1, .ref p1)] K dX8_goOneOn_1 rfl (by decide) rfl ?_
  obtain ⟨x1, he1, hf⟩ := sk_ob hf
  have rest1 : ∀ y1, y1 = x1 → sk_G X C 6 S y1 41 [(0, .ref p0), (1, .ref p1)] [] := by
    intro y1 hy
    subst hy
    refine sk_iconst (0 : Int32) K dX8_goOneOn_41 (by decide) ?_
    refine sk_istore_n [(2, .int (0 : Int32)), (0, .ref p0), (1, .ref p1)] K dX8_goOneOn_42 rfl (by decide) rfl ?_
    obtain ⟨x2, he2, hf⟩ := sk_ob hf
    have rest2 : ∀ y2, y2 = x2 → sk_G X C 6 S y2 140 [(0, .ref p0)] [] := by
      intro y2 hy
      subst hy
      refine sk_aload_n K dX8_goOneOn_140 rfl 0 rfl ?_
      obtain ⟨v1, e2, hf⟩ := sk_ob hf
      refine sk_getR K dX8_goOneOn_141 fl_X8_28 rfl e2 ?_
      refine sk_astore_n [(2, .ref v1), (0, .ref p0)] K dX8_goOneOn_144 rfl (by decide) rfl ?_
      refine sk_aload_n K dX8_goOneOn_145 rfl 1 rfl ?_
      refine sk_aload_n K dX8_goOneOn_146 rfl 1 rfl ?_
      obtain ⟨v3, e4, hf⟩ := sk_ob hf
      refine sk_getR K dX8_goOneOn_147 fl_X8_32 rfl e4 ?_
      obtain ⟨S5, e6, hf⟩ := sk_ob hf
      have R1_S5 := sk_le_eq R1 (sk_pR_1 e6)
      have R2_S5 : S5.1.1 ≤ SS.1.1 ∧ S5.1.2 ≤ SS.1.2 := mo_use (n := S5.1) (pr := (fun (z : sk_S × sk_D) => z.1.1)) hf (by repeat' (first | exact mo_none | exact mo_some ⟨Nat.le_refl _, Nat.le_refl _⟩ | refine mo_pR (fun _ => ?_) | refine mo_mk (fun _ => ?_) | refine mo_sR24 (fun _ => ?_) | refine mo_sR25 (fun _ => ?_) | refine mo_ite ?_ ?_ | refine mo_bind (fun _ => ?_) | dsimp only | split))
      refine sk_putR S5 K dX8_goOneOn_150 fl_X8_28 rfl rfl rfl e6 ?_
      refine sk_aload_n K dX8_goOneOn_153 rfl 1 rfl ?_
      refine sk_aload_n K dX8_goOneOn_154 rfl 0 rfl ?_
      obtain ⟨S7, e8, hf⟩ := sk_ob hf
      have R1_S7 := sk_le_eq R1_S5 (sk_pR_1 e8)
      have R2_S7 : S7.1.1 ≤ SS.1.1 ∧ S7.1.2 ≤ SS.1.2 := mo_use (n := S7.1) (pr := (fun (z : sk_S × sk_D) => z.1.1)) hf (by repeat' (first | exact mo_none | exact mo_some ⟨Nat.le_refl _, Nat.le_refl _⟩ | refine mo_pR (fun _ => ?_) | refine mo_mk (fun _ => ?_) | refine mo_sR24 (fun _ => ?_) | refine mo_sR25 (fun _ => ?_) | refine mo_ite ?_ ?_ | refine mo_bind (fun _ => ?_) | dsimp only | split))
      refine sk_putR S7 K dX8_goOneOn_155 fl_X8_32 rfl rfl rfl e8 ?_
      have hR9 : (S7, y2) = (SS, dd) := Option.some.inj hf
      exact sk_vret K dX8_goOneOn_158 rfl rfl (congrArg (fun z => z.1) hR9) (congrArg (fun z => z.2) hR9)
    refine sk_sub [(0, .ref p0), (1, .ref p1), (2, .int (0 : Int32))] [1, 2, 0] rfl ?_
    refine sk_loop (fun s2 => sk_G X C 6 S s2.2 43 [(0, .ref p0), (1, .ref p1), (2, .int s2.1)] []) he2 (fun s2 o2 hf ih2 hx2 => ?_)
    unfold fX8_goOneOn_L43 at hf
    refine sk_iload_n K dX8_goOneOn_43 rfl 2 rfl ?_
    refine sk_aload_n K dX8_goOneOn_44 rfl 0 rfl ?_
    obtain ⟨v10, e11, hf⟩ := sk_ob hf
    refine sk_getI K dX8_goOneOn_45 fl_X8_9 rfl e11 ?_
    refine sk_icmp_ge 140 K dX8_goOneOn_48 (by decide) (fun h12 => ?_) (fun h12 => ?_)
    · rw [if_pos h12] at hf
      refine sk_sub [(0, .ref p0)] [0] rfl ?_
      have h9 := rest2 _ (hx2 _ (Option.some.inj hf).symm)
      exact h9
    · rw [if_neg h12] at hf
      refine sk_iload_n K dX8_goOneOn_51 rfl 2 rfl ?_
      refine sk_aload_n K dX8_goOneOn_52 rfl 0 rfl ?_
      obtain ⟨v13, e14, hf⟩ := sk_ob hf
      refine sk_getR K dX8_goOneOn_53 fl_X8_21 rfl e14 ?_
      obtain ⟨v15, e16, hf⟩ := sk_ob hf
      refine sk_al20 K dX8_goOneOn_56 e16 ?_
      refine sk_icmp_ge 140 K dX8_goOneOn_57 (by decide) (fun h17 => ?_) (fun h17 => ?_)
      · rw [if_pos h17] at hf
        refine sk_sub [(0, .ref p0)] [0] rfl ?_
        have h9 := rest2 _ (hx2 _ (Option.some.inj hf).symm)
        exact h9
      · rw [if_neg h17] at hf
        refine sk_aload_n K dX8_goOneOn_60 rfl 0 rfl ?_
        obtain ⟨v18, e19, hf⟩ := sk_ob hf
        refine sk_getR K dX8_goOneOn_61 fl_X8_28 rfl e19 ?_
        refine sk_aload_n K dX8_goOneOn_64 rfl 0 rfl ?_
        refine sk_aload_n K dX8_goOneOn_65 rfl 0 rfl ?_
        obtain ⟨v20, e21, hf⟩ := sk_ob hf
        refine sk_getR K dX8_goOneOn_66 fl_X8_21 rfl e21 ?_
        refine sk_iload_n K dX8_goOneOn_69 rfl 2 rfl ?_
        obtain ⟨v22, e23, hf⟩ := sk_ob hf
        refine sk_ald20 K dX8_goOneOn_70 e23 ?_
        obtain ⟨h26, hf⟩ := sk_ib hf
        obtain ⟨v24, e25, hf⟩ := sk_ob hf
        refine sk_callV (As := [.int v22]) (st := [.ref v18]) K dX8_goOneOn_71 cl_X8_35 h26 (sX8_spot C l e25) (by decide) rfl rfl (Nat.le_of_ble_eq_true rfl) R1 R2 ?_
        obtain ⟨v27, e28, hf⟩ := sk_ob hf
        refine sk_ald21 K dX8_goOneOn_74 e28 ?_
        refine sk_lstore_n [(3, .long v27), (0, .ref p0), (1, .ref p1), (2, .int s2.1)] K dX8_goOneOn_75 rfl (by decide) rfl ?_
        refine sk_iconst (0 : Int32) K dX8_goOneOn_76 (by decide) ?_
        refine sk_istore [(5, .int (0 : Int32)), (3, .long v27), (0, .ref p0), (1, .ref p1), (2, .int s2.1)] K dX8_goOneOn_77 (by decide) rfl ?_
        obtain ⟨x3, he3, hf⟩ := sk_ob hf
        have rest3 : ∀ y3, y3 = x3 → sk_G X C 6 S y3 134 [(0, .ref p0), (1, .ref p1), (2, .int s2.1)] [] := by
          intro y3 hy
          subst hy
          refine sk_iinc (s2.1 + 1) [(2, .int (s2.1 + 1)), (0, .ref p0), (1, .ref p1)] K dX8_goOneOn_134 2 rfl rfl (by decide) rfl ?_
          refine sk_goto 43 K dX8_goOneOn_137 (by decide) ?_
          refine sk_sub [(0, .ref p0), (1, .ref p1), (2, .int (s2.1 + 1))] [1, 2, 0] rfl ?_
          have h9 := ih2 _ (Option.some.inj hf).symm
          exact h9
        refine sk_sub [(0, .ref p0), (1, .ref p1), (2, .int s2.1), (3, .long v27), (5, .int (0 : Int32))] [2, 3, 4, 1, 0] rfl ?_
        refine sk_loop (fun s3 => sk_G X C 6 S s3.2 79 [(0, .ref p0), (1, .ref p1), (2, .int s2.1), (3, .long v27), (5, .int s3.1)] []) he3 (fun s3 o3 hf ih3 hx3 => ?_)
        unfold fX8_goOneOn_L79 at hf
        refine sk_iload K dX8_goOneOn_79 4 rfl ?_
        refine sk_aload_n K dX8_goOneOn_81 rfl 0 rfl ?_
        obtain ⟨v29, e30, hf⟩ := sk_ob hf
        refine sk_getI K dX8_goOneOn_82 fl_X8_18 rfl e30 ?_
        refine sk_icmp_ge 134 K dX8_goOneOn_85 (by decide) (fun h31 => ?_) (fun h31 => ?_)
        · rw [if_pos h31] at hf
          refine sk_sub [(0, .ref p0), (1, .ref p1), (2, .int s2.1)] [0, 1, 2] rfl ?_
          have h9 := rest3 _ (hx3 _ (Option.some.inj hf).symm)
          exact h9
        · rw [if_neg h31] at hf
          refine sk_lload_n K dX8_goOneOn_88 rfl 3 rfl ?_
          refine sk_lconst (0 : Int64) K dX8_goOneOn_89 (by decide) ?_
          refine sk_lcmp_eq 134 K dX8_goOneOn_90 dX8_goOneOn_91 (by decide) (fun h32 => ?_) (fun h32 => ?_)
          · rw [if_pos h32] at hf
            refine sk_sub [(0, .ref p0), (1, .ref p1), (2, .int s2.1)] [0, 1, 2] rfl ?_
            have h9 := rest3 _ (hx3 _ (Option.some.inj hf).symm)
            exact h9
          · rw [if_neg h32] at hf
            refine sk_aload_n K dX8_goOneOn_94 rfl 0 rfl ?_
            refine sk_aload_n K dX8_goOneOn_95 rfl 1 rfl ?_
            refine sk_aload_n K dX8_goOneOn_96 rfl 0 rfl ?_
            obtain ⟨v33, e34, hf⟩ := sk_ob hf
            refine sk_getR K dX8_goOneOn_97 fl_X8_21 rfl e34 ?_
            refine sk_iload_n K dX8_goOneOn_100 rfl 2 rfl ?_
            obtain ⟨v35, e36, hf⟩ := sk_ob hf
            refine sk_ald20 K dX8_goOneOn_101 e36 ?_
            refine sk_iload K dX8_goOneOn_102 4 rfl ?_
            obtain ⟨h40, hf⟩ := sk_ib hf
            obtain ⟨⟨v37, d39⟩, e38, hf⟩ := sk_ob hf
            try dsimp only at hf
            refine sk_callV (As := [.int v35, .int s3.1]) (st := [.ref p0]) K dX8_goOneOn_104 cl_X8_74 h40 (sX9_tryDo C l e38) (by decide) rfl rfl (Nat.le_of_ble_eq_true rfl) R1 R2 ?_
            refine sk_lload_n K dX8_goOneOn_107 rfl 3 rfl ?_
            obtain ⟨h45, hf⟩ := sk_ib hf
            obtain ⟨d44, e43, hf⟩ := sk_ob hf
            refine sk_callV (As := [.int v37, .long v27]) (st := []) K dX8_goOneOn_108 cl_X8_108 h45 (sX8_addWays C l e43) (by decide) rfl rfl (Nat.le_of_ble_eq_true rfl) R1 R2 ?_
            refine sk_aload_n K dX8_goOneOn_111 rfl 0 rfl ?_
            refine sk_aload_n K dX8_goOneOn_112 rfl 1 rfl ?_
            refine sk_aload_n K dX8_goOneOn_113 rfl 0 rfl ?_
            obtain ⟨v46, e47, hf⟩ := sk_ob hf
            refine sk_getR K dX8_goOneOn_114 fl_X8_21 rfl e47 ?_
            refine sk_iload_n K dX8_goOneOn_117 rfl 2 rfl ?_
            obtain ⟨v48, e49, hf⟩ := sk_ob hf
            refine sk_ald20 K dX8_goOneOn_118 e49 ?_
            refine sk_iload K dX8_goOneOn_119 4 rfl ?_
            obtain ⟨h52, hf⟩ := sk_ib hf
            obtain ⟨v50, e51, hf⟩ := sk_ob hf
            refine sk_callV (As := [.int v48, .int s3.1]) (st := [.ref p0]) K dX8_goOneOn_121 cl_X8_77 h52 (sX9_tryDrop C l e51) (by decide) rfl rfl (Nat.le_of_ble_eq_true rfl) R1 R2 ?_
            refine sk_lload_n K dX8_goOneOn_124 rfl 3 rfl ?_
            obtain ⟨h56, hf⟩ := sk_ib hf
            obtain ⟨d55, e54, hf⟩ := sk_ob hf
            refine sk_callV (As := [.int v50, .long v27]) (st := []) K dX8_goOneOn_125 cl_X8_108 h56 (sX8_addWays C l e54) (by decide) rfl rfl (Nat.le_of_ble_eq_true rfl) R1 R2 ?_
            refine sk_iinc (s3.1 + 1) [(5, .int (s3.1 + 1)), (0, .ref p0), (1, .ref p1), (2, .int s2.1), (3, .long v27)] K dX8_goOneOn_128 4 rfl rfl (by decide) rfl ?_
            refine sk_goto 79 K dX8_goOneOn_131 (by decide) ?_
            refine sk_sub [(0, .ref p0), (1, .ref p1), (2, .int s2.1), (3, .long v27), (5, .int (s3.1 + 1))] [1, 2, 3, 4, 0] rfl ?_
            have h9 := ih3 _ (Option.some.inj hf).symm
            exact h9
  refine sk_sub [(0, .ref p0), (1, .ref p1), (2, .int (0 : Int32))] [1, 2, 0] rfl ?_
  refine sk_loop (fun s1 => sk_G X C 6 S s1.2 2 [(0, .ref p0), (1, .ref p1), (2, .int s1.1)] []) he1 (fun s1 o1 hf ih1 hx1 => ?_)
  unfold fX8_goOneOn_L2 at hf
  refine sk_iload_n K dX8_goOneOn_2 rfl 2 rfl ?_
  refine sk_aload_n K dX8_goOneOn_3 rfl 0 rfl ?_
  obtain ⟨v57, e58, hf⟩ := sk_ob hf
  refine sk_getI K dX8_goOneOn_4 fl_X8_9 rfl e58 ?_
  refine sk_icmp_ge 41 K dX8_goOneOn_7 (by decide) (fun h59 => ?_) (fun h59 => ?_)
  · rw [if_pos h59] at hf
    refine sk_sub [(0, .ref p0), (1, .ref p1)] [0, 1] rfl ?_
    have h9 := rest1 _ (hx1 _ (Option.some.inj hf).symm)
    exact h9
  · rw [if_neg h59] at hf
    refine sk_iload_n K dX8_goOneOn_10 rfl 2 rfl ?_
    refine sk_aload_n K dX8_goOneOn_11 rfl 0 rfl ?_
    obtain ⟨v60, e61, hf⟩ := sk_ob hf
    refine sk_getR K dX8_goOneOn_12 fl_X8_21 rfl e61 ?_
    obtain ⟨v62, e63, hf⟩ := sk_ob hf
    refine sk_al20 K dX8_goOneOn_15 e63 ?_
    refine sk_icmp_ge 41 K dX8_goOneOn_16 (by decide) (fun h64 => ?_) (fun h64 => ?_)
    · rw [if_pos h64] at hf
      refine sk_sub [(0, .ref p0), (1, .ref p1)] [0, 1] rfl ?_
      have h9 := rest1 _ (hx1 _ (Option.some.inj hf).symm)
      exact h9
    · rw [if_neg h64] at hf
      refine sk_aload_n K dX8_goOneOn_19 rfl 0 rfl ?_
      obtain ⟨v65, e66, hf⟩ := sk_ob hf
      refine sk_getR K dX8_goOneOn_20 fl_X8_32 rfl e66 ?_
      refine sk_aload_n K dX8_goOneOn_23 rfl 0 rfl ?_
      refine sk_aload_n K dX8_goOneOn_24 rfl 0 rfl ?_
      obtain ⟨v67, e68, hf⟩ := sk_ob hf
      refine sk_getR K dX8_goOneOn_25 fl_X8_21 rfl e68 ?_
      refine sk_iload_n K dX8_goOneOn_28 rfl 2 rfl ?_
      obtain ⟨v69, e70, hf⟩ := sk_ob hf
      refine sk_ald20 K dX8_goOneOn_29 e70 ?_
      obtain ⟨h73, hf⟩ := sk_ib hf
      obtain ⟨v71, e72, hf⟩ := sk_ob hf
      refine sk_callV (As := [.int v69]) (st := [.ref v65]) K dX8_goOneOn_30 cl_X8_35 h73 (sX8_spot C l e72) (by decide) rfl rfl (Nat.le_of_ble_eq_true rfl) R1 R2 ?_
      refine sk_lconst (0 : Int64) K dX8_goOneOn_33 (by decide) ?_
      obtain ⟨d74, e75, hf⟩ := sk_ob hf
      refine sk_ast21 d74 K dX8_goOneOn_34 e75 ?_
      refine sk_iinc (s1.1 + 1) [(2, .int (s1.1 + 1)), (0, .ref p0), (1, .ref p1)] K dX8_goOneOn_35 2 rfl rfl (by decide) rfl ?_
      refine sk_goto 2 K dX8_goOneOn_38 (by decide) ?_
      refine sk_sub [(0, .ref p0), (1, .ref p1), (2, .int (s1.1 + 1))] [1, 2, 0] rfl ?_
      have h9 := ih1 _ (Option.some.inj hf).symm
      exact h9
noncomputable def fX8_rowsTo_L93 (p0 : Nat) (p3 : Int32) (t1_a : sk_S) (t2_a : sk_D) (s3 : Int64 × Int32) : Option ((Int64 × Int32) ⊕ (Int64 × sk_S × sk_D)) :=
  (sk_gI t1_a t2_a p0 7 0).bind fun v20 => if v20 ≤ s3.2 then (some (.inr (s3.1, t1_a, t2_a))) else ((sk_gR t1_a p0 7 3).bind fun v24 => (sk_al t1_a v24 20).bind fun v26 => if v26 ≤ s3.2 then (some (.inr (s3.1, t1_a, t2_a))) else ((sk_gR t1_a p0 7 3).bind fun v30 => (sk_lI t1_a t2_a v30 20 s3.2).bind fun v32 => (fX10_shownIn t1_a t2_a v32).bind fun v34 => if (p3 &&& (v34 ^^^ (-1 : Int32))) = 0 then ((sk_gR t1_a p0 7 5).bind fun v37 => (sk_gR t1_a p0 7 3).bind fun v39 => (sk_lI t1_a t2_a v39 20 s3.2).bind fun v41 => if t1_a.2.1 p0 = (7, 0) then ((fX8_spot t1_a t2_a p0 v41).bind fun v43 => (sk_lJ t1_a t2_a v37 v43).bind fun v46 => some (.inl (s3.1 + v46, s3.2 + 1))) else none) else (some (.inl (s3.1, s3.2 + 1)))))
theorem mono_fX8_rowsTo_L93 (p0 : Nat) (p3 : Int32) (t1_a : sk_S) (t2_a : sk_D) : ∀ z, sk_Mo t1_a.1 (Sum.elim (fun _ => t1_a.1) (fun (z : Int64 × sk_S × sk_D) => z.2.1.1)) (fX8_rowsTo_L93 p0 p3 t1_a t2_a z) := by
  intro z
  unfold fX8_rowsTo_L93
  repeat' (first | exact mo_none | exact mo_some ⟨Nat.le_refl _, Nat.le_refl _⟩ | refine mo_pR (fun _ => ?_) | refine mo_mk (fun _ => ?_) | refine mo_sR24 (fun _ => ?_) | refine mo_sR25 (fun _ => ?_) | refine mo_A ⟨Nat.le_refl _, Nat.le_refl _⟩ (monoX8_spread _ _ _ _ _) (fun _ => ?_) | refine mo_A (sk_nS_le _ _ _ _) (monoX8_spread _ _ _ _ _) (fun _ => ?_) | refine mo_A ⟨Nat.le_refl _, Nat.le_refl _⟩ (monoX8_fitWays _ _ _) (fun _ => ?_) | refine mo_A (sk_nS_le _ _ _ _) (monoX8_fitWays _ _ _) (fun _ => ?_) | refine mo_A ⟨Nat.le_refl _, Nat.le_refl _⟩ (monoX8_goOneOn _ _ _ _) (fun _ => ?_) | refine mo_A (sk_nS_le _ _ _ _) (monoX8_goOneOn _ _ _ _) (fun _ => ?_) | refine mo_bindQ (q := (fun (z : sk_S × sk_D) => z.1.1)) (mo_itr (μ := (fun (z : Int32 × sk_S × sk_D) => z.2.1.1)) (mono_fX8_rowsTo_L69 _ _ _) _) (fun _ => ?_) | refine mo_bindQ (q := (fun (z : Int64 × sk_S × sk_D) => z.2.1.1)) (mo_itrC (mono_fX8_rowsTo_L93 _ _ _ _) _) (fun _ => ?_) | refine mo_ite ?_ ?_ | refine mo_bind (fun _ => ?_) | dsimp only | split)
noncomputable def fX8_rowsTo_L69 (p0 : Nat) (p1 : Nat) (p4 : Int32) (s2 : Int32 × sk_S × sk_D) : Option ((Int32 × sk_S × sk_D) ⊕ (sk_S × sk_D)) :=
  if p4 ≤ s2.1 then (some (.inr (s2.2.1, s2.2.2))) else (if s2.2.1.2.1 p0 = (7, 0) then ((fX8_goOneOn s2.2.1 s2.2.2 p0 p1).bind fun b54 => some (.inl (s2.1 + 1, b54.1, b54.2))) else none)
theorem mono_fX8_rowsTo_L69 (p0 : Nat) (p1 : Nat) (p4 : Int32) : ∀ z, sk_Mo ((fun (z : Int32 × sk_S × sk_D) => z.2.1.1) z) (Sum.elim (fun (z : Int32 × sk_S × sk_D) => z.2.1.1) (fun (z : sk_S × sk_D) => z.1.1)) (fX8_rowsTo_L69 p0 p1 p4 z) := by
  intro z
  unfold fX8_rowsTo_L69
  repeat' (first | exact mo_none | exact mo_some ⟨Nat.le_refl _, Nat.le_refl _⟩ | refine mo_pR (fun _ => ?_) | refine mo_mk (fun _ => ?_) | refine mo_sR24 (fun _ => ?_) | refine mo_sR25 (fun _ => ?_) | refine mo_A ⟨Nat.le_refl _, Nat.le_refl _⟩ (monoX8_spread _ _ _ _ _) (fun _ => ?_) | refine mo_A (sk_nS_le _ _ _ _) (monoX8_spread _ _ _ _ _) (fun _ => ?_) | refine mo_A ⟨Nat.le_refl _, Nat.le_refl _⟩ (monoX8_fitWays _ _ _) (fun _ => ?_) | refine mo_A (sk_nS_le _ _ _ _) (monoX8_fitWays _ _ _) (fun _ => ?_) | refine mo_A ⟨Nat.le_refl _, Nat.le_refl _⟩ (monoX8_goOneOn _ _ _ _) (fun _ => ?_) | refine mo_A (sk_nS_le _ _ _ _) (monoX8_goOneOn _ _ _ _) (fun _ => ?_) | refine mo_bindQ (q := (fun (z : sk_S × sk_D) => z.1.1)) (mo_itr (μ := (fun (z : Int32 × sk_S × sk_D) => z.2.1.1)) (mono_fX8_rowsTo_L69 _ _ _) _) (fun _ => ?_) | refine mo_bindQ (q := (fun (z : Int64 × sk_S × sk_D) => z.2.1.1)) (mo_itrC (mono_fX8_rowsTo_L93 _ _ _ _) _) (fun _ => ?_) | refine mo_ite ?_ ?_ | refine mo_bind (fun _ => ?_) | dsimp only | split)
noncomputable def fX8_rowsTo_L13 (p0 : Nat) (S9 : sk_S) (s1 : Int32 × sk_D) : Option ((Int32 × sk_D) ⊕ (sk_D)) :=
  (sk_gI S9 s1.2 p0 7 0).bind fun v55 => if v55 ≤ s1.1 then (some (.inr s1.2)) else ((sk_gR S9 p0 7 3).bind fun v58 => (sk_al S9 v58 20).bind fun v60 => if v60 ≤ s1.1 then (some (.inr s1.2)) else ((sk_gR S9 p0 7 5).bind fun v63 => (sk_gR S9 p0 7 3).bind fun v65 => (sk_lI S9 s1.2 v65 20 s1.1).bind fun v67 => if S9.2.1 p0 = (7, 0) then ((fX8_spot S9 s1.2 p0 v67).bind fun v69 => (sk_sJ S9 s1.2 v63 v69 (0 : Int64)).bind fun d72 => some (.inl (s1.1 + 1, d72))) else none))
noncomputable def fX8_rowsTo (S : sk_S) (d : sk_D) (p0 : Nat) (p1 : Nat) (p2 : Int32) (p3 : Int32) (p4 : Int32) : Option (Int64 × sk_S × sk_D) :=
  if S.2.1 p0 = (7, 0) then ((fX8_spread S d p0 p1 p2).bind fun b6 => if b6.1.2.1 p0 = (7, 0) then ((fX8_fitWays b6.1 b6.2 p0).bind fun b12 => (sk_itr (fX8_rowsTo_L13 p0 b12.1) ((0 : Int32), b12.2)).bind fun y1 => (sk_gR b12.1 p0 7 5).bind fun v13 => if b12.1.2.1 p0 = (7, 0) then ((fX8_spot b12.1 y1 p0 p2).bind fun v15 => (sk_sJ b12.1 y1 v13 v15 (1 : Int64)).bind fun d18 => (sk_itr (fX8_rowsTo_L69 p0 p1 p4) ((0 : Int32), b12.1, d18)).bind fun y2 => (sk_itr (fX8_rowsTo_L93 p0 p3 y2.1 y2.2) ((0 : Int64), (0 : Int32))).bind fun x3 => some x3) else none) else none) else none
theorem monoX8_rowsTo (S : sk_S) (d : sk_D) (p0 : Nat) (p1 : Nat) (p2 : Int32) (p3 : Int32) (p4 : Int32) : sk_Mo S.1 (fun (z : Int64 × sk_S × sk_D) => z.2.1.1) (fX8_rowsTo S d p0 p1 p2 p3 p4) := by
  unfold fX8_rowsTo
  repeat' (first | exact mo_none | exact mo_some ⟨Nat.le_refl _, Nat.le_refl _⟩ | refine mo_pR (fun _ => ?_) | refine mo_mk (fun _ => ?_) | refine mo_sR24 (fun _ => ?_) | refine mo_sR25 (fun _ => ?_) | refine mo_A ⟨Nat.le_refl _, Nat.le_refl _⟩ (monoX8_spread _ _ _ _ _) (fun _ => ?_) | refine mo_A (sk_nS_le _ _ _ _) (monoX8_spread _ _ _ _ _) (fun _ => ?_) | refine mo_A ⟨Nat.le_refl _, Nat.le_refl _⟩ (monoX8_fitWays _ _ _) (fun _ => ?_) | refine mo_A (sk_nS_le _ _ _ _) (monoX8_fitWays _ _ _) (fun _ => ?_) | refine mo_A ⟨Nat.le_refl _, Nat.le_refl _⟩ (monoX8_goOneOn _ _ _ _) (fun _ => ?_) | refine mo_A (sk_nS_le _ _ _ _) (monoX8_goOneOn _ _ _ _) (fun _ => ?_) | refine mo_bindQ (q := (fun (z : sk_S × sk_D) => z.1.1)) (mo_itr (μ := (fun (z : Int32 × sk_S × sk_D) => z.2.1.1)) (mono_fX8_rowsTo_L69 _ _ _) _) (fun _ => ?_) | refine mo_bindQ (q := (fun (z : Int64 × sk_S × sk_D) => z.2.1.1)) (mo_itrC (mono_fX8_rowsTo_L93 _ _ _ _) _) (fun _ => ?_) | refine mo_ite ?_ ?_ | refine mo_bind (fun _ => ?_) | dsimp only | split)
set_option maxRecDepth 100000 in
set_option maxHeartbeats 4000000 in
theorem sX8_rowsTo (C : sk_C) (l : Launch) {S : sk_S} {d : sk_D} {p0 : Nat} {p1 : Nat} {p2 : Int32} {p3 : Int32} {p4 : Int32} {rr : Int64} {SS : sk_S} {dd : sk_D} (hf : fX8_rowsTo S d p0 p1 p2 p3 p4 = some (rr, SS, dd)) : sk_Met C l 5 yX8_rowsTo cX8_rowsTo 8 (some .long) [.ref p0, .ref p1, .int p2, .int p3, .int p4] S d (some (.long rr)) SS dd := by
  have hmono := mo_use (n := S.1) (pr := (fun (z : Int64 × sk_S × sk_D) => z.2.1.1)) hf (monoX8_rowsTo S d p0 p1 p2 p3 p4)
  refine sk_Met.of (by decide) (Nat.le_of_ble_eq_true rfl) hmono.1 hmono.2 (fun X K0 hX => ?_)
  have K : sk_Ok X C cX8_rowsTo 8 RX8 "rowsTo" (some .long) 5 l (some (.long rr)) SS dd := K0
  have R1 : X.2.2.2.2.2.2.2.2.2.2.2.1 ≤ S.1.1 ∧ X.2.2.2.2.2.2.2.2.2.2.2.2 ≤ S.1.2 := by rw [hX]; exact ⟨Nat.le_refl _, Nat.le_refl _⟩
  have R2 : S.1.1 ≤ SS.1.1 ∧ S.1.2 ≤ SS.1.2 := hmono
  show sk_G X C 8 S d 0 [(0, .ref p0), (1, .ref p1), (2, .int p2), (3, .int p3), (4, .int p4)] []
  unfold fX8_rowsTo at hf
  refine sk_aload_n K dX8_rowsTo_0 rfl 0 rfl ?_
  refine sk_aload_n K dX8_rowsTo_1 rfl 1 rfl ?_
  refine sk_iload_n K dX8_rowsTo_2 rfl 2 rfl ?_
  obtain ⟨h5, hf⟩ := sk_ib hf
  obtain ⟨⟨S3, d4⟩, e2, hf⟩ := sk_ob hf
  try dsimp only at hf
  have R1_S3 := sk_le_tr R1 (mo_use (pr := (fun (z : sk_S × sk_D) => z.1.1)) e2 (monoX8_spread _ _ _ _ _))
  have R2_S3 : S3.1.1 ≤ SS.1.1 ∧ S3.1.2 ≤ SS.1.2 := mo_use (n := S3.1) (pr := (fun (z : Int64 × sk_S × sk_D) => z.2.1.1)) hf (by repeat' (first | exact mo_none | exact mo_some ⟨Nat.le_refl _, Nat.le_refl _⟩ | refine mo_pR (fun _ => ?_) | refine mo_mk (fun _ => ?_) | refine mo_sR24 (fun _ => ?_) | refine mo_sR25 (fun _ => ?_) | refine mo_A ⟨Nat.le_refl _, Nat.le_refl _⟩ (monoX8_spread _ _ _ _ _) (fun _ => ?_) | refine mo_A (sk_nS_le _ _ _ _) (monoX8_spread _ _ _ _ _) (fun _ => ?_) | refine mo_A ⟨Nat.le_refl _, Nat.le_refl _⟩ (monoX8_fitWays _ _ _) (fun _ => ?_) | refine mo_A (sk_nS_le _ _ _ _) (monoX8_fitWays _ _ _) (fun _ => ?_) | refine mo_A ⟨Nat.le_refl _, Nat.le_refl _⟩ (monoX8_goOneOn _ _ _ _) (fun _ => ?_) | refine mo_A (sk_nS_le _ _ _ _) (monoX8_goOneOn _ _ _ _) (fun _ => ?_) | refine mo_bindQ (q := (fun (z : sk_S × sk_D) => z.1.1)) (mo_itr (μ := (fun (z : Int32 × sk_S × sk_D) => z.2.1.1)) (mono_fX8_rowsTo_L69 _ _ _) _) (fun _ => ?_) | refine mo_bindQ (q := (fun (z : Int64 × sk_S × sk_D) => z.2.1.1)) (mo_itrC (mono_fX8_rowsTo_L93 _ _ _ _) _) (fun _ => ?_) | refine mo_ite ?_ ?_ | refine mo_bind (fun _ => ?_) | dsimp only | split))
  refine sk_callV (As := [.ref p1, .int p2]) (st := []) K dX8_rowsTo_3 cl_X8_80 h5 (sX8_spread C l e2) (by decide) rfl rfl (Nat.le_of_ble_eq_true rfl) R1 R2_S3 ?_
  refine sk_aload_n K dX8_rowsTo_6 rfl 0 rfl ?_
  obtain ⟨h11, hf⟩ := sk_ib hf
  obtain ⟨⟨S9, d10⟩, e8, hf⟩ := sk_ob hf
  try dsimp only at hf
  have R1_S9 := sk_le_tr R1_S3 (mo_use (pr := (fun (z : sk_S × sk_D) => z.1.1)) e8 (monoX8_fitWays _ _ _))
  have R2_S9 : S9.1.1 ≤ SS.1.1 ∧ S9.1.2 ≤ SS.1.2 := mo_use (n := S9.1) (pr := (fun (z : Int64 × sk_S × sk_D) => z.2.1.1)) hf (by repeat' (first | exact mo_none | exact mo_some ⟨Nat.le_refl _, Nat.le_refl _⟩ | refine mo_pR (fun _ => ?_) | refine mo_mk (fun _ => ?_) | refine mo_sR24 (fun _ => ?_) | refine mo_sR25 (fun _ => ?_) | refine mo_A ⟨Nat.le_refl _, Nat.le_refl _⟩ (monoX8_spread _ _ _ _ _) (fun _ => ?_) | refine mo_A (sk_nS_le _ _ _ _) (monoX8_spread _ _ _ _ _) (fun _ => ?_) | refine mo_A ⟨Nat.le_refl _, Nat.le_refl _⟩ (monoX8_fitWays _ _ _) (fun _ => ?_) | refine mo_A (sk_nS_le _ _ _ _) (monoX8_fitWays _ _ _) (fun _ => ?_) | refine mo_A ⟨Nat.le_refl _, Nat.le_refl _⟩ (monoX8_goOneOn _ _ _ _) (fun _ => ?_) | refine mo_A (sk_nS_le _ _ _ _) (monoX8_goOneOn _ _ _ _) (fun _ => ?_) | refine mo_bindQ (q := (fun (z : sk_S × sk_D) => z.1.1)) (mo_itr (μ := (fun (z : Int32 × sk_S × sk_D) => z.2.1.1)) (mono_fX8_rowsTo_L69 _ _ _) _) (fun _ => ?_) | refine mo_bindQ (q := (fun (z : Int64 × sk_S × sk_D) => z.2.1.1)) (mo_itrC (mono_fX8_rowsTo_L93 _ _ _ _) _) (fun _ => ?_) | refine mo_ite ?_ ?_ | refine mo_bind (fun _ => ?_) | dsimp only | split))
  refine sk_callV (As := []) (st := []) K dX8_rowsTo_7 cl_X8_101 h11 (sX8_fitWays C l e8) (by decide) rfl rfl (Nat.le_of_ble_eq_true rfl) R1_S3 R2_S9 ?_
  refine sk_iconst (0 : Int32) K dX8_rowsTo_10 (by decide) ?_
  refine sk_istore [(5, .int (0 : Int32)), (0, .ref p0), (1, .ref p1), (2, .int p2), (3, .int p3), (4, .int p4)] K dX8_rowsTo_11 (by decide) rfl ?_
  obtain ⟨x1, he1, hf⟩ := sk_ob hf
  have rest1 : ∀ y1, y1 = x1 → sk_G X C 8 S9 y1 55 [(0, .ref p0), (1, .ref p1), (2, .int p2), (3, .int p3), (4, .int p4)] [] := by
    intro y1 hy
    subst hy
    refine sk_aload_n K dX8_rowsTo_55 rfl 0 rfl ?_
    obtain ⟨v13, e14, hf⟩ := sk_ob hf
    refine sk_getR K dX8_rowsTo_56 fl_X8_28 rfl e14 ?_
    refine sk_aload_n K dX8_rowsTo_59 rfl 0 rfl ?_
    refine sk_iload_n K dX8_rowsTo_60 rfl 2 rfl ?_
    obtain ⟨h17, hf⟩ := sk_ib hf
    obtain ⟨v15, e16, hf⟩ := sk_ob hf
    refine sk_callV (As := [.int p2]) (st := [.ref v13]) K dX8_rowsTo_61 cl_X8_35 h17 (sX8_spot C l e16) (by decide) rfl rfl (Nat.le_of_ble_eq_true rfl) R1_S9 R2_S9 ?_
    refine sk_lconst (1 : Int64) K dX8_rowsTo_64 (by decide) ?_
    obtain ⟨d18, e19, hf⟩ := sk_ob hf
    refine sk_ast21 d18 K dX8_rowsTo_65 e19 ?_
    refine sk_iconst (0 : Int32) K dX8_rowsTo_66 (by decide) ?_
    refine sk_istore [(5, .int (0 : Int32)), (0, .ref p0), (1, .ref p1), (2, .int p2), (3, .int p3), (4, .int p4)] K dX8_rowsTo_67 (by decide) rfl ?_
    obtain ⟨x2, he2, hf⟩ := sk_ob hf
    have rest2 : ∀ y2, y2 = x2 → (X.2.2.2.2.2.2.2.2.2.2.2.1 ≤ y2.1.1.1 ∧ X.2.2.2.2.2.2.2.2.2.2.2.2 ≤ y2.1.1.2) → sk_G X C 8 y2.1 y2.2 87 [(0, .ref p0), (3, .int p3)] [] := by
      intro y2 hy R1y2
      subst hy
      have R2y2 : y2.1.1.1 ≤ SS.1.1 ∧ y2.1.1.2 ≤ SS.1.2 := mo_use (n := y2.1.1) (pr := (fun (z : Int64 × sk_S × sk_D) => z.2.1.1)) hf (by repeat' (first | exact mo_none | exact mo_some ⟨Nat.le_refl _, Nat.le_refl _⟩ | refine mo_pR (fun _ => ?_) | refine mo_mk (fun _ => ?_) | refine mo_sR24 (fun _ => ?_) | refine mo_sR25 (fun _ => ?_) | refine mo_A ⟨Nat.le_refl _, Nat.le_refl _⟩ (monoX8_spread _ _ _ _ _) (fun _ => ?_) | refine mo_A (sk_nS_le _ _ _ _) (monoX8_spread _ _ _ _ _) (fun _ => ?_) | refine mo_A ⟨Nat.le_refl _, Nat.le_refl _⟩ (monoX8_fitWays _ _ _) (fun _ => ?_) | refine mo_A (sk_nS_le _ _ _ _) (monoX8_fitWays _ _ _) (fun _ => ?_) | refine mo_A ⟨Nat.le_refl _, Nat.le_refl _⟩ (monoX8_goOneOn _ _ _ _) (fun _ => ?_) | refine mo_A (sk_nS_le _ _ _ _) (monoX8_goOneOn _ _ _ _) (fun _ => ?_) | refine mo_bindQ (q := (fun (z : sk_S × sk_D) => z.1.1)) (mo_itr (μ := (fun (z : Int32 × sk_S × sk_D) => z.2.1.1)) (mono_fX8_rowsTo_L69 _ _ _) _) (fun _ => ?_) | refine mo_bindQ (q := (fun (z : Int64 × sk_S × sk_D) => z.2.1.1)) (mo_itrC (mono_fX8_rowsTo_L93 _ _ _ _) _) (fun _ => ?_) | refine mo_ite ?_ ?_ | refine mo_bind (fun _ => ?_) | dsimp only | split))
      refine sk_lconst (0 : Int64) K dX8_rowsTo_87 (by decide) ?_
      refine sk_lstore [(5, .long (0 : Int64)), (0, .ref p0), (3, .int p3)] K dX8_rowsTo_88 (by decide) rfl ?_
      refine sk_iconst (0 : Int32) K dX8_rowsTo_90 (by decide) ?_
      refine sk_istore [(7, .int (0 : Int32)), (5, .long (0 : Int64)), (0, .ref p0), (3, .int p3)] K dX8_rowsTo_91 (by decide) rfl ?_
      obtain ⟨x3, he3, hf⟩ := sk_ob hf
      have hret3 : ∀ r, r = x3 → r = (rr, SS, dd) := by
        intro r hr
        subst hr
        exact Option.some.inj hf
      refine sk_sub [(0, .ref p0), (3, .int p3), (5, .long (0 : Int64)), (7, .int (0 : Int32))] [2, 3, 1, 0] rfl ?_
      refine sk_loop (fun s3 => sk_G X C 8 y2.1 y2.2 93 [(0, .ref p0), (3, .int p3), (5, .long s3.1), (7, .int s3.2)] []) he3 (fun s3 o3 hf ih3 hx3 => ?_)
      unfold fX8_rowsTo_L93 at hf
      refine sk_iload K dX8_rowsTo_93 3 rfl ?_
      refine sk_aload_n K dX8_rowsTo_95 rfl 0 rfl ?_
      obtain ⟨v20, e21, hf⟩ := sk_ob hf
      refine sk_getI K dX8_rowsTo_96 fl_X8_9 rfl e21 ?_
      refine sk_icmp_ge 156 K dX8_rowsTo_99 (by decide) (fun h22 => ?_) (fun h22 => ?_)
      · rw [if_pos h22] at hf
        refine sk_lload K dX8_rowsTo_156 2 rfl ?_
        have hR23 : (s3.1, y2.1, y2.2) = (rr, SS, dd) := hret3 _ (hx3 _ (Option.some.inj hf).symm)
        exact sk_lret K dX8_rowsTo_158 rfl rfl (congrArg (fun z => z.1) hR23) (congrArg (fun z => z.2.1) hR23) (congrArg (fun z => z.2.2) hR23)
      · rw [if_neg h22] at hf
        refine sk_iload K dX8_rowsTo_102 3 rfl ?_
        refine sk_aload_n K dX8_rowsTo_104 rfl 0 rfl ?_
        obtain ⟨v24, e25, hf⟩ := sk_ob hf
        refine sk_getR K dX8_rowsTo_105 fl_X8_21 rfl e25 ?_
        obtain ⟨v26, e27, hf⟩ := sk_ob hf
        refine sk_al20 K dX8_rowsTo_108 e27 ?_
        refine sk_icmp_ge 156 K dX8_rowsTo_109 (by decide) (fun h28 => ?_) (fun h28 => ?_)
        · rw [if_pos h28] at hf
          refine sk_lload K dX8_rowsTo_156 2 rfl ?_
          have hR29 : (s3.1, y2.1, y2.2) = (rr, SS, dd) := hret3 _ (hx3 _ (Option.some.inj hf).symm)
          exact sk_lret K dX8_rowsTo_158 rfl rfl (congrArg (fun z => z.1) hR29) (congrArg (fun z => z.2.1) hR29) (congrArg (fun z => z.2.2) hR29)
        · rw [if_neg h28] at hf
          refine sk_iload_n K dX8_rowsTo_112 rfl 1 rfl ?_
          refine sk_aload_n K dX8_rowsTo_113 rfl 0 rfl ?_
          obtain ⟨v30, e31, hf⟩ := sk_ob hf
          refine sk_getR K dX8_rowsTo_114 fl_X8_21 rfl e31 ?_
          refine sk_iload K dX8_rowsTo_117 3 rfl ?_
          obtain ⟨v32, e33, hf⟩ := sk_ob hf
          refine sk_ald20 K dX8_rowsTo_119 e33 ?_
          obtain ⟨v34, e35, hf⟩ := sk_ob hf
          refine sk_callN (As := [.int v32]) (st := [.int p3]) K dX8_rowsTo_120 cl_X8_84 (sX10_shownIn C l e35) (by decide) rfl rfl (Nat.le_of_ble_eq_true rfl) R1y2 R2y2 ?_
          refine sk_iconst (-1 : Int32) K dX8_rowsTo_123 (by decide) ?_
          refine sk_ixor K dX8_rowsTo_124 ?_
          refine sk_iand K dX8_rowsTo_125 ?_
          refine sk_if_ne 150 K dX8_rowsTo_126 (by decide) (fun h36 => ?_) (fun h36 => ?_)
          · rw [if_neg h36] at hf
            refine sk_iinc (s3.2 + 1) [(7, .int (s3.2 + 1)), (0, .ref p0), (3, .int p3), (5, .long s3.1)] K dX8_rowsTo_150 3 rfl rfl (by decide) rfl ?_
            refine sk_goto 93 K dX8_rowsTo_153 (by decide) ?_
            refine sk_sub [(0, .ref p0), (3, .int p3), (5, .long s3.1), (7, .int (s3.2 + 1))] [1, 2, 3, 0] rfl ?_
            have h9 := ih3 _ (Option.some.inj hf).symm
            exact h9
          · rw [if_pos h36] at hf
            refine sk_lload K dX8_rowsTo_129 2 rfl ?_
            refine sk_aload_n K dX8_rowsTo_131 rfl 0 rfl ?_
            obtain ⟨v37, e38, hf⟩ := sk_ob hf
            refine sk_getR K dX8_rowsTo_132 fl_X8_28 rfl e38 ?_
            refine sk_aload_n K dX8_rowsTo_135 rfl 0 rfl ?_
            refine sk_aload_n K dX8_rowsTo_136 rfl 0 rfl ?_
            obtain ⟨v39, e40, hf⟩ := sk_ob hf
            refine sk_getR K dX8_rowsTo_137 fl_X8_21 rfl e40 ?_
            refine sk_iload K dX8_rowsTo_140 3 rfl ?_
            obtain ⟨v41, e42, hf⟩ := sk_ob hf
            refine sk_ald20 K dX8_rowsTo_142 e42 ?_
            obtain ⟨h45, hf⟩ := sk_ib hf
            obtain ⟨v43, e44, hf⟩ := sk_ob hf
            refine sk_callV (As := [.int v41]) (st := [.ref v37, .long s3.1]) K dX8_rowsTo_143 cl_X8_35 h45 (sX8_spot C l e44) (by decide) rfl rfl (Nat.le_of_ble_eq_true rfl) R1y2 R2y2 ?_
            obtain ⟨v46, e47, hf⟩ := sk_ob hf
            refine sk_ald21 K dX8_rowsTo_146 e47 ?_
            refine sk_ladd K dX8_rowsTo_147 ?_
            refine sk_lstore [(5, .long (s3.1 + v46)), (0, .ref p0), (3, .int p3), (7, .int s3.2)] K dX8_rowsTo_148 (by decide) rfl ?_
            refine sk_iinc (s3.2 + 1) [(7, .int (s3.2 + 1)), (5, .long (s3.1 + v46)), (0, .ref p0), (3, .int p3)] K dX8_rowsTo_150 3 rfl rfl (by decide) rfl ?_
            refine sk_goto 93 K dX8_rowsTo_153 (by decide) ?_
            refine sk_sub [(0, .ref p0), (3, .int p3), (5, .long (s3.1 + v46)), (7, .int (s3.2 + 1))] [2, 3, 1, 0] rfl ?_
            have h9 := ih3 _ (Option.some.inj hf).symm
            exact h9
    refine sk_sub [(0, .ref p0), (1, .ref p1), (3, .int p3), (4, .int p4), (5, .int (0 : Int32))] [1, 2, 4, 5, 0] rfl ?_
    have mb2 := mono_fX8_rowsTo_L69 p0 p1 p4
    have R2x2 : ((fun (z : sk_S × sk_D) => z.1.1) x2).1 ≤ SS.1.1 ∧ ((fun (z : sk_S × sk_D) => z.1.1) x2).2 ≤ SS.1.2 := mo_use (n := (fun (z : sk_S × sk_D) => z.1.1) x2) (pr := (fun (z : Int64 × sk_S × sk_D) => z.2.1.1)) hf (by repeat' (first | exact mo_none | exact mo_some ⟨Nat.le_refl _, Nat.le_refl _⟩ | refine mo_pR (fun _ => ?_) | refine mo_mk (fun _ => ?_) | refine mo_sR24 (fun _ => ?_) | refine mo_sR25 (fun _ => ?_) | refine mo_A ⟨Nat.le_refl _, Nat.le_refl _⟩ (monoX8_spread _ _ _ _ _) (fun _ => ?_) | refine mo_A (sk_nS_le _ _ _ _) (monoX8_spread _ _ _ _ _) (fun _ => ?_) | refine mo_A ⟨Nat.le_refl _, Nat.le_refl _⟩ (monoX8_fitWays _ _ _) (fun _ => ?_) | refine mo_A (sk_nS_le _ _ _ _) (monoX8_fitWays _ _ _) (fun _ => ?_) | refine mo_A ⟨Nat.le_refl _, Nat.le_refl _⟩ (monoX8_goOneOn _ _ _ _) (fun _ => ?_) | refine mo_A (sk_nS_le _ _ _ _) (monoX8_goOneOn _ _ _ _) (fun _ => ?_) | refine mo_bindQ (q := (fun (z : sk_S × sk_D) => z.1.1)) (mo_itr (μ := (fun (z : Int32 × sk_S × sk_D) => z.2.1.1)) (mono_fX8_rowsTo_L69 _ _ _) _) (fun _ => ?_) | refine mo_bindQ (q := (fun (z : Int64 × sk_S × sk_D) => z.2.1.1)) (mo_itrC (mono_fX8_rowsTo_L93 _ _ _ _) _) (fun _ => ?_) | refine mo_ite ?_ ?_ | refine mo_bind (fun _ => ?_) | dsimp only | split))
    refine sk_loop2 (fun s2 => (X.2.2.2.2.2.2.2.2.2.2.2.1 ≤ s2.2.1.1.1 ∧ X.2.2.2.2.2.2.2.2.2.2.2.2 ≤ s2.2.1.1.2) → sk_G X C 8 s2.2.1 s2.2.2 69 [(0, .ref p0), (1, .ref p1), (3, .int p3), (4, .int p4), (5, .int s2.1)] []) he2 (fun s2 o2 hit2 hf ih2 hx2 => ?_) R1_S9
    intro R1s2
    have RO2 := sk_le_tr (mo_step mb2 hit2 hf) R2x2
    have R2s2 : s2.2.1.1.1 ≤ SS.1.1 ∧ s2.2.1.1.2 ≤ SS.1.2 := sk_le_tr (mo_use hit2 (mo_itr mb2 s2)) R2x2
    unfold fX8_rowsTo_L69 at hf
    refine sk_iload K dX8_rowsTo_69 4 rfl ?_
    refine sk_iload K dX8_rowsTo_71 3 rfl ?_
    refine sk_icmp_ge 87 K dX8_rowsTo_73 (by decide) (fun h48 => ?_) (fun h48 => ?_)
    · rw [if_pos h48] at hf
      refine sk_sub [(0, .ref p0), (3, .int p3)] [0, 2] rfl ?_
      have h9 := rest2 _ (hx2 _ (Option.some.inj hf).symm)
      exact h9 R1s2
    · rw [if_neg h48] at hf
      refine sk_aload_n K dX8_rowsTo_76 rfl 0 rfl ?_
      refine sk_aload_n K dX8_rowsTo_77 rfl 1 rfl ?_
      obtain ⟨h53, hf⟩ := sk_ib hf
      obtain ⟨⟨S51, d52⟩, e50, hf⟩ := sk_ob hf
      try dsimp only at hf
      have R1_S51 := sk_le_tr R1s2 (mo_use (pr := (fun (z : sk_S × sk_D) => z.1.1)) e50 (monoX8_goOneOn _ _ _ _))
      have R2_S51 : S51.1.1 ≤ SS.1.1 ∧ S51.1.2 ≤ SS.1.2 := sk_le_tr (mo_use (n := S51.1) (pr := (Sum.elim (fun (z : Int32 × sk_S × sk_D) => z.2.1.1) (fun (z : sk_S × sk_D) => z.1.1))) hf (by repeat' (first | exact mo_none | exact mo_some ⟨Nat.le_refl _, Nat.le_refl _⟩ | refine mo_pR (fun _ => ?_) | refine mo_mk (fun _ => ?_) | refine mo_sR24 (fun _ => ?_) | refine mo_sR25 (fun _ => ?_) | refine mo_A ⟨Nat.le_refl _, Nat.le_refl _⟩ (monoX8_spread _ _ _ _ _) (fun _ => ?_) | refine mo_A (sk_nS_le _ _ _ _) (monoX8_spread _ _ _ _ _) (fun _ => ?_) | refine mo_A ⟨Nat.le_refl _, Nat.le_refl _⟩ (monoX8_fitWays _ _ _) (fun _ => ?_) | refine mo_A (sk_nS_le _ _ _ _) (monoX8_fitWays _ _ _) (fun _ => ?_) | refine mo_A ⟨Nat.le_refl _, Nat.le_refl _⟩ (monoX8_goOneOn _ _ _ _) (fun _ => ?_) | refine mo_A (sk_nS_le _ _ _ _) (monoX8_goOneOn _ _ _ _) (fun _ => ?_) | refine mo_bindQ (q := (fun (z : sk_S × sk_D) => z.1.1)) (mo_itr (μ := (fun (z : Int32 × sk_S × sk_D) => z.2.1.1)) (mono_fX8_rowsTo_L69 _ _ _) _) (fun _ => ?_) | refine mo_bindQ (q := (fun (z : Int64 × sk_S × sk_D) => z.2.1.1)) (mo_itrC (mono_fX8_rowsTo_L93 _ _ _ _) _) (fun _ => ?_) | refine mo_ite ?_ ?_ | refine mo_bind (fun _ => ?_) | dsimp only | split))) RO2
      refine sk_callV (As := [.ref p1]) (st := []) K dX8_rowsTo_78 cl_X8_104 h53 (sX8_goOneOn C l e50) (by decide) rfl rfl (Nat.le_of_ble_eq_true rfl) R1s2 R2_S51 ?_
      refine sk_iinc (s2.1 + 1) [(5, .int (s2.1 + 1)), (0, .ref p0), (1, .ref p1), (3, .int p3), (4, .int p4)] K dX8_rowsTo_81 4 rfl rfl (by decide) rfl ?_
      refine sk_goto 69 K dX8_rowsTo_84 (by decide) ?_
      refine sk_sub [(0, .ref p0), (1, .ref p1), (3, .int p3), (4, .int p4), (5, .int (s2.1 + 1))] [1, 2, 3, 4, 0] rfl ?_
      have h9 := ih2 _ (Option.some.inj hf).symm
      exact h9 R1_S51
  refine sk_sub [(0, .ref p0), (1, .ref p1), (2, .int p2), (3, .int p3), (4, .int p4), (5, .int (0 : Int32))] [1, 2, 3, 4, 5, 0] rfl ?_
  refine sk_loop (fun s1 => sk_G X C 8 S9 s1.2 13 [(0, .ref p0), (1, .ref p1), (2, .int p2), (3, .int p3), (4, .int p4), (5, .int s1.1)] []) he1 (fun s1 o1 hf ih1 hx1 => ?_)
  unfold fX8_rowsTo_L13 at hf
  refine sk_iload K dX8_rowsTo_13 5 rfl ?_
  refine sk_aload_n K dX8_rowsTo_15 rfl 0 rfl ?_
  obtain ⟨v55, e56, hf⟩ := sk_ob hf
  refine sk_getI K dX8_rowsTo_16 fl_X8_9 rfl e56 ?_
  refine sk_icmp_ge 55 K dX8_rowsTo_19 (by decide) (fun h57 => ?_) (fun h57 => ?_)
  · rw [if_pos h57] at hf
    refine sk_sub [(0, .ref p0), (1, .ref p1), (2, .int p2), (3, .int p3), (4, .int p4)] [0, 1, 2, 3, 4] rfl ?_
    have h9 := rest1 _ (hx1 _ (Option.some.inj hf).symm)
    exact h9
  · rw [if_neg h57] at hf
    refine sk_iload K dX8_rowsTo_22 5 rfl ?_
    refine sk_aload_n K dX8_rowsTo_24 rfl 0 rfl ?_
    obtain ⟨v58, e59, hf⟩ := sk_ob hf
    refine sk_getR K dX8_rowsTo_25 fl_X8_21 rfl e59 ?_
    obtain ⟨v60, e61, hf⟩ := sk_ob hf
    refine sk_al20 K dX8_rowsTo_28 e61 ?_
    refine sk_icmp_ge 55 K dX8_rowsTo_29 (by decide) (fun h62 => ?_) (fun h62 => ?_)
    · rw [if_pos h62] at hf
      refine sk_sub [(0, .ref p0), (1, .ref p1), (2, .int p2), (3, .int p3), (4, .int p4)] [0, 1, 2, 3, 4] rfl ?_
      have h9 := rest1 _ (hx1 _ (Option.some.inj hf).symm)
      exact h9
    · rw [if_neg h62] at hf
      refine sk_aload_n K dX8_rowsTo_32 rfl 0 rfl ?_
      obtain ⟨v63, e64, hf⟩ := sk_ob hf
      refine sk_getR K dX8_rowsTo_33 fl_X8_28 rfl e64 ?_
      refine sk_aload_n K dX8_rowsTo_36 rfl 0 rfl ?_
      refine sk_aload_n K dX8_rowsTo_37 rfl 0 rfl ?_
      obtain ⟨v65, e66, hf⟩ := sk_ob hf
      refine sk_getR K dX8_rowsTo_38 fl_X8_21 rfl e66 ?_
      refine sk_iload K dX8_rowsTo_41 5 rfl ?_
      obtain ⟨v67, e68, hf⟩ := sk_ob hf
      refine sk_ald20 K dX8_rowsTo_43 e68 ?_
      obtain ⟨h71, hf⟩ := sk_ib hf
      obtain ⟨v69, e70, hf⟩ := sk_ob hf
      refine sk_callV (As := [.int v67]) (st := [.ref v63]) K dX8_rowsTo_44 cl_X8_35 h71 (sX8_spot C l e70) (by decide) rfl rfl (Nat.le_of_ble_eq_true rfl) R1_S9 R2_S9 ?_
      refine sk_lconst (0 : Int64) K dX8_rowsTo_47 (by decide) ?_
      obtain ⟨d72, e73, hf⟩ := sk_ob hf
      refine sk_ast21 d72 K dX8_rowsTo_48 e73 ?_
      refine sk_iinc (s1.1 + 1) [(5, .int (s1.1 + 1)), (0, .ref p0), (1, .ref p1), (2, .int p2), (3, .int p3), (4, .int p4)] K dX8_rowsTo_49 5 rfl rfl (by decide) rfl ?_
      refine sk_goto 13 K dX8_rowsTo_52 (by decide) ?_
      refine sk_sub [(0, .ref p0), (1, .ref p1), (2, .int p2), (3, .int p3), (4, .int p4), (5, .int (s1.1 + 1))] [1, 2, 3, 4, 5, 0] rfl ?_
      have h9 := ih1 _ (Option.some.inj hf).symm
      exact h9
noncomputable def fX9_init (S : sk_S) (d : sk_D) (p0 : Nat) : Option (sk_S × sk_D) :=
  (fX2_init (sk_nS S 2 0 (sk_N 2)) (sk_nD S d) (S.1.1 + 1)).bind fun b6 => (sk_pR b6.1 p0 8 0 (S.1.1 + 1)).bind fun S7 => (sk_mk S7 b6.2 22 (2048 : Int32)).bind fun b13 => (sk_pR b13.2.1 p0 8 1 b13.1).bind fun S14 => (sk_mk S14 b13.2.2 20 (2048 : Int32)).bind fun b20 => (sk_pR b20.2.1 p0 8 2 b20.1).bind fun S21 => (sk_mk S21 b20.2.2 20 (6 : Int32)).bind fun b27 => (sk_pR b27.2.1 p0 8 3 b27.1).bind fun S28 => some (S28, b27.2.2)
theorem monoX9_init (S : sk_S) (d : sk_D) (p0 : Nat) : sk_Mo S.1 (fun (z : sk_S × sk_D) => z.1.1) (fX9_init S d p0) := by
  unfold fX9_init
  repeat' (first | exact mo_none | exact mo_some ⟨Nat.le_refl _, Nat.le_refl _⟩ | refine mo_pR (fun _ => ?_) | refine mo_mk (fun _ => ?_) | refine mo_sR24 (fun _ => ?_) | refine mo_sR25 (fun _ => ?_) | refine mo_A ⟨Nat.le_refl _, Nat.le_refl _⟩ (monoX2_init _ _ _) (fun _ => ?_) | refine mo_A (sk_nS_le _ _ _ _) (monoX2_init _ _ _) (fun _ => ?_) | refine mo_ite ?_ ?_ | refine mo_bind (fun _ => ?_) | dsimp only | split)
set_option maxRecDepth 100000 in
set_option maxHeartbeats 4000000 in
theorem sX9_init (C : sk_C) (l : Launch) {S : sk_S} {d : sk_D} {p0 : Nat} {SS : sk_S} {dd : sk_D} (hf : fX9_init S d p0 = some (SS, dd)) : sk_Met C l 3 yX9_init cX9_init 1 none [.ref p0] S d none SS dd := by
  have hmono := mo_use (n := S.1) (pr := (fun (z : sk_S × sk_D) => z.1.1)) hf (monoX9_init S d p0)
  refine sk_Met.of (by decide) (Nat.le_of_ble_eq_true rfl) hmono.1 hmono.2 (fun X K0 hX => ?_)
  have K : sk_Ok X C cX9_init 1 RX9 "<init>" none 3 l none SS dd := K0
  have R1 : X.2.2.2.2.2.2.2.2.2.2.2.1 ≤ S.1.1 ∧ X.2.2.2.2.2.2.2.2.2.2.2.2 ≤ S.1.2 := by rw [hX]; exact ⟨Nat.le_refl _, Nat.le_refl _⟩
  have R2 : S.1.1 ≤ SS.1.1 ∧ S.1.2 ≤ SS.1.2 := hmono
  show sk_G X C 1 S d 0 [(0, .ref p0)] []
  unfold fX9_init at hf
  obtain ⟨⟨S4, d5⟩, e3, hf⟩ := sk_ob hf
  try dsimp only at hf
  have R1_S4 := sk_le_tr (sk_nS_le2 R1) (mo_use (pr := (fun (z : sk_S × sk_D) => z.1.1)) e3 (monoX2_init _ _ _))
  obtain ⟨S7, e8, hf⟩ := sk_ob hf
  have R1_S7 := sk_le_eq R1_S4 (sk_pR_1 e8)
  obtain ⟨⟨v9, S10, d11⟩, e12, hf⟩ := sk_ob hf
  try dsimp only at hf
  have R1_S10 := sk_le_tr R1_S7 (sk_mk_1 e12)
  obtain ⟨S14, e15, hf⟩ := sk_ob hf
  have R1_S14 := sk_le_eq R1_S10 (sk_pR_1 e15)
  obtain ⟨⟨v16, S17, d18⟩, e19, hf⟩ := sk_ob hf
  try dsimp only at hf
  have R1_S17 := sk_le_tr R1_S14 (sk_mk_1 e19)
  obtain ⟨S21, e22, hf⟩ := sk_ob hf
  have R1_S21 := sk_le_eq R1_S17 (sk_pR_1 e22)
  obtain ⟨⟨v23, S24, d25⟩, e26, hf⟩ := sk_ob hf
  try dsimp only at hf
  have R1_S24 := sk_le_tr R1_S21 (sk_mk_1 e26)
  obtain ⟨S28, e29, hf⟩ := sk_ob hf
  have R1_S28 := sk_le_eq R1_S24 (sk_pR_1 e29)
  have hR30 : (S28, d25) = (SS, dd) := Option.some.inj hf
  have R2_S28 : S28.1.1 ≤ SS.1.1 ∧ S28.1.2 ≤ SS.1.2 := sk_ss_le (show S28 = SS from congrArg (fun z => z.1) hR30)
  have R2_S24 : S24.1.1 ≤ SS.1.1 ∧ S24.1.2 ≤ SS.1.2 := sk_le_tr (sk_eq_le (sk_pR_1 e29)) R2_S28
  have R2_S21 : S21.1.1 ≤ SS.1.1 ∧ S21.1.2 ≤ SS.1.2 := sk_le_tr (sk_mk_1 e26) R2_S24
  have R2_S17 : S17.1.1 ≤ SS.1.1 ∧ S17.1.2 ≤ SS.1.2 := sk_le_tr (sk_eq_le (sk_pR_1 e22)) R2_S21
  have R2_S14 : S14.1.1 ≤ SS.1.1 ∧ S14.1.2 ≤ SS.1.2 := sk_le_tr (sk_mk_1 e19) R2_S17
  have R2_S10 : S10.1.1 ≤ SS.1.1 ∧ S10.1.2 ≤ SS.1.2 := sk_le_tr (sk_eq_le (sk_pR_1 e15)) R2_S14
  have R2_S7 : S7.1.1 ≤ SS.1.1 ∧ S7.1.2 ≤ SS.1.2 := sk_le_tr (sk_mk_1 e12) R2_S10
  have R2_S4 : S4.1.1 ≤ SS.1.1 ∧ S4.1.2 ≤ SS.1.2 := sk_le_tr (sk_eq_le (sk_pR_1 e8)) R2_S7
  have RN1 : S.1.1 + 1 ≤ SS.1.1 ∧ S.1.2 + sk_N 2 ≤ SS.1.2 := sk_le_tr (mo_use (pr := (fun (z : sk_S × sk_D) => z.1.1)) e3 (monoX2_init _ _ _)) R2_S4
  refine sk_aload_n K dX9_init_0 rfl 0 rfl ?_
  refine sk_objInit K dX9_init_1 qw_160 qw_153 qw_154 (by decide) (Nat.le_of_ble_eq_true rfl) ?_
  refine sk_aload_n K dX9_init_4 rfl 0 rfl ?_
  refine sk_new K dX9_init_5 nw_X9_9 R1 RN1 ?_
  refine sk_dup K dX9_init_8 rfl ?_
  refine sk_callI (As := []) (st := [.ref (S.1.1 + 1), .ref p0]) K dX9_init_9 cl_X9_11 rfl (sX2_init C l e3) (by decide) rfl rfl (Nat.le_of_ble_eq_true rfl) (sk_nS_le2 R1) R2_S4 ?_
  refine sk_putRF S7 K dX9_init_12 fl_X9_12 (fun _ _ _ h => by cases h; rfl) rfl rfl rfl rfl e8 ?_
  refine sk_aload_n K dX9_init_15 rfl 0 rfl ?_
  refine sk_sipush (2048 : Int32) K dX9_init_16 (by decide) ?_
  refine sk_newa22 K dX9_init_19 qw_282 e12 R1_S7 R2_S10 ?_
  refine sk_putRF S14 K dX9_init_21 fl_X9_18 (fun _ _ _ h => by cases h; rfl) rfl rfl rfl rfl e15 ?_
  refine sk_aload_n K dX9_init_24 rfl 0 rfl ?_
  refine sk_sipush (2048 : Int32) K dX9_init_25 (by decide) ?_
  refine sk_newa20 K dX9_init_28 qw_183 e19 R1_S14 R2_S17 ?_
  refine sk_putRF S21 K dX9_init_30 fl_X9_22 (fun _ _ _ h => by cases h; rfl) rfl rfl rfl rfl e22 ?_
  refine sk_aload_n K dX9_init_33 rfl 0 rfl ?_
  refine sk_bipush (6 : Int32) K dX9_init_34 (by decide) ?_
  refine sk_newa20 K dX9_init_36 qw_183 e26 R1_S21 R2_S24 ?_
  refine sk_putRF S28 K dX9_init_38 fl_X9_28 (fun _ _ _ h => by cases h; rfl) rfl rfl rfl rfl e29 ?_
  exact sk_vret K dX9_init_41 rfl rfl (congrArg (fun z => z.1) hR30) (congrArg (fun z => z.2) hR30)
noncomputable def fX10_init_L135 (p0 : Nat) (s2 : Int32 × sk_S × sk_D) : Option ((Int32 × sk_S × sk_D) ⊕ (sk_S × sk_D)) :=
  if (2 : Int32) ≤ s2.1 then (some (.inr (s2.2.1, s2.2.2))) else ((sk_gR s2.2.1 p0 9 7).bind fun v81 => (fX2_init (sk_nS s2.2.1 2 0 (sk_N 2)) (sk_nD s2.2.1 s2.2.2) (s2.2.1.1.1 + 1)).bind fun b88 => (sk_sR25 b88.1 v81 s2.1 (s2.2.1.1.1 + 1)).bind fun S89 => (sk_gR S89 p0 9 8).bind fun v91 => (sk_sI S89 b88.2 v91 20 s2.1 (-1 : Int32)).bind fun d93 => some (.inl (s2.1 + 1, S89, d93)))
theorem mono_fX10_init_L135 (p0 : Nat) : ∀ z, sk_Mo ((fun (z : Int32 × sk_S × sk_D) => z.2.1.1) z) (Sum.elim (fun (z : Int32 × sk_S × sk_D) => z.2.1.1) (fun (z : sk_S × sk_D) => z.1.1)) (fX10_init_L135 p0 z) := by
  intro z
  unfold fX10_init_L135
  repeat' (first | exact mo_none | exact mo_some ⟨Nat.le_refl _, Nat.le_refl _⟩ | refine mo_pR (fun _ => ?_) | refine mo_mk (fun _ => ?_) | refine mo_sR24 (fun _ => ?_) | refine mo_sR25 (fun _ => ?_) | refine mo_A ⟨Nat.le_refl _, Nat.le_refl _⟩ (monoX9_init _ _ _) (fun _ => ?_) | refine mo_A (sk_nS_le _ _ _ _) (monoX9_init _ _ _) (fun _ => ?_) | refine mo_A ⟨Nat.le_refl _, Nat.le_refl _⟩ (monoX5_init _ _ _) (fun _ => ?_) | refine mo_A (sk_nS_le _ _ _ _) (monoX5_init _ _ _) (fun _ => ?_) | refine mo_A ⟨Nat.le_refl _, Nat.le_refl _⟩ (monoX8_init _ _ _) (fun _ => ?_) | refine mo_A (sk_nS_le _ _ _ _) (monoX8_init _ _ _) (fun _ => ?_) | refine mo_A ⟨Nat.le_refl _, Nat.le_refl _⟩ (monoX3_init _ _ _) (fun _ => ?_) | refine mo_A (sk_nS_le _ _ _ _) (monoX3_init _ _ _) (fun _ => ?_) | refine mo_A ⟨Nat.le_refl _, Nat.le_refl _⟩ (monoX0_init _ _ _) (fun _ => ?_) | refine mo_A (sk_nS_le _ _ _ _) (monoX0_init _ _ _) (fun _ => ?_) | refine mo_A ⟨Nat.le_refl _, Nat.le_refl _⟩ (monoX4_init _ _ _) (fun _ => ?_) | refine mo_A (sk_nS_le _ _ _ _) (monoX4_init _ _ _) (fun _ => ?_) | refine mo_A ⟨Nat.le_refl _, Nat.le_refl _⟩ (monoX6_init _ _ _) (fun _ => ?_) | refine mo_A (sk_nS_le _ _ _ _) (monoX6_init _ _ _) (fun _ => ?_) | refine mo_A ⟨Nat.le_refl _, Nat.le_refl _⟩ (monoX2_init _ _ _) (fun _ => ?_) | refine mo_A (sk_nS_le _ _ _ _) (monoX2_init _ _ _) (fun _ => ?_) | refine mo_bindQ (q := (fun (z : sk_S × sk_D) => z.1.1)) (mo_itr (μ := (fun (z : Int32 × sk_S × sk_D) => z.2.1.1)) (mono_fX10_init_L109 _) _) (fun _ => ?_) | refine mo_bindQ (q := (fun (z : sk_S × sk_D) => z.1.1)) (mo_itr (μ := (fun (z : Int32 × sk_S × sk_D) => z.2.1.1)) (mono_fX10_init_L135 _) _) (fun _ => ?_) | refine mo_ite ?_ ?_ | refine mo_bind (fun _ => ?_) | dsimp only | split)
noncomputable def fX10_init_L109 (p0 : Nat) (s1 : Int32 × sk_S × sk_D) : Option ((Int32 × sk_S × sk_D) ⊕ (sk_S × sk_D)) :=
  if (4 : Int32) ≤ s1.1 then (some (.inr (s1.2.1, s1.2.2))) else ((sk_gR s1.2.1 p0 9 6).bind fun v96 => (fX6_init (sk_nS s1.2.1 6 0 (sk_N 6)) (sk_nD s1.2.1 s1.2.2) (s1.2.1.1.1 + 1)).bind fun b103 => (sk_sR24 b103.1 v96 s1.1 (s1.2.1.1.1 + 1)).bind fun S104 => some (.inl (s1.1 + 1, S104, b103.2)))
theorem mono_fX10_init_L109 (p0 : Nat) : ∀ z, sk_Mo ((fun (z : Int32 × sk_S × sk_D) => z.2.1.1) z) (Sum.elim (fun (z : Int32 × sk_S × sk_D) => z.2.1.1) (fun (z : sk_S × sk_D) => z.1.1)) (fX10_init_L109 p0 z) := by
  intro z
  unfold fX10_init_L109
  repeat' (first | exact mo_none | exact mo_some ⟨Nat.le_refl _, Nat.le_refl _⟩ | refine mo_pR (fun _ => ?_) | refine mo_mk (fun _ => ?_) | refine mo_sR24 (fun _ => ?_) | refine mo_sR25 (fun _ => ?_) | refine mo_A ⟨Nat.le_refl _, Nat.le_refl _⟩ (monoX9_init _ _ _) (fun _ => ?_) | refine mo_A (sk_nS_le _ _ _ _) (monoX9_init _ _ _) (fun _ => ?_) | refine mo_A ⟨Nat.le_refl _, Nat.le_refl _⟩ (monoX5_init _ _ _) (fun _ => ?_) | refine mo_A (sk_nS_le _ _ _ _) (monoX5_init _ _ _) (fun _ => ?_) | refine mo_A ⟨Nat.le_refl _, Nat.le_refl _⟩ (monoX8_init _ _ _) (fun _ => ?_) | refine mo_A (sk_nS_le _ _ _ _) (monoX8_init _ _ _) (fun _ => ?_) | refine mo_A ⟨Nat.le_refl _, Nat.le_refl _⟩ (monoX3_init _ _ _) (fun _ => ?_) | refine mo_A (sk_nS_le _ _ _ _) (monoX3_init _ _ _) (fun _ => ?_) | refine mo_A ⟨Nat.le_refl _, Nat.le_refl _⟩ (monoX0_init _ _ _) (fun _ => ?_) | refine mo_A (sk_nS_le _ _ _ _) (monoX0_init _ _ _) (fun _ => ?_) | refine mo_A ⟨Nat.le_refl _, Nat.le_refl _⟩ (monoX4_init _ _ _) (fun _ => ?_) | refine mo_A (sk_nS_le _ _ _ _) (monoX4_init _ _ _) (fun _ => ?_) | refine mo_A ⟨Nat.le_refl _, Nat.le_refl _⟩ (monoX6_init _ _ _) (fun _ => ?_) | refine mo_A (sk_nS_le _ _ _ _) (monoX6_init _ _ _) (fun _ => ?_) | refine mo_A ⟨Nat.le_refl _, Nat.le_refl _⟩ (monoX2_init _ _ _) (fun _ => ?_) | refine mo_A (sk_nS_le _ _ _ _) (monoX2_init _ _ _) (fun _ => ?_) | refine mo_bindQ (q := (fun (z : sk_S × sk_D) => z.1.1)) (mo_itr (μ := (fun (z : Int32 × sk_S × sk_D) => z.2.1.1)) (mono_fX10_init_L109 _) _) (fun _ => ?_) | refine mo_bindQ (q := (fun (z : sk_S × sk_D) => z.1.1)) (mo_itr (μ := (fun (z : Int32 × sk_S × sk_D) => z.2.1.1)) (mono_fX10_init_L135 _) _) (fun _ => ?_) | refine mo_ite ?_ ?_ | refine mo_bind (fun _ => ?_) | dsimp only | split)
noncomputable def fX10_init (S : sk_S) (d : sk_D) (p0 : Nat) : Option (sk_S × sk_D) :=
  (fX9_init (sk_nS S 8 0 (sk_N 8)) (sk_nD S d) (S.1.1 + 1)).bind fun b6 => (sk_pR b6.1 p0 9 0 (S.1.1 + 1)).bind fun S7 => (fX5_init (sk_nS S7 5 0 (sk_N 5)) (sk_nD S7 b6.2) (S7.1.1 + 1)).bind fun b14 => (sk_pR b14.1 p0 9 1 (S7.1.1 + 1)).bind fun S15 => (fX8_init (sk_nS S15 7 0 (sk_N 7)) (sk_nD S15 b14.2) (S15.1.1 + 1)).bind fun b22 => (sk_pR b22.1 p0 9 2 (S15.1.1 + 1)).bind fun S23 => (fX3_init (sk_nS S23 3 0 (sk_N 3)) (sk_nD S23 b22.2) (S23.1.1 + 1)).bind fun b30 => (sk_pR b30.1 p0 9 3 (S23.1.1 + 1)).bind fun S31 => (fX0_init (sk_nS S31 0 0 (sk_N 0)) (sk_nD S31 b30.2) (S31.1.1 + 1)).bind fun b38 => (sk_pR b38.1 p0 9 4 (S31.1.1 + 1)).bind fun S39 => (fX4_init (sk_nS S39 4 0 (sk_N 4)) (sk_nD S39 b38.2) (S39.1.1 + 1)).bind fun b46 => (sk_pR b46.1 p0 9 5 (S39.1.1 + 1)).bind fun S47 => (sk_mk S47 b46.2 24 (4 : Int32)).bind fun b53 => (sk_pR b53.2.1 p0 9 6 b53.1).bind fun S54 => (sk_mk S54 b53.2.2 25 (2 : Int32)).bind fun b60 => (sk_pR b60.2.1 p0 9 7 b60.1).bind fun S61 => (sk_mk S61 b60.2.2 20 (2 : Int32)).bind fun b67 => (sk_pR b67.2.1 p0 9 8 b67.1).bind fun S68 => (sk_mk S68 b67.2.2 20 (900 : Int32)).bind fun b74 => (sk_pR b74.2.1 p0 9 9 b74.1).bind fun S75 => (sk_pI S75 b74.2.2 p0 9 10 (0 : Int32)).bind fun d77 => (sk_itr (fX10_init_L109 p0) ((0 : Int32), S75, d77)).bind fun y1 => (sk_itr (fX10_init_L135 p0) ((0 : Int32), y1.1, y1.2)).bind fun x2 => some x2
theorem monoX10_init (S : sk_S) (d : sk_D) (p0 : Nat) : sk_Mo S.1 (fun (z : sk_S × sk_D) => z.1.1) (fX10_init S d p0) := by
  unfold fX10_init
  repeat' (first | exact mo_none | exact mo_some ⟨Nat.le_refl _, Nat.le_refl _⟩ | refine mo_pR (fun _ => ?_) | refine mo_mk (fun _ => ?_) | refine mo_sR24 (fun _ => ?_) | refine mo_sR25 (fun _ => ?_) | refine mo_A ⟨Nat.le_refl _, Nat.le_refl _⟩ (monoX9_init _ _ _) (fun _ => ?_) | refine mo_A (sk_nS_le _ _ _ _) (monoX9_init _ _ _) (fun _ => ?_) | refine mo_A ⟨Nat.le_refl _, Nat.le_refl _⟩ (monoX5_init _ _ _) (fun _ => ?_) | refine mo_A (sk_nS_le _ _ _ _) (monoX5_init _ _ _) (fun _ => ?_) | refine mo_A ⟨Nat.le_refl _, Nat.le_refl _⟩ (monoX8_init _ _ _) (fun _ => ?_) | refine mo_A (sk_nS_le _ _ _ _) (monoX8_init _ _ _) (fun _ => ?_) | refine mo_A ⟨Nat.le_refl _, Nat.le_refl _⟩ (monoX3_init _ _ _) (fun _ => ?_) | refine mo_A (sk_nS_le _ _ _ _) (monoX3_init _ _ _) (fun _ => ?_) | refine mo_A ⟨Nat.le_refl _, Nat.le_refl _⟩ (monoX0_init _ _ _) (fun _ => ?_) | refine mo_A (sk_nS_le _ _ _ _) (monoX0_init _ _ _) (fun _ => ?_) | refine mo_A ⟨Nat.le_refl _, Nat.le_refl _⟩ (monoX4_init _ _ _) (fun _ => ?_) | refine mo_A (sk_nS_le _ _ _ _) (monoX4_init _ _ _) (fun _ => ?_) | refine mo_A ⟨Nat.le_refl _, Nat.le_refl _⟩ (monoX6_init _ _ _) (fun _ => ?_) | refine mo_A (sk_nS_le _ _ _ _) (monoX6_init _ _ _) (fun _ => ?_) | refine mo_A ⟨Nat.le_refl _, Nat.le_refl _⟩ (monoX2_init _ _ _) (fun _ => ?_) | refine mo_A (sk_nS_le _ _ _ _) (monoX2_init _ _ _) (fun _ => ?_) | refine mo_bindQ (q := (fun (z : sk_S × sk_D) => z.1.1)) (mo_itr (μ := (fun (z : Int32 × sk_S × sk_D) => z.2.1.1)) (mono_fX10_init_L109 _) _) (fun _ => ?_) | refine mo_bindQ (q := (fun (z : sk_S × sk_D) => z.1.1)) (mo_itr (μ := (fun (z : Int32 × sk_S × sk_D) => z.2.1.1)) (mono_fX10_init_L135 _) _) (fun _ => ?_) | refine mo_ite ?_ ?_ | refine mo_bind (fun _ => ?_) | dsimp only | split)
set_option maxRecDepth 100000 in
set_option maxHeartbeats 4000000 in
theorem sX10_init (C : sk_C) (l : Launch) {S : sk_S} {d : sk_D} {p0 : Nat} {SS : sk_S} {dd : sk_D} (hf : fX10_init S d p0 = some (SS, dd)) : sk_Met C l 4 yX10_init cX10_init 2 none [.ref p0] S d none SS dd := by
  have hmono := mo_use (n := S.1) (pr := (fun (z : sk_S × sk_D) => z.1.1)) hf (monoX10_init S d p0)
  refine sk_Met.of (by decide) (Nat.le_of_ble_eq_true rfl) hmono.1 hmono.2 (fun X K0 hX => ?_)
  have K : sk_Ok X C cX10_init 2 RX10 "<init>" none 4 l none SS dd := K0
  have R1 : X.2.2.2.2.2.2.2.2.2.2.2.1 ≤ S.1.1 ∧ X.2.2.2.2.2.2.2.2.2.2.2.2 ≤ S.1.2 := by rw [hX]; exact ⟨Nat.le_refl _, Nat.le_refl _⟩
  have R2 : S.1.1 ≤ SS.1.1 ∧ S.1.2 ≤ SS.1.2 := hmono
  show sk_G X C 2 S d 0 [(0, .ref p0)] []
  unfold fX10_init at hf
  refine sk_aload_n K dX10_init_0 rfl 0 rfl ?_
  refine sk_objInit K dX10_init_1 qw_152 qw_153 qw_154 (by decide) (Nat.le_of_ble_eq_true rfl) ?_
  refine sk_aload_n K dX10_init_4 rfl 0 rfl ?_
  have RN1 : S.1.1 + 1 ≤ SS.1.1 ∧ S.1.2 + sk_N 8 ≤ SS.1.2 := mo_use (n := (sk_nS S 8 0 (sk_N 8)).1) (pr := (fun (z : sk_S × sk_D) => z.1.1)) hf (by repeat' (first | exact mo_none | exact mo_some ⟨Nat.le_refl _, Nat.le_refl _⟩ | refine mo_pR (fun _ => ?_) | refine mo_mk (fun _ => ?_) | refine mo_sR24 (fun _ => ?_) | refine mo_sR25 (fun _ => ?_) | refine mo_A ⟨Nat.le_refl _, Nat.le_refl _⟩ (monoX9_init _ _ _) (fun _ => ?_) | refine mo_A (sk_nS_le _ _ _ _) (monoX9_init _ _ _) (fun _ => ?_) | refine mo_A ⟨Nat.le_refl _, Nat.le_refl _⟩ (monoX5_init _ _ _) (fun _ => ?_) | refine mo_A (sk_nS_le _ _ _ _) (monoX5_init _ _ _) (fun _ => ?_) | refine mo_A ⟨Nat.le_refl _, Nat.le_refl _⟩ (monoX8_init _ _ _) (fun _ => ?_) | refine mo_A (sk_nS_le _ _ _ _) (monoX8_init _ _ _) (fun _ => ?_) | refine mo_A ⟨Nat.le_refl _, Nat.le_refl _⟩ (monoX3_init _ _ _) (fun _ => ?_) | refine mo_A (sk_nS_le _ _ _ _) (monoX3_init _ _ _) (fun _ => ?_) | refine mo_A ⟨Nat.le_refl _, Nat.le_refl _⟩ (monoX0_init _ _ _) (fun _ => ?_) | refine mo_A (sk_nS_le _ _ _ _) (monoX0_init _ _ _) (fun _ => ?_) | refine mo_A ⟨Nat.le_refl _, Nat.le_refl _⟩ (monoX4_init _ _ _) (fun _ => ?_) | refine mo_A (sk_nS_le _ _ _ _) (monoX4_init _ _ _) (fun _ => ?_) | refine mo_A ⟨Nat.le_refl _, Nat.le_refl _⟩ (monoX6_init _ _ _) (fun _ => ?_) | refine mo_A (sk_nS_le _ _ _ _) (monoX6_init _ _ _) (fun _ => ?_) | refine mo_A ⟨Nat.le_refl _, Nat.le_refl _⟩ (monoX2_init _ _ _) (fun _ => ?_) | refine mo_A (sk_nS_le _ _ _ _) (monoX2_init _ _ _) (fun _ => ?_) | refine mo_bindQ (q := (fun (z : sk_S × sk_D) => z.1.1)) (mo_itr (μ := (fun (z : Int32 × sk_S × sk_D) => z.2.1.1)) (mono_fX10_init_L109 _) _) (fun _ => ?_) | refine mo_bindQ (q := (fun (z : sk_S × sk_D) => z.1.1)) (mo_itr (μ := (fun (z : Int32 × sk_S × sk_D) => z.2.1.1)) (mono_fX10_init_L135 _) _) (fun _ => ?_) | refine mo_ite ?_ ?_ | refine mo_bind (fun _ => ?_) | dsimp only | split))
  refine sk_new K dX10_init_5 nw_X10_7 R1 RN1 ?_
  refine sk_dup K dX10_init_8 rfl ?_
  obtain ⟨⟨S4, d5⟩, e3, hf⟩ := sk_ob hf
  try dsimp only at hf
  have R1_S4 := sk_le_tr (sk_nS_le2 R1) (mo_use (pr := (fun (z : sk_S × sk_D) => z.1.1)) e3 (monoX9_init _ _ _))
  have R2_S4 : S4.1.1 ≤ SS.1.1 ∧ S4.1.2 ≤ SS.1.2 := mo_use (n := S4.1) (pr := (fun (z : sk_S × sk_D) => z.1.1)) hf (by repeat' (first | exact mo_none | exact mo_some ⟨Nat.le_refl _, Nat.le_refl _⟩ | refine mo_pR (fun _ => ?_) | refine mo_mk (fun _ => ?_) | refine mo_sR24 (fun _ => ?_) | refine mo_sR25 (fun _ => ?_) | refine mo_A ⟨Nat.le_refl _, Nat.le_refl _⟩ (monoX9_init _ _ _) (fun _ => ?_) | refine mo_A (sk_nS_le _ _ _ _) (monoX9_init _ _ _) (fun _ => ?_) | refine mo_A ⟨Nat.le_refl _, Nat.le_refl _⟩ (monoX5_init _ _ _) (fun _ => ?_) | refine mo_A (sk_nS_le _ _ _ _) (monoX5_init _ _ _) (fun _ => ?_) | refine mo_A ⟨Nat.le_refl _, Nat.le_refl _⟩ (monoX8_init _ _ _) (fun _ => ?_) | refine mo_A (sk_nS_le _ _ _ _) (monoX8_init _ _ _) (fun _ => ?_) | refine mo_A ⟨Nat.le_refl _, Nat.le_refl _⟩ (monoX3_init _ _ _) (fun _ => ?_) | refine mo_A (sk_nS_le _ _ _ _) (monoX3_init _ _ _) (fun _ => ?_) | refine mo_A ⟨Nat.le_refl _, Nat.le_refl _⟩ (monoX0_init _ _ _) (fun _ => ?_) | refine mo_A (sk_nS_le _ _ _ _) (monoX0_init _ _ _) (fun _ => ?_) | refine mo_A ⟨Nat.le_refl _, Nat.le_refl _⟩ (monoX4_init _ _ _) (fun _ => ?_) | refine mo_A (sk_nS_le _ _ _ _) (monoX4_init _ _ _) (fun _ => ?_) | refine mo_A ⟨Nat.le_refl _, Nat.le_refl _⟩ (monoX6_init _ _ _) (fun _ => ?_) | refine mo_A (sk_nS_le _ _ _ _) (monoX6_init _ _ _) (fun _ => ?_) | refine mo_A ⟨Nat.le_refl _, Nat.le_refl _⟩ (monoX2_init _ _ _) (fun _ => ?_) | refine mo_A (sk_nS_le _ _ _ _) (monoX2_init _ _ _) (fun _ => ?_) | refine mo_bindQ (q := (fun (z : sk_S × sk_D) => z.1.1)) (mo_itr (μ := (fun (z : Int32 × sk_S × sk_D) => z.2.1.1)) (mono_fX10_init_L109 _) _) (fun _ => ?_) | refine mo_bindQ (q := (fun (z : sk_S × sk_D) => z.1.1)) (mo_itr (μ := (fun (z : Int32 × sk_S × sk_D) => z.2.1.1)) (mono_fX10_init_L135 _) _) (fun _ => ?_) | refine mo_ite ?_ ?_ | refine mo_bind (fun _ => ?_) | dsimp only | split))
  refine sk_callI (As := []) (st := [.ref (S.1.1 + 1), .ref p0]) K dX10_init_9 cl_X10_9 rfl (sX9_init C l e3) (by decide) rfl rfl (Nat.le_of_ble_eq_true rfl) (sk_nS_le2 R1) R2_S4 ?_
  obtain ⟨S7, e8, hf⟩ := sk_ob hf
  have R1_S7 := sk_le_eq R1_S4 (sk_pR_1 e8)
  have R2_S7 : S7.1.1 ≤ SS.1.1 ∧ S7.1.2 ≤ SS.1.2 := mo_use (n := S7.1) (pr := (fun (z : sk_S × sk_D) => z.1.1)) hf (by repeat' (first | exact mo_none | exact mo_some ⟨Nat.le_refl _, Nat.le_refl _⟩ | refine mo_pR (fun _ => ?_) | refine mo_mk (fun _ => ?_) | refine mo_sR24 (fun _ => ?_) | refine mo_sR25 (fun _ => ?_) | refine mo_A ⟨Nat.le_refl _, Nat.le_refl _⟩ (monoX9_init _ _ _) (fun _ => ?_) | refine mo_A (sk_nS_le _ _ _ _) (monoX9_init _ _ _) (fun _ => ?_) | refine mo_A ⟨Nat.le_refl _, Nat.le_refl _⟩ (monoX5_init _ _ _) (fun _ => ?_) | refine mo_A (sk_nS_le _ _ _ _) (monoX5_init _ _ _) (fun _ => ?_) | refine mo_A ⟨Nat.le_refl _, Nat.le_refl _⟩ (monoX8_init _ _ _) (fun _ => ?_) | refine mo_A (sk_nS_le _ _ _ _) (monoX8_init _ _ _) (fun _ => ?_) | refine mo_A ⟨Nat.le_refl _, Nat.le_refl _⟩ (monoX3_init _ _ _) (fun _ => ?_) | refine mo_A (sk_nS_le _ _ _ _) (monoX3_init _ _ _) (fun _ => ?_) | refine mo_A ⟨Nat.le_refl _, Nat.le_refl _⟩ (monoX0_init _ _ _) (fun _ => ?_) | refine mo_A (sk_nS_le _ _ _ _) (monoX0_init _ _ _) (fun _ => ?_) | refine mo_A ⟨Nat.le_refl _, Nat.le_refl _⟩ (monoX4_init _ _ _) (fun _ => ?_) | refine mo_A (sk_nS_le _ _ _ _) (monoX4_init _ _ _) (fun _ => ?_) | refine mo_A ⟨Nat.le_refl _, Nat.le_refl _⟩ (monoX6_init _ _ _) (fun _ => ?_) | refine mo_A (sk_nS_le _ _ _ _) (monoX6_init _ _ _) (fun _ => ?_) | refine mo_A ⟨Nat.le_refl _, Nat.le_refl _⟩ (monoX2_init _ _ _) (fun _ => ?_) | refine mo_A (sk_nS_le _ _ _ _) (monoX2_init _ _ _) (fun _ => ?_) | refine mo_bindQ (q := (fun (z : sk_S × sk_D) => z.1.1)) (mo_itr (μ := (fun (z : Int32 × sk_S × sk_D) => z.2.1.1)) (mono_fX10_init_L109 _) _) (fun _ => ?_) | refine mo_bindQ (q := (fun (z : sk_S × sk_D) => z.1.1)) (mo_itr (μ := (fun (z : Int32 × sk_S × sk_D) => z.2.1.1)) (mono_fX10_init_L135 _) _) (fun _ => ?_) | refine mo_ite ?_ ?_ | refine mo_bind (fun _ => ?_) | dsimp only | split))
  refine sk_putRF S7 K dX10_init_12 fl_X10_10 (fun _ _ _ h => by cases h; rfl) rfl rfl rfl rfl e8 ?_
  refine sk_aload_n K dX10_init_15 rfl 0 rfl ?_
  have RN9 : S7.1.1 + 1 ≤ SS.1.1 ∧ S7.1.2 + sk_N 5 ≤ SS.1.2 := mo_use (n := (sk_nS S7 5 0 (sk_N 5)).1) (pr := (fun (z : sk_S × sk_D) => z.1.1)) hf (by repeat' (first | exact mo_none | exact mo_some ⟨Nat.le_refl _, Nat.le_refl _⟩ | refine mo_pR (fun _ => ?_) | refine mo_mk (fun _ => ?_) | refine mo_sR24 (fun _ => ?_) | refine mo_sR25 (fun _ => ?_) | refine mo_A ⟨Nat.le_refl _, Nat.le_refl _⟩ (monoX9_init _ _ _) (fun _ => ?_) | refine mo_A (sk_nS_le _ _ _ _) (monoX9_init _ _ _) (fun _ => ?_) | refine mo_A ⟨Nat.le_refl _, Nat.le_refl _⟩ (monoX5_init _ _ _) (fun _ => ?_) | refine mo_A (sk_nS_le _ _ _ _) (monoX5_init _ _ _) (fun _ => ?_) | refine mo_A ⟨Nat.le_refl _, Nat.le_refl _⟩ (monoX8_init _ _ _) (fun _ => ?_) | refine mo_A (sk_nS_le _ _ _ _) (monoX8_init _ _ _) (fun _ => ?_) | refine mo_A ⟨Nat.le_refl _, Nat.le_refl _⟩ (monoX3_init _ _ _) (fun _ => ?_) | refine mo_A (sk_nS_le _ _ _ _) (monoX3_init _ _ _) (fun _ => ?_) | refine mo_A ⟨Nat.le_refl _, Nat.le_refl _⟩ (monoX0_init _ _ _) (fun _ => ?_) | refine mo_A (sk_nS_le _ _ _ _) (monoX0_init _ _ _) (fun _ => ?_) | refine mo_A ⟨Nat.le_refl _, Nat.le_refl _⟩ (monoX4_init _ _ _) (fun _ => ?_) | refine mo_A (sk_nS_le _ _ _ _) (monoX4_init _ _ _) (fun _ => ?_) | refine mo_A ⟨Nat.le_refl _, Nat.le_refl _⟩ (monoX6_init _ _ _) (fun _ => ?_) | refine mo_A (sk_nS_le _ _ _ _) (monoX6_init _ _ _) (fun _ => ?_) | refine mo_A ⟨Nat.le_refl _, Nat.le_refl _⟩ (monoX2_init _ _ _) (fun _ => ?_) | refine mo_A (sk_nS_le _ _ _ _) (monoX2_init _ _ _) (fun _ => ?_) | refine mo_bindQ (q := (fun (z : sk_S × sk_D) => z.1.1)) (mo_itr (μ := (fun (z : Int32 × sk_S × sk_D) => z.2.1.1)) (mono_fX10_init_L109 _) _) (fun _ => ?_) | refine mo_bindQ (q := (fun (z : sk_S × sk_D) => z.1.1)) (mo_itr (μ := (fun (z : Int32 × sk_S × sk_D) => z.2.1.1)) (mono_fX10_init_L135 _) _) (fun _ => ?_) | refine mo_ite ?_ ?_ | refine mo_bind (fun _ => ?_) | dsimp only | split))
  refine sk_new K dX10_init_16 nw_X10_16 R1_S7 RN9 ?_
  refine sk_dup K dX10_init_19 rfl ?_
  obtain ⟨⟨S12, d13⟩, e11, hf⟩ := sk_ob hf
  try dsimp only at hf
  have R1_S12 := sk_le_tr (sk_nS_le2 R1_S7) (mo_use (pr := (fun (z : sk_S × sk_D) => z.1.1)) e11 (monoX5_init _ _ _))
  have R2_S12 : S12.1.1 ≤ SS.1.1 ∧ S12.1.2 ≤ SS.1.2 := mo_use (n := S12.1) (pr := (fun (z : sk_S × sk_D) => z.1.1)) hf (by repeat' (first | exact mo_none | exact mo_some ⟨Nat.le_refl _, Nat.le_refl _⟩ | refine mo_pR (fun _ => ?_) | refine mo_mk (fun _ => ?_) | refine mo_sR24 (fun _ => ?_) | refine mo_sR25 (fun _ => ?_) | refine mo_A ⟨Nat.le_refl _, Nat.le_refl _⟩ (monoX9_init _ _ _) (fun _ => ?_) | refine mo_A (sk_nS_le _ _ _ _) (monoX9_init _ _ _) (fun _ => ?_) | refine mo_A ⟨Nat.le_refl _, Nat.le_refl _⟩ (monoX5_init _ _ _) (fun _ => ?_) | refine mo_A (sk_nS_le _ _ _ _) (monoX5_init _ _ _) (fun _ => ?_) | refine mo_A ⟨Nat.le_refl _, Nat.le_refl _⟩ (monoX8_init _ _ _) (fun _ => ?_) | refine mo_A (sk_nS_le _ _ _ _) (monoX8_init _ _ _) (fun _ => ?_) | refine mo_A ⟨Nat.le_refl _, Nat.le_refl _⟩ (monoX3_init _ _ _) (fun _ => ?_) | refine mo_A (sk_nS_le _ _ _ _) (monoX3_init _ _ _) (fun _ => ?_) | refine mo_A ⟨Nat.le_refl _, Nat.le_refl _⟩ (monoX0_init _ _ _) (fun _ => ?_) | refine mo_A (sk_nS_le _ _ _ _) (monoX0_init _ _ _) (fun _ => ?_) | refine mo_A ⟨Nat.le_refl _, Nat.le_refl _⟩ (monoX4_init _ _ _) (fun _ => ?_) | refine mo_A (sk_nS_le _ _ _ _) (monoX4_init _ _ _) (fun _ => ?_) | refine mo_A ⟨Nat.le_refl _, Nat.le_refl _⟩ (monoX6_init _ _ _) (fun _ => ?_) | refine mo_A (sk_nS_le _ _ _ _) (monoX6_init _ _ _) (fun _ => ?_) | refine mo_A ⟨Nat.le_refl _, Nat.le_refl _⟩ (monoX2_init _ _ _) (fun _ => ?_) | refine mo_A (sk_nS_le _ _ _ _) (monoX2_init _ _ _) (fun _ => ?_) | refine mo_bindQ (q := (fun (z : sk_S × sk_D) => z.1.1)) (mo_itr (μ := (fun (z : Int32 × sk_S × sk_D) => z.2.1.1)) (mono_fX10_init_L109 _) _) (fun _ => ?_) | refine mo_bindQ (q := (fun (z : sk_S × sk_D) => z.1.1)) (mo_itr (μ := (fun (z : Int32 × sk_S × sk_D) => z.2.1.1)) (mono_fX10_init_L135 _) _) (fun _ => ?_) | refine mo_ite ?_ ?_ | refine mo_bind (fun _ => ?_) | dsimp only | split))
  refine sk_callI (As := []) (st := [.ref (S7.1.1 + 1), .ref p0]) K dX10_init_20 cl_X10_18 rfl (sX5_init C l e11) (by decide) rfl rfl (Nat.le_of_ble_eq_true rfl) (sk_nS_le2 R1_S7) R2_S12 ?_
  obtain ⟨S15, e16, hf⟩ := sk_ob hf
  have R1_S15 := sk_le_eq R1_S12 (sk_pR_1 e16)
  have R2_S15 : S15.1.1 ≤ SS.1.1 ∧ S15.1.2 ≤ SS.1.2 := mo_use (n := S15.1) (pr := (fun (z : sk_S × sk_D) => z.1.1)) hf (by repeat' (first | exact mo_none | exact mo_some ⟨Nat.le_refl _, Nat.le_refl _⟩ | refine mo_pR (fun _ => ?_) | refine mo_mk (fun _ => ?_) | refine mo_sR24 (fun _ => ?_) | refine mo_sR25 (fun _ => ?_) | refine mo_A ⟨Nat.le_refl _, Nat.le_refl _⟩ (monoX9_init _ _ _) (fun _ => ?_) | refine mo_A (sk_nS_le _ _ _ _) (monoX9_init _ _ _) (fun _ => ?_) | refine mo_A ⟨Nat.le_refl _, Nat.le_refl _⟩ (monoX5_init _ _ _) (fun _ => ?_) | refine mo_A (sk_nS_le _ _ _ _) (monoX5_init _ _ _) (fun _ => ?_) | refine mo_A ⟨Nat.le_refl _, Nat.le_refl _⟩ (monoX8_init _ _ _) (fun _ => ?_) | refine mo_A (sk_nS_le _ _ _ _) (monoX8_init _ _ _) (fun _ => ?_) | refine mo_A ⟨Nat.le_refl _, Nat.le_refl _⟩ (monoX3_init _ _ _) (fun _ => ?_) | refine mo_A (sk_nS_le _ _ _ _) (monoX3_init _ _ _) (fun _ => ?_) | refine mo_A ⟨Nat.le_refl _, Nat.le_refl _⟩ (monoX0_init _ _ _) (fun _ => ?_) | refine mo_A (sk_nS_le _ _ _ _) (monoX0_init _ _ _) (fun _ => ?_) | refine mo_A ⟨Nat.le_refl _, Nat.le_refl _⟩ (monoX4_init _ _ _) (fun _ => ?_) | refine mo_A (sk_nS_le _ _ _ _) (monoX4_init _ _ _) (fun _ => ?_) | refine mo_A ⟨Nat.le_refl _, Nat.le_refl _⟩ (monoX6_init _ _ _) (fun _ => ?_) | refine mo_A (sk_nS_le _ _ _ _) (monoX6_init _ _ _) (fun _ => ?_) | refine mo_A ⟨Nat.le_refl _, Nat.le_refl _⟩ (monoX2_init _ _ _) (fun _ => ?_) | refine mo_A (sk_nS_le _ _ _ _) (monoX2_init _ _ _) (fun _ => ?_) | refine mo_bindQ (q := (fun (z : sk_S × sk_D) => z.1.1)) (mo_itr (μ := (fun (z : Int32 × sk_S × sk_D) => z.2.1.1)) (mono_fX10_init_L109 _) _) (fun _ => ?_) | refine mo_bindQ (q := (fun (z : sk_S × sk_D) => z.1.1)) (mo_itr (μ := (fun (z : Int32 × sk_S × sk_D) => z.2.1.1)) (mono_fX10_init_L135 _) _) (fun _ => ?_) | refine mo_ite ?_ ?_ | refine mo_bind (fun _ => ?_) | dsimp only | split))
  refine sk_putRF S15 K dX10_init_23 fl_X10_19 (fun _ _ _ h => by cases h; rfl) rfl rfl rfl rfl e16 ?_
  refine sk_aload_n K dX10_init_26 rfl 0 rfl ?_
  have RN17 : S15.1.1 + 1 ≤ SS.1.1 ∧ S15.1.2 + sk_N 7 ≤ SS.1.2 := mo_use (n := (sk_nS S15 7 0 (sk_N 7)).1) (pr := (fun (z : sk_S × sk_D) => z.1.1)) hf (by repeat' (first | exact mo_none | exact mo_some ⟨Nat.le_refl _, Nat.le_refl _⟩ | refine mo_pR (fun _ => ?_) | refine mo_mk (fun _ => ?_) | refine mo_sR24 (fun _ => ?_) | refine mo_sR25 (fun _ => ?_) | refine mo_A ⟨Nat.le_refl _, Nat.le_refl _⟩ (monoX9_init _ _ _) (fun _ => ?_) | refine mo_A (sk_nS_le _ _ _ _) (monoX9_init _ _ _) (fun _ => ?_) | refine mo_A ⟨Nat.le_refl _, Nat.le_refl _⟩ (monoX5_init _ _ _) (fun _ => ?_) | refine mo_A (sk_nS_le _ _ _ _) (monoX5_init _ _ _) (fun _ => ?_) | refine mo_A ⟨Nat.le_refl _, Nat.le_refl _⟩ (monoX8_init _ _ _) (fun _ => ?_) | refine mo_A (sk_nS_le _ _ _ _) (monoX8_init _ _ _) (fun _ => ?_) | refine mo_A ⟨Nat.le_refl _, Nat.le_refl _⟩ (monoX3_init _ _ _) (fun _ => ?_) | refine mo_A (sk_nS_le _ _ _ _) (monoX3_init _ _ _) (fun _ => ?_) | refine mo_A ⟨Nat.le_refl _, Nat.le_refl _⟩ (monoX0_init _ _ _) (fun _ => ?_) | refine mo_A (sk_nS_le _ _ _ _) (monoX0_init _ _ _) (fun _ => ?_) | refine mo_A ⟨Nat.le_refl _, Nat.le_refl _⟩ (monoX4_init _ _ _) (fun _ => ?_) | refine mo_A (sk_nS_le _ _ _ _) (monoX4_init _ _ _) (fun _ => ?_) | refine mo_A ⟨Nat.le_refl _, Nat.le_refl _⟩ (monoX6_init _ _ _) (fun _ => ?_) | refine mo_A (sk_nS_le _ _ _ _) (monoX6_init _ _ _) (fun _ => ?_) | refine mo_A ⟨Nat.le_refl _, Nat.le_refl _⟩ (monoX2_init _ _ _) (fun _ => ?_) | refine mo_A (sk_nS_le _ _ _ _) (monoX2_init _ _ _) (fun _ => ?_) | refine mo_bindQ (q := (fun (z : sk_S × sk_D) => z.1.1)) (mo_itr (μ := (fun (z : Int32 × sk_S × sk_D) => z.2.1.1)) (mono_fX10_init_L109 _) _) (fun _ => ?_) | refine mo_bindQ (q := (fun (z : sk_S × sk_D) => z.1.1)) (mo_itr (μ := (fun (z : Int32 × sk_S × sk_D) => z.2.1.1)) (mono_fX10_init_L135 _) _) (fun _ => ?_) | refine mo_ite ?_ ?_ | refine mo_bind (fun _ => ?_) | dsimp only | split))
  refine sk_new K dX10_init_27 nw_X10_23 R1_S15 RN17 ?_
  refine sk_dup K dX10_init_30 rfl ?_
  obtain ⟨⟨S20, d21⟩, e19, hf⟩ := sk_ob hf
  try dsimp only at hf
  have R1_S20 := sk_le_tr (sk_nS_le2 R1_S15) (mo_use (pr := (fun (z : sk_S × sk_D) => z.1.1)) e19 (monoX8_init _ _ _))
  have R2_S20 : S20.1.1 ≤ SS.1.1 ∧ S20.1.2 ≤ SS.1.2 := mo_use (n := S20.1) (pr := (fun (z : sk_S × sk_D) => z.1.1)) hf (by repeat' (first | exact mo_none | exact mo_some ⟨Nat.le_refl _, Nat.le_refl _⟩ | refine mo_pR (fun _ => ?_) | refine mo_mk (fun _ => ?_) | refine mo_sR24 (fun _ => ?_) | refine mo_sR25 (fun _ => ?_) | refine mo_A ⟨Nat.le_refl _, Nat.le_refl _⟩ (monoX9_init _ _ _) (fun _ => ?_) | refine mo_A (sk_nS_le _ _ _ _) (monoX9_init _ _ _) (fun _ => ?_) | refine mo_A ⟨Nat.le_refl _, Nat.le_refl _⟩ (monoX5_init _ _ _) (fun _ => ?_) | refine mo_A (sk_nS_le _ _ _ _) (monoX5_init _ _ _) (fun _ => ?_) | refine mo_A ⟨Nat.le_refl _, Nat.le_refl _⟩ (monoX8_init _ _ _) (fun _ => ?_) | refine mo_A (sk_nS_le _ _ _ _) (monoX8_init _ _ _) (fun _ => ?_) | refine mo_A ⟨Nat.le_refl _, Nat.le_refl _⟩ (monoX3_init _ _ _) (fun _ => ?_) | refine mo_A (sk_nS_le _ _ _ _) (monoX3_init _ _ _) (fun _ => ?_) | refine mo_A ⟨Nat.le_refl _, Nat.le_refl _⟩ (monoX0_init _ _ _) (fun _ => ?_) | refine mo_A (sk_nS_le _ _ _ _) (monoX0_init _ _ _) (fun _ => ?_) | refine mo_A ⟨Nat.le_refl _, Nat.le_refl _⟩ (monoX4_init _ _ _) (fun _ => ?_) | refine mo_A (sk_nS_le _ _ _ _) (monoX4_init _ _ _) (fun _ => ?_) | refine mo_A ⟨Nat.le_refl _, Nat.le_refl _⟩ (monoX6_init _ _ _) (fun _ => ?_) | refine mo_A (sk_nS_le _ _ _ _) (monoX6_init _ _ _) (fun _ => ?_) | refine mo_A ⟨Nat.le_refl _, Nat.le_refl _⟩ (monoX2_init _ _ _) (fun _ => ?_) | refine mo_A (sk_nS_le _ _ _ _) (monoX2_init _ _ _) (fun _ => ?_) | refine mo_bindQ (q := (fun (z : sk_S × sk_D) => z.1.1)) (mo_itr (μ := (fun (z : Int32 × sk_S × sk_D) => z.2.1.1)) (mono_fX10_init_L109 _) _) (fun _ => ?_) | refine mo_bindQ (q := (fun (z : sk_S × sk_D) => z.1.1)) (mo_itr (μ := (fun (z : Int32 × sk_S × sk_D) => z.2.1.1)) (mono_fX10_init_L135 _) _) (fun _ => ?_) | refine mo_ite ?_ ?_ | refine mo_bind (fun _ => ?_) | dsimp only | split))
  refine sk_callI (As := []) (st := [.ref (S15.1.1 + 1), .ref p0]) K dX10_init_31 cl_X10_25 rfl (sX8_init C l e19) (by decide) rfl rfl (Nat.le_of_ble_eq_true rfl) (sk_nS_le2 R1_S15) R2_S20 ?_
  obtain ⟨S23, e24, hf⟩ := sk_ob hf
  have R1_S23 := sk_le_eq R1_S20 (sk_pR_1 e24)
  have R2_S23 : S23.1.1 ≤ SS.1.1 ∧ S23.1.2 ≤ SS.1.2 := mo_use (n := S23.1) (pr := (fun (z : sk_S × sk_D) => z.1.1)) hf (by repeat' (first | exact mo_none | exact mo_some ⟨Nat.le_refl _, Nat.le_refl _⟩ | refine mo_pR (fun _ => ?_) | refine mo_mk (fun _ => ?_) | refine mo_sR24 (fun _ => ?_) | refine mo_sR25 (fun _ => ?_) | refine mo_A ⟨Nat.le_refl _, Nat.le_refl _⟩ (monoX9_init _ _ _) (fun _ => ?_) | refine mo_A (sk_nS_le _ _ _ _) (monoX9_init _ _ _) (fun _ => ?_) | refine mo_A ⟨Nat.le_refl _, Nat.le_refl _⟩ (monoX5_init _ _ _) (fun _ => ?_) | refine mo_A (sk_nS_le _ _ _ _) (monoX5_init _ _ _) (fun _ => ?_) | refine mo_A ⟨Nat.le_refl _, Nat.le_refl _⟩ (monoX8_init _ _ _) (fun _ => ?_) | refine mo_A (sk_nS_le _ _ _ _) (monoX8_init _ _ _) (fun _ => ?_) | refine mo_A ⟨Nat.le_refl _, Nat.le_refl _⟩ (monoX3_init _ _ _) (fun _ => ?_) | refine mo_A (sk_nS_le _ _ _ _) (monoX3_init _ _ _) (fun _ => ?_) | refine mo_A ⟨Nat.le_refl _, Nat.le_refl _⟩ (monoX0_init _ _ _) (fun _ => ?_) | refine mo_A (sk_nS_le _ _ _ _) (monoX0_init _ _ _) (fun _ => ?_) | refine mo_A ⟨Nat.le_refl _, Nat.le_refl _⟩ (monoX4_init _ _ _) (fun _ => ?_) | refine mo_A (sk_nS_le _ _ _ _) (monoX4_init _ _ _) (fun _ => ?_) | refine mo_A ⟨Nat.le_refl _, Nat.le_refl _⟩ (monoX6_init _ _ _) (fun _ => ?_) | refine mo_A (sk_nS_le _ _ _ _) (monoX6_init _ _ _) (fun _ => ?_) | refine mo_A ⟨Nat.le_refl _, Nat.le_refl _⟩ (monoX2_init _ _ _) (fun _ => ?_) | refine mo_A (sk_nS_le _ _ _ _) (monoX2_init _ _ _) (fun _ => ?_) | refine mo_bindQ (q := (fun (z : sk_S × sk_D) => z.1.1)) (mo_itr (μ := (fun (z : Int32 × sk_S × sk_D) => z.2.1.1)) (mono_fX10_init_L109 _) _) (fun _ => ?_) | refine mo_bindQ (q := (fun (z : sk_S × sk_D) => z.1.1)) (mo_itr (μ := (fun (z : Int32 × sk_S × sk_D) => z.2.1.1)) (mono_fX10_init_L135 _) _) (fun _ => ?_) | refine mo_ite ?_ ?_ | refine mo_bind (fun _ => ?_) | dsimp only | split))
  refine sk_putRF S23 K dX10_init_34 fl_X10_26 (fun _ _ _ h => by cases h; rfl) rfl rfl rfl rfl e24 ?_
  refine sk_aload_n K dX10_init_37 rfl 0 rfl ?_
  have RN25 : S23.1.1 + 1 ≤ SS.1.1 ∧ S23.1.2 + sk_N 3 ≤ SS.1.2 := mo_use (n := (sk_nS S23 3 0 (sk_N 3)).1) (pr := (fun (z : sk_S × sk_D) => z.1.1)) hf (by repeat' (first | exact mo_none | exact mo_some ⟨Nat.le_refl _, Nat.le_refl _⟩ | refine mo_pR (fun _ => ?_) | refine mo_mk (fun _ => ?_) | refine mo_sR24 (fun _ => ?_) | refine mo_sR25 (fun _ => ?_) | refine mo_A ⟨Nat.le_refl _, Nat.le_refl _⟩ (monoX9_init _ _ _) (fun _ => ?_) | refine mo_A (sk_nS_le _ _ _ _) (monoX9_init _ _ _) (fun _ => ?_) | refine mo_A ⟨Nat.le_refl _, Nat.le_refl _⟩ (monoX5_init _ _ _) (fun _ => ?_) | refine mo_A (sk_nS_le _ _ _ _) (monoX5_init _ _ _) (fun _ => ?_) | refine mo_A ⟨Nat.le_refl _, Nat.le_refl _⟩ (monoX8_init _ _ _) (fun _ => ?_) | refine mo_A (sk_nS_le _ _ _ _) (monoX8_init _ _ _) (fun _ => ?_) | refine mo_A ⟨Nat.le_refl _, Nat.le_refl _⟩ (monoX3_init _ _ _) (fun _ => ?_) | refine mo_A (sk_nS_le _ _ _ _) (monoX3_init _ _ _) (fun _ => ?_) | refine mo_A ⟨Nat.le_refl _, Nat.le_refl _⟩ (monoX0_init _ _ _) (fun _ => ?_) | refine mo_A (sk_nS_le _ _ _ _) (monoX0_init _ _ _) (fun _ => ?_) | refine mo_A ⟨Nat.le_refl _, Nat.le_refl _⟩ (monoX4_init _ _ _) (fun _ => ?_) | refine mo_A (sk_nS_le _ _ _ _) (monoX4_init _ _ _) (fun _ => ?_) | refine mo_A ⟨Nat.le_refl _, Nat.le_refl _⟩ (monoX6_init _ _ _) (fun _ => ?_) | refine mo_A (sk_nS_le _ _ _ _) (monoX6_init _ _ _) (fun _ => ?_) | refine mo_A ⟨Nat.le_refl _, Nat.le_refl _⟩ (monoX2_init _ _ _) (fun _ => ?_) | refine mo_A (sk_nS_le _ _ _ _) (monoX2_init _ _ _) (fun _ => ?_) | refine mo_bindQ (q := (fun (z : sk_S × sk_D) => z.1.1)) (mo_itr (μ := (fun (z : Int32 × sk_S × sk_D) => z.2.1.1)) (mono_fX10_init_L109 _) _) (fun _ => ?_) | refine mo_bindQ (q := (fun (z : sk_S × sk_D) => z.1.1)) (mo_itr (μ := (fun (z : Int32 × sk_S × sk_D) => z.2.1.1)) (mono_fX10_init_L135 _) _) (fun _ => ?_) | refine mo_ite ?_ ?_ | refine mo_bind (fun _ => ?_) | dsimp only | split))
  refine sk_new K dX10_init_38 nw_X10_30 R1_S23 RN25 ?_
  refine sk_dup K dX10_init_41 rfl ?_
  obtain ⟨⟨S28, d29⟩, e27, hf⟩ := sk_ob hf
  try dsimp only at hf
  have R1_S28 := sk_le_tr (sk_nS_le2 R1_S23) (mo_use (pr := (fun (z : sk_S × sk_D) => z.1.1)) e27 (monoX3_init _ _ _))
  have R2_S28 : S28.1.1 ≤ SS.1.1 ∧ S28.1.2 ≤ SS.1.2 := mo_use (n := S28.1) (pr := (fun (z : sk_S × sk_D) => z.1.1)) hf (by repeat' (first | exact mo_none | exact mo_some ⟨Nat.le_refl _, Nat.le_refl _⟩ | refine mo_pR (fun _ => ?_) | refine mo_mk (fun _ => ?_) | refine mo_sR24 (fun _ => ?_) | refine mo_sR25 (fun _ => ?_) | refine mo_A ⟨Nat.le_refl _, Nat.le_refl _⟩ (monoX9_init _ _ _) (fun _ => ?_) | refine mo_A (sk_nS_le _ _ _ _) (monoX9_init _ _ _) (fun _ => ?_) | refine mo_A ⟨Nat.le_refl _, Nat.le_refl _⟩ (monoX5_init _ _ _) (fun _ => ?_) | refine mo_A (sk_nS_le _ _ _ _) (monoX5_init _ _ _) (fun _ => ?_) | refine mo_A ⟨Nat.le_refl _, Nat.le_refl _⟩ (monoX8_init _ _ _) (fun _ => ?_) | refine mo_A (sk_nS_le _ _ _ _) (monoX8_init _ _ _) (fun _ => ?_) | refine mo_A ⟨Nat.le_refl _, Nat.le_refl _⟩ (monoX3_init _ _ _) (fun _ => ?_) | refine mo_A (sk_nS_le _ _ _ _) (monoX3_init _ _ _) (fun _ => ?_) | refine mo_A ⟨Nat.le_refl _, Nat.le_refl _⟩ (monoX0_init _ _ _) (fun _ => ?_) | refine mo_A (sk_nS_le _ _ _ _) (monoX0_init _ _ _) (fun _ => ?_) | refine mo_A ⟨Nat.le_refl _, Nat.le_refl _⟩ (monoX4_init _ _ _) (fun _ => ?_) | refine mo_A (sk_nS_le _ _ _ _) (monoX4_init _ _ _) (fun _ => ?_) | refine mo_A ⟨Nat.le_refl _, Nat.le_refl _⟩ (monoX6_init _ _ _) (fun _ => ?_) | refine mo_A (sk_nS_le _ _ _ _) (monoX6_init _ _ _) (fun _ => ?_) | refine mo_A ⟨Nat.le_refl _, Nat.le_refl _⟩ (monoX2_init _ _ _) (fun _ => ?_) | refine mo_A (sk_nS_le _ _ _ _) (monoX2_init _ _ _) (fun _ => ?_) | refine mo_bindQ (q := (fun (z : sk_S × sk_D) => z.1.1)) (mo_itr (μ := (fun (z : Int32 × sk_S × sk_D) => z.2.1.1)) (mono_fX10_init_L109 _) _) (fun _ => ?_) | refine mo_bindQ (q := (fun (z : sk_S × sk_D) => z.1.1)) (mo_itr (μ := (fun (z : Int32 × sk_S × sk_D) => z.2.1.1)) (mono_fX10_init_L135 _) _) (fun _ => ?_) | refine mo_ite ?_ ?_ | refine mo_bind (fun _ => ?_) | dsimp only | split))
  refine sk_callI (As := []) (st := [.ref (S23.1.1 + 1), .ref p0]) K dX10_init_42 cl_X10_32 rfl (sX3_init C l e27) (by decide) rfl rfl (Nat.le_of_ble_eq_true rfl) (sk_nS_le2 R1_S23) R2_S28 ?_
  obtain ⟨S31, e32, hf⟩ := sk_ob hf
  have R1_S31 := sk_le_eq R1_S28 (sk_pR_1 e32)
  have R2_S31 : S31.1.1 ≤ SS.1.1 ∧ S31.1.2 ≤ SS.1.2 := mo_use (n := S31.1) (pr := (fun (z : sk_S × sk_D) => z.1.1)) hf (by repeat' (first | exact mo_none | exact mo_some ⟨Nat.le_refl _, Nat.le_refl _⟩ | refine mo_pR (fun _ => ?_) | refine mo_mk (fun _ => ?_) | refine mo_sR24 (fun _ => ?_) | refine mo_sR25 (fun _ => ?_) | refine mo_A ⟨Nat.le_refl _, Nat.le_refl _⟩ (monoX9_init _ _ _) (fun _ => ?_) | refine mo_A (sk_nS_le _ _ _ _) (monoX9_init _ _ _) (fun _ => ?_) | refine mo_A ⟨Nat.le_refl _, Nat.le_refl _⟩ (monoX5_init _ _ _) (fun _ => ?_) | refine mo_A (sk_nS_le _ _ _ _) (monoX5_init _ _ _) (fun _ => ?_) | refine mo_A ⟨Nat.le_refl _, Nat.le_refl _⟩ (monoX8_init _ _ _) (fun _ => ?_) | refine mo_A (sk_nS_le _ _ _ _) (monoX8_init _ _ _) (fun _ => ?_) | refine mo_A ⟨Nat.le_refl _, Nat.le_refl _⟩ (monoX3_init _ _ _) (fun _ => ?_) | refine mo_A (sk_nS_le _ _ _ _) (monoX3_init _ _ _) (fun _ => ?_) | refine mo_A ⟨Nat.le_refl _, Nat.le_refl _⟩ (monoX0_init _ _ _) (fun _ => ?_) | refine mo_A (sk_nS_le _ _ _ _) (monoX0_init _ _ _) (fun _ => ?_) | refine mo_A ⟨Nat.le_refl _, Nat.le_refl _⟩ (monoX4_init _ _ _) (fun _ => ?_) | refine mo_A (sk_nS_le _ _ _ _) (monoX4_init _ _ _) (fun _ => ?_) | refine mo_A ⟨Nat.le_refl _, Nat.le_refl _⟩ (monoX6_init _ _ _) (fun _ => ?_) | refine mo_A (sk_nS_le _ _ _ _) (monoX6_init _ _ _) (fun _ => ?_) | refine mo_A ⟨Nat.le_refl _, Nat.le_refl _⟩ (monoX2_init _ _ _) (fun _ => ?_) | refine mo_A (sk_nS_le _ _ _ _) (monoX2_init _ _ _) (fun _ => ?_) | refine mo_bindQ (q := (fun (z : sk_S × sk_D) => z.1.1)) (mo_itr (μ := (fun (z : Int32 × sk_S × sk_D) => z.2.1.1)) (mono_fX10_init_L109 _) _) (fun _ => ?_) | refine mo_bindQ (q := (fun (z : sk_S × sk_D) => z.1.1)) (mo_itr (μ := (fun (z : Int32 × sk_S × sk_D) => z.2.1.1)) (mono_fX10_init_L135 _) _) (fun _ => ?_) | refine mo_ite ?_ ?_ | refine mo_bind (fun _ => ?_) | dsimp only | split))
  refine sk_putRF S31 K dX10_init_45 fl_X10_33 (fun _ _ _ h => by cases h; rfl) rfl rfl rfl rfl e32 ?_
  refine sk_aload_n K dX10_init_48 rfl 0 rfl ?_
  have RN33 : S31.1.1 + 1 ≤ SS.1.1 ∧ S31.1.2 + sk_N 0 ≤ SS.1.2 := mo_use (n := (sk_nS S31 0 0 (sk_N 0)).1) (pr := (fun (z : sk_S × sk_D) => z.1.1)) hf (by repeat' (first | exact mo_none | exact mo_some ⟨Nat.le_refl _, Nat.le_refl _⟩ | refine mo_pR (fun _ => ?_) | refine mo_mk (fun _ => ?_) | refine mo_sR24 (fun _ => ?_) | refine mo_sR25 (fun _ => ?_) | refine mo_A ⟨Nat.le_refl _, Nat.le_refl _⟩ (monoX9_init _ _ _) (fun _ => ?_) | refine mo_A (sk_nS_le _ _ _ _) (monoX9_init _ _ _) (fun _ => ?_) | refine mo_A ⟨Nat.le_refl _, Nat.le_refl _⟩ (monoX5_init _ _ _) (fun _ => ?_) | refine mo_A (sk_nS_le _ _ _ _) (monoX5_init _ _ _) (fun _ => ?_) | refine mo_A ⟨Nat.le_refl _, Nat.le_refl _⟩ (monoX8_init _ _ _) (fun _ => ?_) | refine mo_A (sk_nS_le _ _ _ _) (monoX8_init _ _ _) (fun _ => ?_) | refine mo_A ⟨Nat.le_refl _, Nat.le_refl _⟩ (monoX3_init _ _ _) (fun _ => ?_) | refine mo_A (sk_nS_le _ _ _ _) (monoX3_init _ _ _) (fun _ => ?_) | refine mo_A ⟨Nat.le_refl _, Nat.le_refl _⟩ (monoX0_init _ _ _) (fun _ => ?_) | refine mo_A (sk_nS_le _ _ _ _) (monoX0_init _ _ _) (fun _ => ?_) | refine mo_A ⟨Nat.le_refl _, Nat.le_refl _⟩ (monoX4_init _ _ _) (fun _ => ?_) | refine mo_A (sk_nS_le _ _ _ _) (monoX4_init _ _ _) (fun _ => ?_) | refine mo_A ⟨Nat.le_refl _, Nat.le_refl _⟩ (monoX6_init _ _ _) (fun _ => ?_) | refine mo_A (sk_nS_le _ _ _ _) (monoX6_init _ _ _) (fun _ => ?_) | refine mo_A ⟨Nat.le_refl _, Nat.le_refl _⟩ (monoX2_init _ _ _) (fun _ => ?_) | refine mo_A (sk_nS_le _ _ _ _) (monoX2_init _ _ _) (fun _ => ?_) | refine mo_bindQ (q := (fun (z : sk_S × sk_D) => z.1.1)) (mo_itr (μ := (fun (z : Int32 × sk_S × sk_D) => z.2.1.1)) (mono_fX10_init_L109 _) _) (fun _ => ?_) | refine mo_bindQ (q := (fun (z : sk_S × sk_D) => z.1.1)) (mo_itr (μ := (fun (z : Int32 × sk_S × sk_D) => z.2.1.1)) (mono_fX10_init_L135 _) _) (fun _ => ?_) | refine mo_ite ?_ ?_ | refine mo_bind (fun _ => ?_) | dsimp only | split))
  refine sk_new K dX10_init_49 nw_X10_37 R1_S31 RN33 ?_
  refine sk_dup K dX10_init_52 rfl ?_
  obtain ⟨⟨S36, d37⟩, e35, hf⟩ := sk_ob hf
  try dsimp only at hf
  have R1_S36 := sk_le_tr (sk_nS_le2 R1_S31) (mo_use (pr := (fun (z : sk_S × sk_D) => z.1.1)) e35 (monoX0_init _ _ _))
  have R2_S36 : S36.1.1 ≤ SS.1.1 ∧ S36.1.2 ≤ SS.1.2 := mo_use (n := S36.1) (pr := (fun (z : sk_S × sk_D) => z.1.1)) hf (by repeat' (first | exact mo_none | exact mo_some ⟨Nat.le_refl _, Nat.le_refl _⟩ | refine mo_pR (fun _ => ?_) | refine mo_mk (fun _ => ?_) | refine mo_sR24 (fun _ => ?_) | refine mo_sR25 (fun _ => ?_) | refine mo_A ⟨Nat.le_refl _, Nat.le_refl _⟩ (monoX9_init _ _ _) (fun _ => ?_) | refine mo_A (sk_nS_le _ _ _ _) (monoX9_init _ _ _) (fun _ => ?_) | refine mo_A ⟨Nat.le_refl _, Nat.le_refl _⟩ (monoX5_init _ _ _) (fun _ => ?_) | refine mo_A (sk_nS_le _ _ _ _) (monoX5_init _ _ _) (fun _ => ?_) | refine mo_A ⟨Nat.le_refl _, Nat.le_refl _⟩ (monoX8_init _ _ _) (fun _ => ?_) | refine mo_A (sk_nS_le _ _ _ _) (monoX8_init _ _ _) (fun _ => ?_) | refine mo_A ⟨Nat.le_refl _, Nat.le_refl _⟩ (monoX3_init _ _ _) (fun _ => ?_) | refine mo_A (sk_nS_le _ _ _ _) (monoX3_init _ _ _) (fun _ => ?_) | refine mo_A ⟨Nat.le_refl _, Nat.le_refl _⟩ (monoX0_init _ _ _) (fun _ => ?_) | refine mo_A (sk_nS_le _ _ _ _) (monoX0_init _ _ _) (fun _ => ?_) | refine mo_A ⟨Nat.le_refl _, Nat.le_refl _⟩ (monoX4_init _ _ _) (fun _ => ?_) | refine mo_A (sk_nS_le _ _ _ _) (monoX4_init _ _ _) (fun _ => ?_) | refine mo_A ⟨Nat.le_refl _, Nat.le_refl _⟩ (monoX6_init _ _ _) (fun _ => ?_) | refine mo_A (sk_nS_le _ _ _ _) (monoX6_init _ _ _) (fun _ => ?_) | refine mo_A ⟨Nat.le_refl _, Nat.le_refl _⟩ (monoX2_init _ _ _) (fun _ => ?_) | refine mo_A (sk_nS_le _ _ _ _) (monoX2_init _ _ _) (fun _ => ?_) | refine mo_bindQ (q := (fun (z : sk_S × sk_D) => z.1.1)) (mo_itr (μ := (fun (z : Int32 × sk_S × sk_D) => z.2.1.1)) (mono_fX10_init_L109 _) _) (fun _ => ?_) | refine mo_bindQ (q := (fun (z : sk_S × sk_D) => z.1.1)) (mo_itr (μ := (fun (z : Int32 × sk_S × sk_D) => z.2.1.1)) (mono_fX10_init_L135 _) _) (fun _ => ?_) | refine mo_ite ?_ ?_ | refine mo_bind (fun _ => ?_) | dsimp only | split))
  refine sk_callI (As := []) (st := [.ref (S31.1.1 + 1), .ref p0]) K dX10_init_53 cl_X10_39 rfl (sX0_init C l e35) (by decide) rfl rfl (Nat.le_of_ble_eq_true rfl) (sk_nS_le2 R1_S31) R2_S36 ?_
  obtain ⟨S39, e40, hf⟩ := sk_ob hf
  have R1_S39 := sk_le_eq R1_S36 (sk_pR_1 e40)
  have R2_S39 : S39.1.1 ≤ SS.1.1 ∧ S39.1.2 ≤ SS.1.2 := mo_use (n := S39.1) (pr := (fun (z : sk_S × sk_D) => z.1.1)) hf (by repeat' (first | exact mo_none | exact mo_some ⟨Nat.le_refl _, Nat.le_refl _⟩ | refine mo_pR (fun _ => ?_) | refine mo_mk (fun _ => ?_) | refine mo_sR24 (fun _ => ?_) | refine mo_sR25 (fun _ => ?_) | refine mo_A ⟨Nat.le_refl _, Nat.le_refl _⟩ (monoX9_init _ _ _) (fun _ => ?_) | refine mo_A (sk_nS_le _ _ _ _) (monoX9_init _ _ _) (fun _ => ?_) | refine mo_A ⟨Nat.le_refl _, Nat.le_refl _⟩ (monoX5_init _ _ _) (fun _ => ?_) | refine mo_A (sk_nS_le _ _ _ _) (monoX5_init _ _ _) (fun _ => ?_) | refine mo_A ⟨Nat.le_refl _, Nat.le_refl _⟩ (monoX8_init _ _ _) (fun _ => ?_) | refine mo_A (sk_nS_le _ _ _ _) (monoX8_init _ _ _) (fun _ => ?_) | refine mo_A ⟨Nat.le_refl _, Nat.le_refl _⟩ (monoX3_init _ _ _) (fun _ => ?_) | refine mo_A (sk_nS_le _ _ _ _) (monoX3_init _ _ _) (fun _ => ?_) | refine mo_A ⟨Nat.le_refl _, Nat.le_refl _⟩ (monoX0_init _ _ _) (fun _ => ?_) | refine mo_A (sk_nS_le _ _ _ _) (monoX0_init _ _ _) (fun _ => ?_) | refine mo_A ⟨Nat.le_refl _, Nat.le_refl _⟩ (monoX4_init _ _ _) (fun _ => ?_) | refine mo_A (sk_nS_le _ _ _ _) (monoX4_init _ _ _) (fun _ => ?_) | refine mo_A ⟨Nat.le_refl _, Nat.le_refl _⟩ (monoX6_init _ _ _) (fun _ => ?_) | refine mo_A (sk_nS_le _ _ _ _) (monoX6_init _ _ _) (fun _ => ?_) | refine mo_A ⟨Nat.le_refl _, Nat.le_refl _⟩ (monoX2_init _ _ _) (fun _ => ?_) | refine mo_A (sk_nS_le _ _ _ _) (monoX2_init _ _ _) (fun _ => ?_) | refine mo_bindQ (q := (fun (z : sk_S × sk_D) => z.1.1)) (mo_itr (μ := (fun (z : Int32 × sk_S × sk_D) => z.2.1.1)) (mono_fX10_init_L109 _) _) (fun _ => ?_) | refine mo_bindQ (q := (fun (z : sk_S × sk_D) => z.1.1)) (mo_itr (μ := (fun (z : Int32 × sk_S × sk_D) => z.2.1.1)) (mono_fX10_init_L135 _) _) (fun _ => ?_) | refine mo_ite ?_ ?_ | refine mo_bind (fun _ => ?_) | dsimp only | split))
  refine sk_putRF S39 K dX10_init_56 fl_X10_40 (fun _ _ _ h => by cases h; rfl) rfl rfl rfl rfl e40 ?_
  refine sk_aload_n K dX10_init_59 rfl 0 rfl ?_
  have RN41 : S39.1.1 + 1 ≤ SS.1.1 ∧ S39.1.2 + sk_N 4 ≤ SS.1.2 := mo_use (n := (sk_nS S39 4 0 (sk_N 4)).1) (pr := (fun (z : sk_S × sk_D) => z.1.1)) hf (by repeat' (first | exact mo_none | exact mo_some ⟨Nat.le_refl _, Nat.le_refl _⟩ | refine mo_pR (fun _ => ?_) | refine mo_mk (fun _ => ?_) | refine mo_sR24 (fun _ => ?_) | refine mo_sR25 (fun _ => ?_) | refine mo_A ⟨Nat.le_refl _, Nat.le_refl _⟩ (monoX9_init _ _ _) (fun _ => ?_) | refine mo_A (sk_nS_le _ _ _ _) (monoX9_init _ _ _) (fun _ => ?_) | refine mo_A ⟨Nat.le_refl _, Nat.le_refl _⟩ (monoX5_init _ _ _) (fun _ => ?_) | refine mo_A (sk_nS_le _ _ _ _) (monoX5_init _ _ _) (fun _ => ?_) | refine mo_A ⟨Nat.le_refl _, Nat.le_refl _⟩ (monoX8_init _ _ _) (fun _ => ?_) | refine mo_A (sk_nS_le _ _ _ _) (monoX8_init _ _ _) (fun _ => ?_) | refine mo_A ⟨Nat.le_refl _, Nat.le_refl _⟩ (monoX3_init _ _ _) (fun _ => ?_) | refine mo_A (sk_nS_le _ _ _ _) (monoX3_init _ _ _) (fun _ => ?_) | refine mo_A ⟨Nat.le_refl _, Nat.le_refl _⟩ (monoX0_init _ _ _) (fun _ => ?_) | refine mo_A (sk_nS_le _ _ _ _) (monoX0_init _ _ _) (fun _ => ?_) | refine mo_A ⟨Nat.le_refl _, Nat.le_refl _⟩ (monoX4_init _ _ _) (fun _ => ?_) | refine mo_A (sk_nS_le _ _ _ _) (monoX4_init _ _ _) (fun _ => ?_) | refine mo_A ⟨Nat.le_refl _, Nat.le_refl _⟩ (monoX6_init _ _ _) (fun _ => ?_) | refine mo_A (sk_nS_le _ _ _ _) (monoX6_init _ _ _) (fun _ => ?_) | refine mo_A ⟨Nat.le_refl _, Nat.le_refl _⟩ (monoX2_init _ _ _) (fun _ => ?_) | refine mo_A (sk_nS_le _ _ _ _) (monoX2_init _ _ _) (fun _ => ?_) | refine mo_bindQ (q := (fun (z : sk_S × sk_D) => z.1.1)) (mo_itr (μ := (fun (z : Int32 × sk_S × sk_D) => z.2.1.1)) (mono_fX10_init_L109 _) _) (fun _ => ?_) | refine mo_bindQ (q := (fun (z : sk_S × sk_D) => z.1.1)) (mo_itr (μ := (fun (z : Int32 × sk_S × sk_D) => z.2.1.1)) (mono_fX10_init_L135 _) _) (fun _ => ?_) | refine mo_ite ?_ ?_ | refine mo_bind (fun _ => ?_) | dsimp only | split))
  refine sk_new K dX10_init_60 nw_X10_44 R1_S39 RN41 ?_
  refine sk_dup K dX10_init_63 rfl ?_
  obtain ⟨⟨S44, d45⟩, e43, hf⟩ := sk_ob hf
  try dsimp only at hf
  have R1_S44 := sk_le_tr (sk_nS_le2 R1_S39) (mo_use (pr := (fun (z : sk_S × sk_D) => z.1.1)) e43 (monoX4_init _ _ _))
  have R2_S44 : S44.1.1 ≤ SS.1.1 ∧ S44.1.2 ≤ SS.1.2 := mo_use (n := S44.1) (pr := (fun (z : sk_S × sk_D) => z.1.1)) hf (by repeat' (first | exact mo_none | exact mo_some ⟨Nat.le_refl _, Nat.le_refl _⟩ | refine mo_pR (fun _ => ?_) | refine mo_mk (fun _ => ?_) | refine mo_sR24 (fun _ => ?_) | refine mo_sR25 (fun _ => ?_) | refine mo_A ⟨Nat.le_refl _, Nat.le_refl _⟩ (monoX9_init _ _ _) (fun _ => ?_) | refine mo_A (sk_nS_le _ _ _ _) (monoX9_init _ _ _) (fun _ => ?_) | refine mo_A ⟨Nat.le_refl _, Nat.le_refl _⟩ (monoX5_init _ _ _) (fun _ => ?_) | refine mo_A (sk_nS_le _ _ _ _) (monoX5_init _ _ _) (fun _ => ?_) | refine mo_A ⟨Nat.le_refl _, Nat.le_refl _⟩ (monoX8_init _ _ _) (fun _ => ?_) | refine mo_A (sk_nS_le _ _ _ _) (monoX8_init _ _ _) (fun _ => ?_) | refine mo_A ⟨Nat.le_refl _, Nat.le_refl _⟩ (monoX3_init _ _ _) (fun _ => ?_) | refine mo_A (sk_nS_le _ _ _ _) (monoX3_init _ _ _) (fun _ => ?_) | refine mo_A ⟨Nat.le_refl _, Nat.le_refl _⟩ (monoX0_init _ _ _) (fun _ => ?_) | refine mo_A (sk_nS_le _ _ _ _) (monoX0_init _ _ _) (fun _ => ?_) | refine mo_A ⟨Nat.le_refl _, Nat.le_refl _⟩ (monoX4_init _ _ _) (fun _ => ?_) | refine mo_A (sk_nS_le _ _ _ _) (monoX4_init _ _ _) (fun _ => ?_) | refine mo_A ⟨Nat.le_refl _, Nat.le_refl _⟩ (monoX6_init _ _ _) (fun _ => ?_) | refine mo_A (sk_nS_le _ _ _ _) (monoX6_init _ _ _) (fun _ => ?_) | refine mo_A ⟨Nat.le_refl _, Nat.le_refl _⟩ (monoX2_init _ _ _) (fun _ => ?_) | refine mo_A (sk_nS_le _ _ _ _) (monoX2_init _ _ _) (fun _ => ?_) | refine mo_bindQ (q := (fun (z : sk_S × sk_D) => z.1.1)) (mo_itr (μ := (fun (z : Int32 × sk_S × sk_D) => z.2.1.1)) (mono_fX10_init_L109 _) _) (fun _ => ?_) | refine mo_bindQ (q := (fun (z : sk_S × sk_D) => z.1.1)) (mo_itr (μ := (fun (z : Int32 × sk_S × sk_D) => z.2.1.1)) (mono_fX10_init_L135 _) _) (fun _ => ?_) | refine mo_ite ?_ ?_ | refine mo_bind (fun _ => ?_) | dsimp only | split))
  refine sk_callI (As := []) (st := [.ref (S39.1.1 + 1), .ref p0]) K dX10_init_64 cl_X10_46 rfl (sX4_init C l e43) (by decide) rfl rfl (Nat.le_of_ble_eq_true rfl) (sk_nS_le2 R1_S39) R2_S44 ?_
  obtain ⟨S47, e48, hf⟩ := sk_ob hf
  have R1_S47 := sk_le_eq R1_S44 (sk_pR_1 e48)
  have R2_S47 : S47.1.1 ≤ SS.1.1 ∧ S47.1.2 ≤ SS.1.2 := mo_use (n := S47.1) (pr := (fun (z : sk_S × sk_D) => z.1.1)) hf (by repeat' (first | exact mo_none | exact mo_some ⟨Nat.le_refl _, Nat.le_refl _⟩ | refine mo_pR (fun _ => ?_) | refine mo_mk (fun _ => ?_) | refine mo_sR24 (fun _ => ?_) | refine mo_sR25 (fun _ => ?_) | refine mo_A ⟨Nat.le_refl _, Nat.le_refl _⟩ (monoX9_init _ _ _) (fun _ => ?_) | refine mo_A (sk_nS_le _ _ _ _) (monoX9_init _ _ _) (fun _ => ?_) | refine mo_A ⟨Nat.le_refl _, Nat.le_refl _⟩ (monoX5_init _ _ _) (fun _ => ?_) | refine mo_A (sk_nS_le _ _ _ _) (monoX5_init _ _ _) (fun _ => ?_) | refine mo_A ⟨Nat.le_refl _, Nat.le_refl _⟩ (monoX8_init _ _ _) (fun _ => ?_) | refine mo_A (sk_nS_le _ _ _ _) (monoX8_init _ _ _) (fun _ => ?_) | refine mo_A ⟨Nat.le_refl _, Nat.le_refl _⟩ (monoX3_init _ _ _) (fun _ => ?_) | refine mo_A (sk_nS_le _ _ _ _) (monoX3_init _ _ _) (fun _ => ?_) | refine mo_A ⟨Nat.le_refl _, Nat.le_refl _⟩ (monoX0_init _ _ _) (fun _ => ?_) | refine mo_A (sk_nS_le _ _ _ _) (monoX0_init _ _ _) (fun _ => ?_) | refine mo_A ⟨Nat.le_refl _, Nat.le_refl _⟩ (monoX4_init _ _ _) (fun _ => ?_) | refine mo_A (sk_nS_le _ _ _ _) (monoX4_init _ _ _) (fun _ => ?_) | refine mo_A ⟨Nat.le_refl _, Nat.le_refl _⟩ (monoX6_init _ _ _) (fun _ => ?_) | refine mo_A (sk_nS_le _ _ _ _) (monoX6_init _ _ _) (fun _ => ?_) | refine mo_A ⟨Nat.le_refl _, Nat.le_refl _⟩ (monoX2_init _ _ _) (fun _ => ?_) | refine mo_A (sk_nS_le _ _ _ _) (monoX2_init _ _ _) (fun _ => ?_) | refine mo_bindQ (q := (fun (z : sk_S × sk_D) => z.1.1)) (mo_itr (μ := (fun (z : Int32 × sk_S × sk_D) => z.2.1.1)) (mono_fX10_init_L109 _) _) (fun _ => ?_) | refine mo_bindQ (q := (fun (z : sk_S × sk_D) => z.1.1)) (mo_itr (μ := (fun (z : Int32 × sk_S × sk_D) => z.2.1.1)) (mono_fX10_init_L135 _) _) (fun _ => ?_) | refine mo_ite ?_ ?_ | refine mo_bind (fun _ => ?_) | dsimp only | split))
  refine sk_putRF S47 K dX10_init_67 fl_X10_47 (fun _ _ _ h => by cases h; rfl) rfl rfl rfl rfl e48 ?_
  refine sk_aload_n K dX10_init_70 rfl 0 rfl ?_
  refine sk_iconst (4 : Int32) K dX10_init_71 (by decide) ?_
  obtain ⟨⟨v49, S50, d51⟩, e52, hf⟩ := sk_ob hf
  try dsimp only at hf
  have R1_S50 := sk_le_tr R1_S47 (sk_mk_1 e52)
  have R2_S50 : S50.1.1 ≤ SS.1.1 ∧ S50.1.2 ≤ SS.1.2 := mo_use (n := S50.1) (pr := (fun (z : sk_S × sk_D) => z.1.1)) hf (by repeat' (first | exact mo_none | exact mo_some ⟨Nat.le_refl _, Nat.le_refl _⟩ | refine mo_pR (fun _ => ?_) | refine mo_mk (fun _ => ?_) | refine mo_sR24 (fun _ => ?_) | refine mo_sR25 (fun _ => ?_) | refine mo_A ⟨Nat.le_refl _, Nat.le_refl _⟩ (monoX9_init _ _ _) (fun _ => ?_) | refine mo_A (sk_nS_le _ _ _ _) (monoX9_init _ _ _) (fun _ => ?_) | refine mo_A ⟨Nat.le_refl _, Nat.le_refl _⟩ (monoX5_init _ _ _) (fun _ => ?_) | refine mo_A (sk_nS_le _ _ _ _) (monoX5_init _ _ _) (fun _ => ?_) | refine mo_A ⟨Nat.le_refl _, Nat.le_refl _⟩ (monoX8_init _ _ _) (fun _ => ?_) | refine mo_A (sk_nS_le _ _ _ _) (monoX8_init _ _ _) (fun _ => ?_) | refine mo_A ⟨Nat.le_refl _, Nat.le_refl _⟩ (monoX3_init _ _ _) (fun _ => ?_) | refine mo_A (sk_nS_le _ _ _ _) (monoX3_init _ _ _) (fun _ => ?_) | refine mo_A ⟨Nat.le_refl _, Nat.le_refl _⟩ (monoX0_init _ _ _) (fun _ => ?_) | refine mo_A (sk_nS_le _ _ _ _) (monoX0_init _ _ _) (fun _ => ?_) | refine mo_A ⟨Nat.le_refl _, Nat.le_refl _⟩ (monoX4_init _ _ _) (fun _ => ?_) | refine mo_A (sk_nS_le _ _ _ _) (monoX4_init _ _ _) (fun _ => ?_) | refine mo_A ⟨Nat.le_refl _, Nat.le_refl _⟩ (monoX6_init _ _ _) (fun _ => ?_) | refine mo_A (sk_nS_le _ _ _ _) (monoX6_init _ _ _) (fun _ => ?_) | refine mo_A ⟨Nat.le_refl _, Nat.le_refl _⟩ (monoX2_init _ _ _) (fun _ => ?_) | refine mo_A (sk_nS_le _ _ _ _) (monoX2_init _ _ _) (fun _ => ?_) | refine mo_bindQ (q := (fun (z : sk_S × sk_D) => z.1.1)) (mo_itr (μ := (fun (z : Int32 × sk_S × sk_D) => z.2.1.1)) (mono_fX10_init_L109 _) _) (fun _ => ?_) | refine mo_bindQ (q := (fun (z : sk_S × sk_D) => z.1.1)) (mo_itr (μ := (fun (z : Int32 × sk_S × sk_D) => z.2.1.1)) (mono_fX10_init_L135 _) _) (fun _ => ?_) | refine mo_ite ?_ ?_ | refine mo_bind (fun _ => ?_) | dsimp only | split))
  refine sk_anew24 K dX10_init_72 qw_396 e52 R1_S47 R2_S50 ?_
  obtain ⟨S54, e55, hf⟩ := sk_ob hf
  have R1_S54 := sk_le_eq R1_S50 (sk_pR_1 e55)
  have R2_S54 : S54.1.1 ≤ SS.1.1 ∧ S54.1.2 ≤ SS.1.2 := mo_use (n := S54.1) (pr := (fun (z : sk_S × sk_D) => z.1.1)) hf (by repeat' (first | exact mo_none | exact mo_some ⟨Nat.le_refl _, Nat.le_refl _⟩ | refine mo_pR (fun _ => ?_) | refine mo_mk (fun _ => ?_) | refine mo_sR24 (fun _ => ?_) | refine mo_sR25 (fun _ => ?_) | refine mo_A ⟨Nat.le_refl _, Nat.le_refl _⟩ (monoX9_init _ _ _) (fun _ => ?_) | refine mo_A (sk_nS_le _ _ _ _) (monoX9_init _ _ _) (fun _ => ?_) | refine mo_A ⟨Nat.le_refl _, Nat.le_refl _⟩ (monoX5_init _ _ _) (fun _ => ?_) | refine mo_A (sk_nS_le _ _ _ _) (monoX5_init _ _ _) (fun _ => ?_) | refine mo_A ⟨Nat.le_refl _, Nat.le_refl _⟩ (monoX8_init _ _ _) (fun _ => ?_) | refine mo_A (sk_nS_le _ _ _ _) (monoX8_init _ _ _) (fun _ => ?_) | refine mo_A ⟨Nat.le_refl _, Nat.le_refl _⟩ (monoX3_init _ _ _) (fun _ => ?_) | refine mo_A (sk_nS_le _ _ _ _) (monoX3_init _ _ _) (fun _ => ?_) | refine mo_A ⟨Nat.le_refl _, Nat.le_refl _⟩ (monoX0_init _ _ _) (fun _ => ?_) | refine mo_A (sk_nS_le _ _ _ _) (monoX0_init _ _ _) (fun _ => ?_) | refine mo_A ⟨Nat.le_refl _, Nat.le_refl _⟩ (monoX4_init _ _ _) (fun _ => ?_) | refine mo_A (sk_nS_le _ _ _ _) (monoX4_init _ _ _) (fun _ => ?_) | refine mo_A ⟨Nat.le_refl _, Nat.le_refl _⟩ (monoX6_init _ _ _) (fun _ => ?_) | refine mo_A (sk_nS_le _ _ _ _) (monoX6_init _ _ _) (fun _ => ?_) | refine mo_A ⟨Nat.le_refl _, Nat.le_refl _⟩ (monoX2_init _ _ _) (fun _ => ?_) | refine mo_A (sk_nS_le _ _ _ _) (monoX2_init _ _ _) (fun _ => ?_) | refine mo_bindQ (q := (fun (z : sk_S × sk_D) => z.1.1)) (mo_itr (μ := (fun (z : Int32 × sk_S × sk_D) => z.2.1.1)) (mono_fX10_init_L109 _) _) (fun _ => ?_) | refine mo_bindQ (q := (fun (z : sk_S × sk_D) => z.1.1)) (mo_itr (μ := (fun (z : Int32 × sk_S × sk_D) => z.2.1.1)) (mono_fX10_init_L135 _) _) (fun _ => ?_) | refine mo_ite ?_ ?_ | refine mo_bind (fun _ => ?_) | dsimp only | split))
  refine sk_putRF S54 K dX10_init_75 fl_X10_53 (fun _ _ _ h => by cases h; rfl) rfl rfl rfl rfl e55 ?_
  refine sk_aload_n K dX10_init_78 rfl 0 rfl ?_
  refine sk_iconst (2 : Int32) K dX10_init_79 (by decide) ?_
  obtain ⟨⟨v56, S57, d58⟩, e59, hf⟩ := sk_ob hf
  try dsimp only at hf
  have R1_S57 := sk_le_tr R1_S54 (sk_mk_1 e59)
  have R2_S57 : S57.1.1 ≤ SS.1.1 ∧ S57.1.2 ≤ SS.1.2 := mo_use (n := S57.1) (pr := (fun (z : sk_S × sk_D) => z.1.1)) hf (by repeat' (first | exact mo_none | exact mo_some ⟨Nat.le_refl _, Nat.le_refl _⟩ | refine mo_pR (fun _ => ?_) | refine mo_mk (fun _ => ?_) | refine mo_sR24 (fun _ => ?_) | refine mo_sR25 (fun _ => ?_) | refine mo_A ⟨Nat.le_refl _, Nat.le_refl _⟩ (monoX9_init _ _ _) (fun _ => ?_) | refine mo_A (sk_nS_le _ _ _ _) (monoX9_init _ _ _) (fun _ => ?_) | refine mo_A ⟨Nat.le_refl _, Nat.le_refl _⟩ (monoX5_init _ _ _) (fun _ => ?_) | refine mo_A (sk_nS_le _ _ _ _) (monoX5_init _ _ _) (fun _ => ?_) | refine mo_A ⟨Nat.le_refl _, Nat.le_refl _⟩ (monoX8_init _ _ _) (fun _ => ?_) | refine mo_A (sk_nS_le _ _ _ _) (monoX8_init _ _ _) (fun _ => ?_) | refine mo_A ⟨Nat.le_refl _, Nat.le_refl _⟩ (monoX3_init _ _ _) (fun _ => ?_) | refine mo_A (sk_nS_le _ _ _ _) (monoX3_init _ _ _) (fun _ => ?_) | refine mo_A ⟨Nat.le_refl _, Nat.le_refl _⟩ (monoX0_init _ _ _) (fun _ => ?_) | refine mo_A (sk_nS_le _ _ _ _) (monoX0_init _ _ _) (fun _ => ?_) | refine mo_A ⟨Nat.le_refl _, Nat.le_refl _⟩ (monoX4_init _ _ _) (fun _ => ?_) | refine mo_A (sk_nS_le _ _ _ _) (monoX4_init _ _ _) (fun _ => ?_) | refine mo_A ⟨Nat.le_refl _, Nat.le_refl _⟩ (monoX6_init _ _ _) (fun _ => ?_) | refine mo_A (sk_nS_le _ _ _ _) (monoX6_init _ _ _) (fun _ => ?_) | refine mo_A ⟨Nat.le_refl _, Nat.le_refl _⟩ (monoX2_init _ _ _) (fun _ => ?_) | refine mo_A (sk_nS_le _ _ _ _) (monoX2_init _ _ _) (fun _ => ?_) | refine mo_bindQ (q := (fun (z : sk_S × sk_D) => z.1.1)) (mo_itr (μ := (fun (z : Int32 × sk_S × sk_D) => z.2.1.1)) (mono_fX10_init_L109 _) _) (fun _ => ?_) | refine mo_bindQ (q := (fun (z : sk_S × sk_D) => z.1.1)) (mo_itr (μ := (fun (z : Int32 × sk_S × sk_D) => z.2.1.1)) (mono_fX10_init_L135 _) _) (fun _ => ?_) | refine mo_ite ?_ ?_ | refine mo_bind (fun _ => ?_) | dsimp only | split))
  refine sk_anew25 K dX10_init_80 qw_398 e59 R1_S54 R2_S57 ?_
  obtain ⟨S61, e62, hf⟩ := sk_ob hf
  have R1_S61 := sk_le_eq R1_S57 (sk_pR_1 e62)
  have R2_S61 : S61.1.1 ≤ SS.1.1 ∧ S61.1.2 ≤ SS.1.2 := mo_use (n := S61.1) (pr := (fun (z : sk_S × sk_D) => z.1.1)) hf (by repeat' (first | exact mo_none | exact mo_some ⟨Nat.le_refl _, Nat.le_refl _⟩ | refine mo_pR (fun _ => ?_) | refine mo_mk (fun _ => ?_) | refine mo_sR24 (fun _ => ?_) | refine mo_sR25 (fun _ => ?_) | refine mo_A ⟨Nat.le_refl _, Nat.le_refl _⟩ (monoX9_init _ _ _) (fun _ => ?_) | refine mo_A (sk_nS_le _ _ _ _) (monoX9_init _ _ _) (fun _ => ?_) | refine mo_A ⟨Nat.le_refl _, Nat.le_refl _⟩ (monoX5_init _ _ _) (fun _ => ?_) | refine mo_A (sk_nS_le _ _ _ _) (monoX5_init _ _ _) (fun _ => ?_) | refine mo_A ⟨Nat.le_refl _, Nat.le_refl _⟩ (monoX8_init _ _ _) (fun _ => ?_) | refine mo_A (sk_nS_le _ _ _ _) (monoX8_init _ _ _) (fun _ => ?_) | refine mo_A ⟨Nat.le_refl _, Nat.le_refl _⟩ (monoX3_init _ _ _) (fun _ => ?_) | refine mo_A (sk_nS_le _ _ _ _) (monoX3_init _ _ _) (fun _ => ?_) | refine mo_A ⟨Nat.le_refl _, Nat.le_refl _⟩ (monoX0_init _ _ _) (fun _ => ?_) | refine mo_A (sk_nS_le _ _ _ _) (monoX0_init _ _ _) (fun _ => ?_) | refine mo_A ⟨Nat.le_refl _, Nat.le_refl _⟩ (monoX4_init _ _ _) (fun _ => ?_) | refine mo_A (sk_nS_le _ _ _ _) (monoX4_init _ _ _) (fun _ => ?_) | refine mo_A ⟨Nat.le_refl _, Nat.le_refl _⟩ (monoX6_init _ _ _) (fun _ => ?_) | refine mo_A (sk_nS_le _ _ _ _) (monoX6_init _ _ _) (fun _ => ?_) | refine mo_A ⟨Nat.le_refl _, Nat.le_refl _⟩ (monoX2_init _ _ _) (fun _ => ?_) | refine mo_A (sk_nS_le _ _ _ _) (monoX2_init _ _ _) (fun _ => ?_) | refine mo_bindQ (q := (fun (z : sk_S × sk_D) => z.1.1)) (mo_itr (μ := (fun (z : Int32 × sk_S × sk_D) => z.2.1.1)) (mono_fX10_init_L109 _) _) (fun _ => ?_) | refine mo_bindQ (q := (fun (z : sk_S × sk_D) => z.1.1)) (mo_itr (μ := (fun (z : Int32 × sk_S × sk_D) => z.2.1.1)) (mono_fX10_init_L135 _) _) (fun _ => ?_) | refine mo_ite ?_ ?_ | refine mo_bind (fun _ => ?_) | dsimp only | split))
  refine sk_putRF S61 K dX10_init_83 fl_X10_59 (fun _ _ _ h => by cases h; rfl) rfl rfl rfl rfl e62 ?_
  refine sk_aload_n K dX10_init_86 rfl 0 rfl ?_
  refine sk_iconst (2 : Int32) K dX10_init_87 (by decide) ?_
  obtain ⟨⟨v63, S64, d65⟩, e66, hf⟩ := sk_ob hf
  try dsimp only at hf
  have R1_S64 := sk_le_tr R1_S61 (sk_mk_1 e66)
  have R2_S64 : S64.1.1 ≤ SS.1.1 ∧ S64.1.2 ≤ SS.1.2 := mo_use (n := S64.1) (pr := (fun (z : sk_S × sk_D) => z.1.1)) hf (by repeat' (first | exact mo_none | exact mo_some ⟨Nat.le_refl _, Nat.le_refl _⟩ | refine mo_pR (fun _ => ?_) | refine mo_mk (fun _ => ?_) | refine mo_sR24 (fun _ => ?_) | refine mo_sR25 (fun _ => ?_) | refine mo_A ⟨Nat.le_refl _, Nat.le_refl _⟩ (monoX9_init _ _ _) (fun _ => ?_) | refine mo_A (sk_nS_le _ _ _ _) (monoX9_init _ _ _) (fun _ => ?_) | refine mo_A ⟨Nat.le_refl _, Nat.le_refl _⟩ (monoX5_init _ _ _) (fun _ => ?_) | refine mo_A (sk_nS_le _ _ _ _) (monoX5_init _ _ _) (fun _ => ?_) | refine mo_A ⟨Nat.le_refl _, Nat.le_refl _⟩ (monoX8_init _ _ _) (fun _ => ?_) | refine mo_A (sk_nS_le _ _ _ _) (monoX8_init _ _ _) (fun _ => ?_) | refine mo_A ⟨Nat.le_refl _, Nat.le_refl _⟩ (monoX3_init _ _ _) (fun _ => ?_) | refine mo_A (sk_nS_le _ _ _ _) (monoX3_init _ _ _) (fun _ => ?_) | refine mo_A ⟨Nat.le_refl _, Nat.le_refl _⟩ (monoX0_init _ _ _) (fun _ => ?_) | refine mo_A (sk_nS_le _ _ _ _) (monoX0_init _ _ _) (fun _ => ?_) | refine mo_A ⟨Nat.le_refl _, Nat.le_refl _⟩ (monoX4_init _ _ _) (fun _ => ?_) | refine mo_A (sk_nS_le _ _ _ _) (monoX4_init _ _ _) (fun _ => ?_) | refine mo_A ⟨Nat.le_refl _, Nat.le_refl _⟩ (monoX6_init _ _ _) (fun _ => ?_) | refine mo_A (sk_nS_le _ _ _ _) (monoX6_init _ _ _) (fun _ => ?_) | refine mo_A ⟨Nat.le_refl _, Nat.le_refl _⟩ (monoX2_init _ _ _) (fun _ => ?_) | refine mo_A (sk_nS_le _ _ _ _) (monoX2_init _ _ _) (fun _ => ?_) | refine mo_bindQ (q := (fun (z : sk_S × sk_D) => z.1.1)) (mo_itr (μ := (fun (z : Int32 × sk_S × sk_D) => z.2.1.1)) (mono_fX10_init_L109 _) _) (fun _ => ?_) | refine mo_bindQ (q := (fun (z : sk_S × sk_D) => z.1.1)) (mo_itr (μ := (fun (z : Int32 × sk_S × sk_D) => z.2.1.1)) (mono_fX10_init_L135 _) _) (fun _ => ?_) | refine mo_ite ?_ ?_ | refine mo_bind (fun _ => ?_) | dsimp only | split))
  refine sk_newa20 K dX10_init_88 qw_183 e66 R1_S61 R2_S64 ?_
  obtain ⟨S68, e69, hf⟩ := sk_ob hf
  have R1_S68 := sk_le_eq R1_S64 (sk_pR_1 e69)
  have R2_S68 : S68.1.1 ≤ SS.1.1 ∧ S68.1.2 ≤ SS.1.2 := mo_use (n := S68.1) (pr := (fun (z : sk_S × sk_D) => z.1.1)) hf (by repeat' (first | exact mo_none | exact mo_some ⟨Nat.le_refl _, Nat.le_refl _⟩ | refine mo_pR (fun _ => ?_) | refine mo_mk (fun _ => ?_) | refine mo_sR24 (fun _ => ?_) | refine mo_sR25 (fun _ => ?_) | refine mo_A ⟨Nat.le_refl _, Nat.le_refl _⟩ (monoX9_init _ _ _) (fun _ => ?_) | refine mo_A (sk_nS_le _ _ _ _) (monoX9_init _ _ _) (fun _ => ?_) | refine mo_A ⟨Nat.le_refl _, Nat.le_refl _⟩ (monoX5_init _ _ _) (fun _ => ?_) | refine mo_A (sk_nS_le _ _ _ _) (monoX5_init _ _ _) (fun _ => ?_) | refine mo_A ⟨Nat.le_refl _, Nat.le_refl _⟩ (monoX8_init _ _ _) (fun _ => ?_) | refine mo_A (sk_nS_le _ _ _ _) (monoX8_init _ _ _) (fun _ => ?_) | refine mo_A ⟨Nat.le_refl _, Nat.le_refl _⟩ (monoX3_init _ _ _) (fun _ => ?_) | refine mo_A (sk_nS_le _ _ _ _) (monoX3_init _ _ _) (fun _ => ?_) | refine mo_A ⟨Nat.le_refl _, Nat.le_refl _⟩ (monoX0_init _ _ _) (fun _ => ?_) | refine mo_A (sk_nS_le _ _ _ _) (monoX0_init _ _ _) (fun _ => ?_) | refine mo_A ⟨Nat.le_refl _, Nat.le_refl _⟩ (monoX4_init _ _ _) (fun _ => ?_) | refine mo_A (sk_nS_le _ _ _ _) (monoX4_init _ _ _) (fun _ => ?_) | refine mo_A ⟨Nat.le_refl _, Nat.le_refl _⟩ (monoX6_init _ _ _) (fun _ => ?_) | refine mo_A (sk_nS_le _ _ _ _) (monoX6_init _ _ _) (fun _ => ?_) | refine mo_A ⟨Nat.le_refl _, Nat.le_refl _⟩ (monoX2_init _ _ _) (fun _ => ?_) | refine mo_A (sk_nS_le _ _ _ _) (monoX2_init _ _ _) (fun _ => ?_) | refine mo_bindQ (q := (fun (z : sk_S × sk_D) => z.1.1)) (mo_itr (μ := (fun (z : Int32 × sk_S × sk_D) => z.2.1.1)) (mono_fX10_init_L109 _) _) (fun _ => ?_) | refine mo_bindQ (q := (fun (z : sk_S × sk_D) => z.1.1)) (mo_itr (μ := (fun (z : Int32 × sk_S × sk_D) => z.2.1.1)) (mono_fX10_init_L135 _) _) (fun _ => ?_) | refine mo_ite ?_ ?_ | refine mo_bind (fun _ => ?_) | dsimp only | split))
  refine sk_putRF S68 K dX10_init_90 fl_X10_63 (fun _ _ _ h => by cases h; rfl) rfl rfl rfl rfl e69 ?_
  refine sk_aload_n K dX10_init_93 rfl 0 rfl ?_
  refine sk_sipush (900 : Int32) K dX10_init_94 (by decide) ?_
  obtain ⟨⟨v70, S71, d72⟩, e73, hf⟩ := sk_ob hf
  try dsimp only at hf
  have R1_S71 := sk_le_tr R1_S68 (sk_mk_1 e73)
  have R2_S71 : S71.1.1 ≤ SS.1.1 ∧ S71.1.2 ≤ SS.1.2 := mo_use (n := S71.1) (pr := (fun (z : sk_S × sk_D) => z.1.1)) hf (by repeat' (first | exact mo_none | exact mo_some ⟨Nat.le_refl _, Nat.le_refl _⟩ | refine mo_pR (fun _ => ?_) | refine mo_mk (fun _ => ?_) | refine mo_sR24 (fun _ => ?_) | refine mo_sR25 (fun _ => ?_) | refine mo_A ⟨Nat.le_refl _, Nat.le_refl _⟩ (monoX9_init _ _ _) (fun _ => ?_) | refine mo_A (sk_nS_le _ _ _ _) (monoX9_init _ _ _) (fun _ => ?_) | refine mo_A ⟨Nat.le_refl _, Nat.le_refl _⟩ (monoX5_init _ _ _) (fun _ => ?_) | refine mo_A (sk_nS_le _ _ _ _) (monoX5_init _ _ _) (fun _ => ?_) | refine mo_A ⟨Nat.le_refl _, Nat.le_refl _⟩ (monoX8_init _ _ _) (fun _ => ?_) | refine mo_A (sk_nS_le _ _ _ _) (monoX8_init _ _ _) (fun _ => ?_) | refine mo_A ⟨Nat.le_refl _, Nat.le_refl _⟩ (monoX3_init _ _ _) (fun _ => ?_) | refine mo_A (sk_nS_le _ _ _ _) (monoX3_init _ _ _) (fun _ => ?_) | refine mo_A ⟨Nat.le_refl _, Nat.le_refl _⟩ (monoX0_init _ _ _) (fun _ => ?_) | refine mo_A (sk_nS_le _ _ _ _) (monoX0_init _ _ _) (fun _ => ?_) | refine mo_A ⟨Nat.le_refl _, Nat.le_refl _⟩ (monoX4_init _ _ _) (fun _ => ?_) | refine mo_A (sk_nS_le _ _ _ _) (monoX4_init _ _ _) (fun _ => ?_) | refine mo_A ⟨Nat.le_refl _, Nat.le_refl _⟩ (monoX6_init _ _ _) (fun _ => ?_) | refine mo_A (sk_nS_le _ _ _ _) (monoX6_init _ _ _) (fun _ => ?_) | refine mo_A ⟨Nat.le_refl _, Nat.le_refl _⟩ (monoX2_init _ _ _) (fun _ => ?_) | refine mo_A (sk_nS_le _ _ _ _) (monoX2_init _ _ _) (fun _ => ?_) | refine mo_bindQ (q := (fun (z : sk_S × sk_D) => z.1.1)) (mo_itr (μ := (fun (z : Int32 × sk_S × sk_D) => z.2.1.1)) (mono_fX10_init_L109 _) _) (fun _ => ?_) | refine mo_bindQ (q := (fun (z : sk_S × sk_D) => z.1.1)) (mo_itr (μ := (fun (z : Int32 × sk_S × sk_D) => z.2.1.1)) (mono_fX10_init_L135 _) _) (fun _ => ?_) | refine mo_ite ?_ ?_ | refine mo_bind (fun _ => ?_) | dsimp only | split))
  refine sk_newa20 K dX10_init_97 qw_183 e73 R1_S68 R2_S71 ?_
  obtain ⟨S75, e76, hf⟩ := sk_ob hf
  have R1_S75 := sk_le_eq R1_S71 (sk_pR_1 e76)
  have R2_S75 : S75.1.1 ≤ SS.1.1 ∧ S75.1.2 ≤ SS.1.2 := mo_use (n := S75.1) (pr := (fun (z : sk_S × sk_D) => z.1.1)) hf (by repeat' (first | exact mo_none | exact mo_some ⟨Nat.le_refl _, Nat.le_refl _⟩ | refine mo_pR (fun _ => ?_) | refine mo_mk (fun _ => ?_) | refine mo_sR24 (fun _ => ?_) | refine mo_sR25 (fun _ => ?_) | refine mo_A ⟨Nat.le_refl _, Nat.le_refl _⟩ (monoX9_init _ _ _) (fun _ => ?_) | refine mo_A (sk_nS_le _ _ _ _) (monoX9_init _ _ _) (fun _ => ?_) | refine mo_A ⟨Nat.le_refl _, Nat.le_refl _⟩ (monoX5_init _ _ _) (fun _ => ?_) | refine mo_A (sk_nS_le _ _ _ _) (monoX5_init _ _ _) (fun _ => ?_) | refine mo_A ⟨Nat.le_refl _, Nat.le_refl _⟩ (monoX8_init _ _ _) (fun _ => ?_) | refine mo_A (sk_nS_le _ _ _ _) (monoX8_init _ _ _) (fun _ => ?_) | refine mo_A ⟨Nat.le_refl _, Nat.le_refl _⟩ (monoX3_init _ _ _) (fun _ => ?_) | refine mo_A (sk_nS_le _ _ _ _) (monoX3_init _ _ _) (fun _ => ?_) | refine mo_A ⟨Nat.le_refl _, Nat.le_refl _⟩ (monoX0_init _ _ _) (fun _ => ?_) | refine mo_A (sk_nS_le _ _ _ _) (monoX0_init _ _ _) (fun _ => ?_) | refine mo_A ⟨Nat.le_refl _, Nat.le_refl _⟩ (monoX4_init _ _ _) (fun _ => ?_) | refine mo_A (sk_nS_le _ _ _ _) (monoX4_init _ _ _) (fun _ => ?_) | refine mo_A ⟨Nat.le_refl _, Nat.le_refl _⟩ (monoX6_init _ _ _) (fun _ => ?_) | refine mo_A (sk_nS_le _ _ _ _) (monoX6_init _ _ _) (fun _ => ?_) | refine mo_A ⟨Nat.le_refl _, Nat.le_refl _⟩ (monoX2_init _ _ _) (fun _ => ?_) | refine mo_A (sk_nS_le _ _ _ _) (monoX2_init _ _ _) (fun _ => ?_) | refine mo_bindQ (q := (fun (z : sk_S × sk_D) => z.1.1)) (mo_itr (μ := (fun (z : Int32 × sk_S × sk_D) => z.2.1.1)) (mono_fX10_init_L109 _) _) (fun _ => ?_) | refine mo_bindQ (q := (fun (z : sk_S × sk_D) => z.1.1)) (mo_itr (μ := (fun (z : Int32 × sk_S × sk_D) => z.2.1.1)) (mono_fX10_init_L135 _) _) (fun _ => ?_) | refine mo_ite ?_ ?_ | refine mo_bind (fun _ => ?_) | dsimp only | split))
  refine sk_putRF S75 K dX10_init_99 fl_X10_67 (fun _ _ _ h => by cases h; rfl) rfl rfl rfl rfl e76 ?_
  refine sk_aload_n K dX10_init_102 rfl 0 rfl ?_
  refine sk_iconst (0 : Int32) K dX10_init_103 (by decide) ?_
  obtain ⟨d77, e78, hf⟩ := sk_ob hf
  refine sk_putI d77 K dX10_init_104 fl_X10_70 rfl rfl rfl e78 ?_
  refine sk_iconst (0 : Int32) K dX10_init_107 (by decide) ?_
  refine sk_istore_n [(1, .int (0 : Int32)), (0, .ref p0)] K dX10_init_108 rfl (by decide) rfl ?_
  obtain ⟨x1, he1, hf⟩ := sk_ob hf
  have rest1 : ∀ y1, y1 = x1 → (X.2.2.2.2.2.2.2.2.2.2.2.1 ≤ y1.1.1.1 ∧ X.2.2.2.2.2.2.2.2.2.2.2.2 ≤ y1.1.1.2) → sk_G X C 2 y1.1 y1.2 133 [(0, .ref p0)] [] := by
    intro y1 hy R1y1
    subst hy
    have R2y1 : y1.1.1.1 ≤ SS.1.1 ∧ y1.1.1.2 ≤ SS.1.2 := mo_use (n := y1.1.1) (pr := (fun (z : sk_S × sk_D) => z.1.1)) hf (by repeat' (first | exact mo_none | exact mo_some ⟨Nat.le_refl _, Nat.le_refl _⟩ | refine mo_pR (fun _ => ?_) | refine mo_mk (fun _ => ?_) | refine mo_sR24 (fun _ => ?_) | refine mo_sR25 (fun _ => ?_) | refine mo_A ⟨Nat.le_refl _, Nat.le_refl _⟩ (monoX9_init _ _ _) (fun _ => ?_) | refine mo_A (sk_nS_le _ _ _ _) (monoX9_init _ _ _) (fun _ => ?_) | refine mo_A ⟨Nat.le_refl _, Nat.le_refl _⟩ (monoX5_init _ _ _) (fun _ => ?_) | refine mo_A (sk_nS_le _ _ _ _) (monoX5_init _ _ _) (fun _ => ?_) | refine mo_A ⟨Nat.le_refl _, Nat.le_refl _⟩ (monoX8_init _ _ _) (fun _ => ?_) | refine mo_A (sk_nS_le _ _ _ _) (monoX8_init _ _ _) (fun _ => ?_) | refine mo_A ⟨Nat.le_refl _, Nat.le_refl _⟩ (monoX3_init _ _ _) (fun _ => ?_) | refine mo_A (sk_nS_le _ _ _ _) (monoX3_init _ _ _) (fun _ => ?_) | refine mo_A ⟨Nat.le_refl _, Nat.le_refl _⟩ (monoX0_init _ _ _) (fun _ => ?_) | refine mo_A (sk_nS_le _ _ _ _) (monoX0_init _ _ _) (fun _ => ?_) | refine mo_A ⟨Nat.le_refl _, Nat.le_refl _⟩ (monoX4_init _ _ _) (fun _ => ?_) | refine mo_A (sk_nS_le _ _ _ _) (monoX4_init _ _ _) (fun _ => ?_) | refine mo_A ⟨Nat.le_refl _, Nat.le_refl _⟩ (monoX6_init _ _ _) (fun _ => ?_) | refine mo_A (sk_nS_le _ _ _ _) (monoX6_init _ _ _) (fun _ => ?_) | refine mo_A ⟨Nat.le_refl _, Nat.le_refl _⟩ (monoX2_init _ _ _) (fun _ => ?_) | refine mo_A (sk_nS_le _ _ _ _) (monoX2_init _ _ _) (fun _ => ?_) | refine mo_bindQ (q := (fun (z : sk_S × sk_D) => z.1.1)) (mo_itr (μ := (fun (z : Int32 × sk_S × sk_D) => z.2.1.1)) (mono_fX10_init_L109 _) _) (fun _ => ?_) | refine mo_bindQ (q := (fun (z : sk_S × sk_D) => z.1.1)) (mo_itr (μ := (fun (z : Int32 × sk_S × sk_D) => z.2.1.1)) (mono_fX10_init_L135 _) _) (fun _ => ?_) | refine mo_ite ?_ ?_ | refine mo_bind (fun _ => ?_) | dsimp only | split))
    refine sk_iconst (0 : Int32) K dX10_init_133 (by decide) ?_
    refine sk_istore_n [(1, .int (0 : Int32)), (0, .ref p0)] K dX10_init_134 rfl (by decide) rfl ?_
    obtain ⟨x2, he2, hf⟩ := sk_ob hf
    have hret2 : ∀ r, r = x2 → r = (SS, dd) := by
      intro r hr
      subst hr
      exact Option.some.inj hf
    refine sk_sub [(0, .ref p0), (1, .int (0 : Int32))] [1, 0] rfl ?_
    have mb2 := mono_fX10_init_L135 p0
    have R2x2 : ((fun (z : sk_S × sk_D) => z.1.1) x2).1 ≤ SS.1.1 ∧ ((fun (z : sk_S × sk_D) => z.1.1) x2).2 ≤ SS.1.2 := by rw [hret2 _ rfl]; exact ⟨Nat.le_refl _, Nat.le_refl _⟩
    refine sk_loop2 (fun s2 => (X.2.2.2.2.2.2.2.2.2.2.2.1 ≤ s2.2.1.1.1 ∧ X.2.2.2.2.2.2.2.2.2.2.2.2 ≤ s2.2.1.1.2) → sk_G X C 2 s2.2.1 s2.2.2 135 [(0, .ref p0), (1, .int s2.1)] []) he2 (fun s2 o2 hit2 hf ih2 hx2 => ?_) R1y1
    intro R1s2
    have RO2 := sk_le_tr (mo_step mb2 hit2 hf) R2x2
    have R2s2 : s2.2.1.1.1 ≤ SS.1.1 ∧ s2.2.1.1.2 ≤ SS.1.2 := sk_le_tr (mo_use hit2 (mo_itr mb2 s2)) R2x2
    unfold fX10_init_L135 at hf
    refine sk_iload_n K dX10_init_135 rfl 1 rfl ?_
    refine sk_iconst (2 : Int32) K dX10_init_136 (by decide) ?_
    refine sk_icmp_ge 166 K dX10_init_137 (by decide) (fun h79 => ?_) (fun h79 => ?_)
    · rw [if_pos h79] at hf
      have hR80 : (s2.2.1, s2.2.2) = (SS, dd) := hret2 _ (hx2 _ (Option.some.inj hf).symm)
      exact sk_vret K dX10_init_166 rfl rfl (congrArg (fun z => z.1) hR80) (congrArg (fun z => z.2) hR80)
    · rw [if_neg h79] at hf
      refine sk_aload_n K dX10_init_140 rfl 0 rfl ?_
      obtain ⟨v81, e82, hf⟩ := sk_ob hf
      refine sk_getR K dX10_init_141 fl_X10_59 rfl e82 ?_
      refine sk_iload_n K dX10_init_144 rfl 1 rfl ?_
      have RN83 : s2.2.1.1.1 + 1 ≤ SS.1.1 ∧ s2.2.1.1.2 + sk_N 2 ≤ SS.1.2 := sk_le_tr (mo_use (n := (sk_nS s2.2.1 2 0 (sk_N 2)).1) (pr := (Sum.elim (fun (z : Int32 × sk_S × sk_D) => z.2.1.1) (fun (z : sk_S × sk_D) => z.1.1))) hf (by repeat' (first | exact mo_none | exact mo_some ⟨Nat.le_refl _, Nat.le_refl _⟩ | refine mo_pR (fun _ => ?_) | refine mo_mk (fun _ => ?_) | refine mo_sR24 (fun _ => ?_) | refine mo_sR25 (fun _ => ?_) | refine mo_A ⟨Nat.le_refl _, Nat.le_refl _⟩ (monoX9_init _ _ _) (fun _ => ?_) | refine mo_A (sk_nS_le _ _ _ _) (monoX9_init _ _ _) (fun _ => ?_) | refine mo_A ⟨Nat.le_refl _, Nat.le_refl _⟩ (monoX5_init _ _ _) (fun _ => ?_) | refine mo_A (sk_nS_le _ _ _ _) (monoX5_init _ _ _) (fun _ => ?_) | refine mo_A ⟨Nat.le_refl _, Nat.le_refl _⟩ (monoX8_init _ _ _) (fun _ => ?_) | refine mo_A (sk_nS_le _ _ _ _) (monoX8_init _ _ _) (fun _ => ?_) | refine mo_A ⟨Nat.le_refl _, Nat.le_refl _⟩ (monoX3_init _ _ _) (fun _ => ?_) | refine mo_A (sk_nS_le _ _ _ _) (monoX3_init _ _ _) (fun _ => ?_) | refine mo_A ⟨Nat.le_refl _, Nat.le_refl _⟩ (monoX0_init _ _ _) (fun _ => ?_) | refine mo_A (sk_nS_le _ _ _ _) (monoX0_init _ _ _) (fun _ => ?_) | refine mo_A ⟨Nat.le_refl _, Nat.le_refl _⟩ (monoX4_init _ _ _) (fun _ => ?_) | refine mo_A (sk_nS_le _ _ _ _) (monoX4_init _ _ _) (fun _ => ?_) | refine mo_A ⟨Nat.le_refl _, Nat.le_refl _⟩ (monoX6_init _ _ _) (fun _ => ?_) | refine mo_A (sk_nS_le _ _ _ _) (monoX6_init _ _ _) (fun _ => ?_) | refine mo_A ⟨Nat.le_refl _, Nat.le_refl _⟩ (monoX2_init _ _ _) (fun _ => ?_) | refine mo_A (sk_nS_le _ _ _ _) (monoX2_init _ _ _) (fun _ => ?_) | refine mo_bindQ (q := (fun (z : sk_S × sk_D) => z.1.1)) (mo_itr (μ := (fun (z : Int32 × sk_S × sk_D) => z.2.1.1)) (mono_fX10_init_L109 _) _) (fun _ => ?_) | refine mo_bindQ (q := (fun (z : sk_S × sk_D) => z.1.1)) (mo_itr (μ := (fun (z : Int32 × sk_S × sk_D) => z.2.1.1)) (mono_fX10_init_L135 _) _) (fun _ => ?_) | refine mo_ite ?_ ?_ | refine mo_bind (fun _ => ?_) | dsimp only | split))) RO2
      refine sk_new K dX10_init_145 nw_X10_57 R1s2 RN83 ?_
      refine sk_dup K dX10_init_148 rfl ?_
      obtain ⟨⟨S86, d87⟩, e85, hf⟩ := sk_ob hf
      try dsimp only at hf
      have R1_S86 := sk_le_tr (sk_nS_le2 R1s2) (mo_use (pr := (fun (z : sk_S × sk_D) => z.1.1)) e85 (monoX2_init _ _ _))
      have R2_S86 : S86.1.1 ≤ SS.1.1 ∧ S86.1.2 ≤ SS.1.2 := sk_le_tr (mo_use (n := S86.1) (pr := (Sum.elim (fun (z : Int32 × sk_S × sk_D) => z.2.1.1) (fun (z : sk_S × sk_D) => z.1.1))) hf (by repeat' (first | exact mo_none | exact mo_some ⟨Nat.le_refl _, Nat.le_refl _⟩ | refine mo_pR (fun _ => ?_) | refine mo_mk (fun _ => ?_) | refine mo_sR24 (fun _ => ?_) | refine mo_sR25 (fun _ => ?_) | refine mo_A ⟨Nat.le_refl _, Nat.le_refl _⟩ (monoX9_init _ _ _) (fun _ => ?_) | refine mo_A (sk_nS_le _ _ _ _) (monoX9_init _ _ _) (fun _ => ?_) | refine mo_A ⟨Nat.le_refl _, Nat.le_refl _⟩ (monoX5_init _ _ _) (fun _ => ?_) | refine mo_A (sk_nS_le _ _ _ _) (monoX5_init _ _ _) (fun _ => ?_) | refine mo_A ⟨Nat.le_refl _, Nat.le_refl _⟩ (monoX8_init _ _ _) (fun _ => ?_) | refine mo_A (sk_nS_le _ _ _ _) (monoX8_init _ _ _) (fun _ => ?_) | refine mo_A ⟨Nat.le_refl _, Nat.le_refl _⟩ (monoX3_init _ _ _) (fun _ => ?_) | refine mo_A (sk_nS_le _ _ _ _) (monoX3_init _ _ _) (fun _ => ?_) | refine mo_A ⟨Nat.le_refl _, Nat.le_refl _⟩ (monoX0_init _ _ _) (fun _ => ?_) | refine mo_A (sk_nS_le _ _ _ _) (monoX0_init _ _ _) (fun _ => ?_) | refine mo_A ⟨Nat.le_refl _, Nat.le_refl _⟩ (monoX4_init _ _ _) (fun _ => ?_) | refine mo_A (sk_nS_le _ _ _ _) (monoX4_init _ _ _) (fun _ => ?_) | refine mo_A ⟨Nat.le_refl _, Nat.le_refl _⟩ (monoX6_init _ _ _) (fun _ => ?_) | refine mo_A (sk_nS_le _ _ _ _) (monoX6_init _ _ _) (fun _ => ?_) | refine mo_A ⟨Nat.le_refl _, Nat.le_refl _⟩ (monoX2_init _ _ _) (fun _ => ?_) | refine mo_A (sk_nS_le _ _ _ _) (monoX2_init _ _ _) (fun _ => ?_) | refine mo_bindQ (q := (fun (z : sk_S × sk_D) => z.1.1)) (mo_itr (μ := (fun (z : Int32 × sk_S × sk_D) => z.2.1.1)) (mono_fX10_init_L109 _) _) (fun _ => ?_) | refine mo_bindQ (q := (fun (z : sk_S × sk_D) => z.1.1)) (mo_itr (μ := (fun (z : Int32 × sk_S × sk_D) => z.2.1.1)) (mono_fX10_init_L135 _) _) (fun _ => ?_) | refine mo_ite ?_ ?_ | refine mo_bind (fun _ => ?_) | dsimp only | split))) RO2
      refine sk_callI (As := []) (st := [.ref (s2.2.1.1.1 + 1), .int s2.1, .ref v81]) K dX10_init_149 cl_X10_75 rfl (sX2_init C l e85) (by decide) rfl rfl (Nat.le_of_ble_eq_true rfl) (sk_nS_le2 R1s2) R2_S86 ?_
      obtain ⟨S89, e90, hf⟩ := sk_ob hf
      have R1_S89 := sk_le_eq R1_S86 (sk_sR25_1 e90)
      have R2_S89 : S89.1.1 ≤ SS.1.1 ∧ S89.1.2 ≤ SS.1.2 := sk_le_tr (mo_use (n := S89.1) (pr := (Sum.elim (fun (z : Int32 × sk_S × sk_D) => z.2.1.1) (fun (z : sk_S × sk_D) => z.1.1))) hf (by repeat' (first | exact mo_none | exact mo_some ⟨Nat.le_refl _, Nat.le_refl _⟩ | refine mo_pR (fun _ => ?_) | refine mo_mk (fun _ => ?_) | refine mo_sR24 (fun _ => ?_) | refine mo_sR25 (fun _ => ?_) | refine mo_A ⟨Nat.le_refl _, Nat.le_refl _⟩ (monoX9_init _ _ _) (fun _ => ?_) | refine mo_A (sk_nS_le _ _ _ _) (monoX9_init _ _ _) (fun _ => ?_) | refine mo_A ⟨Nat.le_refl _, Nat.le_refl _⟩ (monoX5_init _ _ _) (fun _ => ?_) | refine mo_A (sk_nS_le _ _ _ _) (monoX5_init _ _ _) (fun _ => ?_) | refine mo_A ⟨Nat.le_refl _, Nat.le_refl _⟩ (monoX8_init _ _ _) (fun _ => ?_) | refine mo_A (sk_nS_le _ _ _ _) (monoX8_init _ _ _) (fun _ => ?_) | refine mo_A ⟨Nat.le_refl _, Nat.le_refl _⟩ (monoX3_init _ _ _) (fun _ => ?_) | refine mo_A (sk_nS_le _ _ _ _) (monoX3_init _ _ _) (fun _ => ?_) | refine mo_A ⟨Nat.le_refl _, Nat.le_refl _⟩ (monoX0_init _ _ _) (fun _ => ?_) | refine mo_A (sk_nS_le _ _ _ _) (monoX0_init _ _ _) (fun _ => ?_) | refine mo_A ⟨Nat.le_refl _, Nat.le_refl _⟩ (monoX4_init _ _ _) (fun _ => ?_) | refine mo_A (sk_nS_le _ _ _ _) (monoX4_init _ _ _) (fun _ => ?_) | refine mo_A ⟨Nat.le_refl _, Nat.le_refl _⟩ (monoX6_init _ _ _) (fun _ => ?_) | refine mo_A (sk_nS_le _ _ _ _) (monoX6_init _ _ _) (fun _ => ?_) | refine mo_A ⟨Nat.le_refl _, Nat.le_refl _⟩ (monoX2_init _ _ _) (fun _ => ?_) | refine mo_A (sk_nS_le _ _ _ _) (monoX2_init _ _ _) (fun _ => ?_) | refine mo_bindQ (q := (fun (z : sk_S × sk_D) => z.1.1)) (mo_itr (μ := (fun (z : Int32 × sk_S × sk_D) => z.2.1.1)) (mono_fX10_init_L109 _) _) (fun _ => ?_) | refine mo_bindQ (q := (fun (z : sk_S × sk_D) => z.1.1)) (mo_itr (μ := (fun (z : Int32 × sk_S × sk_D) => z.2.1.1)) (mono_fX10_init_L135 _) _) (fun _ => ?_) | refine mo_ite ?_ ?_ | refine mo_bind (fun _ => ?_) | dsimp only | split))) RO2
      refine sk_ast25 S89 K dX10_init_152 e90 ?_
      refine sk_aload_n K dX10_init_153 rfl 0 rfl ?_
      obtain ⟨v91, e92, hf⟩ := sk_ob hf
      refine sk_getR K dX10_init_154 fl_X10_63 rfl e92 ?_
      refine sk_iload_n K dX10_init_157 rfl 1 rfl ?_
      refine sk_iconst (-1 : Int32) K dX10_init_158 (by decide) ?_
      obtain ⟨d93, e94, hf⟩ := sk_ob hf
      refine sk_ast20 d93 K dX10_init_159 e94 ?_
      refine sk_iinc (s2.1 + 1) [(1, .int (s2.1 + 1)), (0, .ref p0)] K dX10_init_160 1 rfl rfl (by decide) rfl ?_
      refine sk_goto 135 K dX10_init_163 (by decide) ?_
      refine sk_sub [(0, .ref p0), (1, .int (s2.1 + 1))] [1, 0] rfl ?_
      have h9 := ih2 _ (Option.some.inj hf).symm
      exact h9 R1_S89
  refine sk_sub [(0, .ref p0), (1, .int (0 : Int32))] [1, 0] rfl ?_
  have mb1 := mono_fX10_init_L109 p0
  have R2x1 : ((fun (z : sk_S × sk_D) => z.1.1) x1).1 ≤ SS.1.1 ∧ ((fun (z : sk_S × sk_D) => z.1.1) x1).2 ≤ SS.1.2 := mo_use (n := (fun (z : sk_S × sk_D) => z.1.1) x1) (pr := (fun (z : sk_S × sk_D) => z.1.1)) hf (by repeat' (first | exact mo_none | exact mo_some ⟨Nat.le_refl _, Nat.le_refl _⟩ | refine mo_pR (fun _ => ?_) | refine mo_mk (fun _ => ?_) | refine mo_sR24 (fun _ => ?_) | refine mo_sR25 (fun _ => ?_) | refine mo_A ⟨Nat.le_refl _, Nat.le_refl _⟩ (monoX9_init _ _ _) (fun _ => ?_) | refine mo_A (sk_nS_le _ _ _ _) (monoX9_init _ _ _) (fun _ => ?_) | refine mo_A ⟨Nat.le_refl _, Nat.le_refl _⟩ (monoX5_init _ _ _) (fun _ => ?_) | refine mo_A (sk_nS_le _ _ _ _) (monoX5_init _ _ _) (fun _ => ?_) | refine mo_A ⟨Nat.le_refl _, Nat.le_refl _⟩ (monoX8_init _ _ _) (fun _ => ?_) | refine mo_A (sk_nS_le _ _ _ _) (monoX8_init _ _ _) (fun _ => ?_) | refine mo_A ⟨Nat.le_refl _, Nat.le_refl _⟩ (monoX3_init _ _ _) (fun _ => ?_) | refine mo_A (sk_nS_le _ _ _ _) (monoX3_init _ _ _) (fun _ => ?_) | refine mo_A ⟨Nat.le_refl _, Nat.le_refl _⟩ (monoX0_init _ _ _) (fun _ => ?_) | refine mo_A (sk_nS_le _ _ _ _) (monoX0_init _ _ _) (fun _ => ?_) | refine mo_A ⟨Nat.le_refl _, Nat.le_refl _⟩ (monoX4_init _ _ _) (fun _ => ?_) | refine mo_A (sk_nS_le _ _ _ _) (monoX4_init _ _ _) (fun _ => ?_) | refine mo_A ⟨Nat.le_refl _, Nat.le_refl _⟩ (monoX6_init _ _ _) (fun _ => ?_) | refine mo_A (sk_nS_le _ _ _ _) (monoX6_init _ _ _) (fun _ => ?_) | refine mo_A ⟨Nat.le_refl _, Nat.le_refl _⟩ (monoX2_init _ _ _) (fun _ => ?_) | refine mo_A (sk_nS_le _ _ _ _) (monoX2_init _ _ _) (fun _ => ?_) | refine mo_bindQ (q := (fun (z : sk_S × sk_D) => z.1.1)) (mo_itr (μ := (fun (z : Int32 × sk_S × sk_D) => z.2.1.1)) (mono_fX10_init_L109 _) _) (fun _ => ?_) | refine mo_bindQ (q := (fun (z : sk_S × sk_D) => z.1.1)) (mo_itr (μ := (fun (z : Int32 × sk_S × sk_D) => z.2.1.1)) (mono_fX10_init_L135 _) _) (fun _ => ?_) | refine mo_ite ?_ ?_ | refine mo_bind (fun _ => ?_) | dsimp only | split))
  refine sk_loop2 (fun s1 => (X.2.2.2.2.2.2.2.2.2.2.2.1 ≤ s1.2.1.1.1 ∧ X.2.2.2.2.2.2.2.2.2.2.2.2 ≤ s1.2.1.1.2) → sk_G X C 2 s1.2.1 s1.2.2 109 [(0, .ref p0), (1, .int s1.1)] []) he1 (fun s1 o1 hit1 hf ih1 hx1 => ?_) R1_S75
  intro R1s1
  have RO1 := sk_le_tr (mo_step mb1 hit1 hf) R2x1
  have R2s1 : s1.2.1.1.1 ≤ SS.1.1 ∧ s1.2.1.1.2 ≤ SS.1.2 := sk_le_tr (mo_use hit1 (mo_itr mb1 s1)) R2x1
  unfold fX10_init_L109 at hf
  refine sk_iload_n K dX10_init_109 rfl 1 rfl ?_
  refine sk_iconst (4 : Int32) K dX10_init_110 (by decide) ?_
  refine sk_icmp_ge 133 K dX10_init_111 (by decide) (fun h95 => ?_) (fun h95 => ?_)
  · rw [if_pos h95] at hf
    refine sk_sub [(0, .ref p0)] [0] rfl ?_
    have h9 := rest1 _ (hx1 _ (Option.some.inj hf).symm)
    exact h9 R1s1
  · rw [if_neg h95] at hf
    refine sk_aload_n K dX10_init_114 rfl 0 rfl ?_
    obtain ⟨v96, e97, hf⟩ := sk_ob hf
    refine sk_getR K dX10_init_115 fl_X10_53 rfl e97 ?_
    refine sk_iload_n K dX10_init_118 rfl 1 rfl ?_
    have RN98 : s1.2.1.1.1 + 1 ≤ SS.1.1 ∧ s1.2.1.1.2 + sk_N 6 ≤ SS.1.2 := sk_le_tr (mo_use (n := (sk_nS s1.2.1 6 0 (sk_N 6)).1) (pr := (Sum.elim (fun (z : Int32 × sk_S × sk_D) => z.2.1.1) (fun (z : sk_S × sk_D) => z.1.1))) hf (by repeat' (first | exact mo_none | exact mo_some ⟨Nat.le_refl _, Nat.le_refl _⟩ | refine mo_pR (fun _ => ?_) | refine mo_mk (fun _ => ?_) | refine mo_sR24 (fun _ => ?_) | refine mo_sR25 (fun _ => ?_) | refine mo_A ⟨Nat.le_refl _, Nat.le_refl _⟩ (monoX9_init _ _ _) (fun _ => ?_) | refine mo_A (sk_nS_le _ _ _ _) (monoX9_init _ _ _) (fun _ => ?_) | refine mo_A ⟨Nat.le_refl _, Nat.le_refl _⟩ (monoX5_init _ _ _) (fun _ => ?_) | refine mo_A (sk_nS_le _ _ _ _) (monoX5_init _ _ _) (fun _ => ?_) | refine mo_A ⟨Nat.le_refl _, Nat.le_refl _⟩ (monoX8_init _ _ _) (fun _ => ?_) | refine mo_A (sk_nS_le _ _ _ _) (monoX8_init _ _ _) (fun _ => ?_) | refine mo_A ⟨Nat.le_refl _, Nat.le_refl _⟩ (monoX3_init _ _ _) (fun _ => ?_) | refine mo_A (sk_nS_le _ _ _ _) (monoX3_init _ _ _) (fun _ => ?_) | refine mo_A ⟨Nat.le_refl _, Nat.le_refl _⟩ (monoX0_init _ _ _) (fun _ => ?_) | refine mo_A (sk_nS_le _ _ _ _) (monoX0_init _ _ _) (fun _ => ?_) | refine mo_A ⟨Nat.le_refl _, Nat.le_refl _⟩ (monoX4_init _ _ _) (fun _ => ?_) | refine mo_A (sk_nS_le _ _ _ _) (monoX4_init _ _ _) (fun _ => ?_) | refine mo_A ⟨Nat.le_refl _, Nat.le_refl _⟩ (monoX6_init _ _ _) (fun _ => ?_) | refine mo_A (sk_nS_le _ _ _ _) (monoX6_init _ _ _) (fun _ => ?_) | refine mo_A ⟨Nat.le_refl _, Nat.le_refl _⟩ (monoX2_init _ _ _) (fun _ => ?_) | refine mo_A (sk_nS_le _ _ _ _) (monoX2_init _ _ _) (fun _ => ?_) | refine mo_bindQ (q := (fun (z : sk_S × sk_D) => z.1.1)) (mo_itr (μ := (fun (z : Int32 × sk_S × sk_D) => z.2.1.1)) (mono_fX10_init_L109 _) _) (fun _ => ?_) | refine mo_bindQ (q := (fun (z : sk_S × sk_D) => z.1.1)) (mo_itr (μ := (fun (z : Int32 × sk_S × sk_D) => z.2.1.1)) (mono_fX10_init_L135 _) _) (fun _ => ?_) | refine mo_ite ?_ ?_ | refine mo_bind (fun _ => ?_) | dsimp only | split))) RO1
    refine sk_new K dX10_init_119 nw_X10_51 R1s1 RN98 ?_
    refine sk_dup K dX10_init_122 rfl ?_
    obtain ⟨⟨S101, d102⟩, e100, hf⟩ := sk_ob hf
    try dsimp only at hf
    have R1_S101 := sk_le_tr (sk_nS_le2 R1s1) (mo_use (pr := (fun (z : sk_S × sk_D) => z.1.1)) e100 (monoX6_init _ _ _))
    have R2_S101 : S101.1.1 ≤ SS.1.1 ∧ S101.1.2 ≤ SS.1.2 := sk_le_tr (mo_use (n := S101.1) (pr := (Sum.elim (fun (z : Int32 × sk_S × sk_D) => z.2.1.1) (fun (z : sk_S × sk_D) => z.1.1))) hf (by repeat' (first | exact mo_none | exact mo_some ⟨Nat.le_refl _, Nat.le_refl _⟩ | refine mo_pR (fun _ => ?_) | refine mo_mk (fun _ => ?_) | refine mo_sR24 (fun _ => ?_) | refine mo_sR25 (fun _ => ?_) | refine mo_A ⟨Nat.le_refl _, Nat.le_refl _⟩ (monoX9_init _ _ _) (fun _ => ?_) | refine mo_A (sk_nS_le _ _ _ _) (monoX9_init _ _ _) (fun _ => ?_) | refine mo_A ⟨Nat.le_refl _, Nat.le_refl _⟩ (monoX5_init _ _ _) (fun _ => ?_) | refine mo_A (sk_nS_le _ _ _ _) (monoX5_init _ _ _) (fun _ => ?_) | refine mo_A ⟨Nat.le_refl _, Nat.le_refl _⟩ (monoX8_init _ _ _) (fun _ => ?_) | refine mo_A (sk_nS_le _ _ _ _) (monoX8_init _ _ _) (fun _ => ?_) | refine mo_A ⟨Nat.le_refl _, Nat.le_refl _⟩ (monoX3_init _ _ _) (fun _ => ?_) | refine mo_A (sk_nS_le _ _ _ _) (monoX3_init _ _ _) (fun _ => ?_) | refine mo_A ⟨Nat.le_refl _, Nat.le_refl _⟩ (monoX0_init _ _ _) (fun _ => ?_) | refine mo_A (sk_nS_le _ _ _ _) (monoX0_init _ _ _) (fun _ => ?_) | refine mo_A ⟨Nat.le_refl _, Nat.le_refl _⟩ (monoX4_init _ _ _) (fun _ => ?_) | refine mo_A (sk_nS_le _ _ _ _) (monoX4_init _ _ _) (fun _ => ?_) | refine mo_A ⟨Nat.le_refl _, Nat.le_refl _⟩ (monoX6_init _ _ _) (fun _ => ?_) | refine mo_A (sk_nS_le _ _ _ _) (monoX6_init _ _ _) (fun _ => ?_) | refine mo_A ⟨Nat.le_refl _, Nat.le_refl _⟩ (monoX2_init _ _ _) (fun _ => ?_) | refine mo_A (sk_nS_le _ _ _ _) (monoX2_init _ _ _) (fun _ => ?_) | refine mo_bindQ (q := (fun (z : sk_S × sk_D) => z.1.1)) (mo_itr (μ := (fun (z : Int32 × sk_S × sk_D) => z.2.1.1)) (mono_fX10_init_L109 _) _) (fun _ => ?_) | refine mo_bindQ (q := (fun (z : sk_S × sk_D) => z.1.1)) (mo_itr (μ := (fun (z : Int32 × sk_S × sk_D) => z.2.1.1)) (mono_fX10_init_L135 _) _) (fun _ => ?_) | refine mo_ite ?_ ?_ | refine mo_bind (fun _ => ?_) | dsimp only | split))) RO1
    refine sk_callI (As := []) (st := [.ref (s1.2.1.1.1 + 1), .int s1.1, .ref v96]) K dX10_init_123 cl_X10_74 rfl (sX6_init C l e100) (by decide) rfl rfl (Nat.le_of_ble_eq_true rfl) (sk_nS_le2 R1s1) R2_S101 ?_
    obtain ⟨S104, e105, hf⟩ := sk_ob hf
    have R1_S104 := sk_le_eq R1_S101 (sk_sR24_1 e105)
    have R2_S104 : S104.1.1 ≤ SS.1.1 ∧ S104.1.2 ≤ SS.1.2 := sk_le_tr (mo_use (n := S104.1) (pr := (Sum.elim (fun (z : Int32 × sk_S × sk_D) => z.2.1.1) (fun (z : sk_S × sk_D) => z.1.1))) hf (by repeat' (first | exact mo_none | exact mo_some ⟨Nat.le_refl _, Nat.le_refl _⟩ | refine mo_pR (fun _ => ?_) | refine mo_mk (fun _ => ?_) | refine mo_sR24 (fun _ => ?_) | refine mo_sR25 (fun _ => ?_) | refine mo_A ⟨Nat.le_refl _, Nat.le_refl _⟩ (monoX9_init _ _ _) (fun _ => ?_) | refine mo_A (sk_nS_le _ _ _ _) (monoX9_init _ _ _) (fun _ => ?_) | refine mo_A ⟨Nat.le_refl _, Nat.le_refl _⟩ (monoX5_init _ _ _) (fun _ => ?_) | refine mo_A (sk_nS_le _ _ _ _) (monoX5_init _ _ _) (fun _ => ?_) | refine mo_A ⟨Nat.le_refl _, Nat.le_refl _⟩ (monoX8_init _ _ _) (fun _ => ?_) | refine mo_A (sk_nS_le _ _ _ _) (monoX8_init _ _ _) (fun _ => ?_) | refine mo_A ⟨Nat.le_refl _, Nat.le_refl _⟩ (monoX3_init _ _ _) (fun _ => ?_) | refine mo_A (sk_nS_le _ _ _ _) (monoX3_init _ _ _) (fun _ => ?_) | refine mo_A ⟨Nat.le_refl _, Nat.le_refl _⟩ (monoX0_init _ _ _) (fun _ => ?_) | refine mo_A (sk_nS_le _ _ _ _) (monoX0_init _ _ _) (fun _ => ?_) | refine mo_A ⟨Nat.le_refl _, Nat.le_refl _⟩ (monoX4_init _ _ _) (fun _ => ?_) | refine mo_A (sk_nS_le _ _ _ _) (monoX4_init _ _ _) (fun _ => ?_) | refine mo_A ⟨Nat.le_refl _, Nat.le_refl _⟩ (monoX6_init _ _ _) (fun _ => ?_) | refine mo_A (sk_nS_le _ _ _ _) (monoX6_init _ _ _) (fun _ => ?_) | refine mo_A ⟨Nat.le_refl _, Nat.le_refl _⟩ (monoX2_init _ _ _) (fun _ => ?_) | refine mo_A (sk_nS_le _ _ _ _) (monoX2_init _ _ _) (fun _ => ?_) | refine mo_bindQ (q := (fun (z : sk_S × sk_D) => z.1.1)) (mo_itr (μ := (fun (z : Int32 × sk_S × sk_D) => z.2.1.1)) (mono_fX10_init_L109 _) _) (fun _ => ?_) | refine mo_bindQ (q := (fun (z : sk_S × sk_D) => z.1.1)) (mo_itr (μ := (fun (z : Int32 × sk_S × sk_D) => z.2.1.1)) (mono_fX10_init_L135 _) _) (fun _ => ?_) | refine mo_ite ?_ ?_ | refine mo_bind (fun _ => ?_) | dsimp only | split))) RO1
    refine sk_ast24 S104 K dX10_init_126 e105 ?_
    refine sk_iinc (s1.1 + 1) [(1, .int (s1.1 + 1)), (0, .ref p0)] K dX10_init_127 1 rfl rfl (by decide) rfl ?_
    refine sk_goto 109 K dX10_init_130 (by decide) ?_
    refine sk_sub [(0, .ref p0), (1, .int (s1.1 + 1))] [1, 0] rfl ?_
    have h9 := ih1 _ (Option.some.inj hf).symm
    exact h9 R1_S104
