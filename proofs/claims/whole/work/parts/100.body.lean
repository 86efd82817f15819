noncomputable def fX0_fits_L2 (S : sk_S) (d : sk_D) (p0 : Nat) (p1 : Nat) (p2 : Int32) (s1 : Int32) : Option ((Int32) ⊕ (Bool)) :=
  if p2 ≤ s1 then (some (.inr true)) else ((sk_lI S d p0 20 s1).bind fun v3 => (sk_lI S d p0 20 p2).bind fun v5 => if v3 = v5 then ((sk_gR S p1 2 11).bind fun v8 => (sk_lI S d v8 20 p2).bind fun v10 => if ((v10 >>> (s1 &&& 31)) &&& (1 : Int32)) = (1 : Int32) then (some (.inr false)) else (some (.inl (s1 + 1)))) else (some (.inl (s1 + 1))))
noncomputable def fX0_fits (S : sk_S) (d : sk_D) (p0 : Nat) (p1 : Nat) (p2 : Int32) : Option (Bool) :=
  (sk_itr (fX0_fits_L2 S d p0 p1 p2) (0 : Int32)).bind fun x1 => some x1
set_option maxRecDepth 100000 in
set_option maxHeartbeats 4000000 in
theorem sX0_fits (C : sk_C) (l : Launch) {S : sk_S} {d : sk_D} {p0 : Nat} {p1 : Nat} {p2 : Int32} {rr : Bool} (hf : fX0_fits S d p0 p1 p2 = some rr) : sk_Met C l 0 yX0_fits cX0_fits 4 (some .boolean) [.ref p0, .ref p1, .int p2] S d (some (.int (sk_b rr))) S d := by
  refine sk_Met.of (by decide) (Nat.le_of_ble_eq_true rfl) (Nat.le_refl _) (Nat.le_refl _) (fun X K0 hX => ?_)
  have K : sk_Ok X C cX0_fits 4 RX0 "fits" (some .boolean) 0 l (some (.int (sk_b rr))) S d := K0
  have R1 : X.2.2.2.2.2.2.2.2.2.2.2.1 ≤ S.1.1 ∧ X.2.2.2.2.2.2.2.2.2.2.2.2 ≤ S.1.2 := by rw [hX]; exact ⟨Nat.le_refl _, Nat.le_refl _⟩
  have R2 : S.1.1 ≤ S.1.1 ∧ S.1.2 ≤ S.1.2 := ⟨Nat.le_refl _, Nat.le_refl _⟩
  show sk_G X C 4 S d 0 [(0, .ref p0), (1, .ref p1), (2, .int p2)] []
  unfold fX0_fits at hf
  refine sk_iconst (0 : Int32) K dX0_fits_0 (by decide) ?_
  refine sk_istore_n [(3, .int (0 : Int32)), (0, .ref p0), (1, .ref p1), (2, .int p2)] K dX0_fits_1 rfl (by decide) rfl ?_
  obtain ⟨x1, he1, hf⟩ := sk_ob hf
  have hret1 : ∀ r, r = x1 → r = rr := by
    intro r hr
    subst hr
    exact Option.some.inj hf
  refine sk_sub [(0, .ref p0), (1, .ref p1), (2, .int p2), (3, .int (0 : Int32))] [1, 2, 3, 0] rfl ?_
  refine sk_loop (fun s1 => sk_G X C 4 S d 2 [(0, .ref p0), (1, .ref p1), (2, .int p2), (3, .int s1)] []) he1 (fun s1 o1 hf ih1 hx1 => ?_)
  unfold fX0_fits_L2 at hf
  refine sk_iload_n K dX0_fits_2 rfl 3 rfl ?_
  refine sk_iload_n K dX0_fits_3 rfl 2 rfl ?_
  refine sk_icmp_ge 38 K dX0_fits_4 (by decide) (fun h1 => ?_) (fun h1 => ?_)
  · rw [if_pos h1] at hf
    refine sk_iconst (1 : Int32) K dX0_fits_38 (by decide) ?_
    have hR2 : true = rr := hret1 _ (hx1 _ (Option.some.inj hf).symm)
    exact sk_zret (x := true) K dX0_fits_39 rfl rfl hR2 rfl rfl
  · rw [if_neg h1] at hf
    refine sk_aload_n K dX0_fits_7 rfl 0 rfl ?_
    refine sk_iload_n K dX0_fits_8 rfl 3 rfl ?_
    obtain ⟨v3, e4, hf⟩ := sk_ob hf
    refine sk_ald20 K dX0_fits_9 e4 ?_
    refine sk_aload_n K dX0_fits_10 rfl 0 rfl ?_
    refine sk_iload_n K dX0_fits_11 rfl 2 rfl ?_
    obtain ⟨v5, e6, hf⟩ := sk_ob hf
    refine sk_ald20 K dX0_fits_12 e6 ?_
    refine sk_icmp_ne 32 K dX0_fits_13 (by decide) (fun h7 => ?_) (fun h7 => ?_)
    · rw [if_neg h7] at hf
      refine sk_iinc (s1 + 1) [(3, .int (s1 + 1)), (0, .ref p0), (1, .ref p1), (2, .int p2)] K dX0_fits_32 3 rfl rfl (by decide) rfl ?_
      refine sk_goto 2 K dX0_fits_35 (by decide) ?_
      refine sk_sub [(0, .ref p0), (1, .ref p1), (2, .int p2), (3, .int (s1 + 1))] [1, 2, 3, 0] rfl ?_
      have h9 := ih1 _ (Option.some.inj hf).symm
      exact h9
    · rw [if_pos h7] at hf
      refine sk_aload_n K dX0_fits_16 rfl 1 rfl ?_
      obtain ⟨v8, e9, hf⟩ := sk_ob hf
      refine sk_getR K dX0_fits_17 fl_X0_29 rfl e9 ?_
      refine sk_iload_n K dX0_fits_20 rfl 2 rfl ?_
      obtain ⟨v10, e11, hf⟩ := sk_ob hf
      refine sk_ald20 K dX0_fits_21 e11 ?_
      refine sk_iload_n K dX0_fits_22 rfl 3 rfl ?_
      refine sk_ishr K dX0_fits_23 ?_
      refine sk_iconst (1 : Int32) K dX0_fits_24 (by decide) ?_
      refine sk_iand K dX0_fits_25 ?_
      refine sk_iconst (1 : Int32) K dX0_fits_26 (by decide) ?_
      refine sk_icmp_ne 32 K dX0_fits_27 (by decide) (fun h12 => ?_) (fun h12 => ?_)
      · rw [if_neg h12] at hf
        refine sk_iinc (s1 + 1) [(3, .int (s1 + 1)), (0, .ref p0), (1, .ref p1), (2, .int p2)] K dX0_fits_32 3 rfl rfl (by decide) rfl ?_
        refine sk_goto 2 K dX0_fits_35 (by decide) ?_
        refine sk_sub [(0, .ref p0), (1, .ref p1), (2, .int p2), (3, .int (s1 + 1))] [1, 2, 3, 0] rfl ?_
        have h9 := ih1 _ (Option.some.inj hf).symm
        exact h9
      · rw [if_pos h12] at hf
        refine sk_iconst (0 : Int32) K dX0_fits_30 (by decide) ?_
        have hR13 : false = rr := hret1 _ (hx1 _ (Option.some.inj hf).symm)
        exact sk_zret (x := false) K dX0_fits_31 rfl rfl hR13 rfl rfl
noncomputable def fX0_place_L43 (rec : Nat → sk_D → Nat → Nat → Int32 → Int32 → Int32 → Int32 → Option (Bool × sk_D)) (S : sk_S) (p0 : Nat) (p1 : Nat) (p2 : Int32) (p3 : Int32) (p4 : Int32) (p5 : Int32) (s1 : Int32 × sk_D) : Option ((Int32 × sk_D) ⊕ (Bool × sk_D)) :=
  if p4 < s1.1 then (some (.inr (false, s1.2))) else (if p5 ≤ s1.1 then (some (.inr (false, s1.2))) else ((sk_sI S s1.2 p0 20 p3 s1.1).bind fun d11 => (fX0_fits S d11 p0 p1 p3).bind fun v13 => if v13 = true then ((rec 0 d11 p0 p1 p2 (p3 + (1 : Int32)) (if p4 < (s1.1 + (1 : Int32)) then (s1.1 + (1 : Int32)) else p4) p5).bind fun b21 => if b21.1 = true then (some (.inr (true, b21.2))) else (some (.inl (s1.1 + 1, b21.2)))) else (some (.inl (s1.1 + 1, d11)))))
noncomputable def fX0_place_o (rec : Nat → sk_D → Nat → Nat → Int32 → Int32 → Int32 → Int32 → Option (Bool × sk_D)) (S : sk_S) (d : sk_D) (p0 : Nat) (p1 : Nat) (p2 : Int32) (p3 : Int32) (p4 : Int32) (p5 : Int32) : Option (Bool × sk_D) :=
  if (8 : Int32) ≤ p3 then (some (true, d)) else ((sk_al S p0 20).bind fun v3 => if p3 < v3 then (if ((p2 >>> (p3 &&& 31)) &&& (1 : Int32)) = 0 then ((sk_sI S d p0 20 p3 (-1 : Int32)).bind fun d24 => (rec 0 d24 p0 p1 p2 (p3 + (1 : Int32)) p4 p5).bind fun b29 => some (b29.1, b29.2)) else ((sk_itr (fX0_place_L43 rec S p0 p1 p2 p3 p4 p5) ((0 : Int32), d)).bind fun x1 => some x1)) else (some (true, d)))
noncomputable def gX0 (S : sk_S) : Nat → Nat → sk_D → Nat → Nat → Int32 → Int32 → Int32 → Int32 → Option (Bool × sk_D)
  | 0 => fun _ _ _ _ _ _ _ _ => none
  | n + 1 => fun t d x0 x1 x2 x3 x4 x5 => match t with
    | _ => fX0_place_o (gX0 S n) S d x0 x1 x2 x3 x4 x5
def mX0 (C : sk_C) (l : Launch) (S : sk_S) (n : Nat) : Prop := (∀ (d : sk_D) (p0 : Nat) (p1 : Nat) (p2 : Int32) (p3 : Int32) (p4 : Int32) (p5 : Int32) (rr : Bool) (dd : sk_D), gX0 S n 0 d p0 p1 p2 p3 p4 p5 = some (rr, dd) → sk_Met C l (1 + n) yX0_place cX0_place 7 (some .boolean) [.ref p0, .ref p1, .int p2, .int p3, .int p4, .int p5] S d (some (.int (sk_b rr))) S dd)
set_option maxRecDepth 100000 in
set_option maxHeartbeats 4000000 in
theorem sX0_place_o (C : sk_C) (l : Launch) {S : sk_S} (n : Nat) (ih : mX0 C l S n) {d : sk_D} {p0 : Nat} {p1 : Nat} {p2 : Int32} {p3 : Int32} {p4 : Int32} {p5 : Int32} {rr : Bool} {dd : sk_D} (hf : fX0_place_o (gX0 S n) S d p0 p1 p2 p3 p4 p5 = some (rr, dd)) : sk_Met C l (1 + (n + 1)) yX0_place cX0_place 7 (some .boolean) [.ref p0, .ref p1, .int p2, .int p3, .int p4, .int p5] S d (some (.int (sk_b rr))) S dd := by
  refine sk_Met.of (by decide) (Nat.le_of_ble_eq_true rfl) (Nat.le_refl _) (Nat.le_refl _) (fun X K0 hX => ?_)
  have K : sk_Ok X C cX0_place 7 RX0 "place" (some .boolean) (1 + (n + 1)) l (some (.int (sk_b rr))) S dd := K0
  have R1 : X.2.2.2.2.2.2.2.2.2.2.2.1 ≤ S.1.1 ∧ X.2.2.2.2.2.2.2.2.2.2.2.2 ≤ S.1.2 := by rw [hX]; exact ⟨Nat.le_refl _, Nat.le_refl _⟩
  have R2 : S.1.1 ≤ S.1.1 ∧ S.1.2 ≤ S.1.2 := ⟨Nat.le_refl _, Nat.le_refl _⟩
  show sk_G X C 7 S d 0 [(0, .ref p0), (1, .ref p1), (2, .int p2), (3, .int p3), (4, .int p4), (5, .int p5)] []
  unfold fX0_place_o at hf
  refine sk_iload_n K dX0_place_0 rfl 3 rfl ?_
  refine sk_bipush (8 : Int32) K dX0_place_1 (by decide) ?_
  refine sk_icmp_ge 12 K dX0_place_3 (by decide) (fun h1 => ?_) (fun h1 => ?_)
  · rw [if_pos h1] at hf
    refine sk_iconst (1 : Int32) K dX0_place_12 (by decide) ?_
    have hR2 : (true, d) = (rr, dd) := Option.some.inj hf
    exact sk_zret (x := true) K dX0_place_13 rfl rfl (congrArg (fun z => z.1) hR2) rfl (congrArg (fun z => z.2) hR2)
  · rw [if_neg h1] at hf
    refine sk_iload_n K dX0_place_6 rfl 3 rfl ?_
    refine sk_aload_n K dX0_place_7 rfl 0 rfl ?_
    obtain ⟨v3, e4, hf⟩ := sk_ob hf
    refine sk_al20 K dX0_place_8 e4 ?_
    refine sk_icmp_lt 14 K dX0_place_9 (by decide) (fun h5 => ?_) (fun h5 => ?_)
    · rw [if_pos h5] at hf
      refine sk_iload_n K dX0_place_14 rfl 2 rfl ?_
      refine sk_iload_n K dX0_place_15 rfl 3 rfl ?_
      refine sk_ishr K dX0_place_16 ?_
      refine sk_iconst (1 : Int32) K dX0_place_17 (by decide) ?_
      refine sk_iand K dX0_place_18 ?_
      refine sk_if_ne 40 K dX0_place_19 (by decide) (fun h6 => ?_) (fun h6 => ?_)
      · rw [if_neg h6] at hf
        refine sk_iconst (0 : Int32) K dX0_place_40 (by decide) ?_
        refine sk_istore [(6, .int (0 : Int32)), (0, .ref p0), (1, .ref p1), (2, .int p2), (3, .int p3), (4, .int p4), (5, .int p5)] K dX0_place_41 (by decide) rfl ?_
        obtain ⟨x1, he1, hf⟩ := sk_ob hf
        have hret1 : ∀ r, r = x1 → r = (rr, dd) := by
          intro r hr
          subst hr
          exact Option.some.inj hf
        refine sk_sub [(0, .ref p0), (1, .ref p1), (2, .int p2), (3, .int p3), (4, .int p4), (5, .int p5), (6, .int (0 : Int32))] [1, 2, 3, 4, 5, 6, 0] rfl ?_
        refine sk_loop (fun s1 => sk_G X C 7 S s1.2 43 [(0, .ref p0), (1, .ref p1), (2, .int p2), (3, .int p3), (4, .int p4), (5, .int p5), (6, .int s1.1)] []) he1 (fun s1 o1 hf ih1 hx1 => ?_)
        unfold fX0_place_L43 at hf
        refine sk_iload K dX0_place_43 6 rfl ?_
        refine sk_iload K dX0_place_45 4 rfl ?_
        refine sk_icmp_gt 102 K dX0_place_47 (by decide) (fun h7 => ?_) (fun h7 => ?_)
        · rw [if_pos h7] at hf
          refine sk_iconst (0 : Int32) K dX0_place_102 (by decide) ?_
          have hR8 : (false, s1.2) = (rr, dd) := hret1 _ (hx1 _ (Option.some.inj hf).symm)
          exact sk_zret (x := false) K dX0_place_103 rfl rfl (congrArg (fun z => z.1) hR8) rfl (congrArg (fun z => z.2) hR8)
        · rw [if_neg h7] at hf
          refine sk_iload K dX0_place_50 6 rfl ?_
          refine sk_iload K dX0_place_52 5 rfl ?_
          refine sk_icmp_ge 102 K dX0_place_54 (by decide) (fun h9 => ?_) (fun h9 => ?_)
          · rw [if_pos h9] at hf
            refine sk_iconst (0 : Int32) K dX0_place_102 (by decide) ?_
            have hR10 : (false, s1.2) = (rr, dd) := hret1 _ (hx1 _ (Option.some.inj hf).symm)
            exact sk_zret (x := false) K dX0_place_103 rfl rfl (congrArg (fun z => z.1) hR10) rfl (congrArg (fun z => z.2) hR10)
          · rw [if_neg h9] at hf
            refine sk_aload_n K dX0_place_57 rfl 0 rfl ?_
            refine sk_iload_n K dX0_place_58 rfl 3 rfl ?_
            refine sk_iload K dX0_place_59 6 rfl ?_
            obtain ⟨d11, e12, hf⟩ := sk_ob hf
            refine sk_ast20 d11 K dX0_place_61 e12 ?_
            refine sk_aload_n K dX0_place_62 rfl 0 rfl ?_
            refine sk_aload_n K dX0_place_63 rfl 1 rfl ?_
            refine sk_iload_n K dX0_place_64 rfl 3 rfl ?_
            obtain ⟨v13, e14, hf⟩ := sk_ob hf
            refine sk_callS (As := [.ref p0, .ref p1, .int p3]) (st := []) K dX0_place_65 cl_X0_19 (sX0_fits C l e14) (by omega) rfl rfl (Nat.le_of_ble_eq_true rfl) R1 R2 ?_
            refine sk_ifeqB 96 K dX0_place_68 (by decide) (fun h15 => ?_) (fun h15 => ?_)
            · rw [if_neg h15] at hf
              refine sk_iinc (s1.1 + 1) [(6, .int (s1.1 + 1)), (0, .ref p0), (1, .ref p1), (2, .int p2), (3, .int p3), (4, .int p4), (5, .int p5)] K dX0_place_96 6 rfl rfl (by decide) rfl ?_
              refine sk_goto 43 K dX0_place_99 (by decide) ?_
              refine sk_sub [(0, .ref p0), (1, .ref p1), (2, .int p2), (3, .int p3), (4, .int p4), (5, .int p5), (6, .int (s1.1 + 1))] [1, 2, 3, 4, 5, 6, 0] rfl ?_
              have h9 := ih1 _ (Option.some.inj hf).symm
              exact h9
            · rw [if_pos h15] at hf
              refine sk_aload_n K dX0_place_71 rfl 0 rfl ?_
              refine sk_aload_n K dX0_place_72 rfl 1 rfl ?_
              refine sk_iload_n K dX0_place_73 rfl 2 rfl ?_
              refine sk_iload_n K dX0_place_74 rfl 3 rfl ?_
              refine sk_iconst (1 : Int32) K dX0_place_75 (by decide) ?_
              refine sk_iadd K dX0_place_76 ?_
              refine sk_iload K dX0_place_77 4 rfl ?_
              refine sk_iload K dX0_place_79 6 rfl ?_
              refine sk_iconst (1 : Int32) K dX0_place_81 (by decide) ?_
              refine sk_iadd K dX0_place_82 ?_
              refine sk_mmax K dX0_place_83 qw_1173 qw_558 qw_137 qw_559 (by omega) (Nat.le_of_ble_eq_true rfl) R2 ?_
              refine sk_iload K dX0_place_86 5 rfl ?_
              obtain ⟨⟨v18, d20⟩, e19, hf⟩ := sk_ob hf
              try dsimp only at hf
              refine sk_callS (As := [.ref p0, .ref p1, .int p2, .int (p3 + (1 : Int32)), .int (if p4 < (s1.1 + (1 : Int32)) then (s1.1 + (1 : Int32)) else p4), .int p5]) (st := []) K dX0_place_88 cl_X0_15 (ih _ _ _ _ _ _ _ _ _ e19) (by omega) rfl rfl (Nat.le_of_ble_eq_true rfl) R1 R2 ?_
              refine sk_ifeqB 96 K dX0_place_91 (by decide) (fun h22 => ?_) (fun h22 => ?_)
              · rw [if_neg h22] at hf
                refine sk_iinc (s1.1 + 1) [(6, .int (s1.1 + 1)), (0, .ref p0), (1, .ref p1), (2, .int p2), (3, .int p3), (4, .int p4), (5, .int p5)] K dX0_place_96 6 rfl rfl (by decide) rfl ?_
                refine sk_goto 43 K dX0_place_99 (by decide) ?_
                refine sk_sub [(0, .ref p0), (1, .ref p1), (2, .int p2), (3, .int p3), (4, .int p4), (5, .int p5), (6, .int (s1.1 + 1))] [1, 2, 3, 4, 5, 6, 0] rfl ?_
                have h9 := ih1 _ (Option.some.inj hf).symm
                exact h9
              · rw [if_pos h22] at hf
                refine sk_iconst (1 : Int32) K dX0_place_94 (by decide) ?_
                have hR23 : (true, d20) = (rr, dd) := hret1 _ (hx1 _ (Option.some.inj hf).symm)
                exact sk_zret (x := true) K dX0_place_95 rfl rfl (congrArg (fun z => z.1) hR23) rfl (congrArg (fun z => z.2) hR23)
      · rw [if_pos h6] at hf
        refine sk_aload_n K dX0_place_22 rfl 0 rfl ?_
        refine sk_iload_n K dX0_place_23 rfl 3 rfl ?_
        refine sk_iconst (-1 : Int32) K dX0_place_24 (by decide) ?_
        obtain ⟨d24, e25, hf⟩ := sk_ob hf
        refine sk_ast20 d24 K dX0_place_25 e25 ?_
        refine sk_aload_n K dX0_place_26 rfl 0 rfl ?_
        refine sk_aload_n K dX0_place_27 rfl 1 rfl ?_
        refine sk_iload_n K dX0_place_28 rfl 2 rfl ?_
        refine sk_iload_n K dX0_place_29 rfl 3 rfl ?_
        refine sk_iconst (1 : Int32) K dX0_place_30 (by decide) ?_
        refine sk_iadd K dX0_place_31 ?_
        refine sk_iload K dX0_place_32 4 rfl ?_
        refine sk_iload K dX0_place_34 5 rfl ?_
        obtain ⟨⟨v26, d28⟩, e27, hf⟩ := sk_ob hf
        try dsimp only at hf
        refine sk_callS (As := [.ref p0, .ref p1, .int p2, .int (p3 + (1 : Int32)), .int p4, .int p5]) (st := []) K dX0_place_36 cl_X0_15 (ih _ _ _ _ _ _ _ _ _ e27) (by omega) rfl rfl (Nat.le_of_ble_eq_true rfl) R1 R2 ?_
        have hR30 : (v26, d28) = (rr, dd) := Option.some.inj hf
        exact sk_zret K dX0_place_39 rfl rfl (congrArg (fun z => z.1) hR30) rfl (congrArg (fun z => z.2) hR30)
    · rw [if_neg h5] at hf
      refine sk_iconst (1 : Int32) K dX0_place_12 (by decide) ?_
      have hR31 : (true, d) = (rr, dd) := Option.some.inj hf
      exact sk_zret (x := true) K dX0_place_13 rfl rfl (congrArg (fun z => z.1) hR31) rfl (congrArg (fun z => z.2) hR31)
theorem gX0_all (C : sk_C) (l : Launch) (S : sk_S) : ∀ n : Nat, mX0 C l S n := by
  intro n
  induction n with
  | zero =>
    exact (fun _ _ _ _ _ _ _ _ _ hf => by cases hf)
  | succ n ih =>
    exact (fun _ _ _ _ _ _ _ _ _ hf => sX0_place_o C l n ih hf)
noncomputable def fX0_place (S : sk_S) (d : sk_D) (p0 : Nat) (p1 : Nat) (p2 : Int32) (p3 : Int32) (p4 : Int32) (p5 : Int32) : Option (Bool × sk_D) := gX0 S 100 0 d p0 p1 p2 p3 p4 p5
theorem sX0_place (C : sk_C) (l : Launch) {S : sk_S} {d : sk_D} {p0 : Nat} {p1 : Nat} {p2 : Int32} {p3 : Int32} {p4 : Int32} {p5 : Int32} {rr : Bool} {dd : sk_D} (hf : fX0_place S d p0 p1 p2 p3 p4 p5 = some (rr, dd)) : sk_Met C l 101 yX0_place cX0_place 7 (some .boolean) [.ref p0, .ref p1, .int p2, .int p3, .int p4, .int p5] S d (some (.int (sk_b rr))) S dd := (gX0_all C l S 100) _ _ _ _ _ _ _ _ _ hf
noncomputable def fX0_part_L2 (S : sk_S) (p0 : Nat) (p1 : Nat) (p2 : Int32) (s1 : Int32 × sk_D) : Option ((Int32 × sk_D) ⊕ (Int32 × sk_D)) :=
  if (8 : Int32) < s1.1 then (some (.inr ((-1 : Int32), s1.2))) else ((sk_gR S p0 0 0).bind fun v3 => (fX0_place S s1.2 v3 p1 p2 (0 : Int32) (0 : Int32) s1.1).bind fun b8 => if b8.1 = true then (some (.inr (s1.1, b8.2))) else (some (.inl (s1.1 + 1, b8.2))))
noncomputable def fX0_part (S : sk_S) (d : sk_D) (p0 : Nat) (p1 : Nat) (p2 : Int32) : Option (Int32 × sk_D) :=
  (sk_itr (fX0_part_L2 S p0 p1 p2) ((0 : Int32), d)).bind fun x1 => some x1
set_option maxRecDepth 100000 in
set_option maxHeartbeats 4000000 in
theorem sX0_part (C : sk_C) (l : Launch) {S : sk_S} {d : sk_D} {p0 : Nat} {p1 : Nat} {p2 : Int32} {rr : Int32} {dd : sk_D} (hf : fX0_part S d p0 p1 p2 = some (rr, dd)) : sk_Met C l 102 yX0_part cX0_part 4 (some .int) [.ref p0, .ref p1, .int p2] S d (some (.int rr)) S dd := by
  refine sk_Met.of (by decide) (Nat.le_of_ble_eq_true rfl) (Nat.le_refl _) (Nat.le_refl _) (fun X K0 hX => ?_)
  have K : sk_Ok X C cX0_part 4 RX0 "part" (some .int) 102 l (some (.int rr)) S dd := K0
  have R1 : X.2.2.2.2.2.2.2.2.2.2.2.1 ≤ S.1.1 ∧ X.2.2.2.2.2.2.2.2.2.2.2.2 ≤ S.1.2 := by rw [hX]; exact ⟨Nat.le_refl _, Nat.le_refl _⟩
  have R2 : S.1.1 ≤ S.1.1 ∧ S.1.2 ≤ S.1.2 := ⟨Nat.le_refl _, Nat.le_refl _⟩
  show sk_G X C 4 S d 0 [(0, .ref p0), (1, .ref p1), (2, .int p2)] []
  unfold fX0_part at hf
  refine sk_iconst (0 : Int32) K dX0_part_0 (by decide) ?_
  refine sk_istore_n [(3, .int (0 : Int32)), (0, .ref p0), (1, .ref p1), (2, .int p2)] K dX0_part_1 rfl (by decide) rfl ?_
  obtain ⟨x1, he1, hf⟩ := sk_ob hf
  have hret1 : ∀ r, r = x1 → r = (rr, dd) := by
    intro r hr
    subst hr
    exact Option.some.inj hf
  refine sk_sub [(0, .ref p0), (1, .ref p1), (2, .int p2), (3, .int (0 : Int32))] [1, 2, 3, 0] rfl ?_
  refine sk_loop (fun s1 => sk_G X C 4 S s1.2 2 [(0, .ref p0), (1, .ref p1), (2, .int p2), (3, .int s1.1)] []) he1 (fun s1 o1 hf ih1 hx1 => ?_)
  unfold fX0_part_L2 at hf
  refine sk_iload_n K dX0_part_2 rfl 3 rfl ?_
  refine sk_bipush (8 : Int32) K dX0_part_3 (by decide) ?_
  refine sk_icmp_gt 31 K dX0_part_5 (by decide) (fun h1 => ?_) (fun h1 => ?_)
  · rw [if_pos h1] at hf
    refine sk_iconst (-1 : Int32) K dX0_part_31 (by decide) ?_
    have hR2 : ((-1 : Int32), s1.2) = (rr, dd) := hret1 _ (hx1 _ (Option.some.inj hf).symm)
    exact sk_iret K dX0_part_32 rfl rfl (congrArg (fun z => z.1) hR2) rfl (congrArg (fun z => z.2) hR2)
  · rw [if_neg h1] at hf
    refine sk_aload_n K dX0_part_8 rfl 0 rfl ?_
    obtain ⟨v3, e4, hf⟩ := sk_ob hf
    refine sk_getR K dX0_part_9 fl_X0_9 rfl e4 ?_
    refine sk_aload_n K dX0_part_12 rfl 1 rfl ?_
    refine sk_iload_n K dX0_part_13 rfl 2 rfl ?_
    refine sk_iconst (0 : Int32) K dX0_part_14 (by decide) ?_
    refine sk_iconst (0 : Int32) K dX0_part_15 (by decide) ?_
    refine sk_iload_n K dX0_part_16 rfl 3 rfl ?_
    obtain ⟨⟨v5, d7⟩, e6, hf⟩ := sk_ob hf
    try dsimp only at hf
    refine sk_callS (As := [.ref v3, .ref p1, .int p2, .int (0 : Int32), .int (0 : Int32), .int s1.1]) (st := []) K dX0_part_17 cl_X0_15 (sX0_place C l e6) (by decide) rfl rfl (Nat.le_of_ble_eq_true rfl) R1 R2 ?_
    refine sk_ifeqB 25 K dX0_part_20 (by decide) (fun h9 => ?_) (fun h9 => ?_)
    · rw [if_neg h9] at hf
      refine sk_iinc (s1.1 + 1) [(3, .int (s1.1 + 1)), (0, .ref p0), (1, .ref p1), (2, .int p2)] K dX0_part_25 3 rfl rfl (by decide) rfl ?_
      refine sk_goto 2 K dX0_part_28 (by decide) ?_
      refine sk_sub [(0, .ref p0), (1, .ref p1), (2, .int p2), (3, .int (s1.1 + 1))] [1, 2, 3, 0] rfl ?_
      have h9 := ih1 _ (Option.some.inj hf).symm
      exact h9
    · rw [if_pos h9] at hf
      refine sk_iload_n K dX0_part_23 rfl 3 rfl ?_
      have hR10 : (s1.1, d7) = (rr, dd) := hret1 _ (hx1 _ (Option.some.inj hf).symm)
      exact sk_iret K dX0_part_24 rfl rfl (congrArg (fun z => z.1) hR10) rfl (congrArg (fun z => z.2) hR10)
noncomputable def fX0_liningOf (S : sk_S) (d : sk_D) (p0 : Nat) (p1 : Int32) : Option (Int32) :=
  if p1 < 0 then (some (-1 : Int32)) else (if (8 : Int32) ≤ p1 then (some (-1 : Int32)) else ((sk_gR S p0 0 0).bind fun v5 => (sk_lI S d v5 20 p1).bind fun v7 => some v7))
set_option maxRecDepth 100000 in
set_option maxHeartbeats 4000000 in
theorem sX0_liningOf (C : sk_C) (l : Launch) {S : sk_S} {d : sk_D} {p0 : Nat} {p1 : Int32} {rr : Int32} (hf : fX0_liningOf S d p0 p1 = some rr) : sk_Met C l 0 yX0_liningOf cX0_liningOf 2 (some .int) [.ref p0, .int p1] S d (some (.int rr)) S d := by
  refine sk_Met.of (by decide) (Nat.le_of_ble_eq_true rfl) (Nat.le_refl _) (Nat.le_refl _) (fun X K0 hX => ?_)
  have K : sk_Ok X C cX0_liningOf 2 RX0 "liningOf" (some .int) 0 l (some (.int rr)) S d := K0
  have R1 : X.2.2.2.2.2.2.2.2.2.2.2.1 ≤ S.1.1 ∧ X.2.2.2.2.2.2.2.2.2.2.2.2 ≤ S.1.2 := by rw [hX]; exact ⟨Nat.le_refl _, Nat.le_refl _⟩
  have R2 : S.1.1 ≤ S.1.1 ∧ S.1.2 ≤ S.1.2 := ⟨Nat.le_refl _, Nat.le_refl _⟩
  show sk_G X C 2 S d 0 [(0, .ref p0), (1, .int p1)] []
  unfold fX0_liningOf at hf
  refine sk_iload_n K dX0_liningOf_0 rfl 1 rfl ?_
  refine sk_if_lt 19 K dX0_liningOf_1 (by decide) (fun h1 => ?_) (fun h1 => ?_)
  · rw [if_pos h1] at hf
    refine sk_iconst (-1 : Int32) K dX0_liningOf_19 (by decide) ?_
    have hR2 : (-1 : Int32) = rr := Option.some.inj hf
    exact sk_iret K dX0_liningOf_20 rfl rfl hR2 rfl rfl
  · rw [if_neg h1] at hf
    refine sk_iload_n K dX0_liningOf_4 rfl 1 rfl ?_
    refine sk_bipush (8 : Int32) K dX0_liningOf_5 (by decide) ?_
    refine sk_icmp_ge 19 K dX0_liningOf_7 (by decide) (fun h3 => ?_) (fun h3 => ?_)
    · rw [if_pos h3] at hf
      refine sk_iconst (-1 : Int32) K dX0_liningOf_19 (by decide) ?_
      have hR4 : (-1 : Int32) = rr := Option.some.inj hf
      exact sk_iret K dX0_liningOf_20 rfl rfl hR4 rfl rfl
    · rw [if_neg h3] at hf
      refine sk_aload_n K dX0_liningOf_10 rfl 0 rfl ?_
      obtain ⟨v5, e6, hf⟩ := sk_ob hf
      refine sk_getR K dX0_liningOf_11 fl_X0_9 rfl e6 ?_
      refine sk_iload_n K dX0_liningOf_14 rfl 1 rfl ?_
      obtain ⟨v7, e8, hf⟩ := sk_ob hf
      refine sk_ald20 K dX0_liningOf_15 e8 ?_
      refine sk_goto 20 K dX0_liningOf_16 (by decide) ?_
      have hR9 : v7 = rr := Option.some.inj hf
      exact sk_iret K dX0_liningOf_20 rfl rfl hR9 rfl rfl
noncomputable def fJ6_bitCount_0f7a4 (S : sk_S) (d : sk_D) (p0 : Int32) : Option (Int32) :=
  some ((((((((p0 - (((p0.toUInt32 >>> ((1 : Int32).toUInt32 &&& Int32.toUInt32 31)).toInt32) &&& (1431655765 : Int32))) &&& (858993459 : Int32)) + ((((p0 - (((p0.toUInt32 >>> ((1 : Int32).toUInt32 &&& Int32.toUInt32 31)).toInt32) &&& (1431655765 : Int32))).toUInt32 >>> ((2 : Int32).toUInt32 &&& Int32.toUInt32 31)).toInt32) &&& (858993459 : Int32))) + (((((p0 - (((p0.toUInt32 >>> ((1 : Int32).toUInt32 &&& Int32.toUInt32 31)).toInt32) &&& (1431655765 : Int32))) &&& (858993459 : Int32)) + ((((p0 - (((p0.toUInt32 >>> ((1 : Int32).toUInt32 &&& Int32.toUInt32 31)).toInt32) &&& (1431655765 : Int32))).toUInt32 >>> ((2 : Int32).toUInt32 &&& Int32.toUInt32 31)).toInt32) &&& (858993459 : Int32))).toUInt32 >>> ((4 : Int32).toUInt32 &&& Int32.toUInt32 31)).toInt32)) &&& (252645135 : Int32)) + (((((((p0 - (((p0.toUInt32 >>> ((1 : Int32).toUInt32 &&& Int32.toUInt32 31)).toInt32) &&& (1431655765 : Int32))) &&& (858993459 : Int32)) + ((((p0 - (((p0.toUInt32 >>> ((1 : Int32).toUInt32 &&& Int32.toUInt32 31)).toInt32) &&& (1431655765 : Int32))).toUInt32 >>> ((2 : Int32).toUInt32 &&& Int32.toUInt32 31)).toInt32) &&& (858993459 : Int32))) + (((((p0 - (((p0.toUInt32 >>> ((1 : Int32).toUInt32 &&& Int32.toUInt32 31)).toInt32) &&& (1431655765 : Int32))) &&& (858993459 : Int32)) + ((((p0 - (((p0.toUInt32 >>> ((1 : Int32).toUInt32 &&& Int32.toUInt32 31)).toInt32) &&& (1431655765 : Int32))).toUInt32 >>> ((2 : Int32).toUInt32 &&& Int32.toUInt32 31)).toInt32) &&& (858993459 : Int32))).toUInt32 >>> ((4 : Int32).toUInt32 &&& Int32.toUInt32 31)).toInt32)) &&& (252645135 : Int32)).toUInt32 >>> ((8 : Int32).toUInt32 &&& Int32.toUInt32 31)).toInt32)) + ((((((((p0 - (((p0.toUInt32 >>> ((1 : Int32).toUInt32 &&& Int32.toUInt32 31)).toInt32) &&& (1431655765 : Int32))) &&& (858993459 : Int32)) + ((((p0 - (((p0.toUInt32 >>> ((1 : Int32).toUInt32 &&& Int32.toUInt32 31)).toInt32) &&& (1431655765 : Int32))).toUInt32 >>> ((2 : Int32).toUInt32 &&& Int32.toUInt32 31)).toInt32) &&& (858993459 : Int32))) + (((((p0 - (((p0.toUInt32 >>> ((1 : Int32).toUInt32 &&& Int32.toUInt32 31)).toInt32) &&& (1431655765 : Int32))) &&& (858993459 : Int32)) + ((((p0 - (((p0.toUInt32 >>> ((1 : Int32).toUInt32 &&& Int32.toUInt32 31)).toInt32) &&& (1431655765 : Int32))).toUInt32 >>> ((2 : Int32).toUInt32 &&& Int32.toUInt32 31)).toInt32) &&& (858993459 : Int32))).toUInt32 >>> ((4 : Int32).toUInt32 &&& Int32.toUInt32 31)).toInt32)) &&& (252645135 : Int32)) + (((((((p0 - (((p0.toUInt32 >>> ((1 : Int32).toUInt32 &&& Int32.toUInt32 31)).toInt32) &&& (1431655765 : Int32))) &&& (858993459 : Int32)) + ((((p0 - (((p0.toUInt32 >>> ((1 : Int32).toUInt32 &&& Int32.toUInt32 31)).toInt32) &&& (1431655765 : Int32))).toUInt32 >>> ((2 : Int32).toUInt32 &&& Int32.toUInt32 31)).toInt32) &&& (858993459 : Int32))) + (((((p0 - (((p0.toUInt32 >>> ((1 : Int32).toUInt32 &&& Int32.toUInt32 31)).toInt32) &&& (1431655765 : Int32))) &&& (858993459 : Int32)) + ((((p0 - (((p0.toUInt32 >>> ((1 : Int32).toUInt32 &&& Int32.toUInt32 31)).toInt32) &&& (1431655765 : Int32))).toUInt32 >>> ((2 : Int32).toUInt32 &&& Int32.toUInt32 31)).toInt32) &&& (858993459 : Int32))).toUInt32 >>> ((4 : Int32).toUInt32 &&& Int32.toUInt32 31)).toInt32)) &&& (252645135 : Int32)).toUInt32 >>> ((8 : Int32).toUInt32 &&& Int32.toUInt32 31)).toInt32)).toUInt32 >>> ((16 : Int32).toUInt32 &&& Int32.toUInt32 31)).toInt32)) &&& (63 : Int32))
set_option maxRecDepth 100000 in
set_option maxHeartbeats 4000000 in
theorem sJ6_bitCount_0f7a4 (C : sk_C) (l : Launch) {S : sk_S} {d : sk_D} {p0 : Int32} {rr : Int32} (hf : fJ6_bitCount_0f7a4 S d p0 = some rr) : sk_Met C l 0 yJ6_bitCount_0f7a4 cJ6_bitCount_0f7a4 1 (some .int) [.int p0] S d (some (.int rr)) S d := by
  refine sk_Met.of (by decide) (Nat.le_of_ble_eq_true rfl) (Nat.le_refl _) (Nat.le_refl _) (fun X K0 hX => ?_)
  have K : sk_Ok X C cJ6_bitCount_0f7a4 1 RJ6 "bitCount" (some .int) 0 l (some (.int rr)) S d := K0
  have R1 : X.2.2.2.2.2.2.2.2.2.2.2.1 ≤ S.1.1 ∧ X.2.2.2.2.2.2.2.2.2.2.2.2 ≤ S.1.2 := by rw [hX]; exact ⟨Nat.le_refl _, Nat.le_refl _⟩
  have R2 : S.1.1 ≤ S.1.1 ∧ S.1.2 ≤ S.1.2 := ⟨Nat.le_refl _, Nat.le_refl _⟩
  show sk_G X C 1 S d 0 [(0, .int p0)] []
  unfold fJ6_bitCount_0f7a4 at hf
  refine sk_iload_n K dJ6_bitCount_0f7a4_0 rfl 0 rfl ?_
  refine sk_iload_n K dJ6_bitCount_0f7a4_1 rfl 0 rfl ?_
  refine sk_iconst (1 : Int32) K dJ6_bitCount_0f7a4_2 (by decide) ?_
  refine sk_iushr K dJ6_bitCount_0f7a4_3 ?_
  refine sk_ldcw K dJ6_bitCount_0f7a4_4 qw_828 ?_
  refine sk_iand K dJ6_bitCount_0f7a4_7 ?_
  refine sk_isub K dJ6_bitCount_0f7a4_8 ?_
  refine sk_istore_n [(0, .int (p0 - (((p0.toUInt32 >>> ((1 : Int32).toUInt32 &&& Int32.toUInt32 31)).toInt32) &&& (1431655765 : Int32))))] K dJ6_bitCount_0f7a4_9 rfl (by decide) rfl ?_
  refine sk_iload_n K dJ6_bitCount_0f7a4_10 rfl 0 rfl ?_
  refine sk_ldcw K dJ6_bitCount_0f7a4_11 qw_829 ?_
  refine sk_iand K dJ6_bitCount_0f7a4_14 ?_
  refine sk_iload_n K dJ6_bitCount_0f7a4_15 rfl 0 rfl ?_
  refine sk_iconst (2 : Int32) K dJ6_bitCount_0f7a4_16 (by decide) ?_
  refine sk_iushr K dJ6_bitCount_0f7a4_17 ?_
  refine sk_ldcw K dJ6_bitCount_0f7a4_18 qw_829 ?_
  refine sk_iand K dJ6_bitCount_0f7a4_21 ?_
  refine sk_iadd K dJ6_bitCount_0f7a4_22 ?_
  refine sk_istore_n [(0, .int (((p0 - (((p0.toUInt32 >>> ((1 : Int32).toUInt32 &&& Int32.toUInt32 31)).toInt32) &&& (1431655765 : Int32))) &&& (858993459 : Int32)) + ((((p0 - (((p0.toUInt32 >>> ((1 : Int32).toUInt32 &&& Int32.toUInt32 31)).toInt32) &&& (1431655765 : Int32))).toUInt32 >>> ((2 : Int32).toUInt32 &&& Int32.toUInt32 31)).toInt32) &&& (858993459 : Int32))))] K dJ6_bitCount_0f7a4_23 rfl (by decide) rfl ?_
  refine sk_iload_n K dJ6_bitCount_0f7a4_24 rfl 0 rfl ?_
  refine sk_iload_n K dJ6_bitCount_0f7a4_25 rfl 0 rfl ?_
  refine sk_iconst (4 : Int32) K dJ6_bitCount_0f7a4_26 (by decide) ?_
  refine sk_iushr K dJ6_bitCount_0f7a4_27 ?_
  refine sk_iadd K dJ6_bitCount_0f7a4_28 ?_
  refine sk_ldcw K dJ6_bitCount_0f7a4_29 qw_830 ?_
  refine sk_iand K dJ6_bitCount_0f7a4_32 ?_
  refine sk_istore_n [(0, .int (((((p0 - (((p0.toUInt32 >>> ((1 : Int32).toUInt32 &&& Int32.toUInt32 31)).toInt32) &&& (1431655765 : Int32))) &&& (858993459 : Int32)) + ((((p0 - (((p0.toUInt32 >>> ((1 : Int32).toUInt32 &&& Int32.toUInt32 31)).toInt32) &&& (1431655765 : Int32))).toUInt32 >>> ((2 : Int32).toUInt32 &&& Int32.toUInt32 31)).toInt32) &&& (858993459 : Int32))) + (((((p0 - (((p0.toUInt32 >>> ((1 : Int32).toUInt32 &&& Int32.toUInt32 31)).toInt32) &&& (1431655765 : Int32))) &&& (858993459 : Int32)) + ((((p0 - (((p0.toUInt32 >>> ((1 : Int32).toUInt32 &&& Int32.toUInt32 31)).toInt32) &&& (1431655765 : Int32))).toUInt32 >>> ((2 : Int32).toUInt32 &&& Int32.toUInt32 31)).toInt32) &&& (858993459 : Int32))).toUInt32 >>> ((4 : Int32).toUInt32 &&& Int32.toUInt32 31)).toInt32)) &&& (252645135 : Int32)))] K dJ6_bitCount_0f7a4_33 rfl (by decide) rfl ?_
  refine sk_iload_n K dJ6_bitCount_0f7a4_34 rfl 0 rfl ?_
  refine sk_iload_n K dJ6_bitCount_0f7a4_35 rfl 0 rfl ?_
  refine sk_bipush (8 : Int32) K dJ6_bitCount_0f7a4_36 (by decide) ?_
  refine sk_iushr K dJ6_bitCount_0f7a4_38 ?_
  refine sk_iadd K dJ6_bitCount_0f7a4_39 ?_
  refine sk_istore_n [(0, .int ((((((p0 - (((p0.toUInt32 >>> ((1 : Int32).toUInt32 &&& Int32.toUInt32 31)).toInt32) &&& (1431655765 : Int32))) &&& (858993459 : Int32)) + ((((p0 - (((p0.toUInt32 >>> ((1 : Int32).toUInt32 &&& Int32.toUInt32 31)).toInt32) &&& (1431655765 : Int32))).toUInt32 >>> ((2 : Int32).toUInt32 &&& Int32.toUInt32 31)).toInt32) &&& (858993459 : Int32))) + (((((p0 - (((p0.toUInt32 >>> ((1 : Int32).toUInt32 &&& Int32.toUInt32 31)).toInt32) &&& (1431655765 : Int32))) &&& (858993459 : Int32)) + ((((p0 - (((p0.toUInt32 >>> ((1 : Int32).toUInt32 &&& Int32.toUInt32 31)).toInt32) &&& (1431655765 : Int32))).toUInt32 >>> ((2 : Int32).toUInt32 &&& Int32.toUInt32 31)).toInt32) &&& (858993459 : Int32))).toUInt32 >>> ((4 : Int32).toUInt32 &&& Int32.toUInt32 31)).toInt32)) &&& (252645135 : Int32)) + (((((((p0 - (((p0.toUInt32 >>> ((1 : Int32).toUInt32 &&& Int32.toUInt32 31)).toInt32) &&& (1431655765 : Int32))) &&& (858993459 : Int32)) + ((((p0 - (((p0.toUInt32 >>> ((1 : Int32).toUInt32 &&& Int32.toUInt32 31)).toInt32) &&& (1431655765 : Int32))).toUInt32 >>> ((2 : Int32).toUInt32 &&& Int32.toUInt32 31)).toInt32) &&& (858993459 : Int32))) + (((((p0 - (((p0.toUInt32 >>> ((1 : Int32).toUInt32 &&& Int32.toUInt32 31)).toInt32) &&& (1431655765 : Int32))) &&& (858993459 : Int32)) + ((((p0 - (((p0.toUInt32 >>> ((1 : Int32).toUInt32 &&& Int32.toUInt32 31)).toInt32) &&& (1431655765 : Int32))).toUInt32 >>> ((2 : Int32).toUInt32 &&& Int32.toUInt32 31)).toInt32) &&& (858993459 : Int32))).toUInt32 >>> ((4 : Int32).toUInt32 &&& Int32.toUInt32 31)).toInt32)) &&& (252645135 : Int32)).toUInt32 >>> ((8 : Int32).toUInt32 &&& Int32.toUInt32 31)).toInt32)))] K dJ6_bitCount_0f7a4_40 rfl (by decide) rfl ?_
  refine sk_iload_n K dJ6_bitCount_0f7a4_41 rfl 0 rfl ?_
  refine sk_iload_n K dJ6_bitCount_0f7a4_42 rfl 0 rfl ?_
  refine sk_bipush (16 : Int32) K dJ6_bitCount_0f7a4_43 (by decide) ?_
  refine sk_iushr K dJ6_bitCount_0f7a4_45 ?_
  refine sk_iadd K dJ6_bitCount_0f7a4_46 ?_
  refine sk_istore_n [(0, .int (((((((p0 - (((p0.toUInt32 >>> ((1 : Int32).toUInt32 &&& Int32.toUInt32 31)).toInt32) &&& (1431655765 : Int32))) &&& (858993459 : Int32)) + ((((p0 - (((p0.toUInt32 >>> ((1 : Int32).toUInt32 &&& Int32.toUInt32 31)).toInt32) &&& (1431655765 : Int32))).toUInt32 >>> ((2 : Int32).toUInt32 &&& Int32.toUInt32 31)).toInt32) &&& (858993459 : Int32))) + (((((p0 - (((p0.toUInt32 >>> ((1 : Int32).toUInt32 &&& Int32.toUInt32 31)).toInt32) &&& (1431655765 : Int32))) &&& (858993459 : Int32)) + ((((p0 - (((p0.toUInt32 >>> ((1 : Int32).toUInt32 &&& Int32.toUInt32 31)).toInt32) &&& (1431655765 : Int32))).toUInt32 >>> ((2 : Int32).toUInt32 &&& Int32.toUInt32 31)).toInt32) &&& (858993459 : Int32))).toUInt32 >>> ((4 : Int32).toUInt32 &&& Int32.toUInt32 31)).toInt32)) &&& (252645135 : Int32)) + (((((((p0 - (((p0.toUInt32 >>> ((1 : Int32).toUInt32 &&& Int32.toUInt32 31)).toInt32) &&& (1431655765 : Int32))) &&& (858993459 : Int32)) + ((((p0 - (((p0.toUInt32 >>> ((1 : Int32).toUInt32 &&& Int32.toUInt32 31)).toInt32) &&& (1431655765 : Int32))).toUInt32 >>> ((2 : Int32).toUInt32 &&& Int32.toUInt32 31)).toInt32) &&& (858993459 : Int32))) + (((((p0 - (((p0.toUInt32 >>> ((1 : Int32).toUInt32 &&& Int32.toUInt32 31)).toInt32) &&& (1431655765 : Int32))) &&& (858993459 : Int32)) + ((((p0 - (((p0.toUInt32 >>> ((1 : Int32).toUInt32 &&& Int32.toUInt32 31)).toInt32) &&& (1431655765 : Int32))).toUInt32 >>> ((2 : Int32).toUInt32 &&& Int32.toUInt32 31)).toInt32) &&& (858993459 : Int32))).toUInt32 >>> ((4 : Int32).toUInt32 &&& Int32.toUInt32 31)).toInt32)) &&& (252645135 : Int32)).toUInt32 >>> ((8 : Int32).toUInt32 &&& Int32.toUInt32 31)).toInt32)) + ((((((((p0 - (((p0.toUInt32 >>> ((1 : Int32).toUInt32 &&& Int32.toUInt32 31)).toInt32) &&& (1431655765 : Int32))) &&& (858993459 : Int32)) + ((((p0 - (((p0.toUInt32 >>> ((1 : Int32).toUInt32 &&& Int32.toUInt32 31)).toInt32) &&& (1431655765 : Int32))).toUInt32 >>> ((2 : Int32).toUInt32 &&& Int32.toUInt32 31)).toInt32) &&& (858993459 : Int32))) + (((((p0 - (((p0.toUInt32 >>> ((1 : Int32).toUInt32 &&& Int32.toUInt32 31)).toInt32) &&& (1431655765 : Int32))) &&& (858993459 : Int32)) + ((((p0 - (((p0.toUInt32 >>> ((1 : Int32).toUInt32 &&& Int32.toUInt32 31)).toInt32) &&& (1431655765 : Int32))).toUInt32 >>> ((2 : Int32).toUInt32 &&& Int32.toUInt32 31)).toInt32) &&& (858993459 : Int32))).toUInt32 >>> ((4 : Int32).toUInt32 &&& Int32.toUInt32 31)).toInt32)) &&& (252645135 : Int32)) + (((((((p0 - (((p0.toUInt32 >>> ((1 : Int32).toUInt32 &&& Int32.toUInt32 31)).toInt32) &&& (1431655765 : Int32))) &&& (858993459 : Int32)) + ((((p0 - (((p0.toUInt32 >>> ((1 : Int32).toUInt32 &&& Int32.toUInt32 31)).toInt32) &&& (1431655765 : Int32))).toUInt32 >>> ((2 : Int32).toUInt32 &&& Int32.toUInt32 31)).toInt32) &&& (858993459 : Int32))) + (((((p0 - (((p0.toUInt32 >>> ((1 : Int32).toUInt32 &&& Int32.toUInt32 31)).toInt32) &&& (1431655765 : Int32))) &&& (858993459 : Int32)) + ((((p0 - (((p0.toUInt32 >>> ((1 : Int32).toUInt32 &&& Int32.toUInt32 31)).toInt32) &&& (1431655765 : Int32))).toUInt32 >>> ((2 : Int32).toUInt32 &&& Int32.toUInt32 31)).toInt32) &&& (858993459 : Int32))).toUInt32 >>> ((4 : Int32).toUInt32 &&& Int32.toUInt32 31)).toInt32)) &&& (252645135 : Int32)).toUInt32 >>> ((8 : Int32).toUInt32 &&& Int32.toUInt32 31)).toInt32)).toUInt32 >>> ((16 : Int32).toUInt32 &&& Int32.toUInt32 31)).toInt32)))] K dJ6_bitCount_0f7a4_47 rfl (by decide) rfl ?_
  refine sk_iload_n K dJ6_bitCount_0f7a4_48 rfl 0 rfl ?_
  refine sk_bipush (63 : Int32) K dJ6_bitCount_0f7a4_49 (by decide) ?_
  refine sk_iand K dJ6_bitCount_0f7a4_51 ?_
  have hR1 : ((((((((p0 - (((p0.toUInt32 >>> ((1 : Int32).toUInt32 &&& Int32.toUInt32 31)).toInt32) &&& (1431655765 : Int32))) &&& (858993459 : Int32)) + ((((p0 - (((p0.toUInt32 >>> ((1 : Int32).toUInt32 &&& Int32.toUInt32 31)).toInt32) &&& (1431655765 : Int32))).toUInt32 >>> ((2 : Int32).toUInt32 &&& Int32.toUInt32 31)).toInt32) &&& (858993459 : Int32))) + (((((p0 - (((p0.toUInt32 >>> ((1 : Int32).toUInt32 &&& Int32.toUInt32 31)).toInt32) &&& (1431655765 : Int32))) &&& (858993459 : Int32)) + ((((p0 - (((p0.toUInt32 >>> ((1 : Int32).toUInt32 &&& Int32.toUInt32 31)).toInt32) &&& (1431655765 : Int32))).toUInt32 >>> ((2 : Int32).toUInt32 &&& Int32.toUInt32 31)).toInt32) &&& (858993459 : Int32))).toUInt32 >>> ((4 : Int32).toUInt32 &&& Int32.toUInt32 31)).toInt32)) &&& (252645135 : Int32)) + (((((((p0 - (((p0.toUInt32 >>> ((1 : Int32).toUInt32 &&& Int32.toUInt32 31)).toInt32) &&& (1431655765 : Int32))) &&& (858993459 : Int32)) + ((((p0 - (((p0.toUInt32 >>> ((1 : Int32).toUInt32 &&& Int32.toUInt32 31)).toInt32) &&& (1431655765 : Int32))).toUInt32 >>> ((2 : Int32).toUInt32 &&& Int32.toUInt32 31)).toInt32) &&& (858993459 : Int32))) + (((((p0 - (((p0.toUInt32 >>> ((1 : Int32).toUInt32 &&& Int32.toUInt32 31)).toInt32) &&& (1431655765 : Int32))) &&& (858993459 : Int32)) + ((((p0 - (((p0.toUInt32 >>> ((1 : Int32).toUInt32 &&& Int32.toUInt32 31)).toInt32) &&& (1431655765 : Int32))).toUInt32 >>> ((2 : Int32).toUInt32 &&& Int32.toUInt32 31)).toInt32) &&& (858993459 : Int32))).toUInt32 >>> ((4 : Int32).toUInt32 &&& Int32.toUInt32 31)).toInt32)) &&& (252645135 : Int32)).toUInt32 >>> ((8 : Int32).toUInt32 &&& Int32.toUInt32 31)).toInt32)) + ((((((((p0 - (((p0.toUInt32 >>> ((1 : Int32).toUInt32 &&& Int32.toUInt32 31)).toInt32) &&& (1431655765 : Int32))) &&& (858993459 : Int32)) + ((((p0 - (((p0.toUInt32 >>> ((1 : Int32).toUInt32 &&& Int32.toUInt32 31)).toInt32) &&& (1431655765 : Int32))).toUInt32 >>> ((2 : Int32).toUInt32 &&& Int32.toUInt32 31)).toInt32) &&& (858993459 : Int32))) + (((((p0 - (((p0.toUInt32 >>> ((1 : Int32).toUInt32 &&& Int32.toUInt32 31)).toInt32) &&& (1431655765 : Int32))) &&& (858993459 : Int32)) + ((((p0 - (((p0.toUInt32 >>> ((1 : Int32).toUInt32 &&& Int32.toUInt32 31)).toInt32) &&& (1431655765 : Int32))).toUInt32 >>> ((2 : Int32).toUInt32 &&& Int32.toUInt32 31)).toInt32) &&& (858993459 : Int32))).toUInt32 >>> ((4 : Int32).toUInt32 &&& Int32.toUInt32 31)).toInt32)) &&& (252645135 : Int32)) + (((((((p0 - (((p0.toUInt32 >>> ((1 : Int32).toUInt32 &&& Int32.toUInt32 31)).toInt32) &&& (1431655765 : Int32))) &&& (858993459 : Int32)) + ((((p0 - (((p0.toUInt32 >>> ((1 : Int32).toUInt32 &&& Int32.toUInt32 31)).toInt32) &&& (1431655765 : Int32))).toUInt32 >>> ((2 : Int32).toUInt32 &&& Int32.toUInt32 31)).toInt32) &&& (858993459 : Int32))) + (((((p0 - (((p0.toUInt32 >>> ((1 : Int32).toUInt32 &&& Int32.toUInt32 31)).toInt32) &&& (1431655765 : Int32))) &&& (858993459 : Int32)) + ((((p0 - (((p0.toUInt32 >>> ((1 : Int32).toUInt32 &&& Int32.toUInt32 31)).toInt32) &&& (1431655765 : Int32))).toUInt32 >>> ((2 : Int32).toUInt32 &&& Int32.toUInt32 31)).toInt32) &&& (858993459 : Int32))).toUInt32 >>> ((4 : Int32).toUInt32 &&& Int32.toUInt32 31)).toInt32)) &&& (252645135 : Int32)).toUInt32 >>> ((8 : Int32).toUInt32 &&& Int32.toUInt32 31)).toInt32)).toUInt32 >>> ((16 : Int32).toUInt32 &&& Int32.toUInt32 31)).toInt32)) &&& (63 : Int32)) = rr := Option.some.inj hf
  exact sk_iret K dJ6_bitCount_0f7a4_52 rfl rfl hR1 rfl rfl
noncomputable def fX0_allClash_L2 (S : sk_S) (d : sk_D) (p0 : Nat) (p1 : Int32) (s1 : Int32) : Option ((Int32) ⊕ (Bool)) :=
  if (8 : Int32) ≤ s1 then (some (.inr true)) else (if (p1 &&& (((1 : Int32) <<< (s1 &&& 31)) ^^^ (-1 : Int32))) = p1 then (some (.inl (s1 + 1))) else ((sk_gR S p0 2 11).bind fun v4 => (sk_lI S d v4 20 s1).bind fun v6 => if ((p1 &&& (((1 : Int32) <<< (s1 &&& 31)) ^^^ (-1 : Int32))) &&& (v6 ^^^ (-1 : Int32))) = 0 then (some (.inl (s1 + 1))) else (some (.inr false))))
noncomputable def fX0_allClash (S : sk_S) (d : sk_D) (p0 : Nat) (p1 : Int32) : Option (Bool) :=
  (sk_itr (fX0_allClash_L2 S d p0 p1) (0 : Int32)).bind fun x1 => some x1
set_option maxRecDepth 100000 in
set_option maxHeartbeats 4000000 in
theorem sX0_allClash (C : sk_C) (l : Launch) {S : sk_S} {d : sk_D} {p0 : Nat} {p1 : Int32} {rr : Bool} (hf : fX0_allClash S d p0 p1 = some rr) : sk_Met C l 0 yX0_allClash cX0_allClash 4 (some .boolean) [.ref p0, .int p1] S d (some (.int (sk_b rr))) S d := by
  refine sk_Met.of (by decide) (Nat.le_of_ble_eq_true rfl) (Nat.le_refl _) (Nat.le_refl _) (fun X K0 hX => ?_)
  have K : sk_Ok X C cX0_allClash 4 RX0 "allClash" (some .boolean) 0 l (some (.int (sk_b rr))) S d := K0
  have R1 : X.2.2.2.2.2.2.2.2.2.2.2.1 ≤ S.1.1 ∧ X.2.2.2.2.2.2.2.2.2.2.2.2 ≤ S.1.2 := by rw [hX]; exact ⟨Nat.le_refl _, Nat.le_refl _⟩
  have R2 : S.1.1 ≤ S.1.1 ∧ S.1.2 ≤ S.1.2 := ⟨Nat.le_refl _, Nat.le_refl _⟩
  show sk_G X C 4 S d 0 [(0, .ref p0), (1, .int p1)] []
  unfold fX0_allClash at hf
  refine sk_iconst (0 : Int32) K dX0_allClash_0 (by decide) ?_
  refine sk_istore_n [(2, .int (0 : Int32)), (0, .ref p0), (1, .int p1)] K dX0_allClash_1 rfl (by decide) rfl ?_
  obtain ⟨x1, he1, hf⟩ := sk_ob hf
  have hret1 : ∀ r, r = x1 → r = rr := by
    intro r hr
    subst hr
    exact Option.some.inj hf
  refine sk_sub [(0, .ref p0), (1, .int p1), (2, .int (0 : Int32))] [1, 2, 0] rfl ?_
  refine sk_loop (fun s1 => sk_G X C 4 S d 2 [(0, .ref p0), (1, .int p1), (2, .int s1)] []) he1 (fun s1 o1 hf ih1 hx1 => ?_)
  unfold fX0_allClash_L2 at hf
  refine sk_iload_n K dX0_allClash_2 rfl 2 rfl ?_
  refine sk_bipush (8 : Int32) K dX0_allClash_3 (by decide) ?_
  refine sk_icmp_ge 42 K dX0_allClash_5 (by decide) (fun h1 => ?_) (fun h1 => ?_)
  · rw [if_pos h1] at hf
    refine sk_iconst (1 : Int32) K dX0_allClash_42 (by decide) ?_
    have hR2 : true = rr := hret1 _ (hx1 _ (Option.some.inj hf).symm)
    exact sk_zret (x := true) K dX0_allClash_43 rfl rfl hR2 rfl rfl
  · rw [if_neg h1] at hf
    refine sk_iload_n K dX0_allClash_8 rfl 1 rfl ?_
    refine sk_iconst (1 : Int32) K dX0_allClash_9 (by decide) ?_
    refine sk_iload_n K dX0_allClash_10 rfl 2 rfl ?_
    refine sk_ishl K dX0_allClash_11 ?_
    refine sk_iconst (-1 : Int32) K dX0_allClash_12 (by decide) ?_
    refine sk_ixor K dX0_allClash_13 ?_
    refine sk_iand K dX0_allClash_14 ?_
    refine sk_istore_n [(3, .int (p1 &&& (((1 : Int32) <<< (s1 &&& 31)) ^^^ (-1 : Int32)))), (0, .ref p0), (1, .int p1), (2, .int s1)] K dX0_allClash_15 rfl (by decide) rfl ?_
    refine sk_iload_n K dX0_allClash_16 rfl 0 rfl ?_
    refine sk_iload_n K dX0_allClash_17 rfl 2 rfl ?_
    refine sk_icmp_eq 36 K dX0_allClash_18 (by decide) (fun h3 => ?_) (fun h3 => ?_)
    · rw [if_pos h3] at hf
      refine sk_iinc (s1 + 1) [(2, .int (s1 + 1)), (3, .int (p1 &&& (((1 : Int32) <<< (s1 &&& 31)) ^^^ (-1 : Int32)))), (0, .ref p0), (1, .int p1)] K dX0_allClash_36 3 rfl rfl (by decide) rfl ?_
      refine sk_goto 2 K dX0_allClash_39 (by decide) ?_
      refine sk_sub [(0, .ref p0), (1, .int p1), (2, .int (s1 + 1))] [2, 3, 0] rfl ?_
      have h9 := ih1 _ (Option.some.inj hf).symm
      exact h9
    · rw [if_neg h3] at hf
      refine sk_iload_n K dX0_allClash_21 rfl 0 rfl ?_
      refine sk_aload_n K dX0_allClash_22 rfl 1 rfl ?_
      obtain ⟨v4, e5, hf⟩ := sk_ob hf
      refine sk_getR K dX0_allClash_23 fl_X0_29 rfl e5 ?_
      refine sk_iload_n K dX0_allClash_26 rfl 3 rfl ?_
      obtain ⟨v6, e7, hf⟩ := sk_ob hf
      refine sk_ald20 K dX0_allClash_27 e7 ?_
      refine sk_iconst (-1 : Int32) K dX0_allClash_28 (by decide) ?_
      refine sk_ixor K dX0_allClash_29 ?_
      refine sk_iand K dX0_allClash_30 ?_
      refine sk_if_eq 36 K dX0_allClash_31 (by decide) (fun h8 => ?_) (fun h8 => ?_)
      · rw [if_pos h8] at hf
        refine sk_iinc (s1 + 1) [(2, .int (s1 + 1)), (3, .int (p1 &&& (((1 : Int32) <<< (s1 &&& 31)) ^^^ (-1 : Int32)))), (0, .ref p0), (1, .int p1)] K dX0_allClash_36 3 rfl rfl (by decide) rfl ?_
        refine sk_goto 2 K dX0_allClash_39 (by decide) ?_
        refine sk_sub [(0, .ref p0), (1, .int p1), (2, .int (s1 + 1))] [2, 3, 0] rfl ?_
        have h9 := ih1 _ (Option.some.inj hf).symm
        exact h9
      · rw [if_neg h8] at hf
        refine sk_iconst (0 : Int32) K dX0_allClash_34 (by decide) ?_
        have hR9 : false = rr := hret1 _ (hx1 _ (Option.some.inj hf).symm)
        exact sk_zret (x := false) K dX0_allClash_35 rfl rfl hR9 rfl rfl
noncomputable def fX0_greatest_L5 (S : sk_S) (d : sk_D) (p1 : Nat) (p2 : Int32) (s1 : Int32 × Int32) : Option ((Int32 × Int32) ⊕ (Int32)) :=
  if (256 : Int32) ≤ s1.2 then (some (.inr s1.1)) else (if (s1.2 &&& (p2 ^^^ (-1 : Int32))) = 0 then ((fJ6_bitCount_0f7a4 S d s1.2).bind fun v4 => (fJ6_bitCount_0f7a4 S d s1.1).bind fun v6 => if v4 ≤ v6 then (some (.inl (s1.1, s1.2 + 1))) else ((fX0_allClash S d p1 s1.2).bind fun v9 => if v9 = true then (some (.inl (s1.2, s1.2 + 1))) else (some (.inl (s1.1, s1.2 + 1))))) else (some (.inl (s1.1, s1.2 + 1))))
noncomputable def fX0_greatest (S : sk_S) (d : sk_D) (p0 : Nat) (p1 : Nat) (p2 : Int32) : Option (Int32) :=
  (sk_itr (fX0_greatest_L5 S d p1 p2) ((0 : Int32), (1 : Int32))).bind fun x1 => some x1
set_option maxRecDepth 100000 in
set_option maxHeartbeats 4000000 in
theorem sX0_greatest (C : sk_C) (l : Launch) {S : sk_S} {d : sk_D} {p0 : Nat} {p1 : Nat} {p2 : Int32} {rr : Int32} (hf : fX0_greatest S d p0 p1 p2 = some rr) : sk_Met C l 1 yX0_greatest cX0_greatest 5 (some .int) [.ref p0, .ref p1, .int p2] S d (some (.int rr)) S d := by
  refine sk_Met.of (by decide) (Nat.le_of_ble_eq_true rfl) (Nat.le_refl _) (Nat.le_refl _) (fun X K0 hX => ?_)
  have K : sk_Ok X C cX0_greatest 5 RX0 "greatest" (some .int) 1 l (some (.int rr)) S d := K0
  have R1 : X.2.2.2.2.2.2.2.2.2.2.2.1 ≤ S.1.1 ∧ X.2.2.2.2.2.2.2.2.2.2.2.2 ≤ S.1.2 := by rw [hX]; exact ⟨Nat.le_refl _, Nat.le_refl _⟩
  have R2 : S.1.1 ≤ S.1.1 ∧ S.1.2 ≤ S.1.2 := ⟨Nat.le_refl _, Nat.le_refl _⟩
  show sk_G X C 5 S d 0 [(0, .ref p0), (1, .ref p1), (2, .int p2)] []
  unfold fX0_greatest at hf
  refine sk_iconst (0 : Int32) K dX0_greatest_0 (by decide) ?_
  refine sk_istore_n [(3, .int (0 : Int32)), (0, .ref p0), (1, .ref p1), (2, .int p2)] K dX0_greatest_1 rfl (by decide) rfl ?_
  refine sk_iconst (1 : Int32) K dX0_greatest_2 (by decide) ?_
  refine sk_istore [(4, .int (1 : Int32)), (3, .int (0 : Int32)), (0, .ref p0), (1, .ref p1), (2, .int p2)] K dX0_greatest_3 (by decide) rfl ?_
  obtain ⟨x1, he1, hf⟩ := sk_ob hf
  have hret1 : ∀ r, r = x1 → r = rr := by
    intro r hr
    subst hr
    exact Option.some.inj hf
  refine sk_sub [(1, .ref p1), (2, .int p2), (3, .int (0 : Int32)), (4, .int (1 : Int32))] [3, 4, 1, 0] rfl ?_
  refine sk_loop (fun s1 => sk_G X C 5 S d 5 [(1, .ref p1), (2, .int p2), (3, .int s1.1), (4, .int s1.2)] []) he1 (fun s1 o1 hf ih1 hx1 => ?_)
  unfold fX0_greatest_L5 at hf
  refine sk_iload K dX0_greatest_5 3 rfl ?_
  refine sk_sipush (256 : Int32) K dX0_greatest_7 (by decide) ?_
  refine sk_icmp_ge 52 K dX0_greatest_10 (by decide) (fun h1 => ?_) (fun h1 => ?_)
  · rw [if_pos h1] at hf
    refine sk_iload_n K dX0_greatest_52 rfl 2 rfl ?_
    have hR2 : s1.1 = rr := hret1 _ (hx1 _ (Option.some.inj hf).symm)
    exact sk_iret K dX0_greatest_53 rfl rfl hR2 rfl rfl
  · rw [if_neg h1] at hf
    refine sk_iload K dX0_greatest_13 3 rfl ?_
    refine sk_iload_n K dX0_greatest_15 rfl 1 rfl ?_
    refine sk_iconst (-1 : Int32) K dX0_greatest_16 (by decide) ?_
    refine sk_ixor K dX0_greatest_17 ?_
    refine sk_iand K dX0_greatest_18 ?_
    refine sk_if_ne 46 K dX0_greatest_19 (by decide) (fun h3 => ?_) (fun h3 => ?_)
    · rw [if_neg h3] at hf
      refine sk_iinc (s1.2 + 1) [(4, .int (s1.2 + 1)), (1, .ref p1), (2, .int p2), (3, .int s1.1)] K dX0_greatest_46 3 rfl rfl (by decide) rfl ?_
      refine sk_goto 5 K dX0_greatest_49 (by decide) ?_
      refine sk_sub [(1, .ref p1), (2, .int p2), (3, .int s1.1), (4, .int (s1.2 + 1))] [1, 2, 3, 0] rfl ?_
      have h9 := ih1 _ (Option.some.inj hf).symm
      exact h9
    · rw [if_pos h3] at hf
      refine sk_iload K dX0_greatest_22 3 rfl ?_
      obtain ⟨v4, e5, hf⟩ := sk_ob hf
      refine sk_callS (As := [.int s1.2]) (st := []) K dX0_greatest_24 cl_X0_34 (sJ6_bitCount_0f7a4 C l e5) (by decide) rfl rfl (Nat.le_of_ble_eq_true rfl) R1 R2 ?_
      refine sk_iload_n K dX0_greatest_27 rfl 2 rfl ?_
      obtain ⟨v6, e7, hf⟩ := sk_ob hf
      refine sk_callS (As := [.int s1.1]) (st := [.int v4]) K dX0_greatest_28 cl_X0_34 (sJ6_bitCount_0f7a4 C l e7) (by decide) rfl rfl (Nat.le_of_ble_eq_true rfl) R1 R2 ?_
      refine sk_icmp_le 46 K dX0_greatest_31 (by decide) (fun h8 => ?_) (fun h8 => ?_)
      · rw [if_pos h8] at hf
        refine sk_iinc (s1.2 + 1) [(4, .int (s1.2 + 1)), (1, .ref p1), (2, .int p2), (3, .int s1.1)] K dX0_greatest_46 3 rfl rfl (by decide) rfl ?_
        refine sk_goto 5 K dX0_greatest_49 (by decide) ?_
        refine sk_sub [(1, .ref p1), (2, .int p2), (3, .int s1.1), (4, .int (s1.2 + 1))] [1, 2, 3, 0] rfl ?_
        have h9 := ih1 _ (Option.some.inj hf).symm
        exact h9
      · rw [if_neg h8] at hf
        refine sk_aload_n K dX0_greatest_34 rfl 0 rfl ?_
        refine sk_iload K dX0_greatest_35 3 rfl ?_
        obtain ⟨v9, e10, hf⟩ := sk_ob hf
        refine sk_callS (As := [.ref p1, .int s1.2]) (st := []) K dX0_greatest_37 cl_X0_40 (sX0_allClash C l e10) (by decide) rfl rfl (Nat.le_of_ble_eq_true rfl) R1 R2 ?_
        refine sk_ifeqB 46 K dX0_greatest_40 (by decide) (fun h11 => ?_) (fun h11 => ?_)
        · rw [if_neg h11] at hf
          refine sk_iinc (s1.2 + 1) [(4, .int (s1.2 + 1)), (1, .ref p1), (2, .int p2), (3, .int s1.1)] K dX0_greatest_46 3 rfl rfl (by decide) rfl ?_
          refine sk_goto 5 K dX0_greatest_49 (by decide) ?_
          refine sk_sub [(1, .ref p1), (2, .int p2), (3, .int s1.1), (4, .int (s1.2 + 1))] [1, 2, 3, 0] rfl ?_
          have h9 := ih1 _ (Option.some.inj hf).symm
          exact h9
        · rw [if_pos h11] at hf
          refine sk_iload K dX0_greatest_43 3 rfl ?_
          refine sk_istore_n [(3, .int s1.2), (1, .ref p1), (2, .int p2), (4, .int s1.2)] K dX0_greatest_45 rfl (by decide) rfl ?_
          refine sk_iinc (s1.2 + 1) [(4, .int (s1.2 + 1)), (3, .int s1.2), (1, .ref p1), (2, .int p2)] K dX0_greatest_46 3 rfl rfl (by decide) rfl ?_
          refine sk_goto 5 K dX0_greatest_49 (by decide) ?_
          refine sk_sub [(1, .ref p1), (2, .int p2), (3, .int s1.2), (4, .int (s1.2 + 1))] [2, 3, 1, 0] rfl ?_
          have h9 := ih1 _ (Option.some.inj hf).symm
          exact h9
noncomputable def fX1_clear (S : sk_S) (d : sk_D) (p0 : Nat) : Option (sk_D) :=
  (sk_pI S d p0 1 2 (0 : Int32)).bind fun d1 => some d1
set_option maxRecDepth 100000 in
set_option maxHeartbeats 4000000 in
theorem sX1_clear (C : sk_C) (l : Launch) {S : sk_S} {d : sk_D} {p0 : Nat} {dd : sk_D} (hf : fX1_clear S d p0 = some dd) : sk_Met C l 0 yX1_clear cX1_clear 1 none [.ref p0] S d none S dd := by
  refine sk_Met.of (by decide) (Nat.le_of_ble_eq_true rfl) (Nat.le_refl _) (Nat.le_refl _) (fun X K0 hX => ?_)
  have K : sk_Ok X C cX1_clear 1 RX1 "clear" none 0 l none S dd := K0
  have R1 : X.2.2.2.2.2.2.2.2.2.2.2.1 ≤ S.1.1 ∧ X.2.2.2.2.2.2.2.2.2.2.2.2 ≤ S.1.2 := by rw [hX]; exact ⟨Nat.le_refl _, Nat.le_refl _⟩
  have R2 : S.1.1 ≤ S.1.1 ∧ S.1.2 ≤ S.1.2 := ⟨Nat.le_refl _, Nat.le_refl _⟩
  show sk_G X C 1 S d 0 [(0, .ref p0)] []
  unfold fX1_clear at hf
  refine sk_aload_n K dX1_clear_0 rfl 0 rfl ?_
  refine sk_iconst (0 : Int32) K dX1_clear_1 (by decide) ?_
  obtain ⟨d1, e2, hf⟩ := sk_ob hf
  refine sk_putI d1 K dX1_clear_2 fl_X1_18 rfl rfl rfl e2 ?_
  have hR3 : d1 = dd := Option.some.inj hf
  exact sk_vret K dX1_clear_5 rfl rfl rfl hR3
noncomputable def fX1_told (S : sk_S) (d : sk_D) (p0 : Nat) : Option (Bool) :=
  (sk_gI S d p0 1 2).bind fun v1 => if v1 ≤ 0 then (some false) else (some true)
set_option maxRecDepth 100000 in
set_option maxHeartbeats 4000000 in
theorem sX1_told (C : sk_C) (l : Launch) {S : sk_S} {d : sk_D} {p0 : Nat} {rr : Bool} (hf : fX1_told S d p0 = some rr) : sk_Met C l 0 yX1_told cX1_told 1 (some .boolean) [.ref p0] S d (some (.int (sk_b rr))) S d := by
  refine sk_Met.of (by decide) (Nat.le_of_ble_eq_true rfl) (Nat.le_refl _) (Nat.le_refl _) (fun X K0 hX => ?_)
  have K : sk_Ok X C cX1_told 1 RX1 "told" (some .boolean) 0 l (some (.int (sk_b rr))) S d := K0
  have R1 : X.2.2.2.2.2.2.2.2.2.2.2.1 ≤ S.1.1 ∧ X.2.2.2.2.2.2.2.2.2.2.2.2 ≤ S.1.2 := by rw [hX]; exact ⟨Nat.le_refl _, Nat.le_refl _⟩
  have R2 : S.1.1 ≤ S.1.1 ∧ S.1.2 ≤ S.1.2 := ⟨Nat.le_refl _, Nat.le_refl _⟩
  show sk_G X C 1 S d 0 [(0, .ref p0)] []
  unfold fX1_told at hf
  refine sk_aload_n K dX1_told_0 rfl 0 rfl ?_
  obtain ⟨v1, e2, hf⟩ := sk_ob hf
  refine sk_getI K dX1_told_1 fl_X1_18 rfl e2 ?_
  refine sk_if_le 11 K dX1_told_4 (by decide) (fun h3 => ?_) (fun h3 => ?_)
  · rw [if_pos h3] at hf
    refine sk_iconst (0 : Int32) K dX1_told_11 (by decide) ?_
    have hR4 : false = rr := Option.some.inj hf
    exact sk_zret (x := false) K dX1_told_12 rfl rfl hR4 rfl rfl
  · rw [if_neg h3] at hf
    refine sk_iconst (1 : Int32) K dX1_told_7 (by decide) ?_
    refine sk_goto 12 K dX1_told_8 (by decide) ?_
    have hR5 : true = rr := Option.some.inj hf
    exact sk_zret (x := true) K dX1_told_12 rfl rfl hR5 rfl rfl
noncomputable def fX1_step (S : sk_S) (d : sk_D) (p0 : Nat) (p1 : Int32) : Option (sk_D) :=
  (sk_gI S d p0 1 2).bind fun v1 => if (900 : Int32) ≤ v1 then (some d) else ((sk_gR S p0 1 0).bind fun v5 => (sk_gI S d p0 1 2).bind fun v7 => (sk_sI S d v5 20 v7 p1).bind fun d9 => (sk_gI S d9 p0 1 2).bind fun v11 => (sk_pI S d9 p0 1 2 (v11 + (1 : Int32))).bind fun d13 => some d13)
set_option maxRecDepth 100000 in
set_option maxHeartbeats 4000000 in
theorem sX1_step (C : sk_C) (l : Launch) {S : sk_S} {d : sk_D} {p0 : Nat} {p1 : Int32} {dd : sk_D} (hf : fX1_step S d p0 p1 = some dd) : sk_Met C l 0 yX1_step cX1_step 2 none [.ref p0, .int p1] S d none S dd := by
  refine sk_Met.of (by decide) (Nat.le_of_ble_eq_true rfl) (Nat.le_refl _) (Nat.le_refl _) (fun X K0 hX => ?_)
  have K : sk_Ok X C cX1_step 2 RX1 "step" none 0 l none S dd := K0
  have R1 : X.2.2.2.2.2.2.2.2.2.2.2.1 ≤ S.1.1 ∧ X.2.2.2.2.2.2.2.2.2.2.2.2 ≤ S.1.2 := by rw [hX]; exact ⟨Nat.le_refl _, Nat.le_refl _⟩
  have R2 : S.1.1 ≤ S.1.1 ∧ S.1.2 ≤ S.1.2 := ⟨Nat.le_refl _, Nat.le_refl _⟩
  show sk_G X C 2 S d 0 [(0, .ref p0), (1, .int p1)] []
  unfold fX1_step at hf
  refine sk_aload_n K dX1_step_0 rfl 0 rfl ?_
  obtain ⟨v1, e2, hf⟩ := sk_ob hf
  refine sk_getI K dX1_step_1 fl_X1_18 rfl e2 ?_
  refine sk_sipush (900 : Int32) K dX1_step_4 (by decide) ?_
  refine sk_icmp_ge 30 K dX1_step_7 (by decide) (fun h3 => ?_) (fun h3 => ?_)
  · rw [if_pos h3] at hf
    have hR4 : d = dd := Option.some.inj hf
    exact sk_vret K dX1_step_30 rfl rfl rfl hR4
  · rw [if_neg h3] at hf
    refine sk_aload_n K dX1_step_10 rfl 0 rfl ?_
    obtain ⟨v5, e6, hf⟩ := sk_ob hf
    refine sk_getR K dX1_step_11 fl_X1_9 rfl e6 ?_
    refine sk_aload_n K dX1_step_14 rfl 0 rfl ?_
    obtain ⟨v7, e8, hf⟩ := sk_ob hf
    refine sk_getI K dX1_step_15 fl_X1_18 rfl e8 ?_
    refine sk_iload_n K dX1_step_18 rfl 1 rfl ?_
    obtain ⟨d9, e10, hf⟩ := sk_ob hf
    refine sk_ast20 d9 K dX1_step_19 e10 ?_
    refine sk_aload_n K dX1_step_20 rfl 0 rfl ?_
    refine sk_dup K dX1_step_21 rfl ?_
    obtain ⟨v11, e12, hf⟩ := sk_ob hf
    refine sk_getI K dX1_step_22 fl_X1_18 rfl e12 ?_
    refine sk_iconst (1 : Int32) K dX1_step_25 (by decide) ?_
    refine sk_iadd K dX1_step_26 ?_
    obtain ⟨d13, e14, hf⟩ := sk_ob hf
    refine sk_putI d13 K dX1_step_27 fl_X1_18 rfl rfl rfl e14 ?_
    have hR15 : d13 = dd := Option.some.inj hf
    exact sk_vret K dX1_step_30 rfl rfl rfl hR15
noncomputable def fX1_copyFrom (S : sk_S) (d : sk_D) (p0 : Nat) (p1 : Nat) : Option (sk_D) :=
  (sk_gI S d p1 1 2).bind fun v1 => (sk_pI S d p0 1 2 v1).bind fun d3 => (sk_gR S p1 1 0).bind fun v5 => (sk_gR S p0 1 0).bind fun v7 => (sk_cp S d3 v5 (0 : Int32) v7 (0 : Int32) (900 : Int32)).bind fun d9 => some d9
set_option maxRecDepth 100000 in
set_option maxHeartbeats 4000000 in
theorem sX1_copyFrom (C : sk_C) (l : Launch) {S : sk_S} {d : sk_D} {p0 : Nat} {p1 : Nat} {dd : sk_D} (hf : fX1_copyFrom S d p0 p1 = some dd) : sk_Met C l 1 yX1_copyFrom cX1_copyFrom 2 none [.ref p0, .ref p1] S d none S dd := by
  refine sk_Met.of (by decide) (Nat.le_of_ble_eq_true rfl) (Nat.le_refl _) (Nat.le_refl _) (fun X K0 hX => ?_)
  have K : sk_Ok X C cX1_copyFrom 2 RX1 "copyFrom" none 1 l none S dd := K0
  have R1 : X.2.2.2.2.2.2.2.2.2.2.2.1 ≤ S.1.1 ∧ X.2.2.2.2.2.2.2.2.2.2.2.2 ≤ S.1.2 := by rw [hX]; exact ⟨Nat.le_refl _, Nat.le_refl _⟩
  have R2 : S.1.1 ≤ S.1.1 ∧ S.1.2 ≤ S.1.2 := ⟨Nat.le_refl _, Nat.le_refl _⟩
  show sk_G X C 2 S d 0 [(0, .ref p0), (1, .ref p1)] []
  unfold fX1_copyFrom at hf
  refine sk_aload_n K dX1_copyFrom_0 rfl 0 rfl ?_
  refine sk_aload_n K dX1_copyFrom_1 rfl 1 rfl ?_
  obtain ⟨v1, e2, hf⟩ := sk_ob hf
  refine sk_getI K dX1_copyFrom_2 fl_X1_18 rfl e2 ?_
  obtain ⟨d3, e4, hf⟩ := sk_ob hf
  refine sk_putI d3 K dX1_copyFrom_5 fl_X1_18 rfl rfl rfl e4 ?_
  refine sk_aload_n K dX1_copyFrom_8 rfl 1 rfl ?_
  obtain ⟨v5, e6, hf⟩ := sk_ob hf
  refine sk_getR K dX1_copyFrom_9 fl_X1_9 rfl e6 ?_
  refine sk_iconst (0 : Int32) K dX1_copyFrom_12 (by decide) ?_
  refine sk_aload_n K dX1_copyFrom_13 rfl 0 rfl ?_
  obtain ⟨v7, e8, hf⟩ := sk_ob hf
  refine sk_getR K dX1_copyFrom_14 fl_X1_9 rfl e8 ?_
  refine sk_iconst (0 : Int32) K dX1_copyFrom_17 (by decide) ?_
  refine sk_sipush (900 : Int32) K dX1_copyFrom_18 (by decide) ?_
  obtain ⟨d9, e10, hf⟩ := sk_ob hf
  refine sk_copy d9 K dX1_copyFrom_21 qw_739 qw_734 qw_733 qw_143 (by decide) (Nat.le_of_ble_eq_true rfl) e10 ?_
  have hR11 : d9 = dd := Option.some.inj hf
  exact sk_vret K dX1_copyFrom_24 rfl rfl rfl hR11
noncomputable def fX1_both_J118 (v1 : Int64) : Option (Int32) :=
  if v1 ≤ (1000000 : Int64) then (if (-1000000 : Int64) ≤ v1 then (some v1.toInt32) else (some (-1000000 : Int32))) else (some (1000000 : Int32))
noncomputable def fX1_both (S : sk_S) (d : sk_D) (p0 : Int32) (p1 : Int32) (p2 : Int32) : Option (Int32) :=
  if p0 = (-14 : Int32) then (some (p1 ||| p2)) else (if p0 = (-13 : Int32) then (some (p1 &&& p2)) else (if p0 = (-12 : Int32) then (if p1 ≤ p2 then (some (0 : Int32)) else (some (1 : Int32))) else (if p0 = (-11 : Int32) then (if p2 ≤ p1 then (some (0 : Int32)) else (some (1 : Int32))) else (if p0 = (-10 : Int32) then (if p1 = p2 then (some (1 : Int32)) else (some (0 : Int32))) else (if p0 = (-9 : Int32) then (fX1_both_J118 (p1.toInt64 * p2.toInt64)) else (if p0 = (-8 : Int32) then (fX1_both_J118 (p1.toInt64 - p2.toInt64)) else (if p0 = (-7 : Int32) then (fX1_both_J118 (p1.toInt64 + p2.toInt64)) else (some (0 : Int32)))))))))
set_option maxRecDepth 100000 in
set_option maxHeartbeats 4000000 in
theorem sX1_both (C : sk_C) (l : Launch) {S : sk_S} {d : sk_D} {p0 : Int32} {p1 : Int32} {p2 : Int32} {rr : Int32} (hf : fX1_both S d p0 p1 p2 = some rr) : sk_Met C l 0 yX1_both cX1_both 5 (some .int) [.int p0, .int p1, .int p2] S d (some (.int rr)) S d := by
  refine sk_Met.of (by decide) (Nat.le_of_ble_eq_true rfl) (Nat.le_refl _) (Nat.le_refl _) (fun X K0 hX => ?_)
  have K : sk_Ok X C cX1_both 5 RX1 "both" (some .int) 0 l (some (.int rr)) S d := K0
  have R1 : X.2.2.2.2.2.2.2.2.2.2.2.1 ≤ S.1.1 ∧ X.2.2.2.2.2.2.2.2.2.2.2.2 ≤ S.1.2 := by rw [hX]; exact ⟨Nat.le_refl _, Nat.le_refl _⟩
  have R2 : S.1.1 ≤ S.1.1 ∧ S.1.2 ≤ S.1.2 := ⟨Nat.le_refl _, Nat.le_refl _⟩
  show sk_G X C 5 S d 0 [(0, .int p0), (1, .int p1), (2, .int p2)] []
  unfold fX1_both at hf
  have j118_0 : ∀ (v1 : Int64), fX1_both_J118 v1 = some rr → sk_G X C 5 S d 118 [(3, .long v1)] [] := by
    intro v1 hf
    unfold fX1_both_J118 at hf
    refine sk_lload_n K dX1_both_118 rfl 0 rfl ?_
    refine sk_ldc2 K dX1_both_119 qw_846 ?_
    refine sk_lcmp_le 129 K dX1_both_122 dX1_both_123 (by decide) (fun h2 => ?_) (fun h2 => ?_)
    · rw [if_pos h2] at hf
      refine sk_lload_n K dX1_both_129 rfl 0 rfl ?_
      refine sk_ldc2 K dX1_both_130 qw_848 ?_
      refine sk_lcmp_ge 142 K dX1_both_133 dX1_both_134 (by decide) (fun h3 => ?_) (fun h3 => ?_)
      · rw [if_pos h3] at hf
        refine sk_lload_n K dX1_both_142 rfl 0 rfl ?_
        refine sk_l2i K dX1_both_143 ?_
        have hR4 : v1.toInt32 = rr := Option.some.inj hf
        exact sk_iret K dX1_both_144 rfl rfl hR4 rfl rfl
      · rw [if_neg h3] at hf
        refine sk_ldc K dX1_both_137 qw_849 ?_
        refine sk_goto 144 K dX1_both_139 (by decide) ?_
        have hR5 : (-1000000 : Int32) = rr := Option.some.inj hf
        exact sk_iret K dX1_both_144 rfl rfl hR5 rfl rfl
    · rw [if_neg h2] at hf
      refine sk_ldc K dX1_both_126 qw_847 ?_
      have hR6 : (1000000 : Int32) = rr := Option.some.inj hf
      exact sk_iret K dX1_both_128 rfl rfl hR6 rfl rfl
  refine sk_iload_n K dX1_both_0 rfl 0 rfl ?_
  by_cases h7 : p0 = (-14 : Int32)
  · rw [if_pos h7] at hf
    refine sk_tsIn (-14 : Int32) (111) 112 K dX1_both_1 h7 (by decide) (by decide) rfl (by decide) ?_
    refine sk_iload_n K dX1_both_112 rfl 1 rfl ?_
    refine sk_iload_n K dX1_both_113 rfl 2 rfl ?_
    refine sk_ior K dX1_both_114 ?_
    have hR8 : (p1 ||| p2) = rr := Option.some.inj hf
    exact sk_iret K dX1_both_115 rfl rfl hR8 rfl rfl
  · rw [if_neg h7] at hf
    by_cases h9 : p0 = (-13 : Int32)
    · rw [if_pos h9] at hf
      refine sk_tsIn (-13 : Int32) (107) 108 K dX1_both_1 h9 (by decide) (by decide) rfl (by decide) ?_
      refine sk_iload_n K dX1_both_108 rfl 1 rfl ?_
      refine sk_iload_n K dX1_both_109 rfl 2 rfl ?_
      refine sk_iand K dX1_both_110 ?_
      have hR10 : (p1 &&& p2) = rr := Option.some.inj hf
      exact sk_iret K dX1_both_111 rfl rfl hR10 rfl rfl
    · rw [if_neg h9] at hf
      by_cases h11 : p0 = (-12 : Int32)
      · rw [if_pos h11] at hf
        refine sk_tsIn (-12 : Int32) (96) 97 K dX1_both_1 h11 (by decide) (by decide) rfl (by decide) ?_
        refine sk_iload_n K dX1_both_97 rfl 1 rfl ?_
        refine sk_iload_n K dX1_both_98 rfl 2 rfl ?_
        refine sk_icmp_le 106 K dX1_both_99 (by decide) (fun h12 => ?_) (fun h12 => ?_)
        · rw [if_pos h12] at hf
          refine sk_iconst (0 : Int32) K dX1_both_106 (by decide) ?_
          have hR13 : (0 : Int32) = rr := Option.some.inj hf
          exact sk_iret K dX1_both_107 rfl rfl hR13 rfl rfl
        · rw [if_neg h12] at hf
          refine sk_iconst (1 : Int32) K dX1_both_102 (by decide) ?_
          refine sk_goto 107 K dX1_both_103 (by decide) ?_
          have hR14 : (1 : Int32) = rr := Option.some.inj hf
          exact sk_iret K dX1_both_107 rfl rfl hR14 rfl rfl
      · rw [if_neg h11] at hf
        by_cases h15 : p0 = (-11 : Int32)
        · rw [if_pos h15] at hf
          refine sk_tsIn (-11 : Int32) (85) 86 K dX1_both_1 h15 (by decide) (by decide) rfl (by decide) ?_
          refine sk_iload_n K dX1_both_86 rfl 1 rfl ?_
          refine sk_iload_n K dX1_both_87 rfl 2 rfl ?_
          refine sk_icmp_ge 95 K dX1_both_88 (by decide) (fun h16 => ?_) (fun h16 => ?_)
          · rw [if_pos h16] at hf
            refine sk_iconst (0 : Int32) K dX1_both_95 (by decide) ?_
            have hR17 : (0 : Int32) = rr := Option.some.inj hf
            exact sk_iret K dX1_both_96 rfl rfl hR17 rfl rfl
          · rw [if_neg h16] at hf
            refine sk_iconst (1 : Int32) K dX1_both_91 (by decide) ?_
            refine sk_goto 96 K dX1_both_92 (by decide) ?_
            have hR18 : (1 : Int32) = rr := Option.some.inj hf
            exact sk_iret K dX1_both_96 rfl rfl hR18 rfl rfl
        · rw [if_neg h15] at hf
          by_cases h19 : p0 = (-10 : Int32)
          · rw [if_pos h19] at hf
            refine sk_tsIn (-10 : Int32) (74) 75 K dX1_both_1 h19 (by decide) (by decide) rfl (by decide) ?_
            refine sk_iload_n K dX1_both_75 rfl 1 rfl ?_
            refine sk_iload_n K dX1_both_76 rfl 2 rfl ?_
            refine sk_icmp_ne 84 K dX1_both_77 (by decide) (fun h20 => ?_) (fun h20 => ?_)
            · rw [if_neg h20] at hf
              refine sk_iconst (0 : Int32) K dX1_both_84 (by decide) ?_
              have hR21 : (0 : Int32) = rr := Option.some.inj hf
              exact sk_iret K dX1_both_85 rfl rfl hR21 rfl rfl
            · rw [if_pos h20] at hf
              refine sk_iconst (1 : Int32) K dX1_both_80 (by decide) ?_
              refine sk_goto 85 K dX1_both_81 (by decide) ?_
              have hR22 : (1 : Int32) = rr := Option.some.inj hf
              exact sk_iret K dX1_both_85 rfl rfl hR22 rfl rfl
          · rw [if_neg h19] at hf
            by_cases h23 : p0 = (-9 : Int32)
            · rw [if_pos h23] at hf
              refine sk_tsIn (-9 : Int32) (65) 66 K dX1_both_1 h23 (by decide) (by decide) rfl (by decide) ?_
              refine sk_iload_n K dX1_both_66 rfl 1 rfl ?_
              refine sk_i2l K dX1_both_67 ?_
              refine sk_iload_n K dX1_both_68 rfl 2 rfl ?_
              refine sk_i2l K dX1_both_69 ?_
              refine sk_lmul K dX1_both_70 ?_
              refine sk_lstore_n [(3, .long (p1.toInt64 * p2.toInt64)), (0, .int p0), (1, .int p1), (2, .int p2)] K dX1_both_71 rfl (by decide) rfl ?_
              refine sk_goto 118 K dX1_both_72 (by decide) ?_
              refine sk_sub [(3, .long (p1.toInt64 * p2.toInt64))] [0] rfl ?_
              have h9 := j118_0 _ hf
              exact h9
            · rw [if_neg h23] at hf
              by_cases h24 : p0 = (-8 : Int32)
              · rw [if_pos h24] at hf
                refine sk_tsIn (-8 : Int32) (56) 57 K dX1_both_1 h24 (by decide) (by decide) rfl (by decide) ?_
                refine sk_iload_n K dX1_both_57 rfl 1 rfl ?_
                refine sk_i2l K dX1_both_58 ?_
                refine sk_iload_n K dX1_both_59 rfl 2 rfl ?_
                refine sk_i2l K dX1_both_60 ?_
                refine sk_lsub K dX1_both_61 ?_
                refine sk_lstore_n [(3, .long (p1.toInt64 - p2.toInt64)), (0, .int p0), (1, .int p1), (2, .int p2)] K dX1_both_62 rfl (by decide) rfl ?_
                refine sk_goto 118 K dX1_both_63 (by decide) ?_
                refine sk_sub [(3, .long (p1.toInt64 - p2.toInt64))] [0] rfl ?_
                have h9 := j118_0 _ hf
                exact h9
              · rw [if_neg h24] at hf
                by_cases h25 : p0 = (-7 : Int32)
                · rw [if_pos h25] at hf
                  refine sk_tsIn (-7 : Int32) (47) 48 K dX1_both_1 h25 (by decide) (by decide) rfl (by decide) ?_
                  refine sk_iload_n K dX1_both_48 rfl 1 rfl ?_
                  refine sk_i2l K dX1_both_49 ?_
                  refine sk_iload_n K dX1_both_50 rfl 2 rfl ?_
                  refine sk_i2l K dX1_both_51 ?_
                  refine sk_ladd K dX1_both_52 ?_
                  refine sk_lstore_n [(3, .long (p1.toInt64 + p2.toInt64)), (0, .int p0), (1, .int p1), (2, .int p2)] K dX1_both_53 rfl (by decide) rfl ?_
                  refine sk_goto 118 K dX1_both_54 (by decide) ?_
                  refine sk_sub [(3, .long (p1.toInt64 + p2.toInt64))] [0] rfl ?_
                  have h9 := j118_0 _ hf
                  exact h9
                · rw [if_neg h25] at hf
                  refine sk_tsOut 116 K dX1_both_1 (sk_tsout (-14) 8 [(-14 : Int32), (-13 : Int32), (-12 : Int32), (-11 : Int32), (-10 : Int32), (-9 : Int32), (-8 : Int32), (-7 : Int32)] (by decide) (by simp [h7, h9, h11, h15, h19, h23, h24, h25])) (by decide) ?_
                  refine sk_iconst (0 : Int32) K dX1_both_116 (by decide) ?_
                  have hR26 : (0 : Int32) = rr := Option.some.inj hf
                  exact sk_iret K dX1_both_117 rfl rfl hR26 rfl rfl
noncomputable def fX1_holds_J109i13 (S : sk_S) (p0 : Nat) (v13 : Int32) (v14 : Int32) (v15 : Int32) (d16 : sk_D) : Option ((Int32 × Int32 × sk_D) ⊕ (Int32 × sk_D)) :=
  if v13 ≤ (1 : Int32) then (some (.inl (v13, v14 + 1, d16))) else ((sk_gR S p0 1 1).bind fun v18 => (sk_gR S p0 1 1).bind fun v20 => (sk_lI S d16 v20 20 ((v13 - 1) - (1 : Int32))).bind fun v22 => (sk_gR S p0 1 1).bind fun v24 => (sk_lI S d16 v24 20 (v13 - 1)).bind fun v26 => (fX1_both S d16 v15 v22 v26).bind fun v28 => (sk_sI S d16 v18 20 ((v13 - 1) - (1 : Int32)) v28).bind fun d30 => some (.inl (v13 - 1, v14 + 1, d30)))
noncomputable def fX1_holds_J77i13 (S : sk_S) (p0 : Nat) (v32 : Int32) (v33 : Int32) (v34 : Int32) (d35 : sk_D) : Option ((Int32 × Int32 × sk_D) ⊕ (Int32 × sk_D)) :=
  if v34 = (-15 : Int32) then (if v32 ≤ 0 then (fX1_holds_J109i13 S p0 v32 v33 v34 d35) else ((sk_gR S p0 1 1).bind fun v38 => (sk_gR S p0 1 1).bind fun v40 => (sk_lI S d35 v40 20 (v32 - (1 : Int32))).bind fun v42 => (sk_sI S d35 v38 20 (v32 - (1 : Int32)) ((1 : Int32) - v42)).bind fun d44 => some (.inl (v32, v33 + 1, d44)))) else (fX1_holds_J109i13 S p0 v32 v33 v34 d35)
noncomputable def fX1_holds_L13 (S : sk_S) (p0 : Nat) (p1 : Nat) (s1 : Int32 × Int32 × sk_D) : Option ((Int32 × Int32 × sk_D) ⊕ (Int32 × sk_D)) :=
  (sk_gI S s1.2.2 p0 1 2).bind fun v46 => if v46 ≤ s1.2.1 then (some (.inr (s1.1, s1.2.2))) else (if (900 : Int32) ≤ s1.2.1 then (some (.inr (s1.1, s1.2.2))) else ((sk_gR S p0 1 0).bind fun v50 => (sk_lI S s1.2.2 v50 20 s1.2.1).bind fun v52 => if v52 < (-6 : Int32) then (fX1_holds_J77i13 S p0 s1.1 s1.2.1 v52 s1.2.2) else (if (64 : Int32) ≤ s1.1 then (fX1_holds_J77i13 S p0 s1.1 s1.2.1 v52 s1.2.2) else ((sk_gR S p0 1 1).bind fun v56 => if v52 < 0 then ((sk_lI S s1.2.2 p1 20 ((-1 : Int32) - v52)).bind fun v59 => (sk_sI S s1.2.2 v56 20 s1.1 v59).bind fun d61 => some (.inl (s1.1 + 1, s1.2.1 + 1, d61))) else ((sk_sI S s1.2.2 v56 20 s1.1 v52).bind fun d63 => some (.inl (s1.1 + 1, s1.2.1 + 1, d63)))))))
noncomputable def fX1_holds (S : sk_S) (d : sk_D) (p0 : Nat) (p1 : Nat) : Option (Bool × sk_D) :=
  (sk_al S p1 20).bind fun v1 => if (6 : Int32) ≤ v1 then ((sk_itr (fX1_holds_L13 S p0 p1) ((0 : Int32), (0 : Int32), d)).bind fun y1 => if y1.1 ≤ 0 then (some (false, y1.2)) else ((sk_gR S p0 1 1).bind fun v6 => (sk_lI S y1.2 v6 20 (0 : Int32)).bind fun v8 => if v8 = 0 then (some (false, y1.2)) else (some (true, y1.2)))) else (some (false, d))
set_option maxRecDepth 100000 in
set_option maxHeartbeats 4000000 in
theorem sX1_holds (C : sk_C) (l : Launch) {S : sk_S} {d : sk_D} {p0 : Nat} {p1 : Nat} {rr : Bool} {dd : sk_D} (hf : fX1_holds S d p0 p1 = some (rr, dd)) : sk_Met C l 1 yX1_holds cX1_holds 5 (some .boolean) [.ref p0, .ref p1] S d (some (.int (sk_b rr))) S dd := by
  refine sk_Met.of (by decide) (Nat.le_of_ble_eq_true rfl) (Nat.le_refl _) (Nat.le_refl _) (fun X K0 hX => ?_)
  have K : sk_Ok X C cX1_holds 5 RX1 "holds" (some .boolean) 1 l (some (.int (sk_b rr))) S dd := K0
  have R1 : X.2.2.2.2.2.2.2.2.2.2.2.1 ≤ S.1.1 ∧ X.2.2.2.2.2.2.2.2.2.2.2.2 ≤ S.1.2 := by rw [hX]; exact ⟨Nat.le_refl _, Nat.le_refl _⟩
  have R2 : S.1.1 ≤ S.1.1 ∧ S.1.2 ≤ S.1.2 := ⟨Nat.le_refl _, Nat.le_refl _⟩
  show sk_G X C 5 S d 0 [(0, .ref p0), (1, .ref p1)] []
  unfold fX1_holds at hf
  refine sk_aload_n K dX1_holds_0 rfl 1 rfl ?_
  obtain ⟨v1, e2, hf⟩ := sk_ob hf
  refine sk_al20 K dX1_holds_1 e2 ?_
  refine sk_bipush (6 : Int32) K dX1_holds_2 (by decide) ?_
  refine sk_icmp_ge 9 K dX1_holds_4 (by decide) (fun h3 => ?_) (fun h3 => ?_)
  · rw [if_pos h3] at hf
    refine sk_iconst (0 : Int32) K dX1_holds_9 (by decide) ?_
    refine sk_istore_n [(2, .int (0 : Int32)), (0, .ref p0), (1, .ref p1)] K dX1_holds_10 rfl (by decide) rfl ?_
    refine sk_iconst (0 : Int32) K dX1_holds_11 (by decide) ?_
    refine sk_istore_n [(3, .int (0 : Int32)), (2, .int (0 : Int32)), (0, .ref p0), (1, .ref p1)] K dX1_holds_12 rfl (by decide) rfl ?_
    obtain ⟨x1, he1, hf⟩ := sk_ob hf
    have rest1 : ∀ y1, y1 = x1 → sk_G X C 5 S y1.2 150 [(0, .ref p0), (2, .int y1.1)] [] := by
      intro y1 hy
      subst hy
      refine sk_iload_n K dX1_holds_150 rfl 1 rfl ?_
      refine sk_if_le 167 K dX1_holds_151 (by decide) (fun h4 => ?_) (fun h4 => ?_)
      · rw [if_pos h4] at hf
        refine sk_iconst (0 : Int32) K dX1_holds_167 (by decide) ?_
        have hR5 : (false, y1.2) = (rr, dd) := Option.some.inj hf
        exact sk_zret (x := false) K dX1_holds_168 rfl rfl (congrArg (fun z => z.1) hR5) rfl (congrArg (fun z => z.2) hR5)
      · rw [if_neg h4] at hf
        refine sk_aload_n K dX1_holds_154 rfl 0 rfl ?_
        obtain ⟨v6, e7, hf⟩ := sk_ob hf
        refine sk_getR K dX1_holds_155 fl_X1_15 rfl e7 ?_
        refine sk_iconst (0 : Int32) K dX1_holds_158 (by decide) ?_
        obtain ⟨v8, e9, hf⟩ := sk_ob hf
        refine sk_ald20 K dX1_holds_159 e9 ?_
        refine sk_if_eq 167 K dX1_holds_160 (by decide) (fun h10 => ?_) (fun h10 => ?_)
        · rw [if_pos h10] at hf
          refine sk_iconst (0 : Int32) K dX1_holds_167 (by decide) ?_
          have hR11 : (false, y1.2) = (rr, dd) := Option.some.inj hf
          exact sk_zret (x := false) K dX1_holds_168 rfl rfl (congrArg (fun z => z.1) hR11) rfl (congrArg (fun z => z.2) hR11)
        · rw [if_neg h10] at hf
          refine sk_iconst (1 : Int32) K dX1_holds_163 (by decide) ?_
          refine sk_goto 168 K dX1_holds_164 (by decide) ?_
          have hR12 : (true, y1.2) = (rr, dd) := Option.some.inj hf
          exact sk_zret (x := true) K dX1_holds_168 rfl rfl (congrArg (fun z => z.1) hR12) rfl (congrArg (fun z => z.2) hR12)
    refine sk_sub [(0, .ref p0), (1, .ref p1), (2, .int (0 : Int32)), (3, .int (0 : Int32))] [2, 3, 1, 0] rfl ?_
    refine sk_loop (fun s1 => sk_G X C 5 S s1.2.2 13 [(0, .ref p0), (1, .ref p1), (2, .int s1.1), (3, .int s1.2.1)] []) he1 (fun s1 o1 hf ih1 hx1 => ?_)
    unfold fX1_holds_L13 at hf
    have j109_1 : ∀ (v13 : Int32) (v14 : Int32) (v15 : Int32) (d16 : sk_D), fX1_holds_J109i13 S p0 v13 v14 v15 d16 = some o1 → sk_G X C 5 S d16 109 [(0, .ref p0), (1, .ref p1), (2, .int v13), (3, .int v14), (4, .int v15)] [] := by
      intro v13 v14 v15 d16 hf
      unfold fX1_holds_J109i13 at hf
      refine sk_iload_n K dX1_holds_109 rfl 2 rfl ?_
      refine sk_iconst (1 : Int32) K dX1_holds_110 (by decide) ?_
      refine sk_icmp_le 144 K dX1_holds_111 (by decide) (fun h17 => ?_) (fun h17 => ?_)
      · rw [if_pos h17] at hf
        refine sk_iinc (v14 + 1) [(3, .int (v14 + 1)), (0, .ref p0), (1, .ref p1), (2, .int v13), (4, .int v15)] K dX1_holds_144 3 rfl rfl (by decide) rfl ?_
        refine sk_goto 13 K dX1_holds_147 (by decide) ?_
        refine sk_sub [(0, .ref p0), (1, .ref p1), (2, .int v13), (3, .int (v14 + 1))] [1, 2, 3, 0] rfl ?_
        have h9 := ih1 _ (Option.some.inj hf).symm
        exact h9
      · rw [if_neg h17] at hf
        refine sk_iinc (v13 - 1) [(2, .int (v13 - 1)), (0, .ref p0), (1, .ref p1), (3, .int v14), (4, .int v15)] K dX1_holds_114 2 rfl (sk_dec1 _) (by decide) rfl ?_
        refine sk_aload_n K dX1_holds_117 rfl 1 rfl ?_
        obtain ⟨v18, e19, hf⟩ := sk_ob hf
        refine sk_getR K dX1_holds_118 fl_X1_15 rfl e19 ?_
        refine sk_iload_n K dX1_holds_121 rfl 0 rfl ?_
        refine sk_iconst (1 : Int32) K dX1_holds_122 (by decide) ?_
        refine sk_isub K dX1_holds_123 ?_
        refine sk_iload K dX1_holds_124 4 rfl ?_
        refine sk_aload_n K dX1_holds_126 rfl 1 rfl ?_
        obtain ⟨v20, e21, hf⟩ := sk_ob hf
        refine sk_getR K dX1_holds_127 fl_X1_15 rfl e21 ?_
        refine sk_iload_n K dX1_holds_130 rfl 0 rfl ?_
        refine sk_iconst (1 : Int32) K dX1_holds_131 (by decide) ?_
        refine sk_isub K dX1_holds_132 ?_
        obtain ⟨v22, e23, hf⟩ := sk_ob hf
        refine sk_ald20 K dX1_holds_133 e23 ?_
        refine sk_aload_n K dX1_holds_134 rfl 1 rfl ?_
        obtain ⟨v24, e25, hf⟩ := sk_ob hf
        refine sk_getR K dX1_holds_135 fl_X1_15 rfl e25 ?_
        refine sk_iload_n K dX1_holds_138 rfl 0 rfl ?_
        obtain ⟨v26, e27, hf⟩ := sk_ob hf
        refine sk_ald20 K dX1_holds_139 e27 ?_
        obtain ⟨v28, e29, hf⟩ := sk_ob hf
        refine sk_callS (As := [.int v15, .int v22, .int v26]) (st := [.int ((v13 - 1) - (1 : Int32)), .ref v18]) K dX1_holds_140 cl_X1_28 (sX1_both C l e29) (by decide) rfl rfl (Nat.le_of_ble_eq_true rfl) R1 R2 ?_
        obtain ⟨d30, e31, hf⟩ := sk_ob hf
        refine sk_ast20 d30 K dX1_holds_143 e31 ?_
        refine sk_iinc (v14 + 1) [(3, .int (v14 + 1)), (2, .int (v13 - 1)), (0, .ref p0), (1, .ref p1), (4, .int v15)] K dX1_holds_144 3 rfl rfl (by decide) rfl ?_
        refine sk_goto 13 K dX1_holds_147 (by decide) ?_
        refine sk_sub [(0, .ref p0), (1, .ref p1), (2, .int (v13 - 1)), (3, .int (v14 + 1))] [2, 3, 1, 0] rfl ?_
        have h9 := ih1 _ (Option.some.inj hf).symm
        exact h9
    have j77_1 : ∀ (v32 : Int32) (v33 : Int32) (v34 : Int32) (d35 : sk_D), fX1_holds_J77i13 S p0 v32 v33 v34 d35 = some o1 → sk_G X C 5 S d35 77 [(0, .ref p0), (1, .ref p1), (2, .int v32), (3, .int v33), (4, .int v34)] [] := by
      intro v32 v33 v34 d35 hf
      unfold fX1_holds_J77i13 at hf
      refine sk_iload K dX1_holds_77 4 rfl ?_
      refine sk_bipush (-15 : Int32) K dX1_holds_79 (by decide) ?_
      refine sk_icmp_ne 109 K dX1_holds_81 (by decide) (fun h36 => ?_) (fun h36 => ?_)
      · rw [if_neg h36] at hf
        refine sk_sub [(0, .ref p0), (1, .ref p1), (2, .int v32), (3, .int v33), (4, .int v34)] [0, 1, 2, 3, 4] rfl ?_
        have h9 := j109_1 _ _ _ _ hf
        exact h9
      · rw [if_pos h36] at hf
        refine sk_iload_n K dX1_holds_84 rfl 2 rfl ?_
        refine sk_if_le 109 K dX1_holds_85 (by decide) (fun h37 => ?_) (fun h37 => ?_)
        · rw [if_pos h37] at hf
          refine sk_sub [(0, .ref p0), (1, .ref p1), (2, .int v32), (3, .int v33), (4, .int v34)] [0, 1, 2, 3, 4] rfl ?_
          have h9 := j109_1 _ _ _ _ hf
          exact h9
        · rw [if_neg h37] at hf
          refine sk_aload_n K dX1_holds_88 rfl 0 rfl ?_
          obtain ⟨v38, e39, hf⟩ := sk_ob hf
          refine sk_getR K dX1_holds_89 fl_X1_15 rfl e39 ?_
          refine sk_iload_n K dX1_holds_92 rfl 2 rfl ?_
          refine sk_iconst (1 : Int32) K dX1_holds_93 (by decide) ?_
          refine sk_isub K dX1_holds_94 ?_
          refine sk_iconst (1 : Int32) K dX1_holds_95 (by decide) ?_
          refine sk_aload_n K dX1_holds_96 rfl 0 rfl ?_
          obtain ⟨v40, e41, hf⟩ := sk_ob hf
          refine sk_getR K dX1_holds_97 fl_X1_15 rfl e41 ?_
          refine sk_iload_n K dX1_holds_100 rfl 2 rfl ?_
          refine sk_iconst (1 : Int32) K dX1_holds_101 (by decide) ?_
          refine sk_isub K dX1_holds_102 ?_
          obtain ⟨v42, e43, hf⟩ := sk_ob hf
          refine sk_ald20 K dX1_holds_103 e43 ?_
          refine sk_isub K dX1_holds_104 ?_
          obtain ⟨d44, e45, hf⟩ := sk_ob hf
          refine sk_ast20 d44 K dX1_holds_105 e45 ?_
          refine sk_goto 144 K dX1_holds_106 (by decide) ?_
          refine sk_iinc (v33 + 1) [(3, .int (v33 + 1)), (0, .ref p0), (1, .ref p1), (2, .int v32), (4, .int v34)] K dX1_holds_144 3 rfl rfl (by decide) rfl ?_
          refine sk_goto 13 K dX1_holds_147 (by decide) ?_
          refine sk_sub [(0, .ref p0), (1, .ref p1), (2, .int v32), (3, .int (v33 + 1))] [1, 2, 3, 0] rfl ?_
          have h9 := ih1 _ (Option.some.inj hf).symm
          exact h9
    refine sk_iload_n K dX1_holds_13 rfl 3 rfl ?_
    refine sk_aload_n K dX1_holds_14 rfl 0 rfl ?_
    obtain ⟨v46, e47, hf⟩ := sk_ob hf
    refine sk_getI K dX1_holds_15 fl_X1_18 rfl e47 ?_
    refine sk_icmp_ge 150 K dX1_holds_18 (by decide) (fun h48 => ?_) (fun h48 => ?_)
    · rw [if_pos h48] at hf
      refine sk_sub [(0, .ref p0), (2, .int s1.1)] [0, 2] rfl ?_
      have h9 := rest1 _ (hx1 _ (Option.some.inj hf).symm)
      exact h9
    · rw [if_neg h48] at hf
      refine sk_iload_n K dX1_holds_21 rfl 3 rfl ?_
      refine sk_sipush (900 : Int32) K dX1_holds_22 (by decide) ?_
      refine sk_icmp_ge 150 K dX1_holds_25 (by decide) (fun h49 => ?_) (fun h49 => ?_)
      · rw [if_pos h49] at hf
        refine sk_sub [(0, .ref p0), (2, .int s1.1)] [0, 2] rfl ?_
        have h9 := rest1 _ (hx1 _ (Option.some.inj hf).symm)
        exact h9
      · rw [if_neg h49] at hf
        refine sk_aload_n K dX1_holds_28 rfl 0 rfl ?_
        obtain ⟨v50, e51, hf⟩ := sk_ob hf
        refine sk_getR K dX1_holds_29 fl_X1_9 rfl e51 ?_
        refine sk_iload_n K dX1_holds_32 rfl 3 rfl ?_
        obtain ⟨v52, e53, hf⟩ := sk_ob hf
        refine sk_ald20 K dX1_holds_33 e53 ?_
        refine sk_istore [(4, .int v52), (0, .ref p0), (1, .ref p1), (2, .int s1.1), (3, .int s1.2.1)] K dX1_holds_34 (by decide) rfl ?_
        refine sk_iload K dX1_holds_36 0 rfl ?_
        refine sk_bipush (-6 : Int32) K dX1_holds_38 (by decide) ?_
        refine sk_icmp_lt 77 K dX1_holds_40 (by decide) (fun h54 => ?_) (fun h54 => ?_)
        · rw [if_pos h54] at hf
          refine sk_sub [(0, .ref p0), (1, .ref p1), (2, .int s1.1), (3, .int s1.2.1), (4, .int v52)] [1, 2, 3, 4, 0] rfl ?_
          have h9 := j77_1 _ _ _ _ hf
          exact h9
        · rw [if_neg h54] at hf
          refine sk_iload_n K dX1_holds_43 rfl 3 rfl ?_
          refine sk_bipush (64 : Int32) K dX1_holds_44 (by decide) ?_
          refine sk_icmp_ge 77 K dX1_holds_46 (by decide) (fun h55 => ?_) (fun h55 => ?_)
          · rw [if_pos h55] at hf
            refine sk_sub [(0, .ref p0), (1, .ref p1), (2, .int s1.1), (3, .int s1.2.1), (4, .int v52)] [1, 2, 3, 4, 0] rfl ?_
            have h9 := j77_1 _ _ _ _ hf
            exact h9
          · rw [if_neg h55] at hf
            refine sk_aload_n K dX1_holds_49 rfl 1 rfl ?_
            obtain ⟨v56, e57, hf⟩ := sk_ob hf
            refine sk_getR K dX1_holds_50 fl_X1_15 rfl e57 ?_
            refine sk_iload_n K dX1_holds_53 rfl 3 rfl ?_
            refine sk_iload K dX1_holds_54 0 rfl ?_
            refine sk_if_lt 64 K dX1_holds_56 (by decide) (fun h58 => ?_) (fun h58 => ?_)
            · rw [if_pos h58] at hf
              refine sk_aload_n K dX1_holds_64 rfl 2 rfl ?_
              refine sk_iconst (-1 : Int32) K dX1_holds_65 (by decide) ?_
              refine sk_iload K dX1_holds_66 0 rfl ?_
              refine sk_isub K dX1_holds_68 ?_
              obtain ⟨v59, e60, hf⟩ := sk_ob hf
              refine sk_ald20 K dX1_holds_69 e60 ?_
              obtain ⟨d61, e62, hf⟩ := sk_ob hf
              refine sk_ast20 d61 K dX1_holds_70 e62 ?_
              refine sk_iinc (s1.1 + 1) [(2, .int (s1.1 + 1)), (4, .int v52), (0, .ref p0), (1, .ref p1), (3, .int s1.2.1)] K dX1_holds_71 3 rfl rfl (by decide) rfl ?_
              refine sk_goto 144 K dX1_holds_74 (by decide) ?_
              refine sk_iinc (s1.2.1 + 1) [(3, .int (s1.2.1 + 1)), (2, .int (s1.1 + 1)), (4, .int v52), (0, .ref p0), (1, .ref p1)] K dX1_holds_144 4 rfl rfl (by decide) rfl ?_
              refine sk_goto 13 K dX1_holds_147 (by decide) ?_
              refine sk_sub [(0, .ref p0), (1, .ref p1), (2, .int (s1.1 + 1)), (3, .int (s1.2.1 + 1))] [3, 4, 1, 0] rfl ?_
              have h9 := ih1 _ (Option.some.inj hf).symm
              exact h9
            · rw [if_neg h58] at hf
              refine sk_iload K dX1_holds_59 0 rfl ?_
              refine sk_goto 70 K dX1_holds_61 (by decide) ?_
              obtain ⟨d63, e64, hf⟩ := sk_ob hf
              refine sk_ast20 d63 K dX1_holds_70 e64 ?_
              refine sk_iinc (s1.1 + 1) [(2, .int (s1.1 + 1)), (4, .int v52), (0, .ref p0), (1, .ref p1), (3, .int s1.2.1)] K dX1_holds_71 3 rfl rfl (by decide) rfl ?_
              refine sk_goto 144 K dX1_holds_74 (by decide) ?_
              refine sk_iinc (s1.2.1 + 1) [(3, .int (s1.2.1 + 1)), (2, .int (s1.1 + 1)), (4, .int v52), (0, .ref p0), (1, .ref p1)] K dX1_holds_144 4 rfl rfl (by decide) rfl ?_
              refine sk_goto 13 K dX1_holds_147 (by decide) ?_
              refine sk_sub [(0, .ref p0), (1, .ref p1), (2, .int (s1.1 + 1)), (3, .int (s1.2.1 + 1))] [3, 4, 1, 0] rfl ?_
              have h9 := ih1 _ (Option.some.inj hf).symm
              exact h9
  · rw [if_neg h3] at hf
    refine sk_iconst (0 : Int32) K dX1_holds_7 (by decide) ?_
    have hR65 : (false, d) = (rr, dd) := Option.some.inj hf
    exact sk_zret (x := false) K dX1_holds_8 rfl rfl (congrArg (fun z => z.1) hR65) rfl (congrArg (fun z => z.2) hR65)
noncomputable def fX2_clear (S : sk_S) (d : sk_D) (p0 : Nat) : Option (sk_D) :=
  (sk_pI S d p0 2 0 (0 : Int32)).bind fun d1 => (sk_pI S d1 p0 2 1 (0 : Int32)).bind fun d3 => (sk_pI S d3 p0 2 2 (0 : Int32)).bind fun d5 => (sk_pI S d5 p0 2 3 (0 : Int32)).bind fun d7 => (sk_pI S d7 p0 2 4 (0 : Int32)).bind fun d9 => (sk_gR S p0 2 13).bind fun v11 => if S.2.1 v11 = (1, 0) then ((fX1_clear S d9 v11).bind fun d15 => (sk_gR S p0 2 14).bind fun v17 => if S.2.1 v17 = (1, 0) then ((fX1_clear S d15 v17).bind fun d21 => some d21) else none) else none
set_option maxRecDepth 100000 in
set_option maxHeartbeats 4000000 in
theorem sX2_clear (C : sk_C) (l : Launch) {S : sk_S} {d : sk_D} {p0 : Nat} {dd : sk_D} (hf : fX2_clear S d p0 = some dd) : sk_Met C l 1 yX2_clear cX2_clear 1 none [.ref p0] S d none S dd := by
  refine sk_Met.of (by decide) (Nat.le_of_ble_eq_true rfl) (Nat.le_refl _) (Nat.le_refl _) (fun X K0 hX => ?_)
  have K : sk_Ok X C cX2_clear 1 RX2 "clear" none 1 l none S dd := K0
  have R1 : X.2.2.2.2.2.2.2.2.2.2.2.1 ≤ S.1.1 ∧ X.2.2.2.2.2.2.2.2.2.2.2.2 ≤ S.1.2 := by rw [hX]; exact ⟨Nat.le_refl _, Nat.le_refl _⟩
  have R2 : S.1.1 ≤ S.1.1 ∧ S.1.2 ≤ S.1.2 := ⟨Nat.le_refl _, Nat.le_refl _⟩
  show sk_G X C 1 S d 0 [(0, .ref p0)] []
  unfold fX2_clear at hf
  refine sk_aload_n K dX2_clear_0 rfl 0 rfl ?_
  refine sk_iconst (0 : Int32) K dX2_clear_1 (by decide) ?_
  obtain ⟨d1, e2, hf⟩ := sk_ob hf
  refine sk_putI d1 K dX2_clear_2 fl_X2_9 rfl rfl rfl e2 ?_
  refine sk_aload_n K dX2_clear_5 rfl 0 rfl ?_
  refine sk_iconst (0 : Int32) K dX2_clear_6 (by decide) ?_
  obtain ⟨d3, e4, hf⟩ := sk_ob hf
  refine sk_putI d3 K dX2_clear_7 fl_X2_15 rfl rfl rfl e4 ?_
  refine sk_aload_n K dX2_clear_10 rfl 0 rfl ?_
  refine sk_iconst (0 : Int32) K dX2_clear_11 (by decide) ?_
  obtain ⟨d5, e6, hf⟩ := sk_ob hf
  refine sk_putI d5 K dX2_clear_12 fl_X2_18 rfl rfl rfl e6 ?_
  refine sk_aload_n K dX2_clear_15 rfl 0 rfl ?_
  refine sk_iconst (0 : Int32) K dX2_clear_16 (by decide) ?_
  obtain ⟨d7, e8, hf⟩ := sk_ob hf
  refine sk_putI d7 K dX2_clear_17 fl_X2_21 rfl rfl rfl e8 ?_
  refine sk_aload_n K dX2_clear_20 rfl 0 rfl ?_
  refine sk_iconst (0 : Int32) K dX2_clear_21 (by decide) ?_
  obtain ⟨d9, e10, hf⟩ := sk_ob hf
  refine sk_putI d9 K dX2_clear_22 fl_X2_24 rfl rfl rfl e10 ?_
  refine sk_aload_n K dX2_clear_25 rfl 0 rfl ?_
  obtain ⟨v11, e12, hf⟩ := sk_ob hf
  refine sk_getR K dX2_clear_26 fl_X2_55 rfl e12 ?_
  obtain ⟨h16, hf⟩ := sk_ib hf
  obtain ⟨d15, e14, hf⟩ := sk_ob hf
  refine sk_callV (As := []) (st := []) K dX2_clear_29 cl_X2_62 h16 (sX1_clear C l e14) (by decide) rfl rfl (Nat.le_of_ble_eq_true rfl) R1 R2 ?_
  refine sk_aload_n K dX2_clear_32 rfl 0 rfl ?_
  obtain ⟨v17, e18, hf⟩ := sk_ob hf
  refine sk_getR K dX2_clear_33 fl_X2_59 rfl e18 ?_
  obtain ⟨h22, hf⟩ := sk_ib hf
  obtain ⟨d21, e20, hf⟩ := sk_ob hf
  refine sk_callV (As := []) (st := []) K dX2_clear_36 cl_X2_62 h22 (sX1_clear C l e20) (by decide) rfl rfl (Nat.le_of_ble_eq_true rfl) R1 R2 ?_
  have hR23 : d21 = dd := Option.some.inj hf
  exact sk_vret K dX2_clear_39 rfl rfl rfl hR23
noncomputable def fX2_copyFrom (S : sk_S) (d : sk_D) (p0 : Nat) (p1 : Nat) : Option (sk_D) :=
  (sk_gI S d p1 2 0).bind fun v1 => (sk_pI S d p0 2 0 v1).bind fun d3 => (sk_gI S d3 p1 2 1).bind fun v5 => (sk_pI S d3 p0 2 1 v5).bind fun d7 => (sk_gI S d7 p1 2 2).bind fun v9 => (sk_pI S d7 p0 2 2 v9).bind fun d11 => (sk_gI S d11 p1 2 3).bind fun v13 => (sk_pI S d11 p0 2 3 v13).bind fun d15 => (sk_gI S d15 p1 2 4).bind fun v17 => (sk_pI S d15 p0 2 4 v17).bind fun d19 => (sk_gR S p1 2 5).bind fun v21 => (sk_gR S p0 2 5).bind fun v23 => (sk_cp S d19 v21 (0 : Int32) v23 (0 : Int32) (8 : Int32)).bind fun d25 => (sk_gR S p1 2 6).bind fun v27 => (sk_gR S p0 2 6).bind fun v29 => (sk_cp S d25 v27 (0 : Int32) v29 (0 : Int32) (8 : Int32)).bind fun d31 => (sk_gR S p1 2 7).bind fun v33 => (sk_gR S p0 2 7).bind fun v35 => (sk_cp S d31 v33 (0 : Int32) v35 (0 : Int32) (8 : Int32)).bind fun d37 => (sk_gR S p1 2 8).bind fun v39 => (sk_gR S p0 2 8).bind fun v41 => (sk_cp S d37 v39 (0 : Int32) v41 (0 : Int32) (8 : Int32)).bind fun d43 => (sk_gR S p1 2 9).bind fun v45 => (sk_gR S p0 2 9).bind fun v47 => (sk_cp S d43 v45 (0 : Int32) v47 (0 : Int32) (8 : Int32)).bind fun d49 => (sk_gR S p1 2 10).bind fun v51 => (sk_gR S p0 2 10).bind fun v53 => (sk_cp S d49 v51 (0 : Int32) v53 (0 : Int32) (8 : Int32)).bind fun d55 => (sk_gR S p1 2 11).bind fun v57 => (sk_gR S p0 2 11).bind fun v59 => (sk_cp S d55 v57 (0 : Int32) v59 (0 : Int32) (8 : Int32)).bind fun d61 => (sk_gR S p1 2 12).bind fun v63 => (sk_gR S p0 2 12).bind fun v65 => (sk_cp S d61 v63 (0 : Int32) v65 (0 : Int32) (8 : Int32)).bind fun d67 => (sk_gR S p0 2 13).bind fun v69 => (sk_gR S p1 2 13).bind fun v71 => if S.2.1 v69 = (1, 0) then ((fX1_copyFrom S d67 v69 v71).bind fun d75 => (sk_gR S p0 2 14).bind fun v77 => (sk_gR S p1 2 14).bind fun v79 => if S.2.1 v77 = (1, 0) then ((fX1_copyFrom S d75 v77 v79).bind fun d83 => some d83) else none) else none
set_option maxRecDepth 100000 in
set_option maxHeartbeats 4000000 in
theorem sX2_copyFrom (C : sk_C) (l : Launch) {S : sk_S} {d : sk_D} {p0 : Nat} {p1 : Nat} {dd : sk_D} (hf : fX2_copyFrom S d p0 p1 = some dd) : sk_Met C l 2 yX2_copyFrom cX2_copyFrom 2 none [.ref p0, .ref p1] S d none S dd := by
  refine sk_Met.of (by decide) (Nat.le_of_ble_eq_true rfl) (Nat.le_refl _) (Nat.le_refl _) (fun X K0 hX => ?_)
  have K : sk_Ok X C cX2_copyFrom 2 RX2 "copyFrom" none 2 l none S dd := K0
  have R1 : X.2.2.2.2.2.2.2.2.2.2.2.1 ≤ S.1.1 ∧ X.2.2.2.2.2.2.2.2.2.2.2.2 ≤ S.1.2 := by rw [hX]; exact ⟨Nat.le_refl _, Nat.le_refl _⟩
  have R2 : S.1.1 ≤ S.1.1 ∧ S.1.2 ≤ S.1.2 := ⟨Nat.le_refl _, Nat.le_refl _⟩
  show sk_G X C 2 S d 0 [(0, .ref p0), (1, .ref p1)] []
  unfold fX2_copyFrom at hf
  refine sk_aload_n K dX2_copyFrom_0 rfl 0 rfl ?_
  refine sk_aload_n K dX2_copyFrom_1 rfl 1 rfl ?_
  obtain ⟨v1, e2, hf⟩ := sk_ob hf
  refine sk_getI K dX2_copyFrom_2 fl_X2_9 rfl e2 ?_
  obtain ⟨d3, e4, hf⟩ := sk_ob hf
  refine sk_putI d3 K dX2_copyFrom_5 fl_X2_9 rfl rfl rfl e4 ?_
  refine sk_aload_n K dX2_copyFrom_8 rfl 0 rfl ?_
  refine sk_aload_n K dX2_copyFrom_9 rfl 1 rfl ?_
  obtain ⟨v5, e6, hf⟩ := sk_ob hf
  refine sk_getI K dX2_copyFrom_10 fl_X2_15 rfl e6 ?_
  obtain ⟨d7, e8, hf⟩ := sk_ob hf
  refine sk_putI d7 K dX2_copyFrom_13 fl_X2_15 rfl rfl rfl e8 ?_
  refine sk_aload_n K dX2_copyFrom_16 rfl 0 rfl ?_
  refine sk_aload_n K dX2_copyFrom_17 rfl 1 rfl ?_
  obtain ⟨v9, e10, hf⟩ := sk_ob hf
  refine sk_getI K dX2_copyFrom_18 fl_X2_18 rfl e10 ?_
  obtain ⟨d11, e12, hf⟩ := sk_ob hf
  refine sk_putI d11 K dX2_copyFrom_21 fl_X2_18 rfl rfl rfl e12 ?_
  refine sk_aload_n K dX2_copyFrom_24 rfl 0 rfl ?_
  refine sk_aload_n K dX2_copyFrom_25 rfl 1 rfl ?_
  obtain ⟨v13, e14, hf⟩ := sk_ob hf
  refine sk_getI K dX2_copyFrom_26 fl_X2_21 rfl e14 ?_
  obtain ⟨d15, e16, hf⟩ := sk_ob hf
  refine sk_putI d15 K dX2_copyFrom_29 fl_X2_21 rfl rfl rfl e16 ?_
  refine sk_aload_n K dX2_copyFrom_32 rfl 0 rfl ?_
  refine sk_aload_n K dX2_copyFrom_33 rfl 1 rfl ?_
  obtain ⟨v17, e18, hf⟩ := sk_ob hf
  refine sk_getI K dX2_copyFrom_34 fl_X2_24 rfl e18 ?_
  obtain ⟨d19, e20, hf⟩ := sk_ob hf
  refine sk_putI d19 K dX2_copyFrom_37 fl_X2_24 rfl rfl rfl e20 ?_
  refine sk_aload_n K dX2_copyFrom_40 rfl 1 rfl ?_
  obtain ⟨v21, e22, hf⟩ := sk_ob hf
  refine sk_getR K dX2_copyFrom_41 fl_X2_27 rfl e22 ?_
  refine sk_iconst (0 : Int32) K dX2_copyFrom_44 (by decide) ?_
  refine sk_aload_n K dX2_copyFrom_45 rfl 0 rfl ?_
  obtain ⟨v23, e24, hf⟩ := sk_ob hf
  refine sk_getR K dX2_copyFrom_46 fl_X2_27 rfl e24 ?_
  refine sk_iconst (0 : Int32) K dX2_copyFrom_49 (by decide) ?_
  refine sk_bipush (8 : Int32) K dX2_copyFrom_50 (by decide) ?_
  obtain ⟨d25, e26, hf⟩ := sk_ob hf
  refine sk_copy d25 K dX2_copyFrom_52 qw_732 qw_734 qw_733 qw_143 (by decide) (Nat.le_of_ble_eq_true rfl) e26 ?_
  refine sk_aload_n K dX2_copyFrom_55 rfl 1 rfl ?_
  obtain ⟨v27, e28, hf⟩ := sk_ob hf
  refine sk_getR K dX2_copyFrom_56 fl_X2_31 rfl e28 ?_
  refine sk_iconst (0 : Int32) K dX2_copyFrom_59 (by decide) ?_
  refine sk_aload_n K dX2_copyFrom_60 rfl 0 rfl ?_
  obtain ⟨v29, e30, hf⟩ := sk_ob hf
  refine sk_getR K dX2_copyFrom_61 fl_X2_31 rfl e30 ?_
  refine sk_iconst (0 : Int32) K dX2_copyFrom_64 (by decide) ?_
  refine sk_bipush (8 : Int32) K dX2_copyFrom_65 (by decide) ?_
  obtain ⟨d31, e32, hf⟩ := sk_ob hf
  refine sk_copy d31 K dX2_copyFrom_67 qw_732 qw_734 qw_733 qw_143 (by decide) (Nat.le_of_ble_eq_true rfl) e32 ?_
  refine sk_aload_n K dX2_copyFrom_70 rfl 1 rfl ?_
  obtain ⟨v33, e34, hf⟩ := sk_ob hf
  refine sk_getR K dX2_copyFrom_71 fl_X2_34 rfl e34 ?_
  refine sk_iconst (0 : Int32) K dX2_copyFrom_74 (by decide) ?_
  refine sk_aload_n K dX2_copyFrom_75 rfl 0 rfl ?_
  obtain ⟨v35, e36, hf⟩ := sk_ob hf
  refine sk_getR K dX2_copyFrom_76 fl_X2_34 rfl e36 ?_
  refine sk_iconst (0 : Int32) K dX2_copyFrom_79 (by decide) ?_
  refine sk_bipush (8 : Int32) K dX2_copyFrom_80 (by decide) ?_
  obtain ⟨d37, e38, hf⟩ := sk_ob hf
  refine sk_copy d37 K dX2_copyFrom_82 qw_732 qw_734 qw_733 qw_143 (by decide) (Nat.le_of_ble_eq_true rfl) e38 ?_
  refine sk_aload_n K dX2_copyFrom_85 rfl 1 rfl ?_
  obtain ⟨v39, e40, hf⟩ := sk_ob hf
  refine sk_getR K dX2_copyFrom_86 fl_X2_37 rfl e40 ?_
  refine sk_iconst (0 : Int32) K dX2_copyFrom_89 (by decide) ?_
  refine sk_aload_n K dX2_copyFrom_90 rfl 0 rfl ?_
  obtain ⟨v41, e42, hf⟩ := sk_ob hf
  refine sk_getR K dX2_copyFrom_91 fl_X2_37 rfl e42 ?_
  refine sk_iconst (0 : Int32) K dX2_copyFrom_94 (by decide) ?_
  refine sk_bipush (8 : Int32) K dX2_copyFrom_95 (by decide) ?_
  obtain ⟨d43, e44, hf⟩ := sk_ob hf
  refine sk_copy d43 K dX2_copyFrom_97 qw_732 qw_734 qw_733 qw_143 (by decide) (Nat.le_of_ble_eq_true rfl) e44 ?_
  refine sk_aload_n K dX2_copyFrom_100 rfl 1 rfl ?_
  obtain ⟨v45, e46, hf⟩ := sk_ob hf
  refine sk_getR K dX2_copyFrom_101 fl_X2_40 rfl e46 ?_
  refine sk_iconst (0 : Int32) K dX2_copyFrom_104 (by decide) ?_
  refine sk_aload_n K dX2_copyFrom_105 rfl 0 rfl ?_
  obtain ⟨v47, e48, hf⟩ := sk_ob hf
  refine sk_getR K dX2_copyFrom_106 fl_X2_40 rfl e48 ?_
  refine sk_iconst (0 : Int32) K dX2_copyFrom_109 (by decide) ?_
  refine sk_bipush (8 : Int32) K dX2_copyFrom_110 (by decide) ?_
  obtain ⟨d49, e50, hf⟩ := sk_ob hf
  refine sk_copy d49 K dX2_copyFrom_112 qw_732 qw_734 qw_733 qw_143 (by decide) (Nat.le_of_ble_eq_true rfl) e50 ?_
  refine sk_aload_n K dX2_copyFrom_115 rfl 1 rfl ?_
  obtain ⟨v51, e52, hf⟩ := sk_ob hf
  refine sk_getR K dX2_copyFrom_116 fl_X2_43 rfl e52 ?_
  refine sk_iconst (0 : Int32) K dX2_copyFrom_119 (by decide) ?_
  refine sk_aload_n K dX2_copyFrom_120 rfl 0 rfl ?_
  obtain ⟨v53, e54, hf⟩ := sk_ob hf
  refine sk_getR K dX2_copyFrom_121 fl_X2_43 rfl e54 ?_
  refine sk_iconst (0 : Int32) K dX2_copyFrom_124 (by decide) ?_
  refine sk_bipush (8 : Int32) K dX2_copyFrom_125 (by decide) ?_
  obtain ⟨d55, e56, hf⟩ := sk_ob hf
  refine sk_copy d55 K dX2_copyFrom_127 qw_732 qw_734 qw_733 qw_143 (by decide) (Nat.le_of_ble_eq_true rfl) e56 ?_
  refine sk_aload_n K dX2_copyFrom_130 rfl 1 rfl ?_
  obtain ⟨v57, e58, hf⟩ := sk_ob hf
  refine sk_getR K dX2_copyFrom_131 fl_X2_46 rfl e58 ?_
  refine sk_iconst (0 : Int32) K dX2_copyFrom_134 (by decide) ?_
  refine sk_aload_n K dX2_copyFrom_135 rfl 0 rfl ?_
  obtain ⟨v59, e60, hf⟩ := sk_ob hf
  refine sk_getR K dX2_copyFrom_136 fl_X2_46 rfl e60 ?_
  refine sk_iconst (0 : Int32) K dX2_copyFrom_139 (by decide) ?_
  refine sk_bipush (8 : Int32) K dX2_copyFrom_140 (by decide) ?_
  obtain ⟨d61, e62, hf⟩ := sk_ob hf
  refine sk_copy d61 K dX2_copyFrom_142 qw_732 qw_734 qw_733 qw_143 (by decide) (Nat.le_of_ble_eq_true rfl) e62 ?_
  refine sk_aload_n K dX2_copyFrom_145 rfl 1 rfl ?_
  obtain ⟨v63, e64, hf⟩ := sk_ob hf
  refine sk_getR K dX2_copyFrom_146 fl_X2_49 rfl e64 ?_
  refine sk_iconst (0 : Int32) K dX2_copyFrom_149 (by decide) ?_
  refine sk_aload_n K dX2_copyFrom_150 rfl 0 rfl ?_
  obtain ⟨v65, e66, hf⟩ := sk_ob hf
  refine sk_getR K dX2_copyFrom_151 fl_X2_49 rfl e66 ?_
  refine sk_iconst (0 : Int32) K dX2_copyFrom_154 (by decide) ?_
  refine sk_bipush (8 : Int32) K dX2_copyFrom_155 (by decide) ?_
  obtain ⟨d67, e68, hf⟩ := sk_ob hf
  refine sk_copy d67 K dX2_copyFrom_157 qw_732 qw_734 qw_733 qw_143 (by decide) (Nat.le_of_ble_eq_true rfl) e68 ?_
  refine sk_aload_n K dX2_copyFrom_160 rfl 0 rfl ?_
  obtain ⟨v69, e70, hf⟩ := sk_ob hf
  refine sk_getR K dX2_copyFrom_161 fl_X2_55 rfl e70 ?_
  refine sk_aload_n K dX2_copyFrom_164 rfl 1 rfl ?_
  obtain ⟨v71, e72, hf⟩ := sk_ob hf
  refine sk_getR K dX2_copyFrom_165 fl_X2_55 rfl e72 ?_
  obtain ⟨h76, hf⟩ := sk_ib hf
  obtain ⟨d75, e74, hf⟩ := sk_ob hf
  refine sk_callV (As := [.ref v71]) (st := []) K dX2_copyFrom_168 cl_X2_71 h76 (sX1_copyFrom C l e74) (by decide) rfl rfl (Nat.le_of_ble_eq_true rfl) R1 R2 ?_
  refine sk_aload_n K dX2_copyFrom_171 rfl 0 rfl ?_
  obtain ⟨v77, e78, hf⟩ := sk_ob hf
  refine sk_getR K dX2_copyFrom_172 fl_X2_59 rfl e78 ?_
  refine sk_aload_n K dX2_copyFrom_175 rfl 1 rfl ?_
  obtain ⟨v79, e80, hf⟩ := sk_ob hf
  refine sk_getR K dX2_copyFrom_176 fl_X2_59 rfl e80 ?_
  obtain ⟨h84, hf⟩ := sk_ib hf
  obtain ⟨d83, e82, hf⟩ := sk_ob hf
  refine sk_callV (As := [.ref v79]) (st := []) K dX2_copyFrom_179 cl_X2_71 h84 (sX1_copyFrom C l e82) (by decide) rfl rfl (Nat.le_of_ble_eq_true rfl) R1 R2 ?_
  have hR85 : d83 = dd := Option.some.inj hf
  exact sk_vret K dX2_copyFrom_182 rfl rfl rfl hR85
noncomputable def fX2_addDoing (S : sk_S) (d : sk_D) (p0 : Nat) : Option (sk_D) :=
  (sk_gI S d p0 2 1).bind fun v1 => if (8 : Int32) ≤ v1 then (some d) else ((sk_gR S p0 2 5).bind fun v5 => (sk_gI S d p0 2 1).bind fun v7 => (sk_sI S d v5 20 v7 (1 : Int32)).bind fun d9 => (sk_gR S p0 2 6).bind fun v11 => (sk_gI S d9 p0 2 1).bind fun v13 => (sk_sI S d9 v11 20 v13 (0 : Int32)).bind fun d15 => (sk_gR S p0 2 7).bind fun v17 => (sk_gI S d15 p0 2 1).bind fun v19 => (sk_sI S d15 v17 20 v19 (5 : Int32)).bind fun d21 => (sk_gR S p0 2 8).bind fun v23 => (sk_gI S d21 p0 2 1).bind fun v25 => (sk_sI S d21 v23 20 v25 (0 : Int32)).bind fun d27 => (sk_gR S p0 2 9).bind fun v29 => (sk_gI S d27 p0 2 1).bind fun v31 => (sk_sI S d27 v29 20 v31 (1 : Int32)).bind fun d33 => (sk_gR S p0 2 10).bind fun v35 => (sk_gI S d33 p0 2 1).bind fun v37 => (sk_sI S d33 v35 20 v37 (0 : Int32)).bind fun d39 => (sk_gR S p0 2 11).bind fun v41 => (sk_gI S d39 p0 2 1).bind fun v43 => (sk_sI S d39 v41 20 v43 (0 : Int32)).bind fun d45 => (sk_gI S d45 p0 2 1).bind fun v47 => (sk_pI S d45 p0 2 1 (v47 + (1 : Int32))).bind fun d49 => some d49)
set_option maxRecDepth 100000 in
set_option maxHeartbeats 4000000 in
theorem sX2_addDoing (C : sk_C) (l : Launch) {S : sk_S} {d : sk_D} {p0 : Nat} {dd : sk_D} (hf : fX2_addDoing S d p0 = some dd) : sk_Met C l 0 yX2_addDoing cX2_addDoing 1 none [.ref p0] S d none S dd := by
  refine sk_Met.of (by decide) (Nat.le_of_ble_eq_true rfl) (Nat.le_refl _) (Nat.le_refl _) (fun X K0 hX => ?_)
  have K : sk_Ok X C cX2_addDoing 1 RX2 "addDoing" none 0 l none S dd := K0
  have R1 : X.2.2.2.2.2.2.2.2.2.2.2.1 ≤ S.1.1 ∧ X.2.2.2.2.2.2.2.2.2.2.2.2 ≤ S.1.2 := by rw [hX]; exact ⟨Nat.le_refl _, Nat.le_refl _⟩
  have R2 : S.1.1 ≤ S.1.1 ∧ S.1.2 ≤ S.1.2 := ⟨Nat.le_refl _, Nat.le_refl _⟩
  show sk_G X C 1 S d 0 [(0, .ref p0)] []
  unfold fX2_addDoing at hf
  refine sk_aload_n K dX2_addDoing_0 rfl 0 rfl ?_
  obtain ⟨v1, e2, hf⟩ := sk_ob hf
  refine sk_getI K dX2_addDoing_1 fl_X2_15 rfl e2 ?_
  refine sk_bipush (8 : Int32) K dX2_addDoing_4 (by decide) ?_
  refine sk_icmp_ge 89 K dX2_addDoing_6 (by decide) (fun h3 => ?_) (fun h3 => ?_)
  · rw [if_pos h3] at hf
    have hR4 : d = dd := Option.some.inj hf
    exact sk_vret K dX2_addDoing_89 rfl rfl rfl hR4
  · rw [if_neg h3] at hf
    refine sk_aload_n K dX2_addDoing_9 rfl 0 rfl ?_
    obtain ⟨v5, e6, hf⟩ := sk_ob hf
    refine sk_getR K dX2_addDoing_10 fl_X2_27 rfl e6 ?_
    refine sk_aload_n K dX2_addDoing_13 rfl 0 rfl ?_
    obtain ⟨v7, e8, hf⟩ := sk_ob hf
    refine sk_getI K dX2_addDoing_14 fl_X2_15 rfl e8 ?_
    refine sk_iconst (1 : Int32) K dX2_addDoing_17 (by decide) ?_
    obtain ⟨d9, e10, hf⟩ := sk_ob hf
    refine sk_ast20 d9 K dX2_addDoing_18 e10 ?_
    refine sk_aload_n K dX2_addDoing_19 rfl 0 rfl ?_
    obtain ⟨v11, e12, hf⟩ := sk_ob hf
    refine sk_getR K dX2_addDoing_20 fl_X2_31 rfl e12 ?_
    refine sk_aload_n K dX2_addDoing_23 rfl 0 rfl ?_
    obtain ⟨v13, e14, hf⟩ := sk_ob hf
    refine sk_getI K dX2_addDoing_24 fl_X2_15 rfl e14 ?_
    refine sk_iconst (0 : Int32) K dX2_addDoing_27 (by decide) ?_
    obtain ⟨d15, e16, hf⟩ := sk_ob hf
    refine sk_ast20 d15 K dX2_addDoing_28 e16 ?_
    refine sk_aload_n K dX2_addDoing_29 rfl 0 rfl ?_
    obtain ⟨v17, e18, hf⟩ := sk_ob hf
    refine sk_getR K dX2_addDoing_30 fl_X2_34 rfl e18 ?_
    refine sk_aload_n K dX2_addDoing_33 rfl 0 rfl ?_
    obtain ⟨v19, e20, hf⟩ := sk_ob hf
    refine sk_getI K dX2_addDoing_34 fl_X2_15 rfl e20 ?_
    refine sk_iconst (5 : Int32) K dX2_addDoing_37 (by decide) ?_
    obtain ⟨d21, e22, hf⟩ := sk_ob hf
    refine sk_ast20 d21 K dX2_addDoing_38 e22 ?_
    refine sk_aload_n K dX2_addDoing_39 rfl 0 rfl ?_
    obtain ⟨v23, e24, hf⟩ := sk_ob hf
    refine sk_getR K dX2_addDoing_40 fl_X2_37 rfl e24 ?_
    refine sk_aload_n K dX2_addDoing_43 rfl 0 rfl ?_
    obtain ⟨v25, e26, hf⟩ := sk_ob hf
    refine sk_getI K dX2_addDoing_44 fl_X2_15 rfl e26 ?_
    refine sk_iconst (0 : Int32) K dX2_addDoing_47 (by decide) ?_
    obtain ⟨d27, e28, hf⟩ := sk_ob hf
    refine sk_ast20 d27 K dX2_addDoing_48 e28 ?_
    refine sk_aload_n K dX2_addDoing_49 rfl 0 rfl ?_
    obtain ⟨v29, e30, hf⟩ := sk_ob hf
    refine sk_getR K dX2_addDoing_50 fl_X2_40 rfl e30 ?_
    refine sk_aload_n K dX2_addDoing_53 rfl 0 rfl ?_
    obtain ⟨v31, e32, hf⟩ := sk_ob hf
    refine sk_getI K dX2_addDoing_54 fl_X2_15 rfl e32 ?_
    refine sk_iconst (1 : Int32) K dX2_addDoing_57 (by decide) ?_
    obtain ⟨d33, e34, hf⟩ := sk_ob hf
    refine sk_ast20 d33 K dX2_addDoing_58 e34 ?_
    refine sk_aload_n K dX2_addDoing_59 rfl 0 rfl ?_
    obtain ⟨v35, e36, hf⟩ := sk_ob hf
    refine sk_getR K dX2_addDoing_60 fl_X2_43 rfl e36 ?_
    refine sk_aload_n K dX2_addDoing_63 rfl 0 rfl ?_
    obtain ⟨v37, e38, hf⟩ := sk_ob hf
    refine sk_getI K dX2_addDoing_64 fl_X2_15 rfl e38 ?_
    refine sk_iconst (0 : Int32) K dX2_addDoing_67 (by decide) ?_
    obtain ⟨d39, e40, hf⟩ := sk_ob hf
    refine sk_ast20 d39 K dX2_addDoing_68 e40 ?_
    refine sk_aload_n K dX2_addDoing_69 rfl 0 rfl ?_
    obtain ⟨v41, e42, hf⟩ := sk_ob hf
    refine sk_getR K dX2_addDoing_70 fl_X2_46 rfl e42 ?_
    refine sk_aload_n K dX2_addDoing_73 rfl 0 rfl ?_
    obtain ⟨v43, e44, hf⟩ := sk_ob hf
    refine sk_getI K dX2_addDoing_74 fl_X2_15 rfl e44 ?_
    refine sk_iconst (0 : Int32) K dX2_addDoing_77 (by decide) ?_
    obtain ⟨d45, e46, hf⟩ := sk_ob hf
    refine sk_ast20 d45 K dX2_addDoing_78 e46 ?_
    refine sk_aload_n K dX2_addDoing_79 rfl 0 rfl ?_
    refine sk_dup K dX2_addDoing_80 rfl ?_
    obtain ⟨v47, e48, hf⟩ := sk_ob hf
    refine sk_getI K dX2_addDoing_81 fl_X2_15 rfl e48 ?_
    refine sk_iconst (1 : Int32) K dX2_addDoing_84 (by decide) ?_
    refine sk_iadd K dX2_addDoing_85 ?_
    obtain ⟨d49, e50, hf⟩ := sk_ob hf
    refine sk_putI d49 K dX2_addDoing_86 fl_X2_15 rfl rfl rfl e50 ?_
    have hR51 : d49 = dd := Option.some.inj hf
    exact sk_vret K dX2_addDoing_89 rfl rfl rfl hR51
noncomputable def fX2_addDoor (S : sk_S) (d : sk_D) (p0 : Nat) (p1 : Int32) : Option (sk_D) :=
  (sk_gI S d p0 2 2).bind fun v1 => if (8 : Int32) ≤ v1 then (some d) else ((sk_gR S p0 2 12).bind fun v5 => (sk_gI S d p0 2 2).bind fun v7 => (sk_sI S d v5 20 v7 p1).bind fun d9 => (sk_gI S d9 p0 2 2).bind fun v11 => (sk_pI S d9 p0 2 2 (v11 + (1 : Int32))).bind fun d13 => some d13)
set_option maxRecDepth 100000 in
set_option maxHeartbeats 4000000 in
theorem sX2_addDoor (C : sk_C) (l : Launch) {S : sk_S} {d : sk_D} {p0 : Nat} {p1 : Int32} {dd : sk_D} (hf : fX2_addDoor S d p0 p1 = some dd) : sk_Met C l 0 yX2_addDoor cX2_addDoor 2 none [.ref p0, .int p1] S d none S dd := by
  refine sk_Met.of (by decide) (Nat.le_of_ble_eq_true rfl) (Nat.le_refl _) (Nat.le_refl _) (fun X K0 hX => ?_)
  have K : sk_Ok X C cX2_addDoor 2 RX2 "addDoor" none 0 l none S dd := K0
  have R1 : X.2.2.2.2.2.2.2.2.2.2.2.1 ≤ S.1.1 ∧ X.2.2.2.2.2.2.2.2.2.2.2.2 ≤ S.1.2 := by rw [hX]; exact ⟨Nat.le_refl _, Nat.le_refl _⟩
  have R2 : S.1.1 ≤ S.1.1 ∧ S.1.2 ≤ S.1.2 := ⟨Nat.le_refl _, Nat.le_refl _⟩
  show sk_G X C 2 S d 0 [(0, .ref p0), (1, .int p1)] []
  unfold fX2_addDoor at hf
  refine sk_aload_n K dX2_addDoor_0 rfl 0 rfl ?_
  obtain ⟨v1, e2, hf⟩ := sk_ob hf
  refine sk_getI K dX2_addDoor_1 fl_X2_18 rfl e2 ?_
  refine sk_bipush (8 : Int32) K dX2_addDoor_4 (by decide) ?_
  refine sk_icmp_ge 29 K dX2_addDoor_6 (by decide) (fun h3 => ?_) (fun h3 => ?_)
  · rw [if_pos h3] at hf
    have hR4 : d = dd := Option.some.inj hf
    exact sk_vret K dX2_addDoor_29 rfl rfl rfl hR4
  · rw [if_neg h3] at hf
    refine sk_aload_n K dX2_addDoor_9 rfl 0 rfl ?_
    obtain ⟨v5, e6, hf⟩ := sk_ob hf
    refine sk_getR K dX2_addDoor_10 fl_X2_49 rfl e6 ?_
    refine sk_aload_n K dX2_addDoor_13 rfl 0 rfl ?_
    obtain ⟨v7, e8, hf⟩ := sk_ob hf
    refine sk_getI K dX2_addDoor_14 fl_X2_18 rfl e8 ?_
    refine sk_iload_n K dX2_addDoor_17 rfl 1 rfl ?_
    obtain ⟨d9, e10, hf⟩ := sk_ob hf
    refine sk_ast20 d9 K dX2_addDoor_18 e10 ?_
    refine sk_aload_n K dX2_addDoor_19 rfl 0 rfl ?_
    refine sk_dup K dX2_addDoor_20 rfl ?_
    obtain ⟨v11, e12, hf⟩ := sk_ob hf
    refine sk_getI K dX2_addDoor_21 fl_X2_18 rfl e12 ?_
    refine sk_iconst (1 : Int32) K dX2_addDoor_24 (by decide) ?_
    refine sk_iadd K dX2_addDoor_25 ?_
    obtain ⟨d13, e14, hf⟩ := sk_ob hf
    refine sk_putI d13 K dX2_addDoor_26 fl_X2_18 rfl rfl rfl e14 ?_
    have hR15 : d13 = dd := Option.some.inj hf
    exact sk_vret K dX2_addDoor_29 rfl rfl rfl hR15
noncomputable def fX2_has (S : sk_S) (d : sk_D) (p0 : Nat) (p1 : Int32) : Option (Bool) :=
  if p1 < 0 then (some false) else ((sk_gI S d p0 2 1).bind fun v3 => if v3 ≤ p1 then (some false) else (if (8 : Int32) ≤ p1 then (some false) else (some true)))
set_option maxRecDepth 100000 in
set_option maxHeartbeats 4000000 in
theorem sX2_has (C : sk_C) (l : Launch) {S : sk_S} {d : sk_D} {p0 : Nat} {p1 : Int32} {rr : Bool} (hf : fX2_has S d p0 p1 = some rr) : sk_Met C l 0 yX2_has cX2_has 2 (some .boolean) [.ref p0, .int p1] S d (some (.int (sk_b rr))) S d := by
  refine sk_Met.of (by decide) (Nat.le_of_ble_eq_true rfl) (Nat.le_refl _) (Nat.le_refl _) (fun X K0 hX => ?_)
  have K : sk_Ok X C cX2_has 2 RX2 "has" (some .boolean) 0 l (some (.int (sk_b rr))) S d := K0
  have R1 : X.2.2.2.2.2.2.2.2.2.2.2.1 ≤ S.1.1 ∧ X.2.2.2.2.2.2.2.2.2.2.2.2 ≤ S.1.2 := by rw [hX]; exact ⟨Nat.le_refl _, Nat.le_refl _⟩
  have R2 : S.1.1 ≤ S.1.1 ∧ S.1.2 ≤ S.1.2 := ⟨Nat.le_refl _, Nat.le_refl _⟩
  show sk_G X C 2 S d 0 [(0, .ref p0), (1, .int p1)] []
  unfold fX2_has at hf
  refine sk_iload_n K dX2_has_0 rfl 1 rfl ?_
  refine sk_if_lt 22 K dX2_has_1 (by decide) (fun h1 => ?_) (fun h1 => ?_)
  · rw [if_pos h1] at hf
    refine sk_iconst (0 : Int32) K dX2_has_22 (by decide) ?_
    have hR2 : false = rr := Option.some.inj hf
    exact sk_zret (x := false) K dX2_has_23 rfl rfl hR2 rfl rfl
  · rw [if_neg h1] at hf
    refine sk_iload_n K dX2_has_4 rfl 1 rfl ?_
    refine sk_aload_n K dX2_has_5 rfl 0 rfl ?_
    obtain ⟨v3, e4, hf⟩ := sk_ob hf
    refine sk_getI K dX2_has_6 fl_X2_15 rfl e4 ?_
    refine sk_icmp_ge 22 K dX2_has_9 (by decide) (fun h5 => ?_) (fun h5 => ?_)
    · rw [if_pos h5] at hf
      refine sk_iconst (0 : Int32) K dX2_has_22 (by decide) ?_
      have hR6 : false = rr := Option.some.inj hf
      exact sk_zret (x := false) K dX2_has_23 rfl rfl hR6 rfl rfl
    · rw [if_neg h5] at hf
      refine sk_iload_n K dX2_has_12 rfl 1 rfl ?_
      refine sk_bipush (8 : Int32) K dX2_has_13 (by decide) ?_
      refine sk_icmp_ge 22 K dX2_has_15 (by decide) (fun h7 => ?_) (fun h7 => ?_)
      · rw [if_pos h7] at hf
        refine sk_iconst (0 : Int32) K dX2_has_22 (by decide) ?_
        have hR8 : false = rr := Option.some.inj hf
        exact sk_zret (x := false) K dX2_has_23 rfl rfl hR8 rfl rfl
      · rw [if_neg h7] at hf
        refine sk_iconst (1 : Int32) K dX2_has_18 (by decide) ?_
        refine sk_goto 23 K dX2_has_19 (by decide) ?_
        have hR9 : true = rr := Option.some.inj hf
        exact sk_zret (x := true) K dX2_has_23 rfl rfl hR9 rfl rfl
noncomputable def fX2_addClash (S : sk_S) (d : sk_D) (p0 : Nat) (p1 : Int32) (p2 : Int32) : Option (sk_D) :=
  if S.2.1 p0 = (2, 0) then ((fX2_has S d p0 p1).bind fun v1 => if v1 = true then (if S.2.1 p0 = (2, 0) then ((fX2_has S d p0 p2).bind fun v6 => if v6 = true then ((sk_gR S p0 2 11).bind fun v11 => (sk_lI S d v11 20 p1).bind fun v13 => (sk_sI S d v11 20 p1 (v13 ||| ((1 : Int32) <<< (p2 &&& 31)))).bind fun d15 => (sk_gR S p0 2 11).bind fun v17 => (sk_lI S d15 v17 20 p2).bind fun v19 => (sk_sI S d15 v17 20 p2 (v19 ||| ((1 : Int32) <<< (p1 &&& 31)))).bind fun d21 => some d21) else (some d)) else none) else (some d)) else none
set_option maxRecDepth 100000 in
set_option maxHeartbeats 4000000 in
theorem sX2_addClash (C : sk_C) (l : Launch) {S : sk_S} {d : sk_D} {p0 : Nat} {p1 : Int32} {p2 : Int32} {dd : sk_D} (hf : fX2_addClash S d p0 p1 p2 = some dd) : sk_Met C l 1 yX2_addClash cX2_addClash 3 none [.ref p0, .int p1, .int p2] S d none S dd := by
  refine sk_Met.of (by decide) (Nat.le_of_ble_eq_true rfl) (Nat.le_refl _) (Nat.le_refl _) (fun X K0 hX => ?_)
  have K : sk_Ok X C cX2_addClash 3 RX2 "addClash" none 1 l none S dd := K0
  have R1 : X.2.2.2.2.2.2.2.2.2.2.2.1 ≤ S.1.1 ∧ X.2.2.2.2.2.2.2.2.2.2.2.2 ≤ S.1.2 := by rw [hX]; exact ⟨Nat.le_refl _, Nat.le_refl _⟩
  have R2 : S.1.1 ≤ S.1.1 ∧ S.1.2 ≤ S.1.2 := ⟨Nat.le_refl _, Nat.le_refl _⟩
  show sk_G X C 3 S d 0 [(0, .ref p0), (1, .int p1), (2, .int p2)] []
  unfold fX2_addClash at hf
  refine sk_aload_n K dX2_addClash_0 rfl 0 rfl ?_
  refine sk_iload_n K dX2_addClash_1 rfl 1 rfl ?_
  obtain ⟨h3, hf⟩ := sk_ib hf
  obtain ⟨v1, e2, hf⟩ := sk_ob hf
  refine sk_callV (As := [.int p1]) (st := []) K dX2_addClash_2 cl_X2_75 h3 (sX2_has C l e2) (by decide) rfl rfl (Nat.le_of_ble_eq_true rfl) R1 R2 ?_
  refine sk_ifeqB 40 K dX2_addClash_5 (by decide) (fun h4 => ?_) (fun h4 => ?_)
  · rw [if_neg h4] at hf
    have hR5 : d = dd := Option.some.inj hf
    exact sk_vret K dX2_addClash_40 rfl rfl rfl hR5
  · rw [if_pos h4] at hf
    refine sk_aload_n K dX2_addClash_8 rfl 0 rfl ?_
    refine sk_iload_n K dX2_addClash_9 rfl 2 rfl ?_
    obtain ⟨h8, hf⟩ := sk_ib hf
    obtain ⟨v6, e7, hf⟩ := sk_ob hf
    refine sk_callV (As := [.int p2]) (st := []) K dX2_addClash_10 cl_X2_75 h8 (sX2_has C l e7) (by decide) rfl rfl (Nat.le_of_ble_eq_true rfl) R1 R2 ?_
    refine sk_ifeqB 40 K dX2_addClash_13 (by decide) (fun h9 => ?_) (fun h9 => ?_)
    · rw [if_neg h9] at hf
      have hR10 : d = dd := Option.some.inj hf
      exact sk_vret K dX2_addClash_40 rfl rfl rfl hR10
    · rw [if_pos h9] at hf
      refine sk_aload_n K dX2_addClash_16 rfl 0 rfl ?_
      obtain ⟨v11, e12, hf⟩ := sk_ob hf
      refine sk_getR K dX2_addClash_17 fl_X2_46 rfl e12 ?_
      refine sk_iload_n K dX2_addClash_20 rfl 1 rfl ?_
      refine sk_dup2 K dX2_addClash_21 rfl rfl ?_
      obtain ⟨v13, e14, hf⟩ := sk_ob hf
      refine sk_ald20 K dX2_addClash_22 e14 ?_
      refine sk_iconst (1 : Int32) K dX2_addClash_23 (by decide) ?_
      refine sk_iload_n K dX2_addClash_24 rfl 2 rfl ?_
      refine sk_ishl K dX2_addClash_25 ?_
      refine sk_ior K dX2_addClash_26 ?_
      obtain ⟨d15, e16, hf⟩ := sk_ob hf
      refine sk_ast20 d15 K dX2_addClash_27 e16 ?_
      refine sk_aload_n K dX2_addClash_28 rfl 0 rfl ?_
      obtain ⟨v17, e18, hf⟩ := sk_ob hf
      refine sk_getR K dX2_addClash_29 fl_X2_46 rfl e18 ?_
      refine sk_iload_n K dX2_addClash_32 rfl 2 rfl ?_
      refine sk_dup2 K dX2_addClash_33 rfl rfl ?_
      obtain ⟨v19, e20, hf⟩ := sk_ob hf
      refine sk_ald20 K dX2_addClash_34 e20 ?_
      refine sk_iconst (1 : Int32) K dX2_addClash_35 (by decide) ?_
      refine sk_iload_n K dX2_addClash_36 rfl 1 rfl ?_
      refine sk_ishl K dX2_addClash_37 ?_
      refine sk_ior K dX2_addClash_38 ?_
      obtain ⟨d21, e22, hf⟩ := sk_ob hf
      refine sk_ast20 d21 K dX2_addClash_39 e22 ?_
      have hR23 : d21 = dd := Option.some.inj hf
      exact sk_vret K dX2_addClash_40 rfl rfl rfl hR23
noncomputable def fX2_hasAll (S : sk_S) (d : sk_D) (p0 : Nat) (p1 : Int32) : Option (Bool) :=
  (sk_gI S d p0 2 1).bind fun v1 => if (p1 &&& ((-1 : Int32) <<< (v1 &&& 31))) = 0 then (some true) else (some false)
set_option maxRecDepth 100000 in
set_option maxHeartbeats 4000000 in
theorem sX2_hasAll (C : sk_C) (l : Launch) {S : sk_S} {d : sk_D} {p0 : Nat} {p1 : Int32} {rr : Bool} (hf : fX2_hasAll S d p0 p1 = some rr) : sk_Met C l 0 yX2_hasAll cX2_hasAll 2 (some .boolean) [.ref p0, .int p1] S d (some (.int (sk_b rr))) S d := by
  refine sk_Met.of (by decide) (Nat.le_of_ble_eq_true rfl) (Nat.le_refl _) (Nat.le_refl _) (fun X K0 hX => ?_)
  have K : sk_Ok X C cX2_hasAll 2 RX2 "hasAll" (some .boolean) 0 l (some (.int (sk_b rr))) S d := K0
  have R1 : X.2.2.2.2.2.2.2.2.2.2.2.1 ≤ S.1.1 ∧ X.2.2.2.2.2.2.2.2.2.2.2.2 ≤ S.1.2 := by rw [hX]; exact ⟨Nat.le_refl _, Nat.le_refl _⟩
  have R2 : S.1.1 ≤ S.1.1 ∧ S.1.2 ≤ S.1.2 := ⟨Nat.le_refl _, Nat.le_refl _⟩
  show sk_G X C 2 S d 0 [(0, .ref p0), (1, .int p1)] []
  unfold fX2_hasAll at hf
  refine sk_iload_n K dX2_hasAll_0 rfl 1 rfl ?_
  refine sk_iconst (-1 : Int32) K dX2_hasAll_1 (by decide) ?_
  refine sk_aload_n K dX2_hasAll_2 rfl 0 rfl ?_
  obtain ⟨v1, e2, hf⟩ := sk_ob hf
  refine sk_getI K dX2_hasAll_3 fl_X2_15 rfl e2 ?_
  refine sk_ishl K dX2_hasAll_6 ?_
  refine sk_iand K dX2_hasAll_7 ?_
  refine sk_if_ne 15 K dX2_hasAll_8 (by decide) (fun h3 => ?_) (fun h3 => ?_)
  · rw [if_neg h3] at hf
    refine sk_iconst (0 : Int32) K dX2_hasAll_15 (by decide) ?_
    have hR4 : false = rr := Option.some.inj hf
    exact sk_zret (x := false) K dX2_hasAll_16 rfl rfl hR4 rfl rfl
  · rw [if_pos h3] at hf
    refine sk_iconst (1 : Int32) K dX2_hasAll_11 (by decide) ?_
    refine sk_goto 16 K dX2_hasAll_12 (by decide) ?_
    have hR5 : true = rr := Option.some.inj hf
    exact sk_zret (x := true) K dX2_hasAll_16 rfl rfl hR5 rfl rfl
noncomputable def fX2_roomLeft_L7 (S : sk_S) (d : sk_D) (p0 : Nat) (p1 : Int32) (s1 : Int32 × Int32) : Option ((Int32 × Int32) ⊕ (Int32)) :=
  (sk_gI S d p0 2 1).bind fun v3 => if v3 ≤ s1.2 then (some (.inr s1.1)) else (if ((p1 >>> (s1.2 &&& 31)) &&& (1 : Int32)) = (1 : Int32) then ((sk_gR S p0 2 5).bind fun v8 => (sk_lI S d v8 20 s1.2).bind fun v10 => some (.inl (s1.1 - v10, s1.2 + 1))) else (some (.inl (s1.1, s1.2 + 1))))
noncomputable def fX2_roomLeft (S : sk_S) (d : sk_D) (p0 : Nat) (p1 : Int32) : Option (Int32) :=
  (sk_gI S d p0 2 0).bind fun v1 => (sk_itr (fX2_roomLeft_L7 S d p0 p1) (v1, (0 : Int32))).bind fun x1 => some x1
set_option maxRecDepth 100000 in
set_option maxHeartbeats 4000000 in
theorem sX2_roomLeft (C : sk_C) (l : Launch) {S : sk_S} {d : sk_D} {p0 : Nat} {p1 : Int32} {rr : Int32} (hf : fX2_roomLeft S d p0 p1 = some rr) : sk_Met C l 0 yX2_roomLeft cX2_roomLeft 4 (some .int) [.ref p0, .int p1] S d (some (.int rr)) S d := by
  refine sk_Met.of (by decide) (Nat.le_of_ble_eq_true rfl) (Nat.le_refl _) (Nat.le_refl _) (fun X K0 hX => ?_)
  have K : sk_Ok X C cX2_roomLeft 4 RX2 "roomLeft" (some .int) 0 l (some (.int rr)) S d := K0
  have R1 : X.2.2.2.2.2.2.2.2.2.2.2.1 ≤ S.1.1 ∧ X.2.2.2.2.2.2.2.2.2.2.2.2 ≤ S.1.2 := by rw [hX]; exact ⟨Nat.le_refl _, Nat.le_refl _⟩
  have R2 : S.1.1 ≤ S.1.1 ∧ S.1.2 ≤ S.1.2 := ⟨Nat.le_refl _, Nat.le_refl _⟩
  show sk_G X C 4 S d 0 [(0, .ref p0), (1, .int p1)] []
  unfold fX2_roomLeft at hf
  refine sk_aload_n K dX2_roomLeft_0 rfl 0 rfl ?_
  obtain ⟨v1, e2, hf⟩ := sk_ob hf
  refine sk_getI K dX2_roomLeft_1 fl_X2_9 rfl e2 ?_
  refine sk_istore_n [(2, .int v1), (0, .ref p0), (1, .int p1)] K dX2_roomLeft_4 rfl (by decide) rfl ?_
  refine sk_iconst (0 : Int32) K dX2_roomLeft_5 (by decide) ?_
  refine sk_istore_n [(3, .int (0 : Int32)), (2, .int v1), (0, .ref p0), (1, .int p1)] K dX2_roomLeft_6 rfl (by decide) rfl ?_
  obtain ⟨x1, he1, hf⟩ := sk_ob hf
  have hret1 : ∀ r, r = x1 → r = rr := by
    intro r hr
    subst hr
    exact Option.some.inj hf
  refine sk_sub [(0, .ref p0), (1, .int p1), (2, .int v1), (3, .int (0 : Int32))] [2, 3, 1, 0] rfl ?_
  refine sk_loop (fun s1 => sk_G X C 4 S d 7 [(0, .ref p0), (1, .int p1), (2, .int s1.1), (3, .int s1.2)] []) he1 (fun s1 o1 hf ih1 hx1 => ?_)
  unfold fX2_roomLeft_L7 at hf
  refine sk_iload_n K dX2_roomLeft_7 rfl 3 rfl ?_
  refine sk_aload_n K dX2_roomLeft_8 rfl 0 rfl ?_
  obtain ⟨v3, e4, hf⟩ := sk_ob hf
  refine sk_getI K dX2_roomLeft_9 fl_X2_15 rfl e4 ?_
  refine sk_icmp_ge 39 K dX2_roomLeft_12 (by decide) (fun h5 => ?_) (fun h5 => ?_)
  · rw [if_pos h5] at hf
    refine sk_iload_n K dX2_roomLeft_39 rfl 2 rfl ?_
    have hR6 : s1.1 = rr := hret1 _ (hx1 _ (Option.some.inj hf).symm)
    exact sk_iret K dX2_roomLeft_40 rfl rfl hR6 rfl rfl
  · rw [if_neg h5] at hf
    refine sk_iload_n K dX2_roomLeft_15 rfl 1 rfl ?_
    refine sk_iload_n K dX2_roomLeft_16 rfl 3 rfl ?_
    refine sk_ishr K dX2_roomLeft_17 ?_
    refine sk_iconst (1 : Int32) K dX2_roomLeft_18 (by decide) ?_
    refine sk_iand K dX2_roomLeft_19 ?_
    refine sk_iconst (1 : Int32) K dX2_roomLeft_20 (by decide) ?_
    refine sk_icmp_ne 33 K dX2_roomLeft_21 (by decide) (fun h7 => ?_) (fun h7 => ?_)
    · rw [if_neg h7] at hf
      refine sk_iinc (s1.2 + 1) [(3, .int (s1.2 + 1)), (0, .ref p0), (1, .int p1), (2, .int s1.1)] K dX2_roomLeft_33 3 rfl rfl (by decide) rfl ?_
      refine sk_goto 7 K dX2_roomLeft_36 (by decide) ?_
      refine sk_sub [(0, .ref p0), (1, .int p1), (2, .int s1.1), (3, .int (s1.2 + 1))] [1, 2, 3, 0] rfl ?_
      have h9 := ih1 _ (Option.some.inj hf).symm
      exact h9
    · rw [if_pos h7] at hf
      refine sk_iload_n K dX2_roomLeft_24 rfl 2 rfl ?_
      refine sk_aload_n K dX2_roomLeft_25 rfl 0 rfl ?_
      obtain ⟨v8, e9, hf⟩ := sk_ob hf
      refine sk_getR K dX2_roomLeft_26 fl_X2_27 rfl e9 ?_
      refine sk_iload_n K dX2_roomLeft_29 rfl 3 rfl ?_
      obtain ⟨v10, e11, hf⟩ := sk_ob hf
      refine sk_ald20 K dX2_roomLeft_30 e11 ?_
      refine sk_isub K dX2_roomLeft_31 ?_
      refine sk_istore_n [(2, .int (s1.1 - v10)), (0, .ref p0), (1, .int p1), (3, .int s1.2)] K dX2_roomLeft_32 rfl (by decide) rfl ?_
      refine sk_iinc (s1.2 + 1) [(3, .int (s1.2 + 1)), (2, .int (s1.1 - v10)), (0, .ref p0), (1, .int p1)] K dX2_roomLeft_33 3 rfl rfl (by decide) rfl ?_
      refine sk_goto 7 K dX2_roomLeft_36 (by decide) ?_
      refine sk_sub [(0, .ref p0), (1, .int p1), (2, .int (s1.1 - v10)), (3, .int (s1.2 + 1))] [2, 3, 1, 0] rfl ?_
      have h9 := ih1 _ (Option.some.inj hf).symm
      exact h9
noncomputable def fX2_needing_L9 (S : sk_S) (d : sk_D) (p0 : Nat) (p2 : Int32) (s1 : Int32 × Int32) : Option ((Int32 × Int32) ⊕ (Int32)) :=
  (sk_gI S d p0 2 1).bind fun v1 => if v1 ≤ s1.2 then (some (.inr s1.1)) else (if ((p2 >>> (s1.2 &&& 31)) &&& (1 : Int32)) = (1 : Int32) then ((sk_gR S p0 2 10).bind fun v6 => (sk_lI S d v6 20 s1.2).bind fun v8 => if (v8 &&& s1.1) = 0 then (some (.inl (s1.1, s1.2 + 1))) else (some (.inl (s1.1 ||| ((1 : Int32) <<< (s1.2 &&& 31)), s1.2 + 1)))) else (some (.inl (s1.1, s1.2 + 1))))
noncomputable def fX2_needing (S : sk_S) (d : sk_D) (p0 : Nat) (p1 : Int32) (p2 : Int32) : Option (Int32) :=
  (sk_itr (fX2_needing_L9 S d p0 p2) ((1 : Int32) <<< (p1 &&& 31), p1 + (1 : Int32))).bind fun x1 => some x1
set_option maxRecDepth 100000 in
set_option maxHeartbeats 4000000 in
theorem sX2_needing (C : sk_C) (l : Launch) {S : sk_S} {d : sk_D} {p0 : Nat} {p1 : Int32} {p2 : Int32} {rr : Int32} (hf : fX2_needing S d p0 p1 p2 = some rr) : sk_Met C l 0 yX2_needing cX2_needing 5 (some .int) [.ref p0, .int p1, .int p2] S d (some (.int rr)) S d := by
  refine sk_Met.of (by decide) (Nat.le_of_ble_eq_true rfl) (Nat.le_refl _) (Nat.le_refl _) (fun X K0 hX => ?_)
  have K : sk_Ok X C cX2_needing 5 RX2 "needing" (some .int) 0 l (some (.int rr)) S d := K0
  have R1 : X.2.2.2.2.2.2.2.2.2.2.2.1 ≤ S.1.1 ∧ X.2.2.2.2.2.2.2.2.2.2.2.2 ≤ S.1.2 := by rw [hX]; exact ⟨Nat.le_refl _, Nat.le_refl _⟩
  have R2 : S.1.1 ≤ S.1.1 ∧ S.1.2 ≤ S.1.2 := ⟨Nat.le_refl _, Nat.le_refl _⟩
  show sk_G X C 5 S d 0 [(0, .ref p0), (1, .int p1), (2, .int p2)] []
  unfold fX2_needing at hf
  refine sk_iconst (1 : Int32) K dX2_needing_0 (by decide) ?_
  refine sk_iload_n K dX2_needing_1 rfl 1 rfl ?_
  refine sk_ishl K dX2_needing_2 ?_
  refine sk_istore_n [(3, .int ((1 : Int32) <<< (p1 &&& 31))), (0, .ref p0), (1, .int p1), (2, .int p2)] K dX2_needing_3 rfl (by decide) rfl ?_
  refine sk_iload_n K dX2_needing_4 rfl 2 rfl ?_
  refine sk_iconst (1 : Int32) K dX2_needing_5 (by decide) ?_
  refine sk_iadd K dX2_needing_6 ?_
  refine sk_istore [(4, .int (p1 + (1 : Int32))), (3, .int ((1 : Int32) <<< (p1 &&& 31))), (0, .ref p0), (1, .int p1), (2, .int p2)] K dX2_needing_7 (by decide) rfl ?_
  obtain ⟨x1, he1, hf⟩ := sk_ob hf
  have hret1 : ∀ r, r = x1 → r = rr := by
    intro r hr
    subst hr
    exact Option.some.inj hf
  refine sk_sub [(0, .ref p0), (2, .int p2), (3, .int ((1 : Int32) <<< (p1 &&& 31))), (4, .int (p1 + (1 : Int32)))] [2, 4, 1, 0] rfl ?_
  refine sk_loop (fun s1 => sk_G X C 5 S d 9 [(0, .ref p0), (2, .int p2), (3, .int s1.1), (4, .int s1.2)] []) he1 (fun s1 o1 hf ih1 hx1 => ?_)
  unfold fX2_needing_L9 at hf
  refine sk_iload K dX2_needing_9 3 rfl ?_
  refine sk_aload_n K dX2_needing_11 rfl 0 rfl ?_
  obtain ⟨v1, e2, hf⟩ := sk_ob hf
  refine sk_getI K dX2_needing_12 fl_X2_15 rfl e2 ?_
  refine sk_icmp_ge 53 K dX2_needing_15 (by decide) (fun h3 => ?_) (fun h3 => ?_)
  · rw [if_pos h3] at hf
    refine sk_iload_n K dX2_needing_53 rfl 2 rfl ?_
    have hR4 : s1.1 = rr := hret1 _ (hx1 _ (Option.some.inj hf).symm)
    exact sk_iret K dX2_needing_54 rfl rfl hR4 rfl rfl
  · rw [if_neg h3] at hf
    refine sk_iload_n K dX2_needing_18 rfl 1 rfl ?_
    refine sk_iload K dX2_needing_19 3 rfl ?_
    refine sk_ishr K dX2_needing_21 ?_
    refine sk_iconst (1 : Int32) K dX2_needing_22 (by decide) ?_
    refine sk_iand K dX2_needing_23 ?_
    refine sk_iconst (1 : Int32) K dX2_needing_24 (by decide) ?_
    refine sk_icmp_ne 47 K dX2_needing_25 (by decide) (fun h5 => ?_) (fun h5 => ?_)
    · rw [if_neg h5] at hf
      refine sk_iinc (s1.2 + 1) [(4, .int (s1.2 + 1)), (0, .ref p0), (2, .int p2), (3, .int s1.1)] K dX2_needing_47 3 rfl rfl (by decide) rfl ?_
      refine sk_goto 9 K dX2_needing_50 (by decide) ?_
      refine sk_sub [(0, .ref p0), (2, .int p2), (3, .int s1.1), (4, .int (s1.2 + 1))] [1, 2, 3, 0] rfl ?_
      have h9 := ih1 _ (Option.some.inj hf).symm
      exact h9
    · rw [if_pos h5] at hf
      refine sk_aload_n K dX2_needing_28 rfl 0 rfl ?_
      obtain ⟨v6, e7, hf⟩ := sk_ob hf
      refine sk_getR K dX2_needing_29 fl_X2_43 rfl e7 ?_
      refine sk_iload K dX2_needing_32 3 rfl ?_
      obtain ⟨v8, e9, hf⟩ := sk_ob hf
      refine sk_ald20 K dX2_needing_34 e9 ?_
      refine sk_iload_n K dX2_needing_35 rfl 2 rfl ?_
      refine sk_iand K dX2_needing_36 ?_
      refine sk_if_eq 47 K dX2_needing_37 (by decide) (fun h10 => ?_) (fun h10 => ?_)
      · rw [if_pos h10] at hf
        refine sk_iinc (s1.2 + 1) [(4, .int (s1.2 + 1)), (0, .ref p0), (2, .int p2), (3, .int s1.1)] K dX2_needing_47 3 rfl rfl (by decide) rfl ?_
        refine sk_goto 9 K dX2_needing_50 (by decide) ?_
        refine sk_sub [(0, .ref p0), (2, .int p2), (3, .int s1.1), (4, .int (s1.2 + 1))] [1, 2, 3, 0] rfl ?_
        have h9 := ih1 _ (Option.some.inj hf).symm
        exact h9
      · rw [if_neg h10] at hf
        refine sk_iload_n K dX2_needing_40 rfl 2 rfl ?_
        refine sk_iconst (1 : Int32) K dX2_needing_41 (by decide) ?_
        refine sk_iload K dX2_needing_42 3 rfl ?_
        refine sk_ishl K dX2_needing_44 ?_
        refine sk_ior K dX2_needing_45 ?_
        refine sk_istore_n [(3, .int (s1.1 ||| ((1 : Int32) <<< (s1.2 &&& 31)))), (0, .ref p0), (2, .int p2), (4, .int s1.2)] K dX2_needing_46 rfl (by decide) rfl ?_
        refine sk_iinc (s1.2 + 1) [(4, .int (s1.2 + 1)), (3, .int (s1.1 ||| ((1 : Int32) <<< (s1.2 &&& 31)))), (0, .ref p0), (2, .int p2)] K dX2_needing_47 3 rfl rfl (by decide) rfl ?_
        refine sk_goto 9 K dX2_needing_50 (by decide) ?_
        refine sk_sub [(0, .ref p0), (2, .int p2), (3, .int (s1.1 ||| ((1 : Int32) <<< (s1.2 &&& 31)))), (4, .int (s1.2 + 1))] [2, 3, 1, 0] rfl ?_
        have h9 := ih1 _ (Option.some.inj hf).symm
        exact h9
noncomputable def fX2_needed_L6 (S : sk_S) (d : sk_D) (p0 : Nat) (s1 : Int32 × Int32) : Option ((Int32 × Int32) ⊕ (Int32)) :=
  if s1.2 < 0 then (some (.inr s1.1)) else (if ((s1.1 >>> (s1.2 &&& 31)) &&& (1 : Int32)) = (1 : Int32) then ((sk_gR S p0 2 10).bind fun v4 => (sk_lI S d v4 20 s1.2).bind fun v6 => some (.inl (s1.1 ||| v6, s1.2 - 1))) else (some (.inl (s1.1, s1.2 - 1))))
noncomputable def fX2_needed (S : sk_S) (d : sk_D) (p0 : Nat) (p1 : Int32) : Option (Int32) :=
  (sk_itr (fX2_needed_L6 S d p0) ((1 : Int32) <<< (p1 &&& 31), p1)).bind fun x1 => some x1
set_option maxRecDepth 100000 in
set_option maxHeartbeats 4000000 in
theorem sX2_needed (C : sk_C) (l : Launch) {S : sk_S} {d : sk_D} {p0 : Nat} {p1 : Int32} {rr : Int32} (hf : fX2_needed S d p0 p1 = some rr) : sk_Met C l 0 yX2_needed cX2_needed 4 (some .int) [.ref p0, .int p1] S d (some (.int rr)) S d := by
  refine sk_Met.of (by decide) (Nat.le_of_ble_eq_true rfl) (Nat.le_refl _) (Nat.le_refl _) (fun X K0 hX => ?_)
  have K : sk_Ok X C cX2_needed 4 RX2 "needed" (some .int) 0 l (some (.int rr)) S d := K0
  have R1 : X.2.2.2.2.2.2.2.2.2.2.2.1 ≤ S.1.1 ∧ X.2.2.2.2.2.2.2.2.2.2.2.2 ≤ S.1.2 := by rw [hX]; exact ⟨Nat.le_refl _, Nat.le_refl _⟩
  have R2 : S.1.1 ≤ S.1.1 ∧ S.1.2 ≤ S.1.2 := ⟨Nat.le_refl _, Nat.le_refl _⟩
  show sk_G X C 4 S d 0 [(0, .ref p0), (1, .int p1)] []
  unfold fX2_needed at hf
  refine sk_iconst (1 : Int32) K dX2_needed_0 (by decide) ?_
  refine sk_iload_n K dX2_needed_1 rfl 1 rfl ?_
  refine sk_ishl K dX2_needed_2 ?_
  refine sk_istore_n [(2, .int ((1 : Int32) <<< (p1 &&& 31))), (0, .ref p0), (1, .int p1)] K dX2_needed_3 rfl (by decide) rfl ?_
  refine sk_iload_n K dX2_needed_4 rfl 2 rfl ?_
  refine sk_istore_n [(3, .int p1), (2, .int ((1 : Int32) <<< (p1 &&& 31))), (0, .ref p0), (1, .int p1)] K dX2_needed_5 rfl (by decide) rfl ?_
  obtain ⟨x1, he1, hf⟩ := sk_ob hf
  have hret1 : ∀ r, r = x1 → r = rr := by
    intro r hr
    subst hr
    exact Option.some.inj hf
  refine sk_sub [(0, .ref p0), (2, .int ((1 : Int32) <<< (p1 &&& 31))), (3, .int p1)] [2, 1, 0] rfl ?_
  refine sk_loop (fun s1 => sk_G X C 4 S d 6 [(0, .ref p0), (2, .int s1.1), (3, .int s1.2)] []) he1 (fun s1 o1 hf ih1 hx1 => ?_)
  unfold fX2_needed_L6 at hf
  refine sk_iload_n K dX2_needed_6 rfl 2 rfl ?_
  refine sk_if_lt 34 K dX2_needed_7 (by decide) (fun h1 => ?_) (fun h1 => ?_)
  · rw [if_pos h1] at hf
    refine sk_iload_n K dX2_needed_34 rfl 1 rfl ?_
    have hR2 : s1.1 = rr := hret1 _ (hx1 _ (Option.some.inj hf).symm)
    exact sk_iret K dX2_needed_35 rfl rfl hR2 rfl rfl
  · rw [if_neg h1] at hf
    refine sk_iload_n K dX2_needed_10 rfl 1 rfl ?_
    refine sk_iload_n K dX2_needed_11 rfl 2 rfl ?_
    refine sk_ishr K dX2_needed_12 ?_
    refine sk_iconst (1 : Int32) K dX2_needed_13 (by decide) ?_
    refine sk_iand K dX2_needed_14 ?_
    refine sk_iconst (1 : Int32) K dX2_needed_15 (by decide) ?_
    refine sk_icmp_ne 28 K dX2_needed_16 (by decide) (fun h3 => ?_) (fun h3 => ?_)
    · rw [if_neg h3] at hf
      refine sk_iinc (s1.2 - 1) [(3, .int (s1.2 - 1)), (0, .ref p0), (2, .int s1.1)] K dX2_needed_28 2 rfl (sk_dec1 _) (by decide) rfl ?_
      refine sk_goto 6 K dX2_needed_31 (by decide) ?_
      refine sk_sub [(0, .ref p0), (2, .int s1.1), (3, .int (s1.2 - 1))] [1, 2, 0] rfl ?_
      have h9 := ih1 _ (Option.some.inj hf).symm
      exact h9
    · rw [if_pos h3] at hf
      refine sk_iload_n K dX2_needed_19 rfl 1 rfl ?_
      refine sk_aload_n K dX2_needed_20 rfl 0 rfl ?_
      obtain ⟨v4, e5, hf⟩ := sk_ob hf
      refine sk_getR K dX2_needed_21 fl_X2_43 rfl e5 ?_
      refine sk_iload_n K dX2_needed_24 rfl 2 rfl ?_
      obtain ⟨v6, e7, hf⟩ := sk_ob hf
      refine sk_ald20 K dX2_needed_25 e7 ?_
      refine sk_ior K dX2_needed_26 ?_
      refine sk_istore_n [(2, .int (s1.1 ||| v6)), (0, .ref p0), (3, .int s1.2)] K dX2_needed_27 rfl (by decide) rfl ?_
      refine sk_iinc (s1.2 - 1) [(3, .int (s1.2 - 1)), (2, .int (s1.1 ||| v6)), (0, .ref p0)] K dX2_needed_28 2 rfl (sk_dec1 _) (by decide) rfl ?_
      refine sk_goto 6 K dX2_needed_31 (by decide) ?_
      refine sk_sub [(0, .ref p0), (2, .int (s1.1 ||| v6)), (3, .int (s1.2 - 1))] [2, 1, 0] rfl ?_
      have h9 := ih1 _ (Option.some.inj hf).symm
      exact h9
