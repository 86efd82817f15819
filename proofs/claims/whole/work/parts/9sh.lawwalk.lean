set_option maxRecDepth 100000 in
set_option maxHeartbeats 40000000 in
theorem sL_law {mn : String} (C : sk_C) (l : Launch) {S : sk_S} {d : sk_D} {xs : Nat → Int32} {L0 : Nat} {rr : Bool} {SS : sk_S} {dd : sk_D} (hf : fL_law xs L0 S d = some (rr, SS, dd)) {X : sk_X} (K : sk_Ok X C cL_law 4 RL mn (some .boolean) 114 l (some (.int (sk_b rr))) SS dd) (hX : X.2.2.2.2.2.2.2.2.2.2.2 = S.1) (hScr : sk_Scr X C L0 xs) : sk_G X C 4 S d 0 [(0, .float 100)] [] := by
  have hmono := mo_use (n := S.1) (pr := (fun (z : Bool × sk_S × sk_D) => z.2.1.1)) hf (monoL_law xs L0 S d)
  have R1 : X.2.2.2.2.2.2.2.2.2.2.2.1 ≤ S.1.1 ∧ X.2.2.2.2.2.2.2.2.2.2.2.2 ≤ S.1.2 := by rw [hX]; exact ⟨Nat.le_refl _, Nat.le_refl _⟩
  have R2 : S.1.1 ≤ SS.1.1 ∧ S.1.2 ≤ SS.1.2 := hmono
  unfold fL_law at hf
  have RN1 : S.1.1 + 1 ≤ SS.1.1 ∧ S.1.2 + sk_N 9 ≤ SS.1.2 := mo_use (n := (sk_nS S 9 0 (sk_N 9)).1) (pr := (fun (z : Bool × sk_S × sk_D) => z.2.1.1)) hf (by repeat' (first | exact mo_none | exact mo_some ⟨Nat.le_refl _, Nat.le_refl _⟩ | refine mo_pR (fun _ => ?_) | refine mo_mk (fun _ => ?_) | refine mo_sR24 (fun _ => ?_) | refine mo_sR25 (fun _ => ?_) | refine mo_A ⟨Nat.le_refl _, Nat.le_refl _⟩ (monoX10_init _ _ _) (fun _ => ?_) | refine mo_A (sk_nS_le _ _ _ _) (monoX10_init _ _ _) (fun _ => ?_) | refine mo_A ⟨Nat.le_refl _, Nat.le_refl _⟩ (monoX11_init _ _ _) (fun _ => ?_) | refine mo_A (sk_nS_le _ _ _ _) (monoX11_init _ _ _) (fun _ => ?_) | refine mo_A ⟨Nat.le_refl _, Nat.le_refl _⟩ (monoX10_soonest _ _ _ _) (fun _ => ?_) | refine mo_A (sk_nS_le _ _ _ _) (monoX10_soonest _ _ _ _) (fun _ => ?_) | refine mo_A ⟨Nat.le_refl _, Nat.le_refl _⟩ (monoX10_way _ _ _ _ _) (fun _ => ?_) | refine mo_A (sk_nS_le _ _ _ _) (monoX10_way _ _ _ _ _) (fun _ => ?_) | refine mo_A ⟨Nat.le_refl _, Nat.le_refl _⟩ (monoX10_shown _ _ _ _) (fun _ => ?_) | refine mo_A (sk_nS_le _ _ _ _) (monoX10_shown _ _ _ _) (fun _ => ?_) | refine mo_A ⟨Nat.le_refl _, Nat.le_refl _⟩ (monoX10_shownBy _ _ _ _ _) (fun _ => ?_) | refine mo_A (sk_nS_le _ _ _ _) (monoX10_shownBy _ _ _ _ _) (fun _ => ?_) | refine mo_A ⟨Nat.le_refl _, Nat.le_refl _⟩ (monoX10_rows _ _ _ _ _) (fun _ => ?_) | refine mo_A (sk_nS_le _ _ _ _) (monoX10_rows _ _ _ _ _) (fun _ => ?_) | refine mo_A ⟨Nat.le_refl _, Nat.le_refl _⟩ (monoX10_most _ _ _) (fun _ => ?_) | refine mo_A (sk_nS_le _ _ _ _) (monoX10_most _ _ _) (fun _ => ?_) | refine mo_A ⟨Nat.le_refl _, Nat.le_refl _⟩ (monoX10_stands _ _ _) (fun _ => ?_) | refine mo_A (sk_nS_le _ _ _ _) (monoX10_stands _ _ _) (fun _ => ?_) | refine mo_A ⟨Nat.le_refl _, Nat.le_refl _⟩ (monoX10_lists _ _ _ _ _) (fun _ => ?_) | refine mo_A (sk_nS_le _ _ _ _) (monoX10_lists _ _ _ _ _) (fun _ => ?_) | refine mo_bindQ (q := (fun (z : Bool × sk_S × sk_D) => z.2.1.1)) (mo_itr (μ := (fun (z : Int32 × sk_S × sk_D) => z.2.1.1)) (mono_fL_law_L18 _ _ _ _) _) (fun _ => ?_) | refine mo_ite ?_ ?_ | refine mo_bind (fun _ => ?_) | dsimp only | split))
  refine sk_new K dL_law_0 nw_L_7 R1 RN1 ?_
  refine sk_dup K dL_law_3 rfl ?_
  obtain ⟨⟨S4, d5⟩, e3, hf⟩ := sk_ob hf
  try dsimp only at hf
  have R1_S4 := sk_le_tr (sk_nS_le2 R1) (mo_use (pr := (fun (z : sk_S × sk_D) => z.1.1)) e3 (monoX10_init _ _ _))
  have R2_S4 : S4.1.1 ≤ SS.1.1 ∧ S4.1.2 ≤ SS.1.2 := mo_use (n := S4.1) (pr := (fun (z : Bool × sk_S × sk_D) => z.2.1.1)) hf (by repeat' (first | exact mo_none | exact mo_some ⟨Nat.le_refl _, Nat.le_refl _⟩ | refine mo_pR (fun _ => ?_) | refine mo_mk (fun _ => ?_) | refine mo_sR24 (fun _ => ?_) | refine mo_sR25 (fun _ => ?_) | refine mo_A ⟨Nat.le_refl _, Nat.le_refl _⟩ (monoX10_init _ _ _) (fun _ => ?_) | refine mo_A (sk_nS_le _ _ _ _) (monoX10_init _ _ _) (fun _ => ?_) | refine mo_A ⟨Nat.le_refl _, Nat.le_refl _⟩ (monoX11_init _ _ _) (fun _ => ?_) | refine mo_A (sk_nS_le _ _ _ _) (monoX11_init _ _ _) (fun _ => ?_) | refine mo_A ⟨Nat.le_refl _, Nat.le_refl _⟩ (monoX10_soonest _ _ _ _) (fun _ => ?_) | refine mo_A (sk_nS_le _ _ _ _) (monoX10_soonest _ _ _ _) (fun _ => ?_) | refine mo_A ⟨Nat.le_refl _, Nat.le_refl _⟩ (monoX10_way _ _ _ _ _) (fun _ => ?_) | refine mo_A (sk_nS_le _ _ _ _) (monoX10_way _ _ _ _ _) (fun _ => ?_) | refine mo_A ⟨Nat.le_refl _, Nat.le_refl _⟩ (monoX10_shown _ _ _ _) (fun _ => ?_) | refine mo_A (sk_nS_le _ _ _ _) (monoX10_shown _ _ _ _) (fun _ => ?_) | refine mo_A ⟨Nat.le_refl _, Nat.le_refl _⟩ (monoX10_shownBy _ _ _ _ _) (fun _ => ?_) | refine mo_A (sk_nS_le _ _ _ _) (monoX10_shownBy _ _ _ _ _) (fun _ => ?_) | refine mo_A ⟨Nat.le_refl _, Nat.le_refl _⟩ (monoX10_rows _ _ _ _ _) (fun _ => ?_) | refine mo_A (sk_nS_le _ _ _ _) (monoX10_rows _ _ _ _ _) (fun _ => ?_) | refine mo_A ⟨Nat.le_refl _, Nat.le_refl _⟩ (monoX10_most _ _ _) (fun _ => ?_) | refine mo_A (sk_nS_le _ _ _ _) (monoX10_most _ _ _) (fun _ => ?_) | refine mo_A ⟨Nat.le_refl _, Nat.le_refl _⟩ (monoX10_stands _ _ _) (fun _ => ?_) | refine mo_A (sk_nS_le _ _ _ _) (monoX10_stands _ _ _) (fun _ => ?_) | refine mo_A ⟨Nat.le_refl _, Nat.le_refl _⟩ (monoX10_lists _ _ _ _ _) (fun _ => ?_) | refine mo_A (sk_nS_le _ _ _ _) (monoX10_lists _ _ _ _ _) (fun _ => ?_) | refine mo_bindQ (q := (fun (z : Bool × sk_S × sk_D) => z.2.1.1)) (mo_itr (μ := (fun (z : Int32 × sk_S × sk_D) => z.2.1.1)) (mono_fL_law_L18 _ _ _ _) _) (fun _ => ?_) | refine mo_ite ?_ ?_ | refine mo_bind (fun _ => ?_) | dsimp only | split))
  refine sk_callJ (As := []) (st := [.ref (S.1.1 + 1)]) K dL_law_4 cl_L_9 rfl (sX10_init C l e3) (by decide) rfl rfl (Nat.le_of_ble_eq_true rfl) (sk_nS_le2 R1) R2_S4 ?_
  refine sk_astore_n [(1, .ref (S.1.1 + 1)), (0, .float 100)] K dL_law_7 rfl (by decide) rfl ?_
  have RN7 : S4.1.1 + 1 ≤ SS.1.1 ∧ S4.1.2 + sk_N 10 ≤ SS.1.2 := mo_use (n := (sk_nS S4 10 0 (sk_N 10)).1) (pr := (fun (z : Bool × sk_S × sk_D) => z.2.1.1)) hf (by repeat' (first | exact mo_none | exact mo_some ⟨Nat.le_refl _, Nat.le_refl _⟩ | refine mo_pR (fun _ => ?_) | refine mo_mk (fun _ => ?_) | refine mo_sR24 (fun _ => ?_) | refine mo_sR25 (fun _ => ?_) | refine mo_A ⟨Nat.le_refl _, Nat.le_refl _⟩ (monoX10_init _ _ _) (fun _ => ?_) | refine mo_A (sk_nS_le _ _ _ _) (monoX10_init _ _ _) (fun _ => ?_) | refine mo_A ⟨Nat.le_refl _, Nat.le_refl _⟩ (monoX11_init _ _ _) (fun _ => ?_) | refine mo_A (sk_nS_le _ _ _ _) (monoX11_init _ _ _) (fun _ => ?_) | refine mo_A ⟨Nat.le_refl _, Nat.le_refl _⟩ (monoX10_soonest _ _ _ _) (fun _ => ?_) | refine mo_A (sk_nS_le _ _ _ _) (monoX10_soonest _ _ _ _) (fun _ => ?_) | refine mo_A ⟨Nat.le_refl _, Nat.le_refl _⟩ (monoX10_way _ _ _ _ _) (fun _ => ?_) | refine mo_A (sk_nS_le _ _ _ _) (monoX10_way _ _ _ _ _) (fun _ => ?_) | refine mo_A ⟨Nat.le_refl _, Nat.le_refl _⟩ (monoX10_shown _ _ _ _) (fun _ => ?_) | refine mo_A (sk_nS_le _ _ _ _) (monoX10_shown _ _ _ _) (fun _ => ?_) | refine mo_A ⟨Nat.le_refl _, Nat.le_refl _⟩ (monoX10_shownBy _ _ _ _ _) (fun _ => ?_) | refine mo_A (sk_nS_le _ _ _ _) (monoX10_shownBy _ _ _ _ _) (fun _ => ?_) | refine mo_A ⟨Nat.le_refl _, Nat.le_refl _⟩ (monoX10_rows _ _ _ _ _) (fun _ => ?_) | refine mo_A (sk_nS_le _ _ _ _) (monoX10_rows _ _ _ _ _) (fun _ => ?_) | refine mo_A ⟨Nat.le_refl _, Nat.le_refl _⟩ (monoX10_most _ _ _) (fun _ => ?_) | refine mo_A (sk_nS_le _ _ _ _) (monoX10_most _ _ _) (fun _ => ?_) | refine mo_A ⟨Nat.le_refl _, Nat.le_refl _⟩ (monoX10_stands _ _ _) (fun _ => ?_) | refine mo_A (sk_nS_le _ _ _ _) (monoX10_stands _ _ _) (fun _ => ?_) | refine mo_A ⟨Nat.le_refl _, Nat.le_refl _⟩ (monoX10_lists _ _ _ _ _) (fun _ => ?_) | refine mo_A (sk_nS_le _ _ _ _) (monoX10_lists _ _ _ _ _) (fun _ => ?_) | refine mo_bindQ (q := (fun (z : Bool × sk_S × sk_D) => z.2.1.1)) (mo_itr (μ := (fun (z : Int32 × sk_S × sk_D) => z.2.1.1)) (mono_fL_law_L18 _ _ _ _) _) (fun _ => ?_) | refine mo_ite ?_ ?_ | refine mo_bind (fun _ => ?_) | dsimp only | split))
  refine sk_new K dL_law_8 nw_L_10 R1_S4 RN7 ?_
  refine sk_dup K dL_law_11 rfl ?_
  obtain ⟨⟨S10, d11⟩, e9, hf⟩ := sk_ob hf
  try dsimp only at hf
  have R1_S10 := sk_le_tr (sk_nS_le2 R1_S4) (mo_use (pr := (fun (z : sk_S × sk_D) => z.1.1)) e9 (monoX11_init _ _ _))
  have R2_S10 : S10.1.1 ≤ SS.1.1 ∧ S10.1.2 ≤ SS.1.2 := mo_use (n := S10.1) (pr := (fun (z : Bool × sk_S × sk_D) => z.2.1.1)) hf (by repeat' (first | exact mo_none | exact mo_some ⟨Nat.le_refl _, Nat.le_refl _⟩ | refine mo_pR (fun _ => ?_) | refine mo_mk (fun _ => ?_) | refine mo_sR24 (fun _ => ?_) | refine mo_sR25 (fun _ => ?_) | refine mo_A ⟨Nat.le_refl _, Nat.le_refl _⟩ (monoX10_init _ _ _) (fun _ => ?_) | refine mo_A (sk_nS_le _ _ _ _) (monoX10_init _ _ _) (fun _ => ?_) | refine mo_A ⟨Nat.le_refl _, Nat.le_refl _⟩ (monoX11_init _ _ _) (fun _ => ?_) | refine mo_A (sk_nS_le _ _ _ _) (monoX11_init _ _ _) (fun _ => ?_) | refine mo_A ⟨Nat.le_refl _, Nat.le_refl _⟩ (monoX10_soonest _ _ _ _) (fun _ => ?_) | refine mo_A (sk_nS_le _ _ _ _) (monoX10_soonest _ _ _ _) (fun _ => ?_) | refine mo_A ⟨Nat.le_refl _, Nat.le_refl _⟩ (monoX10_way _ _ _ _ _) (fun _ => ?_) | refine mo_A (sk_nS_le _ _ _ _) (monoX10_way _ _ _ _ _) (fun _ => ?_) | refine mo_A ⟨Nat.le_refl _, Nat.le_refl _⟩ (monoX10_shown _ _ _ _) (fun _ => ?_) | refine mo_A (sk_nS_le _ _ _ _) (monoX10_shown _ _ _ _) (fun _ => ?_) | refine mo_A ⟨Nat.le_refl _, Nat.le_refl _⟩ (monoX10_shownBy _ _ _ _ _) (fun _ => ?_) | refine mo_A (sk_nS_le _ _ _ _) (monoX10_shownBy _ _ _ _ _) (fun _ => ?_) | refine mo_A ⟨Nat.le_refl _, Nat.le_refl _⟩ (monoX10_rows _ _ _ _ _) (fun _ => ?_) | refine mo_A (sk_nS_le _ _ _ _) (monoX10_rows _ _ _ _ _) (fun _ => ?_) | refine mo_A ⟨Nat.le_refl _, Nat.le_refl _⟩ (monoX10_most _ _ _) (fun _ => ?_) | refine mo_A (sk_nS_le _ _ _ _) (monoX10_most _ _ _) (fun _ => ?_) | refine mo_A ⟨Nat.le_refl _, Nat.le_refl _⟩ (monoX10_stands _ _ _) (fun _ => ?_) | refine mo_A (sk_nS_le _ _ _ _) (monoX10_stands _ _ _) (fun _ => ?_) | refine mo_A ⟨Nat.le_refl _, Nat.le_refl _⟩ (monoX10_lists _ _ _ _ _) (fun _ => ?_) | refine mo_A (sk_nS_le _ _ _ _) (monoX10_lists _ _ _ _ _) (fun _ => ?_) | refine mo_bindQ (q := (fun (z : Bool × sk_S × sk_D) => z.2.1.1)) (mo_itr (μ := (fun (z : Int32 × sk_S × sk_D) => z.2.1.1)) (mono_fL_law_L18 _ _ _ _) _) (fun _ => ?_) | refine mo_ite ?_ ?_ | refine mo_bind (fun _ => ?_) | dsimp only | split))
  refine sk_callJ (As := []) (st := [.ref (S4.1.1 + 1)]) K dL_law_12 cl_L_12 rfl (sX11_init C l e9) (by decide) rfl rfl (Nat.le_of_ble_eq_true rfl) (sk_nS_le2 R1_S4) R2_S10 ?_
  refine sk_astore_n [(2, .ref (S4.1.1 + 1)), (1, .ref (S.1.1 + 1)), (0, .float 100)] K dL_law_15 rfl (by decide) rfl ?_
  refine sk_iconst (0 : Int32) K dL_law_16 (by decide) ?_
  refine sk_istore_n [(3, .int (0 : Int32)), (2, .ref (S4.1.1 + 1)), (1, .ref (S.1.1 + 1)), (0, .float 100)] K dL_law_17 rfl (by decide) rfl ?_
  obtain ⟨x1, he1, hf⟩ := sk_ob hf
  have hret1 : ∀ r, r = x1 → r = (rr, SS, dd) := by
    intro r hr
    subst hr
    exact Option.some.inj hf
  refine sk_sub [(0, .float 100), (1, .ref (S.1.1 + 1)), (2, .ref (S4.1.1 + 1)), (3, .int (0 : Int32))] [3, 2, 1, 0] rfl ?_
  have mb1 := mono_fL_law_L18 S L0 S4 xs
  have R2x1 : ((fun (z : Bool × sk_S × sk_D) => z.2.1.1) x1).1 ≤ SS.1.1 ∧ ((fun (z : Bool × sk_S × sk_D) => z.2.1.1) x1).2 ≤ SS.1.2 := by rw [hret1 _ rfl]; exact ⟨Nat.le_refl _, Nat.le_refl _⟩
  refine sk_loop2 (fun s1 => (X.2.2.2.2.2.2.2.2.2.2.2.1 ≤ s1.2.1.1.1 ∧ X.2.2.2.2.2.2.2.2.2.2.2.2 ≤ s1.2.1.1.2) → sk_G X C 4 s1.2.1 s1.2.2 18 [(0, .float 100), (1, .ref (S.1.1 + 1)), (2, .ref (S4.1.1 + 1)), (3, .int s1.1)] []) he1 (fun s1 o1 hit1 hf ih1 hx1 => ?_) R1_S10
  intro R1s1
  have RO1 := sk_le_tr (mo_step mb1 hit1 hf) R2x1
  have R2s1 : s1.2.1.1.1 ≤ SS.1.1 ∧ s1.2.1.1.2 ≤ SS.1.2 := sk_le_tr (mo_use hit1 (mo_itr mb1 s1)) R2x1
  unfold fL_law_L18 at hf
  refine sk_iload_n K dL_law_18 rfl 3 rfl ?_
  refine sk_aload_nF K dL_law_19 rfl 0 rfl ?_
  refine sk_slen K hScr dL_law_20 ?_
  refine sk_bipush (6 : Int32) K dL_law_21 (by decide) ?_
  refine sk_isub K dL_law_23 ?_
  refine sk_icmp_gt 1433 K dL_law_24 (by decide) (fun h13 => ?_) (fun h13 => ?_)
  · rw [if_pos h13] at hf
    refine sk_iconst (1 : Int32) K dL_law_1433 (by decide) ?_
    have hR14 : (true, s1.2.1, s1.2.2) = (rr, SS, dd) := hret1 _ (hx1 _ (Option.some.inj hf).symm)
    exact sk_zret (x := true) K dL_law_1434 rfl rfl (congrArg (fun z => z.1) hR14) (congrArg (fun z => z.2.1) hR14) (congrArg (fun z => z.2.2) hR14)
  · rw [if_neg h13] at hf
    refine sk_aload_nF K dL_law_27 rfl 0 rfl ?_
    refine sk_iload_n K dL_law_28 rfl 3 rfl ?_
    obtain ⟨v15, e16, hf⟩ := sk_ob hf
    refine sk_sld K hScr dL_law_29 e16 ?_
    refine sk_bipush (63 : Int32) K dL_law_30 (by decide) ?_
    refine sk_iand K dL_law_32 ?_
    by_cases h17 : (v15 &&& (63 : Int32)) = (0 : Int32)
    · rw [if_pos h17] at hf
      refine sk_tsIn (0 : Int32) (195) 228 K dL_law_33 h17 (by decide) (by decide) rfl (by decide) ?_
      refine sk_aload_n K dL_law_228 rfl 1 rfl ?_
      refine sk_aload_nF K dL_law_229 rfl 0 rfl ?_
      refine sk_iload_n K dL_law_230 rfl 3 rfl ?_
      refine sk_iconst (1 : Int32) K dL_law_231 (by decide) ?_
      refine sk_iadd K dL_law_232 ?_
      obtain ⟨v18, e19, hf⟩ := sk_ob hf
      refine sk_sld K hScr dL_law_233 e19 ?_
      refine sk_aload_nF K dL_law_234 rfl 0 rfl ?_
      refine sk_iload_n K dL_law_235 rfl 3 rfl ?_
      refine sk_iconst (2 : Int32) K dL_law_236 (by decide) ?_
      refine sk_iadd K dL_law_237 ?_
      obtain ⟨v20, e21, hf⟩ := sk_ob hf
      refine sk_sld K hScr dL_law_238 e21 ?_
      refine sk_aload_nF K dL_law_239 rfl 0 rfl ?_
      refine sk_iload_n K dL_law_240 rfl 3 rfl ?_
      refine sk_iconst (3 : Int32) K dL_law_241 (by decide) ?_
      refine sk_iadd K dL_law_242 ?_
      obtain ⟨v22, e23, hf⟩ := sk_ob hf
      refine sk_sld K hScr dL_law_243 e23 ?_
      refine sk_aload_nF K dL_law_244 rfl 0 rfl ?_
      refine sk_iload_n K dL_law_245 rfl 3 rfl ?_
      refine sk_iconst (4 : Int32) K dL_law_246 (by decide) ?_
      refine sk_iadd K dL_law_247 ?_
      obtain ⟨v24, e25, hf⟩ := sk_ob hf
      refine sk_sld K hScr dL_law_248 e25 ?_
      refine sk_aload_nF K dL_law_249 rfl 0 rfl ?_
      refine sk_iload_n K dL_law_250 rfl 3 rfl ?_
      refine sk_iconst (5 : Int32) K dL_law_251 (by decide) ?_
      refine sk_iadd K dL_law_252 ?_
      obtain ⟨v26, e27, hf⟩ := sk_ob hf
      refine sk_sld K hScr dL_law_253 e27 ?_
      obtain ⟨h31, hf⟩ := sk_ib hf
      obtain ⟨⟨v28, d30⟩, e29, hf⟩ := sk_ob hf
      try dsimp only at hf
      refine sk_callV (As := [.int v18, .int v20, .int v22, .int v24, .int v26]) (st := []) K dL_law_254 cl_L_13 h31 (sX10_feed C l e29) (by decide) rfl rfl (Nat.le_of_ble_eq_true rfl) R1s1 R2s1 ?_
      refine sk_aload_n K dL_law_257 rfl 2 rfl ?_
      refine sk_aload_nF K dL_law_258 rfl 0 rfl ?_
      refine sk_iload_n K dL_law_259 rfl 3 rfl ?_
      refine sk_iconst (1 : Int32) K dL_law_260 (by decide) ?_
      refine sk_iadd K dL_law_261 ?_
      obtain ⟨v33, e34, hf⟩ := sk_ob hf
      refine sk_sld K hScr dL_law_262 e34 ?_
      refine sk_aload_nF K dL_law_263 rfl 0 rfl ?_
      refine sk_iload_n K dL_law_264 rfl 3 rfl ?_
      refine sk_iconst (2 : Int32) K dL_law_265 (by decide) ?_
      refine sk_iadd K dL_law_266 ?_
      obtain ⟨v35, e36, hf⟩ := sk_ob hf
      refine sk_sld K hScr dL_law_267 e36 ?_
      refine sk_aload_nF K dL_law_268 rfl 0 rfl ?_
      refine sk_iload_n K dL_law_269 rfl 3 rfl ?_
      refine sk_iconst (3 : Int32) K dL_law_270 (by decide) ?_
      refine sk_iadd K dL_law_271 ?_
      obtain ⟨v37, e38, hf⟩ := sk_ob hf
      refine sk_sld K hScr dL_law_272 e38 ?_
      refine sk_aload_nF K dL_law_273 rfl 0 rfl ?_
      refine sk_iload_n K dL_law_274 rfl 3 rfl ?_
      refine sk_iconst (4 : Int32) K dL_law_275 (by decide) ?_
      refine sk_iadd K dL_law_276 ?_
      obtain ⟨v39, e40, hf⟩ := sk_ob hf
      refine sk_sld K hScr dL_law_277 e40 ?_
      refine sk_aload_nF K dL_law_278 rfl 0 rfl ?_
      refine sk_iload_n K dL_law_279 rfl 3 rfl ?_
      refine sk_iconst (5 : Int32) K dL_law_280 (by decide) ?_
      refine sk_iadd K dL_law_281 ?_
      obtain ⟨v41, e42, hf⟩ := sk_ob hf
      refine sk_sld K hScr dL_law_282 e42 ?_
      obtain ⟨h46, hf⟩ := sk_ib hf
      obtain ⟨⟨v43, d45⟩, e44, hf⟩ := sk_ob hf
      try dsimp only at hf
      refine sk_callV (As := [.int v33, .int v35, .int v37, .int v39, .int v41]) (st := [.int v28]) K dL_law_283 cl_L_17 h46 (sX11_feed C l e44) (by decide) rfl rfl (Nat.le_of_ble_eq_true rfl) R1s1 R2s1 ?_
      refine sk_icmp_eq 1427 K dL_law_286 (by decide) (fun h48 => ?_) (fun h48 => ?_)
      · rw [if_pos h48] at hf
        refine sk_iinc (s1.1 + 6) [(3, .int (s1.1 + 6)), (0, .float 100), (1, .ref (S.1.1 + 1)), (2, .ref (S4.1.1 + 1))] K dL_law_1427 3 rfl rfl (by decide) rfl ?_
        refine sk_goto 18 K dL_law_1430 (by decide) ?_
        refine sk_sub [(0, .float 100), (1, .ref (S.1.1 + 1)), (2, .ref (S4.1.1 + 1)), (3, .int (s1.1 + 6))] [1, 2, 3, 0] rfl ?_
        have h9 := ih1 _ (Option.some.inj hf).symm
        exact h9 R1s1
      · rw [if_neg h48] at hf
        refine sk_iconst (0 : Int32) K dL_law_289 (by decide) ?_
        have hR49 : (false, s1.2.1, d45) = (rr, SS, dd) := hret1 _ (hx1 _ (Option.some.inj hf).symm)
        exact sk_zret (x := false) K dL_law_290 rfl rfl (congrArg (fun z => z.1) hR49) (congrArg (fun z => z.2.1) hR49) (congrArg (fun z => z.2.2) hR49)
    · rw [if_neg h17] at hf
      by_cases h50 : (v15 &&& (63 : Int32)) = (1 : Int32)
      · rw [if_pos h50] at hf
        refine sk_tsIn (1 : Int32) (258) 291 K dL_law_33 h50 (by decide) (by decide) rfl (by decide) ?_
        refine sk_aload_n K dL_law_291 rfl 1 rfl ?_
        refine sk_aload_nF K dL_law_292 rfl 0 rfl ?_
        refine sk_iload_n K dL_law_293 rfl 3 rfl ?_
        refine sk_iconst (1 : Int32) K dL_law_294 (by decide) ?_
        refine sk_iadd K dL_law_295 ?_
        obtain ⟨v51, e52, hf⟩ := sk_ob hf
        refine sk_sld K hScr dL_law_296 e52 ?_
        obtain ⟨h56, hf⟩ := sk_ib hf
        obtain ⟨⟨v53, d55⟩, e54, hf⟩ := sk_ob hf
        try dsimp only at hf
        refine sk_callV (As := [.int v51]) (st := []) K dL_law_297 cl_L_18 h56 (sX10_life C l e54) (by decide) rfl rfl (Nat.le_of_ble_eq_true rfl) R1s1 R2s1 ?_
        refine sk_aload_n K dL_law_300 rfl 2 rfl ?_
        refine sk_aload_nF K dL_law_301 rfl 0 rfl ?_
        refine sk_iload_n K dL_law_302 rfl 3 rfl ?_
        refine sk_iconst (1 : Int32) K dL_law_303 (by decide) ?_
        refine sk_iadd K dL_law_304 ?_
        obtain ⟨v58, e59, hf⟩ := sk_ob hf
        refine sk_sld K hScr dL_law_305 e59 ?_
        obtain ⟨h63, hf⟩ := sk_ib hf
        obtain ⟨⟨v60, d62⟩, e61, hf⟩ := sk_ob hf
        try dsimp only at hf
        refine sk_callV (As := [.int v58]) (st := [.int v53]) K dL_law_306 cl_L_22 h63 (sX11_life C l e61) (by decide) rfl rfl (Nat.le_of_ble_eq_true rfl) R1s1 R2s1 ?_
        refine sk_icmp_eq 1427 K dL_law_309 (by decide) (fun h65 => ?_) (fun h65 => ?_)
        · rw [if_pos h65] at hf
          refine sk_iinc (s1.1 + 6) [(3, .int (s1.1 + 6)), (0, .float 100), (1, .ref (S.1.1 + 1)), (2, .ref (S4.1.1 + 1))] K dL_law_1427 3 rfl rfl (by decide) rfl ?_
          refine sk_goto 18 K dL_law_1430 (by decide) ?_
          refine sk_sub [(0, .float 100), (1, .ref (S.1.1 + 1)), (2, .ref (S4.1.1 + 1)), (3, .int (s1.1 + 6))] [1, 2, 3, 0] rfl ?_
          have h9 := ih1 _ (Option.some.inj hf).symm
          exact h9 R1s1
        · rw [if_neg h65] at hf
          refine sk_iconst (0 : Int32) K dL_law_312 (by decide) ?_
          have hR66 : (false, s1.2.1, d62) = (rr, SS, dd) := hret1 _ (hx1 _ (Option.some.inj hf).symm)
          exact sk_zret (x := false) K dL_law_313 rfl rfl (congrArg (fun z => z.1) hR66) (congrArg (fun z => z.2.1) hR66) (congrArg (fun z => z.2.2) hR66)
      · rw [if_neg h50] at hf
        by_cases h67 : (v15 &&& (63 : Int32)) = (2 : Int32)
        · rw [if_pos h67] at hf
          refine sk_tsIn (2 : Int32) (281) 314 K dL_law_33 h67 (by decide) (by decide) rfl (by decide) ?_
          refine sk_aload_n K dL_law_314 rfl 1 rfl ?_
          refine sk_aload_nF K dL_law_315 rfl 0 rfl ?_
          refine sk_iload_n K dL_law_316 rfl 3 rfl ?_
          refine sk_iconst (1 : Int32) K dL_law_317 (by decide) ?_
          refine sk_iadd K dL_law_318 ?_
          obtain ⟨v68, e69, hf⟩ := sk_ob hf
          refine sk_sld K hScr dL_law_319 e69 ?_
          obtain ⟨h72, hf⟩ := sk_ib hf
          obtain ⟨v70, e71, hf⟩ := sk_ob hf
          refine sk_callV (As := [.int v68]) (st := []) K dL_law_320 cl_L_23 h72 (sX10_fault C l e71) (by decide) rfl rfl (Nat.le_of_ble_eq_true rfl) R1s1 R2s1 ?_
          refine sk_aload_n K dL_law_323 rfl 2 rfl ?_
          refine sk_aload_nF K dL_law_324 rfl 0 rfl ?_
          refine sk_iload_n K dL_law_325 rfl 3 rfl ?_
          refine sk_iconst (1 : Int32) K dL_law_326 (by decide) ?_
          refine sk_iadd K dL_law_327 ?_
          obtain ⟨v73, e74, hf⟩ := sk_ob hf
          refine sk_sld K hScr dL_law_328 e74 ?_
          obtain ⟨h78, hf⟩ := sk_ib hf
          obtain ⟨⟨v75, d77⟩, e76, hf⟩ := sk_ob hf
          try dsimp only at hf
          refine sk_callV (As := [.int v73]) (st := [.int v70]) K dL_law_329 cl_L_26 h78 (sX11_fault C l e76) (by decide) rfl rfl (Nat.le_of_ble_eq_true rfl) R1s1 R2s1 ?_
          refine sk_icmp_eq 1427 K dL_law_332 (by decide) (fun h80 => ?_) (fun h80 => ?_)
          · rw [if_pos h80] at hf
            refine sk_iinc (s1.1 + 6) [(3, .int (s1.1 + 6)), (0, .float 100), (1, .ref (S.1.1 + 1)), (2, .ref (S4.1.1 + 1))] K dL_law_1427 3 rfl rfl (by decide) rfl ?_
            refine sk_goto 18 K dL_law_1430 (by decide) ?_
            refine sk_sub [(0, .float 100), (1, .ref (S.1.1 + 1)), (2, .ref (S4.1.1 + 1)), (3, .int (s1.1 + 6))] [1, 2, 3, 0] rfl ?_
            have h9 := ih1 _ (Option.some.inj hf).symm
            exact h9 R1s1
          · rw [if_neg h80] at hf
            refine sk_iconst (0 : Int32) K dL_law_335 (by decide) ?_
            have hR81 : (false, s1.2.1, d77) = (rr, SS, dd) := hret1 _ (hx1 _ (Option.some.inj hf).symm)
            exact sk_zret (x := false) K dL_law_336 rfl rfl (congrArg (fun z => z.1) hR81) (congrArg (fun z => z.2.1) hR81) (congrArg (fun z => z.2.2) hR81)
        · rw [if_neg h67] at hf
          by_cases h82 : (v15 &&& (63 : Int32)) = (3 : Int32)
          · rw [if_pos h82] at hf
            refine sk_tsIn (3 : Int32) (304) 337 K dL_law_33 h82 (by decide) (by decide) rfl (by decide) ?_
            refine sk_aload_n K dL_law_337 rfl 1 rfl ?_
            refine sk_aload_nF K dL_law_338 rfl 0 rfl ?_
            refine sk_iload_n K dL_law_339 rfl 3 rfl ?_
            refine sk_iconst (1 : Int32) K dL_law_340 (by decide) ?_
            refine sk_iadd K dL_law_341 ?_
            obtain ⟨v83, e84, hf⟩ := sk_ob hf
            refine sk_sld K hScr dL_law_342 e84 ?_
            refine sk_aload_nF K dL_law_343 rfl 0 rfl ?_
            refine sk_iload_n K dL_law_344 rfl 3 rfl ?_
            refine sk_iconst (2 : Int32) K dL_law_345 (by decide) ?_
            refine sk_iadd K dL_law_346 ?_
            obtain ⟨v85, e86, hf⟩ := sk_ob hf
            refine sk_sld K hScr dL_law_347 e86 ?_
            obtain ⟨h89, hf⟩ := sk_ib hf
            obtain ⟨v87, e88, hf⟩ := sk_ob hf
            refine sk_callV (As := [.int v83, .int v85]) (st := []) K dL_law_348 cl_L_27 h89 (sX10_doing C l e88) (by decide) rfl rfl (Nat.le_of_ble_eq_true rfl) R1s1 R2s1 ?_
            refine sk_aload_n K dL_law_351 rfl 2 rfl ?_
            refine sk_aload_nF K dL_law_352 rfl 0 rfl ?_
            refine sk_iload_n K dL_law_353 rfl 3 rfl ?_
            refine sk_iconst (1 : Int32) K dL_law_354 (by decide) ?_
            refine sk_iadd K dL_law_355 ?_
            obtain ⟨v90, e91, hf⟩ := sk_ob hf
            refine sk_sld K hScr dL_law_356 e91 ?_
            refine sk_aload_nF K dL_law_357 rfl 0 rfl ?_
            refine sk_iload_n K dL_law_358 rfl 3 rfl ?_
            refine sk_iconst (2 : Int32) K dL_law_359 (by decide) ?_
            refine sk_iadd K dL_law_360 ?_
            obtain ⟨v92, e93, hf⟩ := sk_ob hf
            refine sk_sld K hScr dL_law_361 e93 ?_
            obtain ⟨h97, hf⟩ := sk_ib hf
            obtain ⟨⟨v94, d96⟩, e95, hf⟩ := sk_ob hf
            try dsimp only at hf
            refine sk_callV (As := [.int v90, .int v92]) (st := [.int v87]) K dL_law_362 cl_L_31 h97 (sX11_doing C l e95) (by decide) rfl rfl (Nat.le_of_ble_eq_true rfl) R1s1 R2s1 ?_
            refine sk_icmp_eq 1427 K dL_law_365 (by decide) (fun h99 => ?_) (fun h99 => ?_)
            · rw [if_pos h99] at hf
              refine sk_iinc (s1.1 + 6) [(3, .int (s1.1 + 6)), (0, .float 100), (1, .ref (S.1.1 + 1)), (2, .ref (S4.1.1 + 1))] K dL_law_1427 3 rfl rfl (by decide) rfl ?_
              refine sk_goto 18 K dL_law_1430 (by decide) ?_
              refine sk_sub [(0, .float 100), (1, .ref (S.1.1 + 1)), (2, .ref (S4.1.1 + 1)), (3, .int (s1.1 + 6))] [1, 2, 3, 0] rfl ?_
              have h9 := ih1 _ (Option.some.inj hf).symm
              exact h9 R1s1
            · rw [if_neg h99] at hf
              refine sk_iconst (0 : Int32) K dL_law_368 (by decide) ?_
              have hR100 : (false, s1.2.1, d96) = (rr, SS, dd) := hret1 _ (hx1 _ (Option.some.inj hf).symm)
              exact sk_zret (x := false) K dL_law_369 rfl rfl (congrArg (fun z => z.1) hR100) (congrArg (fun z => z.2.1) hR100) (congrArg (fun z => z.2.2) hR100)
          · rw [if_neg h82] at hf
            by_cases h101 : (v15 &&& (63 : Int32)) = (4 : Int32)
            · rw [if_pos h101] at hf
              refine sk_tsIn (4 : Int32) (337) 370 K dL_law_33 h101 (by decide) (by decide) rfl (by decide) ?_
              refine sk_aload_n K dL_law_370 rfl 1 rfl ?_
              refine sk_aload_nF K dL_law_371 rfl 0 rfl ?_
              refine sk_iload_n K dL_law_372 rfl 3 rfl ?_
              refine sk_iconst (1 : Int32) K dL_law_373 (by decide) ?_
              refine sk_iadd K dL_law_374 ?_
              obtain ⟨v102, e103, hf⟩ := sk_ob hf
              refine sk_sld K hScr dL_law_375 e103 ?_
              obtain ⟨h106, hf⟩ := sk_ib hf
              obtain ⟨v104, e105, hf⟩ := sk_ob hf
              refine sk_callV (As := [.int v102]) (st := []) K dL_law_376 cl_L_32 h106 (sX10_door C l e105) (by decide) rfl rfl (Nat.le_of_ble_eq_true rfl) R1s1 R2s1 ?_
              refine sk_aload_n K dL_law_379 rfl 2 rfl ?_
              refine sk_aload_nF K dL_law_380 rfl 0 rfl ?_
              refine sk_iload_n K dL_law_381 rfl 3 rfl ?_
              refine sk_iconst (1 : Int32) K dL_law_382 (by decide) ?_
              refine sk_iadd K dL_law_383 ?_
              obtain ⟨v107, e108, hf⟩ := sk_ob hf
              refine sk_sld K hScr dL_law_384 e108 ?_
              obtain ⟨h112, hf⟩ := sk_ib hf
              obtain ⟨⟨v109, d111⟩, e110, hf⟩ := sk_ob hf
              try dsimp only at hf
              refine sk_callV (As := [.int v107]) (st := [.int v104]) K dL_law_385 cl_L_35 h112 (sX11_door C l e110) (by decide) rfl rfl (Nat.le_of_ble_eq_true rfl) R1s1 R2s1 ?_
              refine sk_icmp_eq 1427 K dL_law_388 (by decide) (fun h114 => ?_) (fun h114 => ?_)
              · rw [if_pos h114] at hf
                refine sk_iinc (s1.1 + 6) [(3, .int (s1.1 + 6)), (0, .float 100), (1, .ref (S.1.1 + 1)), (2, .ref (S4.1.1 + 1))] K dL_law_1427 3 rfl rfl (by decide) rfl ?_
                refine sk_goto 18 K dL_law_1430 (by decide) ?_
                refine sk_sub [(0, .float 100), (1, .ref (S.1.1 + 1)), (2, .ref (S4.1.1 + 1)), (3, .int (s1.1 + 6))] [1, 2, 3, 0] rfl ?_
                have h9 := ih1 _ (Option.some.inj hf).symm
                exact h9 R1s1
              · rw [if_neg h114] at hf
                refine sk_iconst (0 : Int32) K dL_law_391 (by decide) ?_
                have hR115 : (false, s1.2.1, d111) = (rr, SS, dd) := hret1 _ (hx1 _ (Option.some.inj hf).symm)
                exact sk_zret (x := false) K dL_law_392 rfl rfl (congrArg (fun z => z.1) hR115) (congrArg (fun z => z.2.1) hR115) (congrArg (fun z => z.2.2) hR115)
            · rw [if_neg h101] at hf
              by_cases h116 : (v15 &&& (63 : Int32)) = (5 : Int32)
              · rw [if_pos h116] at hf
                refine sk_tsIn (5 : Int32) (360) 393 K dL_law_33 h116 (by decide) (by decide) rfl (by decide) ?_
                refine sk_aload_n K dL_law_393 rfl 1 rfl ?_
                refine sk_aload_nF K dL_law_394 rfl 0 rfl ?_
                refine sk_iload_n K dL_law_395 rfl 3 rfl ?_
                refine sk_iconst (1 : Int32) K dL_law_396 (by decide) ?_
                refine sk_iadd K dL_law_397 ?_
                obtain ⟨v117, e118, hf⟩ := sk_ob hf
                refine sk_sld K hScr dL_law_398 e118 ?_
                obtain ⟨h121, hf⟩ := sk_ib hf
                obtain ⟨v119, e120, hf⟩ := sk_ob hf
                refine sk_callV (As := [.int v117]) (st := []) K dL_law_399 cl_L_36 h121 (sX10_putBack C l e120) (by decide) rfl rfl (Nat.le_of_ble_eq_true rfl) R1s1 R2s1 ?_
                refine sk_aload_n K dL_law_402 rfl 2 rfl ?_
                refine sk_aload_nF K dL_law_403 rfl 0 rfl ?_
                refine sk_iload_n K dL_law_404 rfl 3 rfl ?_
                refine sk_iconst (1 : Int32) K dL_law_405 (by decide) ?_
                refine sk_iadd K dL_law_406 ?_
                obtain ⟨v122, e123, hf⟩ := sk_ob hf
                refine sk_sld K hScr dL_law_407 e123 ?_
                obtain ⟨h127, hf⟩ := sk_ib hf
                obtain ⟨⟨v124, d126⟩, e125, hf⟩ := sk_ob hf
                try dsimp only at hf
                refine sk_callV (As := [.int v122]) (st := [.int v119]) K dL_law_408 cl_L_39 h127 (sX11_putBack C l e125) (by decide) rfl rfl (Nat.le_of_ble_eq_true rfl) R1s1 R2s1 ?_
                refine sk_icmp_eq 1427 K dL_law_411 (by decide) (fun h129 => ?_) (fun h129 => ?_)
                · rw [if_pos h129] at hf
                  refine sk_iinc (s1.1 + 6) [(3, .int (s1.1 + 6)), (0, .float 100), (1, .ref (S.1.1 + 1)), (2, .ref (S4.1.1 + 1))] K dL_law_1427 3 rfl rfl (by decide) rfl ?_
                  refine sk_goto 18 K dL_law_1430 (by decide) ?_
                  refine sk_sub [(0, .float 100), (1, .ref (S.1.1 + 1)), (2, .ref (S4.1.1 + 1)), (3, .int (s1.1 + 6))] [1, 2, 3, 0] rfl ?_
                  have h9 := ih1 _ (Option.some.inj hf).symm
                  exact h9 R1s1
                · rw [if_neg h129] at hf
                  refine sk_iconst (0 : Int32) K dL_law_414 (by decide) ?_
                  have hR130 : (false, s1.2.1, d126) = (rr, SS, dd) := hret1 _ (hx1 _ (Option.some.inj hf).symm)
                  exact sk_zret (x := false) K dL_law_415 rfl rfl (congrArg (fun z => z.1) hR130) (congrArg (fun z => z.2.1) hR130) (congrArg (fun z => z.2.2) hR130)
              · rw [if_neg h116] at hf
                by_cases h131 : (v15 &&& (63 : Int32)) = (6 : Int32)
                · rw [if_pos h131] at hf
                  refine sk_tsIn (6 : Int32) (383) 416 K dL_law_33 h131 (by decide) (by decide) rfl (by decide) ?_
                  refine sk_aload_n K dL_law_416 rfl 1 rfl ?_
                  obtain ⟨h134, hf⟩ := sk_ib hf
                  obtain ⟨v132, e133, hf⟩ := sk_ob hf
                  refine sk_callV (As := []) (st := []) K dL_law_417 cl_L_40 h134 (sX10_open C l e133) (by decide) rfl rfl (Nat.le_of_ble_eq_true rfl) R1s1 R2s1 ?_
                  refine sk_aload_n K dL_law_420 rfl 2 rfl ?_
                  obtain ⟨h138, hf⟩ := sk_ib hf
                  obtain ⟨⟨v135, d137⟩, e136, hf⟩ := sk_ob hf
                  try dsimp only at hf
                  refine sk_callV (As := []) (st := [.int v132]) K dL_law_421 cl_L_44 h138 (sX11_open C l e136) (by decide) rfl rfl (Nat.le_of_ble_eq_true rfl) R1s1 R2s1 ?_
                  refine sk_icmp_eq 1427 K dL_law_424 (by decide) (fun h140 => ?_) (fun h140 => ?_)
                  · rw [if_pos h140] at hf
                    refine sk_iinc (s1.1 + 6) [(3, .int (s1.1 + 6)), (0, .float 100), (1, .ref (S.1.1 + 1)), (2, .ref (S4.1.1 + 1))] K dL_law_1427 3 rfl rfl (by decide) rfl ?_
                    refine sk_goto 18 K dL_law_1430 (by decide) ?_
                    refine sk_sub [(0, .float 100), (1, .ref (S.1.1 + 1)), (2, .ref (S4.1.1 + 1)), (3, .int (s1.1 + 6))] [1, 2, 3, 0] rfl ?_
                    have h9 := ih1 _ (Option.some.inj hf).symm
                    exact h9 R1s1
                  · rw [if_neg h140] at hf
                    refine sk_iconst (0 : Int32) K dL_law_427 (by decide) ?_
                    have hR141 : (false, s1.2.1, d137) = (rr, SS, dd) := hret1 _ (hx1 _ (Option.some.inj hf).symm)
                    exact sk_zret (x := false) K dL_law_428 rfl rfl (congrArg (fun z => z.1) hR141) (congrArg (fun z => z.2.1) hR141) (congrArg (fun z => z.2.2) hR141)
                · rw [if_neg h131] at hf
                  by_cases h142 : (v15 &&& (63 : Int32)) = (7 : Int32)
                  · rw [if_pos h142] at hf
                    refine sk_tsIn (7 : Int32) (396) 429 K dL_law_33 h142 (by decide) (by decide) rfl (by decide) ?_
                    refine sk_aload_n K dL_law_429 rfl 1 rfl ?_
                    refine sk_aload_nF K dL_law_430 rfl 0 rfl ?_
                    refine sk_iload_n K dL_law_431 rfl 3 rfl ?_
                    refine sk_iconst (1 : Int32) K dL_law_432 (by decide) ?_
                    refine sk_iadd K dL_law_433 ?_
                    obtain ⟨v143, e144, hf⟩ := sk_ob hf
                    refine sk_sld K hScr dL_law_434 e144 ?_
                    obtain ⟨h148, hf⟩ := sk_ib hf
                    obtain ⟨⟨v145, d147⟩, e146, hf⟩ := sk_ob hf
                    try dsimp only at hf
                    refine sk_callV (As := [.int v143]) (st := []) K dL_law_435 cl_L_45 h148 (sX10_does C l e146) (by decide) rfl rfl (Nat.le_of_ble_eq_true rfl) R1s1 R2s1 ?_
                    refine sk_aload_n K dL_law_438 rfl 2 rfl ?_
                    refine sk_aload_nF K dL_law_439 rfl 0 rfl ?_
                    refine sk_iload_n K dL_law_440 rfl 3 rfl ?_
                    refine sk_iconst (1 : Int32) K dL_law_441 (by decide) ?_
                    refine sk_iadd K dL_law_442 ?_
                    obtain ⟨v150, e151, hf⟩ := sk_ob hf
                    refine sk_sld K hScr dL_law_443 e151 ?_
                    obtain ⟨h155, hf⟩ := sk_ib hf
                    obtain ⟨⟨v152, d154⟩, e153, hf⟩ := sk_ob hf
                    try dsimp only at hf
                    refine sk_callV (As := [.int v150]) (st := [.int v145]) K dL_law_444 cl_L_48 h155 (sX11_does C l e153) (by decide) rfl rfl (Nat.le_of_ble_eq_true rfl) R1s1 R2s1 ?_
                    refine sk_icmp_eq 1427 K dL_law_447 (by decide) (fun h157 => ?_) (fun h157 => ?_)
                    · rw [if_pos h157] at hf
                      refine sk_iinc (s1.1 + 6) [(3, .int (s1.1 + 6)), (0, .float 100), (1, .ref (S.1.1 + 1)), (2, .ref (S4.1.1 + 1))] K dL_law_1427 3 rfl rfl (by decide) rfl ?_
                      refine sk_goto 18 K dL_law_1430 (by decide) ?_
                      refine sk_sub [(0, .float 100), (1, .ref (S.1.1 + 1)), (2, .ref (S4.1.1 + 1)), (3, .int (s1.1 + 6))] [1, 2, 3, 0] rfl ?_
                      have h9 := ih1 _ (Option.some.inj hf).symm
                      exact h9 R1s1
                    · rw [if_neg h157] at hf
                      refine sk_iconst (0 : Int32) K dL_law_450 (by decide) ?_
                      have hR158 : (false, s1.2.1, d154) = (rr, SS, dd) := hret1 _ (hx1 _ (Option.some.inj hf).symm)
                      exact sk_zret (x := false) K dL_law_451 rfl rfl (congrArg (fun z => z.1) hR158) (congrArg (fun z => z.2.1) hR158) (congrArg (fun z => z.2.2) hR158)
                  · rw [if_neg h142] at hf
                    by_cases h159 : (v15 &&& (63 : Int32)) = (8 : Int32)
                    · rw [if_pos h159] at hf
                      refine sk_tsIn (8 : Int32) (419) 452 K dL_law_33 h159 (by decide) (by decide) rfl (by decide) ?_
                      refine sk_aload_n K dL_law_452 rfl 1 rfl ?_
                      refine sk_aload_nF K dL_law_453 rfl 0 rfl ?_
                      refine sk_iload_n K dL_law_454 rfl 3 rfl ?_
                      refine sk_iconst (1 : Int32) K dL_law_455 (by decide) ?_
                      refine sk_iadd K dL_law_456 ?_
                      obtain ⟨v160, e161, hf⟩ := sk_ob hf
                      refine sk_sld K hScr dL_law_457 e161 ?_
                      obtain ⟨h165, hf⟩ := sk_ib hf
                      obtain ⟨⟨v162, d164⟩, e163, hf⟩ := sk_ob hf
                      try dsimp only at hf
                      refine sk_callV (As := [.int v160]) (st := []) K dL_law_458 cl_L_49 h165 (sX10_drop C l e163) (by decide) rfl rfl (Nat.le_of_ble_eq_true rfl) R1s1 R2s1 ?_
                      refine sk_aload_n K dL_law_461 rfl 2 rfl ?_
                      refine sk_aload_nF K dL_law_462 rfl 0 rfl ?_
                      refine sk_iload_n K dL_law_463 rfl 3 rfl ?_
                      refine sk_iconst (1 : Int32) K dL_law_464 (by decide) ?_
                      refine sk_iadd K dL_law_465 ?_
                      obtain ⟨v167, e168, hf⟩ := sk_ob hf
                      refine sk_sld K hScr dL_law_466 e168 ?_
                      obtain ⟨h172, hf⟩ := sk_ib hf
                      obtain ⟨⟨v169, d171⟩, e170, hf⟩ := sk_ob hf
                      try dsimp only at hf
                      refine sk_callV (As := [.int v167]) (st := [.int v162]) K dL_law_467 cl_L_52 h172 (sX11_drop C l e170) (by decide) rfl rfl (Nat.le_of_ble_eq_true rfl) R1s1 R2s1 ?_
                      refine sk_icmp_eq 1427 K dL_law_470 (by decide) (fun h174 => ?_) (fun h174 => ?_)
                      · rw [if_pos h174] at hf
                        refine sk_iinc (s1.1 + 6) [(3, .int (s1.1 + 6)), (0, .float 100), (1, .ref (S.1.1 + 1)), (2, .ref (S4.1.1 + 1))] K dL_law_1427 3 rfl rfl (by decide) rfl ?_
                        refine sk_goto 18 K dL_law_1430 (by decide) ?_
                        refine sk_sub [(0, .float 100), (1, .ref (S.1.1 + 1)), (2, .ref (S4.1.1 + 1)), (3, .int (s1.1 + 6))] [1, 2, 3, 0] rfl ?_
                        have h9 := ih1 _ (Option.some.inj hf).symm
                        exact h9 R1s1
                      · rw [if_neg h174] at hf
                        refine sk_iconst (0 : Int32) K dL_law_473 (by decide) ?_
                        have hR175 : (false, s1.2.1, d171) = (rr, SS, dd) := hret1 _ (hx1 _ (Option.some.inj hf).symm)
                        exact sk_zret (x := false) K dL_law_474 rfl rfl (congrArg (fun z => z.1) hR175) (congrArg (fun z => z.2.1) hR175) (congrArg (fun z => z.2.2) hR175)
                    · rw [if_neg h159] at hf
                      by_cases h176 : (v15 &&& (63 : Int32)) = (9 : Int32)
                      · rw [if_pos h176] at hf
                        refine sk_tsIn (9 : Int32) (442) 475 K dL_law_33 h176 (by decide) (by decide) rfl (by decide) ?_
                        refine sk_aload_n K dL_law_475 rfl 1 rfl ?_
                        refine sk_aload_nF K dL_law_476 rfl 0 rfl ?_
                        refine sk_iload_n K dL_law_477 rfl 3 rfl ?_
                        refine sk_iconst (1 : Int32) K dL_law_478 (by decide) ?_
                        refine sk_iadd K dL_law_479 ?_
                        obtain ⟨v177, e178, hf⟩ := sk_ob hf
                        refine sk_sld K hScr dL_law_480 e178 ?_
                        obtain ⟨h182, hf⟩ := sk_ib hf
                        obtain ⟨⟨v179, d181⟩, e180, hf⟩ := sk_ob hf
                        try dsimp only at hf
                        refine sk_callV (As := [.int v177]) (st := []) K dL_law_481 cl_L_53 h182 (sX10_forge C l e180) (by decide) rfl rfl (Nat.le_of_ble_eq_true rfl) R1s1 R2s1 ?_
                        refine sk_aload_n K dL_law_484 rfl 2 rfl ?_
                        refine sk_aload_nF K dL_law_485 rfl 0 rfl ?_
                        refine sk_iload_n K dL_law_486 rfl 3 rfl ?_
                        refine sk_iconst (1 : Int32) K dL_law_487 (by decide) ?_
                        refine sk_iadd K dL_law_488 ?_
                        obtain ⟨v184, e185, hf⟩ := sk_ob hf
                        refine sk_sld K hScr dL_law_489 e185 ?_
                        obtain ⟨h189, hf⟩ := sk_ib hf
                        obtain ⟨⟨v186, d188⟩, e187, hf⟩ := sk_ob hf
                        try dsimp only at hf
                        refine sk_callV (As := [.int v184]) (st := [.int v179]) K dL_law_490 cl_L_56 h189 (sX11_forge C l e187) (by decide) rfl rfl (Nat.le_of_ble_eq_true rfl) R1s1 R2s1 ?_
                        refine sk_icmp_eq 1427 K dL_law_493 (by decide) (fun h191 => ?_) (fun h191 => ?_)
                        · rw [if_pos h191] at hf
                          refine sk_iinc (s1.1 + 6) [(3, .int (s1.1 + 6)), (0, .float 100), (1, .ref (S.1.1 + 1)), (2, .ref (S4.1.1 + 1))] K dL_law_1427 3 rfl rfl (by decide) rfl ?_
                          refine sk_goto 18 K dL_law_1430 (by decide) ?_
                          refine sk_sub [(0, .float 100), (1, .ref (S.1.1 + 1)), (2, .ref (S4.1.1 + 1)), (3, .int (s1.1 + 6))] [1, 2, 3, 0] rfl ?_
                          have h9 := ih1 _ (Option.some.inj hf).symm
                          exact h9 R1s1
                        · rw [if_neg h191] at hf
                          refine sk_iconst (0 : Int32) K dL_law_496 (by decide) ?_
                          have hR192 : (false, s1.2.1, d188) = (rr, SS, dd) := hret1 _ (hx1 _ (Option.some.inj hf).symm)
                          exact sk_zret (x := false) K dL_law_497 rfl rfl (congrArg (fun z => z.1) hR192) (congrArg (fun z => z.2.1) hR192) (congrArg (fun z => z.2.2) hR192)
                      · rw [if_neg h176] at hf
                        by_cases h193 : (v15 &&& (63 : Int32)) = (10 : Int32)
                        · rw [if_pos h193] at hf
                          refine sk_tsIn (10 : Int32) (465) 498 K dL_law_33 h193 (by decide) (by decide) rfl (by decide) ?_
                          refine sk_aload_n K dL_law_498 rfl 1 rfl ?_
                          refine sk_aload_nF K dL_law_499 rfl 0 rfl ?_
                          refine sk_iload_n K dL_law_500 rfl 3 rfl ?_
                          refine sk_iconst (1 : Int32) K dL_law_501 (by decide) ?_
                          refine sk_iadd K dL_law_502 ?_
                          obtain ⟨v194, e195, hf⟩ := sk_ob hf
                          refine sk_sld K hScr dL_law_503 e195 ?_
                          obtain ⟨h199, hf⟩ := sk_ib hf
                          obtain ⟨⟨v196, d198⟩, e197, hf⟩ := sk_ob hf
                          try dsimp only at hf
                          refine sk_callV (As := [.int v194]) (st := []) K dL_law_504 cl_L_57 h199 (sX10_ask C l e197) (by decide) rfl rfl (Nat.le_of_ble_eq_true rfl) R1s1 R2s1 ?_
                          refine sk_aload_n K dL_law_507 rfl 2 rfl ?_
                          refine sk_aload_nF K dL_law_508 rfl 0 rfl ?_
                          refine sk_iload_n K dL_law_509 rfl 3 rfl ?_
                          refine sk_iconst (1 : Int32) K dL_law_510 (by decide) ?_
                          refine sk_iadd K dL_law_511 ?_
                          obtain ⟨v201, e202, hf⟩ := sk_ob hf
                          refine sk_sld K hScr dL_law_512 e202 ?_
                          obtain ⟨h206, hf⟩ := sk_ib hf
                          obtain ⟨⟨v203, d205⟩, e204, hf⟩ := sk_ob hf
                          try dsimp only at hf
                          refine sk_callV (As := [.int v201]) (st := [.int v196]) K dL_law_513 cl_L_60 h206 (sX11_ask C l e204) (by decide) rfl rfl (Nat.le_of_ble_eq_true rfl) R1s1 R2s1 ?_
                          refine sk_icmp_eq 1427 K dL_law_516 (by decide) (fun h208 => ?_) (fun h208 => ?_)
                          · rw [if_pos h208] at hf
                            refine sk_iinc (s1.1 + 6) [(3, .int (s1.1 + 6)), (0, .float 100), (1, .ref (S.1.1 + 1)), (2, .ref (S4.1.1 + 1))] K dL_law_1427 3 rfl rfl (by decide) rfl ?_
                            refine sk_goto 18 K dL_law_1430 (by decide) ?_
                            refine sk_sub [(0, .float 100), (1, .ref (S.1.1 + 1)), (2, .ref (S4.1.1 + 1)), (3, .int (s1.1 + 6))] [1, 2, 3, 0] rfl ?_
                            have h9 := ih1 _ (Option.some.inj hf).symm
                            exact h9 R1s1
                          · rw [if_neg h208] at hf
                            refine sk_iconst (0 : Int32) K dL_law_519 (by decide) ?_
                            have hR209 : (false, s1.2.1, d205) = (rr, SS, dd) := hret1 _ (hx1 _ (Option.some.inj hf).symm)
                            exact sk_zret (x := false) K dL_law_520 rfl rfl (congrArg (fun z => z.1) hR209) (congrArg (fun z => z.2.1) hR209) (congrArg (fun z => z.2.2) hR209)
                        · rw [if_neg h193] at hf
                          by_cases h210 : (v15 &&& (63 : Int32)) = (11 : Int32)
                          · rw [if_pos h210] at hf
                            refine sk_tsIn (11 : Int32) (488) 521 K dL_law_33 h210 (by decide) (by decide) rfl (by decide) ?_
                            refine sk_aload_n K dL_law_521 rfl 1 rfl ?_
                            refine sk_aload_nF K dL_law_522 rfl 0 rfl ?_
                            refine sk_iload_n K dL_law_523 rfl 3 rfl ?_
                            refine sk_iconst (1 : Int32) K dL_law_524 (by decide) ?_
                            refine sk_iadd K dL_law_525 ?_
                            obtain ⟨v211, e212, hf⟩ := sk_ob hf
                            refine sk_sld K hScr dL_law_526 e212 ?_
                            obtain ⟨h216, hf⟩ := sk_ib hf
                            obtain ⟨⟨v213, d215⟩, e214, hf⟩ := sk_ob hf
                            try dsimp only at hf
                            refine sk_callV (As := [.int v211]) (st := []) K dL_law_527 cl_L_61 h216 (sX10_slip C l e214) (by decide) rfl rfl (Nat.le_of_ble_eq_true rfl) R1s1 R2s1 ?_
                            refine sk_aload_n K dL_law_530 rfl 2 rfl ?_
                            refine sk_aload_nF K dL_law_531 rfl 0 rfl ?_
                            refine sk_iload_n K dL_law_532 rfl 3 rfl ?_
                            refine sk_iconst (1 : Int32) K dL_law_533 (by decide) ?_
                            refine sk_iadd K dL_law_534 ?_
                            obtain ⟨v218, e219, hf⟩ := sk_ob hf
                            refine sk_sld K hScr dL_law_535 e219 ?_
                            obtain ⟨h223, hf⟩ := sk_ib hf
                            obtain ⟨⟨v220, d222⟩, e221, hf⟩ := sk_ob hf
                            try dsimp only at hf
                            refine sk_callV (As := [.int v218]) (st := [.int v213]) K dL_law_536 cl_L_64 h223 (sX11_slip C l e221) (by decide) rfl rfl (Nat.le_of_ble_eq_true rfl) R1s1 R2s1 ?_
                            refine sk_icmp_eq 1427 K dL_law_539 (by decide) (fun h225 => ?_) (fun h225 => ?_)
                            · rw [if_pos h225] at hf
                              refine sk_iinc (s1.1 + 6) [(3, .int (s1.1 + 6)), (0, .float 100), (1, .ref (S.1.1 + 1)), (2, .ref (S4.1.1 + 1))] K dL_law_1427 3 rfl rfl (by decide) rfl ?_
                              refine sk_goto 18 K dL_law_1430 (by decide) ?_
                              refine sk_sub [(0, .float 100), (1, .ref (S.1.1 + 1)), (2, .ref (S4.1.1 + 1)), (3, .int (s1.1 + 6))] [1, 2, 3, 0] rfl ?_
                              have h9 := ih1 _ (Option.some.inj hf).symm
                              exact h9 R1s1
                            · rw [if_neg h225] at hf
                              refine sk_iconst (0 : Int32) K dL_law_542 (by decide) ?_
                              have hR226 : (false, s1.2.1, d222) = (rr, SS, dd) := hret1 _ (hx1 _ (Option.some.inj hf).symm)
                              exact sk_zret (x := false) K dL_law_543 rfl rfl (congrArg (fun z => z.1) hR226) (congrArg (fun z => z.2.1) hR226) (congrArg (fun z => z.2.2) hR226)
                          · rw [if_neg h210] at hf
                            by_cases h227 : (v15 &&& (63 : Int32)) = (12 : Int32)
                            · rw [if_pos h227] at hf
                              refine sk_tsIn (12 : Int32) (511) 544 K dL_law_33 h227 (by decide) (by decide) rfl (by decide) ?_
                              refine sk_aload_n K dL_law_544 rfl 1 rfl ?_
                              refine sk_aload_nF K dL_law_545 rfl 0 rfl ?_
                              refine sk_iload_n K dL_law_546 rfl 3 rfl ?_
                              refine sk_iconst (1 : Int32) K dL_law_547 (by decide) ?_
                              refine sk_iadd K dL_law_548 ?_
                              obtain ⟨v228, e229, hf⟩ := sk_ob hf
                              refine sk_sld K hScr dL_law_549 e229 ?_
                              obtain ⟨h233, hf⟩ := sk_ib hf
                              obtain ⟨⟨v230, d232⟩, e231, hf⟩ := sk_ob hf
                              try dsimp only at hf
                              refine sk_callV (As := [.int v228]) (st := []) K dL_law_550 cl_L_65 h233 (sX10_undo C l e231) (by decide) rfl rfl (Nat.le_of_ble_eq_true rfl) R1s1 R2s1 ?_
                              refine sk_aload_n K dL_law_553 rfl 2 rfl ?_
                              refine sk_aload_nF K dL_law_554 rfl 0 rfl ?_
                              refine sk_iload_n K dL_law_555 rfl 3 rfl ?_
                              refine sk_iconst (1 : Int32) K dL_law_556 (by decide) ?_
                              refine sk_iadd K dL_law_557 ?_
                              obtain ⟨v235, e236, hf⟩ := sk_ob hf
                              refine sk_sld K hScr dL_law_558 e236 ?_
                              obtain ⟨h240, hf⟩ := sk_ib hf
                              obtain ⟨⟨v237, d239⟩, e238, hf⟩ := sk_ob hf
                              try dsimp only at hf
                              refine sk_callV (As := [.int v235]) (st := [.int v230]) K dL_law_559 cl_L_68 h240 (sX11_undo C l e238) (by decide) rfl rfl (Nat.le_of_ble_eq_true rfl) R1s1 R2s1 ?_
                              refine sk_icmp_eq 1427 K dL_law_562 (by decide) (fun h242 => ?_) (fun h242 => ?_)
                              · rw [if_pos h242] at hf
                                refine sk_iinc (s1.1 + 6) [(3, .int (s1.1 + 6)), (0, .float 100), (1, .ref (S.1.1 + 1)), (2, .ref (S4.1.1 + 1))] K dL_law_1427 3 rfl rfl (by decide) rfl ?_
                                refine sk_goto 18 K dL_law_1430 (by decide) ?_
                                refine sk_sub [(0, .float 100), (1, .ref (S.1.1 + 1)), (2, .ref (S4.1.1 + 1)), (3, .int (s1.1 + 6))] [1, 2, 3, 0] rfl ?_
                                have h9 := ih1 _ (Option.some.inj hf).symm
                                exact h9 R1s1
                              · rw [if_neg h242] at hf
                                refine sk_iconst (0 : Int32) K dL_law_565 (by decide) ?_
                                have hR243 : (false, s1.2.1, d239) = (rr, SS, dd) := hret1 _ (hx1 _ (Option.some.inj hf).symm)
                                exact sk_zret (x := false) K dL_law_566 rfl rfl (congrArg (fun z => z.1) hR243) (congrArg (fun z => z.2.1) hR243) (congrArg (fun z => z.2.2) hR243)
                            · rw [if_neg h227] at hf
                              by_cases h244 : (v15 &&& (63 : Int32)) = (13 : Int32)
                              · rw [if_pos h244] at hf
                                refine sk_tsIn (13 : Int32) (534) 567 K dL_law_33 h244 (by decide) (by decide) rfl (by decide) ?_
                                refine sk_aload_n K dL_law_567 rfl 1 rfl ?_
                                refine sk_aload_nF K dL_law_568 rfl 0 rfl ?_
                                refine sk_iload_n K dL_law_569 rfl 3 rfl ?_
                                refine sk_iconst (1 : Int32) K dL_law_570 (by decide) ?_
                                refine sk_iadd K dL_law_571 ?_
                                obtain ⟨v245, e246, hf⟩ := sk_ob hf
                                refine sk_sld K hScr dL_law_572 e246 ?_
                                refine sk_aload_nF K dL_law_573 rfl 0 rfl ?_
                                refine sk_iload_n K dL_law_574 rfl 3 rfl ?_
                                refine sk_iconst (2 : Int32) K dL_law_575 (by decide) ?_
                                refine sk_iadd K dL_law_576 ?_
                                obtain ⟨v247, e248, hf⟩ := sk_ob hf
                                refine sk_sld K hScr dL_law_577 e248 ?_
                                obtain ⟨h252, hf⟩ := sk_ib hf
                                obtain ⟨⟨v249, d251⟩, e250, hf⟩ := sk_ob hf
                                try dsimp only at hf
                                refine sk_callV (As := [.int v245, .int v247]) (st := []) K dL_law_578 cl_L_69 h252 (sX10_judge C l e250) (by decide) rfl rfl (Nat.le_of_ble_eq_true rfl) R1s1 R2s1 ?_
                                refine sk_aload_n K dL_law_581 rfl 2 rfl ?_
                                refine sk_aload_nF K dL_law_582 rfl 0 rfl ?_
                                refine sk_iload_n K dL_law_583 rfl 3 rfl ?_
                                refine sk_iconst (1 : Int32) K dL_law_584 (by decide) ?_
                                refine sk_iadd K dL_law_585 ?_
                                obtain ⟨v254, e255, hf⟩ := sk_ob hf
                                refine sk_sld K hScr dL_law_586 e255 ?_
                                refine sk_aload_nF K dL_law_587 rfl 0 rfl ?_
                                refine sk_iload_n K dL_law_588 rfl 3 rfl ?_
                                refine sk_iconst (2 : Int32) K dL_law_589 (by decide) ?_
                                refine sk_iadd K dL_law_590 ?_
                                obtain ⟨v256, e257, hf⟩ := sk_ob hf
                                refine sk_sld K hScr dL_law_591 e257 ?_
                                obtain ⟨h261, hf⟩ := sk_ib hf
                                obtain ⟨⟨v258, d260⟩, e259, hf⟩ := sk_ob hf
                                try dsimp only at hf
                                refine sk_callV (As := [.int v254, .int v256]) (st := [.int v249]) K dL_law_592 cl_L_72 h261 (sX11_judge C l e259) (by decide) rfl rfl (Nat.le_of_ble_eq_true rfl) R1s1 R2s1 ?_
                                refine sk_icmp_eq 1427 K dL_law_595 (by decide) (fun h263 => ?_) (fun h263 => ?_)
                                · rw [if_pos h263] at hf
                                  refine sk_iinc (s1.1 + 6) [(3, .int (s1.1 + 6)), (0, .float 100), (1, .ref (S.1.1 + 1)), (2, .ref (S4.1.1 + 1))] K dL_law_1427 3 rfl rfl (by decide) rfl ?_
                                  refine sk_goto 18 K dL_law_1430 (by decide) ?_
                                  refine sk_sub [(0, .float 100), (1, .ref (S.1.1 + 1)), (2, .ref (S4.1.1 + 1)), (3, .int (s1.1 + 6))] [1, 2, 3, 0] rfl ?_
                                  have h9 := ih1 _ (Option.some.inj hf).symm
                                  exact h9 R1s1
                                · rw [if_neg h263] at hf
                                  refine sk_iconst (0 : Int32) K dL_law_598 (by decide) ?_
                                  have hR264 : (false, s1.2.1, d260) = (rr, SS, dd) := hret1 _ (hx1 _ (Option.some.inj hf).symm)
                                  exact sk_zret (x := false) K dL_law_599 rfl rfl (congrArg (fun z => z.1) hR264) (congrArg (fun z => z.2.1) hR264) (congrArg (fun z => z.2.2) hR264)
                              · rw [if_neg h244] at hf
                                by_cases h265 : (v15 &&& (63 : Int32)) = (14 : Int32)
                                · rw [if_pos h265] at hf
                                  refine sk_tsIn (14 : Int32) (567) 600 K dL_law_33 h265 (by decide) (by decide) rfl (by decide) ?_
                                  refine sk_aload_n K dL_law_600 rfl 1 rfl ?_
                                  refine sk_aload_nF K dL_law_601 rfl 0 rfl ?_
                                  refine sk_iload_n K dL_law_602 rfl 3 rfl ?_
                                  refine sk_iconst (1 : Int32) K dL_law_603 (by decide) ?_
                                  refine sk_iadd K dL_law_604 ?_
                                  obtain ⟨v266, e267, hf⟩ := sk_ob hf
                                  refine sk_sld K hScr dL_law_605 e267 ?_
                                  obtain ⟨h271, hf⟩ := sk_ib hf
                                  obtain ⟨⟨v268, d270⟩, e269, hf⟩ := sk_ob hf
                                  try dsimp only at hf
                                  refine sk_callV (As := [.int v266]) (st := []) K dL_law_606 cl_L_73 h271 (sX10_perform C l e269) (by decide) rfl rfl (Nat.le_of_ble_eq_true rfl) R1s1 R2s1 ?_
                                  refine sk_aload_n K dL_law_609 rfl 2 rfl ?_
                                  refine sk_aload_nF K dL_law_610 rfl 0 rfl ?_
                                  refine sk_iload_n K dL_law_611 rfl 3 rfl ?_
                                  refine sk_iconst (1 : Int32) K dL_law_612 (by decide) ?_
                                  refine sk_iadd K dL_law_613 ?_
                                  obtain ⟨v273, e274, hf⟩ := sk_ob hf
                                  refine sk_sld K hScr dL_law_614 e274 ?_
                                  obtain ⟨h278, hf⟩ := sk_ib hf
                                  obtain ⟨⟨v275, d277⟩, e276, hf⟩ := sk_ob hf
                                  try dsimp only at hf
                                  refine sk_callV (As := [.int v273]) (st := [.int v268]) K dL_law_615 cl_L_76 h278 (sX11_perform C l e276) (by decide) rfl rfl (Nat.le_of_ble_eq_true rfl) R1s1 R2s1 ?_
                                  refine sk_icmp_eq 1427 K dL_law_618 (by decide) (fun h280 => ?_) (fun h280 => ?_)
                                  · rw [if_pos h280] at hf
                                    refine sk_iinc (s1.1 + 6) [(3, .int (s1.1 + 6)), (0, .float 100), (1, .ref (S.1.1 + 1)), (2, .ref (S4.1.1 + 1))] K dL_law_1427 3 rfl rfl (by decide) rfl ?_
                                    refine sk_goto 18 K dL_law_1430 (by decide) ?_
                                    refine sk_sub [(0, .float 100), (1, .ref (S.1.1 + 1)), (2, .ref (S4.1.1 + 1)), (3, .int (s1.1 + 6))] [1, 2, 3, 0] rfl ?_
                                    have h9 := ih1 _ (Option.some.inj hf).symm
                                    exact h9 R1s1
                                  · rw [if_neg h280] at hf
                                    refine sk_iconst (0 : Int32) K dL_law_621 (by decide) ?_
                                    have hR281 : (false, s1.2.1, d277) = (rr, SS, dd) := hret1 _ (hx1 _ (Option.some.inj hf).symm)
                                    exact sk_zret (x := false) K dL_law_622 rfl rfl (congrArg (fun z => z.1) hR281) (congrArg (fun z => z.2.1) hR281) (congrArg (fun z => z.2.2) hR281)
                                · rw [if_neg h265] at hf
                                  by_cases h282 : (v15 &&& (63 : Int32)) = (15 : Int32)
                                  · rw [if_pos h282] at hf
                                    refine sk_tsIn (15 : Int32) (590) 623 K dL_law_33 h282 (by decide) (by decide) rfl (by decide) ?_
                                    refine sk_aload_n K dL_law_623 rfl 1 rfl ?_
                                    refine sk_aload_nF K dL_law_624 rfl 0 rfl ?_
                                    refine sk_iload_n K dL_law_625 rfl 3 rfl ?_
                                    refine sk_iconst (1 : Int32) K dL_law_626 (by decide) ?_
                                    refine sk_iadd K dL_law_627 ?_
                                    obtain ⟨v283, e284, hf⟩ := sk_ob hf
                                    refine sk_sld K hScr dL_law_628 e284 ?_
                                    refine sk_aload_nF K dL_law_629 rfl 0 rfl ?_
                                    refine sk_iload_n K dL_law_630 rfl 3 rfl ?_
                                    refine sk_iconst (2 : Int32) K dL_law_631 (by decide) ?_
                                    refine sk_iadd K dL_law_632 ?_
                                    obtain ⟨v285, e286, hf⟩ := sk_ob hf
                                    refine sk_sld K hScr dL_law_633 e286 ?_
                                    obtain ⟨h290, hf⟩ := sk_ib hf
                                    obtain ⟨⟨v287, d289⟩, e288, hf⟩ := sk_ob hf
                                    try dsimp only at hf
                                    refine sk_callV (As := [.int v283, .int v285]) (st := []) K dL_law_634 cl_L_77 h290 (sX10_year C l e288) (by decide) rfl rfl (Nat.le_of_ble_eq_true rfl) R1s1 R2s1 ?_
                                    refine sk_aload_n K dL_law_637 rfl 2 rfl ?_
                                    refine sk_aload_nF K dL_law_638 rfl 0 rfl ?_
                                    refine sk_iload_n K dL_law_639 rfl 3 rfl ?_
                                    refine sk_iconst (1 : Int32) K dL_law_640 (by decide) ?_
                                    refine sk_iadd K dL_law_641 ?_
                                    obtain ⟨v292, e293, hf⟩ := sk_ob hf
                                    refine sk_sld K hScr dL_law_642 e293 ?_
                                    refine sk_aload_nF K dL_law_643 rfl 0 rfl ?_
                                    refine sk_iload_n K dL_law_644 rfl 3 rfl ?_
                                    refine sk_iconst (2 : Int32) K dL_law_645 (by decide) ?_
                                    refine sk_iadd K dL_law_646 ?_
                                    obtain ⟨v294, e295, hf⟩ := sk_ob hf
                                    refine sk_sld K hScr dL_law_647 e295 ?_
                                    obtain ⟨h299, hf⟩ := sk_ib hf
                                    obtain ⟨⟨v296, d298⟩, e297, hf⟩ := sk_ob hf
                                    try dsimp only at hf
                                    refine sk_callV (As := [.int v292, .int v294]) (st := [.int v287]) K dL_law_648 cl_L_80 h299 (sX11_year C l e297) (by decide) rfl rfl (Nat.le_of_ble_eq_true rfl) R1s1 R2s1 ?_
                                    refine sk_icmp_eq 1427 K dL_law_651 (by decide) (fun h301 => ?_) (fun h301 => ?_)
                                    · rw [if_pos h301] at hf
                                      refine sk_iinc (s1.1 + 6) [(3, .int (s1.1 + 6)), (0, .float 100), (1, .ref (S.1.1 + 1)), (2, .ref (S4.1.1 + 1))] K dL_law_1427 3 rfl rfl (by decide) rfl ?_
                                      refine sk_goto 18 K dL_law_1430 (by decide) ?_
                                      refine sk_sub [(0, .float 100), (1, .ref (S.1.1 + 1)), (2, .ref (S4.1.1 + 1)), (3, .int (s1.1 + 6))] [1, 2, 3, 0] rfl ?_
                                      have h9 := ih1 _ (Option.some.inj hf).symm
                                      exact h9 R1s1
                                    · rw [if_neg h301] at hf
                                      refine sk_iconst (0 : Int32) K dL_law_654 (by decide) ?_
                                      have hR302 : (false, s1.2.1, d298) = (rr, SS, dd) := hret1 _ (hx1 _ (Option.some.inj hf).symm)
                                      exact sk_zret (x := false) K dL_law_655 rfl rfl (congrArg (fun z => z.1) hR302) (congrArg (fun z => z.2.1) hR302) (congrArg (fun z => z.2.2) hR302)
                                  · rw [if_neg h282] at hf
                                    by_cases h303 : (v15 &&& (63 : Int32)) = (16 : Int32)
                                    · rw [if_pos h303] at hf
                                      refine sk_tsIn (16 : Int32) (623) 656 K dL_law_33 h303 (by decide) (by decide) rfl (by decide) ?_
                                      refine sk_aload_n K dL_law_656 rfl 1 rfl ?_
                                      refine sk_aload_nF K dL_law_657 rfl 0 rfl ?_
                                      refine sk_iload_n K dL_law_658 rfl 3 rfl ?_
                                      refine sk_iconst (1 : Int32) K dL_law_659 (by decide) ?_
                                      refine sk_iadd K dL_law_660 ?_
                                      obtain ⟨v304, e305, hf⟩ := sk_ob hf
                                      refine sk_sld K hScr dL_law_661 e305 ?_
                                      obtain ⟨h310, hf⟩ := sk_ib hf
                                      obtain ⟨⟨v306, S308, d309⟩, e307, hf⟩ := sk_ob hf
                                      try dsimp only at hf
                                      have R1_S308 := sk_le_tr R1s1 (mo_use (pr := (fun (z : Int32 × sk_S × sk_D) => z.2.1.1)) e307 (monoX10_soonest _ _ _ _))
                                      have R2_S308 : S308.1.1 ≤ SS.1.1 ∧ S308.1.2 ≤ SS.1.2 := sk_le_tr (mo_use (n := S308.1) (pr := (Sum.elim (fun (z : Int32 × sk_S × sk_D) => z.2.1.1) (fun (z : Bool × sk_S × sk_D) => z.2.1.1))) hf (by repeat' (first | exact mo_none | exact mo_some ⟨Nat.le_refl _, Nat.le_refl _⟩ | refine mo_pR (fun _ => ?_) | refine mo_mk (fun _ => ?_) | refine mo_sR24 (fun _ => ?_) | refine mo_sR25 (fun _ => ?_) | refine mo_A ⟨Nat.le_refl _, Nat.le_refl _⟩ (monoX10_init _ _ _) (fun _ => ?_) | refine mo_A (sk_nS_le _ _ _ _) (monoX10_init _ _ _) (fun _ => ?_) | refine mo_A ⟨Nat.le_refl _, Nat.le_refl _⟩ (monoX11_init _ _ _) (fun _ => ?_) | refine mo_A (sk_nS_le _ _ _ _) (monoX11_init _ _ _) (fun _ => ?_) | refine mo_A ⟨Nat.le_refl _, Nat.le_refl _⟩ (monoX10_soonest _ _ _ _) (fun _ => ?_) | refine mo_A (sk_nS_le _ _ _ _) (monoX10_soonest _ _ _ _) (fun _ => ?_) | refine mo_A ⟨Nat.le_refl _, Nat.le_refl _⟩ (monoX10_way _ _ _ _ _) (fun _ => ?_) | refine mo_A (sk_nS_le _ _ _ _) (monoX10_way _ _ _ _ _) (fun _ => ?_) | refine mo_A ⟨Nat.le_refl _, Nat.le_refl _⟩ (monoX10_shown _ _ _ _) (fun _ => ?_) | refine mo_A (sk_nS_le _ _ _ _) (monoX10_shown _ _ _ _) (fun _ => ?_) | refine mo_A ⟨Nat.le_refl _, Nat.le_refl _⟩ (monoX10_shownBy _ _ _ _ _) (fun _ => ?_) | refine mo_A (sk_nS_le _ _ _ _) (monoX10_shownBy _ _ _ _ _) (fun _ => ?_) | refine mo_A ⟨Nat.le_refl _, Nat.le_refl _⟩ (monoX10_rows _ _ _ _ _) (fun _ => ?_) | refine mo_A (sk_nS_le _ _ _ _) (monoX10_rows _ _ _ _ _) (fun _ => ?_) | refine mo_A ⟨Nat.le_refl _, Nat.le_refl _⟩ (monoX10_most _ _ _) (fun _ => ?_) | refine mo_A (sk_nS_le _ _ _ _) (monoX10_most _ _ _) (fun _ => ?_) | refine mo_A ⟨Nat.le_refl _, Nat.le_refl _⟩ (monoX10_stands _ _ _) (fun _ => ?_) | refine mo_A (sk_nS_le _ _ _ _) (monoX10_stands _ _ _) (fun _ => ?_) | refine mo_A ⟨Nat.le_refl _, Nat.le_refl _⟩ (monoX10_lists _ _ _ _ _) (fun _ => ?_) | refine mo_A (sk_nS_le _ _ _ _) (monoX10_lists _ _ _ _ _) (fun _ => ?_) | refine mo_bindQ (q := (fun (z : Bool × sk_S × sk_D) => z.2.1.1)) (mo_itr (μ := (fun (z : Int32 × sk_S × sk_D) => z.2.1.1)) (mono_fL_law_L18 _ _ _ _) _) (fun _ => ?_) | refine mo_ite ?_ ?_ | refine mo_bind (fun _ => ?_) | dsimp only | split))) RO1
                                      refine sk_callV (As := [.int v304]) (st := []) K dL_law_662 cl_L_81 h310 (sX10_soonest C l e307) (by decide) rfl rfl (Nat.le_of_ble_eq_true rfl) R1s1 R2_S308 ?_
                                      refine sk_aload_n K dL_law_665 rfl 2 rfl ?_
                                      refine sk_aload_nF K dL_law_666 rfl 0 rfl ?_
                                      refine sk_iload_n K dL_law_667 rfl 3 rfl ?_
                                      refine sk_iconst (1 : Int32) K dL_law_668 (by decide) ?_
                                      refine sk_iadd K dL_law_669 ?_
                                      obtain ⟨v312, e313, hf⟩ := sk_ob hf
                                      refine sk_sld K hScr dL_law_670 e313 ?_
                                      obtain ⟨h317, hf⟩ := sk_ib hf
                                      obtain ⟨⟨v314, d316⟩, e315, hf⟩ := sk_ob hf
                                      try dsimp only at hf
                                      refine sk_callV (As := [.int v312]) (st := [.int v306]) K dL_law_671 cl_L_84 h317 (sX11_soonest C l e315) (by decide) rfl rfl (Nat.le_of_ble_eq_true rfl) R1_S308 R2_S308 ?_
                                      refine sk_icmp_eq 1427 K dL_law_674 (by decide) (fun h319 => ?_) (fun h319 => ?_)
                                      · rw [if_pos h319] at hf
                                        refine sk_iinc (s1.1 + 6) [(3, .int (s1.1 + 6)), (0, .float 100), (1, .ref (S.1.1 + 1)), (2, .ref (S4.1.1 + 1))] K dL_law_1427 3 rfl rfl (by decide) rfl ?_
                                        refine sk_goto 18 K dL_law_1430 (by decide) ?_
                                        refine sk_sub [(0, .float 100), (1, .ref (S.1.1 + 1)), (2, .ref (S4.1.1 + 1)), (3, .int (s1.1 + 6))] [1, 2, 3, 0] rfl ?_
                                        have h9 := ih1 _ (Option.some.inj hf).symm
                                        exact h9 R1_S308
                                      · rw [if_neg h319] at hf
                                        refine sk_iconst (0 : Int32) K dL_law_677 (by decide) ?_
                                        have hR320 : (false, S308, d316) = (rr, SS, dd) := hret1 _ (hx1 _ (Option.some.inj hf).symm)
                                        exact sk_zret (x := false) K dL_law_678 rfl rfl (congrArg (fun z => z.1) hR320) (congrArg (fun z => z.2.1) hR320) (congrArg (fun z => z.2.2) hR320)
                                    · rw [if_neg h303] at hf
                                      by_cases h321 : (v15 &&& (63 : Int32)) = (17 : Int32)
                                      · rw [if_pos h321] at hf
                                        refine sk_tsIn (17 : Int32) (646) 679 K dL_law_33 h321 (by decide) (by decide) rfl (by decide) ?_
                                        refine sk_aload_n K dL_law_679 rfl 1 rfl ?_
                                        refine sk_aload_nF K dL_law_680 rfl 0 rfl ?_
                                        refine sk_iload_n K dL_law_681 rfl 3 rfl ?_
                                        refine sk_iconst (1 : Int32) K dL_law_682 (by decide) ?_
                                        refine sk_iadd K dL_law_683 ?_
                                        obtain ⟨v322, e323, hf⟩ := sk_ob hf
                                        refine sk_sld K hScr dL_law_684 e323 ?_
                                        refine sk_aload_nF K dL_law_685 rfl 0 rfl ?_
                                        refine sk_iload_n K dL_law_686 rfl 3 rfl ?_
                                        refine sk_iconst (2 : Int32) K dL_law_687 (by decide) ?_
                                        refine sk_iadd K dL_law_688 ?_
                                        obtain ⟨v324, e325, hf⟩ := sk_ob hf
                                        refine sk_sld K hScr dL_law_689 e325 ?_
                                        obtain ⟨h330, hf⟩ := sk_ib hf
                                        obtain ⟨⟨v326, S328, d329⟩, e327, hf⟩ := sk_ob hf
                                        try dsimp only at hf
                                        have R1_S328 := sk_le_tr R1s1 (mo_use (pr := (fun (z : Int32 × sk_S × sk_D) => z.2.1.1)) e327 (monoX10_way _ _ _ _ _))
                                        have R2_S328 : S328.1.1 ≤ SS.1.1 ∧ S328.1.2 ≤ SS.1.2 := sk_le_tr (mo_use (n := S328.1) (pr := (Sum.elim (fun (z : Int32 × sk_S × sk_D) => z.2.1.1) (fun (z : Bool × sk_S × sk_D) => z.2.1.1))) hf (by repeat' (first | exact mo_none | exact mo_some ⟨Nat.le_refl _, Nat.le_refl _⟩ | refine mo_pR (fun _ => ?_) | refine mo_mk (fun _ => ?_) | refine mo_sR24 (fun _ => ?_) | refine mo_sR25 (fun _ => ?_) | refine mo_A ⟨Nat.le_refl _, Nat.le_refl _⟩ (monoX10_init _ _ _) (fun _ => ?_) | refine mo_A (sk_nS_le _ _ _ _) (monoX10_init _ _ _) (fun _ => ?_) | refine mo_A ⟨Nat.le_refl _, Nat.le_refl _⟩ (monoX11_init _ _ _) (fun _ => ?_) | refine mo_A (sk_nS_le _ _ _ _) (monoX11_init _ _ _) (fun _ => ?_) | refine mo_A ⟨Nat.le_refl _, Nat.le_refl _⟩ (monoX10_soonest _ _ _ _) (fun _ => ?_) | refine mo_A (sk_nS_le _ _ _ _) (monoX10_soonest _ _ _ _) (fun _ => ?_) | refine mo_A ⟨Nat.le_refl _, Nat.le_refl _⟩ (monoX10_way _ _ _ _ _) (fun _ => ?_) | refine mo_A (sk_nS_le _ _ _ _) (monoX10_way _ _ _ _ _) (fun _ => ?_) | refine mo_A ⟨Nat.le_refl _, Nat.le_refl _⟩ (monoX10_shown _ _ _ _) (fun _ => ?_) | refine mo_A (sk_nS_le _ _ _ _) (monoX10_shown _ _ _ _) (fun _ => ?_) | refine mo_A ⟨Nat.le_refl _, Nat.le_refl _⟩ (monoX10_shownBy _ _ _ _ _) (fun _ => ?_) | refine mo_A (sk_nS_le _ _ _ _) (monoX10_shownBy _ _ _ _ _) (fun _ => ?_) | refine mo_A ⟨Nat.le_refl _, Nat.le_refl _⟩ (monoX10_rows _ _ _ _ _) (fun _ => ?_) | refine mo_A (sk_nS_le _ _ _ _) (monoX10_rows _ _ _ _ _) (fun _ => ?_) | refine mo_A ⟨Nat.le_refl _, Nat.le_refl _⟩ (monoX10_most _ _ _) (fun _ => ?_) | refine mo_A (sk_nS_le _ _ _ _) (monoX10_most _ _ _) (fun _ => ?_) | refine mo_A ⟨Nat.le_refl _, Nat.le_refl _⟩ (monoX10_stands _ _ _) (fun _ => ?_) | refine mo_A (sk_nS_le _ _ _ _) (monoX10_stands _ _ _) (fun _ => ?_) | refine mo_A ⟨Nat.le_refl _, Nat.le_refl _⟩ (monoX10_lists _ _ _ _ _) (fun _ => ?_) | refine mo_A (sk_nS_le _ _ _ _) (monoX10_lists _ _ _ _ _) (fun _ => ?_) | refine mo_bindQ (q := (fun (z : Bool × sk_S × sk_D) => z.2.1.1)) (mo_itr (μ := (fun (z : Int32 × sk_S × sk_D) => z.2.1.1)) (mono_fL_law_L18 _ _ _ _) _) (fun _ => ?_) | refine mo_ite ?_ ?_ | refine mo_bind (fun _ => ?_) | dsimp only | split))) RO1
                                        refine sk_callV (As := [.int v322, .int v324]) (st := []) K dL_law_690 cl_L_85 h330 (sX10_way C l e327) (by decide) rfl rfl (Nat.le_of_ble_eq_true rfl) R1s1 R2_S328 ?_
                                        refine sk_aload_n K dL_law_693 rfl 2 rfl ?_
                                        refine sk_aload_nF K dL_law_694 rfl 0 rfl ?_
                                        refine sk_iload_n K dL_law_695 rfl 3 rfl ?_
                                        refine sk_iconst (1 : Int32) K dL_law_696 (by decide) ?_
                                        refine sk_iadd K dL_law_697 ?_
                                        obtain ⟨v332, e333, hf⟩ := sk_ob hf
                                        refine sk_sld K hScr dL_law_698 e333 ?_
                                        refine sk_aload_nF K dL_law_699 rfl 0 rfl ?_
                                        refine sk_iload_n K dL_law_700 rfl 3 rfl ?_
                                        refine sk_iconst (2 : Int32) K dL_law_701 (by decide) ?_
                                        refine sk_iadd K dL_law_702 ?_
                                        obtain ⟨v334, e335, hf⟩ := sk_ob hf
                                        refine sk_sld K hScr dL_law_703 e335 ?_
                                        obtain ⟨h339, hf⟩ := sk_ib hf
                                        obtain ⟨⟨v336, d338⟩, e337, hf⟩ := sk_ob hf
                                        try dsimp only at hf
                                        refine sk_callV (As := [.int v332, .int v334]) (st := [.int v326]) K dL_law_704 cl_L_88 h339 (sX11_way C l e337) (by decide) rfl rfl (Nat.le_of_ble_eq_true rfl) R1_S328 R2_S328 ?_
                                        refine sk_icmp_eq 1427 K dL_law_707 (by decide) (fun h341 => ?_) (fun h341 => ?_)
                                        · rw [if_pos h341] at hf
                                          refine sk_iinc (s1.1 + 6) [(3, .int (s1.1 + 6)), (0, .float 100), (1, .ref (S.1.1 + 1)), (2, .ref (S4.1.1 + 1))] K dL_law_1427 3 rfl rfl (by decide) rfl ?_
                                          refine sk_goto 18 K dL_law_1430 (by decide) ?_
                                          refine sk_sub [(0, .float 100), (1, .ref (S.1.1 + 1)), (2, .ref (S4.1.1 + 1)), (3, .int (s1.1 + 6))] [1, 2, 3, 0] rfl ?_
                                          have h9 := ih1 _ (Option.some.inj hf).symm
                                          exact h9 R1_S328
                                        · rw [if_neg h341] at hf
                                          refine sk_iconst (0 : Int32) K dL_law_710 (by decide) ?_
                                          have hR342 : (false, S328, d338) = (rr, SS, dd) := hret1 _ (hx1 _ (Option.some.inj hf).symm)
                                          exact sk_zret (x := false) K dL_law_711 rfl rfl (congrArg (fun z => z.1) hR342) (congrArg (fun z => z.2.1) hR342) (congrArg (fun z => z.2.2) hR342)
                                      · rw [if_neg h321] at hf
                                        by_cases h343 : (v15 &&& (63 : Int32)) = (18 : Int32)
                                        · rw [if_pos h343] at hf
                                          refine sk_tsIn (18 : Int32) (679) 712 K dL_law_33 h343 (by decide) (by decide) rfl (by decide) ?_
                                          refine sk_aload_n K dL_law_712 rfl 1 rfl ?_
                                          refine sk_aload_nF K dL_law_713 rfl 0 rfl ?_
                                          refine sk_iload_n K dL_law_714 rfl 3 rfl ?_
                                          refine sk_iconst (1 : Int32) K dL_law_715 (by decide) ?_
                                          refine sk_iadd K dL_law_716 ?_
                                          obtain ⟨v344, e345, hf⟩ := sk_ob hf
                                          refine sk_sld K hScr dL_law_717 e345 ?_
                                          obtain ⟨h350, hf⟩ := sk_ib hf
                                          obtain ⟨⟨v346, S348, d349⟩, e347, hf⟩ := sk_ob hf
                                          try dsimp only at hf
                                          have R1_S348 := sk_le_tr R1s1 (mo_use (pr := (fun (z : Int32 × sk_S × sk_D) => z.2.1.1)) e347 (monoX10_shown _ _ _ _))
                                          have R2_S348 : S348.1.1 ≤ SS.1.1 ∧ S348.1.2 ≤ SS.1.2 := sk_le_tr (mo_use (n := S348.1) (pr := (Sum.elim (fun (z : Int32 × sk_S × sk_D) => z.2.1.1) (fun (z : Bool × sk_S × sk_D) => z.2.1.1))) hf (by repeat' (first | exact mo_none | exact mo_some ⟨Nat.le_refl _, Nat.le_refl _⟩ | refine mo_pR (fun _ => ?_) | refine mo_mk (fun _ => ?_) | refine mo_sR24 (fun _ => ?_) | refine mo_sR25 (fun _ => ?_) | refine mo_A ⟨Nat.le_refl _, Nat.le_refl _⟩ (monoX10_init _ _ _) (fun _ => ?_) | refine mo_A (sk_nS_le _ _ _ _) (monoX10_init _ _ _) (fun _ => ?_) | refine mo_A ⟨Nat.le_refl _, Nat.le_refl _⟩ (monoX11_init _ _ _) (fun _ => ?_) | refine mo_A (sk_nS_le _ _ _ _) (monoX11_init _ _ _) (fun _ => ?_) | refine mo_A ⟨Nat.le_refl _, Nat.le_refl _⟩ (monoX10_soonest _ _ _ _) (fun _ => ?_) | refine mo_A (sk_nS_le _ _ _ _) (monoX10_soonest _ _ _ _) (fun _ => ?_) | refine mo_A ⟨Nat.le_refl _, Nat.le_refl _⟩ (monoX10_way _ _ _ _ _) (fun _ => ?_) | refine mo_A (sk_nS_le _ _ _ _) (monoX10_way _ _ _ _ _) (fun _ => ?_) | refine mo_A ⟨Nat.le_refl _, Nat.le_refl _⟩ (monoX10_shown _ _ _ _) (fun _ => ?_) | refine mo_A (sk_nS_le _ _ _ _) (monoX10_shown _ _ _ _) (fun _ => ?_) | refine mo_A ⟨Nat.le_refl _, Nat.le_refl _⟩ (monoX10_shownBy _ _ _ _ _) (fun _ => ?_) | refine mo_A (sk_nS_le _ _ _ _) (monoX10_shownBy _ _ _ _ _) (fun _ => ?_) | refine mo_A ⟨Nat.le_refl _, Nat.le_refl _⟩ (monoX10_rows _ _ _ _ _) (fun _ => ?_) | refine mo_A (sk_nS_le _ _ _ _) (monoX10_rows _ _ _ _ _) (fun _ => ?_) | refine mo_A ⟨Nat.le_refl _, Nat.le_refl _⟩ (monoX10_most _ _ _) (fun _ => ?_) | refine mo_A (sk_nS_le _ _ _ _) (monoX10_most _ _ _) (fun _ => ?_) | refine mo_A ⟨Nat.le_refl _, Nat.le_refl _⟩ (monoX10_stands _ _ _) (fun _ => ?_) | refine mo_A (sk_nS_le _ _ _ _) (monoX10_stands _ _ _) (fun _ => ?_) | refine mo_A ⟨Nat.le_refl _, Nat.le_refl _⟩ (monoX10_lists _ _ _ _ _) (fun _ => ?_) | refine mo_A (sk_nS_le _ _ _ _) (monoX10_lists _ _ _ _ _) (fun _ => ?_) | refine mo_bindQ (q := (fun (z : Bool × sk_S × sk_D) => z.2.1.1)) (mo_itr (μ := (fun (z : Int32 × sk_S × sk_D) => z.2.1.1)) (mono_fL_law_L18 _ _ _ _) _) (fun _ => ?_) | refine mo_ite ?_ ?_ | refine mo_bind (fun _ => ?_) | dsimp only | split))) RO1
                                          refine sk_callV (As := [.int v344]) (st := []) K dL_law_718 cl_L_89 h350 (sX10_shown C l e347) (by decide) rfl rfl (Nat.le_of_ble_eq_true rfl) R1s1 R2_S348 ?_
                                          refine sk_aload_n K dL_law_721 rfl 2 rfl ?_
                                          refine sk_aload_nF K dL_law_722 rfl 0 rfl ?_
                                          refine sk_iload_n K dL_law_723 rfl 3 rfl ?_
                                          refine sk_iconst (1 : Int32) K dL_law_724 (by decide) ?_
                                          refine sk_iadd K dL_law_725 ?_
                                          obtain ⟨v352, e353, hf⟩ := sk_ob hf
                                          refine sk_sld K hScr dL_law_726 e353 ?_
                                          obtain ⟨h357, hf⟩ := sk_ib hf
                                          obtain ⟨⟨v354, d356⟩, e355, hf⟩ := sk_ob hf
                                          try dsimp only at hf
                                          refine sk_callV (As := [.int v352]) (st := [.int v346]) K dL_law_727 cl_L_92 h357 (sX11_shown C l e355) (by decide) rfl rfl (Nat.le_of_ble_eq_true rfl) R1_S348 R2_S348 ?_
                                          refine sk_icmp_eq 1427 K dL_law_730 (by decide) (fun h359 => ?_) (fun h359 => ?_)
                                          · rw [if_pos h359] at hf
                                            refine sk_iinc (s1.1 + 6) [(3, .int (s1.1 + 6)), (0, .float 100), (1, .ref (S.1.1 + 1)), (2, .ref (S4.1.1 + 1))] K dL_law_1427 3 rfl rfl (by decide) rfl ?_
                                            refine sk_goto 18 K dL_law_1430 (by decide) ?_
                                            refine sk_sub [(0, .float 100), (1, .ref (S.1.1 + 1)), (2, .ref (S4.1.1 + 1)), (3, .int (s1.1 + 6))] [1, 2, 3, 0] rfl ?_
                                            have h9 := ih1 _ (Option.some.inj hf).symm
                                            exact h9 R1_S348
                                          · rw [if_neg h359] at hf
                                            refine sk_iconst (0 : Int32) K dL_law_733 (by decide) ?_
                                            have hR360 : (false, S348, d356) = (rr, SS, dd) := hret1 _ (hx1 _ (Option.some.inj hf).symm)
                                            exact sk_zret (x := false) K dL_law_734 rfl rfl (congrArg (fun z => z.1) hR360) (congrArg (fun z => z.2.1) hR360) (congrArg (fun z => z.2.2) hR360)
                                        · rw [if_neg h343] at hf
                                          by_cases h361 : (v15 &&& (63 : Int32)) = (19 : Int32)
                                          · rw [if_pos h361] at hf
                                            refine sk_tsIn (19 : Int32) (702) 735 K dL_law_33 h361 (by decide) (by decide) rfl (by decide) ?_
                                            refine sk_aload_n K dL_law_735 rfl 1 rfl ?_
                                            refine sk_aload_nF K dL_law_736 rfl 0 rfl ?_
                                            refine sk_iload_n K dL_law_737 rfl 3 rfl ?_
                                            refine sk_iconst (1 : Int32) K dL_law_738 (by decide) ?_
                                            refine sk_iadd K dL_law_739 ?_
                                            obtain ⟨v362, e363, hf⟩ := sk_ob hf
                                            refine sk_sld K hScr dL_law_740 e363 ?_
                                            refine sk_aload_nF K dL_law_741 rfl 0 rfl ?_
                                            refine sk_iload_n K dL_law_742 rfl 3 rfl ?_
                                            refine sk_iconst (2 : Int32) K dL_law_743 (by decide) ?_
                                            refine sk_iadd K dL_law_744 ?_
                                            obtain ⟨v364, e365, hf⟩ := sk_ob hf
                                            refine sk_sld K hScr dL_law_745 e365 ?_
                                            obtain ⟨h370, hf⟩ := sk_ib hf
                                            obtain ⟨⟨v366, S368, d369⟩, e367, hf⟩ := sk_ob hf
                                            try dsimp only at hf
                                            have R1_S368 := sk_le_tr R1s1 (mo_use (pr := (fun (z : Int32 × sk_S × sk_D) => z.2.1.1)) e367 (monoX10_shownBy _ _ _ _ _))
                                            have R2_S368 : S368.1.1 ≤ SS.1.1 ∧ S368.1.2 ≤ SS.1.2 := sk_le_tr (mo_use (n := S368.1) (pr := (Sum.elim (fun (z : Int32 × sk_S × sk_D) => z.2.1.1) (fun (z : Bool × sk_S × sk_D) => z.2.1.1))) hf (by repeat' (first | exact mo_none | exact mo_some ⟨Nat.le_refl _, Nat.le_refl _⟩ | refine mo_pR (fun _ => ?_) | refine mo_mk (fun _ => ?_) | refine mo_sR24 (fun _ => ?_) | refine mo_sR25 (fun _ => ?_) | refine mo_A ⟨Nat.le_refl _, Nat.le_refl _⟩ (monoX10_init _ _ _) (fun _ => ?_) | refine mo_A (sk_nS_le _ _ _ _) (monoX10_init _ _ _) (fun _ => ?_) | refine mo_A ⟨Nat.le_refl _, Nat.le_refl _⟩ (monoX11_init _ _ _) (fun _ => ?_) | refine mo_A (sk_nS_le _ _ _ _) (monoX11_init _ _ _) (fun _ => ?_) | refine mo_A ⟨Nat.le_refl _, Nat.le_refl _⟩ (monoX10_soonest _ _ _ _) (fun _ => ?_) | refine mo_A (sk_nS_le _ _ _ _) (monoX10_soonest _ _ _ _) (fun _ => ?_) | refine mo_A ⟨Nat.le_refl _, Nat.le_refl _⟩ (monoX10_way _ _ _ _ _) (fun _ => ?_) | refine mo_A (sk_nS_le _ _ _ _) (monoX10_way _ _ _ _ _) (fun _ => ?_) | refine mo_A ⟨Nat.le_refl _, Nat.le_refl _⟩ (monoX10_shown _ _ _ _) (fun _ => ?_) | refine mo_A (sk_nS_le _ _ _ _) (monoX10_shown _ _ _ _) (fun _ => ?_) | refine mo_A ⟨Nat.le_refl _, Nat.le_refl _⟩ (monoX10_shownBy _ _ _ _ _) (fun _ => ?_) | refine mo_A (sk_nS_le _ _ _ _) (monoX10_shownBy _ _ _ _ _) (fun _ => ?_) | refine mo_A ⟨Nat.le_refl _, Nat.le_refl _⟩ (monoX10_rows _ _ _ _ _) (fun _ => ?_) | refine mo_A (sk_nS_le _ _ _ _) (monoX10_rows _ _ _ _ _) (fun _ => ?_) | refine mo_A ⟨Nat.le_refl _, Nat.le_refl _⟩ (monoX10_most _ _ _) (fun _ => ?_) | refine mo_A (sk_nS_le _ _ _ _) (monoX10_most _ _ _) (fun _ => ?_) | refine mo_A ⟨Nat.le_refl _, Nat.le_refl _⟩ (monoX10_stands _ _ _) (fun _ => ?_) | refine mo_A (sk_nS_le _ _ _ _) (monoX10_stands _ _ _) (fun _ => ?_) | refine mo_A ⟨Nat.le_refl _, Nat.le_refl _⟩ (monoX10_lists _ _ _ _ _) (fun _ => ?_) | refine mo_A (sk_nS_le _ _ _ _) (monoX10_lists _ _ _ _ _) (fun _ => ?_) | refine mo_bindQ (q := (fun (z : Bool × sk_S × sk_D) => z.2.1.1)) (mo_itr (μ := (fun (z : Int32 × sk_S × sk_D) => z.2.1.1)) (mono_fL_law_L18 _ _ _ _) _) (fun _ => ?_) | refine mo_ite ?_ ?_ | refine mo_bind (fun _ => ?_) | dsimp only | split))) RO1
                                            refine sk_callV (As := [.int v362, .int v364]) (st := []) K dL_law_746 cl_L_93 h370 (sX10_shownBy C l e367) (by decide) rfl rfl (Nat.le_of_ble_eq_true rfl) R1s1 R2_S368 ?_
                                            refine sk_aload_n K dL_law_749 rfl 2 rfl ?_
                                            refine sk_aload_nF K dL_law_750 rfl 0 rfl ?_
                                            refine sk_iload_n K dL_law_751 rfl 3 rfl ?_
                                            refine sk_iconst (1 : Int32) K dL_law_752 (by decide) ?_
                                            refine sk_iadd K dL_law_753 ?_
                                            obtain ⟨v372, e373, hf⟩ := sk_ob hf
                                            refine sk_sld K hScr dL_law_754 e373 ?_
                                            refine sk_aload_nF K dL_law_755 rfl 0 rfl ?_
                                            refine sk_iload_n K dL_law_756 rfl 3 rfl ?_
                                            refine sk_iconst (2 : Int32) K dL_law_757 (by decide) ?_
                                            refine sk_iadd K dL_law_758 ?_
                                            obtain ⟨v374, e375, hf⟩ := sk_ob hf
                                            refine sk_sld K hScr dL_law_759 e375 ?_
                                            obtain ⟨h379, hf⟩ := sk_ib hf
                                            obtain ⟨⟨v376, d378⟩, e377, hf⟩ := sk_ob hf
                                            try dsimp only at hf
                                            refine sk_callV (As := [.int v372, .int v374]) (st := [.int v366]) K dL_law_760 cl_L_96 h379 (sX11_shownBy C l e377) (by decide) rfl rfl (Nat.le_of_ble_eq_true rfl) R1_S368 R2_S368 ?_
                                            refine sk_icmp_eq 1427 K dL_law_763 (by decide) (fun h381 => ?_) (fun h381 => ?_)
                                            · rw [if_pos h381] at hf
                                              refine sk_iinc (s1.1 + 6) [(3, .int (s1.1 + 6)), (0, .float 100), (1, .ref (S.1.1 + 1)), (2, .ref (S4.1.1 + 1))] K dL_law_1427 3 rfl rfl (by decide) rfl ?_
                                              refine sk_goto 18 K dL_law_1430 (by decide) ?_
                                              refine sk_sub [(0, .float 100), (1, .ref (S.1.1 + 1)), (2, .ref (S4.1.1 + 1)), (3, .int (s1.1 + 6))] [1, 2, 3, 0] rfl ?_
                                              have h9 := ih1 _ (Option.some.inj hf).symm
                                              exact h9 R1_S368
                                            · rw [if_neg h381] at hf
                                              refine sk_iconst (0 : Int32) K dL_law_766 (by decide) ?_
                                              have hR382 : (false, S368, d378) = (rr, SS, dd) := hret1 _ (hx1 _ (Option.some.inj hf).symm)
                                              exact sk_zret (x := false) K dL_law_767 rfl rfl (congrArg (fun z => z.1) hR382) (congrArg (fun z => z.2.1) hR382) (congrArg (fun z => z.2.2) hR382)
                                          · rw [if_neg h361] at hf
                                            by_cases h383 : (v15 &&& (63 : Int32)) = (20 : Int32)
                                            · rw [if_pos h383] at hf
                                              refine sk_tsIn (20 : Int32) (735) 768 K dL_law_33 h383 (by decide) (by decide) rfl (by decide) ?_
                                              refine sk_aload_n K dL_law_768 rfl 1 rfl ?_
                                              refine sk_aload_nF K dL_law_769 rfl 0 rfl ?_
                                              refine sk_iload_n K dL_law_770 rfl 3 rfl ?_
                                              refine sk_iconst (1 : Int32) K dL_law_771 (by decide) ?_
                                              refine sk_iadd K dL_law_772 ?_
                                              obtain ⟨v384, e385, hf⟩ := sk_ob hf
                                              refine sk_sld K hScr dL_law_773 e385 ?_
                                              refine sk_aload_nF K dL_law_774 rfl 0 rfl ?_
                                              refine sk_iload_n K dL_law_775 rfl 3 rfl ?_
                                              refine sk_iconst (2 : Int32) K dL_law_776 (by decide) ?_
                                              refine sk_iadd K dL_law_777 ?_
                                              obtain ⟨v386, e387, hf⟩ := sk_ob hf
                                              refine sk_sld K hScr dL_law_778 e387 ?_
                                              obtain ⟨h392, hf⟩ := sk_ib hf
                                              obtain ⟨⟨v388, S390, d391⟩, e389, hf⟩ := sk_ob hf
                                              try dsimp only at hf
                                              have R1_S390 := sk_le_tr R1s1 (mo_use (pr := (fun (z : Int64 × sk_S × sk_D) => z.2.1.1)) e389 (monoX10_rows _ _ _ _ _))
                                              have R2_S390 : S390.1.1 ≤ SS.1.1 ∧ S390.1.2 ≤ SS.1.2 := sk_le_tr (mo_use (n := S390.1) (pr := (Sum.elim (fun (z : Int32 × sk_S × sk_D) => z.2.1.1) (fun (z : Bool × sk_S × sk_D) => z.2.1.1))) hf (by repeat' (first | exact mo_none | exact mo_some ⟨Nat.le_refl _, Nat.le_refl _⟩ | refine mo_pR (fun _ => ?_) | refine mo_mk (fun _ => ?_) | refine mo_sR24 (fun _ => ?_) | refine mo_sR25 (fun _ => ?_) | refine mo_A ⟨Nat.le_refl _, Nat.le_refl _⟩ (monoX10_init _ _ _) (fun _ => ?_) | refine mo_A (sk_nS_le _ _ _ _) (monoX10_init _ _ _) (fun _ => ?_) | refine mo_A ⟨Nat.le_refl _, Nat.le_refl _⟩ (monoX11_init _ _ _) (fun _ => ?_) | refine mo_A (sk_nS_le _ _ _ _) (monoX11_init _ _ _) (fun _ => ?_) | refine mo_A ⟨Nat.le_refl _, Nat.le_refl _⟩ (monoX10_soonest _ _ _ _) (fun _ => ?_) | refine mo_A (sk_nS_le _ _ _ _) (monoX10_soonest _ _ _ _) (fun _ => ?_) | refine mo_A ⟨Nat.le_refl _, Nat.le_refl _⟩ (monoX10_way _ _ _ _ _) (fun _ => ?_) | refine mo_A (sk_nS_le _ _ _ _) (monoX10_way _ _ _ _ _) (fun _ => ?_) | refine mo_A ⟨Nat.le_refl _, Nat.le_refl _⟩ (monoX10_shown _ _ _ _) (fun _ => ?_) | refine mo_A (sk_nS_le _ _ _ _) (monoX10_shown _ _ _ _) (fun _ => ?_) | refine mo_A ⟨Nat.le_refl _, Nat.le_refl _⟩ (monoX10_shownBy _ _ _ _ _) (fun _ => ?_) | refine mo_A (sk_nS_le _ _ _ _) (monoX10_shownBy _ _ _ _ _) (fun _ => ?_) | refine mo_A ⟨Nat.le_refl _, Nat.le_refl _⟩ (monoX10_rows _ _ _ _ _) (fun _ => ?_) | refine mo_A (sk_nS_le _ _ _ _) (monoX10_rows _ _ _ _ _) (fun _ => ?_) | refine mo_A ⟨Nat.le_refl _, Nat.le_refl _⟩ (monoX10_most _ _ _) (fun _ => ?_) | refine mo_A (sk_nS_le _ _ _ _) (monoX10_most _ _ _) (fun _ => ?_) | refine mo_A ⟨Nat.le_refl _, Nat.le_refl _⟩ (monoX10_stands _ _ _) (fun _ => ?_) | refine mo_A (sk_nS_le _ _ _ _) (monoX10_stands _ _ _) (fun _ => ?_) | refine mo_A ⟨Nat.le_refl _, Nat.le_refl _⟩ (monoX10_lists _ _ _ _ _) (fun _ => ?_) | refine mo_A (sk_nS_le _ _ _ _) (monoX10_lists _ _ _ _ _) (fun _ => ?_) | refine mo_bindQ (q := (fun (z : Bool × sk_S × sk_D) => z.2.1.1)) (mo_itr (μ := (fun (z : Int32 × sk_S × sk_D) => z.2.1.1)) (mono_fL_law_L18 _ _ _ _) _) (fun _ => ?_) | refine mo_ite ?_ ?_ | refine mo_bind (fun _ => ?_) | dsimp only | split))) RO1
                                              refine sk_callV (As := [.int v384, .int v386]) (st := []) K dL_law_779 cl_L_97 h392 (sX10_rows C l e389) (by decide) rfl rfl (Nat.le_of_ble_eq_true rfl) R1s1 R2_S390 ?_
                                              refine sk_aload_n K dL_law_782 rfl 2 rfl ?_
                                              refine sk_aload_nF K dL_law_783 rfl 0 rfl ?_
                                              refine sk_iload_n K dL_law_784 rfl 3 rfl ?_
                                              refine sk_iconst (1 : Int32) K dL_law_785 (by decide) ?_
                                              refine sk_iadd K dL_law_786 ?_
                                              obtain ⟨v394, e395, hf⟩ := sk_ob hf
                                              refine sk_sld K hScr dL_law_787 e395 ?_
                                              refine sk_aload_nF K dL_law_788 rfl 0 rfl ?_
                                              refine sk_iload_n K dL_law_789 rfl 3 rfl ?_
                                              refine sk_iconst (2 : Int32) K dL_law_790 (by decide) ?_
                                              refine sk_iadd K dL_law_791 ?_
                                              obtain ⟨v396, e397, hf⟩ := sk_ob hf
                                              refine sk_sld K hScr dL_law_792 e397 ?_
                                              obtain ⟨h401, hf⟩ := sk_ib hf
                                              obtain ⟨⟨v398, d400⟩, e399, hf⟩ := sk_ob hf
                                              try dsimp only at hf
                                              refine sk_callV (As := [.int v394, .int v396]) (st := [.long v388]) K dL_law_793 cl_L_101 h401 (sX11_rows C l e399) (by decide) rfl rfl (Nat.le_of_ble_eq_true rfl) R1_S390 R2_S390 ?_
                                              refine sk_lcmp_eq 1427 K dL_law_796 dL_law_797 (by decide) (fun h403 => ?_) (fun h403 => ?_)
                                              · rw [if_pos h403] at hf
                                                refine sk_iinc (s1.1 + 6) [(3, .int (s1.1 + 6)), (0, .float 100), (1, .ref (S.1.1 + 1)), (2, .ref (S4.1.1 + 1))] K dL_law_1427 3 rfl rfl (by decide) rfl ?_
                                                refine sk_goto 18 K dL_law_1430 (by decide) ?_
                                                refine sk_sub [(0, .float 100), (1, .ref (S.1.1 + 1)), (2, .ref (S4.1.1 + 1)), (3, .int (s1.1 + 6))] [1, 2, 3, 0] rfl ?_
                                                have h9 := ih1 _ (Option.some.inj hf).symm
                                                exact h9 R1_S390
                                              · rw [if_neg h403] at hf
                                                refine sk_iconst (0 : Int32) K dL_law_800 (by decide) ?_
                                                have hR404 : (false, S390, d400) = (rr, SS, dd) := hret1 _ (hx1 _ (Option.some.inj hf).symm)
                                                exact sk_zret (x := false) K dL_law_801 rfl rfl (congrArg (fun z => z.1) hR404) (congrArg (fun z => z.2.1) hR404) (congrArg (fun z => z.2.2) hR404)
                                            · rw [if_neg h383] at hf
                                              by_cases h405 : (v15 &&& (63 : Int32)) = (21 : Int32)
                                              · rw [if_pos h405] at hf
                                                refine sk_tsIn (21 : Int32) (769) 802 K dL_law_33 h405 (by decide) (by decide) rfl (by decide) ?_
                                                refine sk_aload_n K dL_law_802 rfl 1 rfl ?_
                                                obtain ⟨h410, hf⟩ := sk_ib hf
                                                obtain ⟨⟨v406, S408, d409⟩, e407, hf⟩ := sk_ob hf
                                                try dsimp only at hf
                                                have R1_S408 := sk_le_tr R1s1 (mo_use (pr := (fun (z : Int32 × sk_S × sk_D) => z.2.1.1)) e407 (monoX10_most _ _ _))
                                                have R2_S408 : S408.1.1 ≤ SS.1.1 ∧ S408.1.2 ≤ SS.1.2 := sk_le_tr (mo_use (n := S408.1) (pr := (Sum.elim (fun (z : Int32 × sk_S × sk_D) => z.2.1.1) (fun (z : Bool × sk_S × sk_D) => z.2.1.1))) hf (by repeat' (first | exact mo_none | exact mo_some ⟨Nat.le_refl _, Nat.le_refl _⟩ | refine mo_pR (fun _ => ?_) | refine mo_mk (fun _ => ?_) | refine mo_sR24 (fun _ => ?_) | refine mo_sR25 (fun _ => ?_) | refine mo_A ⟨Nat.le_refl _, Nat.le_refl _⟩ (monoX10_init _ _ _) (fun _ => ?_) | refine mo_A (sk_nS_le _ _ _ _) (monoX10_init _ _ _) (fun _ => ?_) | refine mo_A ⟨Nat.le_refl _, Nat.le_refl _⟩ (monoX11_init _ _ _) (fun _ => ?_) | refine mo_A (sk_nS_le _ _ _ _) (monoX11_init _ _ _) (fun _ => ?_) | refine mo_A ⟨Nat.le_refl _, Nat.le_refl _⟩ (monoX10_soonest _ _ _ _) (fun _ => ?_) | refine mo_A (sk_nS_le _ _ _ _) (monoX10_soonest _ _ _ _) (fun _ => ?_) | refine mo_A ⟨Nat.le_refl _, Nat.le_refl _⟩ (monoX10_way _ _ _ _ _) (fun _ => ?_) | refine mo_A (sk_nS_le _ _ _ _) (monoX10_way _ _ _ _ _) (fun _ => ?_) | refine mo_A ⟨Nat.le_refl _, Nat.le_refl _⟩ (monoX10_shown _ _ _ _) (fun _ => ?_) | refine mo_A (sk_nS_le _ _ _ _) (monoX10_shown _ _ _ _) (fun _ => ?_) | refine mo_A ⟨Nat.le_refl _, Nat.le_refl _⟩ (monoX10_shownBy _ _ _ _ _) (fun _ => ?_) | refine mo_A (sk_nS_le _ _ _ _) (monoX10_shownBy _ _ _ _ _) (fun _ => ?_) | refine mo_A ⟨Nat.le_refl _, Nat.le_refl _⟩ (monoX10_rows _ _ _ _ _) (fun _ => ?_) | refine mo_A (sk_nS_le _ _ _ _) (monoX10_rows _ _ _ _ _) (fun _ => ?_) | refine mo_A ⟨Nat.le_refl _, Nat.le_refl _⟩ (monoX10_most _ _ _) (fun _ => ?_) | refine mo_A (sk_nS_le _ _ _ _) (monoX10_most _ _ _) (fun _ => ?_) | refine mo_A ⟨Nat.le_refl _, Nat.le_refl _⟩ (monoX10_stands _ _ _) (fun _ => ?_) | refine mo_A (sk_nS_le _ _ _ _) (monoX10_stands _ _ _) (fun _ => ?_) | refine mo_A ⟨Nat.le_refl _, Nat.le_refl _⟩ (monoX10_lists _ _ _ _ _) (fun _ => ?_) | refine mo_A (sk_nS_le _ _ _ _) (monoX10_lists _ _ _ _ _) (fun _ => ?_) | refine mo_bindQ (q := (fun (z : Bool × sk_S × sk_D) => z.2.1.1)) (mo_itr (μ := (fun (z : Int32 × sk_S × sk_D) => z.2.1.1)) (mono_fL_law_L18 _ _ _ _) _) (fun _ => ?_) | refine mo_ite ?_ ?_ | refine mo_bind (fun _ => ?_) | dsimp only | split))) RO1
                                                refine sk_callV (As := []) (st := []) K dL_law_803 cl_L_102 h410 (sX10_most C l e407) (by decide) rfl rfl (Nat.le_of_ble_eq_true rfl) R1s1 R2_S408 ?_
                                                refine sk_aload_n K dL_law_806 rfl 2 rfl ?_
                                                obtain ⟨h415, hf⟩ := sk_ib hf
                                                obtain ⟨⟨v412, d414⟩, e413, hf⟩ := sk_ob hf
                                                try dsimp only at hf
                                                refine sk_callV (As := []) (st := [.int v406]) K dL_law_807 cl_L_105 h415 (sX11_most C l e413) (by decide) rfl rfl (Nat.le_of_ble_eq_true rfl) R1_S408 R2_S408 ?_
                                                refine sk_icmp_eq 1427 K dL_law_810 (by decide) (fun h417 => ?_) (fun h417 => ?_)
                                                · rw [if_pos h417] at hf
                                                  refine sk_iinc (s1.1 + 6) [(3, .int (s1.1 + 6)), (0, .float 100), (1, .ref (S.1.1 + 1)), (2, .ref (S4.1.1 + 1))] K dL_law_1427 3 rfl rfl (by decide) rfl ?_
                                                  refine sk_goto 18 K dL_law_1430 (by decide) ?_
                                                  refine sk_sub [(0, .float 100), (1, .ref (S.1.1 + 1)), (2, .ref (S4.1.1 + 1)), (3, .int (s1.1 + 6))] [1, 2, 3, 0] rfl ?_
                                                  have h9 := ih1 _ (Option.some.inj hf).symm
                                                  exact h9 R1_S408
                                                · rw [if_neg h417] at hf
                                                  refine sk_iconst (0 : Int32) K dL_law_813 (by decide) ?_
                                                  have hR418 : (false, S408, d414) = (rr, SS, dd) := hret1 _ (hx1 _ (Option.some.inj hf).symm)
                                                  exact sk_zret (x := false) K dL_law_814 rfl rfl (congrArg (fun z => z.1) hR418) (congrArg (fun z => z.2.1) hR418) (congrArg (fun z => z.2.2) hR418)
                                              · rw [if_neg h405] at hf
                                                by_cases h419 : (v15 &&& (63 : Int32)) = (22 : Int32)
                                                · rw [if_pos h419] at hf
                                                  refine sk_tsIn (22 : Int32) (782) 815 K dL_law_33 h419 (by decide) (by decide) rfl (by decide) ?_
                                                  refine sk_aload_n K dL_law_815 rfl 1 rfl ?_
                                                  obtain ⟨h424, hf⟩ := sk_ib hf
                                                  obtain ⟨⟨v420, S422, d423⟩, e421, hf⟩ := sk_ob hf
                                                  try dsimp only at hf
                                                  have R1_S422 := sk_le_tr R1s1 (mo_use (pr := (fun (z : Int32 × sk_S × sk_D) => z.2.1.1)) e421 (monoX10_stands _ _ _))
                                                  have R2_S422 : S422.1.1 ≤ SS.1.1 ∧ S422.1.2 ≤ SS.1.2 := sk_le_tr (mo_use (n := S422.1) (pr := (Sum.elim (fun (z : Int32 × sk_S × sk_D) => z.2.1.1) (fun (z : Bool × sk_S × sk_D) => z.2.1.1))) hf (by repeat' (first | exact mo_none | exact mo_some ⟨Nat.le_refl _, Nat.le_refl _⟩ | refine mo_pR (fun _ => ?_) | refine mo_mk (fun _ => ?_) | refine mo_sR24 (fun _ => ?_) | refine mo_sR25 (fun _ => ?_) | refine mo_A ⟨Nat.le_refl _, Nat.le_refl _⟩ (monoX10_init _ _ _) (fun _ => ?_) | refine mo_A (sk_nS_le _ _ _ _) (monoX10_init _ _ _) (fun _ => ?_) | refine mo_A ⟨Nat.le_refl _, Nat.le_refl _⟩ (monoX11_init _ _ _) (fun _ => ?_) | refine mo_A (sk_nS_le _ _ _ _) (monoX11_init _ _ _) (fun _ => ?_) | refine mo_A ⟨Nat.le_refl _, Nat.le_refl _⟩ (monoX10_soonest _ _ _ _) (fun _ => ?_) | refine mo_A (sk_nS_le _ _ _ _) (monoX10_soonest _ _ _ _) (fun _ => ?_) | refine mo_A ⟨Nat.le_refl _, Nat.le_refl _⟩ (monoX10_way _ _ _ _ _) (fun _ => ?_) | refine mo_A (sk_nS_le _ _ _ _) (monoX10_way _ _ _ _ _) (fun _ => ?_) | refine mo_A ⟨Nat.le_refl _, Nat.le_refl _⟩ (monoX10_shown _ _ _ _) (fun _ => ?_) | refine mo_A (sk_nS_le _ _ _ _) (monoX10_shown _ _ _ _) (fun _ => ?_) | refine mo_A ⟨Nat.le_refl _, Nat.le_refl _⟩ (monoX10_shownBy _ _ _ _ _) (fun _ => ?_) | refine mo_A (sk_nS_le _ _ _ _) (monoX10_shownBy _ _ _ _ _) (fun _ => ?_) | refine mo_A ⟨Nat.le_refl _, Nat.le_refl _⟩ (monoX10_rows _ _ _ _ _) (fun _ => ?_) | refine mo_A (sk_nS_le _ _ _ _) (monoX10_rows _ _ _ _ _) (fun _ => ?_) | refine mo_A ⟨Nat.le_refl _, Nat.le_refl _⟩ (monoX10_most _ _ _) (fun _ => ?_) | refine mo_A (sk_nS_le _ _ _ _) (monoX10_most _ _ _) (fun _ => ?_) | refine mo_A ⟨Nat.le_refl _, Nat.le_refl _⟩ (monoX10_stands _ _ _) (fun _ => ?_) | refine mo_A (sk_nS_le _ _ _ _) (monoX10_stands _ _ _) (fun _ => ?_) | refine mo_A ⟨Nat.le_refl _, Nat.le_refl _⟩ (monoX10_lists _ _ _ _ _) (fun _ => ?_) | refine mo_A (sk_nS_le _ _ _ _) (monoX10_lists _ _ _ _ _) (fun _ => ?_) | refine mo_bindQ (q := (fun (z : Bool × sk_S × sk_D) => z.2.1.1)) (mo_itr (μ := (fun (z : Int32 × sk_S × sk_D) => z.2.1.1)) (mono_fL_law_L18 _ _ _ _) _) (fun _ => ?_) | refine mo_ite ?_ ?_ | refine mo_bind (fun _ => ?_) | dsimp only | split))) RO1
                                                  refine sk_callV (As := []) (st := []) K dL_law_816 cl_L_106 h424 (sX10_stands C l e421) (by decide) rfl rfl (Nat.le_of_ble_eq_true rfl) R1s1 R2_S422 ?_
                                                  refine sk_aload_n K dL_law_819 rfl 2 rfl ?_
                                                  obtain ⟨h429, hf⟩ := sk_ib hf
                                                  obtain ⟨⟨v426, d428⟩, e427, hf⟩ := sk_ob hf
                                                  try dsimp only at hf
                                                  refine sk_callV (As := []) (st := [.int v420]) K dL_law_820 cl_L_109 h429 (sX11_stands C l e427) (by decide) rfl rfl (Nat.le_of_ble_eq_true rfl) R1_S422 R2_S422 ?_
                                                  refine sk_icmp_eq 1427 K dL_law_823 (by decide) (fun h431 => ?_) (fun h431 => ?_)
                                                  · rw [if_pos h431] at hf
                                                    refine sk_iinc (s1.1 + 6) [(3, .int (s1.1 + 6)), (0, .float 100), (1, .ref (S.1.1 + 1)), (2, .ref (S4.1.1 + 1))] K dL_law_1427 3 rfl rfl (by decide) rfl ?_
                                                    refine sk_goto 18 K dL_law_1430 (by decide) ?_
                                                    refine sk_sub [(0, .float 100), (1, .ref (S.1.1 + 1)), (2, .ref (S4.1.1 + 1)), (3, .int (s1.1 + 6))] [1, 2, 3, 0] rfl ?_
                                                    have h9 := ih1 _ (Option.some.inj hf).symm
                                                    exact h9 R1_S422
                                                  · rw [if_neg h431] at hf
                                                    refine sk_iconst (0 : Int32) K dL_law_826 (by decide) ?_
                                                    have hR432 : (false, S422, d428) = (rr, SS, dd) := hret1 _ (hx1 _ (Option.some.inj hf).symm)
                                                    exact sk_zret (x := false) K dL_law_827 rfl rfl (congrArg (fun z => z.1) hR432) (congrArg (fun z => z.2.1) hR432) (congrArg (fun z => z.2.2) hR432)
                                                · rw [if_neg h419] at hf
                                                  by_cases h433 : (v15 &&& (63 : Int32)) = (23 : Int32)
                                                  · rw [if_pos h433] at hf
                                                    refine sk_tsIn (23 : Int32) (795) 828 K dL_law_33 h433 (by decide) (by decide) rfl (by decide) ?_
                                                    refine sk_aload_n K dL_law_828 rfl 1 rfl ?_
                                                    refine sk_aload_nF K dL_law_829 rfl 0 rfl ?_
                                                    refine sk_iload_n K dL_law_830 rfl 3 rfl ?_
                                                    refine sk_iconst (1 : Int32) K dL_law_831 (by decide) ?_
                                                    refine sk_iadd K dL_law_832 ?_
                                                    obtain ⟨v434, e435, hf⟩ := sk_ob hf
                                                    refine sk_sld K hScr dL_law_833 e435 ?_
                                                    obtain ⟨h438, hf⟩ := sk_ib hf
                                                    obtain ⟨v436, e437, hf⟩ := sk_ob hf
                                                    refine sk_callV (As := [.int v434]) (st := []) K dL_law_834 cl_L_110 h438 (sX10_gain C l e437) (by decide) rfl rfl (Nat.le_of_ble_eq_true rfl) R1s1 R2s1 ?_
                                                    refine sk_aload_n K dL_law_837 rfl 2 rfl ?_
                                                    refine sk_aload_nF K dL_law_838 rfl 0 rfl ?_
                                                    refine sk_iload_n K dL_law_839 rfl 3 rfl ?_
                                                    refine sk_iconst (1 : Int32) K dL_law_840 (by decide) ?_
                                                    refine sk_iadd K dL_law_841 ?_
                                                    obtain ⟨v439, e440, hf⟩ := sk_ob hf
                                                    refine sk_sld K hScr dL_law_842 e440 ?_
                                                    obtain ⟨h444, hf⟩ := sk_ib hf
                                                    obtain ⟨⟨v441, d443⟩, e442, hf⟩ := sk_ob hf
                                                    try dsimp only at hf
                                                    refine sk_callV (As := [.int v439]) (st := [.int v436]) K dL_law_843 cl_L_113 h444 (sX11_gain C l e442) (by decide) rfl rfl (Nat.le_of_ble_eq_true rfl) R1s1 R2s1 ?_
                                                    refine sk_icmp_eq 1427 K dL_law_846 (by decide) (fun h446 => ?_) (fun h446 => ?_)
                                                    · rw [if_pos h446] at hf
                                                      refine sk_iinc (s1.1 + 6) [(3, .int (s1.1 + 6)), (0, .float 100), (1, .ref (S.1.1 + 1)), (2, .ref (S4.1.1 + 1))] K dL_law_1427 3 rfl rfl (by decide) rfl ?_
                                                      refine sk_goto 18 K dL_law_1430 (by decide) ?_
                                                      refine sk_sub [(0, .float 100), (1, .ref (S.1.1 + 1)), (2, .ref (S4.1.1 + 1)), (3, .int (s1.1 + 6))] [1, 2, 3, 0] rfl ?_
                                                      have h9 := ih1 _ (Option.some.inj hf).symm
                                                      exact h9 R1s1
                                                    · rw [if_neg h446] at hf
                                                      refine sk_iconst (0 : Int32) K dL_law_849 (by decide) ?_
                                                      have hR447 : (false, s1.2.1, d443) = (rr, SS, dd) := hret1 _ (hx1 _ (Option.some.inj hf).symm)
                                                      exact sk_zret (x := false) K dL_law_850 rfl rfl (congrArg (fun z => z.1) hR447) (congrArg (fun z => z.2.1) hR447) (congrArg (fun z => z.2.2) hR447)
                                                  · rw [if_neg h433] at hf
                                                    by_cases h448 : (v15 &&& (63 : Int32)) = (24 : Int32)
                                                    · rw [if_pos h448] at hf
                                                      refine sk_tsIn (24 : Int32) (818) 851 K dL_law_33 h448 (by decide) (by decide) rfl (by decide) ?_
                                                      refine sk_aload_n K dL_law_851 rfl 1 rfl ?_
                                                      refine sk_aload_nF K dL_law_852 rfl 0 rfl ?_
                                                      refine sk_iload_n K dL_law_853 rfl 3 rfl ?_
                                                      refine sk_iconst (1 : Int32) K dL_law_854 (by decide) ?_
                                                      refine sk_iadd K dL_law_855 ?_
                                                      obtain ⟨v449, e450, hf⟩ := sk_ob hf
                                                      refine sk_sld K hScr dL_law_856 e450 ?_
                                                      obtain ⟨h453, hf⟩ := sk_ib hf
                                                      obtain ⟨v451, e452, hf⟩ := sk_ob hf
                                                      refine sk_callV (As := [.int v449]) (st := []) K dL_law_857 cl_L_114 h453 (sX10_pack C l e452) (by decide) rfl rfl (Nat.le_of_ble_eq_true rfl) R1s1 R2s1 ?_
                                                      refine sk_aload_n K dL_law_860 rfl 2 rfl ?_
                                                      refine sk_aload_nF K dL_law_861 rfl 0 rfl ?_
                                                      refine sk_iload_n K dL_law_862 rfl 3 rfl ?_
                                                      refine sk_iconst (1 : Int32) K dL_law_863 (by decide) ?_
                                                      refine sk_iadd K dL_law_864 ?_
                                                      obtain ⟨v454, e455, hf⟩ := sk_ob hf
                                                      refine sk_sld K hScr dL_law_865 e455 ?_
                                                      obtain ⟨h459, hf⟩ := sk_ib hf
                                                      obtain ⟨⟨v456, d458⟩, e457, hf⟩ := sk_ob hf
                                                      try dsimp only at hf
                                                      refine sk_callV (As := [.int v454]) (st := [.int v451]) K dL_law_866 cl_L_117 h459 (sX11_pack C l e457) (by decide) rfl rfl (Nat.le_of_ble_eq_true rfl) R1s1 R2s1 ?_
                                                      refine sk_icmp_eq 1427 K dL_law_869 (by decide) (fun h461 => ?_) (fun h461 => ?_)
                                                      · rw [if_pos h461] at hf
                                                        refine sk_iinc (s1.1 + 6) [(3, .int (s1.1 + 6)), (0, .float 100), (1, .ref (S.1.1 + 1)), (2, .ref (S4.1.1 + 1))] K dL_law_1427 3 rfl rfl (by decide) rfl ?_
                                                        refine sk_goto 18 K dL_law_1430 (by decide) ?_
                                                        refine sk_sub [(0, .float 100), (1, .ref (S.1.1 + 1)), (2, .ref (S4.1.1 + 1)), (3, .int (s1.1 + 6))] [1, 2, 3, 0] rfl ?_
                                                        have h9 := ih1 _ (Option.some.inj hf).symm
                                                        exact h9 R1s1
                                                      · rw [if_neg h461] at hf
                                                        refine sk_iconst (0 : Int32) K dL_law_872 (by decide) ?_
                                                        have hR462 : (false, s1.2.1, d458) = (rr, SS, dd) := hret1 _ (hx1 _ (Option.some.inj hf).symm)
                                                        exact sk_zret (x := false) K dL_law_873 rfl rfl (congrArg (fun z => z.1) hR462) (congrArg (fun z => z.2.1) hR462) (congrArg (fun z => z.2.2) hR462)
                                                    · rw [if_neg h448] at hf
                                                      by_cases h463 : (v15 &&& (63 : Int32)) = (25 : Int32)
                                                      · rw [if_pos h463] at hf
                                                        refine sk_tsIn (25 : Int32) (841) 874 K dL_law_33 h463 (by decide) (by decide) rfl (by decide) ?_
                                                        refine sk_aload_n K dL_law_874 rfl 1 rfl ?_
                                                        refine sk_aload_nF K dL_law_875 rfl 0 rfl ?_
                                                        refine sk_iload_n K dL_law_876 rfl 3 rfl ?_
                                                        refine sk_iconst (1 : Int32) K dL_law_877 (by decide) ?_
                                                        refine sk_iadd K dL_law_878 ?_
                                                        obtain ⟨v464, e465, hf⟩ := sk_ob hf
                                                        refine sk_sld K hScr dL_law_879 e465 ?_
                                                        obtain ⟨h469, hf⟩ := sk_ib hf
                                                        obtain ⟨⟨v466, d468⟩, e467, hf⟩ := sk_ob hf
                                                        try dsimp only at hf
                                                        refine sk_callV (As := [.int v464]) (st := []) K dL_law_880 cl_L_118 h469 (sX10_orders C l e467) (by decide) rfl rfl (Nat.le_of_ble_eq_true rfl) R1s1 R2s1 ?_
                                                        refine sk_aload_n K dL_law_883 rfl 2 rfl ?_
                                                        refine sk_aload_nF K dL_law_884 rfl 0 rfl ?_
                                                        refine sk_iload_n K dL_law_885 rfl 3 rfl ?_
                                                        refine sk_iconst (1 : Int32) K dL_law_886 (by decide) ?_
                                                        refine sk_iadd K dL_law_887 ?_
                                                        obtain ⟨v471, e472, hf⟩ := sk_ob hf
                                                        refine sk_sld K hScr dL_law_888 e472 ?_
                                                        obtain ⟨h476, hf⟩ := sk_ib hf
                                                        obtain ⟨⟨v473, d475⟩, e474, hf⟩ := sk_ob hf
                                                        try dsimp only at hf
                                                        refine sk_callV (As := [.int v471]) (st := [.int v466]) K dL_law_889 cl_L_121 h476 (sX11_orders C l e474) (by decide) rfl rfl (Nat.le_of_ble_eq_true rfl) R1s1 R2s1 ?_
                                                        refine sk_icmp_eq 1427 K dL_law_892 (by decide) (fun h478 => ?_) (fun h478 => ?_)
                                                        · rw [if_pos h478] at hf
                                                          refine sk_iinc (s1.1 + 6) [(3, .int (s1.1 + 6)), (0, .float 100), (1, .ref (S.1.1 + 1)), (2, .ref (S4.1.1 + 1))] K dL_law_1427 3 rfl rfl (by decide) rfl ?_
                                                          refine sk_goto 18 K dL_law_1430 (by decide) ?_
                                                          refine sk_sub [(0, .float 100), (1, .ref (S.1.1 + 1)), (2, .ref (S4.1.1 + 1)), (3, .int (s1.1 + 6))] [1, 2, 3, 0] rfl ?_
                                                          have h9 := ih1 _ (Option.some.inj hf).symm
                                                          exact h9 R1s1
                                                        · rw [if_neg h478] at hf
                                                          refine sk_iconst (0 : Int32) K dL_law_895 (by decide) ?_
                                                          have hR479 : (false, s1.2.1, d475) = (rr, SS, dd) := hret1 _ (hx1 _ (Option.some.inj hf).symm)
                                                          exact sk_zret (x := false) K dL_law_896 rfl rfl (congrArg (fun z => z.1) hR479) (congrArg (fun z => z.2.1) hR479) (congrArg (fun z => z.2.2) hR479)
                                                      · rw [if_neg h463] at hf
                                                        by_cases h480 : (v15 &&& (63 : Int32)) = (26 : Int32)
                                                        · rw [if_pos h480] at hf
                                                          refine sk_tsIn (26 : Int32) (864) 897 K dL_law_33 h480 (by decide) (by decide) rfl (by decide) ?_
                                                          refine sk_aload_n K dL_law_897 rfl 1 rfl ?_
                                                          refine sk_aload_nF K dL_law_898 rfl 0 rfl ?_
                                                          refine sk_iload_n K dL_law_899 rfl 3 rfl ?_
                                                          refine sk_iconst (1 : Int32) K dL_law_900 (by decide) ?_
                                                          refine sk_iadd K dL_law_901 ?_
                                                          obtain ⟨v481, e482, hf⟩ := sk_ob hf
                                                          refine sk_sld K hScr dL_law_902 e482 ?_
                                                          refine sk_aload_nF K dL_law_903 rfl 0 rfl ?_
                                                          refine sk_iload_n K dL_law_904 rfl 3 rfl ?_
                                                          refine sk_iconst (2 : Int32) K dL_law_905 (by decide) ?_
                                                          refine sk_iadd K dL_law_906 ?_
                                                          obtain ⟨v483, e484, hf⟩ := sk_ob hf
                                                          refine sk_sld K hScr dL_law_907 e484 ?_
                                                          obtain ⟨h488, hf⟩ := sk_ib hf
                                                          obtain ⟨⟨v485, d487⟩, e486, hf⟩ := sk_ob hf
                                                          try dsimp only at hf
                                                          refine sk_callV (As := [.int v481, .int v483]) (st := []) K dL_law_908 cl_L_122 h488 (sX10_order C l e486) (by decide) rfl rfl (Nat.le_of_ble_eq_true rfl) R1s1 R2s1 ?_
                                                          refine sk_aload_n K dL_law_911 rfl 2 rfl ?_
                                                          refine sk_aload_nF K dL_law_912 rfl 0 rfl ?_
                                                          refine sk_iload_n K dL_law_913 rfl 3 rfl ?_
                                                          refine sk_iconst (1 : Int32) K dL_law_914 (by decide) ?_
                                                          refine sk_iadd K dL_law_915 ?_
                                                          obtain ⟨v490, e491, hf⟩ := sk_ob hf
                                                          refine sk_sld K hScr dL_law_916 e491 ?_
                                                          refine sk_aload_nF K dL_law_917 rfl 0 rfl ?_
                                                          refine sk_iload_n K dL_law_918 rfl 3 rfl ?_
                                                          refine sk_iconst (2 : Int32) K dL_law_919 (by decide) ?_
                                                          refine sk_iadd K dL_law_920 ?_
                                                          obtain ⟨v492, e493, hf⟩ := sk_ob hf
                                                          refine sk_sld K hScr dL_law_921 e493 ?_
                                                          obtain ⟨h497, hf⟩ := sk_ib hf
                                                          obtain ⟨⟨v494, d496⟩, e495, hf⟩ := sk_ob hf
                                                          try dsimp only at hf
                                                          refine sk_callV (As := [.int v490, .int v492]) (st := [.int v485]) K dL_law_922 cl_L_125 h497 (sX11_order C l e495) (by decide) rfl rfl (Nat.le_of_ble_eq_true rfl) R1s1 R2s1 ?_
                                                          refine sk_icmp_eq 1427 K dL_law_925 (by decide) (fun h499 => ?_) (fun h499 => ?_)
                                                          · rw [if_pos h499] at hf
                                                            refine sk_iinc (s1.1 + 6) [(3, .int (s1.1 + 6)), (0, .float 100), (1, .ref (S.1.1 + 1)), (2, .ref (S4.1.1 + 1))] K dL_law_1427 3 rfl rfl (by decide) rfl ?_
                                                            refine sk_goto 18 K dL_law_1430 (by decide) ?_
                                                            refine sk_sub [(0, .float 100), (1, .ref (S.1.1 + 1)), (2, .ref (S4.1.1 + 1)), (3, .int (s1.1 + 6))] [1, 2, 3, 0] rfl ?_
                                                            have h9 := ih1 _ (Option.some.inj hf).symm
                                                            exact h9 R1s1
                                                          · rw [if_neg h499] at hf
                                                            refine sk_iconst (0 : Int32) K dL_law_928 (by decide) ?_
                                                            have hR500 : (false, s1.2.1, d496) = (rr, SS, dd) := hret1 _ (hx1 _ (Option.some.inj hf).symm)
                                                            exact sk_zret (x := false) K dL_law_929 rfl rfl (congrArg (fun z => z.1) hR500) (congrArg (fun z => z.2.1) hR500) (congrArg (fun z => z.2.2) hR500)
                                                        · rw [if_neg h480] at hf
                                                          by_cases h501 : (v15 &&& (63 : Int32)) = (27 : Int32)
                                                          · rw [if_pos h501] at hf
                                                            refine sk_tsIn (27 : Int32) (897) 930 K dL_law_33 h501 (by decide) (by decide) rfl (by decide) ?_
                                                            refine sk_aload_n K dL_law_930 rfl 1 rfl ?_
                                                            refine sk_aload_nF K dL_law_931 rfl 0 rfl ?_
                                                            refine sk_iload_n K dL_law_932 rfl 3 rfl ?_
                                                            refine sk_iconst (1 : Int32) K dL_law_933 (by decide) ?_
                                                            refine sk_iadd K dL_law_934 ?_
                                                            obtain ⟨v502, e503, hf⟩ := sk_ob hf
                                                            refine sk_sld K hScr dL_law_935 e503 ?_
                                                            refine sk_aload_nF K dL_law_936 rfl 0 rfl ?_
                                                            refine sk_iload_n K dL_law_937 rfl 3 rfl ?_
                                                            refine sk_iconst (2 : Int32) K dL_law_938 (by decide) ?_
                                                            refine sk_iadd K dL_law_939 ?_
                                                            obtain ⟨v504, e505, hf⟩ := sk_ob hf
                                                            refine sk_sld K hScr dL_law_940 e505 ?_
                                                            refine sk_aload_nF K dL_law_941 rfl 0 rfl ?_
                                                            refine sk_iload_n K dL_law_942 rfl 3 rfl ?_
                                                            refine sk_iconst (3 : Int32) K dL_law_943 (by decide) ?_
                                                            refine sk_iadd K dL_law_944 ?_
                                                            obtain ⟨v506, e507, hf⟩ := sk_ob hf
                                                            refine sk_sld K hScr dL_law_945 e507 ?_
                                                            obtain ⟨h511, hf⟩ := sk_ib hf
                                                            obtain ⟨⟨v508, d510⟩, e509, hf⟩ := sk_ob hf
                                                            try dsimp only at hf
                                                            refine sk_callV (As := [.int v502, .int v504, .int v506]) (st := []) K dL_law_946 cl_L_126 h511 (sX10_ahead C l e509) (by decide) rfl rfl (Nat.le_of_ble_eq_true rfl) R1s1 R2s1 ?_
                                                            refine sk_aload_n K dL_law_949 rfl 2 rfl ?_
                                                            refine sk_aload_nF K dL_law_950 rfl 0 rfl ?_
                                                            refine sk_iload_n K dL_law_951 rfl 3 rfl ?_
                                                            refine sk_iconst (1 : Int32) K dL_law_952 (by decide) ?_
                                                            refine sk_iadd K dL_law_953 ?_
                                                            obtain ⟨v513, e514, hf⟩ := sk_ob hf
                                                            refine sk_sld K hScr dL_law_954 e514 ?_
                                                            refine sk_aload_nF K dL_law_955 rfl 0 rfl ?_
                                                            refine sk_iload_n K dL_law_956 rfl 3 rfl ?_
                                                            refine sk_iconst (2 : Int32) K dL_law_957 (by decide) ?_
                                                            refine sk_iadd K dL_law_958 ?_
                                                            obtain ⟨v515, e516, hf⟩ := sk_ob hf
                                                            refine sk_sld K hScr dL_law_959 e516 ?_
                                                            refine sk_aload_nF K dL_law_960 rfl 0 rfl ?_
                                                            refine sk_iload_n K dL_law_961 rfl 3 rfl ?_
                                                            refine sk_iconst (3 : Int32) K dL_law_962 (by decide) ?_
                                                            refine sk_iadd K dL_law_963 ?_
                                                            obtain ⟨v517, e518, hf⟩ := sk_ob hf
                                                            refine sk_sld K hScr dL_law_964 e518 ?_
                                                            obtain ⟨h522, hf⟩ := sk_ib hf
                                                            obtain ⟨⟨v519, d521⟩, e520, hf⟩ := sk_ob hf
                                                            try dsimp only at hf
                                                            refine sk_callV (As := [.int v513, .int v515, .int v517]) (st := [.int v508]) K dL_law_965 cl_L_130 h522 (sX11_ahead C l e520) (by decide) rfl rfl (Nat.le_of_ble_eq_true rfl) R1s1 R2s1 ?_
                                                            refine sk_icmp_eq 1427 K dL_law_968 (by decide) (fun h524 => ?_) (fun h524 => ?_)
                                                            · rw [if_pos h524] at hf
                                                              refine sk_iinc (s1.1 + 6) [(3, .int (s1.1 + 6)), (0, .float 100), (1, .ref (S.1.1 + 1)), (2, .ref (S4.1.1 + 1))] K dL_law_1427 3 rfl rfl (by decide) rfl ?_
                                                              refine sk_goto 18 K dL_law_1430 (by decide) ?_
                                                              refine sk_sub [(0, .float 100), (1, .ref (S.1.1 + 1)), (2, .ref (S4.1.1 + 1)), (3, .int (s1.1 + 6))] [1, 2, 3, 0] rfl ?_
                                                              have h9 := ih1 _ (Option.some.inj hf).symm
                                                              exact h9 R1s1
                                                            · rw [if_neg h524] at hf
                                                              refine sk_iconst (0 : Int32) K dL_law_971 (by decide) ?_
                                                              have hR525 : (false, s1.2.1, d521) = (rr, SS, dd) := hret1 _ (hx1 _ (Option.some.inj hf).symm)
                                                              exact sk_zret (x := false) K dL_law_972 rfl rfl (congrArg (fun z => z.1) hR525) (congrArg (fun z => z.2.1) hR525) (congrArg (fun z => z.2.2) hR525)
                                                          · rw [if_neg h501] at hf
                                                            by_cases h526 : (v15 &&& (63 : Int32)) = (28 : Int32)
                                                            · rw [if_pos h526] at hf
                                                              refine sk_tsIn (28 : Int32) (940) 973 K dL_law_33 h526 (by decide) (by decide) rfl (by decide) ?_
                                                              refine sk_aload_n K dL_law_973 rfl 1 rfl ?_
                                                              refine sk_aload_nF K dL_law_974 rfl 0 rfl ?_
                                                              refine sk_iload_n K dL_law_975 rfl 3 rfl ?_
                                                              refine sk_iconst (1 : Int32) K dL_law_976 (by decide) ?_
                                                              refine sk_iadd K dL_law_977 ?_
                                                              obtain ⟨v527, e528, hf⟩ := sk_ob hf
                                                              refine sk_sld K hScr dL_law_978 e528 ?_
                                                              obtain ⟨h531, hf⟩ := sk_ib hf
                                                              obtain ⟨v529, e530, hf⟩ := sk_ob hf
                                                              refine sk_callV (As := [.int v527]) (st := []) K dL_law_979 cl_L_131 h531 (sX10_join C l e530) (by decide) rfl rfl (Nat.le_of_ble_eq_true rfl) R1s1 R2s1 ?_
                                                              refine sk_aload_n K dL_law_982 rfl 2 rfl ?_
                                                              refine sk_aload_nF K dL_law_983 rfl 0 rfl ?_
                                                              refine sk_iload_n K dL_law_984 rfl 3 rfl ?_
                                                              refine sk_iconst (1 : Int32) K dL_law_985 (by decide) ?_
                                                              refine sk_iadd K dL_law_986 ?_
                                                              obtain ⟨v532, e533, hf⟩ := sk_ob hf
                                                              refine sk_sld K hScr dL_law_987 e533 ?_
                                                              obtain ⟨h537, hf⟩ := sk_ib hf
                                                              obtain ⟨⟨v534, d536⟩, e535, hf⟩ := sk_ob hf
                                                              try dsimp only at hf
                                                              refine sk_callV (As := [.int v532]) (st := [.int v529]) K dL_law_988 cl_L_134 h537 (sX11_join C l e535) (by decide) rfl rfl (Nat.le_of_ble_eq_true rfl) R1s1 R2s1 ?_
                                                              refine sk_icmp_eq 1427 K dL_law_991 (by decide) (fun h539 => ?_) (fun h539 => ?_)
                                                              · rw [if_pos h539] at hf
                                                                refine sk_iinc (s1.1 + 6) [(3, .int (s1.1 + 6)), (0, .float 100), (1, .ref (S.1.1 + 1)), (2, .ref (S4.1.1 + 1))] K dL_law_1427 3 rfl rfl (by decide) rfl ?_
                                                                refine sk_goto 18 K dL_law_1430 (by decide) ?_
                                                                refine sk_sub [(0, .float 100), (1, .ref (S.1.1 + 1)), (2, .ref (S4.1.1 + 1)), (3, .int (s1.1 + 6))] [1, 2, 3, 0] rfl ?_
                                                                have h9 := ih1 _ (Option.some.inj hf).symm
                                                                exact h9 R1s1
                                                              · rw [if_neg h539] at hf
                                                                refine sk_iconst (0 : Int32) K dL_law_994 (by decide) ?_
                                                                have hR540 : (false, s1.2.1, d536) = (rr, SS, dd) := hret1 _ (hx1 _ (Option.some.inj hf).symm)
                                                                exact sk_zret (x := false) K dL_law_995 rfl rfl (congrArg (fun z => z.1) hR540) (congrArg (fun z => z.2.1) hR540) (congrArg (fun z => z.2.2) hR540)
                                                            · rw [if_neg h526] at hf
                                                              by_cases h541 : (v15 &&& (63 : Int32)) = (29 : Int32)
                                                              · rw [if_pos h541] at hf
                                                                refine sk_tsIn (29 : Int32) (963) 996 K dL_law_33 h541 (by decide) (by decide) rfl (by decide) ?_
                                                                refine sk_aload_n K dL_law_996 rfl 1 rfl ?_
                                                                obtain ⟨h544, hf⟩ := sk_ib hf
                                                                obtain ⟨v542, e543, hf⟩ := sk_ob hf
                                                                refine sk_callV (As := []) (st := []) K dL_law_997 cl_L_135 h544 (sX10_over C l e543) (by decide) rfl rfl (Nat.le_of_ble_eq_true rfl) R1s1 R2s1 ?_
                                                                refine sk_aload_n K dL_law_1000 rfl 2 rfl ?_
                                                                obtain ⟨h548, hf⟩ := sk_ib hf
                                                                obtain ⟨⟨v545, d547⟩, e546, hf⟩ := sk_ob hf
                                                                try dsimp only at hf
                                                                refine sk_callV (As := []) (st := [.int v542]) K dL_law_1001 cl_L_138 h548 (sX11_over C l e546) (by decide) rfl rfl (Nat.le_of_ble_eq_true rfl) R1s1 R2s1 ?_
                                                                refine sk_icmp_eq 1427 K dL_law_1004 (by decide) (fun h550 => ?_) (fun h550 => ?_)
                                                                · rw [if_pos h550] at hf
                                                                  refine sk_iinc (s1.1 + 6) [(3, .int (s1.1 + 6)), (0, .float 100), (1, .ref (S.1.1 + 1)), (2, .ref (S4.1.1 + 1))] K dL_law_1427 3 rfl rfl (by decide) rfl ?_
                                                                  refine sk_goto 18 K dL_law_1430 (by decide) ?_
                                                                  refine sk_sub [(0, .float 100), (1, .ref (S.1.1 + 1)), (2, .ref (S4.1.1 + 1)), (3, .int (s1.1 + 6))] [1, 2, 3, 0] rfl ?_
                                                                  have h9 := ih1 _ (Option.some.inj hf).symm
                                                                  exact h9 R1s1
                                                                · rw [if_neg h550] at hf
                                                                  refine sk_iconst (0 : Int32) K dL_law_1007 (by decide) ?_
                                                                  have hR551 : (false, s1.2.1, d547) = (rr, SS, dd) := hret1 _ (hx1 _ (Option.some.inj hf).symm)
                                                                  exact sk_zret (x := false) K dL_law_1008 rfl rfl (congrArg (fun z => z.1) hR551) (congrArg (fun z => z.2.1) hR551) (congrArg (fun z => z.2.2) hR551)
                                                              · rw [if_neg h541] at hf
                                                                by_cases h552 : (v15 &&& (63 : Int32)) = (30 : Int32)
                                                                · rw [if_pos h552] at hf
                                                                  refine sk_tsIn (30 : Int32) (976) 1009 K dL_law_33 h552 (by decide) (by decide) rfl (by decide) ?_
                                                                  refine sk_aload_n K dL_law_1009 rfl 1 rfl ?_
                                                                  refine sk_aload_nF K dL_law_1010 rfl 0 rfl ?_
                                                                  refine sk_iload_n K dL_law_1011 rfl 3 rfl ?_
                                                                  refine sk_iconst (1 : Int32) K dL_law_1012 (by decide) ?_
                                                                  refine sk_iadd K dL_law_1013 ?_
                                                                  obtain ⟨v553, e554, hf⟩ := sk_ob hf
                                                                  refine sk_sld K hScr dL_law_1014 e554 ?_
                                                                  obtain ⟨h558, hf⟩ := sk_ib hf
                                                                  obtain ⟨⟨v555, d557⟩, e556, hf⟩ := sk_ob hf
                                                                  try dsimp only at hf
                                                                  refine sk_callV (As := [.int v553]) (st := []) K dL_law_1015 cl_L_139 h558 (sX10_slips C l e556) (by decide) rfl rfl (Nat.le_of_ble_eq_true rfl) R1s1 R2s1 ?_
                                                                  refine sk_aload_n K dL_law_1018 rfl 2 rfl ?_
                                                                  refine sk_aload_nF K dL_law_1019 rfl 0 rfl ?_
                                                                  refine sk_iload_n K dL_law_1020 rfl 3 rfl ?_
                                                                  refine sk_iconst (1 : Int32) K dL_law_1021 (by decide) ?_
                                                                  refine sk_iadd K dL_law_1022 ?_
                                                                  obtain ⟨v560, e561, hf⟩ := sk_ob hf
                                                                  refine sk_sld K hScr dL_law_1023 e561 ?_
                                                                  obtain ⟨h565, hf⟩ := sk_ib hf
                                                                  obtain ⟨⟨v562, d564⟩, e563, hf⟩ := sk_ob hf
                                                                  try dsimp only at hf
                                                                  refine sk_callV (As := [.int v560]) (st := [.int v555]) K dL_law_1024 cl_L_142 h565 (sX11_slips C l e563) (by decide) rfl rfl (Nat.le_of_ble_eq_true rfl) R1s1 R2s1 ?_
                                                                  refine sk_icmp_eq 1427 K dL_law_1027 (by decide) (fun h567 => ?_) (fun h567 => ?_)
                                                                  · rw [if_pos h567] at hf
                                                                    refine sk_iinc (s1.1 + 6) [(3, .int (s1.1 + 6)), (0, .float 100), (1, .ref (S.1.1 + 1)), (2, .ref (S4.1.1 + 1))] K dL_law_1427 3 rfl rfl (by decide) rfl ?_
                                                                    refine sk_goto 18 K dL_law_1430 (by decide) ?_
                                                                    refine sk_sub [(0, .float 100), (1, .ref (S.1.1 + 1)), (2, .ref (S4.1.1 + 1)), (3, .int (s1.1 + 6))] [1, 2, 3, 0] rfl ?_
                                                                    have h9 := ih1 _ (Option.some.inj hf).symm
                                                                    exact h9 R1s1
                                                                  · rw [if_neg h567] at hf
                                                                    refine sk_iconst (0 : Int32) K dL_law_1030 (by decide) ?_
                                                                    have hR568 : (false, s1.2.1, d564) = (rr, SS, dd) := hret1 _ (hx1 _ (Option.some.inj hf).symm)
                                                                    exact sk_zret (x := false) K dL_law_1031 rfl rfl (congrArg (fun z => z.1) hR568) (congrArg (fun z => z.2.1) hR568) (congrArg (fun z => z.2.2) hR568)
                                                                · rw [if_neg h552] at hf
                                                                  by_cases h569 : (v15 &&& (63 : Int32)) = (31 : Int32)
                                                                  · rw [if_pos h569] at hf
                                                                    refine sk_tsIn (31 : Int32) (999) 1032 K dL_law_33 h569 (by decide) (by decide) rfl (by decide) ?_
                                                                    refine sk_aload_n K dL_law_1032 rfl 1 rfl ?_
                                                                    refine sk_aload_nF K dL_law_1033 rfl 0 rfl ?_
                                                                    refine sk_iload_n K dL_law_1034 rfl 3 rfl ?_
                                                                    refine sk_iconst (1 : Int32) K dL_law_1035 (by decide) ?_
                                                                    refine sk_iadd K dL_law_1036 ?_
                                                                    obtain ⟨v570, e571, hf⟩ := sk_ob hf
                                                                    refine sk_sld K hScr dL_law_1037 e571 ?_
                                                                    obtain ⟨h575, hf⟩ := sk_ib hf
                                                                    obtain ⟨⟨v572, d574⟩, e573, hf⟩ := sk_ob hf
                                                                    try dsimp only at hf
                                                                    refine sk_callV (As := [.int v570]) (st := []) K dL_law_1038 cl_L_143 h575 (sX10_attempt C l e573) (by decide) rfl rfl (Nat.le_of_ble_eq_true rfl) R1s1 R2s1 ?_
                                                                    refine sk_aload_n K dL_law_1041 rfl 2 rfl ?_
                                                                    refine sk_aload_nF K dL_law_1042 rfl 0 rfl ?_
                                                                    refine sk_iload_n K dL_law_1043 rfl 3 rfl ?_
                                                                    refine sk_iconst (1 : Int32) K dL_law_1044 (by decide) ?_
                                                                    refine sk_iadd K dL_law_1045 ?_
                                                                    obtain ⟨v577, e578, hf⟩ := sk_ob hf
                                                                    refine sk_sld K hScr dL_law_1046 e578 ?_
                                                                    obtain ⟨h582, hf⟩ := sk_ib hf
                                                                    obtain ⟨⟨v579, d581⟩, e580, hf⟩ := sk_ob hf
                                                                    try dsimp only at hf
                                                                    refine sk_callV (As := [.int v577]) (st := [.int v572]) K dL_law_1047 cl_L_146 h582 (sX11_attempt C l e580) (by decide) rfl rfl (Nat.le_of_ble_eq_true rfl) R1s1 R2s1 ?_
                                                                    refine sk_icmp_eq 1427 K dL_law_1050 (by decide) (fun h584 => ?_) (fun h584 => ?_)
                                                                    · rw [if_pos h584] at hf
                                                                      refine sk_iinc (s1.1 + 6) [(3, .int (s1.1 + 6)), (0, .float 100), (1, .ref (S.1.1 + 1)), (2, .ref (S4.1.1 + 1))] K dL_law_1427 3 rfl rfl (by decide) rfl ?_
                                                                      refine sk_goto 18 K dL_law_1430 (by decide) ?_
                                                                      refine sk_sub [(0, .float 100), (1, .ref (S.1.1 + 1)), (2, .ref (S4.1.1 + 1)), (3, .int (s1.1 + 6))] [1, 2, 3, 0] rfl ?_
                                                                      have h9 := ih1 _ (Option.some.inj hf).symm
                                                                      exact h9 R1s1
                                                                    · rw [if_neg h584] at hf
                                                                      refine sk_iconst (0 : Int32) K dL_law_1053 (by decide) ?_
                                                                      have hR585 : (false, s1.2.1, d581) = (rr, SS, dd) := hret1 _ (hx1 _ (Option.some.inj hf).symm)
                                                                      exact sk_zret (x := false) K dL_law_1054 rfl rfl (congrArg (fun z => z.1) hR585) (congrArg (fun z => z.2.1) hR585) (congrArg (fun z => z.2.2) hR585)
                                                                  · rw [if_neg h569] at hf
                                                                    by_cases h586 : (v15 &&& (63 : Int32)) = (32 : Int32)
                                                                    · rw [if_pos h586] at hf
                                                                      refine sk_tsIn (32 : Int32) (1022) 1055 K dL_law_33 h586 (by decide) (by decide) rfl (by decide) ?_
                                                                      refine sk_aload_n K dL_law_1055 rfl 1 rfl ?_
                                                                      refine sk_aload_nF K dL_law_1056 rfl 0 rfl ?_
                                                                      refine sk_iload_n K dL_law_1057 rfl 3 rfl ?_
                                                                      refine sk_iconst (1 : Int32) K dL_law_1058 (by decide) ?_
                                                                      refine sk_iadd K dL_law_1059 ?_
                                                                      obtain ⟨v587, e588, hf⟩ := sk_ob hf
                                                                      refine sk_sld K hScr dL_law_1060 e588 ?_
                                                                      obtain ⟨h592, hf⟩ := sk_ib hf
                                                                      obtain ⟨⟨v589, d591⟩, e590, hf⟩ := sk_ob hf
                                                                      try dsimp only at hf
                                                                      refine sk_callV (As := [.int v587]) (st := []) K dL_law_1061 cl_L_147 h592 (sX10_linings C l e590) (by decide) rfl rfl (Nat.le_of_ble_eq_true rfl) R1s1 R2s1 ?_
                                                                      refine sk_aload_n K dL_law_1064 rfl 2 rfl ?_
                                                                      refine sk_aload_nF K dL_law_1065 rfl 0 rfl ?_
                                                                      refine sk_iload_n K dL_law_1066 rfl 3 rfl ?_
                                                                      refine sk_iconst (1 : Int32) K dL_law_1067 (by decide) ?_
                                                                      refine sk_iadd K dL_law_1068 ?_
                                                                      obtain ⟨v594, e595, hf⟩ := sk_ob hf
                                                                      refine sk_sld K hScr dL_law_1069 e595 ?_
                                                                      obtain ⟨h599, hf⟩ := sk_ib hf
                                                                      obtain ⟨⟨v596, d598⟩, e597, hf⟩ := sk_ob hf
                                                                      try dsimp only at hf
                                                                      refine sk_callV (As := [.int v594]) (st := [.int v589]) K dL_law_1070 cl_L_150 h599 (sX11_linings C l e597) (by decide) rfl rfl (Nat.le_of_ble_eq_true rfl) R1s1 R2s1 ?_
                                                                      refine sk_icmp_eq 1427 K dL_law_1073 (by decide) (fun h601 => ?_) (fun h601 => ?_)
                                                                      · rw [if_pos h601] at hf
                                                                        refine sk_iinc (s1.1 + 6) [(3, .int (s1.1 + 6)), (0, .float 100), (1, .ref (S.1.1 + 1)), (2, .ref (S4.1.1 + 1))] K dL_law_1427 3 rfl rfl (by decide) rfl ?_
                                                                        refine sk_goto 18 K dL_law_1430 (by decide) ?_
                                                                        refine sk_sub [(0, .float 100), (1, .ref (S.1.1 + 1)), (2, .ref (S4.1.1 + 1)), (3, .int (s1.1 + 6))] [1, 2, 3, 0] rfl ?_
                                                                        have h9 := ih1 _ (Option.some.inj hf).symm
                                                                        exact h9 R1s1
                                                                      · rw [if_neg h601] at hf
                                                                        refine sk_iconst (0 : Int32) K dL_law_1076 (by decide) ?_
                                                                        have hR602 : (false, s1.2.1, d598) = (rr, SS, dd) := hret1 _ (hx1 _ (Option.some.inj hf).symm)
                                                                        exact sk_zret (x := false) K dL_law_1077 rfl rfl (congrArg (fun z => z.1) hR602) (congrArg (fun z => z.2.1) hR602) (congrArg (fun z => z.2.2) hR602)
                                                                    · rw [if_neg h586] at hf
                                                                      by_cases h603 : (v15 &&& (63 : Int32)) = (33 : Int32)
                                                                      · rw [if_pos h603] at hf
                                                                        refine sk_tsIn (33 : Int32) (1045) 1078 K dL_law_33 h603 (by decide) (by decide) rfl (by decide) ?_
                                                                        refine sk_aload_n K dL_law_1078 rfl 1 rfl ?_
                                                                        obtain ⟨h606, hf⟩ := sk_ib hf
                                                                        obtain ⟨v604, e605, hf⟩ := sk_ob hf
                                                                        refine sk_callV (As := []) (st := []) K dL_law_1079 cl_L_151 h606 (sX10_clique C l e605) (by decide) rfl rfl (Nat.le_of_ble_eq_true rfl) R1s1 R2s1 ?_
                                                                        refine sk_aload_n K dL_law_1082 rfl 2 rfl ?_
                                                                        obtain ⟨h610, hf⟩ := sk_ib hf
                                                                        obtain ⟨⟨v607, d609⟩, e608, hf⟩ := sk_ob hf
                                                                        try dsimp only at hf
                                                                        refine sk_callV (As := []) (st := [.int v604]) K dL_law_1083 cl_L_154 h610 (sX11_clique C l e608) (by decide) rfl rfl (Nat.le_of_ble_eq_true rfl) R1s1 R2s1 ?_
                                                                        refine sk_icmp_eq 1427 K dL_law_1086 (by decide) (fun h612 => ?_) (fun h612 => ?_)
                                                                        · rw [if_pos h612] at hf
                                                                          refine sk_iinc (s1.1 + 6) [(3, .int (s1.1 + 6)), (0, .float 100), (1, .ref (S.1.1 + 1)), (2, .ref (S4.1.1 + 1))] K dL_law_1427 3 rfl rfl (by decide) rfl ?_
                                                                          refine sk_goto 18 K dL_law_1430 (by decide) ?_
                                                                          refine sk_sub [(0, .float 100), (1, .ref (S.1.1 + 1)), (2, .ref (S4.1.1 + 1)), (3, .int (s1.1 + 6))] [1, 2, 3, 0] rfl ?_
                                                                          have h9 := ih1 _ (Option.some.inj hf).symm
                                                                          exact h9 R1s1
                                                                        · rw [if_neg h612] at hf
                                                                          refine sk_iconst (0 : Int32) K dL_law_1089 (by decide) ?_
                                                                          have hR613 : (false, s1.2.1, d609) = (rr, SS, dd) := hret1 _ (hx1 _ (Option.some.inj hf).symm)
                                                                          exact sk_zret (x := false) K dL_law_1090 rfl rfl (congrArg (fun z => z.1) hR613) (congrArg (fun z => z.2.1) hR613) (congrArg (fun z => z.2.2) hR613)
                                                                      · rw [if_neg h603] at hf
                                                                        by_cases h614 : (v15 &&& (63 : Int32)) = (34 : Int32)
                                                                        · rw [if_pos h614] at hf
                                                                          refine sk_tsIn (34 : Int32) (1058) 1091 K dL_law_33 h614 (by decide) (by decide) rfl (by decide) ?_
                                                                          refine sk_aload_n K dL_law_1091 rfl 1 rfl ?_
                                                                          refine sk_aload_nF K dL_law_1092 rfl 0 rfl ?_
                                                                          refine sk_iload_n K dL_law_1093 rfl 3 rfl ?_
                                                                          refine sk_iconst (1 : Int32) K dL_law_1094 (by decide) ?_
                                                                          refine sk_iadd K dL_law_1095 ?_
                                                                          obtain ⟨v615, e616, hf⟩ := sk_ob hf
                                                                          refine sk_sld K hScr dL_law_1096 e616 ?_
                                                                          obtain ⟨h620, hf⟩ := sk_ib hf
                                                                          obtain ⟨⟨v617, d619⟩, e618, hf⟩ := sk_ob hf
                                                                          try dsimp only at hf
                                                                          refine sk_callV (As := [.int v615]) (st := []) K dL_law_1097 cl_L_155 h620 (sX10_forces C l e618) (by decide) rfl rfl (Nat.le_of_ble_eq_true rfl) R1s1 R2s1 ?_
                                                                          refine sk_aload_n K dL_law_1100 rfl 2 rfl ?_
                                                                          refine sk_aload_nF K dL_law_1101 rfl 0 rfl ?_
                                                                          refine sk_iload_n K dL_law_1102 rfl 3 rfl ?_
                                                                          refine sk_iconst (1 : Int32) K dL_law_1103 (by decide) ?_
                                                                          refine sk_iadd K dL_law_1104 ?_
                                                                          obtain ⟨v622, e623, hf⟩ := sk_ob hf
                                                                          refine sk_sld K hScr dL_law_1105 e623 ?_
                                                                          obtain ⟨h627, hf⟩ := sk_ib hf
                                                                          obtain ⟨⟨v624, d626⟩, e625, hf⟩ := sk_ob hf
                                                                          try dsimp only at hf
                                                                          refine sk_callV (As := [.int v622]) (st := [.int v617]) K dL_law_1106 cl_L_158 h627 (sX11_forces C l e625) (by decide) rfl rfl (Nat.le_of_ble_eq_true rfl) R1s1 R2s1 ?_
                                                                          refine sk_icmp_eq 1427 K dL_law_1109 (by decide) (fun h629 => ?_) (fun h629 => ?_)
                                                                          · rw [if_pos h629] at hf
                                                                            refine sk_iinc (s1.1 + 6) [(3, .int (s1.1 + 6)), (0, .float 100), (1, .ref (S.1.1 + 1)), (2, .ref (S4.1.1 + 1))] K dL_law_1427 3 rfl rfl (by decide) rfl ?_
                                                                            refine sk_goto 18 K dL_law_1430 (by decide) ?_
                                                                            refine sk_sub [(0, .float 100), (1, .ref (S.1.1 + 1)), (2, .ref (S4.1.1 + 1)), (3, .int (s1.1 + 6))] [1, 2, 3, 0] rfl ?_
                                                                            have h9 := ih1 _ (Option.some.inj hf).symm
                                                                            exact h9 R1s1
                                                                          · rw [if_neg h629] at hf
                                                                            refine sk_iconst (0 : Int32) K dL_law_1112 (by decide) ?_
                                                                            have hR630 : (false, s1.2.1, d626) = (rr, SS, dd) := hret1 _ (hx1 _ (Option.some.inj hf).symm)
                                                                            exact sk_zret (x := false) K dL_law_1113 rfl rfl (congrArg (fun z => z.1) hR630) (congrArg (fun z => z.2.1) hR630) (congrArg (fun z => z.2.2) hR630)
                                                                        · rw [if_neg h614] at hf
                                                                          by_cases h631 : (v15 &&& (63 : Int32)) = (35 : Int32)
                                                                          · rw [if_pos h631] at hf
                                                                            refine sk_tsIn (35 : Int32) (1081) 1114 K dL_law_33 h631 (by decide) (by decide) rfl (by decide) ?_
                                                                            refine sk_aload_n K dL_law_1114 rfl 1 rfl ?_
                                                                            refine sk_aload_nF K dL_law_1115 rfl 0 rfl ?_
                                                                            refine sk_iload_n K dL_law_1116 rfl 3 rfl ?_
                                                                            refine sk_iconst (1 : Int32) K dL_law_1117 (by decide) ?_
                                                                            refine sk_iadd K dL_law_1118 ?_
                                                                            obtain ⟨v632, e633, hf⟩ := sk_ob hf
                                                                            refine sk_sld K hScr dL_law_1119 e633 ?_
                                                                            obtain ⟨h637, hf⟩ := sk_ib hf
                                                                            obtain ⟨⟨v634, d636⟩, e635, hf⟩ := sk_ob hf
                                                                            try dsimp only at hf
                                                                            refine sk_callV (As := [.int v632]) (st := []) K dL_law_1120 cl_L_159 h637 (sX10_best C l e635) (by decide) rfl rfl (Nat.le_of_ble_eq_true rfl) R1s1 R2s1 ?_
                                                                            refine sk_aload_n K dL_law_1123 rfl 2 rfl ?_
                                                                            refine sk_aload_nF K dL_law_1124 rfl 0 rfl ?_
                                                                            refine sk_iload_n K dL_law_1125 rfl 3 rfl ?_
                                                                            refine sk_iconst (1 : Int32) K dL_law_1126 (by decide) ?_
                                                                            refine sk_iadd K dL_law_1127 ?_
                                                                            obtain ⟨v639, e640, hf⟩ := sk_ob hf
                                                                            refine sk_sld K hScr dL_law_1128 e640 ?_
                                                                            obtain ⟨h644, hf⟩ := sk_ib hf
                                                                            obtain ⟨⟨v641, d643⟩, e642, hf⟩ := sk_ob hf
                                                                            try dsimp only at hf
                                                                            refine sk_callV (As := [.int v639]) (st := [.int v634]) K dL_law_1129 cl_L_162 h644 (sX11_best C l e642) (by decide) rfl rfl (Nat.le_of_ble_eq_true rfl) R1s1 R2s1 ?_
                                                                            refine sk_icmp_eq 1427 K dL_law_1132 (by decide) (fun h646 => ?_) (fun h646 => ?_)
                                                                            · rw [if_pos h646] at hf
                                                                              refine sk_iinc (s1.1 + 6) [(3, .int (s1.1 + 6)), (0, .float 100), (1, .ref (S.1.1 + 1)), (2, .ref (S4.1.1 + 1))] K dL_law_1427 3 rfl rfl (by decide) rfl ?_
                                                                              refine sk_goto 18 K dL_law_1430 (by decide) ?_
                                                                              refine sk_sub [(0, .float 100), (1, .ref (S.1.1 + 1)), (2, .ref (S4.1.1 + 1)), (3, .int (s1.1 + 6))] [1, 2, 3, 0] rfl ?_
                                                                              have h9 := ih1 _ (Option.some.inj hf).symm
                                                                              exact h9 R1s1
                                                                            · rw [if_neg h646] at hf
                                                                              refine sk_iconst (0 : Int32) K dL_law_1135 (by decide) ?_
                                                                              have hR647 : (false, s1.2.1, d643) = (rr, SS, dd) := hret1 _ (hx1 _ (Option.some.inj hf).symm)
                                                                              exact sk_zret (x := false) K dL_law_1136 rfl rfl (congrArg (fun z => z.1) hR647) (congrArg (fun z => z.2.1) hR647) (congrArg (fun z => z.2.2) hR647)
                                                                          · rw [if_neg h631] at hf
                                                                            by_cases h648 : (v15 &&& (63 : Int32)) = (36 : Int32)
                                                                            · rw [if_pos h648] at hf
                                                                              refine sk_tsIn (36 : Int32) (1104) 1137 K dL_law_33 h648 (by decide) (by decide) rfl (by decide) ?_
                                                                              refine sk_aload_n K dL_law_1137 rfl 1 rfl ?_
                                                                              refine sk_aload_nF K dL_law_1138 rfl 0 rfl ?_
                                                                              refine sk_iload_n K dL_law_1139 rfl 3 rfl ?_
                                                                              refine sk_iconst (1 : Int32) K dL_law_1140 (by decide) ?_
                                                                              refine sk_iadd K dL_law_1141 ?_
                                                                              obtain ⟨v649, e650, hf⟩ := sk_ob hf
                                                                              refine sk_sld K hScr dL_law_1142 e650 ?_
                                                                              refine sk_aload_nF K dL_law_1143 rfl 0 rfl ?_
                                                                              refine sk_iload_n K dL_law_1144 rfl 3 rfl ?_
                                                                              refine sk_iconst (2 : Int32) K dL_law_1145 (by decide) ?_
                                                                              refine sk_iadd K dL_law_1146 ?_
                                                                              obtain ⟨v651, e652, hf⟩ := sk_ob hf
                                                                              refine sk_sld K hScr dL_law_1147 e652 ?_
                                                                              obtain ⟨h655, hf⟩ := sk_ib hf
                                                                              obtain ⟨v653, e654, hf⟩ := sk_ob hf
                                                                              refine sk_callV (As := [.int v649, .int v651]) (st := []) K dL_law_1148 cl_L_163 h655 (sX10_chance C l e654) (by decide) rfl rfl (Nat.le_of_ble_eq_true rfl) R1s1 R2s1 ?_
                                                                              refine sk_aload_n K dL_law_1151 rfl 2 rfl ?_
                                                                              refine sk_aload_nF K dL_law_1152 rfl 0 rfl ?_
                                                                              refine sk_iload_n K dL_law_1153 rfl 3 rfl ?_
                                                                              refine sk_iconst (1 : Int32) K dL_law_1154 (by decide) ?_
                                                                              refine sk_iadd K dL_law_1155 ?_
                                                                              obtain ⟨v656, e657, hf⟩ := sk_ob hf
                                                                              refine sk_sld K hScr dL_law_1156 e657 ?_
                                                                              refine sk_aload_nF K dL_law_1157 rfl 0 rfl ?_
                                                                              refine sk_iload_n K dL_law_1158 rfl 3 rfl ?_
                                                                              refine sk_iconst (2 : Int32) K dL_law_1159 (by decide) ?_
                                                                              refine sk_iadd K dL_law_1160 ?_
                                                                              obtain ⟨v658, e659, hf⟩ := sk_ob hf
                                                                              refine sk_sld K hScr dL_law_1161 e659 ?_
                                                                              obtain ⟨h663, hf⟩ := sk_ib hf
                                                                              obtain ⟨⟨v660, d662⟩, e661, hf⟩ := sk_ob hf
                                                                              try dsimp only at hf
                                                                              refine sk_callV (As := [.int v656, .int v658]) (st := [.long v653]) K dL_law_1162 cl_L_166 h663 (sX11_chance C l e661) (by decide) rfl rfl (Nat.le_of_ble_eq_true rfl) R1s1 R2s1 ?_
                                                                              refine sk_lcmp_eq 1427 K dL_law_1165 dL_law_1166 (by decide) (fun h665 => ?_) (fun h665 => ?_)
                                                                              · rw [if_pos h665] at hf
                                                                                refine sk_iinc (s1.1 + 6) [(3, .int (s1.1 + 6)), (0, .float 100), (1, .ref (S.1.1 + 1)), (2, .ref (S4.1.1 + 1))] K dL_law_1427 3 rfl rfl (by decide) rfl ?_
                                                                                refine sk_goto 18 K dL_law_1430 (by decide) ?_
                                                                                refine sk_sub [(0, .float 100), (1, .ref (S.1.1 + 1)), (2, .ref (S4.1.1 + 1)), (3, .int (s1.1 + 6))] [1, 2, 3, 0] rfl ?_
                                                                                have h9 := ih1 _ (Option.some.inj hf).symm
                                                                                exact h9 R1s1
                                                                              · rw [if_neg h665] at hf
                                                                                refine sk_iconst (0 : Int32) K dL_law_1169 (by decide) ?_
                                                                                have hR666 : (false, s1.2.1, d662) = (rr, SS, dd) := hret1 _ (hx1 _ (Option.some.inj hf).symm)
                                                                                exact sk_zret (x := false) K dL_law_1170 rfl rfl (congrArg (fun z => z.1) hR666) (congrArg (fun z => z.2.1) hR666) (congrArg (fun z => z.2.2) hR666)
                                                                            · rw [if_neg h648] at hf
                                                                              by_cases h667 : (v15 &&& (63 : Int32)) = (37 : Int32)
                                                                              · rw [if_pos h667] at hf
                                                                                refine sk_tsIn (37 : Int32) (1138) 1171 K dL_law_33 h667 (by decide) (by decide) rfl (by decide) ?_
                                                                                refine sk_aload_n K dL_law_1171 rfl 1 rfl ?_
                                                                                refine sk_aload_nF K dL_law_1172 rfl 0 rfl ?_
                                                                                refine sk_iload_n K dL_law_1173 rfl 3 rfl ?_
                                                                                refine sk_iconst (1 : Int32) K dL_law_1174 (by decide) ?_
                                                                                refine sk_iadd K dL_law_1175 ?_
                                                                                obtain ⟨v668, e669, hf⟩ := sk_ob hf
                                                                                refine sk_sld K hScr dL_law_1176 e669 ?_
                                                                                obtain ⟨h672, hf⟩ := sk_ib hf
                                                                                obtain ⟨v670, e671, hf⟩ := sk_ob hf
                                                                                refine sk_callV (As := [.int v668]) (st := []) K dL_law_1177 cl_L_167 h672 (sX10_mean C l e671) (by decide) rfl rfl (Nat.le_of_ble_eq_true rfl) R1s1 R2s1 ?_
                                                                                refine sk_aload_n K dL_law_1180 rfl 2 rfl ?_
                                                                                refine sk_aload_nF K dL_law_1181 rfl 0 rfl ?_
                                                                                refine sk_iload_n K dL_law_1182 rfl 3 rfl ?_
                                                                                refine sk_iconst (1 : Int32) K dL_law_1183 (by decide) ?_
                                                                                refine sk_iadd K dL_law_1184 ?_
                                                                                obtain ⟨v673, e674, hf⟩ := sk_ob hf
                                                                                refine sk_sld K hScr dL_law_1185 e674 ?_
                                                                                obtain ⟨h678, hf⟩ := sk_ib hf
                                                                                obtain ⟨⟨v675, d677⟩, e676, hf⟩ := sk_ob hf
                                                                                try dsimp only at hf
                                                                                refine sk_callV (As := [.int v673]) (st := [.long v670]) K dL_law_1186 cl_L_171 h678 (sX11_mean C l e676) (by decide) rfl rfl (Nat.le_of_ble_eq_true rfl) R1s1 R2s1 ?_
                                                                                refine sk_lcmp_eq 1427 K dL_law_1189 dL_law_1190 (by decide) (fun h680 => ?_) (fun h680 => ?_)
                                                                                · rw [if_pos h680] at hf
                                                                                  refine sk_iinc (s1.1 + 6) [(3, .int (s1.1 + 6)), (0, .float 100), (1, .ref (S.1.1 + 1)), (2, .ref (S4.1.1 + 1))] K dL_law_1427 3 rfl rfl (by decide) rfl ?_
                                                                                  refine sk_goto 18 K dL_law_1430 (by decide) ?_
                                                                                  refine sk_sub [(0, .float 100), (1, .ref (S.1.1 + 1)), (2, .ref (S4.1.1 + 1)), (3, .int (s1.1 + 6))] [1, 2, 3, 0] rfl ?_
                                                                                  have h9 := ih1 _ (Option.some.inj hf).symm
                                                                                  exact h9 R1s1
                                                                                · rw [if_neg h680] at hf
                                                                                  refine sk_iconst (0 : Int32) K dL_law_1193 (by decide) ?_
                                                                                  have hR681 : (false, s1.2.1, d677) = (rr, SS, dd) := hret1 _ (hx1 _ (Option.some.inj hf).symm)
                                                                                  exact sk_zret (x := false) K dL_law_1194 rfl rfl (congrArg (fun z => z.1) hR681) (congrArg (fun z => z.2.1) hR681) (congrArg (fun z => z.2.2) hR681)
                                                                              · rw [if_neg h667] at hf
                                                                                by_cases h682 : (v15 &&& (63 : Int32)) = (38 : Int32)
                                                                                · rw [if_pos h682] at hf
                                                                                  refine sk_tsIn (38 : Int32) (1162) 1195 K dL_law_33 h682 (by decide) (by decide) rfl (by decide) ?_
                                                                                  refine sk_aload_n K dL_law_1195 rfl 1 rfl ?_
                                                                                  obtain ⟨h685, hf⟩ := sk_ib hf
                                                                                  obtain ⟨v683, e684, hf⟩ := sk_ob hf
                                                                                  refine sk_callV (As := []) (st := []) K dL_law_1196 cl_L_172 h685 (sX10_wanted C l e684) (by decide) rfl rfl (Nat.le_of_ble_eq_true rfl) R1s1 R2s1 ?_
                                                                                  refine sk_aload_n K dL_law_1199 rfl 2 rfl ?_
                                                                                  obtain ⟨h689, hf⟩ := sk_ib hf
                                                                                  obtain ⟨⟨v686, d688⟩, e687, hf⟩ := sk_ob hf
                                                                                  try dsimp only at hf
                                                                                  refine sk_callV (As := []) (st := [.int v683]) K dL_law_1200 cl_L_175 h689 (sX11_wanted C l e687) (by decide) rfl rfl (Nat.le_of_ble_eq_true rfl) R1s1 R2s1 ?_
                                                                                  refine sk_icmp_eq 1427 K dL_law_1203 (by decide) (fun h691 => ?_) (fun h691 => ?_)
                                                                                  · rw [if_pos h691] at hf
                                                                                    refine sk_iinc (s1.1 + 6) [(3, .int (s1.1 + 6)), (0, .float 100), (1, .ref (S.1.1 + 1)), (2, .ref (S4.1.1 + 1))] K dL_law_1427 3 rfl rfl (by decide) rfl ?_
                                                                                    refine sk_goto 18 K dL_law_1430 (by decide) ?_
                                                                                    refine sk_sub [(0, .float 100), (1, .ref (S.1.1 + 1)), (2, .ref (S4.1.1 + 1)), (3, .int (s1.1 + 6))] [1, 2, 3, 0] rfl ?_
                                                                                    have h9 := ih1 _ (Option.some.inj hf).symm
                                                                                    exact h9 R1s1
                                                                                  · rw [if_neg h691] at hf
                                                                                    refine sk_iconst (0 : Int32) K dL_law_1206 (by decide) ?_
                                                                                    have hR692 : (false, s1.2.1, d688) = (rr, SS, dd) := hret1 _ (hx1 _ (Option.some.inj hf).symm)
                                                                                    exact sk_zret (x := false) K dL_law_1207 rfl rfl (congrArg (fun z => z.1) hR692) (congrArg (fun z => z.2.1) hR692) (congrArg (fun z => z.2.2) hR692)
                                                                                · rw [if_neg h682] at hf
                                                                                  by_cases h693 : (v15 &&& (63 : Int32)) = (39 : Int32)
                                                                                  · rw [if_pos h693] at hf
                                                                                    refine sk_tsIn (39 : Int32) (1175) 1208 K dL_law_33 h693 (by decide) (by decide) rfl (by decide) ?_
                                                                                    refine sk_aload_n K dL_law_1208 rfl 1 rfl ?_
                                                                                    refine sk_aload_nF K dL_law_1209 rfl 0 rfl ?_
                                                                                    refine sk_iload_n K dL_law_1210 rfl 3 rfl ?_
                                                                                    refine sk_iconst (1 : Int32) K dL_law_1211 (by decide) ?_
                                                                                    refine sk_iadd K dL_law_1212 ?_
                                                                                    obtain ⟨v694, e695, hf⟩ := sk_ob hf
                                                                                    refine sk_sld K hScr dL_law_1213 e695 ?_
                                                                                    refine sk_aload_nF K dL_law_1214 rfl 0 rfl ?_
                                                                                    refine sk_iload_n K dL_law_1215 rfl 3 rfl ?_
                                                                                    refine sk_iconst (2 : Int32) K dL_law_1216 (by decide) ?_
                                                                                    refine sk_iadd K dL_law_1217 ?_
                                                                                    obtain ⟨v696, e697, hf⟩ := sk_ob hf
                                                                                    refine sk_sld K hScr dL_law_1218 e697 ?_
                                                                                    refine sk_aload_nF K dL_law_1219 rfl 0 rfl ?_
                                                                                    refine sk_iload_n K dL_law_1220 rfl 3 rfl ?_
                                                                                    refine sk_iconst (3 : Int32) K dL_law_1221 (by decide) ?_
                                                                                    refine sk_iadd K dL_law_1222 ?_
                                                                                    obtain ⟨v698, e699, hf⟩ := sk_ob hf
                                                                                    refine sk_sld K hScr dL_law_1223 e699 ?_
                                                                                    obtain ⟨h703, hf⟩ := sk_ib hf
                                                                                    obtain ⟨⟨v700, d702⟩, e701, hf⟩ := sk_ob hf
                                                                                    try dsimp only at hf
                                                                                    refine sk_callV (As := [.int v694, .int v696, .int v698]) (st := []) K dL_law_1224 cl_L_176 h703 (sX10_numbers C l e701) (by decide) rfl rfl (Nat.le_of_ble_eq_true rfl) R1s1 R2s1 ?_
                                                                                    refine sk_aload_n K dL_law_1227 rfl 2 rfl ?_
                                                                                    refine sk_aload_nF K dL_law_1228 rfl 0 rfl ?_
                                                                                    refine sk_iload_n K dL_law_1229 rfl 3 rfl ?_
                                                                                    refine sk_iconst (1 : Int32) K dL_law_1230 (by decide) ?_
                                                                                    refine sk_iadd K dL_law_1231 ?_
                                                                                    obtain ⟨v705, e706, hf⟩ := sk_ob hf
                                                                                    refine sk_sld K hScr dL_law_1232 e706 ?_
                                                                                    refine sk_aload_nF K dL_law_1233 rfl 0 rfl ?_
                                                                                    refine sk_iload_n K dL_law_1234 rfl 3 rfl ?_
                                                                                    refine sk_iconst (2 : Int32) K dL_law_1235 (by decide) ?_
                                                                                    refine sk_iadd K dL_law_1236 ?_
                                                                                    obtain ⟨v707, e708, hf⟩ := sk_ob hf
                                                                                    refine sk_sld K hScr dL_law_1237 e708 ?_
                                                                                    refine sk_aload_nF K dL_law_1238 rfl 0 rfl ?_
                                                                                    refine sk_iload_n K dL_law_1239 rfl 3 rfl ?_
                                                                                    refine sk_iconst (3 : Int32) K dL_law_1240 (by decide) ?_
                                                                                    refine sk_iadd K dL_law_1241 ?_
                                                                                    obtain ⟨v709, e710, hf⟩ := sk_ob hf
                                                                                    refine sk_sld K hScr dL_law_1242 e710 ?_
                                                                                    obtain ⟨h714, hf⟩ := sk_ib hf
                                                                                    obtain ⟨⟨v711, d713⟩, e712, hf⟩ := sk_ob hf
                                                                                    try dsimp only at hf
                                                                                    refine sk_callV (As := [.int v705, .int v707, .int v709]) (st := [.int v700]) K dL_law_1243 cl_L_179 h714 (sX11_numbers C l e712) (by decide) rfl rfl (Nat.le_of_ble_eq_true rfl) R1s1 R2s1 ?_
                                                                                    refine sk_icmp_eq 1427 K dL_law_1246 (by decide) (fun h716 => ?_) (fun h716 => ?_)
                                                                                    · rw [if_pos h716] at hf
                                                                                      refine sk_iinc (s1.1 + 6) [(3, .int (s1.1 + 6)), (0, .float 100), (1, .ref (S.1.1 + 1)), (2, .ref (S4.1.1 + 1))] K dL_law_1427 3 rfl rfl (by decide) rfl ?_
                                                                                      refine sk_goto 18 K dL_law_1430 (by decide) ?_
                                                                                      refine sk_sub [(0, .float 100), (1, .ref (S.1.1 + 1)), (2, .ref (S4.1.1 + 1)), (3, .int (s1.1 + 6))] [1, 2, 3, 0] rfl ?_
                                                                                      have h9 := ih1 _ (Option.some.inj hf).symm
                                                                                      exact h9 R1s1
                                                                                    · rw [if_neg h716] at hf
                                                                                      refine sk_iconst (0 : Int32) K dL_law_1249 (by decide) ?_
                                                                                      have hR717 : (false, s1.2.1, d713) = (rr, SS, dd) := hret1 _ (hx1 _ (Option.some.inj hf).symm)
                                                                                      exact sk_zret (x := false) K dL_law_1250 rfl rfl (congrArg (fun z => z.1) hR717) (congrArg (fun z => z.2.1) hR717) (congrArg (fun z => z.2.2) hR717)
                                                                                  · rw [if_neg h693] at hf
                                                                                    by_cases h718 : (v15 &&& (63 : Int32)) = (40 : Int32)
                                                                                    · rw [if_pos h718] at hf
                                                                                      refine sk_tsIn (40 : Int32) (1218) 1251 K dL_law_33 h718 (by decide) (by decide) rfl (by decide) ?_
                                                                                      refine sk_aload_n K dL_law_1251 rfl 1 rfl ?_
                                                                                      refine sk_aload_nF K dL_law_1252 rfl 0 rfl ?_
                                                                                      refine sk_iload_n K dL_law_1253 rfl 3 rfl ?_
                                                                                      refine sk_iconst (1 : Int32) K dL_law_1254 (by decide) ?_
                                                                                      refine sk_iadd K dL_law_1255 ?_
                                                                                      obtain ⟨v719, e720, hf⟩ := sk_ob hf
                                                                                      refine sk_sld K hScr dL_law_1256 e720 ?_
                                                                                      refine sk_aload_nF K dL_law_1257 rfl 0 rfl ?_
                                                                                      refine sk_iload_n K dL_law_1258 rfl 3 rfl ?_
                                                                                      refine sk_iconst (2 : Int32) K dL_law_1259 (by decide) ?_
                                                                                      refine sk_iadd K dL_law_1260 ?_
                                                                                      obtain ⟨v721, e722, hf⟩ := sk_ob hf
                                                                                      refine sk_sld K hScr dL_law_1261 e722 ?_
                                                                                      refine sk_aload_nF K dL_law_1262 rfl 0 rfl ?_
                                                                                      refine sk_iload_n K dL_law_1263 rfl 3 rfl ?_
                                                                                      refine sk_iconst (3 : Int32) K dL_law_1264 (by decide) ?_
                                                                                      refine sk_iadd K dL_law_1265 ?_
                                                                                      obtain ⟨v723, e724, hf⟩ := sk_ob hf
                                                                                      refine sk_sld K hScr dL_law_1266 e724 ?_
                                                                                      refine sk_i2l K dL_law_1267 ?_
                                                                                      refine sk_bipush (32 : Int32) K dL_law_1268 (by decide) ?_
                                                                                      refine sk_lshl K dL_law_1270 ?_
                                                                                      refine sk_aload_nF K dL_law_1271 rfl 0 rfl ?_
                                                                                      refine sk_iload_n K dL_law_1272 rfl 3 rfl ?_
                                                                                      refine sk_iconst (4 : Int32) K dL_law_1273 (by decide) ?_
                                                                                      refine sk_iadd K dL_law_1274 ?_
                                                                                      obtain ⟨v725, e726, hf⟩ := sk_ob hf
                                                                                      refine sk_sld K hScr dL_law_1275 e726 ?_
                                                                                      refine sk_i2l K dL_law_1276 ?_
                                                                                      refine sk_ldc2 K dL_law_1277 qw_1991 ?_
                                                                                      refine sk_land K dL_law_1280 ?_
                                                                                      refine sk_lor K dL_law_1281 ?_
                                                                                      obtain ⟨h730, hf⟩ := sk_ib hf
                                                                                      obtain ⟨⟨v727, d729⟩, e728, hf⟩ := sk_ob hf
                                                                                      try dsimp only at hf
                                                                                      refine sk_callV (As := [.int v719, .int v721, .long ((v723.toInt64 <<< ((32 : Int32).toInt64 &&& 63)) ||| (v725.toInt64 &&& (4294967295 : Int64)))]) (st := []) K dL_law_1282 cl_L_182 h730 (sX10_write C l e728) (by decide) rfl rfl (Nat.le_of_ble_eq_true rfl) R1s1 R2s1 ?_
                                                                                      refine sk_aload_n K dL_law_1285 rfl 2 rfl ?_
                                                                                      refine sk_aload_nF K dL_law_1286 rfl 0 rfl ?_
                                                                                      refine sk_iload_n K dL_law_1287 rfl 3 rfl ?_
                                                                                      refine sk_iconst (1 : Int32) K dL_law_1288 (by decide) ?_
                                                                                      refine sk_iadd K dL_law_1289 ?_
                                                                                      obtain ⟨v732, e733, hf⟩ := sk_ob hf
                                                                                      refine sk_sld K hScr dL_law_1290 e733 ?_
                                                                                      refine sk_aload_nF K dL_law_1291 rfl 0 rfl ?_
                                                                                      refine sk_iload_n K dL_law_1292 rfl 3 rfl ?_
                                                                                      refine sk_iconst (2 : Int32) K dL_law_1293 (by decide) ?_
                                                                                      refine sk_iadd K dL_law_1294 ?_
                                                                                      obtain ⟨v734, e735, hf⟩ := sk_ob hf
                                                                                      refine sk_sld K hScr dL_law_1295 e735 ?_
                                                                                      refine sk_aload_nF K dL_law_1296 rfl 0 rfl ?_
                                                                                      refine sk_iload_n K dL_law_1297 rfl 3 rfl ?_
                                                                                      refine sk_iconst (3 : Int32) K dL_law_1298 (by decide) ?_
                                                                                      refine sk_iadd K dL_law_1299 ?_
                                                                                      obtain ⟨v736, e737, hf⟩ := sk_ob hf
                                                                                      refine sk_sld K hScr dL_law_1300 e737 ?_
                                                                                      refine sk_i2l K dL_law_1301 ?_
                                                                                      refine sk_bipush (32 : Int32) K dL_law_1302 (by decide) ?_
                                                                                      refine sk_lshl K dL_law_1304 ?_
                                                                                      refine sk_aload_nF K dL_law_1305 rfl 0 rfl ?_
                                                                                      refine sk_iload_n K dL_law_1306 rfl 3 rfl ?_
                                                                                      refine sk_iconst (4 : Int32) K dL_law_1307 (by decide) ?_
                                                                                      refine sk_iadd K dL_law_1308 ?_
                                                                                      obtain ⟨v738, e739, hf⟩ := sk_ob hf
                                                                                      refine sk_sld K hScr dL_law_1309 e739 ?_
                                                                                      refine sk_i2l K dL_law_1310 ?_
                                                                                      refine sk_ldc2 K dL_law_1311 qw_1991 ?_
                                                                                      refine sk_land K dL_law_1314 ?_
                                                                                      refine sk_lor K dL_law_1315 ?_
                                                                                      obtain ⟨h743, hf⟩ := sk_ib hf
                                                                                      obtain ⟨⟨v740, d742⟩, e741, hf⟩ := sk_ob hf
                                                                                      try dsimp only at hf
                                                                                      refine sk_callV (As := [.int v732, .int v734, .long ((v736.toInt64 <<< ((32 : Int32).toInt64 &&& 63)) ||| (v738.toInt64 &&& (4294967295 : Int64)))]) (st := [.long v727]) K dL_law_1316 cl_L_186 h743 (sX11_write C l e741) (by decide) rfl rfl (Nat.le_of_ble_eq_true rfl) R1s1 R2s1 ?_
                                                                                      refine sk_lcmp_eq 1427 K dL_law_1319 dL_law_1320 (by decide) (fun h745 => ?_) (fun h745 => ?_)
                                                                                      · rw [if_pos h745] at hf
                                                                                        refine sk_iinc (s1.1 + 6) [(3, .int (s1.1 + 6)), (0, .float 100), (1, .ref (S.1.1 + 1)), (2, .ref (S4.1.1 + 1))] K dL_law_1427 3 rfl rfl (by decide) rfl ?_
                                                                                        refine sk_goto 18 K dL_law_1430 (by decide) ?_
                                                                                        refine sk_sub [(0, .float 100), (1, .ref (S.1.1 + 1)), (2, .ref (S4.1.1 + 1)), (3, .int (s1.1 + 6))] [1, 2, 3, 0] rfl ?_
                                                                                        have h9 := ih1 _ (Option.some.inj hf).symm
                                                                                        exact h9 R1s1
                                                                                      · rw [if_neg h745] at hf
                                                                                        refine sk_iconst (0 : Int32) K dL_law_1323 (by decide) ?_
                                                                                        have hR746 : (false, s1.2.1, d742) = (rr, SS, dd) := hret1 _ (hx1 _ (Option.some.inj hf).symm)
                                                                                        exact sk_zret (x := false) K dL_law_1324 rfl rfl (congrArg (fun z => z.1) hR746) (congrArg (fun z => z.2.1) hR746) (congrArg (fun z => z.2.2) hR746)
                                                                                    · rw [if_neg h718] at hf
                                                                                      by_cases h747 : (v15 &&& (63 : Int32)) = (41 : Int32)
                                                                                      · rw [if_pos h747] at hf
                                                                                        refine sk_tsIn (41 : Int32) (1292) 1325 K dL_law_33 h747 (by decide) (by decide) rfl (by decide) ?_
                                                                                        refine sk_aload_n K dL_law_1325 rfl 1 rfl ?_
                                                                                        refine sk_aload_nF K dL_law_1326 rfl 0 rfl ?_
                                                                                        refine sk_iload_n K dL_law_1327 rfl 3 rfl ?_
                                                                                        refine sk_iconst (1 : Int32) K dL_law_1328 (by decide) ?_
                                                                                        refine sk_iadd K dL_law_1329 ?_
                                                                                        obtain ⟨v748, e749, hf⟩ := sk_ob hf
                                                                                        refine sk_sld K hScr dL_law_1330 e749 ?_
                                                                                        refine sk_aload_nF K dL_law_1331 rfl 0 rfl ?_
                                                                                        refine sk_iload_n K dL_law_1332 rfl 3 rfl ?_
                                                                                        refine sk_iconst (2 : Int32) K dL_law_1333 (by decide) ?_
                                                                                        refine sk_iadd K dL_law_1334 ?_
                                                                                        obtain ⟨v750, e751, hf⟩ := sk_ob hf
                                                                                        refine sk_sld K hScr dL_law_1335 e751 ?_
                                                                                        obtain ⟨h756, hf⟩ := sk_ib hf
                                                                                        obtain ⟨⟨v752, S754, d755⟩, e753, hf⟩ := sk_ob hf
                                                                                        try dsimp only at hf
                                                                                        have R1_S754 := sk_le_tr R1s1 (mo_use (pr := (fun (z : Int32 × sk_S × sk_D) => z.2.1.1)) e753 (monoX10_lists _ _ _ _ _))
                                                                                        have R2_S754 : S754.1.1 ≤ SS.1.1 ∧ S754.1.2 ≤ SS.1.2 := sk_le_tr (mo_use (n := S754.1) (pr := (Sum.elim (fun (z : Int32 × sk_S × sk_D) => z.2.1.1) (fun (z : Bool × sk_S × sk_D) => z.2.1.1))) hf (by repeat' (first | exact mo_none | exact mo_some ⟨Nat.le_refl _, Nat.le_refl _⟩ | refine mo_pR (fun _ => ?_) | refine mo_mk (fun _ => ?_) | refine mo_sR24 (fun _ => ?_) | refine mo_sR25 (fun _ => ?_) | refine mo_A ⟨Nat.le_refl _, Nat.le_refl _⟩ (monoX10_init _ _ _) (fun _ => ?_) | refine mo_A (sk_nS_le _ _ _ _) (monoX10_init _ _ _) (fun _ => ?_) | refine mo_A ⟨Nat.le_refl _, Nat.le_refl _⟩ (monoX11_init _ _ _) (fun _ => ?_) | refine mo_A (sk_nS_le _ _ _ _) (monoX11_init _ _ _) (fun _ => ?_) | refine mo_A ⟨Nat.le_refl _, Nat.le_refl _⟩ (monoX10_soonest _ _ _ _) (fun _ => ?_) | refine mo_A (sk_nS_le _ _ _ _) (monoX10_soonest _ _ _ _) (fun _ => ?_) | refine mo_A ⟨Nat.le_refl _, Nat.le_refl _⟩ (monoX10_way _ _ _ _ _) (fun _ => ?_) | refine mo_A (sk_nS_le _ _ _ _) (monoX10_way _ _ _ _ _) (fun _ => ?_) | refine mo_A ⟨Nat.le_refl _, Nat.le_refl _⟩ (monoX10_shown _ _ _ _) (fun _ => ?_) | refine mo_A (sk_nS_le _ _ _ _) (monoX10_shown _ _ _ _) (fun _ => ?_) | refine mo_A ⟨Nat.le_refl _, Nat.le_refl _⟩ (monoX10_shownBy _ _ _ _ _) (fun _ => ?_) | refine mo_A (sk_nS_le _ _ _ _) (monoX10_shownBy _ _ _ _ _) (fun _ => ?_) | refine mo_A ⟨Nat.le_refl _, Nat.le_refl _⟩ (monoX10_rows _ _ _ _ _) (fun _ => ?_) | refine mo_A (sk_nS_le _ _ _ _) (monoX10_rows _ _ _ _ _) (fun _ => ?_) | refine mo_A ⟨Nat.le_refl _, Nat.le_refl _⟩ (monoX10_most _ _ _) (fun _ => ?_) | refine mo_A (sk_nS_le _ _ _ _) (monoX10_most _ _ _) (fun _ => ?_) | refine mo_A ⟨Nat.le_refl _, Nat.le_refl _⟩ (monoX10_stands _ _ _) (fun _ => ?_) | refine mo_A (sk_nS_le _ _ _ _) (monoX10_stands _ _ _) (fun _ => ?_) | refine mo_A ⟨Nat.le_refl _, Nat.le_refl _⟩ (monoX10_lists _ _ _ _ _) (fun _ => ?_) | refine mo_A (sk_nS_le _ _ _ _) (monoX10_lists _ _ _ _ _) (fun _ => ?_) | refine mo_bindQ (q := (fun (z : Bool × sk_S × sk_D) => z.2.1.1)) (mo_itr (μ := (fun (z : Int32 × sk_S × sk_D) => z.2.1.1)) (mono_fL_law_L18 _ _ _ _) _) (fun _ => ?_) | refine mo_ite ?_ ?_ | refine mo_bind (fun _ => ?_) | dsimp only | split))) RO1
                                                                                        refine sk_callV (As := [.int v748, .int v750]) (st := []) K dL_law_1336 cl_L_187 h756 (sX10_lists C l e753) (by decide) rfl rfl (Nat.le_of_ble_eq_true rfl) R1s1 R2_S754 ?_
                                                                                        refine sk_aload_n K dL_law_1339 rfl 2 rfl ?_
                                                                                        refine sk_aload_nF K dL_law_1340 rfl 0 rfl ?_
                                                                                        refine sk_iload_n K dL_law_1341 rfl 3 rfl ?_
                                                                                        refine sk_iconst (1 : Int32) K dL_law_1342 (by decide) ?_
                                                                                        refine sk_iadd K dL_law_1343 ?_
                                                                                        obtain ⟨v758, e759, hf⟩ := sk_ob hf
                                                                                        refine sk_sld K hScr dL_law_1344 e759 ?_
                                                                                        refine sk_aload_nF K dL_law_1345 rfl 0 rfl ?_
                                                                                        refine sk_iload_n K dL_law_1346 rfl 3 rfl ?_
                                                                                        refine sk_iconst (2 : Int32) K dL_law_1347 (by decide) ?_
                                                                                        refine sk_iadd K dL_law_1348 ?_
                                                                                        obtain ⟨v760, e761, hf⟩ := sk_ob hf
                                                                                        refine sk_sld K hScr dL_law_1349 e761 ?_
                                                                                        obtain ⟨h765, hf⟩ := sk_ib hf
                                                                                        obtain ⟨⟨v762, d764⟩, e763, hf⟩ := sk_ob hf
                                                                                        try dsimp only at hf
                                                                                        refine sk_callV (As := [.int v758, .int v760]) (st := [.int v752]) K dL_law_1350 cl_L_190 h765 (sX11_lists C l e763) (by decide) rfl rfl (Nat.le_of_ble_eq_true rfl) R1_S754 R2_S754 ?_
                                                                                        refine sk_icmp_eq 1427 K dL_law_1353 (by decide) (fun h767 => ?_) (fun h767 => ?_)
                                                                                        · rw [if_pos h767] at hf
                                                                                          refine sk_iinc (s1.1 + 6) [(3, .int (s1.1 + 6)), (0, .float 100), (1, .ref (S.1.1 + 1)), (2, .ref (S4.1.1 + 1))] K dL_law_1427 3 rfl rfl (by decide) rfl ?_
                                                                                          refine sk_goto 18 K dL_law_1430 (by decide) ?_
                                                                                          refine sk_sub [(0, .float 100), (1, .ref (S.1.1 + 1)), (2, .ref (S4.1.1 + 1)), (3, .int (s1.1 + 6))] [1, 2, 3, 0] rfl ?_
                                                                                          have h9 := ih1 _ (Option.some.inj hf).symm
                                                                                          exact h9 R1_S754
                                                                                        · rw [if_neg h767] at hf
                                                                                          refine sk_iconst (0 : Int32) K dL_law_1356 (by decide) ?_
                                                                                          have hR768 : (false, S754, d764) = (rr, SS, dd) := hret1 _ (hx1 _ (Option.some.inj hf).symm)
                                                                                          exact sk_zret (x := false) K dL_law_1357 rfl rfl (congrArg (fun z => z.1) hR768) (congrArg (fun z => z.2.1) hR768) (congrArg (fun z => z.2.2) hR768)
                                                                                      · rw [if_neg h747] at hf
                                                                                        by_cases h769 : (v15 &&& (63 : Int32)) = (42 : Int32)
                                                                                        · rw [if_pos h769] at hf
                                                                                          refine sk_tsIn (42 : Int32) (1325) 1358 K dL_law_33 h769 (by decide) (by decide) rfl (by decide) ?_
                                                                                          refine sk_aload_n K dL_law_1358 rfl 1 rfl ?_
                                                                                          refine sk_aload_nF K dL_law_1359 rfl 0 rfl ?_
                                                                                          refine sk_iload_n K dL_law_1360 rfl 3 rfl ?_
                                                                                          refine sk_iconst (1 : Int32) K dL_law_1361 (by decide) ?_
                                                                                          refine sk_iadd K dL_law_1362 ?_
                                                                                          obtain ⟨v770, e771, hf⟩ := sk_ob hf
                                                                                          refine sk_sld K hScr dL_law_1363 e771 ?_
                                                                                          obtain ⟨h775, hf⟩ := sk_ib hf
                                                                                          obtain ⟨⟨v772, d774⟩, e773, hf⟩ := sk_ob hf
                                                                                          try dsimp only at hf
                                                                                          refine sk_callV (As := [.int v770]) (st := []) K dL_law_1364 cl_L_191 h775 (sX10_image C l e773) (by decide) rfl rfl (Nat.le_of_ble_eq_true rfl) R1s1 R2s1 ?_
                                                                                          refine sk_aload_n K dL_law_1367 rfl 2 rfl ?_
                                                                                          refine sk_aload_nF K dL_law_1368 rfl 0 rfl ?_
                                                                                          refine sk_iload_n K dL_law_1369 rfl 3 rfl ?_
                                                                                          refine sk_iconst (1 : Int32) K dL_law_1370 (by decide) ?_
                                                                                          refine sk_iadd K dL_law_1371 ?_
                                                                                          obtain ⟨v777, e778, hf⟩ := sk_ob hf
                                                                                          refine sk_sld K hScr dL_law_1372 e778 ?_
                                                                                          obtain ⟨h782, hf⟩ := sk_ib hf
                                                                                          obtain ⟨⟨v779, d781⟩, e780, hf⟩ := sk_ob hf
                                                                                          try dsimp only at hf
                                                                                          refine sk_callV (As := [.int v777]) (st := [.int v772]) K dL_law_1373 cl_L_194 h782 (sX11_image C l e780) (by decide) rfl rfl (Nat.le_of_ble_eq_true rfl) R1s1 R2s1 ?_
                                                                                          refine sk_icmp_eq 1427 K dL_law_1376 (by decide) (fun h784 => ?_) (fun h784 => ?_)
                                                                                          · rw [if_pos h784] at hf
                                                                                            refine sk_iinc (s1.1 + 6) [(3, .int (s1.1 + 6)), (0, .float 100), (1, .ref (S.1.1 + 1)), (2, .ref (S4.1.1 + 1))] K dL_law_1427 3 rfl rfl (by decide) rfl ?_
                                                                                            refine sk_goto 18 K dL_law_1430 (by decide) ?_
                                                                                            refine sk_sub [(0, .float 100), (1, .ref (S.1.1 + 1)), (2, .ref (S4.1.1 + 1)), (3, .int (s1.1 + 6))] [1, 2, 3, 0] rfl ?_
                                                                                            have h9 := ih1 _ (Option.some.inj hf).symm
                                                                                            exact h9 R1s1
                                                                                          · rw [if_neg h784] at hf
                                                                                            refine sk_iconst (0 : Int32) K dL_law_1379 (by decide) ?_
                                                                                            have hR785 : (false, s1.2.1, d781) = (rr, SS, dd) := hret1 _ (hx1 _ (Option.some.inj hf).symm)
                                                                                            exact sk_zret (x := false) K dL_law_1380 rfl rfl (congrArg (fun z => z.1) hR785) (congrArg (fun z => z.2.1) hR785) (congrArg (fun z => z.2.2) hR785)
                                                                                        · rw [if_neg h769] at hf
                                                                                          by_cases h786 : (v15 &&& (63 : Int32)) = (43 : Int32)
                                                                                          · rw [if_pos h786] at hf
                                                                                            refine sk_tsIn (43 : Int32) (1348) 1381 K dL_law_33 h786 (by decide) (by decide) rfl (by decide) ?_
                                                                                            refine sk_aload_n K dL_law_1381 rfl 1 rfl ?_
                                                                                            refine sk_aload_nF K dL_law_1382 rfl 0 rfl ?_
                                                                                            refine sk_iload_n K dL_law_1383 rfl 3 rfl ?_
                                                                                            refine sk_iconst (1 : Int32) K dL_law_1384 (by decide) ?_
                                                                                            refine sk_iadd K dL_law_1385 ?_
                                                                                            obtain ⟨v787, e788, hf⟩ := sk_ob hf
                                                                                            refine sk_sld K hScr dL_law_1386 e788 ?_
                                                                                            obtain ⟨h792, hf⟩ := sk_ib hf
                                                                                            obtain ⟨⟨v789, d791⟩, e790, hf⟩ := sk_ob hf
                                                                                            try dsimp only at hf
                                                                                            refine sk_callV (As := [.int v787]) (st := []) K dL_law_1387 cl_L_195 h792 (sX10_restore C l e790) (by decide) rfl rfl (Nat.le_of_ble_eq_true rfl) R1s1 R2s1 ?_
                                                                                            refine sk_aload_n K dL_law_1390 rfl 2 rfl ?_
                                                                                            refine sk_aload_nF K dL_law_1391 rfl 0 rfl ?_
                                                                                            refine sk_iload_n K dL_law_1392 rfl 3 rfl ?_
                                                                                            refine sk_iconst (1 : Int32) K dL_law_1393 (by decide) ?_
                                                                                            refine sk_iadd K dL_law_1394 ?_
                                                                                            obtain ⟨v794, e795, hf⟩ := sk_ob hf
                                                                                            refine sk_sld K hScr dL_law_1395 e795 ?_
                                                                                            obtain ⟨h799, hf⟩ := sk_ib hf
                                                                                            obtain ⟨⟨v796, d798⟩, e797, hf⟩ := sk_ob hf
                                                                                            try dsimp only at hf
                                                                                            refine sk_callV (As := [.int v794]) (st := [.int v789]) K dL_law_1396 cl_L_198 h799 (sX11_restore C l e797) (by decide) rfl rfl (Nat.le_of_ble_eq_true rfl) R1s1 R2s1 ?_
                                                                                            refine sk_icmp_eq 1427 K dL_law_1399 (by decide) (fun h801 => ?_) (fun h801 => ?_)
                                                                                            · rw [if_pos h801] at hf
                                                                                              refine sk_iinc (s1.1 + 6) [(3, .int (s1.1 + 6)), (0, .float 100), (1, .ref (S.1.1 + 1)), (2, .ref (S4.1.1 + 1))] K dL_law_1427 3 rfl rfl (by decide) rfl ?_
                                                                                              refine sk_goto 18 K dL_law_1430 (by decide) ?_
                                                                                              refine sk_sub [(0, .float 100), (1, .ref (S.1.1 + 1)), (2, .ref (S4.1.1 + 1)), (3, .int (s1.1 + 6))] [1, 2, 3, 0] rfl ?_
                                                                                              have h9 := ih1 _ (Option.some.inj hf).symm
                                                                                              exact h9 R1s1
                                                                                            · rw [if_neg h801] at hf
                                                                                              refine sk_iconst (0 : Int32) K dL_law_1402 (by decide) ?_
                                                                                              have hR802 : (false, s1.2.1, d798) = (rr, SS, dd) := hret1 _ (hx1 _ (Option.some.inj hf).symm)
                                                                                              exact sk_zret (x := false) K dL_law_1403 rfl rfl (congrArg (fun z => z.1) hR802) (congrArg (fun z => z.2.1) hR802) (congrArg (fun z => z.2.2) hR802)
                                                                                          · rw [if_neg h786] at hf
                                                                                            by_cases h803 : (v15 &&& (63 : Int32)) = (44 : Int32)
                                                                                            · rw [if_pos h803] at hf
                                                                                              refine sk_tsIn (44 : Int32) (1371) 1404 K dL_law_33 h803 (by decide) (by decide) rfl (by decide) ?_
                                                                                              refine sk_aload_n K dL_law_1404 rfl 1 rfl ?_
                                                                                              refine sk_aload_nF K dL_law_1405 rfl 0 rfl ?_
                                                                                              refine sk_iload_n K dL_law_1406 rfl 3 rfl ?_
                                                                                              refine sk_iconst (1 : Int32) K dL_law_1407 (by decide) ?_
                                                                                              refine sk_iadd K dL_law_1408 ?_
                                                                                              obtain ⟨v804, e805, hf⟩ := sk_ob hf
                                                                                              refine sk_sld K hScr dL_law_1409 e805 ?_
                                                                                              obtain ⟨h808, hf⟩ := sk_ib hf
                                                                                              obtain ⟨v806, e807, hf⟩ := sk_ob hf
                                                                                              refine sk_callV (As := [.int v804]) (st := []) K dL_law_1410 cl_L_199 h808 (sX10_count C l e807) (by decide) rfl rfl (Nat.le_of_ble_eq_true rfl) R1s1 R2s1 ?_
                                                                                              refine sk_aload_n K dL_law_1413 rfl 2 rfl ?_
                                                                                              refine sk_aload_nF K dL_law_1414 rfl 0 rfl ?_
                                                                                              refine sk_iload_n K dL_law_1415 rfl 3 rfl ?_
                                                                                              refine sk_iconst (1 : Int32) K dL_law_1416 (by decide) ?_
                                                                                              refine sk_iadd K dL_law_1417 ?_
                                                                                              obtain ⟨v809, e810, hf⟩ := sk_ob hf
                                                                                              refine sk_sld K hScr dL_law_1418 e810 ?_
                                                                                              obtain ⟨h814, hf⟩ := sk_ib hf
                                                                                              obtain ⟨⟨v811, d813⟩, e812, hf⟩ := sk_ob hf
                                                                                              try dsimp only at hf
                                                                                              refine sk_callV (As := [.int v809]) (st := [.int v806]) K dL_law_1419 cl_L_202 h814 (sX11_count C l e812) (by decide) rfl rfl (Nat.le_of_ble_eq_true rfl) R1s1 R2s1 ?_
                                                                                              refine sk_icmp_eq 1427 K dL_law_1422 (by decide) (fun h816 => ?_) (fun h816 => ?_)
                                                                                              · rw [if_pos h816] at hf
                                                                                                refine sk_iinc (s1.1 + 6) [(3, .int (s1.1 + 6)), (0, .float 100), (1, .ref (S.1.1 + 1)), (2, .ref (S4.1.1 + 1))] K dL_law_1427 3 rfl rfl (by decide) rfl ?_
                                                                                                refine sk_goto 18 K dL_law_1430 (by decide) ?_
                                                                                                refine sk_sub [(0, .float 100), (1, .ref (S.1.1 + 1)), (2, .ref (S4.1.1 + 1)), (3, .int (s1.1 + 6))] [1, 2, 3, 0] rfl ?_
                                                                                                have h9 := ih1 _ (Option.some.inj hf).symm
                                                                                                exact h9 R1s1
                                                                                              · rw [if_neg h816] at hf
                                                                                                refine sk_iconst (0 : Int32) K dL_law_1425 (by decide) ?_
                                                                                                have hR817 : (false, s1.2.1, d813) = (rr, SS, dd) := hret1 _ (hx1 _ (Option.some.inj hf).symm)
                                                                                                exact sk_zret (x := false) K dL_law_1426 rfl rfl (congrArg (fun z => z.1) hR817) (congrArg (fun z => z.2.1) hR817) (congrArg (fun z => z.2.2) hR817)
                                                                                            · rw [if_neg h803] at hf
                                                                                              refine sk_tsOut 1427 K dL_law_33 (sk_tsout (0) 45 [(0 : Int32), (1 : Int32), (2 : Int32), (3 : Int32), (4 : Int32), (5 : Int32), (6 : Int32), (7 : Int32), (8 : Int32), (9 : Int32), (10 : Int32), (11 : Int32), (12 : Int32), (13 : Int32), (14 : Int32), (15 : Int32), (16 : Int32), (17 : Int32), (18 : Int32), (19 : Int32), (20 : Int32), (21 : Int32), (22 : Int32), (23 : Int32), (24 : Int32), (25 : Int32), (26 : Int32), (27 : Int32), (28 : Int32), (29 : Int32), (30 : Int32), (31 : Int32), (32 : Int32), (33 : Int32), (34 : Int32), (35 : Int32), (36 : Int32), (37 : Int32), (38 : Int32), (39 : Int32), (40 : Int32), (41 : Int32), (42 : Int32), (43 : Int32), (44 : Int32)] (by decide) (by simp [h17, h50, h67, h82, h101, h116, h131, h142, h159, h176, h193, h210, h227, h244, h265, h282, h303, h321, h343, h361, h383, h405, h419, h433, h448, h463, h480, h501, h526, h541, h552, h569, h586, h603, h614, h631, h648, h667, h682, h693, h718, h747, h769, h786, h803])) (by decide) ?_
                                                                                              refine sk_iinc (s1.1 + 6) [(3, .int (s1.1 + 6)), (0, .float 100), (1, .ref (S.1.1 + 1)), (2, .ref (S4.1.1 + 1))] K dL_law_1427 3 rfl rfl (by decide) rfl ?_
                                                                                              refine sk_goto 18 K dL_law_1430 (by decide) ?_
                                                                                              refine sk_sub [(0, .float 100), (1, .ref (S.1.1 + 1)), (2, .ref (S4.1.1 + 1)), (3, .int (s1.1 + 6))] [1, 2, 3, 0] rfl ?_
                                                                                              have h9 := ih1 _ (Option.some.inj hf).symm
                                                                                              exact h9 R1s1
