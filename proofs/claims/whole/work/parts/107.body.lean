noncomputable def fX11_next_L254 (S : sk_S) (p0 : Nat) (s2 : Int32 × sk_D) : Option ((Int32 × sk_D) ⊕ (sk_D)) :=
  if (12 : Int32) ≤ s2.1 then (some (.inr s2.2)) else ((sk_gI S s2.2 p0 10 6).bind fun v38 => if S.2.1 p0 = (10, 0) then ((fX11_see S s2.2 p0 v38).bind fun v40 => (sk_ch 1 s2.1).bind fun v43 => if v40 = v43 then ((sk_pI S s2.2 p0 10 9 ((30 : Int32) + s2.1)).bind fun d46 => some (.inl (s2.1 + 1, d46))) else (some (.inl (s2.1 + 1, s2.2)))) else none)
noncomputable def fX11_next_L146 (S : sk_S) (p0 : Nat) (s3 : sk_D) : Option ((sk_D) ⊕ (sk_D)) :=
  (sk_gI S s3 p0 10 7).bind fun v61 => if S.2.1 p0 = (10, 0) then ((fX11_see S s3 p0 v61).bind fun v63 => (fX11_isDigit S s3 v63).bind fun v66 => if v66 = true then ((sk_gI S s3 p0 10 7).bind fun v69 => (sk_gI S s3 p0 10 6).bind fun v71 => if (3 : Int32) ≤ (v69 - v71) then ((sk_gI S s3 p0 10 7).bind fun v74 => (sk_pI S s3 p0 10 7 (v74 + (1 : Int32))).bind fun d76 => some (.inl d76)) else ((sk_gI S s3 p0 10 10).bind fun v78 => (sk_gI S s3 p0 10 7).bind fun v80 => if S.2.1 p0 = (10, 0) then ((fX11_see S s3 p0 v80).bind fun v82 => (sk_pI S s3 p0 10 10 ((((10 : Int32) * v78) + v82) - (48 : Int32))).bind fun d85 => (sk_gI S d85 p0 10 7).bind fun v87 => (sk_pI S d85 p0 10 7 (v87 + (1 : Int32))).bind fun d89 => some (.inl d89)) else none)) else (some (.inr s3))) else none
noncomputable def fX11_next_L89 (S : sk_S) (p0 : Nat) (s4 : sk_D) : Option ((sk_D) ⊕ (sk_D)) :=
  (sk_gI S s4 p0 10 7).bind fun v97 => if S.2.1 p0 = (10, 0) then ((fX11_see S s4 p0 v97).bind fun v99 => (fX11_isSmall S s4 v99).bind fun v102 => if v102 = true then ((sk_gI S s4 p0 10 7).bind fun v105 => (sk_pI S s4 p0 10 7 (v105 + (1 : Int32))).bind fun d107 => some (.inl d107)) else (some (.inr s4))) else none
noncomputable def fX11_next_L8 (S : sk_S) (p0 : Nat) (s1 : sk_D) : Option ((sk_D) ⊕ (sk_D)) :=
  (sk_gI S s1 p0 10 6).bind fun v112 => if S.2.1 p0 = (10, 0) then ((fX11_see S s1 p0 v112).bind fun v114 => if v114 = (10 : Int32) then ((sk_gI S s1 p0 10 6).bind fun v118 => (sk_pI S s1 p0 10 6 (v118 + (1 : Int32))).bind fun d120 => some (.inl d120)) else ((sk_gI S s1 p0 10 6).bind fun v122 => if S.2.1 p0 = (10, 0) then ((fX11_see S s1 p0 v122).bind fun v124 => if v124 = (32 : Int32) then ((sk_gI S s1 p0 10 6).bind fun v128 => (sk_pI S s1 p0 10 6 (v128 + (1 : Int32))).bind fun d130 => some (.inl d130)) else (some (.inr s1))) else none)) else none
noncomputable def fX11_next (S : sk_S) (d : sk_D) (p0 : Nat) : Option (sk_D) :=
  (sk_gI S d p0 10 7).bind fun v1 => (sk_pI S d p0 10 6 v1).bind fun d3 => (sk_itr (fX11_next_L8 S p0) d3).bind fun y1 => (sk_gI S y1 p0 10 6).bind fun v5 => (sk_pI S y1 p0 10 7 v5).bind fun d7 => (sk_gI S d7 p0 10 6).bind fun v9 => (sk_gI S d7 p0 10 8).bind fun v11 => if v9 < v11 then ((sk_gI S d7 p0 10 6).bind fun v14 => if S.2.1 p0 = (10, 0) then ((fX11_see S d7 p0 v14).bind fun v16 => (fX11_isSmall S d7 v16).bind fun v19 => if v19 = true then ((sk_itr (fX11_next_L89 S p0) d7).bind fun y4 => if S.2.1 p0 = (10, 0) then ((fX11_keyAt S y4 p0).bind fun v91 => (sk_pI S y4 p0 10 9 v91).bind fun d94 => some d94) else none) else ((sk_gI S d7 p0 10 6).bind fun v22 => if S.2.1 p0 = (10, 0) then ((fX11_see S d7 p0 v22).bind fun v24 => (fX11_isDigit S d7 v24).bind fun v27 => if v27 = true then ((sk_pI S d7 p0 10 10 (0 : Int32)).bind fun d48 => (sk_itr (fX11_next_L146 S p0) d48).bind fun y3 => (sk_gI S y3 p0 10 7).bind fun v50 => (sk_gI S y3 p0 10 6).bind fun v52 => if (v50 - v52) ≤ (3 : Int32) then ((sk_pI S y3 p0 10 9 (23 : Int32)).bind fun d55 => some d55) else ((sk_pI S y3 p0 10 9 (25 : Int32)).bind fun d58 => some d58)) else ((sk_gI S d7 p0 10 7).bind fun v30 => (sk_pI S d7 p0 10 7 (v30 + (1 : Int32))).bind fun d32 => (sk_pI S d32 p0 10 9 (25 : Int32)).bind fun d34 => (sk_itr (fX11_next_L254 S p0) ((0 : Int32), d34)).bind fun x2 => some x2)) else none)) else none) else ((sk_pI S d7 p0 10 9 (24 : Int32)).bind fun d109 => some d109)
set_option maxRecDepth 100000 in
set_option maxHeartbeats 4000000 in
theorem sX11_next (C : sk_C) (l : Launch) {S : sk_S} {d : sk_D} {p0 : Nat} {dd : sk_D} (hf : fX11_next S d p0 = some dd) : sk_Met C l 8 yX11_next cX11_next 2 none [.ref p0] S d none S dd := by
  refine sk_Met.of (by decide) (Nat.le_of_ble_eq_true rfl) (Nat.le_refl _) (Nat.le_refl _) (fun X K0 hX => ?_)
  have K : sk_Ok X C cX11_next 2 RX11 "next" none 8 l none S dd := K0
  have R1 : X.2.2.2.2.2.2.2.2.2.2.2.1 ≤ S.1.1 ∧ X.2.2.2.2.2.2.2.2.2.2.2.2 ≤ S.1.2 := by rw [hX]; exact ⟨Nat.le_refl _, Nat.le_refl _⟩
  have R2 : S.1.1 ≤ S.1.1 ∧ S.1.2 ≤ S.1.2 := ⟨Nat.le_refl _, Nat.le_refl _⟩
  show sk_G X C 2 S d 0 [(0, .ref p0)] []
  unfold fX11_next at hf
  refine sk_aload_n K dX11_next_0 rfl 0 rfl ?_
  refine sk_aload_n K dX11_next_1 rfl 0 rfl ?_
  obtain ⟨v1, e2, hf⟩ := sk_ob hf
  refine sk_getI K dX11_next_2 fl_X11_109 rfl e2 ?_
  obtain ⟨d3, e4, hf⟩ := sk_ob hf
  refine sk_putI d3 K dX11_next_5 fl_X11_106 rfl rfl rfl e4 ?_
  obtain ⟨x1, he1, hf⟩ := sk_ob hf
  have rest1 : ∀ y1, y1 = x1 → sk_G X C 2 S y1 47 [(0, .ref p0)] [] := by
    intro y1 hy
    subst hy
    refine sk_aload_n K dX11_next_47 rfl 0 rfl ?_
    refine sk_aload_n K dX11_next_48 rfl 0 rfl ?_
    obtain ⟨v5, e6, hf⟩ := sk_ob hf
    refine sk_getI K dX11_next_49 fl_X11_106 rfl e6 ?_
    obtain ⟨d7, e8, hf⟩ := sk_ob hf
    refine sk_putI d7 K dX11_next_52 fl_X11_109 rfl rfl rfl e8 ?_
    refine sk_aload_n K dX11_next_55 rfl 0 rfl ?_
    obtain ⟨v9, e10, hf⟩ := sk_ob hf
    refine sk_getI K dX11_next_56 fl_X11_106 rfl e10 ?_
    refine sk_aload_n K dX11_next_59 rfl 0 rfl ?_
    obtain ⟨v11, e12, hf⟩ := sk_ob hf
    refine sk_getI K dX11_next_60 fl_X11_91 rfl e12 ?_
    refine sk_icmp_lt 75 K dX11_next_63 (by decide) (fun h13 => ?_) (fun h13 => ?_)
    · rw [if_pos h13] at hf
      refine sk_aload_n K dX11_next_75 rfl 0 rfl ?_
      refine sk_aload_n K dX11_next_76 rfl 0 rfl ?_
      obtain ⟨v14, e15, hf⟩ := sk_ob hf
      refine sk_getI K dX11_next_77 fl_X11_106 rfl e15 ?_
      obtain ⟨h18, hf⟩ := sk_ib hf
      obtain ⟨v16, e17, hf⟩ := sk_ob hf
      refine sk_callV (As := [.int v14]) (st := []) K dX11_next_80 cl_X11_112 h18 (sX11_see C l e17) (by decide) rfl rfl (Nat.le_of_ble_eq_true rfl) R1 R2 ?_
      obtain ⟨v19, e20, hf⟩ := sk_ob hf
      refine sk_callS (As := [.int v16]) (st := []) K dX11_next_83 cl_X11_119 (sX11_isSmall C l e20) (by decide) rfl rfl (Nat.le_of_ble_eq_true rfl) R1 R2 ?_
      refine sk_ifeqB 127 K dX11_next_86 (by decide) (fun h21 => ?_) (fun h21 => ?_)
      · rw [if_neg h21] at hf
        refine sk_aload_n K dX11_next_127 rfl 0 rfl ?_
        refine sk_aload_n K dX11_next_128 rfl 0 rfl ?_
        obtain ⟨v22, e23, hf⟩ := sk_ob hf
        refine sk_getI K dX11_next_129 fl_X11_106 rfl e23 ?_
        obtain ⟨h26, hf⟩ := sk_ib hf
        obtain ⟨v24, e25, hf⟩ := sk_ob hf
        refine sk_callV (As := [.int v22]) (st := []) K dX11_next_132 cl_X11_112 h26 (sX11_see C l e25) (by decide) rfl rfl (Nat.le_of_ble_eq_true rfl) R1 R2 ?_
        obtain ⟨v27, e28, hf⟩ := sk_ob hf
        refine sk_callS (As := [.int v24]) (st := []) K dX11_next_135 cl_X11_126 (sX11_isDigit C l e28) (by decide) rfl rfl (Nat.le_of_ble_eq_true rfl) R1 R2 ?_
        refine sk_ifeqB 236 K dX11_next_138 (by decide) (fun h29 => ?_) (fun h29 => ?_)
        · rw [if_neg h29] at hf
          refine sk_aload_n K dX11_next_236 rfl 0 rfl ?_
          refine sk_dup K dX11_next_237 rfl ?_
          obtain ⟨v30, e31, hf⟩ := sk_ob hf
          refine sk_getI K dX11_next_238 fl_X11_109 rfl e31 ?_
          refine sk_iconst (1 : Int32) K dX11_next_241 (by decide) ?_
          refine sk_iadd K dX11_next_242 ?_
          obtain ⟨d32, e33, hf⟩ := sk_ob hf
          refine sk_putI d32 K dX11_next_243 fl_X11_109 rfl rfl rfl e33 ?_
          refine sk_aload_n K dX11_next_246 rfl 0 rfl ?_
          refine sk_bipush (25 : Int32) K dX11_next_247 (by decide) ?_
          obtain ⟨d34, e35, hf⟩ := sk_ob hf
          refine sk_putI d34 K dX11_next_249 fl_X11_116 rfl rfl rfl e35 ?_
          refine sk_iconst (0 : Int32) K dX11_next_252 (by decide) ?_
          refine sk_istore_n [(1, .int (0 : Int32)), (0, .ref p0)] K dX11_next_253 rfl (by decide) rfl ?_
          obtain ⟨x2, he2, hf⟩ := sk_ob hf
          have hret2 : ∀ r, r = x2 → r = dd := by
            intro r hr
            subst hr
            exact Option.some.inj hf
          refine sk_sub [(0, .ref p0), (1, .int (0 : Int32))] [1, 0] rfl ?_
          refine sk_loop (fun s2 => sk_G X C 2 S s2.2 254 [(0, .ref p0), (1, .int s2.1)] []) he2 (fun s2 o2 hf ih2 hx2 => ?_)
          unfold fX11_next_L254 at hf
          refine sk_iload_n K dX11_next_254 rfl 1 rfl ?_
          refine sk_ldcS (1 : UInt32) K dX11_next_255 sk_str_X11_132 ?_
          refine sk_strlen (k := 1) (v := 12) K dX11_next_257 qw_1453 (by decide) (by decide) (Nat.le_of_ble_eq_true rfl) R2 (by decide) ?_
          refine sk_icmp_ge 294 K dX11_next_260 (by decide) (fun h36 => ?_) (fun h36 => ?_)
          · rw [if_pos h36] at hf
            have hR37 : s2.2 = dd := hret2 _ (hx2 _ (Option.some.inj hf).symm)
            exact sk_vret K dX11_next_294 rfl rfl rfl hR37
          · rw [if_neg h36] at hf
            refine sk_aload_n K dX11_next_263 rfl 0 rfl ?_
            refine sk_aload_n K dX11_next_264 rfl 0 rfl ?_
            obtain ⟨v38, e39, hf⟩ := sk_ob hf
            refine sk_getI K dX11_next_265 fl_X11_106 rfl e39 ?_
            obtain ⟨h42, hf⟩ := sk_ib hf
            obtain ⟨v40, e41, hf⟩ := sk_ob hf
            refine sk_callV (As := [.int v38]) (st := []) K dX11_next_268 cl_X11_112 h42 (sX11_see C l e41) (by decide) rfl rfl (Nat.le_of_ble_eq_true rfl) R1 R2 ?_
            refine sk_ldcS (1 : UInt32) K dX11_next_271 sk_str_X11_132 ?_
            refine sk_iload_n K dX11_next_273 rfl 1 rfl ?_
            obtain ⟨v43, e44, hf⟩ := sk_ob hf
            refine sk_charAt (k := 1) K dX11_next_274 qw_1454 (by decide) (by decide) (Nat.le_of_ble_eq_true rfl) R2 e44 ?_
            refine sk_icmp_ne 288 K dX11_next_277 (by decide) (fun h45 => ?_) (fun h45 => ?_)
            · rw [if_neg h45] at hf
              refine sk_iinc (s2.1 + 1) [(1, .int (s2.1 + 1)), (0, .ref p0)] K dX11_next_288 1 rfl rfl (by decide) rfl ?_
              refine sk_goto 254 K dX11_next_291 (by decide) ?_
              refine sk_sub [(0, .ref p0), (1, .int (s2.1 + 1))] [1, 0] rfl ?_
              have h9 := ih2 _ (Option.some.inj hf).symm
              exact h9
            · rw [if_pos h45] at hf
              refine sk_aload_n K dX11_next_280 rfl 0 rfl ?_
              refine sk_bipush (30 : Int32) K dX11_next_281 (by decide) ?_
              refine sk_iload_n K dX11_next_283 rfl 1 rfl ?_
              refine sk_iadd K dX11_next_284 ?_
              obtain ⟨d46, e47, hf⟩ := sk_ob hf
              refine sk_putI d46 K dX11_next_285 fl_X11_116 rfl rfl rfl e47 ?_
              refine sk_iinc (s2.1 + 1) [(1, .int (s2.1 + 1)), (0, .ref p0)] K dX11_next_288 1 rfl rfl (by decide) rfl ?_
              refine sk_goto 254 K dX11_next_291 (by decide) ?_
              refine sk_sub [(0, .ref p0), (1, .int (s2.1 + 1))] [1, 0] rfl ?_
              have h9 := ih2 _ (Option.some.inj hf).symm
              exact h9
        · rw [if_pos h29] at hf
          refine sk_aload_n K dX11_next_141 rfl 0 rfl ?_
          refine sk_iconst (0 : Int32) K dX11_next_142 (by decide) ?_
          obtain ⟨d48, e49, hf⟩ := sk_ob hf
          refine sk_putI d48 K dX11_next_143 fl_X11_129 rfl rfl rfl e49 ?_
          obtain ⟨x3, he3, hf⟩ := sk_ob hf
          have rest3 : ∀ y3, y3 = x3 → sk_G X C 2 S y3 209 [(0, .ref p0)] [] := by
            intro y3 hy
            subst hy
            refine sk_aload_n K dX11_next_209 rfl 0 rfl ?_
            refine sk_aload_n K dX11_next_210 rfl 0 rfl ?_
            obtain ⟨v50, e51, hf⟩ := sk_ob hf
            refine sk_getI K dX11_next_211 fl_X11_109 rfl e51 ?_
            refine sk_aload_n K dX11_next_214 rfl 0 rfl ?_
            obtain ⟨v52, e53, hf⟩ := sk_ob hf
            refine sk_getI K dX11_next_215 fl_X11_106 rfl e53 ?_
            refine sk_isub K dX11_next_218 ?_
            refine sk_iconst (3 : Int32) K dX11_next_219 (by decide) ?_
            refine sk_icmp_le 228 K dX11_next_220 (by decide) (fun h54 => ?_) (fun h54 => ?_)
            · rw [if_pos h54] at hf
              refine sk_bipush (23 : Int32) K dX11_next_228 (by decide) ?_
              obtain ⟨d55, e56, hf⟩ := sk_ob hf
              refine sk_putI d55 K dX11_next_230 fl_X11_116 rfl rfl rfl e56 ?_
              refine sk_goto 294 K dX11_next_233 (by decide) ?_
              have hR57 : d55 = dd := Option.some.inj hf
              exact sk_vret K dX11_next_294 rfl rfl rfl hR57
            · rw [if_neg h54] at hf
              refine sk_bipush (25 : Int32) K dX11_next_223 (by decide) ?_
              refine sk_goto 230 K dX11_next_225 (by decide) ?_
              obtain ⟨d58, e59, hf⟩ := sk_ob hf
              refine sk_putI d58 K dX11_next_230 fl_X11_116 rfl rfl rfl e59 ?_
              refine sk_goto 294 K dX11_next_233 (by decide) ?_
              have hR60 : d58 = dd := Option.some.inj hf
              exact sk_vret K dX11_next_294 rfl rfl rfl hR60
          refine sk_sub [(0, .ref p0)] [0] rfl ?_
          refine sk_loop (fun s3 => sk_G X C 2 S s3 146 [(0, .ref p0)] []) he3 (fun s3 o3 hf ih3 hx3 => ?_)
          unfold fX11_next_L146 at hf
          refine sk_aload_n K dX11_next_146 rfl 0 rfl ?_
          refine sk_aload_n K dX11_next_147 rfl 0 rfl ?_
          obtain ⟨v61, e62, hf⟩ := sk_ob hf
          refine sk_getI K dX11_next_148 fl_X11_109 rfl e62 ?_
          obtain ⟨h65, hf⟩ := sk_ib hf
          obtain ⟨v63, e64, hf⟩ := sk_ob hf
          refine sk_callV (As := [.int v61]) (st := []) K dX11_next_151 cl_X11_112 h65 (sX11_see C l e64) (by decide) rfl rfl (Nat.le_of_ble_eq_true rfl) R1 R2 ?_
          obtain ⟨v66, e67, hf⟩ := sk_ob hf
          refine sk_callS (As := [.int v63]) (st := []) K dX11_next_154 cl_X11_126 (sX11_isDigit C l e67) (by decide) rfl rfl (Nat.le_of_ble_eq_true rfl) R1 R2 ?_
          refine sk_ifeqB 209 K dX11_next_157 (by decide) (fun h68 => ?_) (fun h68 => ?_)
          · rw [if_neg h68] at hf
            refine sk_sub [(0, .ref p0)] [0] rfl ?_
            have h9 := rest3 _ (hx3 _ (Option.some.inj hf).symm)
            exact h9
          · rw [if_pos h68] at hf
            refine sk_aload_n K dX11_next_160 rfl 0 rfl ?_
            obtain ⟨v69, e70, hf⟩ := sk_ob hf
            refine sk_getI K dX11_next_161 fl_X11_109 rfl e70 ?_
            refine sk_aload_n K dX11_next_164 rfl 0 rfl ?_
            obtain ⟨v71, e72, hf⟩ := sk_ob hf
            refine sk_getI K dX11_next_165 fl_X11_106 rfl e72 ?_
            refine sk_isub K dX11_next_168 ?_
            refine sk_iconst (3 : Int32) K dX11_next_169 (by decide) ?_
            refine sk_icmp_ge 196 K dX11_next_170 (by decide) (fun h73 => ?_) (fun h73 => ?_)
            · rw [if_pos h73] at hf
              refine sk_aload_n K dX11_next_196 rfl 0 rfl ?_
              refine sk_dup K dX11_next_197 rfl ?_
              obtain ⟨v74, e75, hf⟩ := sk_ob hf
              refine sk_getI K dX11_next_198 fl_X11_109 rfl e75 ?_
              refine sk_iconst (1 : Int32) K dX11_next_201 (by decide) ?_
              refine sk_iadd K dX11_next_202 ?_
              obtain ⟨d76, e77, hf⟩ := sk_ob hf
              refine sk_putI d76 K dX11_next_203 fl_X11_109 rfl rfl rfl e77 ?_
              refine sk_goto 146 K dX11_next_206 (by decide) ?_
              refine sk_sub [(0, .ref p0)] [0] rfl ?_
              have h9 := ih3 _ (Option.some.inj hf).symm
              exact h9
            · rw [if_neg h73] at hf
              refine sk_aload_n K dX11_next_173 rfl 0 rfl ?_
              refine sk_bipush (10 : Int32) K dX11_next_174 (by decide) ?_
              refine sk_aload_n K dX11_next_176 rfl 0 rfl ?_
              obtain ⟨v78, e79, hf⟩ := sk_ob hf
              refine sk_getI K dX11_next_177 fl_X11_129 rfl e79 ?_
              refine sk_imul K dX11_next_180 ?_
              refine sk_aload_n K dX11_next_181 rfl 0 rfl ?_
              refine sk_aload_n K dX11_next_182 rfl 0 rfl ?_
              obtain ⟨v80, e81, hf⟩ := sk_ob hf
              refine sk_getI K dX11_next_183 fl_X11_109 rfl e81 ?_
              obtain ⟨h84, hf⟩ := sk_ib hf
              obtain ⟨v82, e83, hf⟩ := sk_ob hf
              refine sk_callV (As := [.int v80]) (st := [.int ((10 : Int32) * v78), .ref p0]) K dX11_next_186 cl_X11_112 h84 (sX11_see C l e83) (by decide) rfl rfl (Nat.le_of_ble_eq_true rfl) R1 R2 ?_
              refine sk_iadd K dX11_next_189 ?_
              refine sk_bipush (48 : Int32) K dX11_next_190 (by decide) ?_
              refine sk_isub K dX11_next_192 ?_
              obtain ⟨d85, e86, hf⟩ := sk_ob hf
              refine sk_putI d85 K dX11_next_193 fl_X11_129 rfl rfl rfl e86 ?_
              refine sk_aload_n K dX11_next_196 rfl 0 rfl ?_
              refine sk_dup K dX11_next_197 rfl ?_
              obtain ⟨v87, e88, hf⟩ := sk_ob hf
              refine sk_getI K dX11_next_198 fl_X11_109 rfl e88 ?_
              refine sk_iconst (1 : Int32) K dX11_next_201 (by decide) ?_
              refine sk_iadd K dX11_next_202 ?_
              obtain ⟨d89, e90, hf⟩ := sk_ob hf
              refine sk_putI d89 K dX11_next_203 fl_X11_109 rfl rfl rfl e90 ?_
              refine sk_goto 146 K dX11_next_206 (by decide) ?_
              refine sk_sub [(0, .ref p0)] [0] rfl ?_
              have h9 := ih3 _ (Option.some.inj hf).symm
              exact h9
      · rw [if_pos h21] at hf
        obtain ⟨x4, he4, hf⟩ := sk_ob hf
        have rest4 : ∀ y4, y4 = x4 → sk_G X C 2 S y4 116 [(0, .ref p0)] [] := by
          intro y4 hy
          subst hy
          refine sk_aload_n K dX11_next_116 rfl 0 rfl ?_
          refine sk_aload_n K dX11_next_117 rfl 0 rfl ?_
          obtain ⟨h93, hf⟩ := sk_ib hf
          obtain ⟨v91, e92, hf⟩ := sk_ob hf
          refine sk_callV (As := []) (st := [.ref p0]) K dX11_next_118 cl_X11_123 h93 (sX11_keyAt C l e92) (by decide) rfl rfl (Nat.le_of_ble_eq_true rfl) R1 R2 ?_
          obtain ⟨d94, e95, hf⟩ := sk_ob hf
          refine sk_putI d94 K dX11_next_121 fl_X11_116 rfl rfl rfl e95 ?_
          refine sk_goto 294 K dX11_next_124 (by decide) ?_
          have hR96 : d94 = dd := Option.some.inj hf
          exact sk_vret K dX11_next_294 rfl rfl rfl hR96
        refine sk_sub [(0, .ref p0)] [0] rfl ?_
        refine sk_loop (fun s4 => sk_G X C 2 S s4 89 [(0, .ref p0)] []) he4 (fun s4 o4 hf ih4 hx4 => ?_)
        unfold fX11_next_L89 at hf
        refine sk_aload_n K dX11_next_89 rfl 0 rfl ?_
        refine sk_aload_n K dX11_next_90 rfl 0 rfl ?_
        obtain ⟨v97, e98, hf⟩ := sk_ob hf
        refine sk_getI K dX11_next_91 fl_X11_109 rfl e98 ?_
        obtain ⟨h101, hf⟩ := sk_ib hf
        obtain ⟨v99, e100, hf⟩ := sk_ob hf
        refine sk_callV (As := [.int v97]) (st := []) K dX11_next_94 cl_X11_112 h101 (sX11_see C l e100) (by decide) rfl rfl (Nat.le_of_ble_eq_true rfl) R1 R2 ?_
        obtain ⟨v102, e103, hf⟩ := sk_ob hf
        refine sk_callS (As := [.int v99]) (st := []) K dX11_next_97 cl_X11_119 (sX11_isSmall C l e103) (by decide) rfl rfl (Nat.le_of_ble_eq_true rfl) R1 R2 ?_
        refine sk_ifeqB 116 K dX11_next_100 (by decide) (fun h104 => ?_) (fun h104 => ?_)
        · rw [if_neg h104] at hf
          refine sk_sub [(0, .ref p0)] [0] rfl ?_
          have h9 := rest4 _ (hx4 _ (Option.some.inj hf).symm)
          exact h9
        · rw [if_pos h104] at hf
          refine sk_aload_n K dX11_next_103 rfl 0 rfl ?_
          refine sk_dup K dX11_next_104 rfl ?_
          obtain ⟨v105, e106, hf⟩ := sk_ob hf
          refine sk_getI K dX11_next_105 fl_X11_109 rfl e106 ?_
          refine sk_iconst (1 : Int32) K dX11_next_108 (by decide) ?_
          refine sk_iadd K dX11_next_109 ?_
          obtain ⟨d107, e108, hf⟩ := sk_ob hf
          refine sk_putI d107 K dX11_next_110 fl_X11_109 rfl rfl rfl e108 ?_
          refine sk_goto 89 K dX11_next_113 (by decide) ?_
          refine sk_sub [(0, .ref p0)] [0] rfl ?_
          have h9 := ih4 _ (Option.some.inj hf).symm
          exact h9
    · rw [if_neg h13] at hf
      refine sk_aload_n K dX11_next_66 rfl 0 rfl ?_
      refine sk_bipush (24 : Int32) K dX11_next_67 (by decide) ?_
      obtain ⟨d109, e110, hf⟩ := sk_ob hf
      refine sk_putI d109 K dX11_next_69 fl_X11_116 rfl rfl rfl e110 ?_
      refine sk_goto 294 K dX11_next_72 (by decide) ?_
      have hR111 : d109 = dd := Option.some.inj hf
      exact sk_vret K dX11_next_294 rfl rfl rfl hR111
  refine sk_sub [(0, .ref p0)] [0] rfl ?_
  refine sk_loop (fun s1 => sk_G X C 2 S s1 8 [(0, .ref p0)] []) he1 (fun s1 o1 hf ih1 hx1 => ?_)
  unfold fX11_next_L8 at hf
  refine sk_aload_n K dX11_next_8 rfl 0 rfl ?_
  refine sk_aload_n K dX11_next_9 rfl 0 rfl ?_
  obtain ⟨v112, e113, hf⟩ := sk_ob hf
  refine sk_getI K dX11_next_10 fl_X11_106 rfl e113 ?_
  obtain ⟨h116, hf⟩ := sk_ib hf
  obtain ⟨v114, e115, hf⟩ := sk_ob hf
  refine sk_callV (As := [.int v112]) (st := []) K dX11_next_13 cl_X11_112 h116 (sX11_see C l e115) (by decide) rfl rfl (Nat.le_of_ble_eq_true rfl) R1 R2 ?_
  refine sk_bipush (10 : Int32) K dX11_next_16 (by decide) ?_
  refine sk_icmp_eq 34 K dX11_next_18 (by decide) (fun h117 => ?_) (fun h117 => ?_)
  · rw [if_pos h117] at hf
    refine sk_aload_n K dX11_next_34 rfl 0 rfl ?_
    refine sk_dup K dX11_next_35 rfl ?_
    obtain ⟨v118, e119, hf⟩ := sk_ob hf
    refine sk_getI K dX11_next_36 fl_X11_106 rfl e119 ?_
    refine sk_iconst (1 : Int32) K dX11_next_39 (by decide) ?_
    refine sk_iadd K dX11_next_40 ?_
    obtain ⟨d120, e121, hf⟩ := sk_ob hf
    refine sk_putI d120 K dX11_next_41 fl_X11_106 rfl rfl rfl e121 ?_
    refine sk_goto 8 K dX11_next_44 (by decide) ?_
    refine sk_sub [(0, .ref p0)] [0] rfl ?_
    have h9 := ih1 _ (Option.some.inj hf).symm
    exact h9
  · rw [if_neg h117] at hf
    refine sk_aload_n K dX11_next_21 rfl 0 rfl ?_
    refine sk_aload_n K dX11_next_22 rfl 0 rfl ?_
    obtain ⟨v122, e123, hf⟩ := sk_ob hf
    refine sk_getI K dX11_next_23 fl_X11_106 rfl e123 ?_
    obtain ⟨h126, hf⟩ := sk_ib hf
    obtain ⟨v124, e125, hf⟩ := sk_ob hf
    refine sk_callV (As := [.int v122]) (st := []) K dX11_next_26 cl_X11_112 h126 (sX11_see C l e125) (by decide) rfl rfl (Nat.le_of_ble_eq_true rfl) R1 R2 ?_
    refine sk_bipush (32 : Int32) K dX11_next_29 (by decide) ?_
    refine sk_icmp_ne 47 K dX11_next_31 (by decide) (fun h127 => ?_) (fun h127 => ?_)
    · rw [if_neg h127] at hf
      refine sk_sub [(0, .ref p0)] [0] rfl ?_
      have h9 := rest1 _ (hx1 _ (Option.some.inj hf).symm)
      exact h9
    · rw [if_pos h127] at hf
      refine sk_aload_n K dX11_next_34 rfl 0 rfl ?_
      refine sk_dup K dX11_next_35 rfl ?_
      obtain ⟨v128, e129, hf⟩ := sk_ob hf
      refine sk_getI K dX11_next_36 fl_X11_106 rfl e129 ?_
      refine sk_iconst (1 : Int32) K dX11_next_39 (by decide) ?_
      refine sk_iadd K dX11_next_40 ?_
      obtain ⟨d130, e131, hf⟩ := sk_ob hf
      refine sk_putI d130 K dX11_next_41 fl_X11_106 rfl rfl rfl e131 ?_
      refine sk_goto 8 K dX11_next_44 (by decide) ?_
      refine sk_sub [(0, .ref p0)] [0] rfl ?_
      have h9 := ih1 _ (Option.some.inj hf).symm
      exact h9
noncomputable def fX11_fails (S : sk_S) (d : sk_D) (p0 : Nat) (p1 : Int32) : Option (sk_D) :=
  (sk_gI S d p0 10 11).bind fun v1 => if v1 = 0 then ((sk_gI S d p0 10 9).bind fun v4 => if v4 = (25 : Int32) then ((sk_pI S d p0 10 11 (1 : Int32)).bind fun d14 => (sk_gI S d14 p0 10 6).bind fun v16 => (sk_pI S d14 p0 10 12 v16).bind fun d18 => some d18) else ((sk_pI S d p0 10 11 p1).bind fun d7 => (sk_gI S d7 p0 10 6).bind fun v9 => (sk_pI S d7 p0 10 12 v9).bind fun d11 => some d11)) else (some d)
set_option maxRecDepth 100000 in
set_option maxHeartbeats 4000000 in
theorem sX11_fails (C : sk_C) (l : Launch) {S : sk_S} {d : sk_D} {p0 : Nat} {p1 : Int32} {dd : sk_D} (hf : fX11_fails S d p0 p1 = some dd) : sk_Met C l 0 yX11_fails cX11_fails 2 none [.ref p0, .int p1] S d none S dd := by
  refine sk_Met.of (by decide) (Nat.le_of_ble_eq_true rfl) (Nat.le_refl _) (Nat.le_refl _) (fun X K0 hX => ?_)
  have K : sk_Ok X C cX11_fails 2 RX11 "fails" none 0 l none S dd := K0
  have R1 : X.2.2.2.2.2.2.2.2.2.2.2.1 ≤ S.1.1 ∧ X.2.2.2.2.2.2.2.2.2.2.2.2 ≤ S.1.2 := by rw [hX]; exact ⟨Nat.le_refl _, Nat.le_refl _⟩
  have R2 : S.1.1 ≤ S.1.1 ∧ S.1.2 ≤ S.1.2 := ⟨Nat.le_refl _, Nat.le_refl _⟩
  show sk_G X C 2 S d 0 [(0, .ref p0), (1, .int p1)] []
  unfold fX11_fails at hf
  refine sk_aload_n K dX11_fails_0 rfl 0 rfl ?_
  obtain ⟨v1, e2, hf⟩ := sk_ob hf
  refine sk_getI K dX11_fails_1 fl_X11_134 rfl e2 ?_
  refine sk_if_eq 8 K dX11_fails_4 (by decide) (fun h3 => ?_) (fun h3 => ?_)
  · rw [if_pos h3] at hf
    refine sk_aload_n K dX11_fails_8 rfl 0 rfl ?_
    refine sk_aload_n K dX11_fails_9 rfl 0 rfl ?_
    obtain ⟨v4, e5, hf⟩ := sk_ob hf
    refine sk_getI K dX11_fails_10 fl_X11_116 rfl e5 ?_
    refine sk_bipush (25 : Int32) K dX11_fails_13 (by decide) ?_
    refine sk_icmp_ne 22 K dX11_fails_15 (by decide) (fun h6 => ?_) (fun h6 => ?_)
    · rw [if_neg h6] at hf
      refine sk_iload_n K dX11_fails_22 rfl 1 rfl ?_
      obtain ⟨d7, e8, hf⟩ := sk_ob hf
      refine sk_putI d7 K dX11_fails_23 fl_X11_134 rfl rfl rfl e8 ?_
      refine sk_aload_n K dX11_fails_26 rfl 0 rfl ?_
      refine sk_aload_n K dX11_fails_27 rfl 0 rfl ?_
      obtain ⟨v9, e10, hf⟩ := sk_ob hf
      refine sk_getI K dX11_fails_28 fl_X11_106 rfl e10 ?_
      obtain ⟨d11, e12, hf⟩ := sk_ob hf
      refine sk_putI d11 K dX11_fails_31 fl_X11_137 rfl rfl rfl e12 ?_
      have hR13 : d11 = dd := Option.some.inj hf
      exact sk_vret K dX11_fails_34 rfl rfl rfl hR13
    · rw [if_pos h6] at hf
      refine sk_iconst (1 : Int32) K dX11_fails_18 (by decide) ?_
      refine sk_goto 23 K dX11_fails_19 (by decide) ?_
      obtain ⟨d14, e15, hf⟩ := sk_ob hf
      refine sk_putI d14 K dX11_fails_23 fl_X11_134 rfl rfl rfl e15 ?_
      refine sk_aload_n K dX11_fails_26 rfl 0 rfl ?_
      refine sk_aload_n K dX11_fails_27 rfl 0 rfl ?_
      obtain ⟨v16, e17, hf⟩ := sk_ob hf
      refine sk_getI K dX11_fails_28 fl_X11_106 rfl e17 ?_
      obtain ⟨d18, e19, hf⟩ := sk_ob hf
      refine sk_putI d18 K dX11_fails_31 fl_X11_137 rfl rfl rfl e19 ?_
      have hR20 : d18 = dd := Option.some.inj hf
      exact sk_vret K dX11_fails_34 rfl rfl rfl hR20
  · rw [if_neg h3] at hf
    have hR21 : d = dd := Option.some.inj hf
    exact sk_vret K dX11_fails_7 rfl rfl rfl hR21
noncomputable def fX11_is (S : sk_S) (d : sk_D) (p0 : Nat) (p1 : Int32) : Option (Bool) :=
  (sk_gI S d p0 10 11).bind fun v1 => if v1 = 0 then ((sk_gI S d p0 10 9).bind fun v5 => if v5 = p1 then (some true) else (some false)) else (some false)
set_option maxRecDepth 100000 in
set_option maxHeartbeats 4000000 in
theorem sX11_is (C : sk_C) (l : Launch) {S : sk_S} {d : sk_D} {p0 : Nat} {p1 : Int32} {rr : Bool} (hf : fX11_is S d p0 p1 = some rr) : sk_Met C l 0 yX11_is cX11_is 2 (some .boolean) [.ref p0, .int p1] S d (some (.int (sk_b rr))) S d := by
  refine sk_Met.of (by decide) (Nat.le_of_ble_eq_true rfl) (Nat.le_refl _) (Nat.le_refl _) (fun X K0 hX => ?_)
  have K : sk_Ok X C cX11_is 2 RX11 "is" (some .boolean) 0 l (some (.int (sk_b rr))) S d := K0
  have R1 : X.2.2.2.2.2.2.2.2.2.2.2.1 ≤ S.1.1 ∧ X.2.2.2.2.2.2.2.2.2.2.2.2 ≤ S.1.2 := by rw [hX]; exact ⟨Nat.le_refl _, Nat.le_refl _⟩
  have R2 : S.1.1 ≤ S.1.1 ∧ S.1.2 ≤ S.1.2 := ⟨Nat.le_refl _, Nat.le_refl _⟩
  show sk_G X C 2 S d 0 [(0, .ref p0), (1, .int p1)] []
  unfold fX11_is at hf
  refine sk_aload_n K dX11_is_0 rfl 0 rfl ?_
  obtain ⟨v1, e2, hf⟩ := sk_ob hf
  refine sk_getI K dX11_is_1 fl_X11_134 rfl e2 ?_
  refine sk_if_ne 19 K dX11_is_4 (by decide) (fun h3 => ?_) (fun h3 => ?_)
  · rw [if_neg h3] at hf
    refine sk_iconst (0 : Int32) K dX11_is_19 (by decide) ?_
    have hR4 : false = rr := Option.some.inj hf
    exact sk_zret (x := false) K dX11_is_20 rfl rfl hR4 rfl rfl
  · rw [if_pos h3] at hf
    refine sk_aload_n K dX11_is_7 rfl 0 rfl ?_
    obtain ⟨v5, e6, hf⟩ := sk_ob hf
    refine sk_getI K dX11_is_8 fl_X11_116 rfl e6 ?_
    refine sk_iload_n K dX11_is_11 rfl 1 rfl ?_
    refine sk_icmp_ne 19 K dX11_is_12 (by decide) (fun h7 => ?_) (fun h7 => ?_)
    · rw [if_neg h7] at hf
      refine sk_iconst (0 : Int32) K dX11_is_19 (by decide) ?_
      have hR8 : false = rr := Option.some.inj hf
      exact sk_zret (x := false) K dX11_is_20 rfl rfl hR8 rfl rfl
    · rw [if_pos h7] at hf
      refine sk_iconst (1 : Int32) K dX11_is_15 (by decide) ?_
      refine sk_goto 20 K dX11_is_16 (by decide) ?_
      have hR9 : true = rr := Option.some.inj hf
      exact sk_zret (x := true) K dX11_is_20 rfl rfl hR9 rfl rfl
noncomputable def fX11_eats (S : sk_S) (d : sk_D) (p0 : Nat) (p1 : Int32) : Option (Bool × sk_D) :=
  if S.2.1 p0 = (10, 0) then ((fX11_is S d p0 p1).bind fun v1 => if v1 = true then (if S.2.1 p0 = (10, 0) then ((fX11_next S d p0).bind fun d7 => some (true, d7)) else none) else (some (false, d))) else none
set_option maxRecDepth 100000 in
set_option maxHeartbeats 4000000 in
theorem sX11_eats (C : sk_C) (l : Launch) {S : sk_S} {d : sk_D} {p0 : Nat} {p1 : Int32} {rr : Bool} {dd : sk_D} (hf : fX11_eats S d p0 p1 = some (rr, dd)) : sk_Met C l 9 yX11_eats cX11_eats 2 (some .boolean) [.ref p0, .int p1] S d (some (.int (sk_b rr))) S dd := by
  refine sk_Met.of (by decide) (Nat.le_of_ble_eq_true rfl) (Nat.le_refl _) (Nat.le_refl _) (fun X K0 hX => ?_)
  have K : sk_Ok X C cX11_eats 2 RX11 "eats" (some .boolean) 9 l (some (.int (sk_b rr))) S dd := K0
  have R1 : X.2.2.2.2.2.2.2.2.2.2.2.1 ≤ S.1.1 ∧ X.2.2.2.2.2.2.2.2.2.2.2.2 ≤ S.1.2 := by rw [hX]; exact ⟨Nat.le_refl _, Nat.le_refl _⟩
  have R2 : S.1.1 ≤ S.1.1 ∧ S.1.2 ≤ S.1.2 := ⟨Nat.le_refl _, Nat.le_refl _⟩
  show sk_G X C 2 S d 0 [(0, .ref p0), (1, .int p1)] []
  unfold fX11_eats at hf
  refine sk_aload_n K dX11_eats_0 rfl 0 rfl ?_
  refine sk_iload_n K dX11_eats_1 rfl 1 rfl ?_
  obtain ⟨h3, hf⟩ := sk_ib hf
  obtain ⟨v1, e2, hf⟩ := sk_ob hf
  refine sk_callV (As := [.int p1]) (st := []) K dX11_eats_2 cl_X11_140 h3 (sX11_is C l e2) (by decide) rfl rfl (Nat.le_of_ble_eq_true rfl) R1 R2 ?_
  refine sk_ifneB 10 K dX11_eats_5 (by decide) (fun h4 => ?_) (fun h4 => ?_)
  · rw [if_pos h4] at hf
    refine sk_aload_n K dX11_eats_10 rfl 0 rfl ?_
    obtain ⟨h8, hf⟩ := sk_ib hf
    obtain ⟨d7, e6, hf⟩ := sk_ob hf
    refine sk_callV (As := []) (st := []) K dX11_eats_11 cl_X11_143 h8 (sX11_next C l e6) (by decide) rfl rfl (Nat.le_of_ble_eq_true rfl) R1 R2 ?_
    refine sk_iconst (1 : Int32) K dX11_eats_14 (by decide) ?_
    have hR9 : (true, d7) = (rr, dd) := Option.some.inj hf
    exact sk_zret (x := true) K dX11_eats_15 rfl rfl (congrArg (fun z => z.1) hR9) rfl (congrArg (fun z => z.2) hR9)
  · rw [if_neg h4] at hf
    refine sk_iconst (0 : Int32) K dX11_eats_8 (by decide) ?_
    have hR10 : (false, d) = (rr, dd) := Option.some.inj hf
    exact sk_zret (x := false) K dX11_eats_9 rfl rfl (congrArg (fun z => z.1) hR10) rfl (congrArg (fun z => z.2) hR10)
noncomputable def fX11_takes_J37 (S : sk_S) (p0 : Nat) (d1 : sk_D) : Option (Int32 × sk_D) :=
  (sk_gI S d1 p0 10 10).bind fun v2 => (sk_gI S d1 p0 10 11).bind fun v4 => if v4 = 0 then (if S.2.1 p0 = (10, 0) then ((fX11_next S d1 p0).bind fun d10 => some (v2, d10)) else none) else (some (v2, d1))
noncomputable def fX11_takes (S : sk_S) (d : sk_D) (p0 : Nat) (p1 : Int32) (p2 : Int32) : Option (Int32 × sk_D) :=
  if S.2.1 p0 = (10, 0) then ((fX11_is S d p0 (23 : Int32)).bind fun v13 => if v13 = true then ((sk_gI S d p0 10 10).bind fun v17 => (fX11_within S d v17.toInt64 p1.toInt64 p2.toInt64).bind fun v19 => if v19 = true then (fX11_takes_J37 S p0 d) else (if S.2.1 p0 = (10, 0) then ((fX11_fails S d p0 (3 : Int32)).bind fun d24 => fX11_takes_J37 S p0 d24) else none)) else (if S.2.1 p0 = (10, 0) then ((fX11_fails S d p0 (2 : Int32)).bind fun d28 => fX11_takes_J37 S p0 d28) else none)) else none
set_option maxRecDepth 100000 in
set_option maxHeartbeats 4000000 in
theorem sX11_takes (C : sk_C) (l : Launch) {S : sk_S} {d : sk_D} {p0 : Nat} {p1 : Int32} {p2 : Int32} {rr : Int32} {dd : sk_D} (hf : fX11_takes S d p0 p1 p2 = some (rr, dd)) : sk_Met C l 9 yX11_takes cX11_takes 4 (some .int) [.ref p0, .int p1, .int p2] S d (some (.int rr)) S dd := by
  refine sk_Met.of (by decide) (Nat.le_of_ble_eq_true rfl) (Nat.le_refl _) (Nat.le_refl _) (fun X K0 hX => ?_)
  have K : sk_Ok X C cX11_takes 4 RX11 "takes" (some .int) 9 l (some (.int rr)) S dd := K0
  have R1 : X.2.2.2.2.2.2.2.2.2.2.2.1 ≤ S.1.1 ∧ X.2.2.2.2.2.2.2.2.2.2.2.2 ≤ S.1.2 := by rw [hX]; exact ⟨Nat.le_refl _, Nat.le_refl _⟩
  have R2 : S.1.1 ≤ S.1.1 ∧ S.1.2 ≤ S.1.2 := ⟨Nat.le_refl _, Nat.le_refl _⟩
  show sk_G X C 4 S d 0 [(0, .ref p0), (1, .int p1), (2, .int p2)] []
  unfold fX11_takes at hf
  have j37_0 : ∀ (d1 : sk_D), fX11_takes_J37 S p0 d1 = some (rr, dd) → sk_G X C 4 S d1 37 [(0, .ref p0)] [] := by
    intro d1 hf
    unfold fX11_takes_J37 at hf
    refine sk_aload_n K dX11_takes_37 rfl 0 rfl ?_
    obtain ⟨v2, e3, hf⟩ := sk_ob hf
    refine sk_getI K dX11_takes_38 fl_X11_129 rfl e3 ?_
    refine sk_istore_n [(3, .int v2), (0, .ref p0)] K dX11_takes_41 rfl (by decide) rfl ?_
    refine sk_aload_n K dX11_takes_42 rfl 1 rfl ?_
    obtain ⟨v4, e5, hf⟩ := sk_ob hf
    refine sk_getI K dX11_takes_43 fl_X11_134 rfl e5 ?_
    refine sk_if_ne 53 K dX11_takes_46 (by decide) (fun h6 => ?_) (fun h6 => ?_)
    · rw [if_neg h6] at hf
      refine sk_iload_n K dX11_takes_53 rfl 0 rfl ?_
      have hR7 : (v2, d1) = (rr, dd) := Option.some.inj hf
      exact sk_iret K dX11_takes_54 rfl rfl (congrArg (fun z => z.1) hR7) rfl (congrArg (fun z => z.2) hR7)
    · rw [if_pos h6] at hf
      refine sk_aload_n K dX11_takes_49 rfl 1 rfl ?_
      obtain ⟨h11, hf⟩ := sk_ib hf
      obtain ⟨d10, e9, hf⟩ := sk_ob hf
      refine sk_callV (As := []) (st := []) K dX11_takes_50 cl_X11_143 h11 (sX11_next C l e9) (by decide) rfl rfl (Nat.le_of_ble_eq_true rfl) R1 R2 ?_
      refine sk_iload_n K dX11_takes_53 rfl 0 rfl ?_
      have hR12 : (v2, d10) = (rr, dd) := Option.some.inj hf
      exact sk_iret K dX11_takes_54 rfl rfl (congrArg (fun z => z.1) hR12) rfl (congrArg (fun z => z.2) hR12)
  refine sk_aload_n K dX11_takes_0 rfl 0 rfl ?_
  refine sk_bipush (23 : Int32) K dX11_takes_1 (by decide) ?_
  obtain ⟨h15, hf⟩ := sk_ib hf
  obtain ⟨v13, e14, hf⟩ := sk_ob hf
  refine sk_callV (As := [.int (23 : Int32)]) (st := []) K dX11_takes_3 cl_X11_140 h15 (sX11_is C l e14) (by decide) rfl rfl (Nat.le_of_ble_eq_true rfl) R1 R2 ?_
  refine sk_ifneB 17 K dX11_takes_6 (by decide) (fun h16 => ?_) (fun h16 => ?_)
  · rw [if_pos h16] at hf
    refine sk_aload_n K dX11_takes_17 rfl 0 rfl ?_
    obtain ⟨v17, e18, hf⟩ := sk_ob hf
    refine sk_getI K dX11_takes_18 fl_X11_129 rfl e18 ?_
    refine sk_i2l K dX11_takes_21 ?_
    refine sk_iload_n K dX11_takes_22 rfl 1 rfl ?_
    refine sk_i2l K dX11_takes_23 ?_
    refine sk_iload_n K dX11_takes_24 rfl 2 rfl ?_
    refine sk_i2l K dX11_takes_25 ?_
    obtain ⟨v19, e20, hf⟩ := sk_ob hf
    refine sk_callS (As := [.long v17.toInt64, .long p1.toInt64, .long p2.toInt64]) (st := []) K dX11_takes_26 cl_X11_150 (sX11_within C l e20) (by decide) rfl rfl (Nat.le_of_ble_eq_true rfl) R1 R2 ?_
    refine sk_ifneB 37 K dX11_takes_29 (by decide) (fun h21 => ?_) (fun h21 => ?_)
    · rw [if_pos h21] at hf
      refine sk_sub [(0, .ref p0)] [0] rfl ?_
      have h9 := j37_0 _ hf
      exact h9
    · rw [if_neg h21] at hf
      refine sk_aload_n K dX11_takes_32 rfl 0 rfl ?_
      refine sk_iconst (3 : Int32) K dX11_takes_33 (by decide) ?_
      obtain ⟨h25, hf⟩ := sk_ib hf
      obtain ⟨d24, e23, hf⟩ := sk_ob hf
      refine sk_callV (As := [.int (3 : Int32)]) (st := []) K dX11_takes_34 cl_X11_146 h25 (sX11_fails C l e23) (by decide) rfl rfl (Nat.le_of_ble_eq_true rfl) R1 R2 ?_
      refine sk_sub [(0, .ref p0)] [0] rfl ?_
      have h9 := j37_0 _ hf
      exact h9
  · rw [if_neg h16] at hf
    refine sk_aload_n K dX11_takes_9 rfl 0 rfl ?_
    refine sk_iconst (2 : Int32) K dX11_takes_10 (by decide) ?_
    obtain ⟨h29, hf⟩ := sk_ib hf
    obtain ⟨d28, e27, hf⟩ := sk_ob hf
    refine sk_callV (As := [.int (2 : Int32)]) (st := []) K dX11_takes_11 cl_X11_146 h29 (sX11_fails C l e27) (by decide) rfl rfl (Nat.le_of_ble_eq_true rfl) R1 R2 ?_
    refine sk_goto 37 K dX11_takes_14 (by decide) ?_
    refine sk_sub [(0, .ref p0)] [0] rfl ?_
    have h9 := j37_0 _ hf
    exact h9
noncomputable def fX11_isIn (S : sk_S) (d : sk_D) (p0 : Int64) (p2 : Int32) : Option (Bool) :=
  if ((p0 >>> (p2.toInt64 &&& 63)) &&& (1 : Int64)) = (1 : Int64) then (some true) else (some false)
set_option maxRecDepth 100000 in
set_option maxHeartbeats 4000000 in
theorem sX11_isIn (C : sk_C) (l : Launch) {S : sk_S} {d : sk_D} {p0 : Int64} {p2 : Int32} {rr : Bool} (hf : fX11_isIn S d p0 p2 = some rr) : sk_Met C l 0 yX11_isIn cX11_isIn 3 (some .boolean) [.long p0, .int p2] S d (some (.int (sk_b rr))) S d := by
  refine sk_Met.of (by decide) (Nat.le_of_ble_eq_true rfl) (Nat.le_refl _) (Nat.le_refl _) (fun X K0 hX => ?_)
  have K : sk_Ok X C cX11_isIn 3 RX11 "isIn" (some .boolean) 0 l (some (.int (sk_b rr))) S d := K0
  have R1 : X.2.2.2.2.2.2.2.2.2.2.2.1 ≤ S.1.1 ∧ X.2.2.2.2.2.2.2.2.2.2.2.2 ≤ S.1.2 := by rw [hX]; exact ⟨Nat.le_refl _, Nat.le_refl _⟩
  have R2 : S.1.1 ≤ S.1.1 ∧ S.1.2 ≤ S.1.2 := ⟨Nat.le_refl _, Nat.le_refl _⟩
  show sk_G X C 3 S d 0 [(0, .long p0), (2, .int p2)] []
  unfold fX11_isIn at hf
  refine sk_lload_n K dX11_isIn_0 rfl 0 rfl ?_
  refine sk_iload_n K dX11_isIn_1 rfl 1 rfl ?_
  refine sk_lshr K dX11_isIn_2 ?_
  refine sk_lconst (1 : Int64) K dX11_isIn_3 (by decide) ?_
  refine sk_land K dX11_isIn_4 ?_
  refine sk_lconst (1 : Int64) K dX11_isIn_5 (by decide) ?_
  refine sk_lcmp_ne 14 K dX11_isIn_6 dX11_isIn_7 (by decide) (fun h1 => ?_) (fun h1 => ?_)
  · rw [if_neg h1] at hf
    refine sk_iconst (0 : Int32) K dX11_isIn_14 (by decide) ?_
    have hR2 : false = rr := Option.some.inj hf
    exact sk_zret (x := false) K dX11_isIn_15 rfl rfl hR2 rfl rfl
  · rw [if_pos h1] at hf
    refine sk_iconst (1 : Int32) K dX11_isIn_10 (by decide) ?_
    refine sk_goto 15 K dX11_isIn_11 (by decide) ?_
    have hR3 : true = rr := Option.some.inj hf
    exact sk_zret (x := true) K dX11_isIn_15 rfl rfl hR3 rfl rfl
noncomputable def fX11_wordOf (S : sk_S) (d : sk_D) (p0 : Nat) (p1 : Int32) : Option (Int32) :=
  if p1 = (2 : Int32) then (some (0 : Int32)) else (if p1 = (3 : Int32) then (some (1 : Int32)) else (if p1 = (4 : Int32) then (some (2 : Int32)) else (if p1 = (5 : Int32) then (some (-1 : Int32)) else (if p1 = (6 : Int32) then (some (-1 : Int32)) else (if p1 = (7 : Int32) then (some (-1 : Int32)) else (if p1 = (8 : Int32) then (some (-1 : Int32)) else (if p1 = (9 : Int32) then (some (-1 : Int32)) else (if p1 = (10 : Int32) then (some (-1 : Int32)) else (if p1 = (11 : Int32) then ((sk_gI S d p0 10 15).bind fun v20 => if v20 = (1 : Int32) then (some (5 : Int32)) else (some (-1 : Int32))) else (if p1 = (12 : Int32) then (some (-1 : Int32)) else (if p1 = (13 : Int32) then (some (-1 : Int32)) else (if p1 = (14 : Int32) then (some (3 : Int32)) else (if p1 = (15 : Int32) then (some (4 : Int32)) else (some (-1 : Int32)))))))))))))))
set_option maxRecDepth 100000 in
set_option maxHeartbeats 4000000 in
theorem sX11_wordOf (C : sk_C) (l : Launch) {S : sk_S} {d : sk_D} {p0 : Nat} {p1 : Int32} {rr : Int32} (hf : fX11_wordOf S d p0 p1 = some rr) : sk_Met C l 0 yX11_wordOf cX11_wordOf 2 (some .int) [.ref p0, .int p1] S d (some (.int rr)) S d := by
  refine sk_Met.of (by decide) (Nat.le_of_ble_eq_true rfl) (Nat.le_refl _) (Nat.le_refl _) (fun X K0 hX => ?_)
  have K : sk_Ok X C cX11_wordOf 2 RX11 "wordOf" (some .int) 0 l (some (.int rr)) S d := K0
  have R1 : X.2.2.2.2.2.2.2.2.2.2.2.1 ≤ S.1.1 ∧ X.2.2.2.2.2.2.2.2.2.2.2.2 ≤ S.1.2 := by rw [hX]; exact ⟨Nat.le_refl _, Nat.le_refl _⟩
  have R2 : S.1.1 ≤ S.1.1 ∧ S.1.2 ≤ S.1.2 := ⟨Nat.le_refl _, Nat.le_refl _⟩
  show sk_G X C 2 S d 0 [(0, .ref p0), (1, .int p1)] []
  unfold fX11_wordOf at hf
  refine sk_iload_n K dX11_wordOf_0 rfl 1 rfl ?_
  by_cases h1 : p1 = (2 : Int32)
  · rw [if_pos h1] at hf
    refine sk_tsIn (2 : Int32) (71) 72 K dX11_wordOf_1 h1 (by decide) (by decide) rfl (by decide) ?_
    refine sk_iconst (0 : Int32) K dX11_wordOf_72 (by decide) ?_
    have hR2 : (0 : Int32) = rr := Option.some.inj hf
    exact sk_iret K dX11_wordOf_73 rfl rfl hR2 rfl rfl
  · rw [if_neg h1] at hf
    by_cases h3 : p1 = (3 : Int32)
    · rw [if_pos h3] at hf
      refine sk_tsIn (3 : Int32) (73) 74 K dX11_wordOf_1 h3 (by decide) (by decide) rfl (by decide) ?_
      refine sk_iconst (1 : Int32) K dX11_wordOf_74 (by decide) ?_
      have hR4 : (1 : Int32) = rr := Option.some.inj hf
      exact sk_iret K dX11_wordOf_75 rfl rfl hR4 rfl rfl
    · rw [if_neg h3] at hf
      by_cases h5 : p1 = (4 : Int32)
      · rw [if_pos h5] at hf
        refine sk_tsIn (4 : Int32) (75) 76 K dX11_wordOf_1 h5 (by decide) (by decide) rfl (by decide) ?_
        refine sk_iconst (2 : Int32) K dX11_wordOf_76 (by decide) ?_
        have hR6 : (2 : Int32) = rr := Option.some.inj hf
        exact sk_iret K dX11_wordOf_77 rfl rfl hR6 rfl rfl
      · rw [if_neg h5] at hf
        by_cases h7 : p1 = (5 : Int32)
        · rw [if_pos h7] at hf
          refine sk_tsIn (5 : Int32) (95) 96 K dX11_wordOf_1 h7 (by decide) (by decide) rfl (by decide) ?_
          refine sk_iconst (-1 : Int32) K dX11_wordOf_96 (by decide) ?_
          have hR8 : (-1 : Int32) = rr := Option.some.inj hf
          exact sk_iret K dX11_wordOf_97 rfl rfl hR8 rfl rfl
        · rw [if_neg h7] at hf
          by_cases h9 : p1 = (6 : Int32)
          · rw [if_pos h9] at hf
            refine sk_tsIn (6 : Int32) (95) 96 K dX11_wordOf_1 h9 (by decide) (by decide) rfl (by decide) ?_
            refine sk_iconst (-1 : Int32) K dX11_wordOf_96 (by decide) ?_
            have hR10 : (-1 : Int32) = rr := Option.some.inj hf
            exact sk_iret K dX11_wordOf_97 rfl rfl hR10 rfl rfl
          · rw [if_neg h9] at hf
            by_cases h11 : p1 = (7 : Int32)
            · rw [if_pos h11] at hf
              refine sk_tsIn (7 : Int32) (95) 96 K dX11_wordOf_1 h11 (by decide) (by decide) rfl (by decide) ?_
              refine sk_iconst (-1 : Int32) K dX11_wordOf_96 (by decide) ?_
              have hR12 : (-1 : Int32) = rr := Option.some.inj hf
              exact sk_iret K dX11_wordOf_97 rfl rfl hR12 rfl rfl
            · rw [if_neg h11] at hf
              by_cases h13 : p1 = (8 : Int32)
              · rw [if_pos h13] at hf
                refine sk_tsIn (8 : Int32) (95) 96 K dX11_wordOf_1 h13 (by decide) (by decide) rfl (by decide) ?_
                refine sk_iconst (-1 : Int32) K dX11_wordOf_96 (by decide) ?_
                have hR14 : (-1 : Int32) = rr := Option.some.inj hf
                exact sk_iret K dX11_wordOf_97 rfl rfl hR14 rfl rfl
              · rw [if_neg h13] at hf
                by_cases h15 : p1 = (9 : Int32)
                · rw [if_pos h15] at hf
                  refine sk_tsIn (9 : Int32) (95) 96 K dX11_wordOf_1 h15 (by decide) (by decide) rfl (by decide) ?_
                  refine sk_iconst (-1 : Int32) K dX11_wordOf_96 (by decide) ?_
                  have hR16 : (-1 : Int32) = rr := Option.some.inj hf
                  exact sk_iret K dX11_wordOf_97 rfl rfl hR16 rfl rfl
                · rw [if_neg h15] at hf
                  by_cases h17 : p1 = (10 : Int32)
                  · rw [if_pos h17] at hf
                    refine sk_tsIn (10 : Int32) (95) 96 K dX11_wordOf_1 h17 (by decide) (by decide) rfl (by decide) ?_
                    refine sk_iconst (-1 : Int32) K dX11_wordOf_96 (by decide) ?_
                    have hR18 : (-1 : Int32) = rr := Option.some.inj hf
                    exact sk_iret K dX11_wordOf_97 rfl rfl hR18 rfl rfl
                  · rw [if_neg h17] at hf
                    by_cases h19 : p1 = (11 : Int32)
                    · rw [if_pos h19] at hf
                      refine sk_tsIn (11 : Int32) (81) 82 K dX11_wordOf_1 h19 (by decide) (by decide) rfl (by decide) ?_
                      refine sk_aload_n K dX11_wordOf_82 rfl 0 rfl ?_
                      obtain ⟨v20, e21, hf⟩ := sk_ob hf
                      refine sk_getI K dX11_wordOf_83 fl_X11_154 rfl e21 ?_
                      refine sk_iconst (1 : Int32) K dX11_wordOf_86 (by decide) ?_
                      refine sk_icmp_ne 94 K dX11_wordOf_87 (by decide) (fun h22 => ?_) (fun h22 => ?_)
                      · rw [if_neg h22] at hf
                        refine sk_iconst (-1 : Int32) K dX11_wordOf_94 (by decide) ?_
                        have hR23 : (-1 : Int32) = rr := Option.some.inj hf
                        exact sk_iret K dX11_wordOf_95 rfl rfl hR23 rfl rfl
                      · rw [if_pos h22] at hf
                        refine sk_iconst (5 : Int32) K dX11_wordOf_90 (by decide) ?_
                        refine sk_goto 95 K dX11_wordOf_91 (by decide) ?_
                        have hR24 : (5 : Int32) = rr := Option.some.inj hf
                        exact sk_iret K dX11_wordOf_95 rfl rfl hR24 rfl rfl
                    · rw [if_neg h19] at hf
                      by_cases h25 : p1 = (12 : Int32)
                      · rw [if_pos h25] at hf
                        refine sk_tsIn (12 : Int32) (95) 96 K dX11_wordOf_1 h25 (by decide) (by decide) rfl (by decide) ?_
                        refine sk_iconst (-1 : Int32) K dX11_wordOf_96 (by decide) ?_
                        have hR26 : (-1 : Int32) = rr := Option.some.inj hf
                        exact sk_iret K dX11_wordOf_97 rfl rfl hR26 rfl rfl
                      · rw [if_neg h25] at hf
                        by_cases h27 : p1 = (13 : Int32)
                        · rw [if_pos h27] at hf
                          refine sk_tsIn (13 : Int32) (95) 96 K dX11_wordOf_1 h27 (by decide) (by decide) rfl (by decide) ?_
                          refine sk_iconst (-1 : Int32) K dX11_wordOf_96 (by decide) ?_
                          have hR28 : (-1 : Int32) = rr := Option.some.inj hf
                          exact sk_iret K dX11_wordOf_97 rfl rfl hR28 rfl rfl
                        · rw [if_neg h27] at hf
                          by_cases h29 : p1 = (14 : Int32)
                          · rw [if_pos h29] at hf
                            refine sk_tsIn (14 : Int32) (77) 78 K dX11_wordOf_1 h29 (by decide) (by decide) rfl (by decide) ?_
                            refine sk_iconst (3 : Int32) K dX11_wordOf_78 (by decide) ?_
                            have hR30 : (3 : Int32) = rr := Option.some.inj hf
                            exact sk_iret K dX11_wordOf_79 rfl rfl hR30 rfl rfl
                          · rw [if_neg h29] at hf
                            by_cases h31 : p1 = (15 : Int32)
                            · rw [if_pos h31] at hf
                              refine sk_tsIn (15 : Int32) (79) 80 K dX11_wordOf_1 h31 (by decide) (by decide) rfl (by decide) ?_
                              refine sk_iconst (4 : Int32) K dX11_wordOf_80 (by decide) ?_
                              have hR32 : (4 : Int32) = rr := Option.some.inj hf
                              exact sk_iret K dX11_wordOf_81 rfl rfl hR32 rfl rfl
                            · rw [if_neg h31] at hf
                              refine sk_tsOut 96 K dX11_wordOf_1 (sk_tsout (2) 14 [(2 : Int32), (3 : Int32), (4 : Int32), (5 : Int32), (6 : Int32), (7 : Int32), (8 : Int32), (9 : Int32), (10 : Int32), (11 : Int32), (12 : Int32), (13 : Int32), (14 : Int32), (15 : Int32)] (by decide) (by simp [h1, h3, h5, h7, h9, h11, h13, h15, h17, h19, h25, h27, h29, h31])) (by decide) ?_
                              refine sk_iconst (-1 : Int32) K dX11_wordOf_96 (by decide) ?_
                              have hR33 : (-1 : Int32) = rr := Option.some.inj hf
                              exact sk_iret K dX11_wordOf_97 rfl rfl hR33 rfl rfl
noncomputable def fX11_codes (S : sk_S) (d : sk_D) (p0 : Nat) (p1 : Int32) : Option (sk_D) :=
  (sk_gI S d p0 10 11).bind fun v1 => if v1 = 0 then ((sk_gR S p0 10 4).bind fun v4 => (sk_gR S p0 10 4).bind fun v6 => (sk_lI S d v6 20 (174 : Int32)).bind fun v8 => (sk_sI S d v4 20 ((175 : Int32) + v8) p1).bind fun d10 => (sk_gR S p0 10 4).bind fun v12 => (sk_lI S d10 v12 20 (174 : Int32)).bind fun v14 => (sk_sI S d10 v12 20 (174 : Int32) (v14 + (1 : Int32))).bind fun d16 => some d16) else (some d)
set_option maxRecDepth 100000 in
set_option maxHeartbeats 4000000 in
theorem sX11_codes (C : sk_C) (l : Launch) {S : sk_S} {d : sk_D} {p0 : Nat} {p1 : Int32} {dd : sk_D} (hf : fX11_codes S d p0 p1 = some dd) : sk_Met C l 0 yX11_codes cX11_codes 2 none [.ref p0, .int p1] S d none S dd := by
  refine sk_Met.of (by decide) (Nat.le_of_ble_eq_true rfl) (Nat.le_refl _) (Nat.le_refl _) (fun X K0 hX => ?_)
  have K : sk_Ok X C cX11_codes 2 RX11 "codes" none 0 l none S dd := K0
  have R1 : X.2.2.2.2.2.2.2.2.2.2.2.1 ≤ S.1.1 ∧ X.2.2.2.2.2.2.2.2.2.2.2.2 ≤ S.1.2 := by rw [hX]; exact ⟨Nat.le_refl _, Nat.le_refl _⟩
  have R2 : S.1.1 ≤ S.1.1 ∧ S.1.2 ≤ S.1.2 := ⟨Nat.le_refl _, Nat.le_refl _⟩
  show sk_G X C 2 S d 0 [(0, .ref p0), (1, .int p1)] []
  unfold fX11_codes at hf
  refine sk_aload_n K dX11_codes_0 rfl 0 rfl ?_
  obtain ⟨v1, e2, hf⟩ := sk_ob hf
  refine sk_getI K dX11_codes_1 fl_X11_134 rfl e2 ?_
  refine sk_if_eq 8 K dX11_codes_4 (by decide) (fun h3 => ?_) (fun h3 => ?_)
  · rw [if_pos h3] at hf
    refine sk_aload_n K dX11_codes_8 rfl 0 rfl ?_
    obtain ⟨v4, e5, hf⟩ := sk_ob hf
    refine sk_getR K dX11_codes_9 fl_X11_24 rfl e5 ?_
    refine sk_sipush (175 : Int32) K dX11_codes_12 (by decide) ?_
    refine sk_aload_n K dX11_codes_15 rfl 0 rfl ?_
    obtain ⟨v6, e7, hf⟩ := sk_ob hf
    refine sk_getR K dX11_codes_16 fl_X11_24 rfl e7 ?_
    refine sk_sipush (174 : Int32) K dX11_codes_19 (by decide) ?_
    obtain ⟨v8, e9, hf⟩ := sk_ob hf
    refine sk_ald20 K dX11_codes_22 e9 ?_
    refine sk_iadd K dX11_codes_23 ?_
    refine sk_iload_n K dX11_codes_24 rfl 1 rfl ?_
    obtain ⟨d10, e11, hf⟩ := sk_ob hf
    refine sk_ast20 d10 K dX11_codes_25 e11 ?_
    refine sk_aload_n K dX11_codes_26 rfl 0 rfl ?_
    obtain ⟨v12, e13, hf⟩ := sk_ob hf
    refine sk_getR K dX11_codes_27 fl_X11_24 rfl e13 ?_
    refine sk_sipush (174 : Int32) K dX11_codes_30 (by decide) ?_
    refine sk_dup2 K dX11_codes_33 rfl rfl ?_
    obtain ⟨v14, e15, hf⟩ := sk_ob hf
    refine sk_ald20 K dX11_codes_34 e15 ?_
    refine sk_iconst (1 : Int32) K dX11_codes_35 (by decide) ?_
    refine sk_iadd K dX11_codes_36 ?_
    obtain ⟨d16, e17, hf⟩ := sk_ob hf
    refine sk_ast20 d16 K dX11_codes_37 e17 ?_
    have hR18 : d16 = dd := Option.some.inj hf
    exact sk_vret K dX11_codes_38 rfl rfl rfl hR18
  · rw [if_neg h3] at hf
    have hR19 : d = dd := Option.some.inj hf
    exact sk_vret K dX11_codes_7 rfl rfl rfl hR19
noncomputable def fX11_goesIn_J11 (S : sk_S) (p0 : Nat) (d1 : sk_D) : Option (Bool × sk_D) :=
  (sk_gI S d1 p0 10 11).bind fun v2 => if v2 = 0 then (if S.2.1 p0 = (10, 0) then ((fX11_next S d1 p0).bind fun d12 => (sk_gI S d12 p0 10 11).bind fun v14 => if v14 = 0 then (some (true, d12)) else (some (false, d12))) else none) else ((sk_gI S d1 p0 10 11).bind fun v5 => if v5 = 0 then (some (true, d1)) else (some (false, d1)))
noncomputable def fX11_goesIn (S : sk_S) (d : sk_D) (p0 : Nat) (p1 : Int32) : Option (Bool × sk_D) :=
  if p1 = (6 : Int32) then (if S.2.1 p0 = (10, 0) then ((fX11_fails S d p0 (4 : Int32)).bind fun d22 => fX11_goesIn_J11 S p0 d22) else none) else (fX11_goesIn_J11 S p0 d)
set_option maxRecDepth 100000 in
set_option maxHeartbeats 4000000 in
theorem sX11_goesIn (C : sk_C) (l : Launch) {S : sk_S} {d : sk_D} {p0 : Nat} {p1 : Int32} {rr : Bool} {dd : sk_D} (hf : fX11_goesIn S d p0 p1 = some (rr, dd)) : sk_Met C l 9 yX11_goesIn cX11_goesIn 2 (some .boolean) [.ref p0, .int p1] S d (some (.int (sk_b rr))) S dd := by
  refine sk_Met.of (by decide) (Nat.le_of_ble_eq_true rfl) (Nat.le_refl _) (Nat.le_refl _) (fun X K0 hX => ?_)
  have K : sk_Ok X C cX11_goesIn 2 RX11 "goesIn" (some .boolean) 9 l (some (.int (sk_b rr))) S dd := K0
  have R1 : X.2.2.2.2.2.2.2.2.2.2.2.1 ≤ S.1.1 ∧ X.2.2.2.2.2.2.2.2.2.2.2.2 ≤ S.1.2 := by rw [hX]; exact ⟨Nat.le_refl _, Nat.le_refl _⟩
  have R2 : S.1.1 ≤ S.1.1 ∧ S.1.2 ≤ S.1.2 := ⟨Nat.le_refl _, Nat.le_refl _⟩
  show sk_G X C 2 S d 0 [(0, .ref p0), (1, .int p1)] []
  unfold fX11_goesIn at hf
  have j11_0 : ∀ (d1 : sk_D), fX11_goesIn_J11 S p0 d1 = some (rr, dd) → sk_G X C 2 S d1 11 [(0, .ref p0)] [] := by
    intro d1 hf
    unfold fX11_goesIn_J11 at hf
    refine sk_aload_n K dX11_goesIn_11 rfl 0 rfl ?_
    obtain ⟨v2, e3, hf⟩ := sk_ob hf
    refine sk_getI K dX11_goesIn_12 fl_X11_134 rfl e3 ?_
    refine sk_if_ne 22 K dX11_goesIn_15 (by decide) (fun h4 => ?_) (fun h4 => ?_)
    · rw [if_neg h4] at hf
      refine sk_aload_n K dX11_goesIn_22 rfl 0 rfl ?_
      obtain ⟨v5, e6, hf⟩ := sk_ob hf
      refine sk_getI K dX11_goesIn_23 fl_X11_134 rfl e6 ?_
      refine sk_if_ne 33 K dX11_goesIn_26 (by decide) (fun h7 => ?_) (fun h7 => ?_)
      · rw [if_neg h7] at hf
        refine sk_iconst (0 : Int32) K dX11_goesIn_33 (by decide) ?_
        have hR8 : (false, d1) = (rr, dd) := Option.some.inj hf
        exact sk_zret (x := false) K dX11_goesIn_34 rfl rfl (congrArg (fun z => z.1) hR8) rfl (congrArg (fun z => z.2) hR8)
      · rw [if_pos h7] at hf
        refine sk_iconst (1 : Int32) K dX11_goesIn_29 (by decide) ?_
        refine sk_goto 34 K dX11_goesIn_30 (by decide) ?_
        have hR9 : (true, d1) = (rr, dd) := Option.some.inj hf
        exact sk_zret (x := true) K dX11_goesIn_34 rfl rfl (congrArg (fun z => z.1) hR9) rfl (congrArg (fun z => z.2) hR9)
    · rw [if_pos h4] at hf
      refine sk_aload_n K dX11_goesIn_18 rfl 0 rfl ?_
      obtain ⟨h13, hf⟩ := sk_ib hf
      obtain ⟨d12, e11, hf⟩ := sk_ob hf
      refine sk_callV (As := []) (st := []) K dX11_goesIn_19 cl_X11_143 h13 (sX11_next C l e11) (by decide) rfl rfl (Nat.le_of_ble_eq_true rfl) R1 R2 ?_
      refine sk_aload_n K dX11_goesIn_22 rfl 0 rfl ?_
      obtain ⟨v14, e15, hf⟩ := sk_ob hf
      refine sk_getI K dX11_goesIn_23 fl_X11_134 rfl e15 ?_
      refine sk_if_ne 33 K dX11_goesIn_26 (by decide) (fun h16 => ?_) (fun h16 => ?_)
      · rw [if_neg h16] at hf
        refine sk_iconst (0 : Int32) K dX11_goesIn_33 (by decide) ?_
        have hR17 : (false, d12) = (rr, dd) := Option.some.inj hf
        exact sk_zret (x := false) K dX11_goesIn_34 rfl rfl (congrArg (fun z => z.1) hR17) rfl (congrArg (fun z => z.2) hR17)
      · rw [if_pos h16] at hf
        refine sk_iconst (1 : Int32) K dX11_goesIn_29 (by decide) ?_
        refine sk_goto 34 K dX11_goesIn_30 (by decide) ?_
        have hR18 : (true, d12) = (rr, dd) := Option.some.inj hf
        exact sk_zret (x := true) K dX11_goesIn_34 rfl rfl (congrArg (fun z => z.1) hR18) rfl (congrArg (fun z => z.2) hR18)
  refine sk_iload_n K dX11_goesIn_0 rfl 1 rfl ?_
  refine sk_bipush (6 : Int32) K dX11_goesIn_1 (by decide) ?_
  refine sk_icmp_ne 11 K dX11_goesIn_3 (by decide) (fun h19 => ?_) (fun h19 => ?_)
  · rw [if_neg h19] at hf
    refine sk_sub [(0, .ref p0)] [0] rfl ?_
    have h9 := j11_0 _ hf
    exact h9
  · rw [if_pos h19] at hf
    refine sk_aload_n K dX11_goesIn_6 rfl 0 rfl ?_
    refine sk_iconst (4 : Int32) K dX11_goesIn_7 (by decide) ?_
    obtain ⟨h23, hf⟩ := sk_ib hf
    obtain ⟨d22, e21, hf⟩ := sk_ob hf
    refine sk_callV (As := [.int (4 : Int32)]) (st := []) K dX11_goesIn_8 cl_X11_146 h23 (sX11_fails C l e21) (by decide) rfl rfl (Nat.le_of_ble_eq_true rfl) R1 R2 ?_
    refine sk_sub [(0, .ref p0)] [0] rfl ?_
    have h9 := j11_0 _ hf
    exact h9
noncomputable def fX11_readTruth_L5 (rec : Nat → sk_D → Nat → Int32 → Option sk_D) (S : sk_S) (p0 : Nat) (p1 : Int32) (s1 : sk_D) : Option ((sk_D) ⊕ (sk_D)) :=
  if S.2.1 p0 = (10, 0) then ((fX11_eats S s1 p0 (17 : Int32)).bind fun b9 => if b9.1 = true then (if S.2.1 p0 = (10, 0) then ((rec 1 b9.2 p0 p1).bind fun d14 => if S.2.1 p0 = (10, 0) then ((fX11_codes S d14 p0 (3008 : Int32)).bind fun d18 => some (.inl d18)) else none) else none) else (some (.inr b9.2))) else none
noncomputable def fX11_readTruth_o (rec : Nat → sk_D → Nat → Int32 → Option sk_D) (S : sk_S) (d : sk_D) (p0 : Nat) (p1 : Int32) : Option (sk_D) :=
  if S.2.1 p0 = (10, 0) then ((rec 1 d p0 p1).bind fun d3 => (sk_itr (fX11_readTruth_L5 rec S p0 p1) d3).bind fun x1 => some x1) else none
noncomputable def fX11_readBoth_L5 (rec : Nat → sk_D → Nat → Int32 → Option sk_D) (S : sk_S) (p0 : Nat) (p1 : Int32) (s1 : sk_D) : Option ((sk_D) ⊕ (sk_D)) :=
  if S.2.1 p0 = (10, 0) then ((fX11_eats S s1 p0 (16 : Int32)).bind fun b9 => if b9.1 = true then (if S.2.1 p0 = (10, 0) then ((rec 2 b9.2 p0 p1).bind fun d14 => if S.2.1 p0 = (10, 0) then ((fX11_codes S d14 p0 (3007 : Int32)).bind fun d18 => some (.inl d18)) else none) else none) else (some (.inr b9.2))) else none
noncomputable def fX11_readBoth_o (rec : Nat → sk_D → Nat → Int32 → Option sk_D) (S : sk_S) (d : sk_D) (p0 : Nat) (p1 : Int32) : Option (sk_D) :=
  if S.2.1 p0 = (10, 0) then ((rec 2 d p0 p1).bind fun d3 => (sk_itr (fX11_readBoth_L5 rec S p0 p1) d3).bind fun x1 => some x1) else none
noncomputable def fX11_readUnit_J151 (rec : Nat → sk_D → Nat → Int32 → Option sk_D) (S : sk_S) (p0 : Nat) (p1 : Int32) (v1 : Int32) (d2 : sk_D) : Option (sk_D) :=
  if S.2.1 p0 = (10, 0) then ((rec 3 d2 p0 p1).bind fun d5 => if S.2.1 p0 = (10, 0) then ((fX11_codes S d5 p0 v1).bind fun d9 => some d9) else none) else none
noncomputable def fX11_readUnit_J139 (rec : Nat → sk_D → Nat → Int32 → Option sk_D) (S : sk_S) (p0 : Nat) (p1 : Int32) (v12 : Int32) (d13 : sk_D) : Option (sk_D) :=
  if S.2.1 p0 = (10, 0) then ((fX11_next S d13 p0).bind fun d16 => fX11_readUnit_J151 rec S p0 p1 v12 d16) else none
noncomputable def fX11_readUnit_J111 (rec : Nat → sk_D → Nat → Int32 → Option sk_D) (S : sk_S) (p0 : Nat) (p1 : Int32) (v18 : Int32) (d19 : sk_D) : Option (sk_D) :=
  if S.2.1 p0 = (10, 0) then ((fX11_is S d19 p0 (39 : Int32)).bind fun v20 => if v20 = true then (fX11_readUnit_J139 rec S p0 p1 v18 d19) else (if S.2.1 p0 = (10, 0) then ((fX11_is S d19 p0 (40 : Int32)).bind fun v24 => if v24 = true then (fX11_readUnit_J139 rec S p0 p1 v18 d19) else (if S.2.1 p0 = (10, 0) then ((fX11_is S d19 p0 (41 : Int32)).bind fun v28 => if v28 = true then (fX11_readUnit_J139 rec S p0 p1 v18 d19) else (if S.2.1 p0 = (10, 0) then ((fX11_fails S d19 p0 (2 : Int32)).bind fun d34 => fX11_readUnit_J151 rec S p0 p1 v18 d34) else none)) else none)) else none)) else none
noncomputable def fX11_readUnit_o (rec : Nat → sk_D → Nat → Int32 → Option sk_D) (S : sk_S) (d : sk_D) (p0 : Nat) (p1 : Int32) : Option (sk_D) :=
  if S.2.1 p0 = (10, 0) then ((fX11_is S d p0 (18 : Int32)).bind fun v36 => if v36 = true then (if S.2.1 p0 = (10, 0) then ((fX11_goesIn S d p0 p1).bind fun b83 => if b83.1 = true then (if S.2.1 p0 = (10, 0) then ((rec 2 b83.2 p0 (p1 + (1 : Int32))).bind fun d87 => if S.2.1 p0 = (10, 0) then ((fX11_codes S d87 p0 (3006 : Int32)).bind fun d91 => some d91) else none) else none) else (some b83.2)) else none) else (if S.2.1 p0 = (10, 0) then ((fX11_is S d p0 (37 : Int32)).bind fun v40 => if v40 = true then (if S.2.1 p0 = (10, 0) then ((fX11_goesIn S d p0 p1).bind fun b60 => if b60.1 = true then (if S.2.1 p0 = (10, 0) then ((rec 0 b60.2 p0 (p1 + (1 : Int32))).bind fun d64 => if S.2.1 p0 = (10, 0) then ((fX11_eats S d64 p0 (38 : Int32)).bind fun b70 => if b70.1 = true then (some b70.2) else (if S.2.1 p0 = (10, 0) then ((fX11_fails S b70.2 p0 (2 : Int32)).bind fun d75 => some d75) else none)) else none) else none) else (some b60.2)) else none) else (if S.2.1 p0 = (10, 0) then ((rec 3 d p0 p1).bind fun d46 => if S.2.1 p0 = (10, 0) then ((fX11_is S d46 p0 (39 : Int32)).bind fun v48 => if v48 = true then (fX11_readUnit_J111 rec S p0 p1 (3003 : Int32) d46) else (if S.2.1 p0 = (10, 0) then ((fX11_is S d46 p0 (40 : Int32)).bind fun v52 => if v52 = true then (fX11_readUnit_J111 rec S p0 p1 (3004 : Int32) d46) else (fX11_readUnit_J111 rec S p0 p1 (3005 : Int32) d46)) else none)) else none) else none)) else none)) else none
noncomputable def fX11_readSum_J41i5 (rec : Nat → sk_D → Nat → Int32 → Option sk_D) (S : sk_S) (p0 : Nat) (p1 : Int32) (v5 : Int32) (d6 : sk_D) : Option ((sk_D) ⊕ (sk_D)) :=
  if S.2.1 p0 = (10, 0) then ((fX11_next S d6 p0).bind fun d9 => if S.2.1 p0 = (10, 0) then ((rec 4 d9 p0 p1).bind fun d13 => if S.2.1 p0 = (10, 0) then ((fX11_codes S d13 p0 v5).bind fun d17 => some (.inl d17)) else none) else none) else none
noncomputable def fX11_readSum_J23i5 (rec : Nat → sk_D → Nat → Int32 → Option sk_D) (S : sk_S) (p0 : Nat) (p1 : Int32) (d19 : sk_D) : Option ((sk_D) ⊕ (sk_D)) :=
  (sk_gI S d19 p0 10 9).bind fun v20 => if v20 = (32 : Int32) then (fX11_readSum_J41i5 rec S p0 p1 (3000 : Int32) d19) else (fX11_readSum_J41i5 rec S p0 p1 (3001 : Int32) d19)
noncomputable def fX11_readSum_L5 (rec : Nat → sk_D → Nat → Int32 → Option sk_D) (S : sk_S) (p0 : Nat) (p1 : Int32) (s1 : sk_D) : Option ((sk_D) ⊕ (sk_D)) :=
  if S.2.1 p0 = (10, 0) then ((fX11_is S s1 p0 (32 : Int32)).bind fun v23 => if v23 = true then (fX11_readSum_J23i5 rec S p0 p1 s1) else (if S.2.1 p0 = (10, 0) then ((fX11_is S s1 p0 (33 : Int32)).bind fun v27 => if v27 = true then (fX11_readSum_J23i5 rec S p0 p1 s1) else (some (.inr s1))) else none)) else none
noncomputable def fX11_readSum_o (rec : Nat → sk_D → Nat → Int32 → Option sk_D) (S : sk_S) (d : sk_D) (p0 : Nat) (p1 : Int32) : Option (sk_D) :=
  if S.2.1 p0 = (10, 0) then ((rec 4 d p0 p1).bind fun d3 => (sk_itr (fX11_readSum_L5 rec S p0 p1) d3).bind fun x1 => some x1) else none
noncomputable def fX11_readTerm_L5 (rec : Nat → sk_D → Nat → Int32 → Option sk_D) (S : sk_S) (p0 : Nat) (p1 : Int32) (s1 : sk_D) : Option ((sk_D) ⊕ (sk_D)) :=
  if S.2.1 p0 = (10, 0) then ((fX11_eats S s1 p0 (34 : Int32)).bind fun b9 => if b9.1 = true then (if S.2.1 p0 = (10, 0) then ((rec 5 b9.2 p0 p1).bind fun d14 => if S.2.1 p0 = (10, 0) then ((fX11_codes S d14 p0 (3002 : Int32)).bind fun d18 => some (.inl d18)) else none) else none) else (some (.inr b9.2))) else none
noncomputable def fX11_readTerm_o (rec : Nat → sk_D → Nat → Int32 → Option sk_D) (S : sk_S) (d : sk_D) (p0 : Nat) (p1 : Int32) : Option (sk_D) :=
  if S.2.1 p0 = (10, 0) then ((rec 5 d p0 p1).bind fun d3 => (sk_itr (fX11_readTerm_L5 rec S p0 p1) d3).bind fun x1 => some x1) else none
noncomputable def fX11_readAtom_J66 (rec : Nat → sk_D → Nat → Int32 → Option sk_D) (S : sk_S) (p0 : Nat) (p1 : Int32) (d1 : sk_D) : Option (sk_D) :=
  if S.2.1 p0 = (10, 0) then ((fX11_is S d1 p0 (35 : Int32)).bind fun v2 => if v2 = true then (if S.2.1 p0 = (10, 0) then ((fX11_goesIn S d1 p0 p1).bind fun b15 => if b15.1 = true then (if S.2.1 p0 = (10, 0) then ((rec 3 b15.2 p0 (p1 + (1 : Int32))).bind fun d19 => if S.2.1 p0 = (10, 0) then ((fX11_eats S d19 p0 (36 : Int32)).bind fun b25 => if b25.1 = true then (some b25.2) else (if S.2.1 p0 = (10, 0) then ((fX11_fails S b25.2 p0 (2 : Int32)).bind fun d30 => some d30) else none)) else none) else none) else (some b15.2)) else none) else (if S.2.1 p0 = (10, 0) then ((fX11_fails S d1 p0 (2 : Int32)).bind fun d8 => some d8) else none)) else none
noncomputable def fX11_readAtom_o (rec : Nat → sk_D → Nat → Int32 → Option sk_D) (S : sk_S) (d : sk_D) (p0 : Nat) (p1 : Int32) : Option (sk_D) :=
  if S.2.1 p0 = (10, 0) then ((fX11_is S d p0 (23 : Int32)).bind fun v34 => if v34 = true then ((sk_gI S d p0 10 10).bind fun v61 => if S.2.1 p0 = (10, 0) then ((fX11_codes S d p0 v61).bind fun d65 => if S.2.1 p0 = (10, 0) then ((fX11_next S d65 p0).bind fun d69 => some d69) else none) else none) else ((sk_gI S d p0 10 11).bind fun v38 => if v38 = 0 then ((sk_gI S d p0 10 9).bind fun v41 => if S.2.1 p0 = (10, 0) then ((fX11_wordOf S d p0 v41).bind fun v43 => if v43 = (-1 : Int32) then (fX11_readAtom_J66 rec S p0 p1 d) else ((sk_gI S d p0 10 9).bind fun v47 => if S.2.1 p0 = (10, 0) then ((fX11_wordOf S d p0 v47).bind fun v49 => if S.2.1 p0 = (10, 0) then ((fX11_codes S d p0 ((1000 : Int32) + v49)).bind fun d54 => if S.2.1 p0 = (10, 0) then ((fX11_next S d54 p0).bind fun d58 => some d58) else none) else none) else none)) else none) else (fX11_readAtom_J66 rec S p0 p1 d))) else none
noncomputable def gX11r (S : sk_S) : Nat → Nat → sk_D → Nat → Int32 → Option sk_D
  | 0 => fun _ _ _ _ => none
  | n + 1 => fun t d x0 x1 => match t with
    | 0 => fX11_readTruth_o (gX11r S n) S d x0 x1
    | 1 => fX11_readBoth_o (gX11r S n) S d x0 x1
    | 2 => fX11_readUnit_o (gX11r S n) S d x0 x1
    | 3 => fX11_readSum_o (gX11r S n) S d x0 x1
    | 4 => fX11_readTerm_o (gX11r S n) S d x0 x1
    | _ => fX11_readAtom_o (gX11r S n) S d x0 x1
def mX11r (C : sk_C) (l : Launch) (S : sk_S) (n : Nat) : Prop := (∀ (d : sk_D) (p0 : Nat) (p1 : Int32) (dd : sk_D), gX11r S n 0 d p0 p1 = some dd → sk_Met C l (10 + n) yX11_readTruth cX11_readTruth 2 none [.ref p0, .int p1] S d none S dd) ∧ (∀ (d : sk_D) (p0 : Nat) (p1 : Int32) (dd : sk_D), gX11r S n 1 d p0 p1 = some dd → sk_Met C l (10 + n) yX11_readBoth cX11_readBoth 2 none [.ref p0, .int p1] S d none S dd) ∧ (∀ (d : sk_D) (p0 : Nat) (p1 : Int32) (dd : sk_D), gX11r S n 2 d p0 p1 = some dd → sk_Met C l (10 + n) yX11_readUnit cX11_readUnit 3 none [.ref p0, .int p1] S d none S dd) ∧ (∀ (d : sk_D) (p0 : Nat) (p1 : Int32) (dd : sk_D), gX11r S n 3 d p0 p1 = some dd → sk_Met C l (10 + n) yX11_readSum cX11_readSum 3 none [.ref p0, .int p1] S d none S dd) ∧ (∀ (d : sk_D) (p0 : Nat) (p1 : Int32) (dd : sk_D), gX11r S n 4 d p0 p1 = some dd → sk_Met C l (10 + n) yX11_readTerm cX11_readTerm 2 none [.ref p0, .int p1] S d none S dd) ∧ (∀ (d : sk_D) (p0 : Nat) (p1 : Int32) (dd : sk_D), gX11r S n 5 d p0 p1 = some dd → sk_Met C l (10 + n) yX11_readAtom cX11_readAtom 2 none [.ref p0, .int p1] S d none S dd)
set_option maxRecDepth 100000 in
set_option maxHeartbeats 4000000 in
theorem sX11_readTruth_o (C : sk_C) (l : Launch) {S : sk_S} (n : Nat) (ih : mX11r C l S n) {d : sk_D} {p0 : Nat} {p1 : Int32} {dd : sk_D} (hf : fX11_readTruth_o (gX11r S n) S d p0 p1 = some dd) : sk_Met C l (10 + (n + 1)) yX11_readTruth cX11_readTruth 2 none [.ref p0, .int p1] S d none S dd := by
  refine sk_Met.of (by decide) (Nat.le_of_ble_eq_true rfl) (Nat.le_refl _) (Nat.le_refl _) (fun X K0 hX => ?_)
  have K : sk_Ok X C cX11_readTruth 2 RX11 "readTruth" none (10 + (n + 1)) l none S dd := K0
  have R1 : X.2.2.2.2.2.2.2.2.2.2.2.1 ≤ S.1.1 ∧ X.2.2.2.2.2.2.2.2.2.2.2.2 ≤ S.1.2 := by rw [hX]; exact ⟨Nat.le_refl _, Nat.le_refl _⟩
  have R2 : S.1.1 ≤ S.1.1 ∧ S.1.2 ≤ S.1.2 := ⟨Nat.le_refl _, Nat.le_refl _⟩
  show sk_G X C 2 S d 0 [(0, .ref p0), (1, .int p1)] []
  unfold fX11_readTruth_o at hf
  refine sk_aload_n K dX11_readTruth_0 rfl 0 rfl ?_
  refine sk_iload_n K dX11_readTruth_1 rfl 1 rfl ?_
  obtain ⟨h4, hf⟩ := sk_ib hf
  obtain ⟨d3, e2, hf⟩ := sk_ob hf
  refine sk_callV (As := [.int p1]) (st := []) K dX11_readTruth_2 cl_X11_184 h4 (ih.2.1 _ _ _ _ e2) (by omega) rfl rfl (Nat.le_of_ble_eq_true rfl) R1 R2 ?_
  obtain ⟨x1, he1, hf⟩ := sk_ob hf
  have hret1 : ∀ r, r = x1 → r = dd := by
    intro r hr
    subst hr
    exact Option.some.inj hf
  refine sk_sub [(0, .ref p0), (1, .int p1)] [0, 1] rfl ?_
  refine sk_loop (fun s1 => sk_G X C 2 S s1 5 [(0, .ref p0), (1, .int p1)] []) he1 (fun s1 o1 hf ih1 hx1 => ?_)
  unfold fX11_readTruth_L5 at hf
  refine sk_aload_n K dX11_readTruth_5 rfl 0 rfl ?_
  refine sk_bipush (17 : Int32) K dX11_readTruth_6 (by decide) ?_
  obtain ⟨h8, hf⟩ := sk_ib hf
  obtain ⟨⟨v5, d7⟩, e6, hf⟩ := sk_ob hf
  try dsimp only at hf
  refine sk_callV (As := [.int (17 : Int32)]) (st := []) K dX11_readTruth_8 cl_X11_169 h8 (sX11_eats C l e6) (by omega) rfl rfl (Nat.le_of_ble_eq_true rfl) R1 R2 ?_
  refine sk_ifeqB 29 K dX11_readTruth_11 (by decide) (fun h10 => ?_) (fun h10 => ?_)
  · rw [if_neg h10] at hf
    have hR11 : d7 = dd := hret1 _ (hx1 _ (Option.some.inj hf).symm)
    exact sk_vret K dX11_readTruth_29 rfl rfl rfl hR11
  · rw [if_pos h10] at hf
    refine sk_aload_n K dX11_readTruth_14 rfl 0 rfl ?_
    refine sk_iload_n K dX11_readTruth_15 rfl 1 rfl ?_
    obtain ⟨h15, hf⟩ := sk_ib hf
    obtain ⟨d14, e13, hf⟩ := sk_ob hf
    refine sk_callV (As := [.int p1]) (st := []) K dX11_readTruth_16 cl_X11_184 h15 (ih.2.1 _ _ _ _ e13) (by omega) rfl rfl (Nat.le_of_ble_eq_true rfl) R1 R2 ?_
    refine sk_aload_n K dX11_readTruth_19 rfl 0 rfl ?_
    refine sk_sipush (3008 : Int32) K dX11_readTruth_20 (by decide) ?_
    obtain ⟨h19, hf⟩ := sk_ib hf
    obtain ⟨d18, e17, hf⟩ := sk_ob hf
    refine sk_callV (As := [.int (3008 : Int32)]) (st := []) K dX11_readTruth_23 cl_X11_157 h19 (sX11_codes C l e17) (by omega) rfl rfl (Nat.le_of_ble_eq_true rfl) R1 R2 ?_
    refine sk_goto 5 K dX11_readTruth_26 (by decide) ?_
    refine sk_sub [(0, .ref p0), (1, .int p1)] [0, 1] rfl ?_
    have h9 := ih1 _ (Option.some.inj hf).symm
    exact h9
set_option maxRecDepth 100000 in
set_option maxHeartbeats 4000000 in
theorem sX11_readBoth_o (C : sk_C) (l : Launch) {S : sk_S} (n : Nat) (ih : mX11r C l S n) {d : sk_D} {p0 : Nat} {p1 : Int32} {dd : sk_D} (hf : fX11_readBoth_o (gX11r S n) S d p0 p1 = some dd) : sk_Met C l (10 + (n + 1)) yX11_readBoth cX11_readBoth 2 none [.ref p0, .int p1] S d none S dd := by
  refine sk_Met.of (by decide) (Nat.le_of_ble_eq_true rfl) (Nat.le_refl _) (Nat.le_refl _) (fun X K0 hX => ?_)
  have K : sk_Ok X C cX11_readBoth 2 RX11 "readBoth" none (10 + (n + 1)) l none S dd := K0
  have R1 : X.2.2.2.2.2.2.2.2.2.2.2.1 ≤ S.1.1 ∧ X.2.2.2.2.2.2.2.2.2.2.2.2 ≤ S.1.2 := by rw [hX]; exact ⟨Nat.le_refl _, Nat.le_refl _⟩
  have R2 : S.1.1 ≤ S.1.1 ∧ S.1.2 ≤ S.1.2 := ⟨Nat.le_refl _, Nat.le_refl _⟩
  show sk_G X C 2 S d 0 [(0, .ref p0), (1, .int p1)] []
  unfold fX11_readBoth_o at hf
  refine sk_aload_n K dX11_readBoth_0 rfl 0 rfl ?_
  refine sk_iload_n K dX11_readBoth_1 rfl 1 rfl ?_
  obtain ⟨h4, hf⟩ := sk_ib hf
  obtain ⟨d3, e2, hf⟩ := sk_ob hf
  refine sk_callV (As := [.int p1]) (st := []) K dX11_readBoth_2 cl_X11_178 h4 (ih.2.2.1 _ _ _ _ e2) (by omega) rfl rfl (Nat.le_of_ble_eq_true rfl) R1 R2 ?_
  obtain ⟨x1, he1, hf⟩ := sk_ob hf
  have hret1 : ∀ r, r = x1 → r = dd := by
    intro r hr
    subst hr
    exact Option.some.inj hf
  refine sk_sub [(0, .ref p0), (1, .int p1)] [0, 1] rfl ?_
  refine sk_loop (fun s1 => sk_G X C 2 S s1 5 [(0, .ref p0), (1, .int p1)] []) he1 (fun s1 o1 hf ih1 hx1 => ?_)
  unfold fX11_readBoth_L5 at hf
  refine sk_aload_n K dX11_readBoth_5 rfl 0 rfl ?_
  refine sk_bipush (16 : Int32) K dX11_readBoth_6 (by decide) ?_
  obtain ⟨h8, hf⟩ := sk_ib hf
  obtain ⟨⟨v5, d7⟩, e6, hf⟩ := sk_ob hf
  try dsimp only at hf
  refine sk_callV (As := [.int (16 : Int32)]) (st := []) K dX11_readBoth_8 cl_X11_169 h8 (sX11_eats C l e6) (by omega) rfl rfl (Nat.le_of_ble_eq_true rfl) R1 R2 ?_
  refine sk_ifeqB 29 K dX11_readBoth_11 (by decide) (fun h10 => ?_) (fun h10 => ?_)
  · rw [if_neg h10] at hf
    have hR11 : d7 = dd := hret1 _ (hx1 _ (Option.some.inj hf).symm)
    exact sk_vret K dX11_readBoth_29 rfl rfl rfl hR11
  · rw [if_pos h10] at hf
    refine sk_aload_n K dX11_readBoth_14 rfl 0 rfl ?_
    refine sk_iload_n K dX11_readBoth_15 rfl 1 rfl ?_
    obtain ⟨h15, hf⟩ := sk_ib hf
    obtain ⟨d14, e13, hf⟩ := sk_ob hf
    refine sk_callV (As := [.int p1]) (st := []) K dX11_readBoth_16 cl_X11_178 h15 (ih.2.2.1 _ _ _ _ e13) (by omega) rfl rfl (Nat.le_of_ble_eq_true rfl) R1 R2 ?_
    refine sk_aload_n K dX11_readBoth_19 rfl 0 rfl ?_
    refine sk_sipush (3007 : Int32) K dX11_readBoth_20 (by decide) ?_
    obtain ⟨h19, hf⟩ := sk_ib hf
    obtain ⟨d18, e17, hf⟩ := sk_ob hf
    refine sk_callV (As := [.int (3007 : Int32)]) (st := []) K dX11_readBoth_23 cl_X11_157 h19 (sX11_codes C l e17) (by omega) rfl rfl (Nat.le_of_ble_eq_true rfl) R1 R2 ?_
    refine sk_goto 5 K dX11_readBoth_26 (by decide) ?_
    refine sk_sub [(0, .ref p0), (1, .int p1)] [0, 1] rfl ?_
    have h9 := ih1 _ (Option.some.inj hf).symm
    exact h9
set_option maxRecDepth 100000 in
set_option maxHeartbeats 4000000 in
theorem sX11_readUnit_o (C : sk_C) (l : Launch) {S : sk_S} (n : Nat) (ih : mX11r C l S n) {d : sk_D} {p0 : Nat} {p1 : Int32} {dd : sk_D} (hf : fX11_readUnit_o (gX11r S n) S d p0 p1 = some dd) : sk_Met C l (10 + (n + 1)) yX11_readUnit cX11_readUnit 3 none [.ref p0, .int p1] S d none S dd := by
  refine sk_Met.of (by decide) (Nat.le_of_ble_eq_true rfl) (Nat.le_refl _) (Nat.le_refl _) (fun X K0 hX => ?_)
  have K : sk_Ok X C cX11_readUnit 3 RX11 "readUnit" none (10 + (n + 1)) l none S dd := K0
  have R1 : X.2.2.2.2.2.2.2.2.2.2.2.1 ≤ S.1.1 ∧ X.2.2.2.2.2.2.2.2.2.2.2.2 ≤ S.1.2 := by rw [hX]; exact ⟨Nat.le_refl _, Nat.le_refl _⟩
  have R2 : S.1.1 ≤ S.1.1 ∧ S.1.2 ≤ S.1.2 := ⟨Nat.le_refl _, Nat.le_refl _⟩
  show sk_G X C 3 S d 0 [(0, .ref p0), (1, .int p1)] []
  unfold fX11_readUnit_o at hf
  have j151_0 : ∀ (v1 : Int32) (d2 : sk_D), fX11_readUnit_J151 (gX11r S n) S p0 p1 v1 d2 = some dd → sk_G X C 3 S d2 151 [(0, .ref p0), (1, .int p1), (2, .int v1)] [] := by
    intro v1 d2 hf
    unfold fX11_readUnit_J151 at hf
    refine sk_aload_n K dX11_readUnit_151 rfl 0 rfl ?_
    refine sk_iload_n K dX11_readUnit_152 rfl 1 rfl ?_
    obtain ⟨h6, hf⟩ := sk_ib hf
    obtain ⟨d5, e4, hf⟩ := sk_ob hf
    refine sk_callV (As := [.int p1]) (st := []) K dX11_readUnit_153 cl_X11_166 h6 (ih.2.2.2.1 _ _ _ _ e4) (by omega) rfl rfl (Nat.le_of_ble_eq_true rfl) R1 R2 ?_
    refine sk_aload_n K dX11_readUnit_156 rfl 0 rfl ?_
    refine sk_iload_n K dX11_readUnit_157 rfl 2 rfl ?_
    obtain ⟨h10, hf⟩ := sk_ib hf
    obtain ⟨d9, e8, hf⟩ := sk_ob hf
    refine sk_callV (As := [.int v1]) (st := []) K dX11_readUnit_158 cl_X11_157 h10 (sX11_codes C l e8) (by omega) rfl rfl (Nat.le_of_ble_eq_true rfl) R1 R2 ?_
    have hR11 : d9 = dd := Option.some.inj hf
    exact sk_vret K dX11_readUnit_161 rfl rfl rfl hR11
  have j139_0 : ∀ (v12 : Int32) (d13 : sk_D), fX11_readUnit_J139 (gX11r S n) S p0 p1 v12 d13 = some dd → sk_G X C 3 S d13 139 [(0, .ref p0), (1, .int p1), (2, .int v12)] [] := by
    intro v12 d13 hf
    unfold fX11_readUnit_J139 at hf
    refine sk_aload_n K dX11_readUnit_139 rfl 0 rfl ?_
    obtain ⟨h17, hf⟩ := sk_ib hf
    obtain ⟨d16, e15, hf⟩ := sk_ob hf
    refine sk_callV (As := []) (st := []) K dX11_readUnit_140 cl_X11_143 h17 (sX11_next C l e15) (by omega) rfl rfl (Nat.le_of_ble_eq_true rfl) R1 R2 ?_
    refine sk_goto 151 K dX11_readUnit_143 (by decide) ?_
    refine sk_sub [(0, .ref p0), (1, .int p1), (2, .int v12)] [0, 1, 2] rfl ?_
    have h9 := j151_0 _ _ hf
    exact h9
  have j111_0 : ∀ (v18 : Int32) (d19 : sk_D), fX11_readUnit_J111 (gX11r S n) S p0 p1 v18 d19 = some dd → sk_G X C 3 S d19 111 [(0, .ref p0), (1, .int p1)] [.int v18] := by
    intro v18 d19 hf
    unfold fX11_readUnit_J111 at hf
    refine sk_istore_n [(2, .int v18), (0, .ref p0), (1, .int p1)] K dX11_readUnit_111 rfl (by decide) rfl ?_
    refine sk_aload_n K dX11_readUnit_112 rfl 1 rfl ?_
    refine sk_bipush (39 : Int32) K dX11_readUnit_113 (by decide) ?_
    obtain ⟨h22, hf⟩ := sk_ib hf
    obtain ⟨v20, e21, hf⟩ := sk_ob hf
    refine sk_callV (As := [.int (39 : Int32)]) (st := []) K dX11_readUnit_115 cl_X11_140 h22 (sX11_is C l e21) (by omega) rfl rfl (Nat.le_of_ble_eq_true rfl) R1 R2 ?_
    refine sk_ifneB 139 K dX11_readUnit_118 (by decide) (fun h23 => ?_) (fun h23 => ?_)
    · rw [if_pos h23] at hf
      refine sk_sub [(0, .ref p0), (1, .int p1), (2, .int v18)] [1, 2, 0] rfl ?_
      have h9 := j139_0 _ _ hf
      exact h9
    · rw [if_neg h23] at hf
      refine sk_aload_n K dX11_readUnit_121 rfl 1 rfl ?_
      refine sk_bipush (40 : Int32) K dX11_readUnit_122 (by decide) ?_
      obtain ⟨h26, hf⟩ := sk_ib hf
      obtain ⟨v24, e25, hf⟩ := sk_ob hf
      refine sk_callV (As := [.int (40 : Int32)]) (st := []) K dX11_readUnit_124 cl_X11_140 h26 (sX11_is C l e25) (by omega) rfl rfl (Nat.le_of_ble_eq_true rfl) R1 R2 ?_
      refine sk_ifneB 139 K dX11_readUnit_127 (by decide) (fun h27 => ?_) (fun h27 => ?_)
      · rw [if_pos h27] at hf
        refine sk_sub [(0, .ref p0), (1, .int p1), (2, .int v18)] [1, 2, 0] rfl ?_
        have h9 := j139_0 _ _ hf
        exact h9
      · rw [if_neg h27] at hf
        refine sk_aload_n K dX11_readUnit_130 rfl 1 rfl ?_
        refine sk_bipush (41 : Int32) K dX11_readUnit_131 (by decide) ?_
        obtain ⟨h30, hf⟩ := sk_ib hf
        obtain ⟨v28, e29, hf⟩ := sk_ob hf
        refine sk_callV (As := [.int (41 : Int32)]) (st := []) K dX11_readUnit_133 cl_X11_140 h30 (sX11_is C l e29) (by omega) rfl rfl (Nat.le_of_ble_eq_true rfl) R1 R2 ?_
        refine sk_ifeqB 146 K dX11_readUnit_136 (by decide) (fun h31 => ?_) (fun h31 => ?_)
        · rw [if_neg h31] at hf
          refine sk_aload_n K dX11_readUnit_146 rfl 1 rfl ?_
          refine sk_iconst (2 : Int32) K dX11_readUnit_147 (by decide) ?_
          obtain ⟨h35, hf⟩ := sk_ib hf
          obtain ⟨d34, e33, hf⟩ := sk_ob hf
          refine sk_callV (As := [.int (2 : Int32)]) (st := []) K dX11_readUnit_148 cl_X11_146 h35 (sX11_fails C l e33) (by omega) rfl rfl (Nat.le_of_ble_eq_true rfl) R1 R2 ?_
          refine sk_sub [(0, .ref p0), (1, .int p1), (2, .int v18)] [1, 2, 0] rfl ?_
          have h9 := j151_0 _ _ hf
          exact h9
        · rw [if_pos h31] at hf
          refine sk_sub [(0, .ref p0), (1, .int p1), (2, .int v18)] [1, 2, 0] rfl ?_
          have h9 := j139_0 _ _ hf
          exact h9
  refine sk_aload_n K dX11_readUnit_0 rfl 0 rfl ?_
  refine sk_bipush (18 : Int32) K dX11_readUnit_1 (by decide) ?_
  obtain ⟨h38, hf⟩ := sk_ib hf
  obtain ⟨v36, e37, hf⟩ := sk_ob hf
  refine sk_callV (As := [.int (18 : Int32)]) (st := []) K dX11_readUnit_3 cl_X11_140 h38 (sX11_is C l e37) (by omega) rfl rfl (Nat.le_of_ble_eq_true rfl) R1 R2 ?_
  refine sk_ifeqB 33 K dX11_readUnit_6 (by decide) (fun h39 => ?_) (fun h39 => ?_)
  · rw [if_neg h39] at hf
    refine sk_aload_n K dX11_readUnit_33 rfl 0 rfl ?_
    refine sk_bipush (37 : Int32) K dX11_readUnit_34 (by decide) ?_
    obtain ⟨h42, hf⟩ := sk_ib hf
    obtain ⟨v40, e41, hf⟩ := sk_ob hf
    refine sk_callV (As := [.int (37 : Int32)]) (st := []) K dX11_readUnit_36 cl_X11_140 h42 (sX11_is C l e41) (by omega) rfl rfl (Nat.le_of_ble_eq_true rfl) R1 R2 ?_
    refine sk_ifeqB 73 K dX11_readUnit_39 (by decide) (fun h43 => ?_) (fun h43 => ?_)
    · rw [if_neg h43] at hf
      refine sk_aload_n K dX11_readUnit_73 rfl 0 rfl ?_
      refine sk_iload_n K dX11_readUnit_74 rfl 1 rfl ?_
      obtain ⟨h47, hf⟩ := sk_ib hf
      obtain ⟨d46, e45, hf⟩ := sk_ob hf
      refine sk_callV (As := [.int p1]) (st := []) K dX11_readUnit_75 cl_X11_166 h47 (ih.2.2.2.1 _ _ _ _ e45) (by omega) rfl rfl (Nat.le_of_ble_eq_true rfl) R1 R2 ?_
      refine sk_aload_n K dX11_readUnit_78 rfl 0 rfl ?_
      refine sk_bipush (39 : Int32) K dX11_readUnit_79 (by decide) ?_
      obtain ⟨h50, hf⟩ := sk_ib hf
      obtain ⟨v48, e49, hf⟩ := sk_ob hf
      refine sk_callV (As := [.int (39 : Int32)]) (st := []) K dX11_readUnit_81 cl_X11_140 h50 (sX11_is C l e49) (by omega) rfl rfl (Nat.le_of_ble_eq_true rfl) R1 R2 ?_
      refine sk_ifeqB 93 K dX11_readUnit_84 (by decide) (fun h51 => ?_) (fun h51 => ?_)
      · rw [if_neg h51] at hf
        refine sk_aload_n K dX11_readUnit_93 rfl 0 rfl ?_
        refine sk_bipush (40 : Int32) K dX11_readUnit_94 (by decide) ?_
        obtain ⟨h54, hf⟩ := sk_ib hf
        obtain ⟨v52, e53, hf⟩ := sk_ob hf
        refine sk_callV (As := [.int (40 : Int32)]) (st := []) K dX11_readUnit_96 cl_X11_140 h54 (sX11_is C l e53) (by omega) rfl rfl (Nat.le_of_ble_eq_true rfl) R1 R2 ?_
        refine sk_ifeqB 108 K dX11_readUnit_99 (by decide) (fun h55 => ?_) (fun h55 => ?_)
        · rw [if_neg h55] at hf
          refine sk_sipush (3005 : Int32) K dX11_readUnit_108 (by decide) ?_
          refine sk_sub [(0, .ref p0), (1, .int p1)] [0, 1] rfl ?_
          have h9 := j111_0 _ _ hf
          exact h9
        · rw [if_pos h55] at hf
          refine sk_sipush (3004 : Int32) K dX11_readUnit_102 (by decide) ?_
          refine sk_goto 111 K dX11_readUnit_105 (by decide) ?_
          refine sk_sub [(0, .ref p0), (1, .int p1)] [0, 1] rfl ?_
          have h9 := j111_0 _ _ hf
          exact h9
      · rw [if_pos h51] at hf
        refine sk_sipush (3003 : Int32) K dX11_readUnit_87 (by decide) ?_
        refine sk_goto 111 K dX11_readUnit_90 (by decide) ?_
        refine sk_sub [(0, .ref p0), (1, .int p1)] [0, 1] rfl ?_
        have h9 := j111_0 _ _ hf
        exact h9
    · rw [if_pos h43] at hf
      refine sk_aload_n K dX11_readUnit_42 rfl 0 rfl ?_
      refine sk_iload_n K dX11_readUnit_43 rfl 1 rfl ?_
      obtain ⟨h59, hf⟩ := sk_ib hf
      obtain ⟨⟨v56, d58⟩, e57, hf⟩ := sk_ob hf
      try dsimp only at hf
      refine sk_callV (As := [.int p1]) (st := []) K dX11_readUnit_44 cl_X11_163 h59 (sX11_goesIn C l e57) (by omega) rfl rfl (Nat.le_of_ble_eq_true rfl) R1 R2 ?_
      refine sk_ifneB 51 K dX11_readUnit_47 (by decide) (fun h61 => ?_) (fun h61 => ?_)
      · rw [if_pos h61] at hf
        refine sk_aload_n K dX11_readUnit_51 rfl 0 rfl ?_
        refine sk_iload_n K dX11_readUnit_52 rfl 1 rfl ?_
        refine sk_iconst (1 : Int32) K dX11_readUnit_53 (by decide) ?_
        refine sk_iadd K dX11_readUnit_54 ?_
        obtain ⟨h65, hf⟩ := sk_ib hf
        obtain ⟨d64, e63, hf⟩ := sk_ob hf
        refine sk_callV (As := [.int (p1 + (1 : Int32))]) (st := []) K dX11_readUnit_55 cl_X11_181 h65 (ih.1 _ _ _ _ e63) (by omega) rfl rfl (Nat.le_of_ble_eq_true rfl) R1 R2 ?_
        refine sk_aload_n K dX11_readUnit_58 rfl 0 rfl ?_
        refine sk_bipush (38 : Int32) K dX11_readUnit_59 (by decide) ?_
        obtain ⟨h69, hf⟩ := sk_ib hf
        obtain ⟨⟨v66, d68⟩, e67, hf⟩ := sk_ob hf
        try dsimp only at hf
        refine sk_callV (As := [.int (38 : Int32)]) (st := []) K dX11_readUnit_61 cl_X11_169 h69 (sX11_eats C l e67) (by omega) rfl rfl (Nat.le_of_ble_eq_true rfl) R1 R2 ?_
        refine sk_ifneB 72 K dX11_readUnit_64 (by decide) (fun h71 => ?_) (fun h71 => ?_)
        · rw [if_pos h71] at hf
          have hR72 : d68 = dd := Option.some.inj hf
          exact sk_vret K dX11_readUnit_72 rfl rfl rfl hR72
        · rw [if_neg h71] at hf
          refine sk_aload_n K dX11_readUnit_67 rfl 0 rfl ?_
          refine sk_iconst (2 : Int32) K dX11_readUnit_68 (by decide) ?_
          obtain ⟨h76, hf⟩ := sk_ib hf
          obtain ⟨d75, e74, hf⟩ := sk_ob hf
          refine sk_callV (As := [.int (2 : Int32)]) (st := []) K dX11_readUnit_69 cl_X11_146 h76 (sX11_fails C l e74) (by omega) rfl rfl (Nat.le_of_ble_eq_true rfl) R1 R2 ?_
          have hR77 : d75 = dd := Option.some.inj hf
          exact sk_vret K dX11_readUnit_72 rfl rfl rfl hR77
      · rw [if_neg h61] at hf
        have hR78 : d58 = dd := Option.some.inj hf
        exact sk_vret K dX11_readUnit_50 rfl rfl rfl hR78
  · rw [if_pos h39] at hf
    refine sk_aload_n K dX11_readUnit_9 rfl 0 rfl ?_
    refine sk_iload_n K dX11_readUnit_10 rfl 1 rfl ?_
    obtain ⟨h82, hf⟩ := sk_ib hf
    obtain ⟨⟨v79, d81⟩, e80, hf⟩ := sk_ob hf
    try dsimp only at hf
    refine sk_callV (As := [.int p1]) (st := []) K dX11_readUnit_11 cl_X11_163 h82 (sX11_goesIn C l e80) (by omega) rfl rfl (Nat.le_of_ble_eq_true rfl) R1 R2 ?_
    refine sk_ifneB 18 K dX11_readUnit_14 (by decide) (fun h84 => ?_) (fun h84 => ?_)
    · rw [if_pos h84] at hf
      refine sk_aload_n K dX11_readUnit_18 rfl 0 rfl ?_
      refine sk_iload_n K dX11_readUnit_19 rfl 1 rfl ?_
      refine sk_iconst (1 : Int32) K dX11_readUnit_20 (by decide) ?_
      refine sk_iadd K dX11_readUnit_21 ?_
      obtain ⟨h88, hf⟩ := sk_ib hf
      obtain ⟨d87, e86, hf⟩ := sk_ob hf
      refine sk_callV (As := [.int (p1 + (1 : Int32))]) (st := []) K dX11_readUnit_22 cl_X11_178 h88 (ih.2.2.1 _ _ _ _ e86) (by omega) rfl rfl (Nat.le_of_ble_eq_true rfl) R1 R2 ?_
      refine sk_aload_n K dX11_readUnit_25 rfl 0 rfl ?_
      refine sk_sipush (3006 : Int32) K dX11_readUnit_26 (by decide) ?_
      obtain ⟨h92, hf⟩ := sk_ib hf
      obtain ⟨d91, e90, hf⟩ := sk_ob hf
      refine sk_callV (As := [.int (3006 : Int32)]) (st := []) K dX11_readUnit_29 cl_X11_157 h92 (sX11_codes C l e90) (by omega) rfl rfl (Nat.le_of_ble_eq_true rfl) R1 R2 ?_
      have hR93 : d91 = dd := Option.some.inj hf
      exact sk_vret K dX11_readUnit_32 rfl rfl rfl hR93
    · rw [if_neg h84] at hf
      have hR94 : d81 = dd := Option.some.inj hf
      exact sk_vret K dX11_readUnit_17 rfl rfl rfl hR94
set_option maxRecDepth 100000 in
set_option maxHeartbeats 4000000 in
theorem sX11_readSum_o (C : sk_C) (l : Launch) {S : sk_S} (n : Nat) (ih : mX11r C l S n) {d : sk_D} {p0 : Nat} {p1 : Int32} {dd : sk_D} (hf : fX11_readSum_o (gX11r S n) S d p0 p1 = some dd) : sk_Met C l (10 + (n + 1)) yX11_readSum cX11_readSum 3 none [.ref p0, .int p1] S d none S dd := by
  refine sk_Met.of (by decide) (Nat.le_of_ble_eq_true rfl) (Nat.le_refl _) (Nat.le_refl _) (fun X K0 hX => ?_)
  have K : sk_Ok X C cX11_readSum 3 RX11 "readSum" none (10 + (n + 1)) l none S dd := K0
  have R1 : X.2.2.2.2.2.2.2.2.2.2.2.1 ≤ S.1.1 ∧ X.2.2.2.2.2.2.2.2.2.2.2.2 ≤ S.1.2 := by rw [hX]; exact ⟨Nat.le_refl _, Nat.le_refl _⟩
  have R2 : S.1.1 ≤ S.1.1 ∧ S.1.2 ≤ S.1.2 := ⟨Nat.le_refl _, Nat.le_refl _⟩
  show sk_G X C 3 S d 0 [(0, .ref p0), (1, .int p1)] []
  unfold fX11_readSum_o at hf
  refine sk_aload_n K dX11_readSum_0 rfl 0 rfl ?_
  refine sk_iload_n K dX11_readSum_1 rfl 1 rfl ?_
  obtain ⟨h4, hf⟩ := sk_ib hf
  obtain ⟨d3, e2, hf⟩ := sk_ob hf
  refine sk_callV (As := [.int p1]) (st := []) K dX11_readSum_2 cl_X11_175 h4 (ih.2.2.2.2.1 _ _ _ _ e2) (by omega) rfl rfl (Nat.le_of_ble_eq_true rfl) R1 R2 ?_
  obtain ⟨x1, he1, hf⟩ := sk_ob hf
  have hret1 : ∀ r, r = x1 → r = dd := by
    intro r hr
    subst hr
    exact Option.some.inj hf
  refine sk_sub [(0, .ref p0), (1, .int p1)] [0, 1] rfl ?_
  refine sk_loop (fun s1 => sk_G X C 3 S s1 5 [(0, .ref p0), (1, .int p1)] []) he1 (fun s1 o1 hf ih1 hx1 => ?_)
  unfold fX11_readSum_L5 at hf
  have j41_1 : ∀ (v5 : Int32) (d6 : sk_D), fX11_readSum_J41i5 (gX11r S n) S p0 p1 v5 d6 = some o1 → sk_G X C 3 S d6 41 [(0, .ref p0), (1, .int p1)] [.int v5] := by
    intro v5 d6 hf
    unfold fX11_readSum_J41i5 at hf
    refine sk_istore_n [(2, .int v5), (0, .ref p0), (1, .int p1)] K dX11_readSum_41 rfl (by decide) rfl ?_
    refine sk_aload_n K dX11_readSum_42 rfl 1 rfl ?_
    obtain ⟨h10, hf⟩ := sk_ib hf
    obtain ⟨d9, e8, hf⟩ := sk_ob hf
    refine sk_callV (As := []) (st := []) K dX11_readSum_43 cl_X11_143 h10 (sX11_next C l e8) (by omega) rfl rfl (Nat.le_of_ble_eq_true rfl) R1 R2 ?_
    refine sk_aload_n K dX11_readSum_46 rfl 1 rfl ?_
    refine sk_iload_n K dX11_readSum_47 rfl 2 rfl ?_
    obtain ⟨h14, hf⟩ := sk_ib hf
    obtain ⟨d13, e12, hf⟩ := sk_ob hf
    refine sk_callV (As := [.int p1]) (st := []) K dX11_readSum_48 cl_X11_175 h14 (ih.2.2.2.2.1 _ _ _ _ e12) (by omega) rfl rfl (Nat.le_of_ble_eq_true rfl) R1 R2 ?_
    refine sk_aload_n K dX11_readSum_51 rfl 1 rfl ?_
    refine sk_iload_n K dX11_readSum_52 rfl 0 rfl ?_
    obtain ⟨h18, hf⟩ := sk_ib hf
    obtain ⟨d17, e16, hf⟩ := sk_ob hf
    refine sk_callV (As := [.int v5]) (st := []) K dX11_readSum_53 cl_X11_157 h18 (sX11_codes C l e16) (by omega) rfl rfl (Nat.le_of_ble_eq_true rfl) R1 R2 ?_
    refine sk_goto 5 K dX11_readSum_56 (by decide) ?_
    refine sk_sub [(0, .ref p0), (1, .int p1)] [1, 2] rfl ?_
    have h9 := ih1 _ (Option.some.inj hf).symm
    exact h9
  have j23_1 : ∀ (d19 : sk_D), fX11_readSum_J23i5 (gX11r S n) S p0 p1 d19 = some o1 → sk_G X C 3 S d19 23 [(0, .ref p0), (1, .int p1)] [] := by
    intro d19 hf
    unfold fX11_readSum_J23i5 at hf
    refine sk_aload_n K dX11_readSum_23 rfl 0 rfl ?_
    obtain ⟨v20, e21, hf⟩ := sk_ob hf
    refine sk_getI K dX11_readSum_24 fl_X11_116 rfl e21 ?_
    refine sk_bipush (32 : Int32) K dX11_readSum_27 (by decide) ?_
    refine sk_icmp_ne 38 K dX11_readSum_29 (by decide) (fun h22 => ?_) (fun h22 => ?_)
    · rw [if_neg h22] at hf
      refine sk_sipush (3001 : Int32) K dX11_readSum_38 (by decide) ?_
      refine sk_sub [(0, .ref p0), (1, .int p1)] [0, 1] rfl ?_
      have h9 := j41_1 _ _ hf
      exact h9
    · rw [if_pos h22] at hf
      refine sk_sipush (3000 : Int32) K dX11_readSum_32 (by decide) ?_
      refine sk_goto 41 K dX11_readSum_35 (by decide) ?_
      refine sk_sub [(0, .ref p0), (1, .int p1)] [0, 1] rfl ?_
      have h9 := j41_1 _ _ hf
      exact h9
  refine sk_aload_n K dX11_readSum_5 rfl 0 rfl ?_
  refine sk_bipush (32 : Int32) K dX11_readSum_6 (by decide) ?_
  obtain ⟨h25, hf⟩ := sk_ib hf
  obtain ⟨v23, e24, hf⟩ := sk_ob hf
  refine sk_callV (As := [.int (32 : Int32)]) (st := []) K dX11_readSum_8 cl_X11_140 h25 (sX11_is C l e24) (by omega) rfl rfl (Nat.le_of_ble_eq_true rfl) R1 R2 ?_
  refine sk_ifneB 23 K dX11_readSum_11 (by decide) (fun h26 => ?_) (fun h26 => ?_)
  · rw [if_pos h26] at hf
    refine sk_sub [(0, .ref p0), (1, .int p1)] [0, 1] rfl ?_
    have h9 := j23_1 _ hf
    exact h9
  · rw [if_neg h26] at hf
    refine sk_aload_n K dX11_readSum_14 rfl 0 rfl ?_
    refine sk_bipush (33 : Int32) K dX11_readSum_15 (by decide) ?_
    obtain ⟨h29, hf⟩ := sk_ib hf
    obtain ⟨v27, e28, hf⟩ := sk_ob hf
    refine sk_callV (As := [.int (33 : Int32)]) (st := []) K dX11_readSum_17 cl_X11_140 h29 (sX11_is C l e28) (by omega) rfl rfl (Nat.le_of_ble_eq_true rfl) R1 R2 ?_
    refine sk_ifeqB 59 K dX11_readSum_20 (by decide) (fun h30 => ?_) (fun h30 => ?_)
    · rw [if_neg h30] at hf
      have hR31 : s1 = dd := hret1 _ (hx1 _ (Option.some.inj hf).symm)
      exact sk_vret K dX11_readSum_59 rfl rfl rfl hR31
    · rw [if_pos h30] at hf
      refine sk_sub [(0, .ref p0), (1, .int p1)] [0, 1] rfl ?_
      have h9 := j23_1 _ hf
      exact h9
set_option maxRecDepth 100000 in
set_option maxHeartbeats 4000000 in
theorem sX11_readTerm_o (C : sk_C) (l : Launch) {S : sk_S} (n : Nat) (ih : mX11r C l S n) {d : sk_D} {p0 : Nat} {p1 : Int32} {dd : sk_D} (hf : fX11_readTerm_o (gX11r S n) S d p0 p1 = some dd) : sk_Met C l (10 + (n + 1)) yX11_readTerm cX11_readTerm 2 none [.ref p0, .int p1] S d none S dd := by
  refine sk_Met.of (by decide) (Nat.le_of_ble_eq_true rfl) (Nat.le_refl _) (Nat.le_refl _) (fun X K0 hX => ?_)
  have K : sk_Ok X C cX11_readTerm 2 RX11 "readTerm" none (10 + (n + 1)) l none S dd := K0
  have R1 : X.2.2.2.2.2.2.2.2.2.2.2.1 ≤ S.1.1 ∧ X.2.2.2.2.2.2.2.2.2.2.2.2 ≤ S.1.2 := by rw [hX]; exact ⟨Nat.le_refl _, Nat.le_refl _⟩
  have R2 : S.1.1 ≤ S.1.1 ∧ S.1.2 ≤ S.1.2 := ⟨Nat.le_refl _, Nat.le_refl _⟩
  show sk_G X C 2 S d 0 [(0, .ref p0), (1, .int p1)] []
  unfold fX11_readTerm_o at hf
  refine sk_aload_n K dX11_readTerm_0 rfl 0 rfl ?_
  refine sk_iload_n K dX11_readTerm_1 rfl 1 rfl ?_
  obtain ⟨h4, hf⟩ := sk_ib hf
  obtain ⟨d3, e2, hf⟩ := sk_ob hf
  refine sk_callV (As := [.int p1]) (st := []) K dX11_readTerm_2 cl_X11_172 h4 (ih.2.2.2.2.2 _ _ _ _ e2) (by omega) rfl rfl (Nat.le_of_ble_eq_true rfl) R1 R2 ?_
  obtain ⟨x1, he1, hf⟩ := sk_ob hf
  have hret1 : ∀ r, r = x1 → r = dd := by
    intro r hr
    subst hr
    exact Option.some.inj hf
  refine sk_sub [(0, .ref p0), (1, .int p1)] [0, 1] rfl ?_
  refine sk_loop (fun s1 => sk_G X C 2 S s1 5 [(0, .ref p0), (1, .int p1)] []) he1 (fun s1 o1 hf ih1 hx1 => ?_)
  unfold fX11_readTerm_L5 at hf
  refine sk_aload_n K dX11_readTerm_5 rfl 0 rfl ?_
  refine sk_bipush (34 : Int32) K dX11_readTerm_6 (by decide) ?_
  obtain ⟨h8, hf⟩ := sk_ib hf
  obtain ⟨⟨v5, d7⟩, e6, hf⟩ := sk_ob hf
  try dsimp only at hf
  refine sk_callV (As := [.int (34 : Int32)]) (st := []) K dX11_readTerm_8 cl_X11_169 h8 (sX11_eats C l e6) (by omega) rfl rfl (Nat.le_of_ble_eq_true rfl) R1 R2 ?_
  refine sk_ifeqB 29 K dX11_readTerm_11 (by decide) (fun h10 => ?_) (fun h10 => ?_)
  · rw [if_neg h10] at hf
    have hR11 : d7 = dd := hret1 _ (hx1 _ (Option.some.inj hf).symm)
    exact sk_vret K dX11_readTerm_29 rfl rfl rfl hR11
  · rw [if_pos h10] at hf
    refine sk_aload_n K dX11_readTerm_14 rfl 0 rfl ?_
    refine sk_iload_n K dX11_readTerm_15 rfl 1 rfl ?_
    obtain ⟨h15, hf⟩ := sk_ib hf
    obtain ⟨d14, e13, hf⟩ := sk_ob hf
    refine sk_callV (As := [.int p1]) (st := []) K dX11_readTerm_16 cl_X11_172 h15 (ih.2.2.2.2.2 _ _ _ _ e13) (by omega) rfl rfl (Nat.le_of_ble_eq_true rfl) R1 R2 ?_
    refine sk_aload_n K dX11_readTerm_19 rfl 0 rfl ?_
    refine sk_sipush (3002 : Int32) K dX11_readTerm_20 (by decide) ?_
    obtain ⟨h19, hf⟩ := sk_ib hf
    obtain ⟨d18, e17, hf⟩ := sk_ob hf
    refine sk_callV (As := [.int (3002 : Int32)]) (st := []) K dX11_readTerm_23 cl_X11_157 h19 (sX11_codes C l e17) (by omega) rfl rfl (Nat.le_of_ble_eq_true rfl) R1 R2 ?_
    refine sk_goto 5 K dX11_readTerm_26 (by decide) ?_
    refine sk_sub [(0, .ref p0), (1, .int p1)] [0, 1] rfl ?_
    have h9 := ih1 _ (Option.some.inj hf).symm
    exact h9
set_option maxRecDepth 100000 in
set_option maxHeartbeats 4000000 in
theorem sX11_readAtom_o (C : sk_C) (l : Launch) {S : sk_S} (n : Nat) (ih : mX11r C l S n) {d : sk_D} {p0 : Nat} {p1 : Int32} {dd : sk_D} (hf : fX11_readAtom_o (gX11r S n) S d p0 p1 = some dd) : sk_Met C l (10 + (n + 1)) yX11_readAtom cX11_readAtom 2 none [.ref p0, .int p1] S d none S dd := by
  refine sk_Met.of (by decide) (Nat.le_of_ble_eq_true rfl) (Nat.le_refl _) (Nat.le_refl _) (fun X K0 hX => ?_)
  have K : sk_Ok X C cX11_readAtom 2 RX11 "readAtom" none (10 + (n + 1)) l none S dd := K0
  have R1 : X.2.2.2.2.2.2.2.2.2.2.2.1 ≤ S.1.1 ∧ X.2.2.2.2.2.2.2.2.2.2.2.2 ≤ S.1.2 := by rw [hX]; exact ⟨Nat.le_refl _, Nat.le_refl _⟩
  have R2 : S.1.1 ≤ S.1.1 ∧ S.1.2 ≤ S.1.2 := ⟨Nat.le_refl _, Nat.le_refl _⟩
  show sk_G X C 2 S d 0 [(0, .ref p0), (1, .int p1)] []
  unfold fX11_readAtom_o at hf
  have j66_0 : ∀ (d1 : sk_D), fX11_readAtom_J66 (gX11r S n) S p0 p1 d1 = some dd → sk_G X C 2 S d1 66 [(0, .ref p0), (1, .int p1)] [] := by
    intro d1 hf
    unfold fX11_readAtom_J66 at hf
    refine sk_aload_n K dX11_readAtom_66 rfl 0 rfl ?_
    refine sk_bipush (35 : Int32) K dX11_readAtom_67 (by decide) ?_
    obtain ⟨h4, hf⟩ := sk_ib hf
    obtain ⟨v2, e3, hf⟩ := sk_ob hf
    refine sk_callV (As := [.int (35 : Int32)]) (st := []) K dX11_readAtom_69 cl_X11_140 h4 (sX11_is C l e3) (by omega) rfl rfl (Nat.le_of_ble_eq_true rfl) R1 R2 ?_
    refine sk_ifeqB 108 K dX11_readAtom_72 (by decide) (fun h5 => ?_) (fun h5 => ?_)
    · rw [if_neg h5] at hf
      refine sk_aload_n K dX11_readAtom_108 rfl 0 rfl ?_
      refine sk_iconst (2 : Int32) K dX11_readAtom_109 (by decide) ?_
      obtain ⟨h9, hf⟩ := sk_ib hf
      obtain ⟨d8, e7, hf⟩ := sk_ob hf
      refine sk_callV (As := [.int (2 : Int32)]) (st := []) K dX11_readAtom_110 cl_X11_146 h9 (sX11_fails C l e7) (by omega) rfl rfl (Nat.le_of_ble_eq_true rfl) R1 R2 ?_
      have hR10 : d8 = dd := Option.some.inj hf
      exact sk_vret K dX11_readAtom_113 rfl rfl rfl hR10
    · rw [if_pos h5] at hf
      refine sk_aload_n K dX11_readAtom_75 rfl 0 rfl ?_
      refine sk_iload_n K dX11_readAtom_76 rfl 1 rfl ?_
      obtain ⟨h14, hf⟩ := sk_ib hf
      obtain ⟨⟨v11, d13⟩, e12, hf⟩ := sk_ob hf
      try dsimp only at hf
      refine sk_callV (As := [.int p1]) (st := []) K dX11_readAtom_77 cl_X11_163 h14 (sX11_goesIn C l e12) (by omega) rfl rfl (Nat.le_of_ble_eq_true rfl) R1 R2 ?_
      refine sk_ifneB 84 K dX11_readAtom_80 (by decide) (fun h16 => ?_) (fun h16 => ?_)
      · rw [if_pos h16] at hf
        refine sk_aload_n K dX11_readAtom_84 rfl 0 rfl ?_
        refine sk_iload_n K dX11_readAtom_85 rfl 1 rfl ?_
        refine sk_iconst (1 : Int32) K dX11_readAtom_86 (by decide) ?_
        refine sk_iadd K dX11_readAtom_87 ?_
        obtain ⟨h20, hf⟩ := sk_ib hf
        obtain ⟨d19, e18, hf⟩ := sk_ob hf
        refine sk_callV (As := [.int (p1 + (1 : Int32))]) (st := []) K dX11_readAtom_88 cl_X11_166 h20 (ih.2.2.2.1 _ _ _ _ e18) (by omega) rfl rfl (Nat.le_of_ble_eq_true rfl) R1 R2 ?_
        refine sk_aload_n K dX11_readAtom_91 rfl 0 rfl ?_
        refine sk_bipush (36 : Int32) K dX11_readAtom_92 (by decide) ?_
        obtain ⟨h24, hf⟩ := sk_ib hf
        obtain ⟨⟨v21, d23⟩, e22, hf⟩ := sk_ob hf
        try dsimp only at hf
        refine sk_callV (As := [.int (36 : Int32)]) (st := []) K dX11_readAtom_94 cl_X11_169 h24 (sX11_eats C l e22) (by omega) rfl rfl (Nat.le_of_ble_eq_true rfl) R1 R2 ?_
        refine sk_ifneB 113 K dX11_readAtom_97 (by decide) (fun h26 => ?_) (fun h26 => ?_)
        · rw [if_pos h26] at hf
          have hR27 : d23 = dd := Option.some.inj hf
          exact sk_vret K dX11_readAtom_113 rfl rfl rfl hR27
        · rw [if_neg h26] at hf
          refine sk_aload_n K dX11_readAtom_100 rfl 0 rfl ?_
          refine sk_iconst (2 : Int32) K dX11_readAtom_101 (by decide) ?_
          obtain ⟨h31, hf⟩ := sk_ib hf
          obtain ⟨d30, e29, hf⟩ := sk_ob hf
          refine sk_callV (As := [.int (2 : Int32)]) (st := []) K dX11_readAtom_102 cl_X11_146 h31 (sX11_fails C l e29) (by omega) rfl rfl (Nat.le_of_ble_eq_true rfl) R1 R2 ?_
          refine sk_goto 113 K dX11_readAtom_105 (by decide) ?_
          have hR32 : d30 = dd := Option.some.inj hf
          exact sk_vret K dX11_readAtom_113 rfl rfl rfl hR32
      · rw [if_neg h16] at hf
        have hR33 : d13 = dd := Option.some.inj hf
        exact sk_vret K dX11_readAtom_83 rfl rfl rfl hR33
  refine sk_aload_n K dX11_readAtom_0 rfl 0 rfl ?_
  refine sk_bipush (23 : Int32) K dX11_readAtom_1 (by decide) ?_
  obtain ⟨h36, hf⟩ := sk_ib hf
  obtain ⟨v34, e35, hf⟩ := sk_ob hf
  refine sk_callV (As := [.int (23 : Int32)]) (st := []) K dX11_readAtom_3 cl_X11_140 h36 (sX11_is C l e35) (by omega) rfl rfl (Nat.le_of_ble_eq_true rfl) R1 R2 ?_
  refine sk_ifeqB 24 K dX11_readAtom_6 (by decide) (fun h37 => ?_) (fun h37 => ?_)
  · rw [if_neg h37] at hf
    refine sk_aload_n K dX11_readAtom_24 rfl 0 rfl ?_
    obtain ⟨v38, e39, hf⟩ := sk_ob hf
    refine sk_getI K dX11_readAtom_25 fl_X11_134 rfl e39 ?_
    refine sk_if_ne 66 K dX11_readAtom_28 (by decide) (fun h40 => ?_) (fun h40 => ?_)
    · rw [if_neg h40] at hf
      refine sk_sub [(0, .ref p0), (1, .int p1)] [0, 1] rfl ?_
      have h9 := j66_0 _ hf
      exact h9
    · rw [if_pos h40] at hf
      refine sk_aload_n K dX11_readAtom_31 rfl 0 rfl ?_
      refine sk_aload_n K dX11_readAtom_32 rfl 0 rfl ?_
      obtain ⟨v41, e42, hf⟩ := sk_ob hf
      refine sk_getI K dX11_readAtom_33 fl_X11_116 rfl e42 ?_
      obtain ⟨h45, hf⟩ := sk_ib hf
      obtain ⟨v43, e44, hf⟩ := sk_ob hf
      refine sk_callV (As := [.int v41]) (st := []) K dX11_readAtom_36 cl_X11_160 h45 (sX11_wordOf C l e44) (by omega) rfl rfl (Nat.le_of_ble_eq_true rfl) R1 R2 ?_
      refine sk_iconst (-1 : Int32) K dX11_readAtom_39 (by decide) ?_
      refine sk_icmp_eq 66 K dX11_readAtom_40 (by decide) (fun h46 => ?_) (fun h46 => ?_)
      · rw [if_pos h46] at hf
        refine sk_sub [(0, .ref p0), (1, .int p1)] [0, 1] rfl ?_
        have h9 := j66_0 _ hf
        exact h9
      · rw [if_neg h46] at hf
        refine sk_aload_n K dX11_readAtom_43 rfl 0 rfl ?_
        refine sk_sipush (1000 : Int32) K dX11_readAtom_44 (by decide) ?_
        refine sk_aload_n K dX11_readAtom_47 rfl 0 rfl ?_
        refine sk_aload_n K dX11_readAtom_48 rfl 0 rfl ?_
        obtain ⟨v47, e48, hf⟩ := sk_ob hf
        refine sk_getI K dX11_readAtom_49 fl_X11_116 rfl e48 ?_
        obtain ⟨h51, hf⟩ := sk_ib hf
        obtain ⟨v49, e50, hf⟩ := sk_ob hf
        refine sk_callV (As := [.int v47]) (st := [.int (1000 : Int32), .ref p0]) K dX11_readAtom_52 cl_X11_160 h51 (sX11_wordOf C l e50) (by omega) rfl rfl (Nat.le_of_ble_eq_true rfl) R1 R2 ?_
        refine sk_iadd K dX11_readAtom_55 ?_
        obtain ⟨h55, hf⟩ := sk_ib hf
        obtain ⟨d54, e53, hf⟩ := sk_ob hf
        refine sk_callV (As := [.int ((1000 : Int32) + v49)]) (st := []) K dX11_readAtom_56 cl_X11_157 h55 (sX11_codes C l e53) (by omega) rfl rfl (Nat.le_of_ble_eq_true rfl) R1 R2 ?_
        refine sk_aload_n K dX11_readAtom_59 rfl 0 rfl ?_
        obtain ⟨h59, hf⟩ := sk_ib hf
        obtain ⟨d58, e57, hf⟩ := sk_ob hf
        refine sk_callV (As := []) (st := []) K dX11_readAtom_60 cl_X11_143 h59 (sX11_next C l e57) (by omega) rfl rfl (Nat.le_of_ble_eq_true rfl) R1 R2 ?_
        refine sk_goto 113 K dX11_readAtom_63 (by decide) ?_
        have hR60 : d58 = dd := Option.some.inj hf
        exact sk_vret K dX11_readAtom_113 rfl rfl rfl hR60
  · rw [if_pos h37] at hf
    refine sk_aload_n K dX11_readAtom_9 rfl 0 rfl ?_
    refine sk_aload_n K dX11_readAtom_10 rfl 0 rfl ?_
    obtain ⟨v61, e62, hf⟩ := sk_ob hf
    refine sk_getI K dX11_readAtom_11 fl_X11_129 rfl e62 ?_
    obtain ⟨h66, hf⟩ := sk_ib hf
    obtain ⟨d65, e64, hf⟩ := sk_ob hf
    refine sk_callV (As := [.int v61]) (st := []) K dX11_readAtom_14 cl_X11_157 h66 (sX11_codes C l e64) (by omega) rfl rfl (Nat.le_of_ble_eq_true rfl) R1 R2 ?_
    refine sk_aload_n K dX11_readAtom_17 rfl 0 rfl ?_
    obtain ⟨h70, hf⟩ := sk_ib hf
    obtain ⟨d69, e68, hf⟩ := sk_ob hf
    refine sk_callV (As := []) (st := []) K dX11_readAtom_18 cl_X11_143 h70 (sX11_next C l e68) (by omega) rfl rfl (Nat.le_of_ble_eq_true rfl) R1 R2 ?_
    refine sk_goto 113 K dX11_readAtom_21 (by decide) ?_
    have hR71 : d69 = dd := Option.some.inj hf
    exact sk_vret K dX11_readAtom_113 rfl rfl rfl hR71
theorem gX11r_all (C : sk_C) (l : Launch) (S : sk_S) : ∀ n : Nat, mX11r C l S n := by
  intro n
  induction n with
  | zero =>
    exact ⟨(fun _ _ _ _ hf => by cases hf), (fun _ _ _ _ hf => by cases hf), (fun _ _ _ _ hf => by cases hf), (fun _ _ _ _ hf => by cases hf), (fun _ _ _ _ hf => by cases hf), (fun _ _ _ _ hf => by cases hf)⟩
  | succ n ih =>
    exact ⟨(fun _ _ _ _ hf => sX11_readTruth_o C l n ih hf), (fun _ _ _ _ hf => sX11_readBoth_o C l n ih hf), (fun _ _ _ _ hf => sX11_readUnit_o C l n ih hf), (fun _ _ _ _ hf => sX11_readSum_o C l n ih hf), (fun _ _ _ _ hf => sX11_readTerm_o C l n ih hf), (fun _ _ _ _ hf => sX11_readAtom_o C l n ih hf)⟩
noncomputable def fX11_readTruth (S : sk_S) (d : sk_D) (p0 : Nat) (p1 : Int32) : Option (sk_D) := gX11r S 100 0 d p0 p1
theorem sX11_readTruth (C : sk_C) (l : Launch) {S : sk_S} {d : sk_D} {p0 : Nat} {p1 : Int32} {dd : sk_D} (hf : fX11_readTruth S d p0 p1 = some dd) : sk_Met C l 110 yX11_readTruth cX11_readTruth 2 none [.ref p0, .int p1] S d none S dd := (gX11r_all C l S 100).1 _ _ _ _ hf
noncomputable def fX11_readBoth (S : sk_S) (d : sk_D) (p0 : Nat) (p1 : Int32) : Option (sk_D) := gX11r S 100 1 d p0 p1
theorem sX11_readBoth (C : sk_C) (l : Launch) {S : sk_S} {d : sk_D} {p0 : Nat} {p1 : Int32} {dd : sk_D} (hf : fX11_readBoth S d p0 p1 = some dd) : sk_Met C l 110 yX11_readBoth cX11_readBoth 2 none [.ref p0, .int p1] S d none S dd := (gX11r_all C l S 100).2.1 _ _ _ _ hf
noncomputable def fX11_readUnit (S : sk_S) (d : sk_D) (p0 : Nat) (p1 : Int32) : Option (sk_D) := gX11r S 100 2 d p0 p1
theorem sX11_readUnit (C : sk_C) (l : Launch) {S : sk_S} {d : sk_D} {p0 : Nat} {p1 : Int32} {dd : sk_D} (hf : fX11_readUnit S d p0 p1 = some dd) : sk_Met C l 110 yX11_readUnit cX11_readUnit 3 none [.ref p0, .int p1] S d none S dd := (gX11r_all C l S 100).2.2.1 _ _ _ _ hf
noncomputable def fX11_readSum (S : sk_S) (d : sk_D) (p0 : Nat) (p1 : Int32) : Option (sk_D) := gX11r S 100 3 d p0 p1
theorem sX11_readSum (C : sk_C) (l : Launch) {S : sk_S} {d : sk_D} {p0 : Nat} {p1 : Int32} {dd : sk_D} (hf : fX11_readSum S d p0 p1 = some dd) : sk_Met C l 110 yX11_readSum cX11_readSum 3 none [.ref p0, .int p1] S d none S dd := (gX11r_all C l S 100).2.2.2.1 _ _ _ _ hf
noncomputable def fX11_readTerm (S : sk_S) (d : sk_D) (p0 : Nat) (p1 : Int32) : Option (sk_D) := gX11r S 100 4 d p0 p1
theorem sX11_readTerm (C : sk_C) (l : Launch) {S : sk_S} {d : sk_D} {p0 : Nat} {p1 : Int32} {dd : sk_D} (hf : fX11_readTerm S d p0 p1 = some dd) : sk_Met C l 110 yX11_readTerm cX11_readTerm 2 none [.ref p0, .int p1] S d none S dd := (gX11r_all C l S 100).2.2.2.2.1 _ _ _ _ hf
noncomputable def fX11_readAtom (S : sk_S) (d : sk_D) (p0 : Nat) (p1 : Int32) : Option (sk_D) := gX11r S 100 5 d p0 p1
theorem sX11_readAtom (C : sk_C) (l : Launch) {S : sk_S} {d : sk_D} {p0 : Nat} {p1 : Int32} {dd : sk_D} (hf : fX11_readAtom S d p0 p1 = some dd) : sk_Met C l 110 yX11_readAtom cX11_readAtom 2 none [.ref p0, .int p1] S d none S dd := (gX11r_all C l S 100).2.2.2.2.2 _ _ _ _ hf
noncomputable def fX11_readFlag (S : sk_S) (d : sk_D) (p0 : Nat) (p1 : Int32) : Option (Bool × sk_D) :=
  if S.2.1 p0 = (10, 0) then ((fX11_eats S d p0 (4 : Int32)).bind fun b5 => if b5.1 = true then ((sk_gR S p0 10 4).bind fun v90 => if S.2.1 p0 = (10, 0) then ((fX11_takes S b5.2 p0 (0 : Int32) (9 : Int32)).bind fun b96 => (sk_sI S b96.2 v90 20 ((18 : Int32) + p1) b96.1).bind fun d97 => (sk_gI S d97 p0 10 11).bind fun v99 => if v99 = 0 then (some (true, d97)) else (some (false, d97))) else none) else (if S.2.1 p0 = (10, 0) then ((fX11_eats S b5.2 p0 (5 : Int32)).bind fun b11 => if b11.1 = true then ((sk_gR S p0 10 4).bind fun v76 => if S.2.1 p0 = (10, 0) then ((fX11_takes S b11.2 p0 (0 : Int32) (10 : Int32)).bind fun b82 => (sk_sI S b82.2 v76 20 ((26 : Int32) + p1) b82.1).bind fun d83 => (sk_gI S d83 p0 10 11).bind fun v85 => if v85 = 0 then (some (true, d83)) else (some (false, d83))) else none) else (if S.2.1 p0 = (10, 0) then ((fX11_eats S b11.2 p0 (6 : Int32)).bind fun b17 => if b17.1 = true then ((sk_gR S p0 10 4).bind fun v62 => if S.2.1 p0 = (10, 0) then ((fX11_takes S b17.2 p0 (0 : Int32) (10 : Int32)).bind fun b68 => (sk_sI S b68.2 v62 20 ((34 : Int32) + p1) b68.1).bind fun d69 => (sk_gI S d69 p0 10 11).bind fun v71 => if v71 = 0 then (some (true, d69)) else (some (false, d69))) else none) else (if S.2.1 p0 = (10, 0) then ((fX11_eats S b17.2 p0 (7 : Int32)).bind fun b23 => if b23.1 = true then ((sk_gR S p0 10 4).bind fun v48 => if S.2.1 p0 = (10, 0) then ((fX11_takes S b23.2 p0 (0 : Int32) (9 : Int32)).bind fun b54 => (sk_sI S b54.2 v48 20 ((42 : Int32) + p1) b54.1).bind fun d55 => (sk_gI S d55 p0 10 11).bind fun v57 => if v57 = 0 then (some (true, d55)) else (some (false, d55))) else none) else (if S.2.1 p0 = (10, 0) then ((fX11_eats S b23.2 p0 (8 : Int32)).bind fun b29 => if b29.1 = true then ((sk_gR S p0 10 4).bind fun v32 => (sk_lI S b29.2 v32 20 ((50 : Int32) + p1)).bind fun v34 => if S.2.1 p0 = (10, 0) then ((fX11_takes S b29.2 p0 (0 : Int32) (p1 - (1 : Int32))).bind fun b40 => (sk_sI S b40.2 v32 20 ((50 : Int32) + p1) (v34 ||| ((1 : Int32) <<< (b40.1 &&& 31)))).bind fun d41 => (sk_gI S d41 p0 10 11).bind fun v43 => if v43 = 0 then (some (true, d41)) else (some (false, d41))) else none) else (some (false, b29.2))) else none)) else none)) else none)) else none)) else none
set_option maxRecDepth 100000 in
set_option maxHeartbeats 4000000 in
theorem sX11_readFlag (C : sk_C) (l : Launch) {S : sk_S} {d : sk_D} {p0 : Nat} {p1 : Int32} {rr : Bool} {dd : sk_D} (hf : fX11_readFlag S d p0 p1 = some (rr, dd)) : sk_Met C l 10 yX11_readFlag cX11_readFlag 2 (some .boolean) [.ref p0, .int p1] S d (some (.int (sk_b rr))) S dd := by
  refine sk_Met.of (by decide) (Nat.le_of_ble_eq_true rfl) (Nat.le_refl _) (Nat.le_refl _) (fun X K0 hX => ?_)
  have K : sk_Ok X C cX11_readFlag 2 RX11 "readFlag" (some .boolean) 10 l (some (.int (sk_b rr))) S dd := K0
  have R1 : X.2.2.2.2.2.2.2.2.2.2.2.1 ≤ S.1.1 ∧ X.2.2.2.2.2.2.2.2.2.2.2.2 ≤ S.1.2 := by rw [hX]; exact ⟨Nat.le_refl _, Nat.le_refl _⟩
  have R2 : S.1.1 ≤ S.1.1 ∧ S.1.2 ≤ S.1.2 := ⟨Nat.le_refl _, Nat.le_refl _⟩
  show sk_G X C 2 S d 0 [(0, .ref p0), (1, .int p1)] []
  unfold fX11_readFlag at hf
  refine sk_aload_n K dX11_readFlag_0 rfl 0 rfl ?_
  refine sk_iconst (4 : Int32) K dX11_readFlag_1 (by decide) ?_
  obtain ⟨h4, hf⟩ := sk_ib hf
  obtain ⟨⟨v1, d3⟩, e2, hf⟩ := sk_ob hf
  try dsimp only at hf
  refine sk_callV (As := [.int (4 : Int32)]) (st := []) K dX11_readFlag_2 cl_X11_169 h4 (sX11_eats C l e2) (by decide) rfl rfl (Nat.le_of_ble_eq_true rfl) R1 R2 ?_
  refine sk_ifeqB 27 K dX11_readFlag_5 (by decide) (fun h6 => ?_) (fun h6 => ?_)
  · rw [if_neg h6] at hf
    refine sk_aload_n K dX11_readFlag_27 rfl 0 rfl ?_
    refine sk_iconst (5 : Int32) K dX11_readFlag_28 (by decide) ?_
    obtain ⟨h10, hf⟩ := sk_ib hf
    obtain ⟨⟨v7, d9⟩, e8, hf⟩ := sk_ob hf
    try dsimp only at hf
    refine sk_callV (As := [.int (5 : Int32)]) (st := []) K dX11_readFlag_29 cl_X11_169 h10 (sX11_eats C l e8) (by decide) rfl rfl (Nat.le_of_ble_eq_true rfl) R1 R2 ?_
    refine sk_ifeqB 54 K dX11_readFlag_32 (by decide) (fun h12 => ?_) (fun h12 => ?_)
    · rw [if_neg h12] at hf
      refine sk_aload_n K dX11_readFlag_54 rfl 0 rfl ?_
      refine sk_bipush (6 : Int32) K dX11_readFlag_55 (by decide) ?_
      obtain ⟨h16, hf⟩ := sk_ib hf
      obtain ⟨⟨v13, d15⟩, e14, hf⟩ := sk_ob hf
      try dsimp only at hf
      refine sk_callV (As := [.int (6 : Int32)]) (st := []) K dX11_readFlag_57 cl_X11_169 h16 (sX11_eats C l e14) (by decide) rfl rfl (Nat.le_of_ble_eq_true rfl) R1 R2 ?_
      refine sk_ifeqB 82 K dX11_readFlag_60 (by decide) (fun h18 => ?_) (fun h18 => ?_)
      · rw [if_neg h18] at hf
        refine sk_aload_n K dX11_readFlag_82 rfl 0 rfl ?_
        refine sk_bipush (7 : Int32) K dX11_readFlag_83 (by decide) ?_
        obtain ⟨h22, hf⟩ := sk_ib hf
        obtain ⟨⟨v19, d21⟩, e20, hf⟩ := sk_ob hf
        try dsimp only at hf
        refine sk_callV (As := [.int (7 : Int32)]) (st := []) K dX11_readFlag_85 cl_X11_169 h22 (sX11_eats C l e20) (by decide) rfl rfl (Nat.le_of_ble_eq_true rfl) R1 R2 ?_
        refine sk_ifeqB 110 K dX11_readFlag_88 (by decide) (fun h24 => ?_) (fun h24 => ?_)
        · rw [if_neg h24] at hf
          refine sk_aload_n K dX11_readFlag_110 rfl 0 rfl ?_
          refine sk_bipush (8 : Int32) K dX11_readFlag_111 (by decide) ?_
          obtain ⟨h28, hf⟩ := sk_ib hf
          obtain ⟨⟨v25, d27⟩, e26, hf⟩ := sk_ob hf
          try dsimp only at hf
          refine sk_callV (As := [.int (8 : Int32)]) (st := []) K dX11_readFlag_113 cl_X11_169 h28 (sX11_eats C l e26) (by decide) rfl rfl (Nat.le_of_ble_eq_true rfl) R1 R2 ?_
          refine sk_ifeqB 144 K dX11_readFlag_116 (by decide) (fun h30 => ?_) (fun h30 => ?_)
          · rw [if_neg h30] at hf
            refine sk_iconst (0 : Int32) K dX11_readFlag_144 (by decide) ?_
            have hR31 : (false, d27) = (rr, dd) := Option.some.inj hf
            exact sk_zret (x := false) K dX11_readFlag_145 rfl rfl (congrArg (fun z => z.1) hR31) rfl (congrArg (fun z => z.2) hR31)
          · rw [if_pos h30] at hf
            refine sk_aload_n K dX11_readFlag_119 rfl 0 rfl ?_
            obtain ⟨v32, e33, hf⟩ := sk_ob hf
            refine sk_getR K dX11_readFlag_120 fl_X11_24 rfl e33 ?_
            refine sk_bipush (50 : Int32) K dX11_readFlag_123 (by decide) ?_
            refine sk_iload_n K dX11_readFlag_125 rfl 1 rfl ?_
            refine sk_iadd K dX11_readFlag_126 ?_
            refine sk_dup2 K dX11_readFlag_127 rfl rfl ?_
            obtain ⟨v34, e35, hf⟩ := sk_ob hf
            refine sk_ald20 K dX11_readFlag_128 e35 ?_
            refine sk_iconst (1 : Int32) K dX11_readFlag_129 (by decide) ?_
            refine sk_aload_n K dX11_readFlag_130 rfl 0 rfl ?_
            refine sk_iconst (0 : Int32) K dX11_readFlag_131 (by decide) ?_
            refine sk_iload_n K dX11_readFlag_132 rfl 1 rfl ?_
            refine sk_iconst (1 : Int32) K dX11_readFlag_133 (by decide) ?_
            refine sk_isub K dX11_readFlag_134 ?_
            obtain ⟨h39, hf⟩ := sk_ib hf
            obtain ⟨⟨v36, d38⟩, e37, hf⟩ := sk_ob hf
            try dsimp only at hf
            refine sk_callV (As := [.int (0 : Int32), .int (p1 - (1 : Int32))]) (st := [.int (1 : Int32), .int v34, .int ((50 : Int32) + p1), .ref v32]) K dX11_readFlag_135 cl_X11_187 h39 (sX11_takes C l e37) (by decide) rfl rfl (Nat.le_of_ble_eq_true rfl) R1 R2 ?_
            refine sk_ishl K dX11_readFlag_138 ?_
            refine sk_ior K dX11_readFlag_139 ?_
            obtain ⟨d41, e42, hf⟩ := sk_ob hf
            refine sk_ast20 d41 K dX11_readFlag_140 e42 ?_
            refine sk_goto 146 K dX11_readFlag_141 (by decide) ?_
            refine sk_aload_n K dX11_readFlag_146 rfl 0 rfl ?_
            obtain ⟨v43, e44, hf⟩ := sk_ob hf
            refine sk_getI K dX11_readFlag_147 fl_X11_134 rfl e44 ?_
            refine sk_if_ne 157 K dX11_readFlag_150 (by decide) (fun h45 => ?_) (fun h45 => ?_)
            · rw [if_neg h45] at hf
              refine sk_iconst (0 : Int32) K dX11_readFlag_157 (by decide) ?_
              have hR46 : (false, d41) = (rr, dd) := Option.some.inj hf
              exact sk_zret (x := false) K dX11_readFlag_158 rfl rfl (congrArg (fun z => z.1) hR46) rfl (congrArg (fun z => z.2) hR46)
            · rw [if_pos h45] at hf
              refine sk_iconst (1 : Int32) K dX11_readFlag_153 (by decide) ?_
              refine sk_goto 158 K dX11_readFlag_154 (by decide) ?_
              have hR47 : (true, d41) = (rr, dd) := Option.some.inj hf
              exact sk_zret (x := true) K dX11_readFlag_158 rfl rfl (congrArg (fun z => z.1) hR47) rfl (congrArg (fun z => z.2) hR47)
        · rw [if_pos h24] at hf
          refine sk_aload_n K dX11_readFlag_91 rfl 0 rfl ?_
          obtain ⟨v48, e49, hf⟩ := sk_ob hf
          refine sk_getR K dX11_readFlag_92 fl_X11_24 rfl e49 ?_
          refine sk_bipush (42 : Int32) K dX11_readFlag_95 (by decide) ?_
          refine sk_iload_n K dX11_readFlag_97 rfl 1 rfl ?_
          refine sk_iadd K dX11_readFlag_98 ?_
          refine sk_aload_n K dX11_readFlag_99 rfl 0 rfl ?_
          refine sk_iconst (0 : Int32) K dX11_readFlag_100 (by decide) ?_
          refine sk_bipush (9 : Int32) K dX11_readFlag_101 (by decide) ?_
          obtain ⟨h53, hf⟩ := sk_ib hf
          obtain ⟨⟨v50, d52⟩, e51, hf⟩ := sk_ob hf
          try dsimp only at hf
          refine sk_callV (As := [.int (0 : Int32), .int (9 : Int32)]) (st := [.int ((42 : Int32) + p1), .ref v48]) K dX11_readFlag_103 cl_X11_187 h53 (sX11_takes C l e51) (by decide) rfl rfl (Nat.le_of_ble_eq_true rfl) R1 R2 ?_
          obtain ⟨d55, e56, hf⟩ := sk_ob hf
          refine sk_ast20 d55 K dX11_readFlag_106 e56 ?_
          refine sk_goto 146 K dX11_readFlag_107 (by decide) ?_
          refine sk_aload_n K dX11_readFlag_146 rfl 0 rfl ?_
          obtain ⟨v57, e58, hf⟩ := sk_ob hf
          refine sk_getI K dX11_readFlag_147 fl_X11_134 rfl e58 ?_
          refine sk_if_ne 157 K dX11_readFlag_150 (by decide) (fun h59 => ?_) (fun h59 => ?_)
          · rw [if_neg h59] at hf
            refine sk_iconst (0 : Int32) K dX11_readFlag_157 (by decide) ?_
            have hR60 : (false, d55) = (rr, dd) := Option.some.inj hf
            exact sk_zret (x := false) K dX11_readFlag_158 rfl rfl (congrArg (fun z => z.1) hR60) rfl (congrArg (fun z => z.2) hR60)
          · rw [if_pos h59] at hf
            refine sk_iconst (1 : Int32) K dX11_readFlag_153 (by decide) ?_
            refine sk_goto 158 K dX11_readFlag_154 (by decide) ?_
            have hR61 : (true, d55) = (rr, dd) := Option.some.inj hf
            exact sk_zret (x := true) K dX11_readFlag_158 rfl rfl (congrArg (fun z => z.1) hR61) rfl (congrArg (fun z => z.2) hR61)
      · rw [if_pos h18] at hf
        refine sk_aload_n K dX11_readFlag_63 rfl 0 rfl ?_
        obtain ⟨v62, e63, hf⟩ := sk_ob hf
        refine sk_getR K dX11_readFlag_64 fl_X11_24 rfl e63 ?_
        refine sk_bipush (34 : Int32) K dX11_readFlag_67 (by decide) ?_
        refine sk_iload_n K dX11_readFlag_69 rfl 1 rfl ?_
        refine sk_iadd K dX11_readFlag_70 ?_
        refine sk_aload_n K dX11_readFlag_71 rfl 0 rfl ?_
        refine sk_iconst (0 : Int32) K dX11_readFlag_72 (by decide) ?_
        refine sk_bipush (10 : Int32) K dX11_readFlag_73 (by decide) ?_
        obtain ⟨h67, hf⟩ := sk_ib hf
        obtain ⟨⟨v64, d66⟩, e65, hf⟩ := sk_ob hf
        try dsimp only at hf
        refine sk_callV (As := [.int (0 : Int32), .int (10 : Int32)]) (st := [.int ((34 : Int32) + p1), .ref v62]) K dX11_readFlag_75 cl_X11_187 h67 (sX11_takes C l e65) (by decide) rfl rfl (Nat.le_of_ble_eq_true rfl) R1 R2 ?_
        obtain ⟨d69, e70, hf⟩ := sk_ob hf
        refine sk_ast20 d69 K dX11_readFlag_78 e70 ?_
        refine sk_goto 146 K dX11_readFlag_79 (by decide) ?_
        refine sk_aload_n K dX11_readFlag_146 rfl 0 rfl ?_
        obtain ⟨v71, e72, hf⟩ := sk_ob hf
        refine sk_getI K dX11_readFlag_147 fl_X11_134 rfl e72 ?_
        refine sk_if_ne 157 K dX11_readFlag_150 (by decide) (fun h73 => ?_) (fun h73 => ?_)
        · rw [if_neg h73] at hf
          refine sk_iconst (0 : Int32) K dX11_readFlag_157 (by decide) ?_
          have hR74 : (false, d69) = (rr, dd) := Option.some.inj hf
          exact sk_zret (x := false) K dX11_readFlag_158 rfl rfl (congrArg (fun z => z.1) hR74) rfl (congrArg (fun z => z.2) hR74)
        · rw [if_pos h73] at hf
          refine sk_iconst (1 : Int32) K dX11_readFlag_153 (by decide) ?_
          refine sk_goto 158 K dX11_readFlag_154 (by decide) ?_
          have hR75 : (true, d69) = (rr, dd) := Option.some.inj hf
          exact sk_zret (x := true) K dX11_readFlag_158 rfl rfl (congrArg (fun z => z.1) hR75) rfl (congrArg (fun z => z.2) hR75)
    · rw [if_pos h12] at hf
      refine sk_aload_n K dX11_readFlag_35 rfl 0 rfl ?_
      obtain ⟨v76, e77, hf⟩ := sk_ob hf
      refine sk_getR K dX11_readFlag_36 fl_X11_24 rfl e77 ?_
      refine sk_bipush (26 : Int32) K dX11_readFlag_39 (by decide) ?_
      refine sk_iload_n K dX11_readFlag_41 rfl 1 rfl ?_
      refine sk_iadd K dX11_readFlag_42 ?_
      refine sk_aload_n K dX11_readFlag_43 rfl 0 rfl ?_
      refine sk_iconst (0 : Int32) K dX11_readFlag_44 (by decide) ?_
      refine sk_bipush (10 : Int32) K dX11_readFlag_45 (by decide) ?_
      obtain ⟨h81, hf⟩ := sk_ib hf
      obtain ⟨⟨v78, d80⟩, e79, hf⟩ := sk_ob hf
      try dsimp only at hf
      refine sk_callV (As := [.int (0 : Int32), .int (10 : Int32)]) (st := [.int ((26 : Int32) + p1), .ref v76]) K dX11_readFlag_47 cl_X11_187 h81 (sX11_takes C l e79) (by decide) rfl rfl (Nat.le_of_ble_eq_true rfl) R1 R2 ?_
      obtain ⟨d83, e84, hf⟩ := sk_ob hf
      refine sk_ast20 d83 K dX11_readFlag_50 e84 ?_
      refine sk_goto 146 K dX11_readFlag_51 (by decide) ?_
      refine sk_aload_n K dX11_readFlag_146 rfl 0 rfl ?_
      obtain ⟨v85, e86, hf⟩ := sk_ob hf
      refine sk_getI K dX11_readFlag_147 fl_X11_134 rfl e86 ?_
      refine sk_if_ne 157 K dX11_readFlag_150 (by decide) (fun h87 => ?_) (fun h87 => ?_)
      · rw [if_neg h87] at hf
        refine sk_iconst (0 : Int32) K dX11_readFlag_157 (by decide) ?_
        have hR88 : (false, d83) = (rr, dd) := Option.some.inj hf
        exact sk_zret (x := false) K dX11_readFlag_158 rfl rfl (congrArg (fun z => z.1) hR88) rfl (congrArg (fun z => z.2) hR88)
      · rw [if_pos h87] at hf
        refine sk_iconst (1 : Int32) K dX11_readFlag_153 (by decide) ?_
        refine sk_goto 158 K dX11_readFlag_154 (by decide) ?_
        have hR89 : (true, d83) = (rr, dd) := Option.some.inj hf
        exact sk_zret (x := true) K dX11_readFlag_158 rfl rfl (congrArg (fun z => z.1) hR89) rfl (congrArg (fun z => z.2) hR89)
  · rw [if_pos h6] at hf
    refine sk_aload_n K dX11_readFlag_8 rfl 0 rfl ?_
    obtain ⟨v90, e91, hf⟩ := sk_ob hf
    refine sk_getR K dX11_readFlag_9 fl_X11_24 rfl e91 ?_
    refine sk_bipush (18 : Int32) K dX11_readFlag_12 (by decide) ?_
    refine sk_iload_n K dX11_readFlag_14 rfl 1 rfl ?_
    refine sk_iadd K dX11_readFlag_15 ?_
    refine sk_aload_n K dX11_readFlag_16 rfl 0 rfl ?_
    refine sk_iconst (0 : Int32) K dX11_readFlag_17 (by decide) ?_
    refine sk_bipush (9 : Int32) K dX11_readFlag_18 (by decide) ?_
    obtain ⟨h95, hf⟩ := sk_ib hf
    obtain ⟨⟨v92, d94⟩, e93, hf⟩ := sk_ob hf
    try dsimp only at hf
    refine sk_callV (As := [.int (0 : Int32), .int (9 : Int32)]) (st := [.int ((18 : Int32) + p1), .ref v90]) K dX11_readFlag_20 cl_X11_187 h95 (sX11_takes C l e93) (by decide) rfl rfl (Nat.le_of_ble_eq_true rfl) R1 R2 ?_
    obtain ⟨d97, e98, hf⟩ := sk_ob hf
    refine sk_ast20 d97 K dX11_readFlag_23 e98 ?_
    refine sk_goto 146 K dX11_readFlag_24 (by decide) ?_
    refine sk_aload_n K dX11_readFlag_146 rfl 0 rfl ?_
    obtain ⟨v99, e100, hf⟩ := sk_ob hf
    refine sk_getI K dX11_readFlag_147 fl_X11_134 rfl e100 ?_
    refine sk_if_ne 157 K dX11_readFlag_150 (by decide) (fun h101 => ?_) (fun h101 => ?_)
    · rw [if_neg h101] at hf
      refine sk_iconst (0 : Int32) K dX11_readFlag_157 (by decide) ?_
      have hR102 : (false, d97) = (rr, dd) := Option.some.inj hf
      exact sk_zret (x := false) K dX11_readFlag_158 rfl rfl (congrArg (fun z => z.1) hR102) rfl (congrArg (fun z => z.2) hR102)
    · rw [if_pos h101] at hf
      refine sk_iconst (1 : Int32) K dX11_readFlag_153 (by decide) ?_
      refine sk_goto 158 K dX11_readFlag_154 (by decide) ?_
      have hR103 : (true, d97) = (rr, dd) := Option.some.inj hf
      exact sk_zret (x := true) K dX11_readFlag_158 rfl rfl (congrArg (fun z => z.1) hR103) rfl (congrArg (fun z => z.2) hR103)
