noncomputable def fX5_line_J181 (S : sk_S) (p0 : Nat) (d1 : sk_D) : Option (sk_D) :=
  if S.2.1 p0 = (5, 0) then ((fX5_endLine S d1 p0).bind fun d4 => some d4) else none
noncomputable def fX5_line (S : sk_S) (d : sk_D) (p0 : Nat) : Option (sk_D) :=
  if S.2.1 p0 = (5, 0) then ((fX5_kind S d p0).bind fun v7 => if v7 = (2 : Int32) then (if S.2.1 p0 = (5, 0) then ((fX5_doingLine S d p0).bind fun d13 => fX5_line_J181 S p0 d13) else none) else (if v7 = (3 : Int32) then (if S.2.1 p0 = (5, 0) then ((fX5_fail S d p0 (2 : Int32)).bind fun d18 => fX5_line_J181 S p0 d18) else none) else (if v7 = (4 : Int32) then (if S.2.1 p0 = (5, 0) then ((fX5_fail S d p0 (2 : Int32)).bind fun d23 => fX5_line_J181 S p0 d23) else none) else (if v7 = (5 : Int32) then (if S.2.1 p0 = (5, 0) then ((fX5_fail S d p0 (2 : Int32)).bind fun d28 => fX5_line_J181 S p0 d28) else none) else (if v7 = (6 : Int32) then (if S.2.1 p0 = (5, 0) then ((fX5_fail S d p0 (2 : Int32)).bind fun d33 => fX5_line_J181 S p0 d33) else none) else (if v7 = (7 : Int32) then (if S.2.1 p0 = (5, 0) then ((fX5_next S d p0).bind fun d38 => (sk_gR S p0 5 0).bind fun v40 => if S.2.1 p0 = (5, 0) then ((fX5_number S d38 p0 (0 : Int32) (9 : Int32)).bind fun b46 => (sk_pI S b46.2 v40 2 3 b46.1).bind fun d47 => fX5_line_J181 S p0 d47) else none) else none) else (if v7 = (8 : Int32) then (if S.2.1 p0 = (5, 0) then ((fX5_fail S d p0 (2 : Int32)).bind fun d52 => fX5_line_J181 S p0 d52) else none) else (if v7 = (9 : Int32) then (if S.2.1 p0 = (5, 0) then ((fX5_fail S d p0 (2 : Int32)).bind fun d57 => fX5_line_J181 S p0 d57) else none) else (if v7 = (10 : Int32) then (if S.2.1 p0 = (5, 0) then ((fX5_fail S d p0 (2 : Int32)).bind fun d62 => fX5_line_J181 S p0 d62) else none) else (if v7 = (11 : Int32) then (if S.2.1 p0 = (5, 0) then ((fX5_fail S d p0 (2 : Int32)).bind fun d67 => fX5_line_J181 S p0 d67) else none) else (if v7 = (12 : Int32) then (if S.2.1 p0 = (5, 0) then ((fX5_doorLine S d p0).bind fun d72 => fX5_line_J181 S p0 d72) else none) else (if v7 = (13 : Int32) then (if S.2.1 p0 = (5, 0) then ((fX5_next S d p0).bind fun d77 => if S.2.1 p0 = (5, 0) then ((fX5_clashPair S d77 p0).bind fun d81 => fX5_line_J181 S p0 d81) else none) else none) else (if v7 = (14 : Int32) then ((sk_gR S p0 5 0).bind fun v84 => (sk_gR S v84 2 13).bind fun v86 => if S.2.1 p0 = (5, 0) then ((fX5_lawBegins S d p0 v86 false).bind fun d90 => (sk_gR S p0 5 0).bind fun v92 => (sk_gR S v92 2 13).bind fun v94 => if S.2.1 p0 = (5, 0) then ((fX5_truth S d90 p0 v94 (0 : Int32)).bind fun d98 => fX5_line_J181 S p0 d98) else none) else none) else (if v7 = (15 : Int32) then ((sk_gR S p0 5 0).bind fun v101 => (sk_gR S v101 2 14).bind fun v103 => if S.2.1 p0 = (5, 0) then ((fX5_lawBegins S d p0 v103 true).bind fun d107 => (sk_gR S p0 5 0).bind fun v109 => (sk_gR S v109 2 14).bind fun v111 => if S.2.1 p0 = (5, 0) then ((fX5_truth S d107 p0 v111 (0 : Int32)).bind fun d115 => fX5_line_J181 S p0 d115) else none) else none) else (if S.2.1 p0 = (5, 0) then ((fX5_fail S d p0 (2 : Int32)).bind fun d119 => fX5_line_J181 S p0 d119) else none))))))))))))))) else none
set_option maxRecDepth 100000 in
set_option maxHeartbeats 4000000 in
theorem sX5_line (C : sk_C) (l : Launch) {S : sk_S} {d : sk_D} {p0 : Nat} {dd : sk_D} (hf : fX5_line S d p0 = some dd) : sk_Met C l 103 yX5_line cX5_line 1 none [.ref p0] S d none S dd := by
  refine sk_Met.of (by decide) (Nat.le_of_ble_eq_true rfl) (Nat.le_refl _) (Nat.le_refl _) (fun X K0 hX => ?_)
  have K : sk_Ok X C cX5_line 1 RX5 "line" none 103 l none S dd := K0
  have R1 : X.2.2.2.2.2.2.2.2.2.2.2.1 ≤ S.1.1 ∧ X.2.2.2.2.2.2.2.2.2.2.2.2 ≤ S.1.2 := by rw [hX]; exact ⟨Nat.le_refl _, Nat.le_refl _⟩
  have R2 : S.1.1 ≤ S.1.1 ∧ S.1.2 ≤ S.1.2 := ⟨Nat.le_refl _, Nat.le_refl _⟩
  show sk_G X C 1 S d 0 [(0, .ref p0)] []
  unfold fX5_line at hf
  have j181_0 : ∀ (d1 : sk_D), fX5_line_J181 S p0 d1 = some dd → sk_G X C 1 S d1 181 [(0, .ref p0)] [] := by
    intro d1 hf
    unfold fX5_line_J181 at hf
    refine sk_aload_n K dX5_line_181 rfl 0 rfl ?_
    obtain ⟨h5, hf⟩ := sk_ib hf
    obtain ⟨d4, e3, hf⟩ := sk_ob hf
    refine sk_callV (As := []) (st := []) K dX5_line_182 cl_X5_116 h5 (sX5_endLine C l e3) (by decide) rfl rfl (Nat.le_of_ble_eq_true rfl) R1 R2 ?_
    have hR6 : d4 = dd := Option.some.inj hf
    exact sk_vret K dX5_line_185 rfl rfl rfl hR6
  refine sk_aload_n K dX5_line_0 rfl 0 rfl ?_
  obtain ⟨h9, hf⟩ := sk_ib hf
  obtain ⟨v7, e8, hf⟩ := sk_ob hf
  refine sk_callV (As := []) (st := []) K dX5_line_1 cl_X5_61 h9 (sX5_kind C l e8) (by decide) rfl rfl (Nat.le_of_ble_eq_true rfl) R1 R2 ?_
  by_cases h10 : v7 = (2 : Int32)
  · rw [if_pos h10] at hf
    refine sk_tsIn (2 : Int32) (72) 76 K dX5_line_4 h10 (by decide) (by decide) rfl (by decide) ?_
    refine sk_aload_n K dX5_line_76 rfl 0 rfl ?_
    obtain ⟨h14, hf⟩ := sk_ib hf
    obtain ⟨d13, e12, hf⟩ := sk_ob hf
    refine sk_callV (As := []) (st := []) K dX5_line_77 cl_X5_122 h14 (sX5_doingLine C l e12) (by decide) rfl rfl (Nat.le_of_ble_eq_true rfl) R1 R2 ?_
    refine sk_goto 181 K dX5_line_80 (by decide) ?_
    refine sk_sub [(0, .ref p0)] [0] rfl ?_
    have h9 := j181_0 _ hf
    exact h9
  · rw [if_neg h10] at hf
    by_cases h15 : v7 = (3 : Int32)
    · rw [if_pos h15] at hf
      refine sk_tsIn (3 : Int32) (172) 176 K dX5_line_4 h15 (by decide) (by decide) rfl (by decide) ?_
      refine sk_aload_n K dX5_line_176 rfl 0 rfl ?_
      refine sk_iconst (2 : Int32) K dX5_line_177 (by decide) ?_
      obtain ⟨h19, hf⟩ := sk_ib hf
      obtain ⟨d18, e17, hf⟩ := sk_ob hf
      refine sk_callV (As := [.int (2 : Int32)]) (st := []) K dX5_line_178 cl_X5_103 h19 (sX5_fail C l e17) (by decide) rfl rfl (Nat.le_of_ble_eq_true rfl) R1 R2 ?_
      refine sk_sub [(0, .ref p0)] [0] rfl ?_
      have h9 := j181_0 _ hf
      exact h9
    · rw [if_neg h15] at hf
      by_cases h20 : v7 = (4 : Int32)
      · rw [if_pos h20] at hf
        refine sk_tsIn (4 : Int32) (172) 176 K dX5_line_4 h20 (by decide) (by decide) rfl (by decide) ?_
        refine sk_aload_n K dX5_line_176 rfl 0 rfl ?_
        refine sk_iconst (2 : Int32) K dX5_line_177 (by decide) ?_
        obtain ⟨h24, hf⟩ := sk_ib hf
        obtain ⟨d23, e22, hf⟩ := sk_ob hf
        refine sk_callV (As := [.int (2 : Int32)]) (st := []) K dX5_line_178 cl_X5_103 h24 (sX5_fail C l e22) (by decide) rfl rfl (Nat.le_of_ble_eq_true rfl) R1 R2 ?_
        refine sk_sub [(0, .ref p0)] [0] rfl ?_
        have h9 := j181_0 _ hf
        exact h9
      · rw [if_neg h20] at hf
        by_cases h25 : v7 = (5 : Int32)
        · rw [if_pos h25] at hf
          refine sk_tsIn (5 : Int32) (172) 176 K dX5_line_4 h25 (by decide) (by decide) rfl (by decide) ?_
          refine sk_aload_n K dX5_line_176 rfl 0 rfl ?_
          refine sk_iconst (2 : Int32) K dX5_line_177 (by decide) ?_
          obtain ⟨h29, hf⟩ := sk_ib hf
          obtain ⟨d28, e27, hf⟩ := sk_ob hf
          refine sk_callV (As := [.int (2 : Int32)]) (st := []) K dX5_line_178 cl_X5_103 h29 (sX5_fail C l e27) (by decide) rfl rfl (Nat.le_of_ble_eq_true rfl) R1 R2 ?_
          refine sk_sub [(0, .ref p0)] [0] rfl ?_
          have h9 := j181_0 _ hf
          exact h9
        · rw [if_neg h25] at hf
          by_cases h30 : v7 = (6 : Int32)
          · rw [if_pos h30] at hf
            refine sk_tsIn (6 : Int32) (172) 176 K dX5_line_4 h30 (by decide) (by decide) rfl (by decide) ?_
            refine sk_aload_n K dX5_line_176 rfl 0 rfl ?_
            refine sk_iconst (2 : Int32) K dX5_line_177 (by decide) ?_
            obtain ⟨h34, hf⟩ := sk_ib hf
            obtain ⟨d33, e32, hf⟩ := sk_ob hf
            refine sk_callV (As := [.int (2 : Int32)]) (st := []) K dX5_line_178 cl_X5_103 h34 (sX5_fail C l e32) (by decide) rfl rfl (Nat.le_of_ble_eq_true rfl) R1 R2 ?_
            refine sk_sub [(0, .ref p0)] [0] rfl ?_
            have h9 := j181_0 _ hf
            exact h9
          · rw [if_neg h30] at hf
            by_cases h35 : v7 = (7 : Int32)
            · rw [if_pos h35] at hf
              refine sk_tsIn (7 : Int32) (97) 101 K dX5_line_4 h35 (by decide) (by decide) rfl (by decide) ?_
              refine sk_aload_n K dX5_line_101 rfl 0 rfl ?_
              obtain ⟨h39, hf⟩ := sk_ib hf
              obtain ⟨d38, e37, hf⟩ := sk_ob hf
              refine sk_callV (As := []) (st := []) K dX5_line_102 cl_X5_100 h39 (sX5_next C l e37) (by decide) rfl rfl (Nat.le_of_ble_eq_true rfl) R1 R2 ?_
              refine sk_aload_n K dX5_line_105 rfl 0 rfl ?_
              obtain ⟨v40, e41, hf⟩ := sk_ob hf
              refine sk_getR K dX5_line_106 fl_X5_12 rfl e41 ?_
              refine sk_aload_n K dX5_line_109 rfl 0 rfl ?_
              refine sk_iconst (0 : Int32) K dX5_line_110 (by decide) ?_
              refine sk_bipush (9 : Int32) K dX5_line_111 (by decide) ?_
              obtain ⟨h45, hf⟩ := sk_ib hf
              obtain ⟨⟨v42, d44⟩, e43, hf⟩ := sk_ob hf
              try dsimp only at hf
              refine sk_callV (As := [.int (0 : Int32), .int (9 : Int32)]) (st := [.ref v40]) K dX5_line_113 cl_X5_110 h45 (sX5_number C l e43) (by decide) rfl rfl (Nat.le_of_ble_eq_true rfl) R1 R2 ?_
              obtain ⟨d47, e48, hf⟩ := sk_ob hf
              refine sk_putI d47 K dX5_line_116 fl_X5_131 rfl rfl rfl e48 ?_
              refine sk_goto 181 K dX5_line_119 (by decide) ?_
              refine sk_sub [(0, .ref p0)] [0] rfl ?_
              have h9 := j181_0 _ hf
              exact h9
            · rw [if_neg h35] at hf
              by_cases h49 : v7 = (8 : Int32)
              · rw [if_pos h49] at hf
                refine sk_tsIn (8 : Int32) (172) 176 K dX5_line_4 h49 (by decide) (by decide) rfl (by decide) ?_
                refine sk_aload_n K dX5_line_176 rfl 0 rfl ?_
                refine sk_iconst (2 : Int32) K dX5_line_177 (by decide) ?_
                obtain ⟨h53, hf⟩ := sk_ib hf
                obtain ⟨d52, e51, hf⟩ := sk_ob hf
                refine sk_callV (As := [.int (2 : Int32)]) (st := []) K dX5_line_178 cl_X5_103 h53 (sX5_fail C l e51) (by decide) rfl rfl (Nat.le_of_ble_eq_true rfl) R1 R2 ?_
                refine sk_sub [(0, .ref p0)] [0] rfl ?_
                have h9 := j181_0 _ hf
                exact h9
              · rw [if_neg h49] at hf
                by_cases h54 : v7 = (9 : Int32)
                · rw [if_pos h54] at hf
                  refine sk_tsIn (9 : Int32) (172) 176 K dX5_line_4 h54 (by decide) (by decide) rfl (by decide) ?_
                  refine sk_aload_n K dX5_line_176 rfl 0 rfl ?_
                  refine sk_iconst (2 : Int32) K dX5_line_177 (by decide) ?_
                  obtain ⟨h58, hf⟩ := sk_ib hf
                  obtain ⟨d57, e56, hf⟩ := sk_ob hf
                  refine sk_callV (As := [.int (2 : Int32)]) (st := []) K dX5_line_178 cl_X5_103 h58 (sX5_fail C l e56) (by decide) rfl rfl (Nat.le_of_ble_eq_true rfl) R1 R2 ?_
                  refine sk_sub [(0, .ref p0)] [0] rfl ?_
                  have h9 := j181_0 _ hf
                  exact h9
                · rw [if_neg h54] at hf
                  by_cases h59 : v7 = (10 : Int32)
                  · rw [if_pos h59] at hf
                    refine sk_tsIn (10 : Int32) (172) 176 K dX5_line_4 h59 (by decide) (by decide) rfl (by decide) ?_
                    refine sk_aload_n K dX5_line_176 rfl 0 rfl ?_
                    refine sk_iconst (2 : Int32) K dX5_line_177 (by decide) ?_
                    obtain ⟨h63, hf⟩ := sk_ib hf
                    obtain ⟨d62, e61, hf⟩ := sk_ob hf
                    refine sk_callV (As := [.int (2 : Int32)]) (st := []) K dX5_line_178 cl_X5_103 h63 (sX5_fail C l e61) (by decide) rfl rfl (Nat.le_of_ble_eq_true rfl) R1 R2 ?_
                    refine sk_sub [(0, .ref p0)] [0] rfl ?_
                    have h9 := j181_0 _ hf
                    exact h9
                  · rw [if_neg h59] at hf
                    by_cases h64 : v7 = (11 : Int32)
                    · rw [if_pos h64] at hf
                      refine sk_tsIn (11 : Int32) (172) 176 K dX5_line_4 h64 (by decide) (by decide) rfl (by decide) ?_
                      refine sk_aload_n K dX5_line_176 rfl 0 rfl ?_
                      refine sk_iconst (2 : Int32) K dX5_line_177 (by decide) ?_
                      obtain ⟨h68, hf⟩ := sk_ib hf
                      obtain ⟨d67, e66, hf⟩ := sk_ob hf
                      refine sk_callV (As := [.int (2 : Int32)]) (st := []) K dX5_line_178 cl_X5_103 h68 (sX5_fail C l e66) (by decide) rfl rfl (Nat.le_of_ble_eq_true rfl) R1 R2 ?_
                      refine sk_sub [(0, .ref p0)] [0] rfl ?_
                      have h9 := j181_0 _ hf
                      exact h9
                    · rw [if_neg h64] at hf
                      by_cases h69 : v7 = (12 : Int32)
                      · rw [if_pos h69] at hf
                        refine sk_tsIn (12 : Int32) (79) 83 K dX5_line_4 h69 (by decide) (by decide) rfl (by decide) ?_
                        refine sk_aload_n K dX5_line_83 rfl 0 rfl ?_
                        obtain ⟨h73, hf⟩ := sk_ib hf
                        obtain ⟨d72, e71, hf⟩ := sk_ob hf
                        refine sk_callV (As := []) (st := []) K dX5_line_84 cl_X5_125 h73 (sX5_doorLine C l e71) (by decide) rfl rfl (Nat.le_of_ble_eq_true rfl) R1 R2 ?_
                        refine sk_goto 181 K dX5_line_87 (by decide) ?_
                        refine sk_sub [(0, .ref p0)] [0] rfl ?_
                        have h9 := j181_0 _ hf
                        exact h9
                      · rw [if_neg h69] at hf
                        by_cases h74 : v7 = (13 : Int32)
                        · rw [if_pos h74] at hf
                          refine sk_tsIn (13 : Int32) (86) 90 K dX5_line_4 h74 (by decide) (by decide) rfl (by decide) ?_
                          refine sk_aload_n K dX5_line_90 rfl 0 rfl ?_
                          obtain ⟨h78, hf⟩ := sk_ib hf
                          obtain ⟨d77, e76, hf⟩ := sk_ob hf
                          refine sk_callV (As := []) (st := []) K dX5_line_91 cl_X5_100 h78 (sX5_next C l e76) (by decide) rfl rfl (Nat.le_of_ble_eq_true rfl) R1 R2 ?_
                          refine sk_aload_n K dX5_line_94 rfl 0 rfl ?_
                          obtain ⟨h82, hf⟩ := sk_ib hf
                          obtain ⟨d81, e80, hf⟩ := sk_ob hf
                          refine sk_callV (As := []) (st := []) K dX5_line_95 cl_X5_128 h82 (sX5_clashPair C l e80) (by decide) rfl rfl (Nat.le_of_ble_eq_true rfl) R1 R2 ?_
                          refine sk_goto 181 K dX5_line_98 (by decide) ?_
                          refine sk_sub [(0, .ref p0)] [0] rfl ?_
                          have h9 := j181_0 _ hf
                          exact h9
                        · rw [if_neg h74] at hf
                          by_cases h83 : v7 = (14 : Int32)
                          · rw [if_pos h83] at hf
                            refine sk_tsIn (14 : Int32) (118) 122 K dX5_line_4 h83 (by decide) (by decide) rfl (by decide) ?_
                            refine sk_aload_n K dX5_line_122 rfl 0 rfl ?_
                            refine sk_aload_n K dX5_line_123 rfl 0 rfl ?_
                            obtain ⟨v84, e85, hf⟩ := sk_ob hf
                            refine sk_getR K dX5_line_124 fl_X5_12 rfl e85 ?_
                            obtain ⟨v86, e87, hf⟩ := sk_ob hf
                            refine sk_getR K dX5_line_127 fl_X5_134 rfl e87 ?_
                            refine sk_iconst (0 : Int32) K dX5_line_130 (by decide) ?_
                            obtain ⟨h91, hf⟩ := sk_ib hf
                            obtain ⟨d90, e89, hf⟩ := sk_ob hf
                            refine sk_callV (As := [.ref v86, .int (sk_b false)]) (st := []) K dX5_line_131 cl_X5_138 h91 (sX5_lawBegins C l e89) (by decide) rfl rfl (Nat.le_of_ble_eq_true rfl) R1 R2 ?_
                            refine sk_aload_n K dX5_line_134 rfl 0 rfl ?_
                            refine sk_aload_n K dX5_line_135 rfl 0 rfl ?_
                            obtain ⟨v92, e93, hf⟩ := sk_ob hf
                            refine sk_getR K dX5_line_136 fl_X5_12 rfl e93 ?_
                            obtain ⟨v94, e95, hf⟩ := sk_ob hf
                            refine sk_getR K dX5_line_139 fl_X5_134 rfl e95 ?_
                            refine sk_iconst (0 : Int32) K dX5_line_142 (by decide) ?_
                            obtain ⟨h99, hf⟩ := sk_ib hf
                            obtain ⟨d98, e97, hf⟩ := sk_ob hf
                            refine sk_callV (As := [.ref v94, .int (0 : Int32)]) (st := []) K dX5_line_143 cl_X5_142 h99 (sX5_truth C l e97) (by decide) rfl rfl (Nat.le_of_ble_eq_true rfl) R1 R2 ?_
                            refine sk_goto 181 K dX5_line_146 (by decide) ?_
                            refine sk_sub [(0, .ref p0)] [0] rfl ?_
                            have h9 := j181_0 _ hf
                            exact h9
                          · rw [if_neg h83] at hf
                            by_cases h100 : v7 = (15 : Int32)
                            · rw [if_pos h100] at hf
                              refine sk_tsIn (15 : Int32) (145) 149 K dX5_line_4 h100 (by decide) (by decide) rfl (by decide) ?_
                              refine sk_aload_n K dX5_line_149 rfl 0 rfl ?_
                              refine sk_aload_n K dX5_line_150 rfl 0 rfl ?_
                              obtain ⟨v101, e102, hf⟩ := sk_ob hf
                              refine sk_getR K dX5_line_151 fl_X5_12 rfl e102 ?_
                              obtain ⟨v103, e104, hf⟩ := sk_ob hf
                              refine sk_getR K dX5_line_154 fl_X5_146 rfl e104 ?_
                              refine sk_iconst (1 : Int32) K dX5_line_157 (by decide) ?_
                              obtain ⟨h108, hf⟩ := sk_ib hf
                              obtain ⟨d107, e106, hf⟩ := sk_ob hf
                              refine sk_callV (As := [.ref v103, .int (sk_b true)]) (st := []) K dX5_line_158 cl_X5_138 h108 (sX5_lawBegins C l e106) (by decide) rfl rfl (Nat.le_of_ble_eq_true rfl) R1 R2 ?_
                              refine sk_aload_n K dX5_line_161 rfl 0 rfl ?_
                              refine sk_aload_n K dX5_line_162 rfl 0 rfl ?_
                              obtain ⟨v109, e110, hf⟩ := sk_ob hf
                              refine sk_getR K dX5_line_163 fl_X5_12 rfl e110 ?_
                              obtain ⟨v111, e112, hf⟩ := sk_ob hf
                              refine sk_getR K dX5_line_166 fl_X5_146 rfl e112 ?_
                              refine sk_iconst (0 : Int32) K dX5_line_169 (by decide) ?_
                              obtain ⟨h116, hf⟩ := sk_ib hf
                              obtain ⟨d115, e114, hf⟩ := sk_ob hf
                              refine sk_callV (As := [.ref v111, .int (0 : Int32)]) (st := []) K dX5_line_170 cl_X5_142 h116 (sX5_truth C l e114) (by decide) rfl rfl (Nat.le_of_ble_eq_true rfl) R1 R2 ?_
                              refine sk_goto 181 K dX5_line_173 (by decide) ?_
                              refine sk_sub [(0, .ref p0)] [0] rfl ?_
                              have h9 := j181_0 _ hf
                              exact h9
                            · rw [if_neg h100] at hf
                              refine sk_tsOut 176 K dX5_line_4 (sk_tsout (2) 14 [(2 : Int32), (3 : Int32), (4 : Int32), (5 : Int32), (6 : Int32), (7 : Int32), (8 : Int32), (9 : Int32), (10 : Int32), (11 : Int32), (12 : Int32), (13 : Int32), (14 : Int32), (15 : Int32)] (by decide) (by simp [h10, h15, h20, h25, h30, h35, h49, h54, h59, h64, h69, h74, h83, h100])) (by decide) ?_
                              refine sk_aload_n K dX5_line_176 rfl 0 rfl ?_
                              refine sk_iconst (2 : Int32) K dX5_line_177 (by decide) ?_
                              obtain ⟨h120, hf⟩ := sk_ib hf
                              obtain ⟨d119, e118, hf⟩ := sk_ob hf
                              refine sk_callV (As := [.int (2 : Int32)]) (st := []) K dX5_line_178 cl_X5_103 h120 (sX5_fail C l e118) (by decide) rfl rfl (Nat.le_of_ble_eq_true rfl) R1 R2 ?_
                              refine sk_sub [(0, .ref p0)] [0] rfl ?_
                              have h9 := j181_0 _ hf
                              exact h9
noncomputable def fX5_read_L39 (S : sk_S) (p0 : Nat) (s1 : Int32 × sk_D) : Option ((Int32 × sk_D) ⊕ (sk_D)) :=
  if (900 : Int32) ≤ s1.1 then (some (.inr s1.2)) else ((sk_gI S s1.2 p0 5 1).bind fun v27 => if v27 = 0 then (if S.2.1 p0 = (5, 0) then ((fX5_kind S s1.2 p0).bind fun v31 => if v31 = (202 : Int32) then (some (.inr s1.2)) else (if S.2.1 p0 = (5, 0) then ((fX5_line S s1.2 p0).bind fun d38 => some (.inl (s1.1 + 1, d38))) else none)) else none) else (some (.inr s1.2)))
noncomputable def fX5_read (S : sk_S) (d : sk_D) (p0 : Nat) (p1 : Nat) (p2 : Int32) : Option (sk_D) :=
  (sk_al S p1 20).bind fun v1 => if S.2.1 p0 = (5, 0) then ((fX5_scan S d p0 p1 (if v1 < p2 then v1 else p2)).bind fun d7 => (sk_gR S p0 5 0).bind fun v9 => if S.2.1 v9 = (2, 0) then ((fX2_clear S d7 v9).bind fun d13 => (sk_pI S d13 p0 5 1 (0 : Int32)).bind fun d15 => (sk_pI S d15 p0 5 2 (-1 : Int32)).bind fun d17 => (sk_pI S d17 p0 5 7 (0 : Int32)).bind fun d19 => if S.2.1 p0 = (5, 0) then ((fX5_lifeLine S d19 p0).bind fun d23 => (sk_itr (fX5_read_L39 S p0) ((0 : Int32), d23)).bind fun x1 => some x1) else none) else none) else none
set_option maxRecDepth 100000 in
set_option maxHeartbeats 4000000 in
theorem sX5_read (C : sk_C) (l : Launch) {S : sk_S} {d : sk_D} {p0 : Nat} {p1 : Nat} {p2 : Int32} {dd : sk_D} (hf : fX5_read S d p0 p1 p2 = some dd) : sk_Met C l 104 yX5_read cX5_read 4 none [.ref p0, .ref p1, .int p2] S d none S dd := by
  refine sk_Met.of (by decide) (Nat.le_of_ble_eq_true rfl) (Nat.le_refl _) (Nat.le_refl _) (fun X K0 hX => ?_)
  have K : sk_Ok X C cX5_read 4 RX5 "read" none 104 l none S dd := K0
  have R1 : X.2.2.2.2.2.2.2.2.2.2.2.1 ≤ S.1.1 ∧ X.2.2.2.2.2.2.2.2.2.2.2.2 ≤ S.1.2 := by rw [hX]; exact ⟨Nat.le_refl _, Nat.le_refl _⟩
  have R2 : S.1.1 ≤ S.1.1 ∧ S.1.2 ≤ S.1.2 := ⟨Nat.le_refl _, Nat.le_refl _⟩
  show sk_G X C 4 S d 0 [(0, .ref p0), (1, .ref p1), (2, .int p2)] []
  unfold fX5_read at hf
  refine sk_aload_n K dX5_read_0 rfl 0 rfl ?_
  refine sk_aload_n K dX5_read_1 rfl 1 rfl ?_
  refine sk_iload_n K dX5_read_2 rfl 2 rfl ?_
  refine sk_aload_n K dX5_read_3 rfl 1 rfl ?_
  obtain ⟨v1, e2, hf⟩ := sk_ob hf
  refine sk_al20 K dX5_read_4 e2 ?_
  refine sk_mmin K dX5_read_5 qw_472 qw_473 qw_137 qw_474 (by decide) (Nat.le_of_ble_eq_true rfl) R2 ?_
  obtain ⟨h8, hf⟩ := sk_ib hf
  obtain ⟨d7, e6, hf⟩ := sk_ob hf
  refine sk_callV (As := [.ref p1, .int (if v1 < p2 then v1 else p2)]) (st := []) K dX5_read_8 cl_X5_51 h8 (sX5_scan C l e6) (by decide) rfl rfl (Nat.le_of_ble_eq_true rfl) R1 R2 ?_
  refine sk_aload_n K dX5_read_11 rfl 0 rfl ?_
  obtain ⟨v9, e10, hf⟩ := sk_ob hf
  refine sk_getR K dX5_read_12 fl_X5_12 rfl e10 ?_
  obtain ⟨h14, hf⟩ := sk_ib hf
  obtain ⟨d13, e12, hf⟩ := sk_ob hf
  refine sk_callV (As := []) (st := []) K dX5_read_15 cl_X5_55 h14 (sX2_clear C l e12) (by decide) rfl rfl (Nat.le_of_ble_eq_true rfl) R1 R2 ?_
  refine sk_aload_n K dX5_read_18 rfl 0 rfl ?_
  refine sk_iconst (0 : Int32) K dX5_read_19 (by decide) ?_
  obtain ⟨d15, e16, hf⟩ := sk_ob hf
  refine sk_putI d15 K dX5_read_20 fl_X5_18 rfl rfl rfl e16 ?_
  refine sk_aload_n K dX5_read_23 rfl 0 rfl ?_
  refine sk_iconst (-1 : Int32) K dX5_read_24 (by decide) ?_
  obtain ⟨d17, e18, hf⟩ := sk_ob hf
  refine sk_putI d17 K dX5_read_25 fl_X5_22 rfl rfl rfl e18 ?_
  refine sk_aload_n K dX5_read_28 rfl 0 rfl ?_
  refine sk_iconst (0 : Int32) K dX5_read_29 (by decide) ?_
  obtain ⟨d19, e20, hf⟩ := sk_ob hf
  refine sk_putI d19 K dX5_read_30 fl_X5_38 rfl rfl rfl e20 ?_
  refine sk_aload_n K dX5_read_33 rfl 0 rfl ?_
  obtain ⟨h24, hf⟩ := sk_ib hf
  obtain ⟨d23, e22, hf⟩ := sk_ob hf
  refine sk_callV (As := []) (st := []) K dX5_read_34 cl_X5_58 h24 (sX5_lifeLine C l e22) (by decide) rfl rfl (Nat.le_of_ble_eq_true rfl) R1 R2 ?_
  refine sk_iconst (0 : Int32) K dX5_read_37 (by decide) ?_
  refine sk_istore_n [(3, .int (0 : Int32)), (0, .ref p0), (1, .ref p1), (2, .int p2)] K dX5_read_38 rfl (by decide) rfl ?_
  obtain ⟨x1, he1, hf⟩ := sk_ob hf
  have hret1 : ∀ r, r = x1 → r = dd := by
    intro r hr
    subst hr
    exact Option.some.inj hf
  refine sk_sub [(0, .ref p0), (3, .int (0 : Int32))] [1, 0] rfl ?_
  refine sk_loop (fun s1 => sk_G X C 4 S s1.2 39 [(0, .ref p0), (3, .int s1.1)] []) he1 (fun s1 o1 hf ih1 hx1 => ?_)
  unfold fX5_read_L39 at hf
  refine sk_iload_n K dX5_read_39 rfl 1 rfl ?_
  refine sk_sipush (900 : Int32) K dX5_read_40 (by decide) ?_
  refine sk_icmp_ge 73 K dX5_read_43 (by decide) (fun h25 => ?_) (fun h25 => ?_)
  · rw [if_pos h25] at hf
    have hR26 : s1.2 = dd := hret1 _ (hx1 _ (Option.some.inj hf).symm)
    exact sk_vret K dX5_read_73 rfl rfl rfl hR26
  · rw [if_neg h25] at hf
    refine sk_aload_n K dX5_read_46 rfl 0 rfl ?_
    obtain ⟨v27, e28, hf⟩ := sk_ob hf
    refine sk_getI K dX5_read_47 fl_X5_18 rfl e28 ?_
    refine sk_if_ne 73 K dX5_read_50 (by decide) (fun h29 => ?_) (fun h29 => ?_)
    · rw [if_neg h29] at hf
      have hR30 : s1.2 = dd := hret1 _ (hx1 _ (Option.some.inj hf).symm)
      exact sk_vret K dX5_read_73 rfl rfl rfl hR30
    · rw [if_pos h29] at hf
      refine sk_aload_n K dX5_read_53 rfl 0 rfl ?_
      obtain ⟨h33, hf⟩ := sk_ib hf
      obtain ⟨v31, e32, hf⟩ := sk_ob hf
      refine sk_callV (As := []) (st := []) K dX5_read_54 cl_X5_61 h33 (sX5_kind C l e32) (by decide) rfl rfl (Nat.le_of_ble_eq_true rfl) R1 R2 ?_
      refine sk_sipush (202 : Int32) K dX5_read_57 (by decide) ?_
      refine sk_icmp_eq 73 K dX5_read_60 (by decide) (fun h34 => ?_) (fun h34 => ?_)
      · rw [if_pos h34] at hf
        have hR35 : s1.2 = dd := hret1 _ (hx1 _ (Option.some.inj hf).symm)
        exact sk_vret K dX5_read_73 rfl rfl rfl hR35
      · rw [if_neg h34] at hf
        refine sk_aload_n K dX5_read_63 rfl 0 rfl ?_
        obtain ⟨h39, hf⟩ := sk_ib hf
        obtain ⟨d38, e37, hf⟩ := sk_ob hf
        refine sk_callV (As := []) (st := []) K dX5_read_64 cl_X5_65 h39 (sX5_line C l e37) (by decide) rfl rfl (Nat.le_of_ble_eq_true rfl) R1 R2 ?_
        refine sk_iinc (s1.1 + 1) [(3, .int (s1.1 + 1)), (0, .ref p0)] K dX5_read_67 1 rfl rfl (by decide) rfl ?_
        refine sk_goto 39 K dX5_read_70 (by decide) ?_
        refine sk_sub [(0, .ref p0), (3, .int (s1.1 + 1))] [1, 0] rfl ?_
        have h9 := ih1 _ (Option.some.inj hf).symm
        exact h9
noncomputable def fJ7_fill_d0a16_L6 (S : sk_S) (p0 : Nat) (p1 : Int64) (v1 : Int32) (s1 : Int32 × sk_D) : Option ((Int32 × sk_D) ⊕ (sk_D)) :=
  if v1 ≤ s1.1 then (some (.inr s1.2)) else ((sk_sJ S s1.2 p0 s1.1 p1).bind fun d5 => some (.inl (s1.1 + 1, d5)))
noncomputable def fJ7_fill_d0a16 (S : sk_S) (d : sk_D) (p0 : Nat) (p1 : Int64) : Option (sk_D) :=
  (sk_al S p0 21).bind fun v1 => (sk_itr (fJ7_fill_d0a16_L6 S p0 p1 v1) ((0 : Int32), d)).bind fun x1 => some x1
set_option maxRecDepth 100000 in
set_option maxHeartbeats 4000000 in
theorem sJ7_fill_d0a16 (C : sk_C) (l : Launch) {S : sk_S} {d : sk_D} {p0 : Nat} {p1 : Int64} {dd : sk_D} (hf : fJ7_fill_d0a16 S d p0 p1 = some dd) : sk_Met C l 0 yJ7_fill_d0a16 cJ7_fill_d0a16 5 none [.ref p0, .long p1] S d none S dd := by
  refine sk_Met.of (by decide) (Nat.le_of_ble_eq_true rfl) (Nat.le_refl _) (Nat.le_refl _) (fun X K0 hX => ?_)
  have K : sk_Ok X C cJ7_fill_d0a16 5 RJ7 "fill" none 0 l none S dd := K0
  have R1 : X.2.2.2.2.2.2.2.2.2.2.2.1 ≤ S.1.1 ∧ X.2.2.2.2.2.2.2.2.2.2.2.2 ≤ S.1.2 := by rw [hX]; exact ⟨Nat.le_refl _, Nat.le_refl _⟩
  have R2 : S.1.1 ≤ S.1.1 ∧ S.1.2 ≤ S.1.2 := ⟨Nat.le_refl _, Nat.le_refl _⟩
  show sk_G X C 5 S d 0 [(0, .ref p0), (1, .long p1)] []
  unfold fJ7_fill_d0a16 at hf
  refine sk_iconst (0 : Int32) K dJ7_fill_d0a16_0 (by decide) ?_
  refine sk_istore_n [(3, .int (0 : Int32)), (0, .ref p0), (1, .long p1)] K dJ7_fill_d0a16_1 rfl (by decide) rfl ?_
  refine sk_aload_n K dJ7_fill_d0a16_2 rfl 1 rfl ?_
  obtain ⟨v1, e2, hf⟩ := sk_ob hf
  refine sk_al21 K dJ7_fill_d0a16_3 e2 ?_
  refine sk_istore [(4, .int v1), (3, .int (0 : Int32)), (0, .ref p0), (1, .long p1)] K dJ7_fill_d0a16_4 (by decide) rfl ?_
  obtain ⟨x1, he1, hf⟩ := sk_ob hf
  have hret1 : ∀ r, r = x1 → r = dd := by
    intro r hr
    subst hr
    exact Option.some.inj hf
  refine sk_sub [(0, .ref p0), (1, .long p1), (3, .int (0 : Int32)), (4, .int v1)] [2, 3, 1, 0] rfl ?_
  refine sk_loop (fun s1 => sk_G X C 5 S s1.2 6 [(0, .ref p0), (1, .long p1), (3, .int s1.1), (4, .int v1)] []) he1 (fun s1 o1 hf ih1 hx1 => ?_)
  unfold fJ7_fill_d0a16_L6 at hf
  refine sk_iload_n K dJ7_fill_d0a16_6 rfl 2 rfl ?_
  refine sk_iload K dJ7_fill_d0a16_7 3 rfl ?_
  refine sk_icmp_ge 22 K dJ7_fill_d0a16_9 (by decide) (fun h3 => ?_) (fun h3 => ?_)
  · rw [if_pos h3] at hf
    have hR4 : s1.2 = dd := hret1 _ (hx1 _ (Option.some.inj hf).symm)
    exact sk_vret K dJ7_fill_d0a16_22 rfl rfl rfl hR4
  · rw [if_neg h3] at hf
    refine sk_aload_n K dJ7_fill_d0a16_12 rfl 0 rfl ?_
    refine sk_iload_n K dJ7_fill_d0a16_13 rfl 2 rfl ?_
    refine sk_lload_n K dJ7_fill_d0a16_14 rfl 1 rfl ?_
    obtain ⟨d5, e6, hf⟩ := sk_ob hf
    refine sk_ast21 d5 K dJ7_fill_d0a16_15 e6 ?_
    refine sk_iinc (s1.1 + 1) [(3, .int (s1.1 + 1)), (0, .ref p0), (1, .long p1), (4, .int v1)] K dJ7_fill_d0a16_16 2 rfl rfl (by decide) rfl ?_
    refine sk_goto 6 K dJ7_fill_d0a16_19 (by decide) ?_
    refine sk_sub [(0, .ref p0), (1, .long p1), (3, .int (s1.1 + 1)), (4, .int v1)] [1, 2, 0, 3] rfl ?_
    have h9 := ih1 _ (Option.some.inj hf).symm
    exact h9
noncomputable def fX6_begin (S : sk_S) (d : sk_D) (p0 : Nat) (p1 : Int32) (p2 : Int32) : Option (sk_D) :=
  (sk_gR S p0 6 0).bind fun v1 => (fJ7_fill_d0a16 S d v1 (0 : Int64)).bind fun d5 => (sk_pI S d5 p0 6 1 p1).bind fun d6 => (sk_pI S d6 p0 6 2 p2).bind fun d8 => (sk_pI S d8 p0 6 3 (1 : Int32)).bind fun d10 => some d10
set_option maxRecDepth 100000 in
set_option maxHeartbeats 4000000 in
theorem sX6_begin (C : sk_C) (l : Launch) {S : sk_S} {d : sk_D} {p0 : Nat} {p1 : Int32} {p2 : Int32} {dd : sk_D} (hf : fX6_begin S d p0 p1 p2 = some dd) : sk_Met C l 1 yX6_begin cX6_begin 3 none [.ref p0, .int p1, .int p2] S d none S dd := by
  refine sk_Met.of (by decide) (Nat.le_of_ble_eq_true rfl) (Nat.le_refl _) (Nat.le_refl _) (fun X K0 hX => ?_)
  have K : sk_Ok X C cX6_begin 3 RX6 "begin" none 1 l none S dd := K0
  have R1 : X.2.2.2.2.2.2.2.2.2.2.2.1 ≤ S.1.1 ∧ X.2.2.2.2.2.2.2.2.2.2.2.2 ≤ S.1.2 := by rw [hX]; exact ⟨Nat.le_refl _, Nat.le_refl _⟩
  have R2 : S.1.1 ≤ S.1.1 ∧ S.1.2 ≤ S.1.2 := ⟨Nat.le_refl _, Nat.le_refl _⟩
  show sk_G X C 3 S d 0 [(0, .ref p0), (1, .int p1), (2, .int p2)] []
  unfold fX6_begin at hf
  refine sk_aload_n K dX6_begin_0 rfl 0 rfl ?_
  obtain ⟨v1, e2, hf⟩ := sk_ob hf
  refine sk_getR K dX6_begin_1 fl_X6_9 rfl e2 ?_
  refine sk_lconst (0 : Int64) K dX6_begin_4 (by decide) ?_
  obtain ⟨d5, e4, hf⟩ := sk_ob hf
  refine sk_callS (As := [.ref v1, .long (0 : Int64)]) (st := []) K dX6_begin_5 cl_X6_24 (sJ7_fill_d0a16 C l e4) (by decide) rfl rfl (Nat.le_of_ble_eq_true rfl) R1 R2 ?_
  refine sk_aload_n K dX6_begin_8 rfl 0 rfl ?_
  refine sk_iload_n K dX6_begin_9 rfl 1 rfl ?_
  obtain ⟨d6, e7, hf⟩ := sk_ob hf
  refine sk_putI d6 K dX6_begin_10 fl_X6_13 rfl rfl rfl e7 ?_
  refine sk_aload_n K dX6_begin_13 rfl 0 rfl ?_
  refine sk_iload_n K dX6_begin_14 rfl 2 rfl ?_
  obtain ⟨d8, e9, hf⟩ := sk_ob hf
  refine sk_putI d8 K dX6_begin_15 fl_X6_17 rfl rfl rfl e9 ?_
  refine sk_aload_n K dX6_begin_18 rfl 0 rfl ?_
  refine sk_iconst (1 : Int32) K dX6_begin_19 (by decide) ?_
  obtain ⟨d10, e11, hf⟩ := sk_ob hf
  refine sk_putI d10 K dX6_begin_20 fl_X6_20 rfl (by decide) (by decide) e11 ?_
  have hR12 : d10 = dd := Option.some.inj hf
  exact sk_vret K dX6_begin_23 rfl rfl rfl hR12
noncomputable def fX6_at (S : sk_S) (d : sk_D) (p0 : Nat) (p1 : Int32) : Option (Int64) :=
  if p1 < 0 then (some (0 : Int64)) else (if (40 : Int32) ≤ p1 then (some (0 : Int64)) else ((sk_gR S p0 6 0).bind fun v5 => (sk_lJ S d v5 p1).bind fun v7 => some v7))
set_option maxRecDepth 100000 in
set_option maxHeartbeats 4000000 in
theorem sX6_at (C : sk_C) (l : Launch) {S : sk_S} {d : sk_D} {p0 : Nat} {p1 : Int32} {rr : Int64} (hf : fX6_at S d p0 p1 = some rr) : sk_Met C l 0 yX6_at cX6_at 2 (some .long) [.ref p0, .int p1] S d (some (.long rr)) S d := by
  refine sk_Met.of (by decide) (Nat.le_of_ble_eq_true rfl) (Nat.le_refl _) (Nat.le_refl _) (fun X K0 hX => ?_)
  have K : sk_Ok X C cX6_at 2 RX6 "at" (some .long) 0 l (some (.long rr)) S d := K0
  have R1 : X.2.2.2.2.2.2.2.2.2.2.2.1 ≤ S.1.1 ∧ X.2.2.2.2.2.2.2.2.2.2.2.2 ≤ S.1.2 := by rw [hX]; exact ⟨Nat.le_refl _, Nat.le_refl _⟩
  have R2 : S.1.1 ≤ S.1.1 ∧ S.1.2 ≤ S.1.2 := ⟨Nat.le_refl _, Nat.le_refl _⟩
  show sk_G X C 2 S d 0 [(0, .ref p0), (1, .int p1)] []
  unfold fX6_at at hf
  refine sk_iload_n K dX6_at_0 rfl 1 rfl ?_
  refine sk_if_lt 19 K dX6_at_1 (by decide) (fun h1 => ?_) (fun h1 => ?_)
  · rw [if_pos h1] at hf
    refine sk_lconst (0 : Int64) K dX6_at_19 (by decide) ?_
    have hR2 : (0 : Int64) = rr := Option.some.inj hf
    exact sk_lret K dX6_at_20 rfl rfl hR2 rfl rfl
  · rw [if_neg h1] at hf
    refine sk_iload_n K dX6_at_4 rfl 1 rfl ?_
    refine sk_bipush (40 : Int32) K dX6_at_5 (by decide) ?_
    refine sk_icmp_ge 19 K dX6_at_7 (by decide) (fun h3 => ?_) (fun h3 => ?_)
    · rw [if_pos h3] at hf
      refine sk_lconst (0 : Int64) K dX6_at_19 (by decide) ?_
      have hR4 : (0 : Int64) = rr := Option.some.inj hf
      exact sk_lret K dX6_at_20 rfl rfl hR4 rfl rfl
    · rw [if_neg h3] at hf
      refine sk_aload_n K dX6_at_10 rfl 0 rfl ?_
      obtain ⟨v5, e6, hf⟩ := sk_ob hf
      refine sk_getR K dX6_at_11 fl_X6_9 rfl e6 ?_
      refine sk_iload_n K dX6_at_14 rfl 1 rfl ?_
      obtain ⟨v7, e8, hf⟩ := sk_ob hf
      refine sk_ald21 K dX6_at_15 e8 ?_
      refine sk_goto 20 K dX6_at_16 (by decide) ?_
      have hR9 : v7 = rr := Option.some.inj hf
      exact sk_lret K dX6_at_20 rfl rfl hR9 rfl rfl
noncomputable def fX6_cut (S : sk_S) (d : sk_D) (p0 : Nat) (p1 : Int64) : Option (Int64) :=
  (sk_gI S d p0 6 1).bind fun v1 => if v1 = (0 : Int32) then (some p1.toInt32.toInt8.toInt32.toInt64) else (if v1 = (1 : Int32) then (some p1.toInt32.toInt16.toInt32.toInt64) else (if v1 = (2 : Int32) then (some p1.toInt32.toInt64) else (some p1)))
set_option maxRecDepth 100000 in
set_option maxHeartbeats 4000000 in
theorem sX6_cut (C : sk_C) (l : Launch) {S : sk_S} {d : sk_D} {p0 : Nat} {p1 : Int64} {rr : Int64} (hf : fX6_cut S d p0 p1 = some rr) : sk_Met C l 0 yX6_cut cX6_cut 3 (some .long) [.ref p0, .long p1] S d (some (.long rr)) S d := by
  refine sk_Met.of (by decide) (Nat.le_of_ble_eq_true rfl) (Nat.le_refl _) (Nat.le_refl _) (fun X K0 hX => ?_)
  have K : sk_Ok X C cX6_cut 3 RX6 "cut" (some .long) 0 l (some (.long rr)) S d := K0
  have R1 : X.2.2.2.2.2.2.2.2.2.2.2.1 ≤ S.1.1 ∧ X.2.2.2.2.2.2.2.2.2.2.2.2 ≤ S.1.2 := by rw [hX]; exact ⟨Nat.le_refl _, Nat.le_refl _⟩
  have R2 : S.1.1 ≤ S.1.1 ∧ S.1.2 ≤ S.1.2 := ⟨Nat.le_refl _, Nat.le_refl _⟩
  show sk_G X C 3 S d 0 [(0, .ref p0), (1, .long p1)] []
  unfold fX6_cut at hf
  refine sk_aload_n K dX6_cut_0 rfl 0 rfl ?_
  obtain ⟨v1, e2, hf⟩ := sk_ob hf
  refine sk_getI K dX6_cut_1 fl_X6_13 rfl e2 ?_
  by_cases h3 : v1 = (0 : Int32)
  · rw [if_pos h3] at hf
    refine sk_tsIn (0 : Int32) (28) 32 K dX6_cut_4 h3 (by decide) (by decide) rfl (by decide) ?_
    refine sk_lload_n K dX6_cut_32 rfl 1 rfl ?_
    refine sk_l2i K dX6_cut_33 ?_
    refine sk_i2b K dX6_cut_34 ?_
    refine sk_i2l K dX6_cut_35 ?_
    have hR4 : p1.toInt32.toInt8.toInt32.toInt64 = rr := Option.some.inj hf
    exact sk_lret K dX6_cut_36 rfl rfl hR4 rfl rfl
  · rw [if_neg h3] at hf
    by_cases h5 : v1 = (1 : Int32)
    · rw [if_pos h5] at hf
      refine sk_tsIn (1 : Int32) (33) 37 K dX6_cut_4 h5 (by decide) (by decide) rfl (by decide) ?_
      refine sk_lload_n K dX6_cut_37 rfl 1 rfl ?_
      refine sk_l2i K dX6_cut_38 ?_
      refine sk_i2s K dX6_cut_39 ?_
      refine sk_i2l K dX6_cut_40 ?_
      have hR6 : p1.toInt32.toInt16.toInt32.toInt64 = rr := Option.some.inj hf
      exact sk_lret K dX6_cut_41 rfl rfl hR6 rfl rfl
    · rw [if_neg h5] at hf
      by_cases h7 : v1 = (2 : Int32)
      · rw [if_pos h7] at hf
        refine sk_tsIn (2 : Int32) (38) 42 K dX6_cut_4 h7 (by decide) (by decide) rfl (by decide) ?_
        refine sk_lload_n K dX6_cut_42 rfl 1 rfl ?_
        refine sk_l2i K dX6_cut_43 ?_
        refine sk_i2l K dX6_cut_44 ?_
        have hR8 : p1.toInt32.toInt64 = rr := Option.some.inj hf
        exact sk_lret K dX6_cut_45 rfl rfl hR8 rfl rfl
      · rw [if_neg h7] at hf
        refine sk_tsOut 46 K dX6_cut_4 (sk_tsout (0) 3 [(0 : Int32), (1 : Int32), (2 : Int32)] (by decide) (by simp [h3, h5, h7])) (by decide) ?_
        refine sk_lload_n K dX6_cut_46 rfl 1 rfl ?_
        have hR9 : p1 = rr := Option.some.inj hf
        exact sk_lret K dX6_cut_47 rfl rfl hR9 rfl rfl
noncomputable def fX6_put (S : sk_S) (d : sk_D) (p0 : Nat) (p1 : Int32) (p2 : Int64) : Option (sk_D) :=
  if p1 < 0 then (some d) else (if (40 : Int32) ≤ p1 then (some d) else ((sk_gR S p0 6 0).bind fun v5 => if S.2.1 p0 = (6, 0) then ((fX6_cut S d p0 p2).bind fun v7 => (sk_sJ S d v5 p1 v7).bind fun d10 => some d10) else none))
set_option maxRecDepth 100000 in
set_option maxHeartbeats 4000000 in
theorem sX6_put (C : sk_C) (l : Launch) {S : sk_S} {d : sk_D} {p0 : Nat} {p1 : Int32} {p2 : Int64} {dd : sk_D} (hf : fX6_put S d p0 p1 p2 = some dd) : sk_Met C l 1 yX6_put cX6_put 4 none [.ref p0, .int p1, .long p2] S d none S dd := by
  refine sk_Met.of (by decide) (Nat.le_of_ble_eq_true rfl) (Nat.le_refl _) (Nat.le_refl _) (fun X K0 hX => ?_)
  have K : sk_Ok X C cX6_put 4 RX6 "put" none 1 l none S dd := K0
  have R1 : X.2.2.2.2.2.2.2.2.2.2.2.1 ≤ S.1.1 ∧ X.2.2.2.2.2.2.2.2.2.2.2.2 ≤ S.1.2 := by rw [hX]; exact ⟨Nat.le_refl _, Nat.le_refl _⟩
  have R2 : S.1.1 ≤ S.1.1 ∧ S.1.2 ≤ S.1.2 := ⟨Nat.le_refl _, Nat.le_refl _⟩
  show sk_G X C 4 S d 0 [(0, .ref p0), (1, .int p1), (2, .long p2)] []
  unfold fX6_put at hf
  refine sk_iload_n K dX6_put_0 rfl 1 rfl ?_
  refine sk_if_lt 21 K dX6_put_1 (by decide) (fun h1 => ?_) (fun h1 => ?_)
  · rw [if_pos h1] at hf
    have hR2 : d = dd := Option.some.inj hf
    exact sk_vret K dX6_put_21 rfl rfl rfl hR2
  · rw [if_neg h1] at hf
    refine sk_iload_n K dX6_put_4 rfl 1 rfl ?_
    refine sk_bipush (40 : Int32) K dX6_put_5 (by decide) ?_
    refine sk_icmp_ge 21 K dX6_put_7 (by decide) (fun h3 => ?_) (fun h3 => ?_)
    · rw [if_pos h3] at hf
      have hR4 : d = dd := Option.some.inj hf
      exact sk_vret K dX6_put_21 rfl rfl rfl hR4
    · rw [if_neg h3] at hf
      refine sk_aload_n K dX6_put_10 rfl 0 rfl ?_
      obtain ⟨v5, e6, hf⟩ := sk_ob hf
      refine sk_getR K dX6_put_11 fl_X6_9 rfl e6 ?_
      refine sk_iload_n K dX6_put_14 rfl 1 rfl ?_
      refine sk_aload_n K dX6_put_15 rfl 0 rfl ?_
      refine sk_lload_n K dX6_put_16 rfl 2 rfl ?_
      obtain ⟨h9, hf⟩ := sk_ib hf
      obtain ⟨v7, e8, hf⟩ := sk_ob hf
      refine sk_callV (As := [.long p2]) (st := [.int p1, .ref v5]) K dX6_put_17 cl_X6_30 h9 (sX6_cut C l e8) (by decide) rfl rfl (Nat.le_of_ble_eq_true rfl) R1 R2 ?_
      obtain ⟨d10, e11, hf⟩ := sk_ob hf
      refine sk_ast21 d10 K dX6_put_20 e11 ?_
      have hR12 : d10 = dd := Option.some.inj hf
      exact sk_vret K dX6_put_21 rfl rfl rfl hR12
noncomputable def fX10_shownIn (S : sk_S) (d : sk_D) (p0 : Int32) : Option (Int32) :=
  some ((p0 &&& (p0 >>> ((8 : Int32) &&& 31))) &&& (255 : Int32))
set_option maxRecDepth 100000 in
set_option maxHeartbeats 4000000 in
theorem sX10_shownIn (C : sk_C) (l : Launch) {S : sk_S} {d : sk_D} {p0 : Int32} {rr : Int32} (hf : fX10_shownIn S d p0 = some rr) : sk_Met C l 0 yX10_shownIn cX10_shownIn 1 (some .int) [.int p0] S d (some (.int rr)) S d := by
  refine sk_Met.of (by decide) (Nat.le_of_ble_eq_true rfl) (Nat.le_refl _) (Nat.le_refl _) (fun X K0 hX => ?_)
  have K : sk_Ok X C cX10_shownIn 1 RX10 "shownIn" (some .int) 0 l (some (.int rr)) S d := K0
  have R1 : X.2.2.2.2.2.2.2.2.2.2.2.1 ≤ S.1.1 ∧ X.2.2.2.2.2.2.2.2.2.2.2.2 ≤ S.1.2 := by rw [hX]; exact ⟨Nat.le_refl _, Nat.le_refl _⟩
  have R2 : S.1.1 ≤ S.1.1 ∧ S.1.2 ≤ S.1.2 := ⟨Nat.le_refl _, Nat.le_refl _⟩
  show sk_G X C 1 S d 0 [(0, .int p0)] []
  unfold fX10_shownIn at hf
  refine sk_iload_n K dX10_shownIn_0 rfl 0 rfl ?_
  refine sk_iload_n K dX10_shownIn_1 rfl 0 rfl ?_
  refine sk_bipush (8 : Int32) K dX10_shownIn_2 (by decide) ?_
  refine sk_ishr K dX10_shownIn_4 ?_
  refine sk_iand K dX10_shownIn_5 ?_
  refine sk_sipush (255 : Int32) K dX10_shownIn_6 (by decide) ?_
  refine sk_iand K dX10_shownIn_9 ?_
  have hR1 : ((p0 &&& (p0 >>> ((8 : Int32) &&& 31))) &&& (255 : Int32)) = rr := Option.some.inj hf
  exact sk_iret K dX10_shownIn_10 rfl rfl hR1 rfl rfl
noncomputable def fX10_doneIn (S : sk_S) (d : sk_D) (p0 : Int32) : Option (Int32) :=
  some (p0 &&& (255 : Int32))
set_option maxRecDepth 100000 in
set_option maxHeartbeats 4000000 in
theorem sX10_doneIn (C : sk_C) (l : Launch) {S : sk_S} {d : sk_D} {p0 : Int32} {rr : Int32} (hf : fX10_doneIn S d p0 = some rr) : sk_Met C l 0 yX10_doneIn cX10_doneIn 1 (some .int) [.int p0] S d (some (.int rr)) S d := by
  refine sk_Met.of (by decide) (Nat.le_of_ble_eq_true rfl) (Nat.le_refl _) (Nat.le_refl _) (fun X K0 hX => ?_)
  have K : sk_Ok X C cX10_doneIn 1 RX10 "doneIn" (some .int) 0 l (some (.int rr)) S d := K0
  have R1 : X.2.2.2.2.2.2.2.2.2.2.2.1 ≤ S.1.1 ∧ X.2.2.2.2.2.2.2.2.2.2.2.2 ≤ S.1.2 := by rw [hX]; exact ⟨Nat.le_refl _, Nat.le_refl _⟩
  have R2 : S.1.1 ≤ S.1.1 ∧ S.1.2 ≤ S.1.2 := ⟨Nat.le_refl _, Nat.le_refl _⟩
  show sk_G X C 1 S d 0 [(0, .int p0)] []
  unfold fX10_doneIn at hf
  refine sk_iload_n K dX10_doneIn_0 rfl 0 rfl ?_
  refine sk_sipush (255 : Int32) K dX10_doneIn_1 (by decide) ?_
  refine sk_iand K dX10_doneIn_4 ?_
  have hR1 : (p0 &&& (255 : Int32)) = rr := Option.some.inj hf
  exact sk_iret K dX10_doneIn_5 rfl rfl hR1 rfl rfl
noncomputable def fX10_liningIn (S : sk_S) (d : sk_D) (p0 : Int32) : Option (Int32) :=
  some ((p0 >>> ((8 : Int32) &&& 31)) &&& (255 : Int32))
set_option maxRecDepth 100000 in
set_option maxHeartbeats 4000000 in
theorem sX10_liningIn (C : sk_C) (l : Launch) {S : sk_S} {d : sk_D} {p0 : Int32} {rr : Int32} (hf : fX10_liningIn S d p0 = some rr) : sk_Met C l 0 yX10_liningIn cX10_liningIn 1 (some .int) [.int p0] S d (some (.int rr)) S d := by
  refine sk_Met.of (by decide) (Nat.le_of_ble_eq_true rfl) (Nat.le_refl _) (Nat.le_refl _) (fun X K0 hX => ?_)
  have K : sk_Ok X C cX10_liningIn 1 RX10 "liningIn" (some .int) 0 l (some (.int rr)) S d := K0
  have R1 : X.2.2.2.2.2.2.2.2.2.2.2.1 ≤ S.1.1 ∧ X.2.2.2.2.2.2.2.2.2.2.2.2 ≤ S.1.2 := by rw [hX]; exact ⟨Nat.le_refl _, Nat.le_refl _⟩
  have R2 : S.1.1 ≤ S.1.1 ∧ S.1.2 ≤ S.1.2 := ⟨Nat.le_refl _, Nat.le_refl _⟩
  show sk_G X C 1 S d 0 [(0, .int p0)] []
  unfold fX10_liningIn at hf
  refine sk_iload_n K dX10_liningIn_0 rfl 0 rfl ?_
  refine sk_bipush (8 : Int32) K dX10_liningIn_1 (by decide) ?_
  refine sk_ishr K dX10_liningIn_3 ?_
  refine sk_sipush (255 : Int32) K dX10_liningIn_4 (by decide) ?_
  refine sk_iand K dX10_liningIn_7 ?_
  have hR1 : ((p0 >>> ((8 : Int32) &&& 31)) &&& (255 : Int32)) = rr := Option.some.inj hf
  exact sk_iret K dX10_liningIn_8 rfl rfl hR1 rfl rfl
noncomputable def fX9_give (S : sk_S) (d : sk_D) (p0 : Nat) (p1 : Int32) (p2 : Int32) (p3 : Int32) : Option (sk_D) :=
  (sk_gR S p0 8 3).bind fun v1 => (sk_sI S d v1 20 (0 : Int32) p1).bind fun d3 => (sk_gR S p0 8 3).bind fun v5 => (sk_gR S p0 8 0).bind fun v7 => (sk_gR S v7 2 5).bind fun v9 => (sk_lI S d3 v9 20 p1).bind fun v11 => (sk_sI S d3 v5 20 (1 : Int32) v11).bind fun d13 => (sk_gR S p0 8 3).bind fun v15 => (sk_gR S p0 8 0).bind fun v17 => (sk_gR S v17 2 6).bind fun v19 => (sk_lI S d13 v19 20 p1).bind fun v21 => (sk_sI S d13 v15 20 (2 : Int32) v21).bind fun d23 => (sk_gR S p0 8 3).bind fun v25 => (fJ6_bitCount_0f7a4 S d23 p2).bind fun v27 => (sk_sI S d23 v25 20 (3 : Int32) v27).bind fun d29 => (sk_gR S p0 8 3).bind fun v31 => (sk_gR S p0 8 0).bind fun v33 => if S.2.1 v33 = (2, 0) then ((fX2_roomLeft S d29 v33 p2).bind fun v35 => (sk_sI S d29 v31 20 (4 : Int32) v35).bind fun d38 => (sk_gR S p0 8 3).bind fun v40 => (sk_sI S d38 v40 20 (5 : Int32) p3).bind fun d42 => some d42) else none
set_option maxRecDepth 100000 in
set_option maxHeartbeats 4000000 in
theorem sX9_give (C : sk_C) (l : Launch) {S : sk_S} {d : sk_D} {p0 : Nat} {p1 : Int32} {p2 : Int32} {p3 : Int32} {dd : sk_D} (hf : fX9_give S d p0 p1 p2 p3 = some dd) : sk_Met C l 1 yX9_give cX9_give 4 none [.ref p0, .int p1, .int p2, .int p3] S d none S dd := by
  refine sk_Met.of (by decide) (Nat.le_of_ble_eq_true rfl) (Nat.le_refl _) (Nat.le_refl _) (fun X K0 hX => ?_)
  have K : sk_Ok X C cX9_give 4 RX9 "give" none 1 l none S dd := K0
  have R1 : X.2.2.2.2.2.2.2.2.2.2.2.1 ≤ S.1.1 ∧ X.2.2.2.2.2.2.2.2.2.2.2.2 ≤ S.1.2 := by rw [hX]; exact ⟨Nat.le_refl _, Nat.le_refl _⟩
  have R2 : S.1.1 ≤ S.1.1 ∧ S.1.2 ≤ S.1.2 := ⟨Nat.le_refl _, Nat.le_refl _⟩
  show sk_G X C 4 S d 0 [(0, .ref p0), (1, .int p1), (2, .int p2), (3, .int p3)] []
  unfold fX9_give at hf
  refine sk_aload_n K dX9_give_0 rfl 0 rfl ?_
  obtain ⟨v1, e2, hf⟩ := sk_ob hf
  refine sk_getR K dX9_give_1 fl_X9_28 rfl e2 ?_
  refine sk_iconst (0 : Int32) K dX9_give_4 (by decide) ?_
  refine sk_iload_n K dX9_give_5 rfl 1 rfl ?_
  obtain ⟨d3, e4, hf⟩ := sk_ob hf
  refine sk_ast20 d3 K dX9_give_6 e4 ?_
  refine sk_aload_n K dX9_give_7 rfl 0 rfl ?_
  obtain ⟨v5, e6, hf⟩ := sk_ob hf
  refine sk_getR K dX9_give_8 fl_X9_28 rfl e6 ?_
  refine sk_iconst (1 : Int32) K dX9_give_11 (by decide) ?_
  refine sk_aload_n K dX9_give_12 rfl 0 rfl ?_
  obtain ⟨v7, e8, hf⟩ := sk_ob hf
  refine sk_getR K dX9_give_13 fl_X9_12 rfl e8 ?_
  obtain ⟨v9, e10, hf⟩ := sk_ob hf
  refine sk_getR K dX9_give_16 fl_X9_86 rfl e10 ?_
  refine sk_iload_n K dX9_give_19 rfl 1 rfl ?_
  obtain ⟨v11, e12, hf⟩ := sk_ob hf
  refine sk_ald20 K dX9_give_20 e12 ?_
  obtain ⟨d13, e14, hf⟩ := sk_ob hf
  refine sk_ast20 d13 K dX9_give_21 e14 ?_
  refine sk_aload_n K dX9_give_22 rfl 0 rfl ?_
  obtain ⟨v15, e16, hf⟩ := sk_ob hf
  refine sk_getR K dX9_give_23 fl_X9_28 rfl e16 ?_
  refine sk_iconst (2 : Int32) K dX9_give_26 (by decide) ?_
  refine sk_aload_n K dX9_give_27 rfl 0 rfl ?_
  obtain ⟨v17, e18, hf⟩ := sk_ob hf
  refine sk_getR K dX9_give_28 fl_X9_12 rfl e18 ?_
  obtain ⟨v19, e20, hf⟩ := sk_ob hf
  refine sk_getR K dX9_give_31 fl_X9_136 rfl e20 ?_
  refine sk_iload_n K dX9_give_34 rfl 1 rfl ?_
  obtain ⟨v21, e22, hf⟩ := sk_ob hf
  refine sk_ald20 K dX9_give_35 e22 ?_
  obtain ⟨d23, e24, hf⟩ := sk_ob hf
  refine sk_ast20 d23 K dX9_give_36 e24 ?_
  refine sk_aload_n K dX9_give_37 rfl 0 rfl ?_
  obtain ⟨v25, e26, hf⟩ := sk_ob hf
  refine sk_getR K dX9_give_38 fl_X9_28 rfl e26 ?_
  refine sk_iconst (3 : Int32) K dX9_give_41 (by decide) ?_
  refine sk_iload_n K dX9_give_42 rfl 2 rfl ?_
  obtain ⟨v27, e28, hf⟩ := sk_ob hf
  refine sk_callS (As := [.int p2]) (st := [.int (3 : Int32), .ref v25]) K dX9_give_43 cl_X9_139 (sJ6_bitCount_0f7a4 C l e28) (by decide) rfl rfl (Nat.le_of_ble_eq_true rfl) R1 R2 ?_
  obtain ⟨d29, e30, hf⟩ := sk_ob hf
  refine sk_ast20 d29 K dX9_give_46 e30 ?_
  refine sk_aload_n K dX9_give_47 rfl 0 rfl ?_
  obtain ⟨v31, e32, hf⟩ := sk_ob hf
  refine sk_getR K dX9_give_48 fl_X9_28 rfl e32 ?_
  refine sk_iconst (4 : Int32) K dX9_give_51 (by decide) ?_
  refine sk_aload_n K dX9_give_52 rfl 0 rfl ?_
  obtain ⟨v33, e34, hf⟩ := sk_ob hf
  refine sk_getR K dX9_give_53 fl_X9_12 rfl e34 ?_
  refine sk_iload_n K dX9_give_56 rfl 2 rfl ?_
  obtain ⟨h37, hf⟩ := sk_ib hf
  obtain ⟨v35, e36, hf⟩ := sk_ob hf
  refine sk_callV (As := [.int p2]) (st := [.int (4 : Int32), .ref v31]) K dX9_give_57 cl_X9_83 h37 (sX2_roomLeft C l e36) (by decide) rfl rfl (Nat.le_of_ble_eq_true rfl) R1 R2 ?_
  obtain ⟨d38, e39, hf⟩ := sk_ob hf
  refine sk_ast20 d38 K dX9_give_60 e39 ?_
  refine sk_aload_n K dX9_give_61 rfl 0 rfl ?_
  obtain ⟨v40, e41, hf⟩ := sk_ob hf
  refine sk_getR K dX9_give_62 fl_X9_28 rfl e41 ?_
  refine sk_iconst (5 : Int32) K dX9_give_65 (by decide) ?_
  refine sk_iload_n K dX9_give_66 rfl 3 rfl ?_
  obtain ⟨d42, e43, hf⟩ := sk_ob hf
  refine sk_ast20 d42 K dX9_give_67 e43 ?_
  have hR44 : d42 = dd := Option.some.inj hf
  exact sk_vret K dX9_give_68 rfl rfl rfl hR44
noncomputable def fX9_keepsStub_J94 (S : sk_S) (p0 : Nat) (v1 : Int32) (v2 : Int32) (d3 : sk_D) : Option (Bool × sk_D) :=
  (sk_gR S p0 8 1).bind fun v4 => if v2 = 0 then ((sk_sI S d3 v4 22 v1 (vp_nar .byte ((1 : Int32).toInt8.toInt32))).bind fun d7 => (sk_gR S p0 8 1).bind fun v9 => (sk_lI S d7 v9 22 v1).bind fun v11 => if v11 = (2 : Int32) then (some (true, d7)) else (some (false, d7))) else ((sk_sI S d3 v4 22 v1 (vp_nar .byte ((2 : Int32).toInt8.toInt32))).bind fun d16 => (sk_gR S p0 8 1).bind fun v18 => (sk_lI S d16 v18 22 v1).bind fun v20 => if v20 = (2 : Int32) then (some (true, d16)) else (some (false, d16)))
noncomputable def fX9_keepsStub_J93 (S : sk_S) (p0 : Nat) (v25 : Int32) (d26 : sk_D) : Option (Bool × sk_D) :=
  fX9_keepsStub_J94 S p0 v25 (0 : Int32) d26
noncomputable def fX9_keepsStub_J89 (S : sk_S) (p0 : Nat) (v27 : Int32) (d28 : sk_D) : Option (Bool × sk_D) :=
  fX9_keepsStub_J94 S p0 v27 (1 : Int32) d28
noncomputable def fX9_keepsStub (S : sk_S) (d : sk_D) (p0 : Nat) (p1 : Int32) (p2 : Int32) : Option (Bool × sk_D) :=
  if ((p1 * (256 : Int32)) + p2) < 0 then (some (false, d)) else ((sk_gR S p0 8 1).bind fun v31 => (sk_al S v31 22).bind fun v33 => if ((p1 * (256 : Int32)) + p2) < v33 then ((sk_gR S p0 8 1).bind fun v36 => (sk_lI S d v36 22 ((p1 * (256 : Int32)) + p2)).bind fun v38 => if v38 = 0 then (if S.2.1 p0 = (8, 0) then ((fX9_give S d p0 p1 p2 (0 : Int32)).bind fun d50 => (sk_gR S p0 8 0).bind fun v52 => if S.2.1 v52 = (2, 0) then ((fX2_roomLeft S d50 v52 p2).bind fun v54 => (sk_gR S p0 8 0).bind fun v57 => (sk_gR S v57 2 5).bind fun v59 => (sk_lI S d50 v59 20 p1).bind fun v61 => if v54 < v61 then (fX9_keepsStub_J93 S p0 ((p1 * (256 : Int32)) + p2) d50) else ((sk_gR S p0 8 0).bind fun v64 => (sk_gR S v64 2 13).bind fun v66 => if S.2.1 v66 = (1, 0) then ((fX1_told S d50 v66).bind fun v68 => if v68 = true then ((sk_gR S p0 8 0).bind fun v72 => (sk_gR S v72 2 13).bind fun v74 => (sk_gR S p0 8 3).bind fun v76 => if S.2.1 v74 = (1, 0) then ((fX1_holds S d50 v74 v76).bind fun b82 => if b82.1 = true then (fX9_keepsStub_J89 S p0 ((p1 * (256 : Int32)) + p2) b82.2) else (fX9_keepsStub_J93 S p0 ((p1 * (256 : Int32)) + p2) b82.2)) else none) else (fX9_keepsStub_J89 S p0 ((p1 * (256 : Int32)) + p2) d50)) else none)) else none) else none) else ((sk_gR S p0 8 1).bind fun v41 => (sk_lI S d v41 22 ((p1 * (256 : Int32)) + p2)).bind fun v43 => if v43 = (2 : Int32) then (some (true, d)) else (some (false, d)))) else (some (false, d)))
set_option maxRecDepth 100000 in
set_option maxHeartbeats 4000000 in
theorem sX9_keepsStub (C : sk_C) (l : Launch) {S : sk_S} {d : sk_D} {p0 : Nat} {p1 : Int32} {p2 : Int32} {rr : Bool} {dd : sk_D} (hf : fX9_keepsStub S d p0 p1 p2 = some (rr, dd)) : sk_Met C l 2 yX9_keepsStub cX9_keepsStub 5 (some .boolean) [.ref p0, .int p1, .int p2] S d (some (.int (sk_b rr))) S dd := by
  refine sk_Met.of (by decide) (Nat.le_of_ble_eq_true rfl) (Nat.le_refl _) (Nat.le_refl _) (fun X K0 hX => ?_)
  have K : sk_Ok X C cX9_keepsStub 5 RX9 "keepsStub" (some .boolean) 2 l (some (.int (sk_b rr))) S dd := K0
  have R1 : X.2.2.2.2.2.2.2.2.2.2.2.1 ≤ S.1.1 ∧ X.2.2.2.2.2.2.2.2.2.2.2.2 ≤ S.1.2 := by rw [hX]; exact ⟨Nat.le_refl _, Nat.le_refl _⟩
  have R2 : S.1.1 ≤ S.1.1 ∧ S.1.2 ≤ S.1.2 := ⟨Nat.le_refl _, Nat.le_refl _⟩
  show sk_G X C 5 S d 0 [(0, .ref p0), (1, .int p1), (2, .int p2)] []
  unfold fX9_keepsStub at hf
  have j94_0 : ∀ (v1 : Int32) (v2 : Int32) (d3 : sk_D), fX9_keepsStub_J94 S p0 v1 v2 d3 = some (rr, dd) → sk_G X C 5 S d3 94 [(0, .ref p0), (3, .int v1)] [.int v2] := by
    intro v1 v2 d3 hf
    unfold fX9_keepsStub_J94 at hf
    refine sk_istore [(4, .int v2), (0, .ref p0), (3, .int v1)] K dX9_keepsStub_94 (by decide) rfl ?_
    refine sk_aload_n K dX9_keepsStub_96 rfl 1 rfl ?_
    obtain ⟨v4, e5, hf⟩ := sk_ob hf
    refine sk_getR K dX9_keepsStub_97 fl_X9_18 rfl e5 ?_
    refine sk_iload_n K dX9_keepsStub_100 rfl 2 rfl ?_
    refine sk_iload K dX9_keepsStub_101 0 rfl ?_
    refine sk_if_eq 110 K dX9_keepsStub_103 (by decide) (fun h6 => ?_) (fun h6 => ?_)
    · rw [if_pos h6] at hf
      refine sk_iconst (1 : Int32) K dX9_keepsStub_110 (by decide) ?_
      refine sk_i2b K dX9_keepsStub_111 ?_
      obtain ⟨d7, e8, hf⟩ := sk_ob hf
      refine sk_ast22 d7 K dX9_keepsStub_112 e8 ?_
      refine sk_aload_n K dX9_keepsStub_113 rfl 1 rfl ?_
      obtain ⟨v9, e10, hf⟩ := sk_ob hf
      refine sk_getR K dX9_keepsStub_114 fl_X9_18 rfl e10 ?_
      refine sk_iload_n K dX9_keepsStub_117 rfl 2 rfl ?_
      obtain ⟨v11, e12, hf⟩ := sk_ob hf
      refine sk_ald22 K dX9_keepsStub_118 e12 ?_
      refine sk_iconst (2 : Int32) K dX9_keepsStub_119 (by decide) ?_
      refine sk_icmp_ne 127 K dX9_keepsStub_120 (by decide) (fun h13 => ?_) (fun h13 => ?_)
      · rw [if_neg h13] at hf
        refine sk_iconst (0 : Int32) K dX9_keepsStub_127 (by decide) ?_
        have hR14 : (false, d7) = (rr, dd) := Option.some.inj hf
        exact sk_zret (x := false) K dX9_keepsStub_128 rfl rfl (congrArg (fun z => z.1) hR14) rfl (congrArg (fun z => z.2) hR14)
      · rw [if_pos h13] at hf
        refine sk_iconst (1 : Int32) K dX9_keepsStub_123 (by decide) ?_
        refine sk_goto 128 K dX9_keepsStub_124 (by decide) ?_
        have hR15 : (true, d7) = (rr, dd) := Option.some.inj hf
        exact sk_zret (x := true) K dX9_keepsStub_128 rfl rfl (congrArg (fun z => z.1) hR15) rfl (congrArg (fun z => z.2) hR15)
    · rw [if_neg h6] at hf
      refine sk_iconst (2 : Int32) K dX9_keepsStub_106 (by decide) ?_
      refine sk_goto 111 K dX9_keepsStub_107 (by decide) ?_
      refine sk_i2b K dX9_keepsStub_111 ?_
      obtain ⟨d16, e17, hf⟩ := sk_ob hf
      refine sk_ast22 d16 K dX9_keepsStub_112 e17 ?_
      refine sk_aload_n K dX9_keepsStub_113 rfl 1 rfl ?_
      obtain ⟨v18, e19, hf⟩ := sk_ob hf
      refine sk_getR K dX9_keepsStub_114 fl_X9_18 rfl e19 ?_
      refine sk_iload_n K dX9_keepsStub_117 rfl 2 rfl ?_
      obtain ⟨v20, e21, hf⟩ := sk_ob hf
      refine sk_ald22 K dX9_keepsStub_118 e21 ?_
      refine sk_iconst (2 : Int32) K dX9_keepsStub_119 (by decide) ?_
      refine sk_icmp_ne 127 K dX9_keepsStub_120 (by decide) (fun h22 => ?_) (fun h22 => ?_)
      · rw [if_neg h22] at hf
        refine sk_iconst (0 : Int32) K dX9_keepsStub_127 (by decide) ?_
        have hR23 : (false, d16) = (rr, dd) := Option.some.inj hf
        exact sk_zret (x := false) K dX9_keepsStub_128 rfl rfl (congrArg (fun z => z.1) hR23) rfl (congrArg (fun z => z.2) hR23)
      · rw [if_pos h22] at hf
        refine sk_iconst (1 : Int32) K dX9_keepsStub_123 (by decide) ?_
        refine sk_goto 128 K dX9_keepsStub_124 (by decide) ?_
        have hR24 : (true, d16) = (rr, dd) := Option.some.inj hf
        exact sk_zret (x := true) K dX9_keepsStub_128 rfl rfl (congrArg (fun z => z.1) hR24) rfl (congrArg (fun z => z.2) hR24)
  have j93_0 : ∀ (v25 : Int32) (d26 : sk_D), fX9_keepsStub_J93 S p0 v25 d26 = some (rr, dd) → sk_G X C 5 S d26 93 [(0, .ref p0), (3, .int v25)] [] := by
    intro v25 d26 hf
    unfold fX9_keepsStub_J93 at hf
    refine sk_iconst (0 : Int32) K dX9_keepsStub_93 (by decide) ?_
    refine sk_sub [(0, .ref p0), (3, .int v25)] [0, 1] rfl ?_
    have h9 := j94_0 _ _ _ hf
    exact h9
  have j89_0 : ∀ (v27 : Int32) (d28 : sk_D), fX9_keepsStub_J89 S p0 v27 d28 = some (rr, dd) → sk_G X C 5 S d28 89 [(0, .ref p0), (3, .int v27)] [] := by
    intro v27 d28 hf
    unfold fX9_keepsStub_J89 at hf
    refine sk_iconst (1 : Int32) K dX9_keepsStub_89 (by decide) ?_
    refine sk_goto 94 K dX9_keepsStub_90 (by decide) ?_
    refine sk_sub [(0, .ref p0), (3, .int v27)] [0, 1] rfl ?_
    have h9 := j94_0 _ _ _ hf
    exact h9
  refine sk_iload_n K dX9_keepsStub_0 rfl 1 rfl ?_
  refine sk_sipush (256 : Int32) K dX9_keepsStub_1 (by decide) ?_
  refine sk_imul K dX9_keepsStub_4 ?_
  refine sk_iload_n K dX9_keepsStub_5 rfl 2 rfl ?_
  refine sk_iadd K dX9_keepsStub_6 ?_
  refine sk_istore_n [(3, .int ((p1 * (256 : Int32)) + p2)), (0, .ref p0), (1, .int p1), (2, .int p2)] K dX9_keepsStub_7 rfl (by decide) rfl ?_
  refine sk_iload_n K dX9_keepsStub_8 rfl 0 rfl ?_
  refine sk_if_lt 21 K dX9_keepsStub_9 (by decide) (fun h29 => ?_) (fun h29 => ?_)
  · rw [if_pos h29] at hf
    refine sk_iconst (0 : Int32) K dX9_keepsStub_21 (by decide) ?_
    have hR30 : (false, d) = (rr, dd) := Option.some.inj hf
    exact sk_zret (x := false) K dX9_keepsStub_22 rfl rfl (congrArg (fun z => z.1) hR30) rfl (congrArg (fun z => z.2) hR30)
  · rw [if_neg h29] at hf
    refine sk_iload_n K dX9_keepsStub_12 rfl 0 rfl ?_
    refine sk_aload_n K dX9_keepsStub_13 rfl 1 rfl ?_
    obtain ⟨v31, e32, hf⟩ := sk_ob hf
    refine sk_getR K dX9_keepsStub_14 fl_X9_18 rfl e32 ?_
    obtain ⟨v33, e34, hf⟩ := sk_ob hf
    refine sk_al22 K dX9_keepsStub_17 e34 ?_
    refine sk_icmp_lt 23 K dX9_keepsStub_18 (by decide) (fun h35 => ?_) (fun h35 => ?_)
    · rw [if_pos h35] at hf
      refine sk_aload_n K dX9_keepsStub_23 rfl 1 rfl ?_
      obtain ⟨v36, e37, hf⟩ := sk_ob hf
      refine sk_getR K dX9_keepsStub_24 fl_X9_18 rfl e37 ?_
      refine sk_iload_n K dX9_keepsStub_27 rfl 0 rfl ?_
      obtain ⟨v38, e39, hf⟩ := sk_ob hf
      refine sk_ald22 K dX9_keepsStub_28 e39 ?_
      refine sk_if_ne 113 K dX9_keepsStub_29 (by decide) (fun h40 => ?_) (fun h40 => ?_)
      · rw [if_neg h40] at hf
        refine sk_aload_n K dX9_keepsStub_113 rfl 1 rfl ?_
        obtain ⟨v41, e42, hf⟩ := sk_ob hf
        refine sk_getR K dX9_keepsStub_114 fl_X9_18 rfl e42 ?_
        refine sk_iload_n K dX9_keepsStub_117 rfl 0 rfl ?_
        obtain ⟨v43, e44, hf⟩ := sk_ob hf
        refine sk_ald22 K dX9_keepsStub_118 e44 ?_
        refine sk_iconst (2 : Int32) K dX9_keepsStub_119 (by decide) ?_
        refine sk_icmp_ne 127 K dX9_keepsStub_120 (by decide) (fun h45 => ?_) (fun h45 => ?_)
        · rw [if_neg h45] at hf
          refine sk_iconst (0 : Int32) K dX9_keepsStub_127 (by decide) ?_
          have hR46 : (false, d) = (rr, dd) := Option.some.inj hf
          exact sk_zret (x := false) K dX9_keepsStub_128 rfl rfl (congrArg (fun z => z.1) hR46) rfl (congrArg (fun z => z.2) hR46)
        · rw [if_pos h45] at hf
          refine sk_iconst (1 : Int32) K dX9_keepsStub_123 (by decide) ?_
          refine sk_goto 128 K dX9_keepsStub_124 (by decide) ?_
          have hR47 : (true, d) = (rr, dd) := Option.some.inj hf
          exact sk_zret (x := true) K dX9_keepsStub_128 rfl rfl (congrArg (fun z => z.1) hR47) rfl (congrArg (fun z => z.2) hR47)
      · rw [if_pos h40] at hf
        refine sk_aload_n K dX9_keepsStub_32 rfl 1 rfl ?_
        refine sk_iload_n K dX9_keepsStub_33 rfl 2 rfl ?_
        refine sk_iload_n K dX9_keepsStub_34 rfl 3 rfl ?_
        refine sk_iconst (0 : Int32) K dX9_keepsStub_35 (by decide) ?_
        obtain ⟨h51, hf⟩ := sk_ib hf
        obtain ⟨d50, e49, hf⟩ := sk_ob hf
        refine sk_callV (As := [.int p1, .int p2, .int (0 : Int32)]) (st := []) K dX9_keepsStub_36 cl_X9_116 h51 (sX9_give C l e49) (by decide) rfl rfl (Nat.le_of_ble_eq_true rfl) R1 R2 ?_
        refine sk_aload_n K dX9_keepsStub_39 rfl 1 rfl ?_
        obtain ⟨v52, e53, hf⟩ := sk_ob hf
        refine sk_getR K dX9_keepsStub_40 fl_X9_12 rfl e53 ?_
        refine sk_iload_n K dX9_keepsStub_43 rfl 3 rfl ?_
        obtain ⟨h56, hf⟩ := sk_ib hf
        obtain ⟨v54, e55, hf⟩ := sk_ob hf
        refine sk_callV (As := [.int p2]) (st := []) K dX9_keepsStub_44 cl_X9_83 h56 (sX2_roomLeft C l e55) (by decide) rfl rfl (Nat.le_of_ble_eq_true rfl) R1 R2 ?_
        refine sk_aload_n K dX9_keepsStub_47 rfl 1 rfl ?_
        obtain ⟨v57, e58, hf⟩ := sk_ob hf
        refine sk_getR K dX9_keepsStub_48 fl_X9_12 rfl e58 ?_
        obtain ⟨v59, e60, hf⟩ := sk_ob hf
        refine sk_getR K dX9_keepsStub_51 fl_X9_86 rfl e60 ?_
        refine sk_iload_n K dX9_keepsStub_54 rfl 2 rfl ?_
        obtain ⟨v61, e62, hf⟩ := sk_ob hf
        refine sk_ald20 K dX9_keepsStub_55 e62 ?_
        refine sk_icmp_lt 93 K dX9_keepsStub_56 (by decide) (fun h63 => ?_) (fun h63 => ?_)
        · rw [if_pos h63] at hf
          refine sk_sub [(0, .ref p0), (3, .int ((p1 * (256 : Int32)) + p2))] [1, 0] rfl ?_
          have h9 := j93_0 _ _ hf
          exact h9
        · rw [if_neg h63] at hf
          refine sk_aload_n K dX9_keepsStub_59 rfl 1 rfl ?_
          obtain ⟨v64, e65, hf⟩ := sk_ob hf
          refine sk_getR K dX9_keepsStub_60 fl_X9_12 rfl e65 ?_
          obtain ⟨v66, e67, hf⟩ := sk_ob hf
          refine sk_getR K dX9_keepsStub_63 fl_X9_120 rfl e67 ?_
          obtain ⟨h70, hf⟩ := sk_ib hf
          obtain ⟨v68, e69, hf⟩ := sk_ob hf
          refine sk_callV (As := []) (st := []) K dX9_keepsStub_66 cl_X9_124 h70 (sX1_told C l e69) (by decide) rfl rfl (Nat.le_of_ble_eq_true rfl) R1 R2 ?_
          refine sk_ifeqB 89 K dX9_keepsStub_69 (by decide) (fun h71 => ?_) (fun h71 => ?_)
          · rw [if_neg h71] at hf
            refine sk_sub [(0, .ref p0), (3, .int ((p1 * (256 : Int32)) + p2))] [1, 0] rfl ?_
            have h9 := j89_0 _ _ hf
            exact h9
          · rw [if_pos h71] at hf
            refine sk_aload_n K dX9_keepsStub_72 rfl 1 rfl ?_
            obtain ⟨v72, e73, hf⟩ := sk_ob hf
            refine sk_getR K dX9_keepsStub_73 fl_X9_12 rfl e73 ?_
            obtain ⟨v74, e75, hf⟩ := sk_ob hf
            refine sk_getR K dX9_keepsStub_76 fl_X9_120 rfl e75 ?_
            refine sk_aload_n K dX9_keepsStub_79 rfl 1 rfl ?_
            obtain ⟨v76, e77, hf⟩ := sk_ob hf
            refine sk_getR K dX9_keepsStub_80 fl_X9_28 rfl e77 ?_
            obtain ⟨h81, hf⟩ := sk_ib hf
            obtain ⟨⟨v78, d80⟩, e79, hf⟩ := sk_ob hf
            try dsimp only at hf
            refine sk_callV (As := [.ref v76]) (st := []) K dX9_keepsStub_83 cl_X9_128 h81 (sX1_holds C l e79) (by decide) rfl rfl (Nat.le_of_ble_eq_true rfl) R1 R2 ?_
            refine sk_ifeqB 93 K dX9_keepsStub_86 (by decide) (fun h83 => ?_) (fun h83 => ?_)
            · rw [if_neg h83] at hf
              refine sk_sub [(0, .ref p0), (3, .int ((p1 * (256 : Int32)) + p2))] [1, 0] rfl ?_
              have h9 := j93_0 _ _ hf
              exact h9
            · rw [if_pos h83] at hf
              refine sk_sub [(0, .ref p0), (3, .int ((p1 * (256 : Int32)) + p2))] [1, 0] rfl ?_
              have h9 := j89_0 _ _ hf
              exact h9
    · rw [if_neg h35] at hf
      refine sk_iconst (0 : Int32) K dX9_keepsStub_21 (by decide) ?_
      have hR84 : (false, d) = (rr, dd) := Option.some.inj hf
      exact sk_zret (x := false) K dX9_keepsStub_22 rfl rfl (congrArg (fun z => z.1) hR84) rfl (congrArg (fun z => z.2) hR84)
noncomputable def fX9_tryDo (S : sk_S) (d : sk_D) (p0 : Nat) (p1 : Int32) (p2 : Int32) : Option (Int32 × sk_D) :=
  (sk_gR S p0 8 0).bind fun v1 => if S.2.1 v1 = (2, 0) then ((fX2_has S d v1 p2).bind fun v3 => if v3 = true then ((fX10_doneIn S d p1).bind fun v7 => if ((v7 >>> (p2 &&& 31)) &&& (1 : Int32)) = (1 : Int32) then (some ((-2 : Int32), d)) else ((sk_gR S p0 8 0).bind fun v10 => (sk_gR S v10 2 10).bind fun v12 => (sk_lI S d v12 20 p2).bind fun v14 => if (v14 &&& (v7 ^^^ (-1 : Int32))) = 0 then ((fX10_liningIn S d ((p1 &&& (((256 : Int32) <<< (p2 &&& 31)) ^^^ (-1 : Int32))) ||| ((1 : Int32) <<< (p2 &&& 31)))).bind fun v17 => if S.2.1 p0 = (8, 0) then ((fX9_keepsStub S d p0 p2 v17).bind fun b23 => if b23.1 = true then (some (((p1 &&& (((256 : Int32) <<< (p2 &&& 31)) ^^^ (-1 : Int32))) ||| ((1 : Int32) <<< (p2 &&& 31))) ||| ((256 : Int32) <<< (p2 &&& 31)), b23.2)) else (some ((p1 &&& (((256 : Int32) <<< (p2 &&& 31)) ^^^ (-1 : Int32))) ||| ((1 : Int32) <<< (p2 &&& 31)), b23.2))) else none) else (some ((-3 : Int32), d)))) else (some ((-1 : Int32), d))) else none
set_option maxRecDepth 100000 in
set_option maxHeartbeats 4000000 in
theorem sX9_tryDo (C : sk_C) (l : Launch) {S : sk_S} {d : sk_D} {p0 : Nat} {p1 : Int32} {p2 : Int32} {rr : Int32} {dd : sk_D} (hf : fX9_tryDo S d p0 p1 p2 = some (rr, dd)) : sk_Met C l 3 yX9_tryDo cX9_tryDo 5 (some .int) [.ref p0, .int p1, .int p2] S d (some (.int rr)) S dd := by
  refine sk_Met.of (by decide) (Nat.le_of_ble_eq_true rfl) (Nat.le_refl _) (Nat.le_refl _) (fun X K0 hX => ?_)
  have K : sk_Ok X C cX9_tryDo 5 RX9 "tryDo" (some .int) 3 l (some (.int rr)) S dd := K0
  have R1 : X.2.2.2.2.2.2.2.2.2.2.2.1 ≤ S.1.1 ∧ X.2.2.2.2.2.2.2.2.2.2.2.2 ≤ S.1.2 := by rw [hX]; exact ⟨Nat.le_refl _, Nat.le_refl _⟩
  have R2 : S.1.1 ≤ S.1.1 ∧ S.1.2 ≤ S.1.2 := ⟨Nat.le_refl _, Nat.le_refl _⟩
  show sk_G X C 5 S d 0 [(0, .ref p0), (1, .int p1), (2, .int p2)] []
  unfold fX9_tryDo at hf
  refine sk_aload_n K dX9_tryDo_0 rfl 0 rfl ?_
  obtain ⟨v1, e2, hf⟩ := sk_ob hf
  refine sk_getR K dX9_tryDo_1 fl_X9_12 rfl e2 ?_
  refine sk_iload_n K dX9_tryDo_4 rfl 2 rfl ?_
  obtain ⟨h5, hf⟩ := sk_ib hf
  obtain ⟨v3, e4, hf⟩ := sk_ob hf
  refine sk_callV (As := [.int p2]) (st := []) K dX9_tryDo_5 cl_X9_63 h5 (sX2_has C l e4) (by decide) rfl rfl (Nat.le_of_ble_eq_true rfl) R1 R2 ?_
  refine sk_ifneB 13 K dX9_tryDo_8 (by decide) (fun h6 => ?_) (fun h6 => ?_)
  · rw [if_pos h6] at hf
    refine sk_iload_n K dX9_tryDo_13 rfl 1 rfl ?_
    obtain ⟨v7, e8, hf⟩ := sk_ob hf
    refine sk_callN (As := [.int p1]) (st := []) K dX9_tryDo_14 cl_X9_67 (sX10_doneIn C l e8) (by decide) rfl rfl (Nat.le_of_ble_eq_true rfl) R1 R2 ?_
    refine sk_istore_n [(3, .int v7), (0, .ref p0), (1, .int p1), (2, .int p2)] K dX9_tryDo_17 rfl (by decide) rfl ?_
    refine sk_iload_n K dX9_tryDo_18 rfl 0 rfl ?_
    refine sk_iload_n K dX9_tryDo_19 rfl 3 rfl ?_
    refine sk_ishr K dX9_tryDo_20 ?_
    refine sk_iconst (1 : Int32) K dX9_tryDo_21 (by decide) ?_
    refine sk_iand K dX9_tryDo_22 ?_
    refine sk_iconst (1 : Int32) K dX9_tryDo_23 (by decide) ?_
    refine sk_icmp_ne 30 K dX9_tryDo_24 (by decide) (fun h9 => ?_) (fun h9 => ?_)
    · rw [if_neg h9] at hf
      refine sk_aload_n K dX9_tryDo_30 rfl 1 rfl ?_
      obtain ⟨v10, e11, hf⟩ := sk_ob hf
      refine sk_getR K dX9_tryDo_31 fl_X9_12 rfl e11 ?_
      obtain ⟨v12, e13, hf⟩ := sk_ob hf
      refine sk_getR K dX9_tryDo_34 fl_X9_70 rfl e13 ?_
      refine sk_iload_n K dX9_tryDo_37 rfl 3 rfl ?_
      obtain ⟨v14, e15, hf⟩ := sk_ob hf
      refine sk_ald20 K dX9_tryDo_38 e15 ?_
      refine sk_iload_n K dX9_tryDo_39 rfl 0 rfl ?_
      refine sk_iconst (-1 : Int32) K dX9_tryDo_40 (by decide) ?_
      refine sk_ixor K dX9_tryDo_41 ?_
      refine sk_iand K dX9_tryDo_42 ?_
      refine sk_if_eq 49 K dX9_tryDo_43 (by decide) (fun h16 => ?_) (fun h16 => ?_)
      · rw [if_pos h16] at hf
        refine sk_iload_n K dX9_tryDo_49 rfl 2 rfl ?_
        refine sk_sipush (256 : Int32) K dX9_tryDo_50 (by decide) ?_
        refine sk_iload_n K dX9_tryDo_53 rfl 3 rfl ?_
        refine sk_ishl K dX9_tryDo_54 ?_
        refine sk_iconst (-1 : Int32) K dX9_tryDo_55 (by decide) ?_
        refine sk_ixor K dX9_tryDo_56 ?_
        refine sk_iand K dX9_tryDo_57 ?_
        refine sk_iconst (1 : Int32) K dX9_tryDo_58 (by decide) ?_
        refine sk_iload_n K dX9_tryDo_59 rfl 3 rfl ?_
        refine sk_ishl K dX9_tryDo_60 ?_
        refine sk_ior K dX9_tryDo_61 ?_
        refine sk_istore [(4, .int ((p1 &&& (((256 : Int32) <<< (p2 &&& 31)) ^^^ (-1 : Int32))) ||| ((1 : Int32) <<< (p2 &&& 31)))), (3, .int v7), (0, .ref p0), (1, .int p1), (2, .int p2)] K dX9_tryDo_62 (by decide) rfl ?_
        refine sk_aload_n K dX9_tryDo_64 rfl 2 rfl ?_
        refine sk_iload_n K dX9_tryDo_65 rfl 4 rfl ?_
        refine sk_iload K dX9_tryDo_66 0 rfl ?_
        obtain ⟨v17, e18, hf⟩ := sk_ob hf
        refine sk_callN (As := [.int ((p1 &&& (((256 : Int32) <<< (p2 &&& 31)) ^^^ (-1 : Int32))) ||| ((1 : Int32) <<< (p2 &&& 31)))]) (st := [.int p2, .ref p0]) K dX9_tryDo_68 cl_X9_73 (sX10_liningIn C l e18) (by decide) rfl rfl (Nat.le_of_ble_eq_true rfl) R1 R2 ?_
        obtain ⟨h22, hf⟩ := sk_ib hf
        obtain ⟨⟨v19, d21⟩, e20, hf⟩ := sk_ob hf
        try dsimp only at hf
        refine sk_callV (As := [.int p2, .int v17]) (st := []) K dX9_tryDo_71 cl_X9_76 h22 (sX9_keepsStub C l e20) (by decide) rfl rfl (Nat.le_of_ble_eq_true rfl) R1 R2 ?_
        refine sk_ifeqB 88 K dX9_tryDo_74 (by decide) (fun h24 => ?_) (fun h24 => ?_)
        · rw [if_neg h24] at hf
          refine sk_iload K dX9_tryDo_88 0 rfl ?_
          have hR25 : ((p1 &&& (((256 : Int32) <<< (p2 &&& 31)) ^^^ (-1 : Int32))) ||| ((1 : Int32) <<< (p2 &&& 31)), d21) = (rr, dd) := Option.some.inj hf
          exact sk_iret K dX9_tryDo_90 rfl rfl (congrArg (fun z => z.1) hR25) rfl (congrArg (fun z => z.2) hR25)
        · rw [if_pos h24] at hf
          refine sk_iload K dX9_tryDo_77 0 rfl ?_
          refine sk_sipush (256 : Int32) K dX9_tryDo_79 (by decide) ?_
          refine sk_iload_n K dX9_tryDo_82 rfl 4 rfl ?_
          refine sk_ishl K dX9_tryDo_83 ?_
          refine sk_ior K dX9_tryDo_84 ?_
          refine sk_goto 90 K dX9_tryDo_85 (by decide) ?_
          have hR26 : (((p1 &&& (((256 : Int32) <<< (p2 &&& 31)) ^^^ (-1 : Int32))) ||| ((1 : Int32) <<< (p2 &&& 31))) ||| ((256 : Int32) <<< (p2 &&& 31)), d21) = (rr, dd) := Option.some.inj hf
          exact sk_iret K dX9_tryDo_90 rfl rfl (congrArg (fun z => z.1) hR26) rfl (congrArg (fun z => z.2) hR26)
      · rw [if_neg h16] at hf
        refine sk_bipush (-3 : Int32) K dX9_tryDo_46 (by decide) ?_
        have hR27 : ((-3 : Int32), d) = (rr, dd) := Option.some.inj hf
        exact sk_iret K dX9_tryDo_48 rfl rfl (congrArg (fun z => z.1) hR27) rfl (congrArg (fun z => z.2) hR27)
    · rw [if_pos h9] at hf
      refine sk_bipush (-2 : Int32) K dX9_tryDo_27 (by decide) ?_
      have hR28 : ((-2 : Int32), d) = (rr, dd) := Option.some.inj hf
      exact sk_iret K dX9_tryDo_29 rfl rfl (congrArg (fun z => z.1) hR28) rfl (congrArg (fun z => z.2) hR28)
  · rw [if_neg h6] at hf
    refine sk_iconst (-1 : Int32) K dX9_tryDo_11 (by decide) ?_
    have hR29 : ((-1 : Int32), d) = (rr, dd) := Option.some.inj hf
    exact sk_iret K dX9_tryDo_12 rfl rfl (congrArg (fun z => z.1) hR29) rfl (congrArg (fun z => z.2) hR29)
noncomputable def fX9_tryDrop (S : sk_S) (d : sk_D) (p0 : Nat) (p1 : Int32) (p2 : Int32) : Option (Int32) :=
  (sk_gR S p0 8 0).bind fun v1 => if S.2.1 v1 = (2, 0) then ((fX2_has S d v1 p2).bind fun v3 => if v3 = true then ((fX10_liningIn S d p1).bind fun v7 => if ((v7 >>> (p2 &&& 31)) &&& (1 : Int32)) = 0 then (some (-2 : Int32)) else (some (p1 &&& (((256 : Int32) <<< (p2 &&& 31)) ^^^ (-1 : Int32))))) else (some (-1 : Int32))) else none
set_option maxRecDepth 100000 in
set_option maxHeartbeats 4000000 in
theorem sX9_tryDrop (C : sk_C) (l : Launch) {S : sk_S} {d : sk_D} {p0 : Nat} {p1 : Int32} {p2 : Int32} {rr : Int32} (hf : fX9_tryDrop S d p0 p1 p2 = some rr) : sk_Met C l 1 yX9_tryDrop cX9_tryDrop 3 (some .int) [.ref p0, .int p1, .int p2] S d (some (.int rr)) S d := by
  refine sk_Met.of (by decide) (Nat.le_of_ble_eq_true rfl) (Nat.le_refl _) (Nat.le_refl _) (fun X K0 hX => ?_)
  have K : sk_Ok X C cX9_tryDrop 3 RX9 "tryDrop" (some .int) 1 l (some (.int rr)) S d := K0
  have R1 : X.2.2.2.2.2.2.2.2.2.2.2.1 ≤ S.1.1 ∧ X.2.2.2.2.2.2.2.2.2.2.2.2 ≤ S.1.2 := by rw [hX]; exact ⟨Nat.le_refl _, Nat.le_refl _⟩
  have R2 : S.1.1 ≤ S.1.1 ∧ S.1.2 ≤ S.1.2 := ⟨Nat.le_refl _, Nat.le_refl _⟩
  show sk_G X C 3 S d 0 [(0, .ref p0), (1, .int p1), (2, .int p2)] []
  unfold fX9_tryDrop at hf
  refine sk_aload_n K dX9_tryDrop_0 rfl 0 rfl ?_
  obtain ⟨v1, e2, hf⟩ := sk_ob hf
  refine sk_getR K dX9_tryDrop_1 fl_X9_12 rfl e2 ?_
  refine sk_iload_n K dX9_tryDrop_4 rfl 2 rfl ?_
  obtain ⟨h5, hf⟩ := sk_ib hf
  obtain ⟨v3, e4, hf⟩ := sk_ob hf
  refine sk_callV (As := [.int p2]) (st := []) K dX9_tryDrop_5 cl_X9_63 h5 (sX2_has C l e4) (by decide) rfl rfl (Nat.le_of_ble_eq_true rfl) R1 R2 ?_
  refine sk_ifneB 13 K dX9_tryDrop_8 (by decide) (fun h6 => ?_) (fun h6 => ?_)
  · rw [if_pos h6] at hf
    refine sk_iload_n K dX9_tryDrop_13 rfl 1 rfl ?_
    obtain ⟨v7, e8, hf⟩ := sk_ob hf
    refine sk_callN (As := [.int p1]) (st := []) K dX9_tryDrop_14 cl_X9_73 (sX10_liningIn C l e8) (by decide) rfl rfl (Nat.le_of_ble_eq_true rfl) R1 R2 ?_
    refine sk_iload_n K dX9_tryDrop_17 rfl 2 rfl ?_
    refine sk_ishr K dX9_tryDrop_18 ?_
    refine sk_iconst (1 : Int32) K dX9_tryDrop_19 (by decide) ?_
    refine sk_iand K dX9_tryDrop_20 ?_
    refine sk_if_ne 29 K dX9_tryDrop_21 (by decide) (fun h9 => ?_) (fun h9 => ?_)
    · rw [if_neg h9] at hf
      refine sk_iload_n K dX9_tryDrop_29 rfl 1 rfl ?_
      refine sk_sipush (256 : Int32) K dX9_tryDrop_30 (by decide) ?_
      refine sk_iload_n K dX9_tryDrop_33 rfl 2 rfl ?_
      refine sk_ishl K dX9_tryDrop_34 ?_
      refine sk_iconst (-1 : Int32) K dX9_tryDrop_35 (by decide) ?_
      refine sk_ixor K dX9_tryDrop_36 ?_
      refine sk_iand K dX9_tryDrop_37 ?_
      have hR10 : (p1 &&& (((256 : Int32) <<< (p2 &&& 31)) ^^^ (-1 : Int32))) = rr := Option.some.inj hf
      exact sk_iret K dX9_tryDrop_38 rfl rfl hR10 rfl rfl
    · rw [if_pos h9] at hf
      refine sk_bipush (-2 : Int32) K dX9_tryDrop_24 (by decide) ?_
      refine sk_goto 38 K dX9_tryDrop_26 (by decide) ?_
      have hR11 : (-2 : Int32) = rr := Option.some.inj hf
      exact sk_iret K dX9_tryDrop_38 rfl rfl hR11 rfl rfl
  · rw [if_neg h6] at hf
    refine sk_iconst (-1 : Int32) K dX9_tryDrop_11 (by decide) ?_
    have hR12 : (-1 : Int32) = rr := Option.some.inj hf
    exact sk_iret K dX9_tryDrop_12 rfl rfl hR12 rfl rfl
noncomputable def fX7_moved (S : sk_S) (d : sk_D) (p0 : Nat) (p1 : Int32) (p2 : Int32) : Option (Int32 × sk_D) :=
  if p2 = (16 : Int32) then (some (p1, d)) else (if (8 : Int32) ≤ p2 then (if S.2.1 p0 = (8, 0) then ((fX9_tryDrop S d p0 p1 (p2 - (8 : Int32))).bind fun v3 => some (v3, d)) else none) else (if S.2.1 p0 = (8, 0) then ((fX9_tryDo S d p0 p1 p2).bind fun b11 => some (b11.1, b11.2)) else none))
set_option maxRecDepth 100000 in
set_option maxHeartbeats 4000000 in
theorem sX7_moved (C : sk_C) (l : Launch) {S : sk_S} {d : sk_D} {p0 : Nat} {p1 : Int32} {p2 : Int32} {rr : Int32} {dd : sk_D} (hf : fX7_moved S d p0 p1 p2 = some (rr, dd)) : sk_Met C l 4 yX7_moved cX7_moved 3 (some .int) [.ref p0, .int p1, .int p2] S d (some (.int rr)) S dd := by
  refine sk_Met.of (by decide) (Nat.le_of_ble_eq_true rfl) (Nat.le_refl _) (Nat.le_refl _) (fun X K0 hX => ?_)
  have K : sk_Ok X C cX7_moved 3 RX7 "moved" (some .int) 4 l (some (.int rr)) S dd := K0
  have R1 : X.2.2.2.2.2.2.2.2.2.2.2.1 ≤ S.1.1 ∧ X.2.2.2.2.2.2.2.2.2.2.2.2 ≤ S.1.2 := by rw [hX]; exact ⟨Nat.le_refl _, Nat.le_refl _⟩
  have R2 : S.1.1 ≤ S.1.1 ∧ S.1.2 ≤ S.1.2 := ⟨Nat.le_refl _, Nat.le_refl _⟩
  show sk_G X C 3 S d 0 [(0, .ref p0), (1, .int p1), (2, .int p2)] []
  unfold fX7_moved at hf
  refine sk_iload_n K dX7_moved_0 rfl 2 rfl ?_
  refine sk_bipush (16 : Int32) K dX7_moved_1 (by decide) ?_
  refine sk_icmp_ne 8 K dX7_moved_3 (by decide) (fun h1 => ?_) (fun h1 => ?_)
  · rw [if_neg h1] at hf
    refine sk_iload_n K dX7_moved_8 rfl 2 rfl ?_
    refine sk_bipush (8 : Int32) K dX7_moved_9 (by decide) ?_
    refine sk_icmp_ge 23 K dX7_moved_11 (by decide) (fun h2 => ?_) (fun h2 => ?_)
    · rw [if_pos h2] at hf
      refine sk_aload_n K dX7_moved_23 rfl 0 rfl ?_
      refine sk_iload_n K dX7_moved_24 rfl 1 rfl ?_
      refine sk_iload_n K dX7_moved_25 rfl 2 rfl ?_
      refine sk_bipush (8 : Int32) K dX7_moved_26 (by decide) ?_
      refine sk_isub K dX7_moved_28 ?_
      obtain ⟨h5, hf⟩ := sk_ib hf
      obtain ⟨v3, e4, hf⟩ := sk_ob hf
      refine sk_callV (As := [.int p1, .int (p2 - (8 : Int32))]) (st := []) K dX7_moved_29 cl_X7_32 h5 (sX9_tryDrop C l e4) (by decide) rfl rfl (Nat.le_of_ble_eq_true rfl) R1 R2 ?_
      have hR6 : (v3, d) = (rr, dd) := Option.some.inj hf
      exact sk_iret K dX7_moved_32 rfl rfl (congrArg (fun z => z.1) hR6) rfl (congrArg (fun z => z.2) hR6)
    · rw [if_neg h2] at hf
      refine sk_aload_n K dX7_moved_14 rfl 0 rfl ?_
      refine sk_iload_n K dX7_moved_15 rfl 1 rfl ?_
      refine sk_iload_n K dX7_moved_16 rfl 2 rfl ?_
      obtain ⟨h10, hf⟩ := sk_ib hf
      obtain ⟨⟨v7, d9⟩, e8, hf⟩ := sk_ob hf
      try dsimp only at hf
      refine sk_callV (As := [.int p1, .int p2]) (st := []) K dX7_moved_17 cl_X7_26 h10 (sX9_tryDo C l e8) (by decide) rfl rfl (Nat.le_of_ble_eq_true rfl) R1 R2 ?_
      refine sk_goto 32 K dX7_moved_20 (by decide) ?_
      have hR12 : (v7, d9) = (rr, dd) := Option.some.inj hf
      exact sk_iret K dX7_moved_32 rfl rfl (congrArg (fun z => z.1) hR12) rfl (congrArg (fun z => z.2) hR12)
  · rw [if_pos h1] at hf
    refine sk_iload_n K dX7_moved_6 rfl 1 rfl ?_
    have hR13 : (p1, d) = (rr, dd) := Option.some.inj hf
    exact sk_iret K dX7_moved_7 rfl rfl (congrArg (fun z => z.1) hR13) rfl (congrArg (fun z => z.2) hR13)
noncomputable def fX10_moodOf_J17 (p0 : Int32) (p1 : Int32) (v1 : Int32) : Option (Int32) :=
  if ((p0 >>> (p1 &&& 31)) &&& (1 : Int32)) = (1 : Int32) then (if v1 = 0 then (some (2 : Int32)) else (some (1 : Int32))) else (if v1 = 0 then (some (0 : Int32)) else (some (3 : Int32)))
noncomputable def fX10_moodOf (S : sk_S) (d : sk_D) (p0 : Int32) (p1 : Int32) : Option (Int32) :=
  if ((p0 >>> ((p1 + (8 : Int32)) &&& 31)) &&& (1 : Int32)) = (1 : Int32) then (fX10_moodOf_J17 p0 p1 (1 : Int32)) else (fX10_moodOf_J17 p0 p1 (0 : Int32))
set_option maxRecDepth 100000 in
set_option maxHeartbeats 4000000 in
theorem sX10_moodOf (C : sk_C) (l : Launch) {S : sk_S} {d : sk_D} {p0 : Int32} {p1 : Int32} {rr : Int32} (hf : fX10_moodOf S d p0 p1 = some rr) : sk_Met C l 0 yX10_moodOf cX10_moodOf 3 (some .int) [.int p0, .int p1] S d (some (.int rr)) S d := by
  refine sk_Met.of (by decide) (Nat.le_of_ble_eq_true rfl) (Nat.le_refl _) (Nat.le_refl _) (fun X K0 hX => ?_)
  have K : sk_Ok X C cX10_moodOf 3 RX10 "moodOf" (some .int) 0 l (some (.int rr)) S d := K0
  have R1 : X.2.2.2.2.2.2.2.2.2.2.2.1 ≤ S.1.1 ∧ X.2.2.2.2.2.2.2.2.2.2.2.2 ≤ S.1.2 := by rw [hX]; exact ⟨Nat.le_refl _, Nat.le_refl _⟩
  have R2 : S.1.1 ≤ S.1.1 ∧ S.1.2 ≤ S.1.2 := ⟨Nat.le_refl _, Nat.le_refl _⟩
  show sk_G X C 3 S d 0 [(0, .int p0), (1, .int p1)] []
  unfold fX10_moodOf at hf
  have j17_0 : ∀ (v1 : Int32), fX10_moodOf_J17 p0 p1 v1 = some rr → sk_G X C 3 S d 17 [(0, .int p0), (1, .int p1)] [.int v1] := by
    intro v1 hf
    unfold fX10_moodOf_J17 at hf
    refine sk_istore_n [(2, .int v1), (0, .int p0), (1, .int p1)] K dX10_moodOf_17 rfl (by decide) rfl ?_
    refine sk_iload_n K dX10_moodOf_18 rfl 1 rfl ?_
    refine sk_iload_n K dX10_moodOf_19 rfl 2 rfl ?_
    refine sk_ishr K dX10_moodOf_20 ?_
    refine sk_iconst (1 : Int32) K dX10_moodOf_21 (by decide) ?_
    refine sk_iand K dX10_moodOf_22 ?_
    refine sk_iconst (1 : Int32) K dX10_moodOf_23 (by decide) ?_
    refine sk_icmp_ne 37 K dX10_moodOf_24 (by decide) (fun h2 => ?_) (fun h2 => ?_)
    · rw [if_neg h2] at hf
      refine sk_iload_n K dX10_moodOf_37 rfl 0 rfl ?_
      refine sk_if_eq 45 K dX10_moodOf_38 (by decide) (fun h3 => ?_) (fun h3 => ?_)
      · rw [if_pos h3] at hf
        refine sk_iconst (0 : Int32) K dX10_moodOf_45 (by decide) ?_
        have hR4 : (0 : Int32) = rr := Option.some.inj hf
        exact sk_iret K dX10_moodOf_46 rfl rfl hR4 rfl rfl
      · rw [if_neg h3] at hf
        refine sk_iconst (3 : Int32) K dX10_moodOf_41 (by decide) ?_
        refine sk_goto 46 K dX10_moodOf_42 (by decide) ?_
        have hR5 : (3 : Int32) = rr := Option.some.inj hf
        exact sk_iret K dX10_moodOf_46 rfl rfl hR5 rfl rfl
    · rw [if_pos h2] at hf
      refine sk_iload_n K dX10_moodOf_27 rfl 0 rfl ?_
      refine sk_if_eq 35 K dX10_moodOf_28 (by decide) (fun h6 => ?_) (fun h6 => ?_)
      · rw [if_pos h6] at hf
        refine sk_iconst (2 : Int32) K dX10_moodOf_35 (by decide) ?_
        have hR7 : (2 : Int32) = rr := Option.some.inj hf
        exact sk_iret K dX10_moodOf_36 rfl rfl hR7 rfl rfl
      · rw [if_neg h6] at hf
        refine sk_iconst (1 : Int32) K dX10_moodOf_31 (by decide) ?_
        refine sk_goto 36 K dX10_moodOf_32 (by decide) ?_
        have hR8 : (1 : Int32) = rr := Option.some.inj hf
        exact sk_iret K dX10_moodOf_36 rfl rfl hR8 rfl rfl
  refine sk_iload_n K dX10_moodOf_0 rfl 0 rfl ?_
  refine sk_iload_n K dX10_moodOf_1 rfl 1 rfl ?_
  refine sk_bipush (8 : Int32) K dX10_moodOf_2 (by decide) ?_
  refine sk_iadd K dX10_moodOf_4 ?_
  refine sk_ishr K dX10_moodOf_5 ?_
  refine sk_iconst (1 : Int32) K dX10_moodOf_6 (by decide) ?_
  refine sk_iand K dX10_moodOf_7 ?_
  refine sk_iconst (1 : Int32) K dX10_moodOf_8 (by decide) ?_
  refine sk_icmp_ne 16 K dX10_moodOf_9 (by decide) (fun h9 => ?_) (fun h9 => ?_)
  · rw [if_neg h9] at hf
    refine sk_iconst (0 : Int32) K dX10_moodOf_16 (by decide) ?_
    refine sk_sub [(0, .int p0), (1, .int p1)] [0, 1] rfl ?_
    have h9 := j17_0 _ hf
    exact h9
  · rw [if_pos h9] at hf
    refine sk_iconst (1 : Int32) K dX10_moodOf_12 (by decide) ?_
    refine sk_goto 17 K dX10_moodOf_13 (by decide) ?_
    refine sk_sub [(0, .int p0), (1, .int p1)] [0, 1] rfl ?_
    have h9 := j17_0 _ hf
    exact h9
noncomputable def fX10_slipIn (S : sk_S) (d : sk_D) (p0 : Int32) : Option (Int32) :=
  some (p0 >>> ((16 : Int32) &&& 31))
set_option maxRecDepth 100000 in
set_option maxHeartbeats 4000000 in
theorem sX10_slipIn (C : sk_C) (l : Launch) {S : sk_S} {d : sk_D} {p0 : Int32} {rr : Int32} (hf : fX10_slipIn S d p0 = some rr) : sk_Met C l 0 yX10_slipIn cX10_slipIn 1 (some .int) [.int p0] S d (some (.int rr)) S d := by
  refine sk_Met.of (by decide) (Nat.le_of_ble_eq_true rfl) (Nat.le_refl _) (Nat.le_refl _) (fun X K0 hX => ?_)
  have K : sk_Ok X C cX10_slipIn 1 RX10 "slipIn" (some .int) 0 l (some (.int rr)) S d := K0
  have R1 : X.2.2.2.2.2.2.2.2.2.2.2.1 ≤ S.1.1 ∧ X.2.2.2.2.2.2.2.2.2.2.2.2 ≤ S.1.2 := by rw [hX]; exact ⟨Nat.le_refl _, Nat.le_refl _⟩
  have R2 : S.1.1 ≤ S.1.1 ∧ S.1.2 ≤ S.1.2 := ⟨Nat.le_refl _, Nat.le_refl _⟩
  show sk_G X C 1 S d 0 [(0, .int p0)] []
  unfold fX10_slipIn at hf
  refine sk_iload_n K dX10_slipIn_0 rfl 0 rfl ?_
  refine sk_bipush (16 : Int32) K dX10_slipIn_1 (by decide) ?_
  refine sk_ishr K dX10_slipIn_3 ?_
  have hR1 : (p0 >>> ((16 : Int32) &&& 31)) = rr := Option.some.inj hf
  exact sk_iret K dX10_slipIn_4 rfl rfl hR1 rfl rfl
noncomputable def fX9_passesStub_J95 (S : sk_S) (p0 : Nat) (p3 : Int32) (v1 : Int32) (d2 : sk_D) : Option (Bool × sk_D) :=
  (sk_gR S p0 8 2).bind fun v3 => (sk_lI S d2 v3 20 v1).bind fun v5 => if ((v5 >>> ((p3 + (16 : Int32)) &&& 31)) &&& (1 : Int32)) = (1 : Int32) then (some (true, d2)) else (some (false, d2))
noncomputable def fX9_passesStub_J91 (S : sk_S) (p0 : Nat) (p3 : Int32) (v10 : Int32) (v11 : Nat) (v12 : Int32) (v13 : Int32) (v14 : Int32) (d15 : sk_D) : Option (Bool × sk_D) :=
  (sk_sI S d15 v11 20 v12 (v13 ||| (v14 <<< (p3 &&& 31)))).bind fun d16 => fX9_passesStub_J95 S p0 p3 v10 d16
noncomputable def fX9_passesStub (S : sk_S) (d : sk_D) (p0 : Nat) (p1 : Int32) (p2 : Int32) (p3 : Int32) : Option (Bool × sk_D) :=
  if ((p1 * (256 : Int32)) + p2) < 0 then (some (false, d)) else ((sk_gR S p0 8 2).bind fun v20 => (sk_al S v20 20).bind fun v22 => if v22 ≤ ((p1 * (256 : Int32)) + p2) then (some (false, d)) else ((sk_gR S p0 8 0).bind fun v26 => (sk_gR S v26 2 14).bind fun v28 => if S.2.1 v28 = (1, 0) then ((fX1_told S d v28).bind fun v30 => if v30 = true then ((sk_gR S p0 8 2).bind fun v34 => (sk_lI S d v34 20 ((p1 * (256 : Int32)) + p2)).bind fun v36 => if ((v36 >>> (p3 &&& 31)) &&& (1 : Int32)) = 0 then (if S.2.1 p0 = (8, 0) then ((fX9_give S d p0 p1 p2 p3).bind fun d41 => (sk_gR S p0 8 2).bind fun v43 => (sk_lI S d41 v43 20 ((p1 * (256 : Int32)) + p2)).bind fun v45 => (sk_gR S p0 8 0).bind fun v47 => (sk_gR S v47 2 14).bind fun v49 => (sk_gR S p0 8 3).bind fun v51 => if S.2.1 v49 = (1, 0) then ((fX1_holds S d41 v49 v51).bind fun b57 => if b57.1 = true then (fX9_passesStub_J91 S p0 p3 ((p1 * (256 : Int32)) + p2) v43 ((p1 * (256 : Int32)) + p2) v45 (65537 : Int32) b57.2) else (fX9_passesStub_J91 S p0 p3 ((p1 * (256 : Int32)) + p2) v43 ((p1 * (256 : Int32)) + p2) v45 (1 : Int32) b57.2)) else none) else none) else (fX9_passesStub_J95 S p0 p3 ((p1 * (256 : Int32)) + p2) d)) else (some (false, d))) else none))
set_option maxRecDepth 100000 in
set_option maxHeartbeats 4000000 in
theorem sX9_passesStub (C : sk_C) (l : Launch) {S : sk_S} {d : sk_D} {p0 : Nat} {p1 : Int32} {p2 : Int32} {p3 : Int32} {rr : Bool} {dd : sk_D} (hf : fX9_passesStub S d p0 p1 p2 p3 = some (rr, dd)) : sk_Met C l 2 yX9_passesStub cX9_passesStub 5 (some .boolean) [.ref p0, .int p1, .int p2, .int p3] S d (some (.int (sk_b rr))) S dd := by
  refine sk_Met.of (by decide) (Nat.le_of_ble_eq_true rfl) (Nat.le_refl _) (Nat.le_refl _) (fun X K0 hX => ?_)
  have K : sk_Ok X C cX9_passesStub 5 RX9 "passesStub" (some .boolean) 2 l (some (.int (sk_b rr))) S dd := K0
  have R1 : X.2.2.2.2.2.2.2.2.2.2.2.1 ≤ S.1.1 ∧ X.2.2.2.2.2.2.2.2.2.2.2.2 ≤ S.1.2 := by rw [hX]; exact ⟨Nat.le_refl _, Nat.le_refl _⟩
  have R2 : S.1.1 ≤ S.1.1 ∧ S.1.2 ≤ S.1.2 := ⟨Nat.le_refl _, Nat.le_refl _⟩
  show sk_G X C 5 S d 0 [(0, .ref p0), (1, .int p1), (2, .int p2), (3, .int p3)] []
  unfold fX9_passesStub at hf
  have j95_0 : ∀ (v1 : Int32) (d2 : sk_D), fX9_passesStub_J95 S p0 p3 v1 d2 = some (rr, dd) → sk_G X C 5 S d2 95 [(0, .ref p0), (3, .int p3), (4, .int v1)] [] := by
    intro v1 d2 hf
    unfold fX9_passesStub_J95 at hf
    refine sk_aload_n K dX9_passesStub_95 rfl 0 rfl ?_
    obtain ⟨v3, e4, hf⟩ := sk_ob hf
    refine sk_getR K dX9_passesStub_96 fl_X9_22 rfl e4 ?_
    refine sk_iload K dX9_passesStub_99 2 rfl ?_
    obtain ⟨v5, e6, hf⟩ := sk_ob hf
    refine sk_ald20 K dX9_passesStub_101 e6 ?_
    refine sk_iload_n K dX9_passesStub_102 rfl 1 rfl ?_
    refine sk_bipush (16 : Int32) K dX9_passesStub_103 (by decide) ?_
    refine sk_iadd K dX9_passesStub_105 ?_
    refine sk_ishr K dX9_passesStub_106 ?_
    refine sk_iconst (1 : Int32) K dX9_passesStub_107 (by decide) ?_
    refine sk_iand K dX9_passesStub_108 ?_
    refine sk_iconst (1 : Int32) K dX9_passesStub_109 (by decide) ?_
    refine sk_icmp_ne 117 K dX9_passesStub_110 (by decide) (fun h7 => ?_) (fun h7 => ?_)
    · rw [if_neg h7] at hf
      refine sk_iconst (0 : Int32) K dX9_passesStub_117 (by decide) ?_
      have hR8 : (false, d2) = (rr, dd) := Option.some.inj hf
      exact sk_zret (x := false) K dX9_passesStub_118 rfl rfl (congrArg (fun z => z.1) hR8) rfl (congrArg (fun z => z.2) hR8)
    · rw [if_pos h7] at hf
      refine sk_iconst (1 : Int32) K dX9_passesStub_113 (by decide) ?_
      refine sk_goto 118 K dX9_passesStub_114 (by decide) ?_
      have hR9 : (true, d2) = (rr, dd) := Option.some.inj hf
      exact sk_zret (x := true) K dX9_passesStub_118 rfl rfl (congrArg (fun z => z.1) hR9) rfl (congrArg (fun z => z.2) hR9)
  have j91_0 : ∀ (v10 : Int32) (v11 : Nat) (v12 : Int32) (v13 : Int32) (v14 : Int32) (d15 : sk_D), fX9_passesStub_J91 S p0 p3 v10 v11 v12 v13 v14 d15 = some (rr, dd) → sk_G X C 5 S d15 91 [(0, .ref p0), (3, .int p3), (4, .int v10)] [.int v14, .int v13, .int v12, .ref v11] := by
    intro v10 v11 v12 v13 v14 d15 hf
    unfold fX9_passesStub_J91 at hf
    refine sk_iload_n K dX9_passesStub_91 rfl 1 rfl ?_
    refine sk_ishl K dX9_passesStub_92 ?_
    refine sk_ior K dX9_passesStub_93 ?_
    obtain ⟨d16, e17, hf⟩ := sk_ob hf
    refine sk_ast20 d16 K dX9_passesStub_94 e17 ?_
    refine sk_sub [(0, .ref p0), (3, .int p3), (4, .int v10)] [0, 1, 2] rfl ?_
    have h9 := j95_0 _ _ hf
    exact h9
  refine sk_iload_n K dX9_passesStub_0 rfl 1 rfl ?_
  refine sk_sipush (256 : Int32) K dX9_passesStub_1 (by decide) ?_
  refine sk_imul K dX9_passesStub_4 ?_
  refine sk_iload_n K dX9_passesStub_5 rfl 2 rfl ?_
  refine sk_iadd K dX9_passesStub_6 ?_
  refine sk_istore [(4, .int ((p1 * (256 : Int32)) + p2)), (0, .ref p0), (1, .int p1), (2, .int p2), (3, .int p3)] K dX9_passesStub_7 (by decide) rfl ?_
  refine sk_iload K dX9_passesStub_9 0 rfl ?_
  refine sk_if_lt 37 K dX9_passesStub_11 (by decide) (fun h18 => ?_) (fun h18 => ?_)
  · rw [if_pos h18] at hf
    refine sk_iconst (0 : Int32) K dX9_passesStub_37 (by decide) ?_
    have hR19 : (false, d) = (rr, dd) := Option.some.inj hf
    exact sk_zret (x := false) K dX9_passesStub_38 rfl rfl (congrArg (fun z => z.1) hR19) rfl (congrArg (fun z => z.2) hR19)
  · rw [if_neg h18] at hf
    refine sk_iload K dX9_passesStub_14 0 rfl ?_
    refine sk_aload_n K dX9_passesStub_16 rfl 1 rfl ?_
    obtain ⟨v20, e21, hf⟩ := sk_ob hf
    refine sk_getR K dX9_passesStub_17 fl_X9_22 rfl e21 ?_
    obtain ⟨v22, e23, hf⟩ := sk_ob hf
    refine sk_al20 K dX9_passesStub_20 e23 ?_
    refine sk_icmp_ge 37 K dX9_passesStub_21 (by decide) (fun h24 => ?_) (fun h24 => ?_)
    · rw [if_pos h24] at hf
      refine sk_iconst (0 : Int32) K dX9_passesStub_37 (by decide) ?_
      have hR25 : (false, d) = (rr, dd) := Option.some.inj hf
      exact sk_zret (x := false) K dX9_passesStub_38 rfl rfl (congrArg (fun z => z.1) hR25) rfl (congrArg (fun z => z.2) hR25)
    · rw [if_neg h24] at hf
      refine sk_aload_n K dX9_passesStub_24 rfl 1 rfl ?_
      obtain ⟨v26, e27, hf⟩ := sk_ob hf
      refine sk_getR K dX9_passesStub_25 fl_X9_12 rfl e27 ?_
      obtain ⟨v28, e29, hf⟩ := sk_ob hf
      refine sk_getR K dX9_passesStub_28 fl_X9_132 rfl e29 ?_
      obtain ⟨h32, hf⟩ := sk_ib hf
      obtain ⟨v30, e31, hf⟩ := sk_ob hf
      refine sk_callV (As := []) (st := []) K dX9_passesStub_31 cl_X9_124 h32 (sX1_told C l e31) (by decide) rfl rfl (Nat.le_of_ble_eq_true rfl) R1 R2 ?_
      refine sk_ifneB 39 K dX9_passesStub_34 (by decide) (fun h33 => ?_) (fun h33 => ?_)
      · rw [if_pos h33] at hf
        refine sk_aload_n K dX9_passesStub_39 rfl 1 rfl ?_
        obtain ⟨v34, e35, hf⟩ := sk_ob hf
        refine sk_getR K dX9_passesStub_40 fl_X9_22 rfl e35 ?_
        refine sk_iload K dX9_passesStub_43 0 rfl ?_
        obtain ⟨v36, e37, hf⟩ := sk_ob hf
        refine sk_ald20 K dX9_passesStub_45 e37 ?_
        refine sk_iload_n K dX9_passesStub_46 rfl 4 rfl ?_
        refine sk_ishr K dX9_passesStub_47 ?_
        refine sk_iconst (1 : Int32) K dX9_passesStub_48 (by decide) ?_
        refine sk_iand K dX9_passesStub_49 ?_
        refine sk_if_ne 95 K dX9_passesStub_50 (by decide) (fun h38 => ?_) (fun h38 => ?_)
        · rw [if_neg h38] at hf
          refine sk_sub [(0, .ref p0), (3, .int p3), (4, .int ((p1 * (256 : Int32)) + p2))] [1, 4, 0] rfl ?_
          have h9 := j95_0 _ _ hf
          exact h9
        · rw [if_pos h38] at hf
          refine sk_aload_n K dX9_passesStub_53 rfl 1 rfl ?_
          refine sk_iload_n K dX9_passesStub_54 rfl 2 rfl ?_
          refine sk_iload_n K dX9_passesStub_55 rfl 3 rfl ?_
          refine sk_iload_n K dX9_passesStub_56 rfl 4 rfl ?_
          obtain ⟨h42, hf⟩ := sk_ib hf
          obtain ⟨d41, e40, hf⟩ := sk_ob hf
          refine sk_callV (As := [.int p1, .int p2, .int p3]) (st := []) K dX9_passesStub_57 cl_X9_116 h42 (sX9_give C l e40) (by decide) rfl rfl (Nat.le_of_ble_eq_true rfl) R1 R2 ?_
          refine sk_aload_n K dX9_passesStub_60 rfl 1 rfl ?_
          obtain ⟨v43, e44, hf⟩ := sk_ob hf
          refine sk_getR K dX9_passesStub_61 fl_X9_22 rfl e44 ?_
          refine sk_iload K dX9_passesStub_64 0 rfl ?_
          refine sk_dup2 K dX9_passesStub_66 rfl rfl ?_
          obtain ⟨v45, e46, hf⟩ := sk_ob hf
          refine sk_ald20 K dX9_passesStub_67 e46 ?_
          refine sk_aload_n K dX9_passesStub_68 rfl 1 rfl ?_
          obtain ⟨v47, e48, hf⟩ := sk_ob hf
          refine sk_getR K dX9_passesStub_69 fl_X9_12 rfl e48 ?_
          obtain ⟨v49, e50, hf⟩ := sk_ob hf
          refine sk_getR K dX9_passesStub_72 fl_X9_132 rfl e50 ?_
          refine sk_aload_n K dX9_passesStub_75 rfl 1 rfl ?_
          obtain ⟨v51, e52, hf⟩ := sk_ob hf
          refine sk_getR K dX9_passesStub_76 fl_X9_28 rfl e52 ?_
          obtain ⟨h56, hf⟩ := sk_ib hf
          obtain ⟨⟨v53, d55⟩, e54, hf⟩ := sk_ob hf
          try dsimp only at hf
          refine sk_callV (As := [.ref v51]) (st := [.int v45, .int ((p1 * (256 : Int32)) + p2), .ref v43]) K dX9_passesStub_79 cl_X9_128 h56 (sX1_holds C l e54) (by decide) rfl rfl (Nat.le_of_ble_eq_true rfl) R1 R2 ?_
          refine sk_ifeqB 90 K dX9_passesStub_82 (by decide) (fun h58 => ?_) (fun h58 => ?_)
          · rw [if_neg h58] at hf
            refine sk_iconst (1 : Int32) K dX9_passesStub_90 (by decide) ?_
            refine sk_sub [(0, .ref p0), (3, .int p3), (4, .int ((p1 * (256 : Int32)) + p2))] [1, 4, 0] rfl ?_
            have h9 := j91_0 _ _ _ _ _ _ hf
            exact h9
          · rw [if_pos h58] at hf
            refine sk_ldc K dX9_passesStub_85 qw_873 ?_
            refine sk_goto 91 K dX9_passesStub_87 (by decide) ?_
            refine sk_sub [(0, .ref p0), (3, .int p3), (4, .int ((p1 * (256 : Int32)) + p2))] [1, 4, 0] rfl ?_
            have h9 := j91_0 _ _ _ _ _ _ hf
            exact h9
      · rw [if_neg h33] at hf
        refine sk_iconst (0 : Int32) K dX9_passesStub_37 (by decide) ?_
        have hR59 : (false, d) = (rr, dd) := Option.some.inj hf
        exact sk_zret (x := false) K dX9_passesStub_38 rfl rfl (congrArg (fun z => z.1) hR59) rfl (congrArg (fun z => z.2) hR59)
noncomputable def fX9_tryAsk_J53 (S : sk_S) (p0 : Nat) (p1 : Int32) (p2 : Int32) (d1 : sk_D) : Option (Int32 × sk_D) :=
  (sk_gR S p0 8 0).bind fun v2 => (fX10_doneIn S d1 p1).bind fun v4 => if S.2.1 v2 = (2, 0) then ((fX2_needing S d1 v2 p2 v4).bind fun v6 => some (p1 &&& ((v6 ||| (v6 <<< ((8 : Int32) &&& 31))) ^^^ (-1 : Int32)), d1)) else none
noncomputable def fX9_tryAsk (S : sk_S) (d : sk_D) (p0 : Nat) (p1 : Int32) (p2 : Int32) : Option (Int32 × sk_D) :=
  (sk_gR S p0 8 0).bind fun v10 => if S.2.1 v10 = (2, 0) then ((fX2_has S d v10 p2).bind fun v12 => if v12 = true then ((fX10_moodOf S d p1 p2).bind fun v16 => if v16 = 0 then (some (p1, d)) else (if v16 = (1 : Int32) then (some (p1, d)) else (if v16 = (3 : Int32) then ((fX10_liningIn S d p1).bind fun v22 => (fX10_slipIn S d p1).bind fun v24 => if S.2.1 p0 = (8, 0) then ((fX9_passesStub S d p0 p2 v22 v24).bind fun b30 => if b30.1 = true then (some (p1, b30.2)) else (fX9_tryAsk_J53 S p0 p1 p2 b30.2)) else none) else (fX9_tryAsk_J53 S p0 p1 p2 d)))) else (some ((-1 : Int32), d))) else none
set_option maxRecDepth 100000 in
set_option maxHeartbeats 4000000 in
theorem sX9_tryAsk (C : sk_C) (l : Launch) {S : sk_S} {d : sk_D} {p0 : Nat} {p1 : Int32} {p2 : Int32} {rr : Int32} {dd : sk_D} (hf : fX9_tryAsk S d p0 p1 p2 = some (rr, dd)) : sk_Met C l 3 yX9_tryAsk cX9_tryAsk 5 (some .int) [.ref p0, .int p1, .int p2] S d (some (.int rr)) S dd := by
  refine sk_Met.of (by decide) (Nat.le_of_ble_eq_true rfl) (Nat.le_refl _) (Nat.le_refl _) (fun X K0 hX => ?_)
  have K : sk_Ok X C cX9_tryAsk 5 RX9 "tryAsk" (some .int) 3 l (some (.int rr)) S dd := K0
  have R1 : X.2.2.2.2.2.2.2.2.2.2.2.1 ≤ S.1.1 ∧ X.2.2.2.2.2.2.2.2.2.2.2.2 ≤ S.1.2 := by rw [hX]; exact ⟨Nat.le_refl _, Nat.le_refl _⟩
  have R2 : S.1.1 ≤ S.1.1 ∧ S.1.2 ≤ S.1.2 := ⟨Nat.le_refl _, Nat.le_refl _⟩
  show sk_G X C 5 S d 0 [(0, .ref p0), (1, .int p1), (2, .int p2)] []
  unfold fX9_tryAsk at hf
  have j53_0 : ∀ (d1 : sk_D), fX9_tryAsk_J53 S p0 p1 p2 d1 = some (rr, dd) → sk_G X C 5 S d1 53 [(0, .ref p0), (1, .int p1), (2, .int p2)] [] := by
    intro d1 hf
    unfold fX9_tryAsk_J53 at hf
    refine sk_aload_n K dX9_tryAsk_53 rfl 0 rfl ?_
    obtain ⟨v2, e3, hf⟩ := sk_ob hf
    refine sk_getR K dX9_tryAsk_54 fl_X9_12 rfl e3 ?_
    refine sk_iload_n K dX9_tryAsk_57 rfl 2 rfl ?_
    refine sk_iload_n K dX9_tryAsk_58 rfl 1 rfl ?_
    obtain ⟨v4, e5, hf⟩ := sk_ob hf
    refine sk_callN (As := [.int p1]) (st := [.int p2, .ref v2]) K dX9_tryAsk_59 cl_X9_67 (sX10_doneIn C l e5) (by decide) rfl rfl (Nat.le_of_ble_eq_true rfl) R1 R2 ?_
    obtain ⟨h8, hf⟩ := sk_ib hf
    obtain ⟨v6, e7, hf⟩ := sk_ob hf
    refine sk_callV (As := [.int p2, .int v4]) (st := []) K dX9_tryAsk_62 cl_X9_99 h8 (sX2_needing C l e7) (by decide) rfl rfl (Nat.le_of_ble_eq_true rfl) R1 R2 ?_
    refine sk_istore [(4, .int v6), (0, .ref p0), (1, .int p1), (2, .int p2)] K dX9_tryAsk_65 (by decide) rfl ?_
    refine sk_iload_n K dX9_tryAsk_67 rfl 2 rfl ?_
    refine sk_iload K dX9_tryAsk_68 0 rfl ?_
    refine sk_iload K dX9_tryAsk_70 0 rfl ?_
    refine sk_bipush (8 : Int32) K dX9_tryAsk_72 (by decide) ?_
    refine sk_ishl K dX9_tryAsk_74 ?_
    refine sk_ior K dX9_tryAsk_75 ?_
    refine sk_iconst (-1 : Int32) K dX9_tryAsk_76 (by decide) ?_
    refine sk_ixor K dX9_tryAsk_77 ?_
    refine sk_iand K dX9_tryAsk_78 ?_
    have hR9 : (p1 &&& ((v6 ||| (v6 <<< ((8 : Int32) &&& 31))) ^^^ (-1 : Int32)), d1) = (rr, dd) := Option.some.inj hf
    exact sk_iret K dX9_tryAsk_79 rfl rfl (congrArg (fun z => z.1) hR9) rfl (congrArg (fun z => z.2) hR9)
  refine sk_aload_n K dX9_tryAsk_0 rfl 0 rfl ?_
  obtain ⟨v10, e11, hf⟩ := sk_ob hf
  refine sk_getR K dX9_tryAsk_1 fl_X9_12 rfl e11 ?_
  refine sk_iload_n K dX9_tryAsk_4 rfl 2 rfl ?_
  obtain ⟨h14, hf⟩ := sk_ib hf
  obtain ⟨v12, e13, hf⟩ := sk_ob hf
  refine sk_callV (As := [.int p2]) (st := []) K dX9_tryAsk_5 cl_X9_63 h14 (sX2_has C l e13) (by decide) rfl rfl (Nat.le_of_ble_eq_true rfl) R1 R2 ?_
  refine sk_ifneB 13 K dX9_tryAsk_8 (by decide) (fun h15 => ?_) (fun h15 => ?_)
  · rw [if_pos h15] at hf
    refine sk_iload_n K dX9_tryAsk_13 rfl 1 rfl ?_
    refine sk_iload_n K dX9_tryAsk_14 rfl 2 rfl ?_
    obtain ⟨v16, e17, hf⟩ := sk_ob hf
    refine sk_callN (As := [.int p1, .int p2]) (st := []) K dX9_tryAsk_15 cl_X9_89 (sX10_moodOf C l e17) (by decide) rfl rfl (Nat.le_of_ble_eq_true rfl) R1 R2 ?_
    refine sk_istore_n [(3, .int v16), (0, .ref p0), (1, .int p1), (2, .int p2)] K dX9_tryAsk_18 rfl (by decide) rfl ?_
    refine sk_iload_n K dX9_tryAsk_19 rfl 0 rfl ?_
    refine sk_if_eq 28 K dX9_tryAsk_20 (by decide) (fun h18 => ?_) (fun h18 => ?_)
    · rw [if_pos h18] at hf
      refine sk_iload_n K dX9_tryAsk_28 rfl 2 rfl ?_
      have hR19 : (p1, d) = (rr, dd) := Option.some.inj hf
      exact sk_iret K dX9_tryAsk_29 rfl rfl (congrArg (fun z => z.1) hR19) rfl (congrArg (fun z => z.2) hR19)
    · rw [if_neg h18] at hf
      refine sk_iload_n K dX9_tryAsk_23 rfl 0 rfl ?_
      refine sk_iconst (1 : Int32) K dX9_tryAsk_24 (by decide) ?_
      refine sk_icmp_ne 30 K dX9_tryAsk_25 (by decide) (fun h20 => ?_) (fun h20 => ?_)
      · rw [if_neg h20] at hf
        refine sk_iload_n K dX9_tryAsk_30 rfl 0 rfl ?_
        refine sk_iconst (3 : Int32) K dX9_tryAsk_31 (by decide) ?_
        refine sk_icmp_ne 53 K dX9_tryAsk_32 (by decide) (fun h21 => ?_) (fun h21 => ?_)
        · rw [if_neg h21] at hf
          refine sk_sub [(0, .ref p0), (1, .int p1), (2, .int p2)] [1, 2, 3] rfl ?_
          have h9 := j53_0 _ hf
          exact h9
        · rw [if_pos h21] at hf
          refine sk_aload_n K dX9_tryAsk_35 rfl 1 rfl ?_
          refine sk_iload_n K dX9_tryAsk_36 rfl 3 rfl ?_
          refine sk_iload_n K dX9_tryAsk_37 rfl 2 rfl ?_
          obtain ⟨v22, e23, hf⟩ := sk_ob hf
          refine sk_callN (As := [.int p1]) (st := [.int p2, .ref p0]) K dX9_tryAsk_38 cl_X9_73 (sX10_liningIn C l e23) (by decide) rfl rfl (Nat.le_of_ble_eq_true rfl) R1 R2 ?_
          refine sk_iload_n K dX9_tryAsk_41 rfl 2 rfl ?_
          obtain ⟨v24, e25, hf⟩ := sk_ob hf
          refine sk_callN (As := [.int p1]) (st := [.int v22, .int p2, .ref p0]) K dX9_tryAsk_42 cl_X9_92 (sX10_slipIn C l e25) (by decide) rfl rfl (Nat.le_of_ble_eq_true rfl) R1 R2 ?_
          obtain ⟨h29, hf⟩ := sk_ib hf
          obtain ⟨⟨v26, d28⟩, e27, hf⟩ := sk_ob hf
          try dsimp only at hf
          refine sk_callV (As := [.int p2, .int v22, .int v24]) (st := []) K dX9_tryAsk_45 cl_X9_95 h29 (sX9_passesStub C l e27) (by decide) rfl rfl (Nat.le_of_ble_eq_true rfl) R1 R2 ?_
          refine sk_ifeqB 53 K dX9_tryAsk_48 (by decide) (fun h31 => ?_) (fun h31 => ?_)
          · rw [if_neg h31] at hf
            refine sk_sub [(0, .ref p0), (1, .int p1), (2, .int p2)] [1, 2, 3] rfl ?_
            have h9 := j53_0 _ hf
            exact h9
          · rw [if_pos h31] at hf
            refine sk_iload_n K dX9_tryAsk_51 rfl 2 rfl ?_
            have hR32 : (p1, d28) = (rr, dd) := Option.some.inj hf
            exact sk_iret K dX9_tryAsk_52 rfl rfl (congrArg (fun z => z.1) hR32) rfl (congrArg (fun z => z.2) hR32)
      · rw [if_pos h20] at hf
        refine sk_iload_n K dX9_tryAsk_28 rfl 2 rfl ?_
        have hR33 : (p1, d) = (rr, dd) := Option.some.inj hf
        exact sk_iret K dX9_tryAsk_29 rfl rfl (congrArg (fun z => z.1) hR33) rfl (congrArg (fun z => z.2) hR33)
  · rw [if_neg h15] at hf
    refine sk_iconst (-1 : Int32) K dX9_tryAsk_11 (by decide) ?_
    have hR34 : ((-1 : Int32), d) = (rr, dd) := Option.some.inj hf
    exact sk_iret K dX9_tryAsk_12 rfl rfl (congrArg (fun z => z.1) hR34) rfl (congrArg (fun z => z.2) hR34)
noncomputable def fX7_wins_L38 (rec : Nat → sk_D → Nat → Int32 → Int32 → Int32 → Option (Bool × sk_D)) (S : sk_S) (p0 : Nat) (p1 : Int32) (p2 : Int32) (p3 : Int32) (s1 : Int32 × sk_D) : Option ((Int32 × sk_D) ⊕ (Bool × sk_D)) :=
  if (16 : Int32) < s1.1 then (some (.inr (false, s1.2))) else ((fX7_moved S s1.2 p0 p1 s1.1).bind fun b15 => if b15.1 < 0 then (some (.inl (s1.1 + 1, b15.2))) else ((rec 1 b15.2 p0 b15.1 p2 (p3 - (1 : Int32))).bind fun b20 => if b20.1 = true then (some (.inr (true, b20.2))) else (some (.inl (s1.1 + 1, b20.2)))))
noncomputable def fX7_wins_o (rec : Nat → sk_D → Nat → Int32 → Int32 → Int32 → Option (Bool × sk_D)) (S : sk_S) (d : sk_D) (p0 : Nat) (p1 : Int32) (p2 : Int32) (p3 : Int32) : Option (Bool × sk_D) :=
  (fX10_shownIn S d p1).bind fun v1 => (fJ6_bitCount_0f7a4 S d (p2 &&& (v1 ^^^ (-1 : Int32)))).bind fun v3 => if v3 = 0 then (if v3 = 0 then (some (true, d)) else (some (false, d))) else (if v3 ≤ p3 then ((sk_itr (fX7_wins_L38 rec S p0 p1 p2 p3) ((0 : Int32), d)).bind fun x1 => some x1) else (if v3 = 0 then (some (true, d)) else (some (false, d))))
noncomputable def fX7_withstands_L28 (rec : Nat → sk_D → Nat → Int32 → Int32 → Int32 → Option (Bool × sk_D)) (S : sk_S) (p0 : Nat) (p1 : Int32) (p2 : Int32) (p3 : Int32) (s1 : Int32 × sk_D) : Option ((Int32 × sk_D) ⊕ (Bool × sk_D)) :=
  if (8 : Int32) ≤ s1.1 then (some (.inr (true, s1.2))) else (if S.2.1 p0 = (8, 0) then ((fX9_tryAsk S s1.2 p0 p1 s1.1).bind fun b15 => if b15.1 < 0 then (some (.inl (s1.1 + 1, b15.2))) else (if b15.1 = p1 then (some (.inl (s1.1 + 1, b15.2))) else ((rec 0 b15.2 p0 b15.1 p2 p3).bind fun b21 => if b21.1 = true then (some (.inl (s1.1 + 1, b21.2))) else (some (.inr (false, b21.2)))))) else none)
noncomputable def fX7_withstands_o (rec : Nat → sk_D → Nat → Int32 → Int32 → Int32 → Option (Bool × sk_D)) (S : sk_S) (d : sk_D) (p0 : Nat) (p1 : Int32) (p2 : Int32) (p3 : Int32) : Option (Bool × sk_D) :=
  (fX10_shownIn S d p1).bind fun v1 => if (p2 &&& (v1 ^^^ (-1 : Int32))) = 0 then (some (true, d)) else ((rec 0 d p0 p1 p2 p3).bind fun b7 => if b7.1 = true then ((sk_itr (fX7_withstands_L28 rec S p0 p1 p2 p3) ((0 : Int32), b7.2)).bind fun x1 => some x1) else (some (false, b7.2)))
noncomputable def gX7 (S : sk_S) : Nat → Nat → sk_D → Nat → Int32 → Int32 → Int32 → Option (Bool × sk_D)
  | 0 => fun _ _ _ _ _ _ => none
  | n + 1 => fun t d x0 x1 x2 x3 => match t with
    | 0 => fX7_wins_o (gX7 S n) S d x0 x1 x2 x3
    | _ => fX7_withstands_o (gX7 S n) S d x0 x1 x2 x3
def mX7 (C : sk_C) (l : Launch) (S : sk_S) (n : Nat) : Prop := (∀ (d : sk_D) (p0 : Nat) (p1 : Int32) (p2 : Int32) (p3 : Int32) (rr : Bool) (dd : sk_D), gX7 S n 0 d p0 p1 p2 p3 = some (rr, dd) → sk_Met C l (5 + n) yX7_wins cX7_wins 7 (some .boolean) [.ref p0, .int p1, .int p2, .int p3] S d (some (.int (sk_b rr))) S dd) ∧ (∀ (d : sk_D) (p0 : Nat) (p1 : Int32) (p2 : Int32) (p3 : Int32) (rr : Bool) (dd : sk_D), gX7 S n 1 d p0 p1 p2 p3 = some (rr, dd) → sk_Met C l (5 + n) yX7_withstands cX7_withstands 6 (some .boolean) [.ref p0, .int p1, .int p2, .int p3] S d (some (.int (sk_b rr))) S dd)
set_option maxRecDepth 100000 in
set_option maxHeartbeats 4000000 in
theorem sX7_wins_o (C : sk_C) (l : Launch) {S : sk_S} (n : Nat) (ih : mX7 C l S n) {d : sk_D} {p0 : Nat} {p1 : Int32} {p2 : Int32} {p3 : Int32} {rr : Bool} {dd : sk_D} (hf : fX7_wins_o (gX7 S n) S d p0 p1 p2 p3 = some (rr, dd)) : sk_Met C l (5 + (n + 1)) yX7_wins cX7_wins 7 (some .boolean) [.ref p0, .int p1, .int p2, .int p3] S d (some (.int (sk_b rr))) S dd := by
  refine sk_Met.of (by decide) (Nat.le_of_ble_eq_true rfl) (Nat.le_refl _) (Nat.le_refl _) (fun X K0 hX => ?_)
  have K : sk_Ok X C cX7_wins 7 RX7 "wins" (some .boolean) (5 + (n + 1)) l (some (.int (sk_b rr))) S dd := K0
  have R1 : X.2.2.2.2.2.2.2.2.2.2.2.1 ≤ S.1.1 ∧ X.2.2.2.2.2.2.2.2.2.2.2.2 ≤ S.1.2 := by rw [hX]; exact ⟨Nat.le_refl _, Nat.le_refl _⟩
  have R2 : S.1.1 ≤ S.1.1 ∧ S.1.2 ≤ S.1.2 := ⟨Nat.le_refl _, Nat.le_refl _⟩
  show sk_G X C 7 S d 0 [(0, .ref p0), (1, .int p1), (2, .int p2), (3, .int p3)] []
  unfold fX7_wins_o at hf
  refine sk_iload_n K dX7_wins_0 rfl 2 rfl ?_
  refine sk_iload_n K dX7_wins_1 rfl 1 rfl ?_
  obtain ⟨v1, e2, hf⟩ := sk_ob hf
  refine sk_callN (As := [.int p1]) (st := [.int p2]) K dX7_wins_2 cl_X7_35 (sX10_shownIn C l e2) (by omega) rfl rfl (Nat.le_of_ble_eq_true rfl) R1 R2 ?_
  refine sk_iconst (-1 : Int32) K dX7_wins_5 (by decide) ?_
  refine sk_ixor K dX7_wins_6 ?_
  refine sk_iand K dX7_wins_7 ?_
  obtain ⟨v3, e4, hf⟩ := sk_ob hf
  refine sk_callS (As := [.int (p2 &&& (v1 ^^^ (-1 : Int32)))]) (st := []) K dX7_wins_8 cl_X7_38 (sJ6_bitCount_0f7a4 C l e4) (by omega) rfl rfl (Nat.le_of_ble_eq_true rfl) R1 R2 ?_
  refine sk_istore [(4, .int v3), (0, .ref p0), (1, .int p1), (2, .int p2), (3, .int p3)] K dX7_wins_11 (by decide) rfl ?_
  refine sk_iload K dX7_wins_13 0 rfl ?_
  refine sk_if_eq 24 K dX7_wins_15 (by decide) (fun h5 => ?_) (fun h5 => ?_)
  · rw [if_pos h5] at hf
    refine sk_iload K dX7_wins_24 0 rfl ?_
    refine sk_if_ne 33 K dX7_wins_26 (by decide) (fun h6 => ?_) (fun h6 => ?_)
    · rw [if_neg h6] at hf
      refine sk_iconst (0 : Int32) K dX7_wins_33 (by decide) ?_
      have hR7 : (false, d) = (rr, dd) := Option.some.inj hf
      exact sk_zret (x := false) K dX7_wins_34 rfl rfl (congrArg (fun z => z.1) hR7) rfl (congrArg (fun z => z.2) hR7)
    · rw [if_pos h6] at hf
      refine sk_iconst (1 : Int32) K dX7_wins_29 (by decide) ?_
      refine sk_goto 34 K dX7_wins_30 (by decide) ?_
      have hR8 : (true, d) = (rr, dd) := Option.some.inj hf
      exact sk_zret (x := true) K dX7_wins_34 rfl rfl (congrArg (fun z => z.1) hR8) rfl (congrArg (fun z => z.2) hR8)
  · rw [if_neg h5] at hf
    refine sk_iload K dX7_wins_18 0 rfl ?_
    refine sk_iload_n K dX7_wins_20 rfl 4 rfl ?_
    refine sk_icmp_le 35 K dX7_wins_21 (by decide) (fun h9 => ?_) (fun h9 => ?_)
    · rw [if_pos h9] at hf
      refine sk_iconst (0 : Int32) K dX7_wins_35 (by decide) ?_
      refine sk_istore [(5, .int (0 : Int32)), (4, .int v3), (0, .ref p0), (1, .int p1), (2, .int p2), (3, .int p3)] K dX7_wins_36 (by decide) rfl ?_
      obtain ⟨x1, he1, hf⟩ := sk_ob hf
      have hret1 : ∀ r, r = x1 → r = (rr, dd) := by
        intro r hr
        subst hr
        exact Option.some.inj hf
      refine sk_sub [(0, .ref p0), (1, .int p1), (2, .int p2), (3, .int p3), (5, .int (0 : Int32))] [2, 3, 4, 5, 0] rfl ?_
      refine sk_loop (fun s1 => sk_G X C 7 S s1.2 38 [(0, .ref p0), (1, .int p1), (2, .int p2), (3, .int p3), (5, .int s1.1)] []) he1 (fun s1 o1 hf ih1 hx1 => ?_)
      unfold fX7_wins_L38 at hf
      refine sk_iload K dX7_wins_38 4 rfl ?_
      refine sk_bipush (16 : Int32) K dX7_wins_40 (by decide) ?_
      refine sk_icmp_gt 80 K dX7_wins_42 (by decide) (fun h10 => ?_) (fun h10 => ?_)
      · rw [if_pos h10] at hf
        refine sk_iconst (0 : Int32) K dX7_wins_80 (by decide) ?_
        have hR11 : (false, s1.2) = (rr, dd) := hret1 _ (hx1 _ (Option.some.inj hf).symm)
        exact sk_zret (x := false) K dX7_wins_81 rfl rfl (congrArg (fun z => z.1) hR11) rfl (congrArg (fun z => z.2) hR11)
      · rw [if_neg h10] at hf
        refine sk_aload_n K dX7_wins_45 rfl 0 rfl ?_
        refine sk_iload_n K dX7_wins_46 rfl 1 rfl ?_
        refine sk_iload K dX7_wins_47 4 rfl ?_
        obtain ⟨⟨v12, d14⟩, e13, hf⟩ := sk_ob hf
        try dsimp only at hf
        refine sk_callS (As := [.ref p0, .int p1, .int s1.1]) (st := []) K dX7_wins_49 cl_X7_15 (sX7_moved C l e13) (by omega) rfl rfl (Nat.le_of_ble_eq_true rfl) R1 R2 ?_
        refine sk_istore [(6, .int v12), (0, .ref p0), (1, .int p1), (2, .int p2), (3, .int p3), (5, .int s1.1)] K dX7_wins_52 (by decide) rfl ?_
        refine sk_iload K dX7_wins_54 0 rfl ?_
        refine sk_if_lt 74 K dX7_wins_56 (by decide) (fun h16 => ?_) (fun h16 => ?_)
        · rw [if_pos h16] at hf
          refine sk_iinc (s1.1 + 1) [(5, .int (s1.1 + 1)), (6, .int v12), (0, .ref p0), (1, .int p1), (2, .int p2), (3, .int p3)] K dX7_wins_74 5 rfl rfl (by decide) rfl ?_
          refine sk_goto 38 K dX7_wins_77 (by decide) ?_
          refine sk_sub [(0, .ref p0), (1, .int p1), (2, .int p2), (3, .int p3), (5, .int (s1.1 + 1))] [2, 3, 4, 5, 0] rfl ?_
          have h9 := ih1 _ (Option.some.inj hf).symm
          exact h9
        · rw [if_neg h16] at hf
          refine sk_aload_n K dX7_wins_59 rfl 1 rfl ?_
          refine sk_iload K dX7_wins_60 0 rfl ?_
          refine sk_iload_n K dX7_wins_62 rfl 3 rfl ?_
          refine sk_iload_n K dX7_wins_63 rfl 4 rfl ?_
          refine sk_iconst (1 : Int32) K dX7_wins_64 (by decide) ?_
          refine sk_isub K dX7_wins_65 ?_
          obtain ⟨⟨v17, d19⟩, e18, hf⟩ := sk_ob hf
          try dsimp only at hf
          refine sk_callS (As := [.ref p0, .int v12, .int p2, .int (p3 - (1 : Int32))]) (st := []) K dX7_wins_66 cl_X7_19 (ih.2 _ _ _ _ _ _ _ e18) (by omega) rfl rfl (Nat.le_of_ble_eq_true rfl) R1 R2 ?_
          refine sk_ifeqB 74 K dX7_wins_69 (by decide) (fun h21 => ?_) (fun h21 => ?_)
          · rw [if_neg h21] at hf
            refine sk_iinc (s1.1 + 1) [(5, .int (s1.1 + 1)), (6, .int v12), (0, .ref p0), (1, .int p1), (2, .int p2), (3, .int p3)] K dX7_wins_74 5 rfl rfl (by decide) rfl ?_
            refine sk_goto 38 K dX7_wins_77 (by decide) ?_
            refine sk_sub [(0, .ref p0), (1, .int p1), (2, .int p2), (3, .int p3), (5, .int (s1.1 + 1))] [2, 3, 4, 5, 0] rfl ?_
            have h9 := ih1 _ (Option.some.inj hf).symm
            exact h9
          · rw [if_pos h21] at hf
            refine sk_iconst (1 : Int32) K dX7_wins_72 (by decide) ?_
            have hR22 : (true, d19) = (rr, dd) := hret1 _ (hx1 _ (Option.some.inj hf).symm)
            exact sk_zret (x := true) K dX7_wins_73 rfl rfl (congrArg (fun z => z.1) hR22) rfl (congrArg (fun z => z.2) hR22)
    · rw [if_neg h9] at hf
      refine sk_iload K dX7_wins_24 0 rfl ?_
      refine sk_if_ne 33 K dX7_wins_26 (by decide) (fun h23 => ?_) (fun h23 => ?_)
      · rw [if_neg h23] at hf
        refine sk_iconst (0 : Int32) K dX7_wins_33 (by decide) ?_
        have hR24 : (false, d) = (rr, dd) := Option.some.inj hf
        exact sk_zret (x := false) K dX7_wins_34 rfl rfl (congrArg (fun z => z.1) hR24) rfl (congrArg (fun z => z.2) hR24)
      · rw [if_pos h23] at hf
        refine sk_iconst (1 : Int32) K dX7_wins_29 (by decide) ?_
        refine sk_goto 34 K dX7_wins_30 (by decide) ?_
        have hR25 : (true, d) = (rr, dd) := Option.some.inj hf
        exact sk_zret (x := true) K dX7_wins_34 rfl rfl (congrArg (fun z => z.1) hR25) rfl (congrArg (fun z => z.2) hR25)
set_option maxRecDepth 100000 in
set_option maxHeartbeats 4000000 in
theorem sX7_withstands_o (C : sk_C) (l : Launch) {S : sk_S} (n : Nat) (ih : mX7 C l S n) {d : sk_D} {p0 : Nat} {p1 : Int32} {p2 : Int32} {p3 : Int32} {rr : Bool} {dd : sk_D} (hf : fX7_withstands_o (gX7 S n) S d p0 p1 p2 p3 = some (rr, dd)) : sk_Met C l (5 + (n + 1)) yX7_withstands cX7_withstands 6 (some .boolean) [.ref p0, .int p1, .int p2, .int p3] S d (some (.int (sk_b rr))) S dd := by
  refine sk_Met.of (by decide) (Nat.le_of_ble_eq_true rfl) (Nat.le_refl _) (Nat.le_refl _) (fun X K0 hX => ?_)
  have K : sk_Ok X C cX7_withstands 6 RX7 "withstands" (some .boolean) (5 + (n + 1)) l (some (.int (sk_b rr))) S dd := K0
  have R1 : X.2.2.2.2.2.2.2.2.2.2.2.1 ≤ S.1.1 ∧ X.2.2.2.2.2.2.2.2.2.2.2.2 ≤ S.1.2 := by rw [hX]; exact ⟨Nat.le_refl _, Nat.le_refl _⟩
  have R2 : S.1.1 ≤ S.1.1 ∧ S.1.2 ≤ S.1.2 := ⟨Nat.le_refl _, Nat.le_refl _⟩
  show sk_G X C 6 S d 0 [(0, .ref p0), (1, .int p1), (2, .int p2), (3, .int p3)] []
  unfold fX7_withstands_o at hf
  refine sk_iload_n K dX7_withstands_0 rfl 2 rfl ?_
  refine sk_iload_n K dX7_withstands_1 rfl 1 rfl ?_
  obtain ⟨v1, e2, hf⟩ := sk_ob hf
  refine sk_callN (As := [.int p1]) (st := [.int p2]) K dX7_withstands_2 cl_X7_35 (sX10_shownIn C l e2) (by omega) rfl rfl (Nat.le_of_ble_eq_true rfl) R1 R2 ?_
  refine sk_iconst (-1 : Int32) K dX7_withstands_5 (by decide) ?_
  refine sk_ixor K dX7_withstands_6 ?_
  refine sk_iand K dX7_withstands_7 ?_
  refine sk_if_ne 13 K dX7_withstands_8 (by decide) (fun h3 => ?_) (fun h3 => ?_)
  · rw [if_neg h3] at hf
    refine sk_aload_n K dX7_withstands_13 rfl 0 rfl ?_
    refine sk_iload_n K dX7_withstands_14 rfl 1 rfl ?_
    refine sk_iload_n K dX7_withstands_15 rfl 2 rfl ?_
    refine sk_iload_n K dX7_withstands_16 rfl 3 rfl ?_
    obtain ⟨⟨v4, d6⟩, e5, hf⟩ := sk_ob hf
    try dsimp only at hf
    refine sk_callS (As := [.ref p0, .int p1, .int p2, .int p3]) (st := []) K dX7_withstands_17 cl_X7_11 (ih.1 _ _ _ _ _ _ _ e5) (by omega) rfl rfl (Nat.le_of_ble_eq_true rfl) R1 R2 ?_
    refine sk_ifneB 25 K dX7_withstands_20 (by decide) (fun h8 => ?_) (fun h8 => ?_)
    · rw [if_pos h8] at hf
      refine sk_iconst (0 : Int32) K dX7_withstands_25 (by decide) ?_
      refine sk_istore [(4, .int (0 : Int32)), (0, .ref p0), (1, .int p1), (2, .int p2), (3, .int p3)] K dX7_withstands_26 (by decide) rfl ?_
      obtain ⟨x1, he1, hf⟩ := sk_ob hf
      have hret1 : ∀ r, r = x1 → r = (rr, dd) := by
        intro r hr
        subst hr
        exact Option.some.inj hf
      refine sk_sub [(0, .ref p0), (1, .int p1), (2, .int p2), (3, .int p3), (4, .int (0 : Int32))] [1, 2, 3, 4, 0] rfl ?_
      refine sk_loop (fun s1 => sk_G X C 6 S s1.2 28 [(0, .ref p0), (1, .int p1), (2, .int p2), (3, .int p3), (4, .int s1.1)] []) he1 (fun s1 o1 hf ih1 hx1 => ?_)
      unfold fX7_withstands_L28 at hf
      refine sk_iload K dX7_withstands_28 4 rfl ?_
      refine sk_bipush (8 : Int32) K dX7_withstands_30 (by decide) ?_
      refine sk_icmp_ge 74 K dX7_withstands_32 (by decide) (fun h9 => ?_) (fun h9 => ?_)
      · rw [if_pos h9] at hf
        refine sk_iconst (1 : Int32) K dX7_withstands_74 (by decide) ?_
        have hR10 : (true, s1.2) = (rr, dd) := hret1 _ (hx1 _ (Option.some.inj hf).symm)
        exact sk_zret (x := true) K dX7_withstands_75 rfl rfl (congrArg (fun z => z.1) hR10) rfl (congrArg (fun z => z.2) hR10)
      · rw [if_neg h9] at hf
        refine sk_aload_n K dX7_withstands_35 rfl 0 rfl ?_
        refine sk_iload_n K dX7_withstands_36 rfl 1 rfl ?_
        refine sk_iload K dX7_withstands_37 4 rfl ?_
        obtain ⟨h14, hf⟩ := sk_ib hf
        obtain ⟨⟨v11, d13⟩, e12, hf⟩ := sk_ob hf
        try dsimp only at hf
        refine sk_callV (As := [.int p1, .int s1.1]) (st := []) K dX7_withstands_39 cl_X7_43 h14 (sX9_tryAsk C l e12) (by omega) rfl rfl (Nat.le_of_ble_eq_true rfl) R1 R2 ?_
        refine sk_istore [(5, .int v11), (0, .ref p0), (1, .int p1), (2, .int p2), (3, .int p3), (4, .int s1.1)] K dX7_withstands_42 (by decide) rfl ?_
        refine sk_iload K dX7_withstands_44 0 rfl ?_
        refine sk_if_lt 68 K dX7_withstands_46 (by decide) (fun h16 => ?_) (fun h16 => ?_)
        · rw [if_pos h16] at hf
          refine sk_iinc (s1.1 + 1) [(4, .int (s1.1 + 1)), (5, .int v11), (0, .ref p0), (1, .int p1), (2, .int p2), (3, .int p3)] K dX7_withstands_68 5 rfl rfl (by decide) rfl ?_
          refine sk_goto 28 K dX7_withstands_71 (by decide) ?_
          refine sk_sub [(0, .ref p0), (1, .int p1), (2, .int p2), (3, .int p3), (4, .int (s1.1 + 1))] [2, 3, 4, 5, 0] rfl ?_
          have h9 := ih1 _ (Option.some.inj hf).symm
          exact h9
        · rw [if_neg h16] at hf
          refine sk_iload K dX7_withstands_49 0 rfl ?_
          refine sk_iload_n K dX7_withstands_51 rfl 2 rfl ?_
          refine sk_icmp_eq 68 K dX7_withstands_52 (by decide) (fun h17 => ?_) (fun h17 => ?_)
          · rw [if_pos h17] at hf
            refine sk_iinc (s1.1 + 1) [(4, .int (s1.1 + 1)), (5, .int v11), (0, .ref p0), (1, .int p1), (2, .int p2), (3, .int p3)] K dX7_withstands_68 5 rfl rfl (by decide) rfl ?_
            refine sk_goto 28 K dX7_withstands_71 (by decide) ?_
            refine sk_sub [(0, .ref p0), (1, .int p1), (2, .int p2), (3, .int p3), (4, .int (s1.1 + 1))] [2, 3, 4, 5, 0] rfl ?_
            have h9 := ih1 _ (Option.some.inj hf).symm
            exact h9
          · rw [if_neg h17] at hf
            refine sk_aload_n K dX7_withstands_55 rfl 1 rfl ?_
            refine sk_iload K dX7_withstands_56 0 rfl ?_
            refine sk_iload_n K dX7_withstands_58 rfl 3 rfl ?_
            refine sk_iload_n K dX7_withstands_59 rfl 4 rfl ?_
            obtain ⟨⟨v18, d20⟩, e19, hf⟩ := sk_ob hf
            try dsimp only at hf
            refine sk_callS (As := [.ref p0, .int v11, .int p2, .int p3]) (st := []) K dX7_withstands_60 cl_X7_11 (ih.1 _ _ _ _ _ _ _ e19) (by omega) rfl rfl (Nat.le_of_ble_eq_true rfl) R1 R2 ?_
            refine sk_ifneB 68 K dX7_withstands_63 (by decide) (fun h22 => ?_) (fun h22 => ?_)
            · rw [if_pos h22] at hf
              refine sk_iinc (s1.1 + 1) [(4, .int (s1.1 + 1)), (5, .int v11), (0, .ref p0), (1, .int p1), (2, .int p2), (3, .int p3)] K dX7_withstands_68 5 rfl rfl (by decide) rfl ?_
              refine sk_goto 28 K dX7_withstands_71 (by decide) ?_
              refine sk_sub [(0, .ref p0), (1, .int p1), (2, .int p2), (3, .int p3), (4, .int (s1.1 + 1))] [2, 3, 4, 5, 0] rfl ?_
              have h9 := ih1 _ (Option.some.inj hf).symm
              exact h9
            · rw [if_neg h22] at hf
              refine sk_iconst (0 : Int32) K dX7_withstands_66 (by decide) ?_
              have hR23 : (false, d20) = (rr, dd) := hret1 _ (hx1 _ (Option.some.inj hf).symm)
              exact sk_zret (x := false) K dX7_withstands_67 rfl rfl (congrArg (fun z => z.1) hR23) rfl (congrArg (fun z => z.2) hR23)
    · rw [if_neg h8] at hf
      refine sk_iconst (0 : Int32) K dX7_withstands_23 (by decide) ?_
      have hR24 : (false, d6) = (rr, dd) := Option.some.inj hf
      exact sk_zret (x := false) K dX7_withstands_24 rfl rfl (congrArg (fun z => z.1) hR24) rfl (congrArg (fun z => z.2) hR24)
  · rw [if_pos h3] at hf
    refine sk_iconst (1 : Int32) K dX7_withstands_11 (by decide) ?_
    have hR25 : (true, d) = (rr, dd) := Option.some.inj hf
    exact sk_zret (x := true) K dX7_withstands_12 rfl rfl (congrArg (fun z => z.1) hR25) rfl (congrArg (fun z => z.2) hR25)
theorem gX7_all (C : sk_C) (l : Launch) (S : sk_S) : ∀ n : Nat, mX7 C l S n := by
  intro n
  induction n with
  | zero =>
    exact ⟨(fun _ _ _ _ _ _ _ hf => by cases hf), (fun _ _ _ _ _ _ _ hf => by cases hf)⟩
  | succ n ih =>
    exact ⟨(fun _ _ _ _ _ _ _ hf => sX7_wins_o C l n ih hf), (fun _ _ _ _ _ _ _ hf => sX7_withstands_o C l n ih hf)⟩
noncomputable def fX7_wins (S : sk_S) (d : sk_D) (p0 : Nat) (p1 : Int32) (p2 : Int32) (p3 : Int32) : Option (Bool × sk_D) := gX7 S 100 0 d p0 p1 p2 p3
theorem sX7_wins (C : sk_C) (l : Launch) {S : sk_S} {d : sk_D} {p0 : Nat} {p1 : Int32} {p2 : Int32} {p3 : Int32} {rr : Bool} {dd : sk_D} (hf : fX7_wins S d p0 p1 p2 p3 = some (rr, dd)) : sk_Met C l 105 yX7_wins cX7_wins 7 (some .boolean) [.ref p0, .int p1, .int p2, .int p3] S d (some (.int (sk_b rr))) S dd := (gX7_all C l S 100).1 _ _ _ _ _ _ _ hf
noncomputable def fX7_withstands (S : sk_S) (d : sk_D) (p0 : Nat) (p1 : Int32) (p2 : Int32) (p3 : Int32) : Option (Bool × sk_D) := gX7 S 100 1 d p0 p1 p2 p3
theorem sX7_withstands (C : sk_C) (l : Launch) {S : sk_S} {d : sk_D} {p0 : Nat} {p1 : Int32} {p2 : Int32} {p3 : Int32} {rr : Bool} {dd : sk_D} (hf : fX7_withstands S d p0 p1 p2 p3 = some (rr, dd)) : sk_Met C l 105 yX7_withstands cX7_withstands 6 (some .boolean) [.ref p0, .int p1, .int p2, .int p3] S d (some (.int (sk_b rr))) S dd := (gX7_all C l S 100).2 _ _ _ _ _ _ _ hf
