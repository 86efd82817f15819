noncomputable def fX11_soonest (S : sk_S) (d : sk_D) (p0 : Nat) (p1 : Int32) : Option (Int32 × sk_D) :=
  (sk_pI S d p0 10 0 (0 : Int32)).bind fun d1 => if S.2.1 p0 = (10, 0) then ((fX11_comes S d1 p0 p1 false).bind fun b7 => some (b7.1, b7.2)) else none
set_option maxRecDepth 100000 in
set_option maxHeartbeats 4000000 in
theorem sX11_soonest (C : sk_C) (l : Launch) {S : sk_S} {d : sk_D} {p0 : Nat} {p1 : Int32} {rr : Int32} {dd : sk_D} (hf : fX11_soonest S d p0 p1 = some (rr, dd)) : sk_Met C l 10 yX11_soonest cX11_soonest 2 (some .int) [.ref p0, .int p1] S d (some (.int rr)) S dd := by
  refine sk_Met.of (by decide) (Nat.le_of_ble_eq_true rfl) (Nat.le_refl _) (Nat.le_refl _) (fun X K0 hX => ?_)
  have K : sk_Ok X C cX11_soonest 2 RX11 "soonest" (some .int) 10 l (some (.int rr)) S dd := K0
  have R1 : X.2.2.2.2.2.2.2.2.2.2.2.1 ≤ S.1.1 ∧ X.2.2.2.2.2.2.2.2.2.2.2.2 ≤ S.1.2 := by rw [hX]; exact ⟨Nat.le_refl _, Nat.le_refl _⟩
  have R2 : S.1.1 ≤ S.1.1 ∧ S.1.2 ≤ S.1.2 := ⟨Nat.le_refl _, Nat.le_refl _⟩
  show sk_G X C 2 S d 0 [(0, .ref p0), (1, .int p1)] []
  unfold fX11_soonest at hf
  refine sk_aload_n K dX11_soonest_0 rfl 0 rfl ?_
  refine sk_iconst (0 : Int32) K dX11_soonest_1 (by decide) ?_
  obtain ⟨d1, e2, hf⟩ := sk_ob hf
  refine sk_putI d1 K dX11_soonest_2 fl_X11_1 rfl rfl rfl e2 ?_
  refine sk_aload_n K dX11_soonest_5 rfl 0 rfl ?_
  refine sk_iload_n K dX11_soonest_6 rfl 1 rfl ?_
  refine sk_iconst (0 : Int32) K dX11_soonest_7 (by decide) ?_
  obtain ⟨h6, hf⟩ := sk_ib hf
  obtain ⟨⟨v3, d5⟩, e4, hf⟩ := sk_ob hf
  try dsimp only at hf
  refine sk_callV (As := [.int p1, .int (sk_b false)]) (st := []) K dX11_soonest_8 cl_X11_391 h6 (sX11_comes C l e4) (by decide) rfl rfl (Nat.le_of_ble_eq_true rfl) R1 R2 ?_
  have hR8 : (v3, d5) = (rr, dd) := Option.some.inj hf
  exact sk_iret K dX11_soonest_11 rfl rfl (congrArg (fun z => z.1) hR8) rfl (congrArg (fun z => z.2) hR8)
noncomputable def fX11_way (S : sk_S) (d : sk_D) (p0 : Nat) (p1 : Int32) (p2 : Int32) : Option (Int32 × sk_D) :=
  (sk_pI S d p0 10 0 (0 : Int32)).bind fun d1 => if S.2.1 p0 = (10, 0) then ((fX11_comesBy S d1 p0 p1 p2 false).bind fun b7 => some (b7.1, b7.2)) else none
set_option maxRecDepth 100000 in
set_option maxHeartbeats 4000000 in
theorem sX11_way (C : sk_C) (l : Launch) {S : sk_S} {d : sk_D} {p0 : Nat} {p1 : Int32} {p2 : Int32} {rr : Int32} {dd : sk_D} (hf : fX11_way S d p0 p1 p2 = some (rr, dd)) : sk_Met C l 10 yX11_way cX11_way 3 (some .int) [.ref p0, .int p1, .int p2] S d (some (.int rr)) S dd := by
  refine sk_Met.of (by decide) (Nat.le_of_ble_eq_true rfl) (Nat.le_refl _) (Nat.le_refl _) (fun X K0 hX => ?_)
  have K : sk_Ok X C cX11_way 3 RX11 "way" (some .int) 10 l (some (.int rr)) S dd := K0
  have R1 : X.2.2.2.2.2.2.2.2.2.2.2.1 ≤ S.1.1 ∧ X.2.2.2.2.2.2.2.2.2.2.2.2 ≤ S.1.2 := by rw [hX]; exact ⟨Nat.le_refl _, Nat.le_refl _⟩
  have R2 : S.1.1 ≤ S.1.1 ∧ S.1.2 ≤ S.1.2 := ⟨Nat.le_refl _, Nat.le_refl _⟩
  show sk_G X C 3 S d 0 [(0, .ref p0), (1, .int p1), (2, .int p2)] []
  unfold fX11_way at hf
  refine sk_aload_n K dX11_way_0 rfl 0 rfl ?_
  refine sk_iconst (0 : Int32) K dX11_way_1 (by decide) ?_
  obtain ⟨d1, e2, hf⟩ := sk_ob hf
  refine sk_putI d1 K dX11_way_2 fl_X11_1 rfl rfl rfl e2 ?_
  refine sk_aload_n K dX11_way_5 rfl 0 rfl ?_
  refine sk_iload_n K dX11_way_6 rfl 1 rfl ?_
  refine sk_iload_n K dX11_way_7 rfl 2 rfl ?_
  refine sk_iconst (0 : Int32) K dX11_way_8 (by decide) ?_
  obtain ⟨h6, hf⟩ := sk_ib hf
  obtain ⟨⟨v3, d5⟩, e4, hf⟩ := sk_ob hf
  try dsimp only at hf
  refine sk_callV (As := [.int p1, .int p2, .int (sk_b false)]) (st := []) K dX11_way_9 cl_X11_394 h6 (sX11_comesBy C l e4) (by decide) rfl rfl (Nat.le_of_ble_eq_true rfl) R1 R2 ?_
  have hR8 : (v3, d5) = (rr, dd) := Option.some.inj hf
  exact sk_iret K dX11_way_12 rfl rfl (congrArg (fun z => z.1) hR8) rfl (congrArg (fun z => z.2) hR8)
noncomputable def fX11_shown (S : sk_S) (d : sk_D) (p0 : Nat) (p1 : Int32) : Option (Int32 × sk_D) :=
  (sk_pI S d p0 10 0 (0 : Int32)).bind fun d1 => if S.2.1 p0 = (10, 0) then ((fX11_comes S d1 p0 p1 true).bind fun b7 => some (b7.1, b7.2)) else none
set_option maxRecDepth 100000 in
set_option maxHeartbeats 4000000 in
theorem sX11_shown (C : sk_C) (l : Launch) {S : sk_S} {d : sk_D} {p0 : Nat} {p1 : Int32} {rr : Int32} {dd : sk_D} (hf : fX11_shown S d p0 p1 = some (rr, dd)) : sk_Met C l 10 yX11_shown cX11_shown 2 (some .int) [.ref p0, .int p1] S d (some (.int rr)) S dd := by
  refine sk_Met.of (by decide) (Nat.le_of_ble_eq_true rfl) (Nat.le_refl _) (Nat.le_refl _) (fun X K0 hX => ?_)
  have K : sk_Ok X C cX11_shown 2 RX11 "shown" (some .int) 10 l (some (.int rr)) S dd := K0
  have R1 : X.2.2.2.2.2.2.2.2.2.2.2.1 ≤ S.1.1 ∧ X.2.2.2.2.2.2.2.2.2.2.2.2 ≤ S.1.2 := by rw [hX]; exact ⟨Nat.le_refl _, Nat.le_refl _⟩
  have R2 : S.1.1 ≤ S.1.1 ∧ S.1.2 ≤ S.1.2 := ⟨Nat.le_refl _, Nat.le_refl _⟩
  show sk_G X C 2 S d 0 [(0, .ref p0), (1, .int p1)] []
  unfold fX11_shown at hf
  refine sk_aload_n K dX11_shown_0 rfl 0 rfl ?_
  refine sk_iconst (0 : Int32) K dX11_shown_1 (by decide) ?_
  obtain ⟨d1, e2, hf⟩ := sk_ob hf
  refine sk_putI d1 K dX11_shown_2 fl_X11_1 rfl rfl rfl e2 ?_
  refine sk_aload_n K dX11_shown_5 rfl 0 rfl ?_
  refine sk_iload_n K dX11_shown_6 rfl 1 rfl ?_
  refine sk_iconst (1 : Int32) K dX11_shown_7 (by decide) ?_
  obtain ⟨h6, hf⟩ := sk_ib hf
  obtain ⟨⟨v3, d5⟩, e4, hf⟩ := sk_ob hf
  try dsimp only at hf
  refine sk_callV (As := [.int p1, .int (sk_b true)]) (st := []) K dX11_shown_8 cl_X11_391 h6 (sX11_comes C l e4) (by decide) rfl rfl (Nat.le_of_ble_eq_true rfl) R1 R2 ?_
  have hR8 : (v3, d5) = (rr, dd) := Option.some.inj hf
  exact sk_iret K dX11_shown_11 rfl rfl (congrArg (fun z => z.1) hR8) rfl (congrArg (fun z => z.2) hR8)
noncomputable def fX11_shownBy (S : sk_S) (d : sk_D) (p0 : Nat) (p1 : Int32) (p2 : Int32) : Option (Int32 × sk_D) :=
  (sk_pI S d p0 10 0 (0 : Int32)).bind fun d1 => if S.2.1 p0 = (10, 0) then ((fX11_comesBy S d1 p0 p1 p2 true).bind fun b7 => some (b7.1, b7.2)) else none
set_option maxRecDepth 100000 in
set_option maxHeartbeats 4000000 in
theorem sX11_shownBy (C : sk_C) (l : Launch) {S : sk_S} {d : sk_D} {p0 : Nat} {p1 : Int32} {p2 : Int32} {rr : Int32} {dd : sk_D} (hf : fX11_shownBy S d p0 p1 p2 = some (rr, dd)) : sk_Met C l 10 yX11_shownBy cX11_shownBy 3 (some .int) [.ref p0, .int p1, .int p2] S d (some (.int rr)) S dd := by
  refine sk_Met.of (by decide) (Nat.le_of_ble_eq_true rfl) (Nat.le_refl _) (Nat.le_refl _) (fun X K0 hX => ?_)
  have K : sk_Ok X C cX11_shownBy 3 RX11 "shownBy" (some .int) 10 l (some (.int rr)) S dd := K0
  have R1 : X.2.2.2.2.2.2.2.2.2.2.2.1 ≤ S.1.1 ∧ X.2.2.2.2.2.2.2.2.2.2.2.2 ≤ S.1.2 := by rw [hX]; exact ⟨Nat.le_refl _, Nat.le_refl _⟩
  have R2 : S.1.1 ≤ S.1.1 ∧ S.1.2 ≤ S.1.2 := ⟨Nat.le_refl _, Nat.le_refl _⟩
  show sk_G X C 3 S d 0 [(0, .ref p0), (1, .int p1), (2, .int p2)] []
  unfold fX11_shownBy at hf
  refine sk_aload_n K dX11_shownBy_0 rfl 0 rfl ?_
  refine sk_iconst (0 : Int32) K dX11_shownBy_1 (by decide) ?_
  obtain ⟨d1, e2, hf⟩ := sk_ob hf
  refine sk_putI d1 K dX11_shownBy_2 fl_X11_1 rfl rfl rfl e2 ?_
  refine sk_aload_n K dX11_shownBy_5 rfl 0 rfl ?_
  refine sk_iload_n K dX11_shownBy_6 rfl 1 rfl ?_
  refine sk_iload_n K dX11_shownBy_7 rfl 2 rfl ?_
  refine sk_iconst (1 : Int32) K dX11_shownBy_8 (by decide) ?_
  obtain ⟨h6, hf⟩ := sk_ib hf
  obtain ⟨⟨v3, d5⟩, e4, hf⟩ := sk_ob hf
  try dsimp only at hf
  refine sk_callV (As := [.int p1, .int p2, .int (sk_b true)]) (st := []) K dX11_shownBy_9 cl_X11_394 h6 (sX11_comesBy C l e4) (by decide) rfl rfl (Nat.le_of_ble_eq_true rfl) R1 R2 ?_
  have hR8 : (v3, d5) = (rr, dd) := Option.some.inj hf
  exact sk_iret K dX11_shownBy_12 rfl rfl (congrArg (fun z => z.1) hR8) rfl (congrArg (fun z => z.2) hR8)
noncomputable def fX11_rows_L265 (S : sk_S) (p0 : Nat) (p1 : Int32) (y2 : sk_D) (s3 : Int64 × Int32) : Option ((Int64 × Int32) ⊕ (Int64 × sk_D)) :=
  (sk_gI S y2 p0 10 25).bind fun v15 => if v15 ≤ s3.2 then (some (.inr (s3.1, y2))) else ((sk_gR S p0 10 21).bind fun v19 => (sk_lI S y2 v19 20 s3.2).bind fun v21 => if S.2.1 p0 = (10, 0) then ((fX11_hasAll S y2 p0 v21 p1 true).bind fun v23 => if v23 = true then ((sk_gR S p0 10 26).bind fun v27 => (sk_gR S p0 10 21).bind fun v29 => (sk_lI S y2 v29 20 s3.2).bind fun v31 => (sk_lJ S y2 v27 v31).bind fun v33 => some (.inl (s3.1 + v33, s3.2 + 1))) else (some (.inl (s3.1 + (0 : Int64), s3.2 + 1)))) else none)
noncomputable def fX11_rows_L202 (S : sk_S) (p0 : Nat) (s5 : Int32 × sk_D) : Option ((Int32 × sk_D) ⊕ (sk_D)) :=
  (sk_gI S s5.2 p0 10 25).bind fun v36 => if v36 ≤ s5.1 then (some (.inr s5.2)) else ((sk_gR S p0 10 26).bind fun v39 => (sk_gR S p0 10 21).bind fun v41 => (sk_lI S s5.2 v41 20 s5.1).bind fun v43 => (sk_gR S p0 10 27).bind fun v45 => (sk_gR S p0 10 21).bind fun v47 => (sk_lI S s5.2 v47 20 s5.1).bind fun v49 => (sk_lJ S s5.2 v45 v49).bind fun v51 => (sk_sJ S s5.2 v39 v43 v51).bind fun d53 => (sk_gR S p0 10 27).bind fun v55 => (sk_gR S p0 10 21).bind fun v57 => (sk_lI S d53 v57 20 s5.1).bind fun v59 => (sk_sJ S d53 v55 v59 (0 : Int64)).bind fun d61 => some (.inl (s5.1 + 1, d61)))
noncomputable def fX11_rows_L103 (S : sk_S) (p0 : Nat) (t1_a : Int32) (s6 : Int32 × sk_D) : Option ((Int32 × sk_D) ⊕ (sk_D)) :=
  if (16 : Int32) ≤ s6.1 then (some (.inr s6.2)) else ((sk_gR S p0 10 26).bind fun v67 => (sk_gR S p0 10 21).bind fun v69 => (sk_lI S s6.2 v69 20 t1_a).bind fun v71 => (sk_lJ S s6.2 v67 v71).bind fun v73 => if v73 ≤ (0 : Int64) then (some (.inr s6.2)) else ((sk_gR S p0 10 22).bind fun v76 => (sk_gR S p0 10 21).bind fun v78 => (sk_lI S s6.2 v78 20 t1_a).bind fun v80 => (sk_lI S s6.2 v76 20 (((16 : Int32) * v80) + s6.1)).bind fun v82 => if v82 = (-1 : Int32) then (some (.inl (s6.1 + 1, s6.2))) else ((sk_gR S p0 10 27).bind fun v85 => (sk_gR S p0 10 22).bind fun v87 => (sk_gR S p0 10 21).bind fun v89 => (sk_lI S s6.2 v89 20 t1_a).bind fun v91 => (sk_lI S s6.2 v87 20 (((16 : Int32) * v91) + s6.1)).bind fun v93 => (sk_lJ S s6.2 v85 v93).bind fun v95 => (sk_gR S p0 10 26).bind fun v97 => (sk_gR S p0 10 21).bind fun v99 => (sk_lI S s6.2 v99 20 t1_a).bind fun v101 => (sk_lJ S s6.2 v97 v101).bind fun v103 => (sk_sJ S s6.2 v85 v93 (v95 + v103)).bind fun d105 => some (.inl (s6.1 + 1, d105)))))
noncomputable def fX11_rows_L91 (S : sk_S) (p0 : Nat) (s4 : Int32 × sk_D) : Option ((Int32 × sk_D) ⊕ (sk_D)) :=
  (sk_gI S s4.2 p0 10 25).bind fun v63 => if v63 ≤ s4.1 then (some (.inr s4.2)) else ((sk_itr (fX11_rows_L103 S p0 s4.1) ((0 : Int32), s4.2)).bind fun y6 => some (.inl (s4.1 + 1, y6)))
noncomputable def fX11_rows_L83 (S : sk_S) (p0 : Nat) (p2 : Int32) (s2 : Int32 × sk_D) : Option ((Int32 × sk_D) ⊕ (sk_D)) :=
  if p2 ≤ s2.1 then (some (.inr s2.2)) else ((sk_itr (fX11_rows_L91 S p0) ((0 : Int32), s2.2)).bind fun y4 => (sk_itr (fX11_rows_L202 S p0) ((0 : Int32), y4)).bind fun y5 => some (.inl (s2.1 + 1, y5)))
noncomputable def fX11_rows_L35 (S : sk_S) (p0 : Nat) (s1 : Int32 × sk_D) : Option ((Int32 × sk_D) ⊕ (sk_D)) :=
  (sk_gI S s1.2 p0 10 25).bind fun v107 => if v107 ≤ s1.1 then (some (.inr s1.2)) else ((sk_gR S p0 10 26).bind fun v110 => (sk_gR S p0 10 21).bind fun v112 => (sk_lI S s1.2 v112 20 s1.1).bind fun v114 => if s1.1 = 0 then ((sk_sJ S s1.2 v110 v114 (1 : Int64)).bind fun d127 => (sk_gR S p0 10 27).bind fun v129 => (sk_gR S p0 10 21).bind fun v131 => (sk_lI S d127 v131 20 s1.1).bind fun v133 => (sk_sJ S d127 v129 v133 (0 : Int64)).bind fun d135 => some (.inl (s1.1 + 1, d135))) else ((sk_sJ S s1.2 v110 v114 (0 : Int64)).bind fun d117 => (sk_gR S p0 10 27).bind fun v119 => (sk_gR S p0 10 21).bind fun v121 => (sk_lI S d117 v121 20 s1.1).bind fun v123 => (sk_sJ S d117 v119 v123 (0 : Int64)).bind fun d125 => some (.inl (s1.1 + 1, d125))))
noncomputable def fX11_rows (S : sk_S) (d : sk_D) (p0 : Nat) (p1 : Int32) (p2 : Int32) : Option (Int64 × sk_D) :=
  (sk_pI S d p0 10 0 (0 : Int32)).bind fun d1 => if S.2.1 p0 = (10, 0) then ((fX11_isSet S d1 p0 p1).bind fun v3 => if v3 = true then ((fX11_within S d1 p2.toInt64 (0 : Int64) (8 : Int64)).bind fun v8 => if v8 = true then (if S.2.1 p0 = (10, 0) then ((fX11_laysStands S d1 p0).bind fun d13 => (sk_itr (fX11_rows_L35 S p0) ((0 : Int32), d13)).bind fun y1 => (sk_itr (fX11_rows_L83 S p0 p2) ((0 : Int32), y1)).bind fun y2 => (sk_itr (fX11_rows_L265 S p0 p1 y2) ((0 : Int64), (0 : Int32))).bind fun x3 => some x3) else none) else (some ((-3 : Int64), d1))) else (some ((-3 : Int64), d1))) else none
set_option maxRecDepth 100000 in
set_option maxHeartbeats 4000000 in
theorem sX11_rows (C : sk_C) (l : Launch) {S : sk_S} {d : sk_D} {p0 : Nat} {p1 : Int32} {p2 : Int32} {rr : Int64} {dd : sk_D} (hf : fX11_rows S d p0 p1 p2 = some (rr, dd)) : sk_Met C l 8 yX11_rows cX11_rows 6 (some .long) [.ref p0, .int p1, .int p2] S d (some (.long rr)) S dd := by
  refine sk_Met.of (by decide) (Nat.le_of_ble_eq_true rfl) (Nat.le_refl _) (Nat.le_refl _) (fun X K0 hX => ?_)
  have K : sk_Ok X C cX11_rows 6 RX11 "rows" (some .long) 8 l (some (.long rr)) S dd := K0
  have R1 : X.2.2.2.2.2.2.2.2.2.2.2.1 ≤ S.1.1 ∧ X.2.2.2.2.2.2.2.2.2.2.2.2 ≤ S.1.2 := by rw [hX]; exact ⟨Nat.le_refl _, Nat.le_refl _⟩
  have R2 : S.1.1 ≤ S.1.1 ∧ S.1.2 ≤ S.1.2 := ⟨Nat.le_refl _, Nat.le_refl _⟩
  show sk_G X C 6 S d 0 [(0, .ref p0), (1, .int p1), (2, .int p2)] []
  unfold fX11_rows at hf
  refine sk_aload_n K dX11_rows_0 rfl 0 rfl ?_
  refine sk_iconst (0 : Int32) K dX11_rows_1 (by decide) ?_
  obtain ⟨d1, e2, hf⟩ := sk_ob hf
  refine sk_putI d1 K dX11_rows_2 fl_X11_1 rfl rfl rfl e2 ?_
  refine sk_aload_n K dX11_rows_5 rfl 0 rfl ?_
  refine sk_iload_n K dX11_rows_6 rfl 1 rfl ?_
  obtain ⟨h5, hf⟩ := sk_ib hf
  obtain ⟨v3, e4, hf⟩ := sk_ob hf
  refine sk_callV (As := [.int p1]) (st := []) K dX11_rows_7 cl_X11_378 h5 (sX11_isSet C l e4) (by decide) rfl rfl (Nat.le_of_ble_eq_true rfl) R1 R2 ?_
  refine sk_ifeqB 25 K dX11_rows_10 (by decide) (fun h6 => ?_) (fun h6 => ?_)
  · rw [if_neg h6] at hf
    refine sk_ldc2 K dX11_rows_25 qw_1804 ?_
    have hR7 : ((-3 : Int64), d1) = (rr, dd) := Option.some.inj hf
    exact sk_lret K dX11_rows_28 rfl rfl (congrArg (fun z => z.1) hR7) rfl (congrArg (fun z => z.2) hR7)
  · rw [if_pos h6] at hf
    refine sk_iload_n K dX11_rows_13 rfl 2 rfl ?_
    refine sk_i2l K dX11_rows_14 ?_
    refine sk_lconst (0 : Int64) K dX11_rows_15 (by decide) ?_
    refine sk_ldc2 K dX11_rows_16 qw_1803 ?_
    obtain ⟨v8, e9, hf⟩ := sk_ob hf
    refine sk_callS (As := [.long p2.toInt64, .long (0 : Int64), .long (8 : Int64)]) (st := []) K dX11_rows_19 cl_X11_150 (sX11_within C l e9) (by decide) rfl rfl (Nat.le_of_ble_eq_true rfl) R1 R2 ?_
    refine sk_ifneB 29 K dX11_rows_22 (by decide) (fun h10 => ?_) (fun h10 => ?_)
    · rw [if_pos h10] at hf
      refine sk_aload_n K dX11_rows_29 rfl 0 rfl ?_
      obtain ⟨h14, hf⟩ := sk_ib hf
      obtain ⟨d13, e12, hf⟩ := sk_ob hf
      refine sk_callV (As := []) (st := []) K dX11_rows_30 cl_X11_365 h14 (sX11_laysStands C l e12) (by decide) rfl rfl (Nat.le_of_ble_eq_true rfl) R1 R2 ?_
      refine sk_iconst (0 : Int32) K dX11_rows_33 (by decide) ?_
      refine sk_istore_n [(3, .int (0 : Int32)), (0, .ref p0), (1, .int p1), (2, .int p2)] K dX11_rows_34 rfl (by decide) rfl ?_
      obtain ⟨x1, he1, hf⟩ := sk_ob hf
      have rest1 : ∀ y1, y1 = x1 → sk_G X C 6 S y1 81 [(0, .ref p0), (1, .int p1), (2, .int p2)] [] := by
        intro y1 hy
        subst hy
        refine sk_iconst (0 : Int32) K dX11_rows_81 (by decide) ?_
        refine sk_istore_n [(3, .int (0 : Int32)), (0, .ref p0), (1, .int p1), (2, .int p2)] K dX11_rows_82 rfl (by decide) rfl ?_
        obtain ⟨x2, he2, hf⟩ := sk_ob hf
        have rest2 : ∀ y2, y2 = x2 → sk_G X C 6 S y2 260 [(0, .ref p0), (1, .int p1)] [] := by
          intro y2 hy
          subst hy
          refine sk_lconst (0 : Int64) K dX11_rows_260 (by decide) ?_
          refine sk_lstore_n [(3, .long (0 : Int64)), (0, .ref p0), (1, .int p1)] K dX11_rows_261 rfl (by decide) rfl ?_
          refine sk_iconst (0 : Int32) K dX11_rows_262 (by decide) ?_
          refine sk_istore [(5, .int (0 : Int32)), (3, .long (0 : Int64)), (0, .ref p0), (1, .int p1)] K dX11_rows_263 (by decide) rfl ?_
          obtain ⟨x3, he3, hf⟩ := sk_ob hf
          have hret3 : ∀ r, r = x3 → r = (rr, dd) := by
            intro r hr
            subst hr
            exact Option.some.inj hf
          refine sk_sub [(0, .ref p0), (1, .int p1), (3, .long (0 : Int64)), (5, .int (0 : Int32))] [2, 3, 1, 0] rfl ?_
          refine sk_loop (fun s3 => sk_G X C 6 S y2 265 [(0, .ref p0), (1, .int p1), (3, .long s3.1), (5, .int s3.2)] []) he3 (fun s3 o3 hf ih3 hx3 => ?_)
          unfold fX11_rows_L265 at hf
          refine sk_iload K dX11_rows_265 3 rfl ?_
          refine sk_aload_n K dX11_rows_267 rfl 0 rfl ?_
          obtain ⟨v15, e16, hf⟩ := sk_ob hf
          refine sk_getI K dX11_rows_268 fl_X11_355 rfl e16 ?_
          refine sk_icmp_ge 315 K dX11_rows_271 (by decide) (fun h17 => ?_) (fun h17 => ?_)
          · rw [if_pos h17] at hf
            refine sk_lload_n K dX11_rows_315 rfl 2 rfl ?_
            have hR18 : (s3.1, y2) = (rr, dd) := hret3 _ (hx3 _ (Option.some.inj hf).symm)
            exact sk_lret K dX11_rows_316 rfl rfl (congrArg (fun z => z.1) hR18) rfl (congrArg (fun z => z.2) hR18)
          · rw [if_neg h17] at hf
            refine sk_lload_n K dX11_rows_274 rfl 2 rfl ?_
            refine sk_aload_n K dX11_rows_275 rfl 0 rfl ?_
            refine sk_aload_n K dX11_rows_276 rfl 0 rfl ?_
            obtain ⟨v19, e20, hf⟩ := sk_ob hf
            refine sk_getR K dX11_rows_277 fl_X11_40 rfl e20 ?_
            refine sk_iload K dX11_rows_280 3 rfl ?_
            obtain ⟨v21, e22, hf⟩ := sk_ob hf
            refine sk_ald20 K dX11_rows_282 e22 ?_
            refine sk_iload_n K dX11_rows_283 rfl 1 rfl ?_
            refine sk_iconst (1 : Int32) K dX11_rows_284 (by decide) ?_
            obtain ⟨h25, hf⟩ := sk_ib hf
            obtain ⟨v23, e24, hf⟩ := sk_ob hf
            refine sk_callV (As := [.int v21, .int p1, .int (sk_b true)]) (st := [.long s3.1]) K dX11_rows_285 cl_X11_368 h25 (sX11_hasAll C l e24) (by decide) rfl rfl (Nat.le_of_ble_eq_true rfl) R1 R2 ?_
            refine sk_ifeqB 306 K dX11_rows_288 (by decide) (fun h26 => ?_) (fun h26 => ?_)
            · rw [if_neg h26] at hf
              refine sk_lconst (0 : Int64) K dX11_rows_306 (by decide) ?_
              refine sk_ladd K dX11_rows_307 ?_
              refine sk_lstore_n [(3, .long (s3.1 + (0 : Int64))), (0, .ref p0), (1, .int p1), (5, .int s3.2)] K dX11_rows_308 rfl (by decide) rfl ?_
              refine sk_iinc (s3.2 + 1) [(5, .int (s3.2 + 1)), (3, .long (s3.1 + (0 : Int64))), (0, .ref p0), (1, .int p1)] K dX11_rows_309 3 rfl rfl (by decide) rfl ?_
              refine sk_goto 265 K dX11_rows_312 (by decide) ?_
              refine sk_sub [(0, .ref p0), (1, .int p1), (3, .long (s3.1 + (0 : Int64))), (5, .int (s3.2 + 1))] [2, 3, 1, 0] rfl ?_
              have h9 := ih3 _ (Option.some.inj hf).symm
              exact h9
            · rw [if_pos h26] at hf
              refine sk_aload_n K dX11_rows_291 rfl 0 rfl ?_
              obtain ⟨v27, e28, hf⟩ := sk_ob hf
              refine sk_getR K dX11_rows_292 fl_X11_53 rfl e28 ?_
              refine sk_aload_n K dX11_rows_295 rfl 0 rfl ?_
              obtain ⟨v29, e30, hf⟩ := sk_ob hf
              refine sk_getR K dX11_rows_296 fl_X11_40 rfl e30 ?_
              refine sk_iload K dX11_rows_299 3 rfl ?_
              obtain ⟨v31, e32, hf⟩ := sk_ob hf
              refine sk_ald20 K dX11_rows_301 e32 ?_
              obtain ⟨v33, e34, hf⟩ := sk_ob hf
              refine sk_ald21 K dX11_rows_302 e34 ?_
              refine sk_goto 307 K dX11_rows_303 (by decide) ?_
              refine sk_ladd K dX11_rows_307 ?_
              refine sk_lstore_n [(3, .long (s3.1 + v33)), (0, .ref p0), (1, .int p1), (5, .int s3.2)] K dX11_rows_308 rfl (by decide) rfl ?_
              refine sk_iinc (s3.2 + 1) [(5, .int (s3.2 + 1)), (3, .long (s3.1 + v33)), (0, .ref p0), (1, .int p1)] K dX11_rows_309 3 rfl rfl (by decide) rfl ?_
              refine sk_goto 265 K dX11_rows_312 (by decide) ?_
              refine sk_sub [(0, .ref p0), (1, .int p1), (3, .long (s3.1 + v33)), (5, .int (s3.2 + 1))] [2, 3, 1, 0] rfl ?_
              have h9 := ih3 _ (Option.some.inj hf).symm
              exact h9
        refine sk_sub [(0, .ref p0), (1, .int p1), (2, .int p2), (3, .int (0 : Int32))] [1, 2, 3, 0] rfl ?_
        refine sk_loop (fun s2 => sk_G X C 6 S s2.2 83 [(0, .ref p0), (1, .int p1), (2, .int p2), (3, .int s2.1)] []) he2 (fun s2 o2 hf ih2 hx2 => ?_)
        unfold fX11_rows_L83 at hf
        refine sk_iload_n K dX11_rows_83 rfl 3 rfl ?_
        refine sk_iload_n K dX11_rows_84 rfl 2 rfl ?_
        refine sk_icmp_ge 260 K dX11_rows_85 (by decide) (fun h35 => ?_) (fun h35 => ?_)
        · rw [if_pos h35] at hf
          refine sk_sub [(0, .ref p0), (1, .int p1)] [0, 1] rfl ?_
          have h9 := rest2 _ (hx2 _ (Option.some.inj hf).symm)
          exact h9
        · rw [if_neg h35] at hf
          refine sk_iconst (0 : Int32) K dX11_rows_88 (by decide) ?_
          refine sk_istore [(4, .int (0 : Int32)), (0, .ref p0), (1, .int p1), (2, .int p2), (3, .int s2.1)] K dX11_rows_89 (by decide) rfl ?_
          obtain ⟨x4, he4, hf⟩ := sk_ob hf
          have rest4 : ∀ y4, y4 = x4 → sk_G X C 6 S y4 199 [(0, .ref p0), (1, .int p1), (2, .int p2), (3, .int s2.1)] [] := by
            intro y4 hy
            subst hy
            refine sk_iconst (0 : Int32) K dX11_rows_199 (by decide) ?_
            refine sk_istore [(4, .int (0 : Int32)), (0, .ref p0), (1, .int p1), (2, .int p2), (3, .int s2.1)] K dX11_rows_200 (by decide) rfl ?_
            obtain ⟨x5, he5, hf⟩ := sk_ob hf
            have rest5 : ∀ y5, y5 = x5 → sk_G X C 6 S y5 254 [(0, .ref p0), (1, .int p1), (2, .int p2), (3, .int s2.1)] [] := by
              intro y5 hy
              subst hy
              refine sk_iinc (s2.1 + 1) [(3, .int (s2.1 + 1)), (0, .ref p0), (1, .int p1), (2, .int p2)] K dX11_rows_254 3 rfl rfl (by decide) rfl ?_
              refine sk_goto 83 K dX11_rows_257 (by decide) ?_
              refine sk_sub [(0, .ref p0), (1, .int p1), (2, .int p2), (3, .int (s2.1 + 1))] [1, 2, 3, 0] rfl ?_
              have h9 := ih2 _ (Option.some.inj hf).symm
              exact h9
            refine sk_sub [(0, .ref p0), (1, .int p1), (2, .int p2), (3, .int s2.1), (4, .int (0 : Int32))] [1, 2, 3, 4, 0] rfl ?_
            refine sk_loop (fun s5 => sk_G X C 6 S s5.2 202 [(0, .ref p0), (1, .int p1), (2, .int p2), (3, .int s2.1), (4, .int s5.1)] []) he5 (fun s5 o5 hf ih5 hx5 => ?_)
            unfold fX11_rows_L202 at hf
            refine sk_iload K dX11_rows_202 4 rfl ?_
            refine sk_aload_n K dX11_rows_204 rfl 0 rfl ?_
            obtain ⟨v36, e37, hf⟩ := sk_ob hf
            refine sk_getI K dX11_rows_205 fl_X11_355 rfl e37 ?_
            refine sk_icmp_ge 254 K dX11_rows_208 (by decide) (fun h38 => ?_) (fun h38 => ?_)
            · rw [if_pos h38] at hf
              refine sk_sub [(0, .ref p0), (1, .int p1), (2, .int p2), (3, .int s2.1)] [0, 1, 2, 3] rfl ?_
              have h9 := rest5 _ (hx5 _ (Option.some.inj hf).symm)
              exact h9
            · rw [if_neg h38] at hf
              refine sk_aload_n K dX11_rows_211 rfl 0 rfl ?_
              obtain ⟨v39, e40, hf⟩ := sk_ob hf
              refine sk_getR K dX11_rows_212 fl_X11_53 rfl e40 ?_
              refine sk_aload_n K dX11_rows_215 rfl 0 rfl ?_
              obtain ⟨v41, e42, hf⟩ := sk_ob hf
              refine sk_getR K dX11_rows_216 fl_X11_40 rfl e42 ?_
              refine sk_iload K dX11_rows_219 4 rfl ?_
              obtain ⟨v43, e44, hf⟩ := sk_ob hf
              refine sk_ald20 K dX11_rows_221 e44 ?_
              refine sk_aload_n K dX11_rows_222 rfl 0 rfl ?_
              obtain ⟨v45, e46, hf⟩ := sk_ob hf
              refine sk_getR K dX11_rows_223 fl_X11_57 rfl e46 ?_
              refine sk_aload_n K dX11_rows_226 rfl 0 rfl ?_
              obtain ⟨v47, e48, hf⟩ := sk_ob hf
              refine sk_getR K dX11_rows_227 fl_X11_40 rfl e48 ?_
              refine sk_iload K dX11_rows_230 4 rfl ?_
              obtain ⟨v49, e50, hf⟩ := sk_ob hf
              refine sk_ald20 K dX11_rows_232 e50 ?_
              obtain ⟨v51, e52, hf⟩ := sk_ob hf
              refine sk_ald21 K dX11_rows_233 e52 ?_
              obtain ⟨d53, e54, hf⟩ := sk_ob hf
              refine sk_ast21 d53 K dX11_rows_234 e54 ?_
              refine sk_aload_n K dX11_rows_235 rfl 0 rfl ?_
              obtain ⟨v55, e56, hf⟩ := sk_ob hf
              refine sk_getR K dX11_rows_236 fl_X11_57 rfl e56 ?_
              refine sk_aload_n K dX11_rows_239 rfl 0 rfl ?_
              obtain ⟨v57, e58, hf⟩ := sk_ob hf
              refine sk_getR K dX11_rows_240 fl_X11_40 rfl e58 ?_
              refine sk_iload K dX11_rows_243 4 rfl ?_
              obtain ⟨v59, e60, hf⟩ := sk_ob hf
              refine sk_ald20 K dX11_rows_245 e60 ?_
              refine sk_lconst (0 : Int64) K dX11_rows_246 (by decide) ?_
              obtain ⟨d61, e62, hf⟩ := sk_ob hf
              refine sk_ast21 d61 K dX11_rows_247 e62 ?_
              refine sk_iinc (s5.1 + 1) [(4, .int (s5.1 + 1)), (0, .ref p0), (1, .int p1), (2, .int p2), (3, .int s2.1)] K dX11_rows_248 4 rfl rfl (by decide) rfl ?_
              refine sk_goto 202 K dX11_rows_251 (by decide) ?_
              refine sk_sub [(0, .ref p0), (1, .int p1), (2, .int p2), (3, .int s2.1), (4, .int (s5.1 + 1))] [1, 2, 3, 4, 0] rfl ?_
              have h9 := ih5 _ (Option.some.inj hf).symm
              exact h9
          refine sk_sub [(0, .ref p0), (1, .int p1), (2, .int p2), (3, .int s2.1), (4, .int (0 : Int32))] [1, 2, 3, 4, 0] rfl ?_
          refine sk_loop (fun s4 => sk_G X C 6 S s4.2 91 [(0, .ref p0), (1, .int p1), (2, .int p2), (3, .int s2.1), (4, .int s4.1)] []) he4 (fun s4 o4 hf ih4 hx4 => ?_)
          unfold fX11_rows_L91 at hf
          refine sk_iload K dX11_rows_91 4 rfl ?_
          refine sk_aload_n K dX11_rows_93 rfl 0 rfl ?_
          obtain ⟨v63, e64, hf⟩ := sk_ob hf
          refine sk_getI K dX11_rows_94 fl_X11_355 rfl e64 ?_
          refine sk_icmp_ge 199 K dX11_rows_97 (by decide) (fun h65 => ?_) (fun h65 => ?_)
          · rw [if_pos h65] at hf
            refine sk_sub [(0, .ref p0), (1, .int p1), (2, .int p2), (3, .int s2.1)] [0, 1, 2, 3] rfl ?_
            have h9 := rest4 _ (hx4 _ (Option.some.inj hf).symm)
            exact h9
          · rw [if_neg h65] at hf
            refine sk_iconst (0 : Int32) K dX11_rows_100 (by decide) ?_
            refine sk_istore [(5, .int (0 : Int32)), (0, .ref p0), (1, .int p1), (2, .int p2), (3, .int s2.1), (4, .int s4.1)] K dX11_rows_101 (by decide) rfl ?_
            obtain ⟨x6, he6, hf⟩ := sk_ob hf
            have rest6 : ∀ y6, y6 = x6 → sk_G X C 6 S y6 193 [(0, .ref p0), (1, .int p1), (2, .int p2), (3, .int s2.1), (4, .int s4.1)] [] := by
              intro y6 hy
              subst hy
              refine sk_iinc (s4.1 + 1) [(4, .int (s4.1 + 1)), (0, .ref p0), (1, .int p1), (2, .int p2), (3, .int s2.1)] K dX11_rows_193 4 rfl rfl (by decide) rfl ?_
              refine sk_goto 91 K dX11_rows_196 (by decide) ?_
              refine sk_sub [(0, .ref p0), (1, .int p1), (2, .int p2), (3, .int s2.1), (4, .int (s4.1 + 1))] [1, 2, 3, 4, 0] rfl ?_
              have h9 := ih4 _ (Option.some.inj hf).symm
              exact h9
            refine sk_sub [(0, .ref p0), (1, .int p1), (2, .int p2), (3, .int s2.1), (4, .int s4.1), (5, .int (0 : Int32))] [1, 2, 3, 4, 5, 0] rfl ?_
            refine sk_loop (fun s6 => sk_G X C 6 S s6.2 103 [(0, .ref p0), (1, .int p1), (2, .int p2), (3, .int s2.1), (4, .int s4.1), (5, .int s6.1)] []) he6 (fun s6 o6 hf ih6 hx6 => ?_)
            unfold fX11_rows_L103 at hf
            refine sk_iload K dX11_rows_103 5 rfl ?_
            refine sk_bipush (16 : Int32) K dX11_rows_105 (by decide) ?_
            refine sk_icmp_ge 193 K dX11_rows_107 (by decide) (fun h66 => ?_) (fun h66 => ?_)
            · rw [if_pos h66] at hf
              refine sk_sub [(0, .ref p0), (1, .int p1), (2, .int p2), (3, .int s2.1), (4, .int s4.1)] [0, 1, 2, 3, 4] rfl ?_
              have h9 := rest6 _ (hx6 _ (Option.some.inj hf).symm)
              exact h9
            · rw [if_neg h66] at hf
              refine sk_aload_n K dX11_rows_110 rfl 0 rfl ?_
              obtain ⟨v67, e68, hf⟩ := sk_ob hf
              refine sk_getR K dX11_rows_111 fl_X11_53 rfl e68 ?_
              refine sk_aload_n K dX11_rows_114 rfl 0 rfl ?_
              obtain ⟨v69, e70, hf⟩ := sk_ob hf
              refine sk_getR K dX11_rows_115 fl_X11_40 rfl e70 ?_
              refine sk_iload K dX11_rows_118 4 rfl ?_
              obtain ⟨v71, e72, hf⟩ := sk_ob hf
              refine sk_ald20 K dX11_rows_120 e72 ?_
              obtain ⟨v73, e74, hf⟩ := sk_ob hf
              refine sk_ald21 K dX11_rows_121 e74 ?_
              refine sk_lconst (0 : Int64) K dX11_rows_122 (by decide) ?_
              refine sk_lcmp_le 193 K dX11_rows_123 dX11_rows_124 (by decide) (fun h75 => ?_) (fun h75 => ?_)
              · rw [if_pos h75] at hf
                refine sk_sub [(0, .ref p0), (1, .int p1), (2, .int p2), (3, .int s2.1), (4, .int s4.1)] [0, 1, 2, 3, 4] rfl ?_
                have h9 := rest6 _ (hx6 _ (Option.some.inj hf).symm)
                exact h9
              · rw [if_neg h75] at hf
                refine sk_aload_n K dX11_rows_127 rfl 0 rfl ?_
                obtain ⟨v76, e77, hf⟩ := sk_ob hf
                refine sk_getR K dX11_rows_128 fl_X11_44 rfl e77 ?_
                refine sk_bipush (16 : Int32) K dX11_rows_131 (by decide) ?_
                refine sk_aload_n K dX11_rows_133 rfl 0 rfl ?_
                obtain ⟨v78, e79, hf⟩ := sk_ob hf
                refine sk_getR K dX11_rows_134 fl_X11_40 rfl e79 ?_
                refine sk_iload K dX11_rows_137 4 rfl ?_
                obtain ⟨v80, e81, hf⟩ := sk_ob hf
                refine sk_ald20 K dX11_rows_139 e81 ?_
                refine sk_imul K dX11_rows_140 ?_
                refine sk_iload K dX11_rows_141 5 rfl ?_
                refine sk_iadd K dX11_rows_143 ?_
                obtain ⟨v82, e83, hf⟩ := sk_ob hf
                refine sk_ald20 K dX11_rows_144 e83 ?_
                refine sk_iconst (-1 : Int32) K dX11_rows_145 (by decide) ?_
                refine sk_icmp_eq 187 K dX11_rows_146 (by decide) (fun h84 => ?_) (fun h84 => ?_)
                · rw [if_pos h84] at hf
                  refine sk_iinc (s6.1 + 1) [(5, .int (s6.1 + 1)), (0, .ref p0), (1, .int p1), (2, .int p2), (3, .int s2.1), (4, .int s4.1)] K dX11_rows_187 5 rfl rfl (by decide) rfl ?_
                  refine sk_goto 103 K dX11_rows_190 (by decide) ?_
                  refine sk_sub [(0, .ref p0), (1, .int p1), (2, .int p2), (3, .int s2.1), (4, .int s4.1), (5, .int (s6.1 + 1))] [1, 2, 3, 4, 5, 0] rfl ?_
                  have h9 := ih6 _ (Option.some.inj hf).symm
                  exact h9
                · rw [if_neg h84] at hf
                  refine sk_aload_n K dX11_rows_149 rfl 0 rfl ?_
                  obtain ⟨v85, e86, hf⟩ := sk_ob hf
                  refine sk_getR K dX11_rows_150 fl_X11_57 rfl e86 ?_
                  refine sk_aload_n K dX11_rows_153 rfl 0 rfl ?_
                  obtain ⟨v87, e88, hf⟩ := sk_ob hf
                  refine sk_getR K dX11_rows_154 fl_X11_44 rfl e88 ?_
                  refine sk_bipush (16 : Int32) K dX11_rows_157 (by decide) ?_
                  refine sk_aload_n K dX11_rows_159 rfl 0 rfl ?_
                  obtain ⟨v89, e90, hf⟩ := sk_ob hf
                  refine sk_getR K dX11_rows_160 fl_X11_40 rfl e90 ?_
                  refine sk_iload K dX11_rows_163 4 rfl ?_
                  obtain ⟨v91, e92, hf⟩ := sk_ob hf
                  refine sk_ald20 K dX11_rows_165 e92 ?_
                  refine sk_imul K dX11_rows_166 ?_
                  refine sk_iload K dX11_rows_167 5 rfl ?_
                  refine sk_iadd K dX11_rows_169 ?_
                  obtain ⟨v93, e94, hf⟩ := sk_ob hf
                  refine sk_ald20 K dX11_rows_170 e94 ?_
                  refine sk_dup2 K dX11_rows_171 rfl rfl ?_
                  obtain ⟨v95, e96, hf⟩ := sk_ob hf
                  refine sk_ald21 K dX11_rows_172 e96 ?_
                  refine sk_aload_n K dX11_rows_173 rfl 0 rfl ?_
                  obtain ⟨v97, e98, hf⟩ := sk_ob hf
                  refine sk_getR K dX11_rows_174 fl_X11_53 rfl e98 ?_
                  refine sk_aload_n K dX11_rows_177 rfl 0 rfl ?_
                  obtain ⟨v99, e100, hf⟩ := sk_ob hf
                  refine sk_getR K dX11_rows_178 fl_X11_40 rfl e100 ?_
                  refine sk_iload K dX11_rows_181 4 rfl ?_
                  obtain ⟨v101, e102, hf⟩ := sk_ob hf
                  refine sk_ald20 K dX11_rows_183 e102 ?_
                  obtain ⟨v103, e104, hf⟩ := sk_ob hf
                  refine sk_ald21 K dX11_rows_184 e104 ?_
                  refine sk_ladd K dX11_rows_185 ?_
                  obtain ⟨d105, e106, hf⟩ := sk_ob hf
                  refine sk_ast21 d105 K dX11_rows_186 e106 ?_
                  refine sk_iinc (s6.1 + 1) [(5, .int (s6.1 + 1)), (0, .ref p0), (1, .int p1), (2, .int p2), (3, .int s2.1), (4, .int s4.1)] K dX11_rows_187 5 rfl rfl (by decide) rfl ?_
                  refine sk_goto 103 K dX11_rows_190 (by decide) ?_
                  refine sk_sub [(0, .ref p0), (1, .int p1), (2, .int p2), (3, .int s2.1), (4, .int s4.1), (5, .int (s6.1 + 1))] [1, 2, 3, 4, 5, 0] rfl ?_
                  have h9 := ih6 _ (Option.some.inj hf).symm
                  exact h9
      refine sk_sub [(0, .ref p0), (1, .int p1), (2, .int p2), (3, .int (0 : Int32))] [1, 2, 3, 0] rfl ?_
      refine sk_loop (fun s1 => sk_G X C 6 S s1.2 35 [(0, .ref p0), (1, .int p1), (2, .int p2), (3, .int s1.1)] []) he1 (fun s1 o1 hf ih1 hx1 => ?_)
      unfold fX11_rows_L35 at hf
      refine sk_iload_n K dX11_rows_35 rfl 3 rfl ?_
      refine sk_aload_n K dX11_rows_36 rfl 0 rfl ?_
      obtain ⟨v107, e108, hf⟩ := sk_ob hf
      refine sk_getI K dX11_rows_37 fl_X11_355 rfl e108 ?_
      refine sk_icmp_ge 81 K dX11_rows_40 (by decide) (fun h109 => ?_) (fun h109 => ?_)
      · rw [if_pos h109] at hf
        refine sk_sub [(0, .ref p0), (1, .int p1), (2, .int p2)] [0, 1, 2] rfl ?_
        have h9 := rest1 _ (hx1 _ (Option.some.inj hf).symm)
        exact h9
      · rw [if_neg h109] at hf
        refine sk_aload_n K dX11_rows_43 rfl 0 rfl ?_
        obtain ⟨v110, e111, hf⟩ := sk_ob hf
        refine sk_getR K dX11_rows_44 fl_X11_53 rfl e111 ?_
        refine sk_aload_n K dX11_rows_47 rfl 0 rfl ?_
        obtain ⟨v112, e113, hf⟩ := sk_ob hf
        refine sk_getR K dX11_rows_48 fl_X11_40 rfl e113 ?_
        refine sk_iload_n K dX11_rows_51 rfl 3 rfl ?_
        obtain ⟨v114, e115, hf⟩ := sk_ob hf
        refine sk_ald20 K dX11_rows_52 e115 ?_
        refine sk_iload_n K dX11_rows_53 rfl 3 rfl ?_
        refine sk_if_ne 61 K dX11_rows_54 (by decide) (fun h116 => ?_) (fun h116 => ?_)
        · rw [if_neg h116] at hf
          refine sk_lconst (0 : Int64) K dX11_rows_61 (by decide) ?_
          obtain ⟨d117, e118, hf⟩ := sk_ob hf
          refine sk_ast21 d117 K dX11_rows_62 e118 ?_
          refine sk_aload_n K dX11_rows_63 rfl 0 rfl ?_
          obtain ⟨v119, e120, hf⟩ := sk_ob hf
          refine sk_getR K dX11_rows_64 fl_X11_57 rfl e120 ?_
          refine sk_aload_n K dX11_rows_67 rfl 0 rfl ?_
          obtain ⟨v121, e122, hf⟩ := sk_ob hf
          refine sk_getR K dX11_rows_68 fl_X11_40 rfl e122 ?_
          refine sk_iload_n K dX11_rows_71 rfl 3 rfl ?_
          obtain ⟨v123, e124, hf⟩ := sk_ob hf
          refine sk_ald20 K dX11_rows_72 e124 ?_
          refine sk_lconst (0 : Int64) K dX11_rows_73 (by decide) ?_
          obtain ⟨d125, e126, hf⟩ := sk_ob hf
          refine sk_ast21 d125 K dX11_rows_74 e126 ?_
          refine sk_iinc (s1.1 + 1) [(3, .int (s1.1 + 1)), (0, .ref p0), (1, .int p1), (2, .int p2)] K dX11_rows_75 3 rfl rfl (by decide) rfl ?_
          refine sk_goto 35 K dX11_rows_78 (by decide) ?_
          refine sk_sub [(0, .ref p0), (1, .int p1), (2, .int p2), (3, .int (s1.1 + 1))] [1, 2, 3, 0] rfl ?_
          have h9 := ih1 _ (Option.some.inj hf).symm
          exact h9
        · rw [if_pos h116] at hf
          refine sk_lconst (1 : Int64) K dX11_rows_57 (by decide) ?_
          refine sk_goto 62 K dX11_rows_58 (by decide) ?_
          obtain ⟨d127, e128, hf⟩ := sk_ob hf
          refine sk_ast21 d127 K dX11_rows_62 e128 ?_
          refine sk_aload_n K dX11_rows_63 rfl 0 rfl ?_
          obtain ⟨v129, e130, hf⟩ := sk_ob hf
          refine sk_getR K dX11_rows_64 fl_X11_57 rfl e130 ?_
          refine sk_aload_n K dX11_rows_67 rfl 0 rfl ?_
          obtain ⟨v131, e132, hf⟩ := sk_ob hf
          refine sk_getR K dX11_rows_68 fl_X11_40 rfl e132 ?_
          refine sk_iload_n K dX11_rows_71 rfl 3 rfl ?_
          obtain ⟨v133, e134, hf⟩ := sk_ob hf
          refine sk_ald20 K dX11_rows_72 e134 ?_
          refine sk_lconst (0 : Int64) K dX11_rows_73 (by decide) ?_
          obtain ⟨d135, e136, hf⟩ := sk_ob hf
          refine sk_ast21 d135 K dX11_rows_74 e136 ?_
          refine sk_iinc (s1.1 + 1) [(3, .int (s1.1 + 1)), (0, .ref p0), (1, .int p1), (2, .int p2)] K dX11_rows_75 3 rfl rfl (by decide) rfl ?_
          refine sk_goto 35 K dX11_rows_78 (by decide) ?_
          refine sk_sub [(0, .ref p0), (1, .int p1), (2, .int p2), (3, .int (s1.1 + 1))] [1, 2, 3, 0] rfl ?_
          have h9 := ih1 _ (Option.some.inj hf).symm
          exact h9
    · rw [if_neg h10] at hf
      refine sk_ldc2 K dX11_rows_25 qw_1804 ?_
      have hR137 : ((-3 : Int64), d1) = (rr, dd) := Option.some.inj hf
      exact sk_lret K dX11_rows_28 rfl rfl (congrArg (fun z => z.1) hR137) rfl (congrArg (fun z => z.2) hR137)
noncomputable def fX11_most_L13 (S : sk_S) (p0 : Nat) (d5 : sk_D) (s1 : Int32 × Int32) : Option ((Int32 × Int32) ⊕ (Int32 × sk_D)) :=
  (sk_gI S d5 p0 10 25).bind fun v7 => if v7 ≤ s1.2 then (some (.inr (s1.1, d5))) else ((sk_gR S p0 10 21).bind fun v11 => (sk_lI S d5 v11 20 s1.2).bind fun v13 => if S.2.1 p0 = (10, 0) then ((fX11_thoseIn S d5 p0 v13 (1 : Int32)).bind fun v15 => (fX11_bitsOf S d5 v15).bind fun v18 => if v18 ≤ s1.1 then (some (.inl (s1.1, s1.2 + 1))) else ((sk_gR S p0 10 21).bind fun v21 => (sk_lI S d5 v21 20 s1.2).bind fun v23 => if S.2.1 p0 = (10, 0) then ((fX11_thoseIn S d5 p0 v23 (1 : Int32)).bind fun v25 => (fX11_bitsOf S d5 v25).bind fun v28 => some (.inl (v28, s1.2 + 1))) else none)) else none)
noncomputable def fX11_most (S : sk_S) (d : sk_D) (p0 : Nat) : Option (Int32 × sk_D) :=
  (sk_pI S d p0 10 0 (0 : Int32)).bind fun d1 => if S.2.1 p0 = (10, 0) then ((fX11_laysStands S d1 p0).bind fun d5 => (sk_itr (fX11_most_L13 S p0 d5) ((0 : Int32), (0 : Int32))).bind fun x1 => some x1) else none
set_option maxRecDepth 100000 in
set_option maxHeartbeats 4000000 in
theorem sX11_most (C : sk_C) (l : Launch) {S : sk_S} {d : sk_D} {p0 : Nat} {rr : Int32} {dd : sk_D} (hf : fX11_most S d p0 = some (rr, dd)) : sk_Met C l 8 yX11_most cX11_most 3 (some .int) [.ref p0] S d (some (.int rr)) S dd := by
  refine sk_Met.of (by decide) (Nat.le_of_ble_eq_true rfl) (Nat.le_refl _) (Nat.le_refl _) (fun X K0 hX => ?_)
  have K : sk_Ok X C cX11_most 3 RX11 "most" (some .int) 8 l (some (.int rr)) S dd := K0
  have R1 : X.2.2.2.2.2.2.2.2.2.2.2.1 ≤ S.1.1 ∧ X.2.2.2.2.2.2.2.2.2.2.2.2 ≤ S.1.2 := by rw [hX]; exact ⟨Nat.le_refl _, Nat.le_refl _⟩
  have R2 : S.1.1 ≤ S.1.1 ∧ S.1.2 ≤ S.1.2 := ⟨Nat.le_refl _, Nat.le_refl _⟩
  show sk_G X C 3 S d 0 [(0, .ref p0)] []
  unfold fX11_most at hf
  refine sk_aload_n K dX11_most_0 rfl 0 rfl ?_
  refine sk_iconst (0 : Int32) K dX11_most_1 (by decide) ?_
  obtain ⟨d1, e2, hf⟩ := sk_ob hf
  refine sk_putI d1 K dX11_most_2 fl_X11_1 rfl rfl rfl e2 ?_
  refine sk_aload_n K dX11_most_5 rfl 0 rfl ?_
  obtain ⟨h6, hf⟩ := sk_ib hf
  obtain ⟨d5, e4, hf⟩ := sk_ob hf
  refine sk_callV (As := []) (st := []) K dX11_most_6 cl_X11_365 h6 (sX11_laysStands C l e4) (by decide) rfl rfl (Nat.le_of_ble_eq_true rfl) R1 R2 ?_
  refine sk_iconst (0 : Int32) K dX11_most_9 (by decide) ?_
  refine sk_istore_n [(1, .int (0 : Int32)), (0, .ref p0)] K dX11_most_10 rfl (by decide) rfl ?_
  refine sk_iconst (0 : Int32) K dX11_most_11 (by decide) ?_
  refine sk_istore_n [(2, .int (0 : Int32)), (1, .int (0 : Int32)), (0, .ref p0)] K dX11_most_12 rfl (by decide) rfl ?_
  obtain ⟨x1, he1, hf⟩ := sk_ob hf
  have hret1 : ∀ r, r = x1 → r = (rr, dd) := by
    intro r hr
    subst hr
    exact Option.some.inj hf
  refine sk_sub [(0, .ref p0), (1, .int (0 : Int32)), (2, .int (0 : Int32))] [2, 1, 0] rfl ?_
  refine sk_loop (fun s1 => sk_G X C 3 S d5 13 [(0, .ref p0), (1, .int s1.1), (2, .int s1.2)] []) he1 (fun s1 o1 hf ih1 hx1 => ?_)
  unfold fX11_most_L13 at hf
  refine sk_iload_n K dX11_most_13 rfl 2 rfl ?_
  refine sk_aload_n K dX11_most_14 rfl 0 rfl ?_
  obtain ⟨v7, e8, hf⟩ := sk_ob hf
  refine sk_getI K dX11_most_15 fl_X11_355 rfl e8 ?_
  refine sk_icmp_ge 64 K dX11_most_18 (by decide) (fun h9 => ?_) (fun h9 => ?_)
  · rw [if_pos h9] at hf
    refine sk_iload_n K dX11_most_64 rfl 1 rfl ?_
    have hR10 : (s1.1, d5) = (rr, dd) := hret1 _ (hx1 _ (Option.some.inj hf).symm)
    exact sk_iret K dX11_most_65 rfl rfl (congrArg (fun z => z.1) hR10) rfl (congrArg (fun z => z.2) hR10)
  · rw [if_neg h9] at hf
    refine sk_aload_n K dX11_most_21 rfl 0 rfl ?_
    refine sk_aload_n K dX11_most_22 rfl 0 rfl ?_
    obtain ⟨v11, e12, hf⟩ := sk_ob hf
    refine sk_getR K dX11_most_23 fl_X11_40 rfl e12 ?_
    refine sk_iload_n K dX11_most_26 rfl 2 rfl ?_
    obtain ⟨v13, e14, hf⟩ := sk_ob hf
    refine sk_ald20 K dX11_most_27 e14 ?_
    refine sk_iconst (1 : Int32) K dX11_most_28 (by decide) ?_
    obtain ⟨h17, hf⟩ := sk_ib hf
    obtain ⟨v15, e16, hf⟩ := sk_ob hf
    refine sk_callV (As := [.int v13, .int (1 : Int32)]) (st := []) K dX11_most_29 cl_X11_218 h17 (sX11_thoseIn C l e16) (by decide) rfl rfl (Nat.le_of_ble_eq_true rfl) R1 R2 ?_
    obtain ⟨v18, e19, hf⟩ := sk_ob hf
    refine sk_callS (As := [.int v15]) (st := []) K dX11_most_32 cl_X11_235 (sX11_bitsOf C l e19) (by decide) rfl rfl (Nat.le_of_ble_eq_true rfl) R1 R2 ?_
    refine sk_iload_n K dX11_most_35 rfl 1 rfl ?_
    refine sk_icmp_le 56 K dX11_most_36 (by decide) (fun h20 => ?_) (fun h20 => ?_)
    · rw [if_pos h20] at hf
      refine sk_iload_n K dX11_most_56 rfl 1 rfl ?_
      refine sk_istore_n [(1, .int s1.1), (0, .ref p0), (2, .int s1.2)] K dX11_most_57 rfl (by decide) rfl ?_
      refine sk_iinc (s1.2 + 1) [(2, .int (s1.2 + 1)), (1, .int s1.1), (0, .ref p0)] K dX11_most_58 2 rfl rfl (by decide) rfl ?_
      refine sk_goto 13 K dX11_most_61 (by decide) ?_
      refine sk_sub [(0, .ref p0), (1, .int s1.1), (2, .int (s1.2 + 1))] [2, 1, 0] rfl ?_
      have h9 := ih1 _ (Option.some.inj hf).symm
      exact h9
    · rw [if_neg h20] at hf
      refine sk_aload_n K dX11_most_39 rfl 0 rfl ?_
      refine sk_aload_n K dX11_most_40 rfl 0 rfl ?_
      obtain ⟨v21, e22, hf⟩ := sk_ob hf
      refine sk_getR K dX11_most_41 fl_X11_40 rfl e22 ?_
      refine sk_iload_n K dX11_most_44 rfl 2 rfl ?_
      obtain ⟨v23, e24, hf⟩ := sk_ob hf
      refine sk_ald20 K dX11_most_45 e24 ?_
      refine sk_iconst (1 : Int32) K dX11_most_46 (by decide) ?_
      obtain ⟨h27, hf⟩ := sk_ib hf
      obtain ⟨v25, e26, hf⟩ := sk_ob hf
      refine sk_callV (As := [.int v23, .int (1 : Int32)]) (st := []) K dX11_most_47 cl_X11_218 h27 (sX11_thoseIn C l e26) (by decide) rfl rfl (Nat.le_of_ble_eq_true rfl) R1 R2 ?_
      obtain ⟨v28, e29, hf⟩ := sk_ob hf
      refine sk_callS (As := [.int v25]) (st := []) K dX11_most_50 cl_X11_235 (sX11_bitsOf C l e29) (by decide) rfl rfl (Nat.le_of_ble_eq_true rfl) R1 R2 ?_
      refine sk_goto 57 K dX11_most_53 (by decide) ?_
      refine sk_istore_n [(1, .int v28), (0, .ref p0), (2, .int s1.2)] K dX11_most_57 rfl (by decide) rfl ?_
      refine sk_iinc (s1.2 + 1) [(2, .int (s1.2 + 1)), (1, .int v28), (0, .ref p0)] K dX11_most_58 2 rfl rfl (by decide) rfl ?_
      refine sk_goto 13 K dX11_most_61 (by decide) ?_
      refine sk_sub [(0, .ref p0), (1, .int v28), (2, .int (s1.2 + 1))] [2, 1, 0] rfl ?_
      have h9 := ih1 _ (Option.some.inj hf).symm
      exact h9
noncomputable def fX11_stands (S : sk_S) (d : sk_D) (p0 : Nat) : Option (Int32 × sk_D) :=
  (sk_pI S d p0 10 0 (0 : Int32)).bind fun d1 => if S.2.1 p0 = (10, 0) then ((fX11_laysStands S d1 p0).bind fun d5 => (sk_gI S d5 p0 10 25).bind fun v7 => some (v7, d5)) else none
set_option maxRecDepth 100000 in
set_option maxHeartbeats 4000000 in
theorem sX11_stands (C : sk_C) (l : Launch) {S : sk_S} {d : sk_D} {p0 : Nat} {rr : Int32} {dd : sk_D} (hf : fX11_stands S d p0 = some (rr, dd)) : sk_Met C l 8 yX11_stands cX11_stands 1 (some .int) [.ref p0] S d (some (.int rr)) S dd := by
  refine sk_Met.of (by decide) (Nat.le_of_ble_eq_true rfl) (Nat.le_refl _) (Nat.le_refl _) (fun X K0 hX => ?_)
  have K : sk_Ok X C cX11_stands 1 RX11 "stands" (some .int) 8 l (some (.int rr)) S dd := K0
  have R1 : X.2.2.2.2.2.2.2.2.2.2.2.1 ≤ S.1.1 ∧ X.2.2.2.2.2.2.2.2.2.2.2.2 ≤ S.1.2 := by rw [hX]; exact ⟨Nat.le_refl _, Nat.le_refl _⟩
  have R2 : S.1.1 ≤ S.1.1 ∧ S.1.2 ≤ S.1.2 := ⟨Nat.le_refl _, Nat.le_refl _⟩
  show sk_G X C 1 S d 0 [(0, .ref p0)] []
  unfold fX11_stands at hf
  refine sk_aload_n K dX11_stands_0 rfl 0 rfl ?_
  refine sk_iconst (0 : Int32) K dX11_stands_1 (by decide) ?_
  obtain ⟨d1, e2, hf⟩ := sk_ob hf
  refine sk_putI d1 K dX11_stands_2 fl_X11_1 rfl rfl rfl e2 ?_
  refine sk_aload_n K dX11_stands_5 rfl 0 rfl ?_
  obtain ⟨h6, hf⟩ := sk_ib hf
  obtain ⟨d5, e4, hf⟩ := sk_ob hf
  refine sk_callV (As := []) (st := []) K dX11_stands_6 cl_X11_365 h6 (sX11_laysStands C l e4) (by decide) rfl rfl (Nat.le_of_ble_eq_true rfl) R1 R2 ?_
  refine sk_aload_n K dX11_stands_9 rfl 0 rfl ?_
  obtain ⟨v7, e8, hf⟩ := sk_ob hf
  refine sk_getI K dX11_stands_10 fl_X11_355 rfl e8 ?_
  have hR9 : (v7, d5) = (rr, dd) := Option.some.inj hf
  exact sk_iret K dX11_stands_13 rfl rfl (congrArg (fun z => z.1) hR9) rfl (congrArg (fun z => z.2) hR9)
noncomputable def fX11_gainOf_L15 (S : sk_S) (d : sk_D) (p0 : Nat) (p1 : Int32) (v4 : Int32) (s1 : Int32 × Int32) : Option ((Int32 × Int32) ⊕ (Int32)) :=
  (sk_gR S p0 10 1).bind fun v7 => (sk_lI S d v7 20 (1 : Int32)).bind fun v9 => if v9 ≤ s1.2 then ((sk_gR S p0 10 1).bind fun v12 => (sk_lI S d v12 20 ((26 : Int32) + p1)).bind fun v14 => some (.inr (v14 * s1.1))) else ((fX11_isIn S d v4.toInt64 s1.2).bind fun v17 => if v17 = true then ((sk_gR S p0 10 1).bind fun v20 => (sk_lI S d v20 20 ((42 : Int32) + s1.2)).bind fun v22 => some (.inl (s1.1 + v22, s1.2 + 1))) else (some (.inl (s1.1 + (0 : Int32), s1.2 + 1))))
noncomputable def fX11_gainOf (S : sk_S) (d : sk_D) (p0 : Nat) (p1 : Int32) : Option (Int32) :=
  if S.2.1 p0 = (10, 0) then ((fX11_standNow S d p0).bind fun v1 => if S.2.1 p0 = (10, 0) then ((fX11_backOf S d p0 v1 p1).bind fun v4 => (sk_itr (fX11_gainOf_L15 S d p0 p1 v4) ((0 : Int32), (0 : Int32))).bind fun x1 => some x1) else none) else none
set_option maxRecDepth 100000 in
set_option maxHeartbeats 4000000 in
theorem sX11_gainOf (C : sk_C) (l : Launch) {S : sk_S} {d : sk_D} {p0 : Nat} {p1 : Int32} {rr : Int32} (hf : fX11_gainOf S d p0 p1 = some rr) : sk_Met C l 3 yX11_gainOf cX11_gainOf 5 (some .int) [.ref p0, .int p1] S d (some (.int rr)) S d := by
  refine sk_Met.of (by decide) (Nat.le_of_ble_eq_true rfl) (Nat.le_refl _) (Nat.le_refl _) (fun X K0 hX => ?_)
  have K : sk_Ok X C cX11_gainOf 5 RX11 "gainOf" (some .int) 3 l (some (.int rr)) S d := K0
  have R1 : X.2.2.2.2.2.2.2.2.2.2.2.1 ≤ S.1.1 ∧ X.2.2.2.2.2.2.2.2.2.2.2.2 ≤ S.1.2 := by rw [hX]; exact ⟨Nat.le_refl _, Nat.le_refl _⟩
  have R2 : S.1.1 ≤ S.1.1 ∧ S.1.2 ≤ S.1.2 := ⟨Nat.le_refl _, Nat.le_refl _⟩
  show sk_G X C 5 S d 0 [(0, .ref p0), (1, .int p1)] []
  unfold fX11_gainOf at hf
  refine sk_aload_n K dX11_gainOf_0 rfl 0 rfl ?_
  refine sk_aload_n K dX11_gainOf_1 rfl 0 rfl ?_
  obtain ⟨h3, hf⟩ := sk_ib hf
  obtain ⟨v1, e2, hf⟩ := sk_ob hf
  refine sk_callV (As := []) (st := [.ref p0]) K dX11_gainOf_2 cl_X11_270 h3 (sX11_standNow C l e2) (by decide) rfl rfl (Nat.le_of_ble_eq_true rfl) R1 R2 ?_
  refine sk_iload_n K dX11_gainOf_5 rfl 1 rfl ?_
  obtain ⟨h6, hf⟩ := sk_ib hf
  obtain ⟨v4, e5, hf⟩ := sk_ob hf
  refine sk_callV (As := [.int v1, .int p1]) (st := []) K dX11_gainOf_6 cl_X11_263 h6 (sX11_backOf C l e5) (by decide) rfl rfl (Nat.le_of_ble_eq_true rfl) R1 R2 ?_
  refine sk_istore_n [(2, .int v4), (0, .ref p0), (1, .int p1)] K dX11_gainOf_9 rfl (by decide) rfl ?_
  refine sk_iconst (0 : Int32) K dX11_gainOf_10 (by decide) ?_
  refine sk_istore_n [(3, .int (0 : Int32)), (2, .int v4), (0, .ref p0), (1, .int p1)] K dX11_gainOf_11 rfl (by decide) rfl ?_
  refine sk_iconst (0 : Int32) K dX11_gainOf_12 (by decide) ?_
  refine sk_istore [(4, .int (0 : Int32)), (3, .int (0 : Int32)), (2, .int v4), (0, .ref p0), (1, .int p1)] K dX11_gainOf_13 (by decide) rfl ?_
  obtain ⟨x1, he1, hf⟩ := sk_ob hf
  have hret1 : ∀ r, r = x1 → r = rr := by
    intro r hr
    subst hr
    exact Option.some.inj hf
  refine sk_sub [(0, .ref p0), (1, .int p1), (2, .int v4), (3, .int (0 : Int32)), (4, .int (0 : Int32))] [3, 4, 2, 1, 0] rfl ?_
  refine sk_loop (fun s1 => sk_G X C 5 S d 15 [(0, .ref p0), (1, .int p1), (2, .int v4), (3, .int s1.1), (4, .int s1.2)] []) he1 (fun s1 o1 hf ih1 hx1 => ?_)
  unfold fX11_gainOf_L15 at hf
  refine sk_iload K dX11_gainOf_15 4 rfl ?_
  refine sk_aload_n K dX11_gainOf_17 rfl 0 rfl ?_
  obtain ⟨v7, e8, hf⟩ := sk_ob hf
  refine sk_getR K dX11_gainOf_18 fl_X11_13 rfl e8 ?_
  refine sk_iconst (1 : Int32) K dX11_gainOf_21 (by decide) ?_
  obtain ⟨v9, e10, hf⟩ := sk_ob hf
  refine sk_ald20 K dX11_gainOf_22 e10 ?_
  refine sk_icmp_ge 59 K dX11_gainOf_23 (by decide) (fun h11 => ?_) (fun h11 => ?_)
  · rw [if_pos h11] at hf
    refine sk_aload_n K dX11_gainOf_59 rfl 0 rfl ?_
    obtain ⟨v12, e13, hf⟩ := sk_ob hf
    refine sk_getR K dX11_gainOf_60 fl_X11_13 rfl e13 ?_
    refine sk_bipush (26 : Int32) K dX11_gainOf_63 (by decide) ?_
    refine sk_iload_n K dX11_gainOf_65 rfl 1 rfl ?_
    refine sk_iadd K dX11_gainOf_66 ?_
    obtain ⟨v14, e15, hf⟩ := sk_ob hf
    refine sk_ald20 K dX11_gainOf_67 e15 ?_
    refine sk_iload_n K dX11_gainOf_68 rfl 3 rfl ?_
    refine sk_imul K dX11_gainOf_69 ?_
    have hR16 : (v14 * s1.1) = rr := hret1 _ (hx1 _ (Option.some.inj hf).symm)
    exact sk_iret K dX11_gainOf_70 rfl rfl hR16 rfl rfl
  · rw [if_neg h11] at hf
    refine sk_iload_n K dX11_gainOf_26 rfl 3 rfl ?_
    refine sk_iload_n K dX11_gainOf_27 rfl 2 rfl ?_
    refine sk_i2l K dX11_gainOf_28 ?_
    refine sk_iload K dX11_gainOf_29 4 rfl ?_
    obtain ⟨v17, e18, hf⟩ := sk_ob hf
    refine sk_callS (As := [.long v4.toInt64, .int s1.2]) (st := [.int s1.1]) K dX11_gainOf_31 cl_X11_221 (sX11_isIn C l e18) (by decide) rfl rfl (Nat.le_of_ble_eq_true rfl) R1 R2 ?_
    refine sk_ifeqB 50 K dX11_gainOf_34 (by decide) (fun h19 => ?_) (fun h19 => ?_)
    · rw [if_neg h19] at hf
      refine sk_iconst (0 : Int32) K dX11_gainOf_50 (by decide) ?_
      refine sk_iadd K dX11_gainOf_51 ?_
      refine sk_istore_n [(3, .int (s1.1 + (0 : Int32))), (0, .ref p0), (1, .int p1), (2, .int v4), (4, .int s1.2)] K dX11_gainOf_52 rfl (by decide) rfl ?_
      refine sk_iinc (s1.2 + 1) [(4, .int (s1.2 + 1)), (3, .int (s1.1 + (0 : Int32))), (0, .ref p0), (1, .int p1), (2, .int v4)] K dX11_gainOf_53 4 rfl rfl (by decide) rfl ?_
      refine sk_goto 15 K dX11_gainOf_56 (by decide) ?_
      refine sk_sub [(0, .ref p0), (1, .int p1), (2, .int v4), (3, .int (s1.1 + (0 : Int32))), (4, .int (s1.2 + 1))] [2, 3, 4, 1, 0] rfl ?_
      have h9 := ih1 _ (Option.some.inj hf).symm
      exact h9
    · rw [if_pos h19] at hf
      refine sk_aload_n K dX11_gainOf_37 rfl 0 rfl ?_
      obtain ⟨v20, e21, hf⟩ := sk_ob hf
      refine sk_getR K dX11_gainOf_38 fl_X11_13 rfl e21 ?_
      refine sk_bipush (42 : Int32) K dX11_gainOf_41 (by decide) ?_
      refine sk_iload K dX11_gainOf_43 4 rfl ?_
      refine sk_iadd K dX11_gainOf_45 ?_
      obtain ⟨v22, e23, hf⟩ := sk_ob hf
      refine sk_ald20 K dX11_gainOf_46 e23 ?_
      refine sk_goto 51 K dX11_gainOf_47 (by decide) ?_
      refine sk_iadd K dX11_gainOf_51 ?_
      refine sk_istore_n [(3, .int (s1.1 + v22)), (0, .ref p0), (1, .int p1), (2, .int v4), (4, .int s1.2)] K dX11_gainOf_52 rfl (by decide) rfl ?_
      refine sk_iinc (s1.2 + 1) [(4, .int (s1.2 + 1)), (3, .int (s1.1 + v22)), (0, .ref p0), (1, .int p1), (2, .int v4)] K dX11_gainOf_53 4 rfl rfl (by decide) rfl ?_
      refine sk_goto 15 K dX11_gainOf_56 (by decide) ?_
      refine sk_sub [(0, .ref p0), (1, .int p1), (2, .int v4), (3, .int (s1.1 + v22)), (4, .int (s1.2 + 1))] [2, 3, 4, 1, 0] rfl ?_
      have h9 := ih1 _ (Option.some.inj hf).symm
      exact h9
noncomputable def fX11_gain (S : sk_S) (d : sk_D) (p0 : Nat) (p1 : Int32) : Option (Int32 × sk_D) :=
  (sk_pI S d p0 10 0 (0 : Int32)).bind fun d1 => if S.2.1 p0 = (10, 0) then ((fX11_isDoing S d1 p0 p1.toInt64).bind fun v3 => if v3 = true then (if S.2.1 p0 = (10, 0) then ((fX11_standNow S d1 p0).bind fun v7 => (fX11_isDone S d1 v7 p1).bind fun v10 => if v10 = true then (if S.2.1 p0 = (10, 0) then ((fX11_gainOf S d1 p0 p1).bind fun v14 => some (v14, d1)) else none) else (some ((-5 : Int32), d1))) else none) else (some ((-2 : Int32), d1))) else none
set_option maxRecDepth 100000 in
set_option maxHeartbeats 4000000 in
theorem sX11_gain (C : sk_C) (l : Launch) {S : sk_S} {d : sk_D} {p0 : Nat} {p1 : Int32} {rr : Int32} {dd : sk_D} (hf : fX11_gain S d p0 p1 = some (rr, dd)) : sk_Met C l 4 yX11_gain cX11_gain 2 (some .int) [.ref p0, .int p1] S d (some (.int rr)) S dd := by
  refine sk_Met.of (by decide) (Nat.le_of_ble_eq_true rfl) (Nat.le_refl _) (Nat.le_refl _) (fun X K0 hX => ?_)
  have K : sk_Ok X C cX11_gain 2 RX11 "gain" (some .int) 4 l (some (.int rr)) S dd := K0
  have R1 : X.2.2.2.2.2.2.2.2.2.2.2.1 ≤ S.1.1 ∧ X.2.2.2.2.2.2.2.2.2.2.2.2 ≤ S.1.2 := by rw [hX]; exact ⟨Nat.le_refl _, Nat.le_refl _⟩
  have R2 : S.1.1 ≤ S.1.1 ∧ S.1.2 ≤ S.1.2 := ⟨Nat.le_refl _, Nat.le_refl _⟩
  show sk_G X C 2 S d 0 [(0, .ref p0), (1, .int p1)] []
  unfold fX11_gain at hf
  refine sk_aload_n K dX11_gain_0 rfl 0 rfl ?_
  refine sk_iconst (0 : Int32) K dX11_gain_1 (by decide) ?_
  obtain ⟨d1, e2, hf⟩ := sk_ob hf
  refine sk_putI d1 K dX11_gain_2 fl_X11_1 rfl rfl rfl e2 ?_
  refine sk_aload_n K dX11_gain_5 rfl 0 rfl ?_
  refine sk_iload_n K dX11_gain_6 rfl 1 rfl ?_
  refine sk_i2l K dX11_gain_7 ?_
  obtain ⟨h5, hf⟩ := sk_ib hf
  obtain ⟨v3, e4, hf⟩ := sk_ob hf
  refine sk_callV (As := [.long p1.toInt64]) (st := []) K dX11_gain_8 cl_X11_266 h5 (sX11_isDoing C l e4) (by decide) rfl rfl (Nat.le_of_ble_eq_true rfl) R1 R2 ?_
  refine sk_ifneB 17 K dX11_gain_11 (by decide) (fun h6 => ?_) (fun h6 => ?_)
  · rw [if_pos h6] at hf
    refine sk_aload_n K dX11_gain_17 rfl 0 rfl ?_
    obtain ⟨h9, hf⟩ := sk_ib hf
    obtain ⟨v7, e8, hf⟩ := sk_ob hf
    refine sk_callV (As := []) (st := []) K dX11_gain_18 cl_X11_270 h9 (sX11_standNow C l e8) (by decide) rfl rfl (Nat.le_of_ble_eq_true rfl) R1 R2 ?_
    refine sk_iload_n K dX11_gain_21 rfl 1 rfl ?_
    obtain ⟨v10, e11, hf⟩ := sk_ob hf
    refine sk_callS (As := [.int v7, .int p1]) (st := []) K dX11_gain_22 cl_X11_255 (sX11_isDone C l e11) (by decide) rfl rfl (Nat.le_of_ble_eq_true rfl) R1 R2 ?_
    refine sk_ifeqB 36 K dX11_gain_25 (by decide) (fun h12 => ?_) (fun h12 => ?_)
    · rw [if_neg h12] at hf
      refine sk_bipush (-5 : Int32) K dX11_gain_36 (by decide) ?_
      have hR13 : ((-5 : Int32), d1) = (rr, dd) := Option.some.inj hf
      exact sk_iret K dX11_gain_38 rfl rfl (congrArg (fun z => z.1) hR13) rfl (congrArg (fun z => z.2) hR13)
    · rw [if_pos h12] at hf
      refine sk_aload_n K dX11_gain_28 rfl 0 rfl ?_
      refine sk_iload_n K dX11_gain_29 rfl 1 rfl ?_
      obtain ⟨h16, hf⟩ := sk_ib hf
      obtain ⟨v14, e15, hf⟩ := sk_ob hf
      refine sk_callV (As := [.int p1]) (st := []) K dX11_gain_30 cl_X11_402 h16 (sX11_gainOf C l e15) (by decide) rfl rfl (Nat.le_of_ble_eq_true rfl) R1 R2 ?_
      refine sk_goto 38 K dX11_gain_33 (by decide) ?_
      have hR17 : (v14, d1) = (rr, dd) := Option.some.inj hf
      exact sk_iret K dX11_gain_38 rfl rfl (congrArg (fun z => z.1) hR17) rfl (congrArg (fun z => z.2) hR17)
  · rw [if_neg h6] at hf
    refine sk_bipush (-2 : Int32) K dX11_gain_14 (by decide) ?_
    have hR18 : ((-2 : Int32), d1) = (rr, dd) := Option.some.inj hf
    exact sk_iret K dX11_gain_16 rfl rfl (congrArg (fun z => z.1) hR18) rfl (congrArg (fun z => z.2) hR18)
noncomputable def fX11_pack_L81 (S : sk_S) (p0 : Nat) (d1 : sk_D) (t1_a : Int32) (s2 : Int32 × Int32) : Option ((Int32 × Int32) ⊕ (Int32)) :=
  (sk_gR S p0 10 1).bind fun v30 => (sk_lI S d1 v30 20 (1 : Int32)).bind fun v32 => if v32 ≤ s2.2 then (some (.inr s2.1)) else ((fX11_isIn S d1 t1_a.toInt64 s2.2).bind fun v35 => if v35 = true then (if S.2.1 p0 = (10, 0) then ((fX11_gainOf S d1 p0 s2.2).bind fun v38 => some (.inl (s2.1 + v38, s2.2 + 1))) else none) else (some (.inl (s2.1 + (0 : Int32), s2.2 + 1))))
noncomputable def fX11_pack_L35 (S : sk_S) (p0 : Nat) (p1 : Int32) (d1 : sk_D) (v9 : Int32) (s1 : Int32 × Int32 × Int32) : Option ((Int32 × Int32 × Int32) ⊕ (Int32 × sk_D)) :=
  (sk_gR S p0 10 1).bind fun v12 => (sk_lI S d1 v12 20 (1 : Int32)).bind fun v14 => if ((1 : Int32) <<< (v14 &&& 31)) ≤ s1.2.2 then (if p1 = 0 then (some (.inr (s1.2.1, d1))) else (some (.inr (s1.1, d1)))) else (if (s1.2.2 &&& (v9 ^^^ (-1 : Int32))) = 0 then (if S.2.1 p0 = (10, 0) then ((fX11_sizesOf S d1 p0 s1.2.2).bind fun v21 => (sk_gR S p0 10 1).bind fun v24 => (sk_lI S d1 v24 20 (3 : Int32)).bind fun v26 => if v21 ≤ v26 then ((sk_itr (fX11_pack_L81 S p0 d1 s1.2.2) ((0 : Int32), (0 : Int32))).bind fun y2 => if s1.2.1 < y2 then (some (.inl (s1.2.2, y2, s1.2.2 + 1))) else (some (.inl (s1.1, s1.2.1, s1.2.2 + 1)))) else (some (.inl (s1.1, s1.2.1, s1.2.2 + 1)))) else none) else (some (.inl (s1.1, s1.2.1, s1.2.2 + 1))))
noncomputable def fX11_pack (S : sk_S) (d : sk_D) (p0 : Nat) (p1 : Int32) : Option (Int32 × sk_D) :=
  (sk_pI S d p0 10 0 (0 : Int32)).bind fun d1 => (fX11_within S d1 p1.toInt64 (0 : Int64) (1 : Int64)).bind fun v3 => if v3 = true then (if S.2.1 p0 = (10, 0) then ((fX11_standNow S d1 p0).bind fun v6 => if S.2.1 p0 = (10, 0) then ((fX11_doneIn S d1 p0 v6).bind fun v9 => (sk_itr (fX11_pack_L35 S p0 p1 d1 v9) ((0 : Int32), (0 : Int32), (1 : Int32))).bind fun x1 => some x1) else none) else none) else (some ((-2 : Int32), d1))
set_option maxRecDepth 100000 in
set_option maxHeartbeats 4000000 in
theorem sX11_pack (C : sk_C) (l : Launch) {S : sk_S} {d : sk_D} {p0 : Nat} {p1 : Int32} {rr : Int32} {dd : sk_D} (hf : fX11_pack S d p0 p1 = some (rr, dd)) : sk_Met C l 4 yX11_pack cX11_pack 8 (some .int) [.ref p0, .int p1] S d (some (.int rr)) S dd := by
  refine sk_Met.of (by decide) (Nat.le_of_ble_eq_true rfl) (Nat.le_refl _) (Nat.le_refl _) (fun X K0 hX => ?_)
  have K : sk_Ok X C cX11_pack 8 RX11 "pack" (some .int) 4 l (some (.int rr)) S dd := K0
  have R1 : X.2.2.2.2.2.2.2.2.2.2.2.1 ≤ S.1.1 ∧ X.2.2.2.2.2.2.2.2.2.2.2.2 ≤ S.1.2 := by rw [hX]; exact ⟨Nat.le_refl _, Nat.le_refl _⟩
  have R2 : S.1.1 ≤ S.1.1 ∧ S.1.2 ≤ S.1.2 := ⟨Nat.le_refl _, Nat.le_refl _⟩
  show sk_G X C 8 S d 0 [(0, .ref p0), (1, .int p1)] []
  unfold fX11_pack at hf
  refine sk_aload_n K dX11_pack_0 rfl 0 rfl ?_
  refine sk_iconst (0 : Int32) K dX11_pack_1 (by decide) ?_
  obtain ⟨d1, e2, hf⟩ := sk_ob hf
  refine sk_putI d1 K dX11_pack_2 fl_X11_1 rfl rfl rfl e2 ?_
  refine sk_iload_n K dX11_pack_5 rfl 1 rfl ?_
  refine sk_i2l K dX11_pack_6 ?_
  refine sk_lconst (0 : Int64) K dX11_pack_7 (by decide) ?_
  refine sk_lconst (1 : Int64) K dX11_pack_8 (by decide) ?_
  obtain ⟨v3, e4, hf⟩ := sk_ob hf
  refine sk_callS (As := [.long p1.toInt64, .long (0 : Int64), .long (1 : Int64)]) (st := []) K dX11_pack_9 cl_X11_150 (sX11_within C l e4) (by decide) rfl rfl (Nat.le_of_ble_eq_true rfl) R1 R2 ?_
  refine sk_ifneB 18 K dX11_pack_12 (by decide) (fun h5 => ?_) (fun h5 => ?_)
  · rw [if_pos h5] at hf
    refine sk_aload_n K dX11_pack_18 rfl 0 rfl ?_
    refine sk_aload_n K dX11_pack_19 rfl 0 rfl ?_
    obtain ⟨h8, hf⟩ := sk_ib hf
    obtain ⟨v6, e7, hf⟩ := sk_ob hf
    refine sk_callV (As := []) (st := [.ref p0]) K dX11_pack_20 cl_X11_270 h8 (sX11_standNow C l e7) (by decide) rfl rfl (Nat.le_of_ble_eq_true rfl) R1 R2 ?_
    obtain ⟨h11, hf⟩ := sk_ib hf
    obtain ⟨v9, e10, hf⟩ := sk_ob hf
    refine sk_callV (As := [.int v6]) (st := []) K dX11_pack_23 cl_X11_245 h11 (sX11_doneIn C l e10) (by decide) rfl rfl (Nat.le_of_ble_eq_true rfl) R1 R2 ?_
    refine sk_istore_n [(2, .int v9), (0, .ref p0), (1, .int p1)] K dX11_pack_26 rfl (by decide) rfl ?_
    refine sk_iconst (0 : Int32) K dX11_pack_27 (by decide) ?_
    refine sk_istore_n [(3, .int (0 : Int32)), (2, .int v9), (0, .ref p0), (1, .int p1)] K dX11_pack_28 rfl (by decide) rfl ?_
    refine sk_iconst (0 : Int32) K dX11_pack_29 (by decide) ?_
    refine sk_istore [(4, .int (0 : Int32)), (3, .int (0 : Int32)), (2, .int v9), (0, .ref p0), (1, .int p1)] K dX11_pack_30 (by decide) rfl ?_
    refine sk_iconst (1 : Int32) K dX11_pack_32 (by decide) ?_
    refine sk_istore [(5, .int (1 : Int32)), (4, .int (0 : Int32)), (3, .int (0 : Int32)), (2, .int v9), (0, .ref p0), (1, .int p1)] K dX11_pack_33 (by decide) rfl ?_
    obtain ⟨x1, he1, hf⟩ := sk_ob hf
    have hret1 : ∀ r, r = x1 → r = (rr, dd) := by
      intro r hr
      subst hr
      exact Option.some.inj hf
    refine sk_sub [(0, .ref p0), (1, .int p1), (2, .int v9), (3, .int (0 : Int32)), (4, .int (0 : Int32)), (5, .int (1 : Int32))] [4, 5, 3, 2, 1, 0] rfl ?_
    refine sk_loop (fun s1 => sk_G X C 8 S d1 35 [(0, .ref p0), (1, .int p1), (2, .int v9), (3, .int s1.1), (4, .int s1.2.1), (5, .int s1.2.2)] []) he1 (fun s1 o1 hf ih1 hx1 => ?_)
    unfold fX11_pack_L35 at hf
    refine sk_iload K dX11_pack_35 5 rfl ?_
    refine sk_iconst (1 : Int32) K dX11_pack_37 (by decide) ?_
    refine sk_aload_n K dX11_pack_38 rfl 0 rfl ?_
    obtain ⟨v12, e13, hf⟩ := sk_ob hf
    refine sk_getR K dX11_pack_39 fl_X11_13 rfl e13 ?_
    refine sk_iconst (1 : Int32) K dX11_pack_42 (by decide) ?_
    obtain ⟨v14, e15, hf⟩ := sk_ob hf
    refine sk_ald20 K dX11_pack_43 e15 ?_
    refine sk_ishl K dX11_pack_44 ?_
    refine sk_icmp_ge 147 K dX11_pack_45 (by decide) (fun h16 => ?_) (fun h16 => ?_)
    · rw [if_pos h16] at hf
      refine sk_iload_n K dX11_pack_147 rfl 1 rfl ?_
      refine sk_if_ne 156 K dX11_pack_148 (by decide) (fun h17 => ?_) (fun h17 => ?_)
      · rw [if_neg h17] at hf
        refine sk_iload_n K dX11_pack_156 rfl 3 rfl ?_
        have hR18 : (s1.1, d1) = (rr, dd) := hret1 _ (hx1 _ (Option.some.inj hf).symm)
        exact sk_iret K dX11_pack_157 rfl rfl (congrArg (fun z => z.1) hR18) rfl (congrArg (fun z => z.2) hR18)
      · rw [if_pos h17] at hf
        refine sk_iload K dX11_pack_151 4 rfl ?_
        refine sk_goto 157 K dX11_pack_153 (by decide) ?_
        have hR19 : (s1.2.1, d1) = (rr, dd) := hret1 _ (hx1 _ (Option.some.inj hf).symm)
        exact sk_iret K dX11_pack_157 rfl rfl (congrArg (fun z => z.1) hR19) rfl (congrArg (fun z => z.2) hR19)
    · rw [if_neg h16] at hf
      refine sk_iload K dX11_pack_48 5 rfl ?_
      refine sk_iload_n K dX11_pack_50 rfl 2 rfl ?_
      refine sk_iconst (-1 : Int32) K dX11_pack_51 (by decide) ?_
      refine sk_ixor K dX11_pack_52 ?_
      refine sk_iand K dX11_pack_53 ?_
      refine sk_if_ne 141 K dX11_pack_54 (by decide) (fun h20 => ?_) (fun h20 => ?_)
      · rw [if_neg h20] at hf
        refine sk_iinc (s1.2.2 + 1) [(5, .int (s1.2.2 + 1)), (0, .ref p0), (1, .int p1), (2, .int v9), (3, .int s1.1), (4, .int s1.2.1)] K dX11_pack_141 5 rfl rfl (by decide) rfl ?_
        refine sk_goto 35 K dX11_pack_144 (by decide) ?_
        refine sk_sub [(0, .ref p0), (1, .int p1), (2, .int v9), (3, .int s1.1), (4, .int s1.2.1), (5, .int (s1.2.2 + 1))] [1, 2, 3, 4, 5, 0] rfl ?_
        have h9 := ih1 _ (Option.some.inj hf).symm
        exact h9
      · rw [if_pos h20] at hf
        refine sk_aload_n K dX11_pack_57 rfl 0 rfl ?_
        refine sk_iload K dX11_pack_58 5 rfl ?_
        obtain ⟨h23, hf⟩ := sk_ib hf
        obtain ⟨v21, e22, hf⟩ := sk_ob hf
        refine sk_callV (As := [.int s1.2.2]) (st := []) K dX11_pack_60 cl_X11_228 h23 (sX11_sizesOf C l e22) (by decide) rfl rfl (Nat.le_of_ble_eq_true rfl) R1 R2 ?_
        refine sk_aload_n K dX11_pack_63 rfl 0 rfl ?_
        obtain ⟨v24, e25, hf⟩ := sk_ob hf
        refine sk_getR K dX11_pack_64 fl_X11_13 rfl e25 ?_
        refine sk_iconst (3 : Int32) K dX11_pack_67 (by decide) ?_
        obtain ⟨v26, e27, hf⟩ := sk_ob hf
        refine sk_ald20 K dX11_pack_68 e27 ?_
        refine sk_icmp_le 75 K dX11_pack_69 (by decide) (fun h28 => ?_) (fun h28 => ?_)
        · rw [if_pos h28] at hf
          refine sk_iconst (0 : Int32) K dX11_pack_75 (by decide) ?_
          refine sk_istore [(6, .int (0 : Int32)), (0, .ref p0), (1, .int p1), (2, .int v9), (3, .int s1.1), (4, .int s1.2.1), (5, .int s1.2.2)] K dX11_pack_76 (by decide) rfl ?_
          refine sk_iconst (0 : Int32) K dX11_pack_78 (by decide) ?_
          refine sk_istore [(7, .int (0 : Int32)), (6, .int (0 : Int32)), (0, .ref p0), (1, .int p1), (2, .int v9), (3, .int s1.1), (4, .int s1.2.1), (5, .int s1.2.2)] K dX11_pack_79 (by decide) rfl ?_
          obtain ⟨x2, he2, hf⟩ := sk_ob hf
          have rest2 : ∀ y2, y2 = x2 → sk_G X C 8 S d1 124 [(0, .ref p0), (1, .int p1), (2, .int v9), (3, .int s1.1), (4, .int s1.2.1), (5, .int s1.2.2), (6, .int y2)] [] := by
            intro y2 hy
            subst hy
            refine sk_iload K dX11_pack_124 6 rfl ?_
            refine sk_iload K dX11_pack_126 4 rfl ?_
            refine sk_icmp_gt 134 K dX11_pack_128 (by decide) (fun h29 => ?_) (fun h29 => ?_)
            · rw [if_pos h29] at hf
              refine sk_iload K dX11_pack_134 5 rfl ?_
              refine sk_istore_n [(3, .int s1.2.2), (0, .ref p0), (1, .int p1), (2, .int v9), (4, .int s1.2.1), (5, .int s1.2.2), (6, .int y2)] K dX11_pack_136 rfl (by decide) rfl ?_
              refine sk_iload K dX11_pack_137 6 rfl ?_
              refine sk_istore [(4, .int y2), (3, .int s1.2.2), (0, .ref p0), (1, .int p1), (2, .int v9), (5, .int s1.2.2), (6, .int y2)] K dX11_pack_139 (by decide) rfl ?_
              refine sk_iinc (s1.2.2 + 1) [(5, .int (s1.2.2 + 1)), (4, .int y2), (3, .int s1.2.2), (0, .ref p0), (1, .int p1), (2, .int v9), (6, .int y2)] K dX11_pack_141 5 rfl rfl (by decide) rfl ?_
              refine sk_goto 35 K dX11_pack_144 (by decide) ?_
              refine sk_sub [(0, .ref p0), (1, .int p1), (2, .int v9), (3, .int s1.2.2), (4, .int y2), (5, .int (s1.2.2 + 1))] [3, 4, 5, 2, 1, 0] rfl ?_
              have h9 := ih1 _ (Option.some.inj hf).symm
              exact h9
            · rw [if_neg h29] at hf
              refine sk_goto 141 K dX11_pack_131 (by decide) ?_
              refine sk_iinc (s1.2.2 + 1) [(5, .int (s1.2.2 + 1)), (0, .ref p0), (1, .int p1), (2, .int v9), (3, .int s1.1), (4, .int s1.2.1), (6, .int y2)] K dX11_pack_141 5 rfl rfl (by decide) rfl ?_
              refine sk_goto 35 K dX11_pack_144 (by decide) ?_
              refine sk_sub [(0, .ref p0), (1, .int p1), (2, .int v9), (3, .int s1.1), (4, .int s1.2.1), (5, .int (s1.2.2 + 1))] [1, 2, 3, 4, 5, 0] rfl ?_
              have h9 := ih1 _ (Option.some.inj hf).symm
              exact h9
          refine sk_sub [(0, .ref p0), (1, .int p1), (2, .int v9), (3, .int s1.1), (4, .int s1.2.1), (5, .int s1.2.2), (6, .int (0 : Int32)), (7, .int (0 : Int32))] [2, 3, 4, 5, 6, 7, 1, 0] rfl ?_
          refine sk_loop (fun s2 => sk_G X C 8 S d1 81 [(0, .ref p0), (1, .int p1), (2, .int v9), (3, .int s1.1), (4, .int s1.2.1), (5, .int s1.2.2), (6, .int s2.1), (7, .int s2.2)] []) he2 (fun s2 o2 hf ih2 hx2 => ?_)
          unfold fX11_pack_L81 at hf
          refine sk_iload K dX11_pack_81 7 rfl ?_
          refine sk_aload_n K dX11_pack_83 rfl 0 rfl ?_
          obtain ⟨v30, e31, hf⟩ := sk_ob hf
          refine sk_getR K dX11_pack_84 fl_X11_13 rfl e31 ?_
          refine sk_iconst (1 : Int32) K dX11_pack_87 (by decide) ?_
          obtain ⟨v32, e33, hf⟩ := sk_ob hf
          refine sk_ald20 K dX11_pack_88 e33 ?_
          refine sk_icmp_ge 124 K dX11_pack_89 (by decide) (fun h34 => ?_) (fun h34 => ?_)
          · rw [if_pos h34] at hf
            refine sk_sub [(0, .ref p0), (1, .int p1), (2, .int v9), (3, .int s1.1), (4, .int s1.2.1), (5, .int s1.2.2), (6, .int s2.1)] [0, 1, 2, 3, 4, 5, 6] rfl ?_
            have h9 := rest2 _ (hx2 _ (Option.some.inj hf).symm)
            exact h9
          · rw [if_neg h34] at hf
            refine sk_iload K dX11_pack_92 6 rfl ?_
            refine sk_iload K dX11_pack_94 5 rfl ?_
            refine sk_i2l K dX11_pack_96 ?_
            refine sk_iload K dX11_pack_97 7 rfl ?_
            obtain ⟨v35, e36, hf⟩ := sk_ob hf
            refine sk_callS (As := [.long s1.2.2.toInt64, .int s2.2]) (st := [.int s2.1]) K dX11_pack_99 cl_X11_221 (sX11_isIn C l e36) (by decide) rfl rfl (Nat.le_of_ble_eq_true rfl) R1 R2 ?_
            refine sk_ifeqB 114 K dX11_pack_102 (by decide) (fun h37 => ?_) (fun h37 => ?_)
            · rw [if_neg h37] at hf
              refine sk_iconst (0 : Int32) K dX11_pack_114 (by decide) ?_
              refine sk_iadd K dX11_pack_115 ?_
              refine sk_istore [(6, .int (s2.1 + (0 : Int32))), (0, .ref p0), (1, .int p1), (2, .int v9), (3, .int s1.1), (4, .int s1.2.1), (5, .int s1.2.2), (7, .int s2.2)] K dX11_pack_116 (by decide) rfl ?_
              refine sk_iinc (s2.2 + 1) [(7, .int (s2.2 + 1)), (6, .int (s2.1 + (0 : Int32))), (0, .ref p0), (1, .int p1), (2, .int v9), (3, .int s1.1), (4, .int s1.2.1), (5, .int s1.2.2)] K dX11_pack_118 7 rfl rfl (by decide) rfl ?_
              refine sk_goto 81 K dX11_pack_121 (by decide) ?_
              refine sk_sub [(0, .ref p0), (1, .int p1), (2, .int v9), (3, .int s1.1), (4, .int s1.2.1), (5, .int s1.2.2), (6, .int (s2.1 + (0 : Int32))), (7, .int (s2.2 + 1))] [2, 3, 4, 5, 6, 7, 1, 0] rfl ?_
              have h9 := ih2 _ (Option.some.inj hf).symm
              exact h9
            · rw [if_pos h37] at hf
              refine sk_aload_n K dX11_pack_105 rfl 0 rfl ?_
              refine sk_iload K dX11_pack_106 7 rfl ?_
              obtain ⟨h40, hf⟩ := sk_ib hf
              obtain ⟨v38, e39, hf⟩ := sk_ob hf
              refine sk_callV (As := [.int s2.2]) (st := [.int s2.1]) K dX11_pack_108 cl_X11_402 h40 (sX11_gainOf C l e39) (by decide) rfl rfl (Nat.le_of_ble_eq_true rfl) R1 R2 ?_
              refine sk_goto 115 K dX11_pack_111 (by decide) ?_
              refine sk_iadd K dX11_pack_115 ?_
              refine sk_istore [(6, .int (s2.1 + v38)), (0, .ref p0), (1, .int p1), (2, .int v9), (3, .int s1.1), (4, .int s1.2.1), (5, .int s1.2.2), (7, .int s2.2)] K dX11_pack_116 (by decide) rfl ?_
              refine sk_iinc (s2.2 + 1) [(7, .int (s2.2 + 1)), (6, .int (s2.1 + v38)), (0, .ref p0), (1, .int p1), (2, .int v9), (3, .int s1.1), (4, .int s1.2.1), (5, .int s1.2.2)] K dX11_pack_118 7 rfl rfl (by decide) rfl ?_
              refine sk_goto 81 K dX11_pack_121 (by decide) ?_
              refine sk_sub [(0, .ref p0), (1, .int p1), (2, .int v9), (3, .int s1.1), (4, .int s1.2.1), (5, .int s1.2.2), (6, .int (s2.1 + v38)), (7, .int (s2.2 + 1))] [2, 3, 4, 5, 6, 7, 1, 0] rfl ?_
              have h9 := ih2 _ (Option.some.inj hf).symm
              exact h9
        · rw [if_neg h28] at hf
          refine sk_goto 141 K dX11_pack_72 (by decide) ?_
          refine sk_iinc (s1.2.2 + 1) [(5, .int (s1.2.2 + 1)), (0, .ref p0), (1, .int p1), (2, .int v9), (3, .int s1.1), (4, .int s1.2.1)] K dX11_pack_141 5 rfl rfl (by decide) rfl ?_
          refine sk_goto 35 K dX11_pack_144 (by decide) ?_
          refine sk_sub [(0, .ref p0), (1, .int p1), (2, .int v9), (3, .int s1.1), (4, .int s1.2.1), (5, .int (s1.2.2 + 1))] [1, 2, 3, 4, 5, 0] rfl ?_
          have h9 := ih1 _ (Option.some.inj hf).symm
          exact h9
  · rw [if_neg h5] at hf
    refine sk_bipush (-2 : Int32) K dX11_pack_15 (by decide) ?_
    have hR41 : ((-2 : Int32), d1) = (rr, dd) := Option.some.inj hf
    exact sk_iret K dX11_pack_17 rfl rfl (congrArg (fun z => z.1) hR41) rfl (congrArg (fun z => z.2) hR41)
noncomputable def fX11_isDoneOne (S : sk_S) (d : sk_D) (p0 : Nat) (p1 : Int64) : Option (Bool) :=
  if S.2.1 p0 = (10, 0) then ((fX11_isDoing S d p0 p1).bind fun v1 => if v1 = true then (if S.2.1 p0 = (10, 0) then ((fX11_standNow S d p0).bind fun v6 => (fX11_isDone S d v6 p1.toInt32).bind fun v9 => if v9 = true then (some true) else (some false)) else none) else (some false)) else none
set_option maxRecDepth 100000 in
set_option maxHeartbeats 4000000 in
theorem sX11_isDoneOne (C : sk_C) (l : Launch) {S : sk_S} {d : sk_D} {p0 : Nat} {p1 : Int64} {rr : Bool} (hf : fX11_isDoneOne S d p0 p1 = some rr) : sk_Met C l 2 yX11_isDoneOne cX11_isDoneOne 3 (some .boolean) [.ref p0, .long p1] S d (some (.int (sk_b rr))) S d := by
  refine sk_Met.of (by decide) (Nat.le_of_ble_eq_true rfl) (Nat.le_refl _) (Nat.le_refl _) (fun X K0 hX => ?_)
  have K : sk_Ok X C cX11_isDoneOne 3 RX11 "isDoneOne" (some .boolean) 2 l (some (.int (sk_b rr))) S d := K0
  have R1 : X.2.2.2.2.2.2.2.2.2.2.2.1 ≤ S.1.1 ∧ X.2.2.2.2.2.2.2.2.2.2.2.2 ≤ S.1.2 := by rw [hX]; exact ⟨Nat.le_refl _, Nat.le_refl _⟩
  have R2 : S.1.1 ≤ S.1.1 ∧ S.1.2 ≤ S.1.2 := ⟨Nat.le_refl _, Nat.le_refl _⟩
  show sk_G X C 3 S d 0 [(0, .ref p0), (1, .long p1)] []
  unfold fX11_isDoneOne at hf
  refine sk_aload_n K dX11_isDoneOne_0 rfl 0 rfl ?_
  refine sk_lload_n K dX11_isDoneOne_1 rfl 1 rfl ?_
  obtain ⟨h3, hf⟩ := sk_ib hf
  obtain ⟨v1, e2, hf⟩ := sk_ob hf
  refine sk_callV (As := [.long p1]) (st := []) K dX11_isDoneOne_2 cl_X11_266 h3 (sX11_isDoing C l e2) (by decide) rfl rfl (Nat.le_of_ble_eq_true rfl) R1 R2 ?_
  refine sk_ifeqB 24 K dX11_isDoneOne_5 (by decide) (fun h4 => ?_) (fun h4 => ?_)
  · rw [if_neg h4] at hf
    refine sk_iconst (0 : Int32) K dX11_isDoneOne_24 (by decide) ?_
    have hR5 : false = rr := Option.some.inj hf
    exact sk_zret (x := false) K dX11_isDoneOne_25 rfl rfl hR5 rfl rfl
  · rw [if_pos h4] at hf
    refine sk_aload_n K dX11_isDoneOne_8 rfl 0 rfl ?_
    obtain ⟨h8, hf⟩ := sk_ib hf
    obtain ⟨v6, e7, hf⟩ := sk_ob hf
    refine sk_callV (As := []) (st := []) K dX11_isDoneOne_9 cl_X11_270 h8 (sX11_standNow C l e7) (by decide) rfl rfl (Nat.le_of_ble_eq_true rfl) R1 R2 ?_
    refine sk_lload_n K dX11_isDoneOne_12 rfl 1 rfl ?_
    refine sk_l2i K dX11_isDoneOne_13 ?_
    obtain ⟨v9, e10, hf⟩ := sk_ob hf
    refine sk_callS (As := [.int v6, .int p1.toInt32]) (st := []) K dX11_isDoneOne_14 cl_X11_255 (sX11_isDone C l e10) (by decide) rfl rfl (Nat.le_of_ble_eq_true rfl) R1 R2 ?_
    refine sk_ifeqB 24 K dX11_isDoneOne_17 (by decide) (fun h11 => ?_) (fun h11 => ?_)
    · rw [if_neg h11] at hf
      refine sk_iconst (0 : Int32) K dX11_isDoneOne_24 (by decide) ?_
      have hR12 : false = rr := Option.some.inj hf
      exact sk_zret (x := false) K dX11_isDoneOne_25 rfl rfl hR12 rfl rfl
    · rw [if_pos h11] at hf
      refine sk_iconst (1 : Int32) K dX11_isDoneOne_20 (by decide) ?_
      refine sk_goto 25 K dX11_isDoneOne_21 (by decide) ?_
      have hR13 : true = rr := Option.some.inj hf
      exact sk_zret (x := true) K dX11_isDoneOne_25 rfl rfl hR13 rfl rfl
noncomputable def fX11_noOrders_L28 (S : sk_S) (d : sk_D) (p0 : Nat) (p1 : Int32) (s1 : Int32) : Option ((Int32) ⊕ (Int32)) :=
  (sk_gR S p0 10 35).bind fun v10 => (sk_lI S d v10 20 p1).bind fun v12 => if v12 ≤ s1 then (some (.inr (0 : Int32))) else ((sk_gR S p0 10 36).bind fun v16 => (sk_lJ S d v16 (((40 : Int32) * p1) + s1)).bind fun v18 => (fX11_within S d v18 (0 : Int64) (99 : Int64)).bind fun v20 => if v20 = true then (if (v18 / (10 : Int64)) = (v18 - v18 / (10 : Int64) * (10 : Int64)) then (some (.inr (-3 : Int32))) else (if S.2.1 p0 = (10, 0) then ((fX11_isDoneOne S d p0 (v18 / (10 : Int64))).bind fun v26 => if v26 = true then (if S.2.1 p0 = (10, 0) then ((fX11_isDoneOne S d p0 (v18 - v18 / (10 : Int64) * (10 : Int64))).bind fun v31 => if v31 = true then (some (.inl (s1 + 1))) else (some (.inr (-3 : Int32)))) else none) else (some (.inr (-3 : Int32)))) else none)) else (some (.inr (-3 : Int32))))
noncomputable def fX11_noOrders (S : sk_S) (d : sk_D) (p0 : Nat) (p1 : Int32) : Option (Int32) :=
  if S.2.1 p0 = (10, 0) then ((fX11_noTray S d p0 p1).bind fun v1 => if v1 = 0 then ((sk_gR S p0 10 35).bind fun v5 => (sk_lI S d v5 20 p1).bind fun v7 => if v7 ≤ (12 : Int32) then ((sk_itr (fX11_noOrders_L28 S d p0 p1) (0 : Int32)).bind fun x1 => some x1) else (some (-4 : Int32))) else (some v1)) else none
set_option maxRecDepth 100000 in
set_option maxHeartbeats 4000000 in
theorem sX11_noOrders (C : sk_C) (l : Launch) {S : sk_S} {d : sk_D} {p0 : Nat} {p1 : Int32} {rr : Int32} (hf : fX11_noOrders S d p0 p1 = some rr) : sk_Met C l 3 yX11_noOrders cX11_noOrders 6 (some .int) [.ref p0, .int p1] S d (some (.int rr)) S d := by
  refine sk_Met.of (by decide) (Nat.le_of_ble_eq_true rfl) (Nat.le_refl _) (Nat.le_refl _) (fun X K0 hX => ?_)
  have K : sk_Ok X C cX11_noOrders 6 RX11 "noOrders" (some .int) 3 l (some (.int rr)) S d := K0
  have R1 : X.2.2.2.2.2.2.2.2.2.2.2.1 ≤ S.1.1 ∧ X.2.2.2.2.2.2.2.2.2.2.2.2 ≤ S.1.2 := by rw [hX]; exact ⟨Nat.le_refl _, Nat.le_refl _⟩
  have R2 : S.1.1 ≤ S.1.1 ∧ S.1.2 ≤ S.1.2 := ⟨Nat.le_refl _, Nat.le_refl _⟩
  show sk_G X C 6 S d 0 [(0, .ref p0), (1, .int p1)] []
  unfold fX11_noOrders at hf
  refine sk_aload_n K dX11_noOrders_0 rfl 0 rfl ?_
  refine sk_iload_n K dX11_noOrders_1 rfl 1 rfl ?_
  obtain ⟨h3, hf⟩ := sk_ib hf
  obtain ⟨v1, e2, hf⟩ := sk_ob hf
  refine sk_callV (As := [.int p1]) (st := []) K dX11_noOrders_2 cl_X11_336 h3 (sX11_noTray C l e2) (by decide) rfl rfl (Nat.le_of_ble_eq_true rfl) R1 R2 ?_
  refine sk_istore_n [(2, .int v1), (0, .ref p0), (1, .int p1)] K dX11_noOrders_5 rfl (by decide) rfl ?_
  refine sk_iload_n K dX11_noOrders_6 rfl 0 rfl ?_
  refine sk_if_eq 12 K dX11_noOrders_7 (by decide) (fun h4 => ?_) (fun h4 => ?_)
  · rw [if_pos h4] at hf
    refine sk_aload_n K dX11_noOrders_12 rfl 1 rfl ?_
    obtain ⟨v5, e6, hf⟩ := sk_ob hf
    refine sk_getR K dX11_noOrders_13 fl_X11_78 rfl e6 ?_
    refine sk_iload_n K dX11_noOrders_16 rfl 2 rfl ?_
    obtain ⟨v7, e8, hf⟩ := sk_ob hf
    refine sk_ald20 K dX11_noOrders_17 e8 ?_
    refine sk_bipush (12 : Int32) K dX11_noOrders_18 (by decide) ?_
    refine sk_icmp_le 26 K dX11_noOrders_20 (by decide) (fun h9 => ?_) (fun h9 => ?_)
    · rw [if_pos h9] at hf
      refine sk_iconst (0 : Int32) K dX11_noOrders_26 (by decide) ?_
      refine sk_istore_n [(3, .int (0 : Int32)), (2, .int v1), (0, .ref p0), (1, .int p1)] K dX11_noOrders_27 rfl (by decide) rfl ?_
      obtain ⟨x1, he1, hf⟩ := sk_ob hf
      have hret1 : ∀ r, r = x1 → r = rr := by
        intro r hr
        subst hr
        exact Option.some.inj hf
      refine sk_sub [(0, .ref p0), (1, .int p1), (3, .int (0 : Int32))] [2, 3, 0] rfl ?_
      refine sk_loop (fun s1 => sk_G X C 6 S d 28 [(0, .ref p0), (1, .int p1), (3, .int s1)] []) he1 (fun s1 o1 hf ih1 hx1 => ?_)
      unfold fX11_noOrders_L28 at hf
      refine sk_iload_n K dX11_noOrders_28 rfl 2 rfl ?_
      refine sk_aload_n K dX11_noOrders_29 rfl 0 rfl ?_
      obtain ⟨v10, e11, hf⟩ := sk_ob hf
      refine sk_getR K dX11_noOrders_30 fl_X11_78 rfl e11 ?_
      refine sk_iload_n K dX11_noOrders_33 rfl 1 rfl ?_
      obtain ⟨v12, e13, hf⟩ := sk_ob hf
      refine sk_ald20 K dX11_noOrders_34 e13 ?_
      refine sk_icmp_ge 114 K dX11_noOrders_35 (by decide) (fun h14 => ?_) (fun h14 => ?_)
      · rw [if_pos h14] at hf
        refine sk_iconst (0 : Int32) K dX11_noOrders_114 (by decide) ?_
        have hR15 : (0 : Int32) = rr := hret1 _ (hx1 _ (Option.some.inj hf).symm)
        exact sk_iret K dX11_noOrders_115 rfl rfl hR15 rfl rfl
      · rw [if_neg h14] at hf
        refine sk_aload_n K dX11_noOrders_38 rfl 0 rfl ?_
        obtain ⟨v16, e17, hf⟩ := sk_ob hf
        refine sk_getR K dX11_noOrders_39 fl_X11_81 rfl e17 ?_
        refine sk_bipush (40 : Int32) K dX11_noOrders_42 (by decide) ?_
        refine sk_iload_n K dX11_noOrders_44 rfl 1 rfl ?_
        refine sk_imul K dX11_noOrders_45 ?_
        refine sk_iload_n K dX11_noOrders_46 rfl 2 rfl ?_
        refine sk_iadd K dX11_noOrders_47 ?_
        obtain ⟨v18, e19, hf⟩ := sk_ob hf
        refine sk_ald21 K dX11_noOrders_48 e19 ?_
        refine sk_lstore [(4, .long v18), (0, .ref p0), (1, .int p1), (3, .int s1)] K dX11_noOrders_49 (by decide) rfl ?_
        refine sk_lload K dX11_noOrders_51 0 rfl ?_
        refine sk_lconst (0 : Int64) K dX11_noOrders_53 (by decide) ?_
        refine sk_ldc2 K dX11_noOrders_54 qw_1833 ?_
        obtain ⟨v20, e21, hf⟩ := sk_ob hf
        refine sk_callS (As := [.long v18, .long (0 : Int64), .long (99 : Int64)]) (st := []) K dX11_noOrders_57 cl_X11_150 (sX11_within C l e21) (by decide) rfl rfl (Nat.le_of_ble_eq_true rfl) R1 R2 ?_
        refine sk_ifeqB 105 K dX11_noOrders_60 (by decide) (fun h22 => ?_) (fun h22 => ?_)
        · rw [if_neg h22] at hf
          refine sk_bipush (-3 : Int32) K dX11_noOrders_105 (by decide) ?_
          have hR23 : (-3 : Int32) = rr := hret1 _ (hx1 _ (Option.some.inj hf).symm)
          exact sk_iret K dX11_noOrders_107 rfl rfl hR23 rfl rfl
        · rw [if_pos h22] at hf
          refine sk_lload K dX11_noOrders_63 0 rfl ?_
          refine sk_ldc2 K dX11_noOrders_65 qw_1686 ?_
          refine sk_ldiv K dX11_noOrders_68 (by decide) ?_
          refine sk_lload K dX11_noOrders_69 0 rfl ?_
          refine sk_ldc2 K dX11_noOrders_71 qw_1686 ?_
          refine sk_lrem K dX11_noOrders_74 (by decide) ?_
          refine sk_lcmp_eq 105 K dX11_noOrders_75 dX11_noOrders_76 (by decide) (fun h24 => ?_) (fun h24 => ?_)
          · rw [if_pos h24] at hf
            refine sk_bipush (-3 : Int32) K dX11_noOrders_105 (by decide) ?_
            have hR25 : (-3 : Int32) = rr := hret1 _ (hx1 _ (Option.some.inj hf).symm)
            exact sk_iret K dX11_noOrders_107 rfl rfl hR25 rfl rfl
          · rw [if_neg h24] at hf
            refine sk_aload_n K dX11_noOrders_79 rfl 1 rfl ?_
            refine sk_lload K dX11_noOrders_80 0 rfl ?_
            refine sk_ldc2 K dX11_noOrders_82 qw_1686 ?_
            refine sk_ldiv K dX11_noOrders_85 (by decide) ?_
            obtain ⟨h28, hf⟩ := sk_ib hf
            obtain ⟨v26, e27, hf⟩ := sk_ob hf
            refine sk_callV (As := [.long (v18 / (10 : Int64))]) (st := []) K dX11_noOrders_86 cl_X11_407 h28 (sX11_isDoneOne C l e27) (by decide) rfl rfl (Nat.le_of_ble_eq_true rfl) R1 R2 ?_
            refine sk_ifeqB 105 K dX11_noOrders_89 (by decide) (fun h29 => ?_) (fun h29 => ?_)
            · rw [if_neg h29] at hf
              refine sk_bipush (-3 : Int32) K dX11_noOrders_105 (by decide) ?_
              have hR30 : (-3 : Int32) = rr := hret1 _ (hx1 _ (Option.some.inj hf).symm)
              exact sk_iret K dX11_noOrders_107 rfl rfl hR30 rfl rfl
            · rw [if_pos h29] at hf
              refine sk_aload_n K dX11_noOrders_92 rfl 1 rfl ?_
              refine sk_lload K dX11_noOrders_93 0 rfl ?_
              refine sk_ldc2 K dX11_noOrders_95 qw_1686 ?_
              refine sk_lrem K dX11_noOrders_98 (by decide) ?_
              obtain ⟨h33, hf⟩ := sk_ib hf
              obtain ⟨v31, e32, hf⟩ := sk_ob hf
              refine sk_callV (As := [.long (v18 - v18 / (10 : Int64) * (10 : Int64))]) (st := []) K dX11_noOrders_99 cl_X11_407 h33 (sX11_isDoneOne C l e32) (by decide) rfl rfl (Nat.le_of_ble_eq_true rfl) R1 R2 ?_
              refine sk_ifneB 108 K dX11_noOrders_102 (by decide) (fun h34 => ?_) (fun h34 => ?_)
              · rw [if_pos h34] at hf
                refine sk_iinc (s1 + 1) [(3, .int (s1 + 1)), (4, .long v18), (0, .ref p0), (1, .int p1)] K dX11_noOrders_108 3 rfl rfl (by decide) rfl ?_
                refine sk_goto 28 K dX11_noOrders_111 (by decide) ?_
                refine sk_sub [(0, .ref p0), (1, .int p1), (3, .int (s1 + 1))] [2, 3, 0] rfl ?_
                have h9 := ih1 _ (Option.some.inj hf).symm
                exact h9
              · rw [if_neg h34] at hf
                refine sk_bipush (-3 : Int32) K dX11_noOrders_105 (by decide) ?_
                have hR35 : (-3 : Int32) = rr := hret1 _ (hx1 _ (Option.some.inj hf).symm)
                exact sk_iret K dX11_noOrders_107 rfl rfl hR35 rfl rfl
    · rw [if_neg h9] at hf
      refine sk_bipush (-4 : Int32) K dX11_noOrders_23 (by decide) ?_
      have hR36 : (-4 : Int32) = rr := Option.some.inj hf
      exact sk_iret K dX11_noOrders_25 rfl rfl hR36 rfl rfl
  · rw [if_neg h4] at hf
    refine sk_iload_n K dX11_noOrders_10 rfl 0 rfl ?_
    have hR37 : v1 = rr := Option.some.inj hf
    exact sk_iret K dX11_noOrders_11 rfl rfl hR37 rfl rfl
noncomputable def fX11_laysOrders_L164 (S : sk_S) (p0 : Nat) (t1_a : Int32) (t2_a : sk_D) (v1 : Int32) (s2 : Int32 × Int32) : Option ((Int32 × Int32) ⊕ (Int32)) :=
  (sk_gR S p0 10 1).bind fun v18 => (sk_lI S t2_a v18 20 (1 : Int32)).bind fun v20 => if v20 ≤ s2.2 then (some (.inr s2.1)) else ((fX11_isIn S t2_a ((v1 &&& (t1_a ^^^ (-1 : Int32))).toInt64) s2.2).bind fun v23 => if v23 = true then ((sk_gR S p0 10 28).bind fun v26 => (sk_lI S t2_a v26 20 s2.2).bind fun v28 => if (v28 &&& (t1_a ^^^ (-1 : Int32))) = 0 then ((sk_gR S p0 10 29).bind fun v31 => (sk_lI S t2_a v31 20 (t1_a ||| ((1 : Int32) <<< (s2.2 &&& 31)))).bind fun v33 => some (.inl (s2.1 + v33, s2.2 + 1))) else (some (.inl (s2.1, s2.2 + 1)))) else (some (.inl (s2.1, s2.2 + 1))))
noncomputable def fX11_laysOrders_L140 (S : sk_S) (p0 : Nat) (v1 : Int32) (s1 : Int32 × sk_D) : Option ((Int32 × sk_D) ⊕ (Int32 × sk_D)) :=
  if s1.1 < 0 then ((sk_gR S p0 10 29).bind fun v8 => (sk_lI S s1.2 v8 20 (0 : Int32)).bind fun v10 => some (.inr (v10, s1.2))) else (if (s1.1 &&& (v1 ^^^ (-1 : Int32))) = 0 then ((sk_itr (fX11_laysOrders_L164 S p0 s1.1 s1.2 v1) ((0 : Int32), (0 : Int32))).bind fun y2 => (sk_gR S p0 10 29).bind fun v14 => (sk_sI S s1.2 v14 20 s1.1 y2).bind fun d16 => some (.inl (s1.1 - 1, d16))) else (some (.inl (s1.1 - 1, s1.2))))
noncomputable def fX11_laysOrders_J126 (S : sk_S) (p0 : Nat) (v1 : Int32) (d2 : sk_D) : Option (Int32 × sk_D) :=
  (sk_gR S p0 10 29).bind fun v3 => (sk_sI S d2 v3 20 v1 (1 : Int32)).bind fun d5 => (sk_itr (fX11_laysOrders_L140 S p0 v1) (v1 - (1 : Int32), d5)).bind fun x1 => some x1
noncomputable def fX11_laysOrders_L50 (S : sk_S) (p0 : Nat) (p1 : Int32) (s4 : Int32 × sk_D) : Option ((Int32 × sk_D) ⊕ (sk_D)) :=
  (sk_gR S p0 10 35).bind fun v48 => (sk_lI S s4.2 v48 20 p1).bind fun v50 => if v50 ≤ s4.1 then (some (.inr s4.2)) else ((sk_gR S p0 10 28).bind fun v53 => (sk_gR S p0 10 36).bind fun v55 => (sk_lJ S s4.2 v55 (((40 : Int32) * p1) + s4.1)).bind fun v57 => (sk_lI S s4.2 v53 20 (v57.toInt32 - v57.toInt32 / (10 : Int32) * (10 : Int32))).bind fun v59 => (sk_gR S p0 10 36).bind fun v61 => (sk_lJ S s4.2 v61 (((40 : Int32) * p1) + s4.1)).bind fun v63 => (sk_sI S s4.2 v53 20 (v57.toInt32 - v57.toInt32 / (10 : Int32) * (10 : Int32)) (v59 ||| ((1 : Int32) <<< ((v63.toInt32 / (10 : Int32)) &&& 31)))).bind fun d65 => some (.inl (s4.1 + 1, d65)))
noncomputable def fX11_laysOrders_L13 (S : sk_S) (p0 : Nat) (s3 : Int32 × sk_D) : Option ((Int32 × sk_D) ⊕ (sk_D)) :=
  (sk_gR S p0 10 1).bind fun v67 => (sk_lI S s3.2 v67 20 (1 : Int32)).bind fun v69 => if v69 ≤ s3.1 then (some (.inr s3.2)) else ((sk_gR S p0 10 28).bind fun v72 => (sk_gR S p0 10 1).bind fun v74 => (sk_lI S s3.2 v74 20 ((50 : Int32) + s3.1)).bind fun v76 => (sk_sI S s3.2 v72 20 s3.1 v76).bind fun d78 => some (.inl (s3.1 + 1, d78)))
noncomputable def fX11_laysOrders (S : sk_S) (d : sk_D) (p0 : Nat) (p1 : Int32) (p2 : Int32) (p3 : Int32) : Option (Int32 × sk_D) :=
  if S.2.1 p0 = (10, 0) then ((fX11_standNow S d p0).bind fun v35 => if S.2.1 p0 = (10, 0) then ((fX11_doneIn S d p0 v35).bind fun v38 => (sk_itr (fX11_laysOrders_L13 S p0) ((0 : Int32), d)).bind fun y3 => (sk_itr (fX11_laysOrders_L50 S p0 p1) ((0 : Int32), y3)).bind fun y4 => if p2 = (-1 : Int32) then (fX11_laysOrders_J126 S p0 v38 y4) else ((sk_gR S p0 10 28).bind fun v42 => (sk_lI S y4 v42 20 p3).bind fun v44 => (sk_sI S y4 v42 20 p3 (v44 ||| ((1 : Int32) <<< (p2 &&& 31)))).bind fun d46 => fX11_laysOrders_J126 S p0 v38 d46)) else none) else none
set_option maxRecDepth 100000 in
set_option maxHeartbeats 4000000 in
theorem sX11_laysOrders (C : sk_C) (l : Launch) {S : sk_S} {d : sk_D} {p0 : Nat} {p1 : Int32} {p2 : Int32} {p3 : Int32} {rr : Int32} {dd : sk_D} (hf : fX11_laysOrders S d p0 p1 p2 p3 = some (rr, dd)) : sk_Met C l 3 yX11_laysOrders cX11_laysOrders 8 (some .int) [.ref p0, .int p1, .int p2, .int p3] S d (some (.int rr)) S dd := by
  refine sk_Met.of (by decide) (Nat.le_of_ble_eq_true rfl) (Nat.le_refl _) (Nat.le_refl _) (fun X K0 hX => ?_)
  have K : sk_Ok X C cX11_laysOrders 8 RX11 "laysOrders" (some .int) 3 l (some (.int rr)) S dd := K0
  have R1 : X.2.2.2.2.2.2.2.2.2.2.2.1 ≤ S.1.1 ∧ X.2.2.2.2.2.2.2.2.2.2.2.2 ≤ S.1.2 := by rw [hX]; exact ⟨Nat.le_refl _, Nat.le_refl _⟩
  have R2 : S.1.1 ≤ S.1.1 ∧ S.1.2 ≤ S.1.2 := ⟨Nat.le_refl _, Nat.le_refl _⟩
  show sk_G X C 8 S d 0 [(0, .ref p0), (1, .int p1), (2, .int p2), (3, .int p3)] []
  unfold fX11_laysOrders at hf
  have j126_0 : ∀ (v1 : Int32) (d2 : sk_D), fX11_laysOrders_J126 S p0 v1 d2 = some (rr, dd) → sk_G X C 8 S d2 126 [(0, .ref p0), (4, .int v1)] [] := by
    intro v1 d2 hf
    unfold fX11_laysOrders_J126 at hf
    refine sk_aload_n K dX11_laysOrders_126 rfl 0 rfl ?_
    obtain ⟨v3, e4, hf⟩ := sk_ob hf
    refine sk_getR K dX11_laysOrders_127 fl_X11_63 rfl e4 ?_
    refine sk_iload K dX11_laysOrders_130 1 rfl ?_
    refine sk_iconst (1 : Int32) K dX11_laysOrders_132 (by decide) ?_
    obtain ⟨d5, e6, hf⟩ := sk_ob hf
    refine sk_ast20 d5 K dX11_laysOrders_133 e6 ?_
    refine sk_iload K dX11_laysOrders_134 1 rfl ?_
    refine sk_iconst (1 : Int32) K dX11_laysOrders_136 (by decide) ?_
    refine sk_isub K dX11_laysOrders_137 ?_
    refine sk_istore [(5, .int (v1 - (1 : Int32))), (0, .ref p0), (4, .int v1)] K dX11_laysOrders_138 (by decide) rfl ?_
    obtain ⟨x1, he1, hf⟩ := sk_ob hf
    have hret1 : ∀ r, r = x1 → r = (rr, dd) := by
      intro r hr
      subst hr
      exact Option.some.inj hf
    refine sk_sub [(0, .ref p0), (4, .int v1), (5, .int (v1 - (1 : Int32)))] [1, 2, 0] rfl ?_
    refine sk_loop (fun s1 => sk_G X C 8 S s1.2 140 [(0, .ref p0), (4, .int v1), (5, .int s1.1)] []) he1 (fun s1 o1 hf ih1 hx1 => ?_)
    unfold fX11_laysOrders_L140 at hf
    refine sk_iload K dX11_laysOrders_140 2 rfl ?_
    refine sk_if_lt 244 K dX11_laysOrders_142 (by decide) (fun h7 => ?_) (fun h7 => ?_)
    · rw [if_pos h7] at hf
      refine sk_aload_n K dX11_laysOrders_244 rfl 0 rfl ?_
      obtain ⟨v8, e9, hf⟩ := sk_ob hf
      refine sk_getR K dX11_laysOrders_245 fl_X11_63 rfl e9 ?_
      refine sk_iconst (0 : Int32) K dX11_laysOrders_248 (by decide) ?_
      obtain ⟨v10, e11, hf⟩ := sk_ob hf
      refine sk_ald20 K dX11_laysOrders_249 e11 ?_
      have hR12 : (v10, s1.2) = (rr, dd) := hret1 _ (hx1 _ (Option.some.inj hf).symm)
      exact sk_iret K dX11_laysOrders_250 rfl rfl (congrArg (fun z => z.1) hR12) rfl (congrArg (fun z => z.2) hR12)
    · rw [if_neg h7] at hf
      refine sk_iload K dX11_laysOrders_145 2 rfl ?_
      refine sk_iload K dX11_laysOrders_147 1 rfl ?_
      refine sk_iconst (-1 : Int32) K dX11_laysOrders_149 (by decide) ?_
      refine sk_ixor K dX11_laysOrders_150 ?_
      refine sk_iand K dX11_laysOrders_151 ?_
      refine sk_if_eq 158 K dX11_laysOrders_152 (by decide) (fun h13 => ?_) (fun h13 => ?_)
      · rw [if_pos h13] at hf
        refine sk_iconst (0 : Int32) K dX11_laysOrders_158 (by decide) ?_
        refine sk_istore [(6, .int (0 : Int32)), (0, .ref p0), (4, .int v1), (5, .int s1.1)] K dX11_laysOrders_159 (by decide) rfl ?_
        refine sk_iconst (0 : Int32) K dX11_laysOrders_161 (by decide) ?_
        refine sk_istore [(7, .int (0 : Int32)), (6, .int (0 : Int32)), (0, .ref p0), (4, .int v1), (5, .int s1.1)] K dX11_laysOrders_162 (by decide) rfl ?_
        obtain ⟨x2, he2, hf⟩ := sk_ob hf
        have rest2 : ∀ y2, y2 = x2 → sk_G X C 8 S s1.2 229 [(0, .ref p0), (4, .int v1), (5, .int s1.1), (6, .int y2)] [] := by
          intro y2 hy
          subst hy
          refine sk_aload_n K dX11_laysOrders_229 rfl 0 rfl ?_
          obtain ⟨v14, e15, hf⟩ := sk_ob hf
          refine sk_getR K dX11_laysOrders_230 fl_X11_63 rfl e15 ?_
          refine sk_iload K dX11_laysOrders_233 2 rfl ?_
          refine sk_iload K dX11_laysOrders_235 3 rfl ?_
          obtain ⟨d16, e17, hf⟩ := sk_ob hf
          refine sk_ast20 d16 K dX11_laysOrders_237 e17 ?_
          refine sk_iinc (s1.1 - 1) [(5, .int (s1.1 - 1)), (0, .ref p0), (4, .int v1), (6, .int y2)] K dX11_laysOrders_238 2 rfl (sk_dec1 _) (by decide) rfl ?_
          refine sk_goto 140 K dX11_laysOrders_241 (by decide) ?_
          refine sk_sub [(0, .ref p0), (4, .int v1), (5, .int (s1.1 - 1))] [1, 2, 0] rfl ?_
          have h9 := ih1 _ (Option.some.inj hf).symm
          exact h9
        refine sk_sub [(0, .ref p0), (4, .int v1), (5, .int s1.1), (6, .int (0 : Int32)), (7, .int (0 : Int32))] [2, 3, 4, 1, 0] rfl ?_
        refine sk_loop (fun s2 => sk_G X C 8 S s1.2 164 [(0, .ref p0), (4, .int v1), (5, .int s1.1), (6, .int s2.1), (7, .int s2.2)] []) he2 (fun s2 o2 hf ih2 hx2 => ?_)
        unfold fX11_laysOrders_L164 at hf
        refine sk_iload K dX11_laysOrders_164 4 rfl ?_
        refine sk_aload_n K dX11_laysOrders_166 rfl 0 rfl ?_
        obtain ⟨v18, e19, hf⟩ := sk_ob hf
        refine sk_getR K dX11_laysOrders_167 fl_X11_13 rfl e19 ?_
        refine sk_iconst (1 : Int32) K dX11_laysOrders_170 (by decide) ?_
        obtain ⟨v20, e21, hf⟩ := sk_ob hf
        refine sk_ald20 K dX11_laysOrders_171 e21 ?_
        refine sk_icmp_ge 229 K dX11_laysOrders_172 (by decide) (fun h22 => ?_) (fun h22 => ?_)
        · rw [if_pos h22] at hf
          refine sk_sub [(0, .ref p0), (4, .int v1), (5, .int s1.1), (6, .int s2.1)] [0, 1, 2, 3] rfl ?_
          have h9 := rest2 _ (hx2 _ (Option.some.inj hf).symm)
          exact h9
        · rw [if_neg h22] at hf
          refine sk_iload K dX11_laysOrders_175 1 rfl ?_
          refine sk_iload K dX11_laysOrders_177 2 rfl ?_
          refine sk_iconst (-1 : Int32) K dX11_laysOrders_179 (by decide) ?_
          refine sk_ixor K dX11_laysOrders_180 ?_
          refine sk_iand K dX11_laysOrders_181 ?_
          refine sk_i2l K dX11_laysOrders_182 ?_
          refine sk_iload K dX11_laysOrders_183 4 rfl ?_
          obtain ⟨v23, e24, hf⟩ := sk_ob hf
          refine sk_callS (As := [.long ((v1 &&& (s1.1 ^^^ (-1 : Int32))).toInt64), .int s2.2]) (st := []) K dX11_laysOrders_185 cl_X11_221 (sX11_isIn C l e24) (by decide) rfl rfl (Nat.le_of_ble_eq_true rfl) R1 R2 ?_
          refine sk_ifeqB 223 K dX11_laysOrders_188 (by decide) (fun h25 => ?_) (fun h25 => ?_)
          · rw [if_neg h25] at hf
            refine sk_iinc (s2.2 + 1) [(7, .int (s2.2 + 1)), (0, .ref p0), (4, .int v1), (5, .int s1.1), (6, .int s2.1)] K dX11_laysOrders_223 4 rfl rfl (by decide) rfl ?_
            refine sk_goto 164 K dX11_laysOrders_226 (by decide) ?_
            refine sk_sub [(0, .ref p0), (4, .int v1), (5, .int s1.1), (6, .int s2.1), (7, .int (s2.2 + 1))] [1, 2, 3, 4, 0] rfl ?_
            have h9 := ih2 _ (Option.some.inj hf).symm
            exact h9
          · rw [if_pos h25] at hf
            refine sk_aload_n K dX11_laysOrders_191 rfl 0 rfl ?_
            obtain ⟨v26, e27, hf⟩ := sk_ob hf
            refine sk_getR K dX11_laysOrders_192 fl_X11_60 rfl e27 ?_
            refine sk_iload K dX11_laysOrders_195 4 rfl ?_
            obtain ⟨v28, e29, hf⟩ := sk_ob hf
            refine sk_ald20 K dX11_laysOrders_197 e29 ?_
            refine sk_iload K dX11_laysOrders_198 2 rfl ?_
            refine sk_iconst (-1 : Int32) K dX11_laysOrders_200 (by decide) ?_
            refine sk_ixor K dX11_laysOrders_201 ?_
            refine sk_iand K dX11_laysOrders_202 ?_
            refine sk_if_ne 223 K dX11_laysOrders_203 (by decide) (fun h30 => ?_) (fun h30 => ?_)
            · rw [if_neg h30] at hf
              refine sk_iinc (s2.2 + 1) [(7, .int (s2.2 + 1)), (0, .ref p0), (4, .int v1), (5, .int s1.1), (6, .int s2.1)] K dX11_laysOrders_223 4 rfl rfl (by decide) rfl ?_
              refine sk_goto 164 K dX11_laysOrders_226 (by decide) ?_
              refine sk_sub [(0, .ref p0), (4, .int v1), (5, .int s1.1), (6, .int s2.1), (7, .int (s2.2 + 1))] [1, 2, 3, 4, 0] rfl ?_
              have h9 := ih2 _ (Option.some.inj hf).symm
              exact h9
            · rw [if_pos h30] at hf
              refine sk_iload K dX11_laysOrders_206 3 rfl ?_
              refine sk_aload_n K dX11_laysOrders_208 rfl 0 rfl ?_
              obtain ⟨v31, e32, hf⟩ := sk_ob hf
              refine sk_getR K dX11_laysOrders_209 fl_X11_63 rfl e32 ?_
              refine sk_iload K dX11_laysOrders_212 2 rfl ?_
              refine sk_iconst (1 : Int32) K dX11_laysOrders_214 (by decide) ?_
              refine sk_iload K dX11_laysOrders_215 4 rfl ?_
              refine sk_ishl K dX11_laysOrders_217 ?_
              refine sk_ior K dX11_laysOrders_218 ?_
              obtain ⟨v33, e34, hf⟩ := sk_ob hf
              refine sk_ald20 K dX11_laysOrders_219 e34 ?_
              refine sk_iadd K dX11_laysOrders_220 ?_
              refine sk_istore [(6, .int (s2.1 + v33)), (0, .ref p0), (4, .int v1), (5, .int s1.1), (7, .int s2.2)] K dX11_laysOrders_221 (by decide) rfl ?_
              refine sk_iinc (s2.2 + 1) [(7, .int (s2.2 + 1)), (6, .int (s2.1 + v33)), (0, .ref p0), (4, .int v1), (5, .int s1.1)] K dX11_laysOrders_223 4 rfl rfl (by decide) rfl ?_
              refine sk_goto 164 K dX11_laysOrders_226 (by decide) ?_
              refine sk_sub [(0, .ref p0), (4, .int v1), (5, .int s1.1), (6, .int (s2.1 + v33)), (7, .int (s2.2 + 1))] [2, 3, 4, 1, 0] rfl ?_
              have h9 := ih2 _ (Option.some.inj hf).symm
              exact h9
      · rw [if_neg h13] at hf
        refine sk_goto 238 K dX11_laysOrders_155 (by decide) ?_
        refine sk_iinc (s1.1 - 1) [(5, .int (s1.1 - 1)), (0, .ref p0), (4, .int v1)] K dX11_laysOrders_238 2 rfl (sk_dec1 _) (by decide) rfl ?_
        refine sk_goto 140 K dX11_laysOrders_241 (by decide) ?_
        refine sk_sub [(0, .ref p0), (4, .int v1), (5, .int (s1.1 - 1))] [1, 2, 0] rfl ?_
        have h9 := ih1 _ (Option.some.inj hf).symm
        exact h9
  refine sk_aload_n K dX11_laysOrders_0 rfl 0 rfl ?_
  refine sk_aload_n K dX11_laysOrders_1 rfl 0 rfl ?_
  obtain ⟨h37, hf⟩ := sk_ib hf
  obtain ⟨v35, e36, hf⟩ := sk_ob hf
  refine sk_callV (As := []) (st := [.ref p0]) K dX11_laysOrders_2 cl_X11_270 h37 (sX11_standNow C l e36) (by decide) rfl rfl (Nat.le_of_ble_eq_true rfl) R1 R2 ?_
  obtain ⟨h40, hf⟩ := sk_ib hf
  obtain ⟨v38, e39, hf⟩ := sk_ob hf
  refine sk_callV (As := [.int v35]) (st := []) K dX11_laysOrders_5 cl_X11_245 h40 (sX11_doneIn C l e39) (by decide) rfl rfl (Nat.le_of_ble_eq_true rfl) R1 R2 ?_
  refine sk_istore [(4, .int v38), (0, .ref p0), (1, .int p1), (2, .int p2), (3, .int p3)] K dX11_laysOrders_8 (by decide) rfl ?_
  refine sk_iconst (0 : Int32) K dX11_laysOrders_10 (by decide) ?_
  refine sk_istore [(5, .int (0 : Int32)), (4, .int v38), (0, .ref p0), (1, .int p1), (2, .int p2), (3, .int p3)] K dX11_laysOrders_11 (by decide) rfl ?_
  obtain ⟨x3, he3, hf⟩ := sk_ob hf
  have rest3 : ∀ y3, y3 = x3 → sk_G X C 8 S y3 47 [(0, .ref p0), (1, .int p1), (2, .int p2), (3, .int p3), (4, .int v38)] [] := by
    intro y3 hy
    subst hy
    refine sk_iconst (0 : Int32) K dX11_laysOrders_47 (by decide) ?_
    refine sk_istore [(5, .int (0 : Int32)), (0, .ref p0), (1, .int p1), (2, .int p2), (3, .int p3), (4, .int v38)] K dX11_laysOrders_48 (by decide) rfl ?_
    obtain ⟨x4, he4, hf⟩ := sk_ob hf
    have rest4 : ∀ y4, y4 = x4 → sk_G X C 8 S y4 109 [(0, .ref p0), (2, .int p2), (3, .int p3), (4, .int v38)] [] := by
      intro y4 hy
      subst hy
      refine sk_iload_n K dX11_laysOrders_109 rfl 1 rfl ?_
      refine sk_iconst (-1 : Int32) K dX11_laysOrders_110 (by decide) ?_
      refine sk_icmp_eq 126 K dX11_laysOrders_111 (by decide) (fun h41 => ?_) (fun h41 => ?_)
      · rw [if_pos h41] at hf
        refine sk_sub [(0, .ref p0), (4, .int v38)] [0, 3] rfl ?_
        have h9 := j126_0 _ _ hf
        exact h9
      · rw [if_neg h41] at hf
        refine sk_aload_n K dX11_laysOrders_114 rfl 0 rfl ?_
        obtain ⟨v42, e43, hf⟩ := sk_ob hf
        refine sk_getR K dX11_laysOrders_115 fl_X11_60 rfl e43 ?_
        refine sk_iload_n K dX11_laysOrders_118 rfl 2 rfl ?_
        refine sk_dup2 K dX11_laysOrders_119 rfl rfl ?_
        obtain ⟨v44, e45, hf⟩ := sk_ob hf
        refine sk_ald20 K dX11_laysOrders_120 e45 ?_
        refine sk_iconst (1 : Int32) K dX11_laysOrders_121 (by decide) ?_
        refine sk_iload_n K dX11_laysOrders_122 rfl 1 rfl ?_
        refine sk_ishl K dX11_laysOrders_123 ?_
        refine sk_ior K dX11_laysOrders_124 ?_
        obtain ⟨d46, e47, hf⟩ := sk_ob hf
        refine sk_ast20 d46 K dX11_laysOrders_125 e47 ?_
        refine sk_sub [(0, .ref p0), (4, .int v38)] [0, 3] rfl ?_
        have h9 := j126_0 _ _ hf
        exact h9
    refine sk_sub [(0, .ref p0), (1, .int p1), (2, .int p2), (3, .int p3), (4, .int v38), (5, .int (0 : Int32))] [1, 2, 3, 4, 5, 0] rfl ?_
    refine sk_loop (fun s4 => sk_G X C 8 S s4.2 50 [(0, .ref p0), (1, .int p1), (2, .int p2), (3, .int p3), (4, .int v38), (5, .int s4.1)] []) he4 (fun s4 o4 hf ih4 hx4 => ?_)
    unfold fX11_laysOrders_L50 at hf
    refine sk_iload K dX11_laysOrders_50 5 rfl ?_
    refine sk_aload_n K dX11_laysOrders_52 rfl 0 rfl ?_
    obtain ⟨v48, e49, hf⟩ := sk_ob hf
    refine sk_getR K dX11_laysOrders_53 fl_X11_78 rfl e49 ?_
    refine sk_iload_n K dX11_laysOrders_56 rfl 1 rfl ?_
    obtain ⟨v50, e51, hf⟩ := sk_ob hf
    refine sk_ald20 K dX11_laysOrders_57 e51 ?_
    refine sk_icmp_ge 109 K dX11_laysOrders_58 (by decide) (fun h52 => ?_) (fun h52 => ?_)
    · rw [if_pos h52] at hf
      refine sk_sub [(0, .ref p0), (2, .int p2), (3, .int p3), (4, .int v38)] [0, 2, 3, 4] rfl ?_
      have h9 := rest4 _ (hx4 _ (Option.some.inj hf).symm)
      exact h9
    · rw [if_neg h52] at hf
      refine sk_aload_n K dX11_laysOrders_61 rfl 0 rfl ?_
      obtain ⟨v53, e54, hf⟩ := sk_ob hf
      refine sk_getR K dX11_laysOrders_62 fl_X11_60 rfl e54 ?_
      refine sk_aload_n K dX11_laysOrders_65 rfl 0 rfl ?_
      obtain ⟨v55, e56, hf⟩ := sk_ob hf
      refine sk_getR K dX11_laysOrders_66 fl_X11_81 rfl e56 ?_
      refine sk_bipush (40 : Int32) K dX11_laysOrders_69 (by decide) ?_
      refine sk_iload_n K dX11_laysOrders_71 rfl 1 rfl ?_
      refine sk_imul K dX11_laysOrders_72 ?_
      refine sk_iload K dX11_laysOrders_73 5 rfl ?_
      refine sk_iadd K dX11_laysOrders_75 ?_
      obtain ⟨v57, e58, hf⟩ := sk_ob hf
      refine sk_ald21 K dX11_laysOrders_76 e58 ?_
      refine sk_l2i K dX11_laysOrders_77 ?_
      refine sk_bipush (10 : Int32) K dX11_laysOrders_78 (by decide) ?_
      refine sk_irem K dX11_laysOrders_80 (by decide) ?_
      refine sk_dup2 K dX11_laysOrders_81 rfl rfl ?_
      obtain ⟨v59, e60, hf⟩ := sk_ob hf
      refine sk_ald20 K dX11_laysOrders_82 e60 ?_
      refine sk_iconst (1 : Int32) K dX11_laysOrders_83 (by decide) ?_
      refine sk_aload_n K dX11_laysOrders_84 rfl 0 rfl ?_
      obtain ⟨v61, e62, hf⟩ := sk_ob hf
      refine sk_getR K dX11_laysOrders_85 fl_X11_81 rfl e62 ?_
      refine sk_bipush (40 : Int32) K dX11_laysOrders_88 (by decide) ?_
      refine sk_iload_n K dX11_laysOrders_90 rfl 1 rfl ?_
      refine sk_imul K dX11_laysOrders_91 ?_
      refine sk_iload K dX11_laysOrders_92 5 rfl ?_
      refine sk_iadd K dX11_laysOrders_94 ?_
      obtain ⟨v63, e64, hf⟩ := sk_ob hf
      refine sk_ald21 K dX11_laysOrders_95 e64 ?_
      refine sk_l2i K dX11_laysOrders_96 ?_
      refine sk_bipush (10 : Int32) K dX11_laysOrders_97 (by decide) ?_
      refine sk_idiv K dX11_laysOrders_99 (by decide) ?_
      refine sk_ishl K dX11_laysOrders_100 ?_
      refine sk_ior K dX11_laysOrders_101 ?_
      obtain ⟨d65, e66, hf⟩ := sk_ob hf
      refine sk_ast20 d65 K dX11_laysOrders_102 e66 ?_
      refine sk_iinc (s4.1 + 1) [(5, .int (s4.1 + 1)), (0, .ref p0), (1, .int p1), (2, .int p2), (3, .int p3), (4, .int v38)] K dX11_laysOrders_103 5 rfl rfl (by decide) rfl ?_
      refine sk_goto 50 K dX11_laysOrders_106 (by decide) ?_
      refine sk_sub [(0, .ref p0), (1, .int p1), (2, .int p2), (3, .int p3), (4, .int v38), (5, .int (s4.1 + 1))] [1, 2, 3, 4, 5, 0] rfl ?_
      have h9 := ih4 _ (Option.some.inj hf).symm
      exact h9
  refine sk_sub [(0, .ref p0), (1, .int p1), (2, .int p2), (3, .int p3), (4, .int v38), (5, .int (0 : Int32))] [2, 3, 4, 5, 1, 0] rfl ?_
  refine sk_loop (fun s3 => sk_G X C 8 S s3.2 13 [(0, .ref p0), (1, .int p1), (2, .int p2), (3, .int p3), (4, .int v38), (5, .int s3.1)] []) he3 (fun s3 o3 hf ih3 hx3 => ?_)
  unfold fX11_laysOrders_L13 at hf
  refine sk_iload K dX11_laysOrders_13 5 rfl ?_
  refine sk_aload_n K dX11_laysOrders_15 rfl 0 rfl ?_
  obtain ⟨v67, e68, hf⟩ := sk_ob hf
  refine sk_getR K dX11_laysOrders_16 fl_X11_13 rfl e68 ?_
  refine sk_iconst (1 : Int32) K dX11_laysOrders_19 (by decide) ?_
  obtain ⟨v69, e70, hf⟩ := sk_ob hf
  refine sk_ald20 K dX11_laysOrders_20 e70 ?_
  refine sk_icmp_ge 47 K dX11_laysOrders_21 (by decide) (fun h71 => ?_) (fun h71 => ?_)
  · rw [if_pos h71] at hf
    refine sk_sub [(0, .ref p0), (1, .int p1), (2, .int p2), (3, .int p3), (4, .int v38)] [0, 1, 2, 3, 4] rfl ?_
    have h9 := rest3 _ (hx3 _ (Option.some.inj hf).symm)
    exact h9
  · rw [if_neg h71] at hf
    refine sk_aload_n K dX11_laysOrders_24 rfl 0 rfl ?_
    obtain ⟨v72, e73, hf⟩ := sk_ob hf
    refine sk_getR K dX11_laysOrders_25 fl_X11_60 rfl e73 ?_
    refine sk_iload K dX11_laysOrders_28 5 rfl ?_
    refine sk_aload_n K dX11_laysOrders_30 rfl 0 rfl ?_
    obtain ⟨v74, e75, hf⟩ := sk_ob hf
    refine sk_getR K dX11_laysOrders_31 fl_X11_13 rfl e75 ?_
    refine sk_bipush (50 : Int32) K dX11_laysOrders_34 (by decide) ?_
    refine sk_iload K dX11_laysOrders_36 5 rfl ?_
    refine sk_iadd K dX11_laysOrders_38 ?_
    obtain ⟨v76, e77, hf⟩ := sk_ob hf
    refine sk_ald20 K dX11_laysOrders_39 e77 ?_
    obtain ⟨d78, e79, hf⟩ := sk_ob hf
    refine sk_ast20 d78 K dX11_laysOrders_40 e79 ?_
    refine sk_iinc (s3.1 + 1) [(5, .int (s3.1 + 1)), (0, .ref p0), (1, .int p1), (2, .int p2), (3, .int p3), (4, .int v38)] K dX11_laysOrders_41 5 rfl rfl (by decide) rfl ?_
    refine sk_goto 13 K dX11_laysOrders_44 (by decide) ?_
    refine sk_sub [(0, .ref p0), (1, .int p1), (2, .int p2), (3, .int p3), (4, .int v38), (5, .int (s3.1 + 1))] [1, 2, 3, 4, 5, 0] rfl ?_
    have h9 := ih3 _ (Option.some.inj hf).symm
    exact h9
noncomputable def fX11_orders (S : sk_S) (d : sk_D) (p0 : Nat) (p1 : Int32) : Option (Int32 × sk_D) :=
  (sk_pI S d p0 10 0 (0 : Int32)).bind fun d1 => if S.2.1 p0 = (10, 0) then ((fX11_noOrders S d1 p0 p1).bind fun v3 => if v3 = 0 then (if S.2.1 p0 = (10, 0) then ((fX11_laysOrders S d1 p0 p1 (-1 : Int32) (-1 : Int32)).bind fun b11 => some (b11.1, b11.2)) else none) else (some (v3, d1))) else none
set_option maxRecDepth 100000 in
set_option maxHeartbeats 4000000 in
theorem sX11_orders (C : sk_C) (l : Launch) {S : sk_S} {d : sk_D} {p0 : Nat} {p1 : Int32} {rr : Int32} {dd : sk_D} (hf : fX11_orders S d p0 p1 = some (rr, dd)) : sk_Met C l 4 yX11_orders cX11_orders 3 (some .int) [.ref p0, .int p1] S d (some (.int rr)) S dd := by
  refine sk_Met.of (by decide) (Nat.le_of_ble_eq_true rfl) (Nat.le_refl _) (Nat.le_refl _) (fun X K0 hX => ?_)
  have K : sk_Ok X C cX11_orders 3 RX11 "orders" (some .int) 4 l (some (.int rr)) S dd := K0
  have R1 : X.2.2.2.2.2.2.2.2.2.2.2.1 ≤ S.1.1 ∧ X.2.2.2.2.2.2.2.2.2.2.2.2 ≤ S.1.2 := by rw [hX]; exact ⟨Nat.le_refl _, Nat.le_refl _⟩
  have R2 : S.1.1 ≤ S.1.1 ∧ S.1.2 ≤ S.1.2 := ⟨Nat.le_refl _, Nat.le_refl _⟩
  show sk_G X C 3 S d 0 [(0, .ref p0), (1, .int p1)] []
  unfold fX11_orders at hf
  refine sk_aload_n K dX11_orders_0 rfl 0 rfl ?_
  refine sk_iconst (0 : Int32) K dX11_orders_1 (by decide) ?_
  obtain ⟨d1, e2, hf⟩ := sk_ob hf
  refine sk_putI d1 K dX11_orders_2 fl_X11_1 rfl rfl rfl e2 ?_
  refine sk_aload_n K dX11_orders_5 rfl 0 rfl ?_
  refine sk_iload_n K dX11_orders_6 rfl 1 rfl ?_
  obtain ⟨h5, hf⟩ := sk_ib hf
  obtain ⟨v3, e4, hf⟩ := sk_ob hf
  refine sk_callV (As := [.int p1]) (st := []) K dX11_orders_7 cl_X11_410 h5 (sX11_noOrders C l e4) (by decide) rfl rfl (Nat.le_of_ble_eq_true rfl) R1 R2 ?_
  refine sk_istore_n [(2, .int v3), (0, .ref p0), (1, .int p1)] K dX11_orders_10 rfl (by decide) rfl ?_
  refine sk_iload_n K dX11_orders_11 rfl 0 rfl ?_
  refine sk_if_eq 19 K dX11_orders_12 (by decide) (fun h6 => ?_) (fun h6 => ?_)
  · rw [if_pos h6] at hf
    refine sk_aload_n K dX11_orders_19 rfl 1 rfl ?_
    refine sk_iload_n K dX11_orders_20 rfl 2 rfl ?_
    refine sk_iconst (-1 : Int32) K dX11_orders_21 (by decide) ?_
    refine sk_iconst (-1 : Int32) K dX11_orders_22 (by decide) ?_
    obtain ⟨h10, hf⟩ := sk_ib hf
    obtain ⟨⟨v7, d9⟩, e8, hf⟩ := sk_ob hf
    try dsimp only at hf
    refine sk_callV (As := [.int p1, .int (-1 : Int32), .int (-1 : Int32)]) (st := []) K dX11_orders_23 cl_X11_413 h10 (sX11_laysOrders C l e8) (by decide) rfl rfl (Nat.le_of_ble_eq_true rfl) R1 R2 ?_
    have hR12 : (v7, d9) = (rr, dd) := Option.some.inj hf
    exact sk_iret K dX11_orders_26 rfl rfl (congrArg (fun z => z.1) hR12) rfl (congrArg (fun z => z.2) hR12)
  · rw [if_neg h6] at hf
    refine sk_iload_n K dX11_orders_15 rfl 0 rfl ?_
    refine sk_goto 26 K dX11_orders_16 (by decide) ?_
    have hR13 : (v3, d1) = (rr, dd) := Option.some.inj hf
    exact sk_iret K dX11_orders_26 rfl rfl (congrArg (fun z => z.1) hR13) rfl (congrArg (fun z => z.2) hR13)
noncomputable def fX11_order_L62 (S : sk_S) (p0 : Nat) (d16 : sk_D) (t1_a : Int32) (v11 : Int32) (s2 : Int32) : Option ((Int32) ⊕ (Int32)) :=
  (fX11_isIn S d16 ((v11 &&& (t1_a ^^^ (-1 : Int32))).toInt64) s2).bind fun v24 => if v24 = true then ((sk_gR S p0 10 28).bind fun v27 => (sk_lI S d16 v27 20 s2).bind fun v29 => if (v29 &&& (t1_a ^^^ (-1 : Int32))) = 0 then ((sk_gR S p0 10 29).bind fun v32 => (sk_lI S d16 v32 20 (t1_a ||| ((1 : Int32) <<< (s2 &&& 31)))).bind fun v34 => if v34 = 0 then (some (.inl (s2 + 1))) else (some (.inr s2))) else (some (.inl (s2 + 1)))) else (some (.inl (s2 + 1)))
noncomputable def fX11_order_L52 (S : sk_S) (p0 : Nat) (p2 : Int32) (d16 : sk_D) (v11 : Int32) (s1 : Int32 × Int32) : Option ((Int32 × Int32) ⊕ (Int32 × sk_D)) :=
  if s1.1 = v11 then (some (.inr ((-1 : Int32), d16))) else ((sk_itr (fX11_order_L62 S p0 d16 s1.1 v11) (0 : Int32)).bind fun y2 => if s1.2 = p2 then (some (.inr (y2, d16))) else (some (.inl (s1.1 ||| ((1 : Int32) <<< (y2 &&& 31)), s1.2 + 1))))
noncomputable def fX11_order (S : sk_S) (d : sk_D) (p0 : Nat) (p1 : Int32) (p2 : Int32) : Option (Int32 × sk_D) :=
  (sk_pI S d p0 10 0 (0 : Int32)).bind fun d1 => if S.2.1 p0 = (10, 0) then ((fX11_noOrders S d1 p0 p1).bind fun v3 => if v3 = 0 then (if 0 ≤ p2 then (if S.2.1 p0 = (10, 0) then ((fX11_standNow S d1 p0).bind fun v8 => if S.2.1 p0 = (10, 0) then ((fX11_doneIn S d1 p0 v8).bind fun v11 => if S.2.1 p0 = (10, 0) then ((fX11_laysOrders S d1 p0 p1 (-1 : Int32) (-1 : Int32)).bind fun b18 => if b18.1 = 0 then (some ((-1 : Int32), b18.2)) else ((sk_itr (fX11_order_L52 S p0 p2 b18.2 v11) ((0 : Int32), (0 : Int32))).bind fun x1 => some x1)) else none) else none) else none) else (some ((-3 : Int32), d1))) else (some (v3, d1))) else none
set_option maxRecDepth 100000 in
set_option maxHeartbeats 4000000 in
theorem sX11_order (C : sk_C) (l : Launch) {S : sk_S} {d : sk_D} {p0 : Nat} {p1 : Int32} {p2 : Int32} {rr : Int32} {dd : sk_D} (hf : fX11_order S d p0 p1 p2 = some (rr, dd)) : sk_Met C l 4 yX11_order cX11_order 8 (some .int) [.ref p0, .int p1, .int p2] S d (some (.int rr)) S dd := by
  refine sk_Met.of (by decide) (Nat.le_of_ble_eq_true rfl) (Nat.le_refl _) (Nat.le_refl _) (fun X K0 hX => ?_)
  have K : sk_Ok X C cX11_order 8 RX11 "order" (some .int) 4 l (some (.int rr)) S dd := K0
  have R1 : X.2.2.2.2.2.2.2.2.2.2.2.1 ≤ S.1.1 ∧ X.2.2.2.2.2.2.2.2.2.2.2.2 ≤ S.1.2 := by rw [hX]; exact ⟨Nat.le_refl _, Nat.le_refl _⟩
  have R2 : S.1.1 ≤ S.1.1 ∧ S.1.2 ≤ S.1.2 := ⟨Nat.le_refl _, Nat.le_refl _⟩
  show sk_G X C 8 S d 0 [(0, .ref p0), (1, .int p1), (2, .int p2)] []
  unfold fX11_order at hf
  refine sk_aload_n K dX11_order_0 rfl 0 rfl ?_
  refine sk_iconst (0 : Int32) K dX11_order_1 (by decide) ?_
  obtain ⟨d1, e2, hf⟩ := sk_ob hf
  refine sk_putI d1 K dX11_order_2 fl_X11_1 rfl rfl rfl e2 ?_
  refine sk_aload_n K dX11_order_5 rfl 0 rfl ?_
  refine sk_iload_n K dX11_order_6 rfl 1 rfl ?_
  obtain ⟨h5, hf⟩ := sk_ib hf
  obtain ⟨v3, e4, hf⟩ := sk_ob hf
  refine sk_callV (As := [.int p1]) (st := []) K dX11_order_7 cl_X11_410 h5 (sX11_noOrders C l e4) (by decide) rfl rfl (Nat.le_of_ble_eq_true rfl) R1 R2 ?_
  refine sk_istore_n [(3, .int v3), (0, .ref p0), (1, .int p1), (2, .int p2)] K dX11_order_10 rfl (by decide) rfl ?_
  refine sk_iload_n K dX11_order_11 rfl 0 rfl ?_
  refine sk_if_eq 17 K dX11_order_12 (by decide) (fun h6 => ?_) (fun h6 => ?_)
  · rw [if_pos h6] at hf
    refine sk_iload_n K dX11_order_17 rfl 3 rfl ?_
    refine sk_if_ge 24 K dX11_order_18 (by decide) (fun h7 => ?_) (fun h7 => ?_)
    · rw [if_pos h7] at hf
      refine sk_aload_n K dX11_order_24 rfl 1 rfl ?_
      refine sk_aload_n K dX11_order_25 rfl 1 rfl ?_
      obtain ⟨h10, hf⟩ := sk_ib hf
      obtain ⟨v8, e9, hf⟩ := sk_ob hf
      refine sk_callV (As := []) (st := [.ref p0]) K dX11_order_26 cl_X11_270 h10 (sX11_standNow C l e9) (by decide) rfl rfl (Nat.le_of_ble_eq_true rfl) R1 R2 ?_
      obtain ⟨h13, hf⟩ := sk_ib hf
      obtain ⟨v11, e12, hf⟩ := sk_ob hf
      refine sk_callV (As := [.int v8]) (st := []) K dX11_order_29 cl_X11_245 h13 (sX11_doneIn C l e12) (by decide) rfl rfl (Nat.le_of_ble_eq_true rfl) R1 R2 ?_
      refine sk_istore [(4, .int v11), (3, .int v3), (0, .ref p0), (1, .int p1), (2, .int p2)] K dX11_order_32 (by decide) rfl ?_
      refine sk_aload_n K dX11_order_34 rfl 2 rfl ?_
      refine sk_iload_n K dX11_order_35 rfl 3 rfl ?_
      refine sk_iconst (-1 : Int32) K dX11_order_36 (by decide) ?_
      refine sk_iconst (-1 : Int32) K dX11_order_37 (by decide) ?_
      obtain ⟨h17, hf⟩ := sk_ib hf
      obtain ⟨⟨v14, d16⟩, e15, hf⟩ := sk_ob hf
      try dsimp only at hf
      refine sk_callV (As := [.int p1, .int (-1 : Int32), .int (-1 : Int32)]) (st := []) K dX11_order_38 cl_X11_413 h17 (sX11_laysOrders C l e15) (by decide) rfl rfl (Nat.le_of_ble_eq_true rfl) R1 R2 ?_
      refine sk_if_ne 46 K dX11_order_41 (by decide) (fun h19 => ?_) (fun h19 => ?_)
      · rw [if_neg h19] at hf
        refine sk_iconst (0 : Int32) K dX11_order_46 (by decide) ?_
        refine sk_istore [(5, .int (0 : Int32)), (4, .int v11), (3, .int v3), (0, .ref p0), (1, .int p1), (2, .int p2)] K dX11_order_47 (by decide) rfl ?_
        refine sk_iconst (0 : Int32) K dX11_order_49 (by decide) ?_
        refine sk_istore [(6, .int (0 : Int32)), (5, .int (0 : Int32)), (4, .int v11), (3, .int v3), (0, .ref p0), (1, .int p1), (2, .int p2)] K dX11_order_50 (by decide) rfl ?_
        obtain ⟨x1, he1, hf⟩ := sk_ob hf
        have hret1 : ∀ r, r = x1 → r = (rr, dd) := by
          intro r hr
          subst hr
          exact Option.some.inj hf
        refine sk_sub [(0, .ref p0), (2, .int p2), (4, .int v11), (5, .int (0 : Int32)), (6, .int (0 : Int32))] [4, 6, 2, 1, 0] rfl ?_
        refine sk_loop (fun s1 => sk_G X C 8 S d16 52 [(0, .ref p0), (2, .int p2), (4, .int v11), (5, .int s1.1), (6, .int s1.2)] []) he1 (fun s1 o1 hf ih1 hx1 => ?_)
        unfold fX11_order_L52 at hf
        refine sk_iload K dX11_order_52 3 rfl ?_
        refine sk_iload K dX11_order_54 2 rfl ?_
        refine sk_icmp_eq 138 K dX11_order_56 (by decide) (fun h20 => ?_) (fun h20 => ?_)
        · rw [if_pos h20] at hf
          refine sk_iconst (-1 : Int32) K dX11_order_138 (by decide) ?_
          have hR21 : ((-1 : Int32), d16) = (rr, dd) := hret1 _ (hx1 _ (Option.some.inj hf).symm)
          exact sk_iret K dX11_order_139 rfl rfl (congrArg (fun z => z.1) hR21) rfl (congrArg (fun z => z.2) hR21)
        · rw [if_neg h20] at hf
          refine sk_iconst (0 : Int32) K dX11_order_59 (by decide) ?_
          refine sk_istore [(7, .int (0 : Int32)), (0, .ref p0), (2, .int p2), (4, .int v11), (5, .int s1.1), (6, .int s1.2)] K dX11_order_60 (by decide) rfl ?_
          obtain ⟨x2, he2, hf⟩ := sk_ob hf
          have rest2 : ∀ y2, y2 = x2 → sk_G X C 8 S d16 114 [(0, .ref p0), (2, .int p2), (4, .int v11), (5, .int s1.1), (6, .int s1.2), (7, .int y2)] [] := by
            intro y2 hy
            subst hy
            refine sk_iload K dX11_order_114 4 rfl ?_
            refine sk_iload_n K dX11_order_116 rfl 1 rfl ?_
            refine sk_icmp_ne 123 K dX11_order_117 (by decide) (fun h22 => ?_) (fun h22 => ?_)
            · rw [if_neg h22] at hf
              refine sk_iload K dX11_order_123 3 rfl ?_
              refine sk_iconst (1 : Int32) K dX11_order_125 (by decide) ?_
              refine sk_iload K dX11_order_126 5 rfl ?_
              refine sk_ishl K dX11_order_128 ?_
              refine sk_ior K dX11_order_129 ?_
              refine sk_istore [(5, .int (s1.1 ||| ((1 : Int32) <<< (y2 &&& 31)))), (0, .ref p0), (2, .int p2), (4, .int v11), (6, .int s1.2), (7, .int y2)] K dX11_order_130 (by decide) rfl ?_
              refine sk_iinc (s1.2 + 1) [(6, .int (s1.2 + 1)), (5, .int (s1.1 ||| ((1 : Int32) <<< (y2 &&& 31)))), (0, .ref p0), (2, .int p2), (4, .int v11), (7, .int y2)] K dX11_order_132 4 rfl rfl (by decide) rfl ?_
              refine sk_goto 52 K dX11_order_135 (by decide) ?_
              refine sk_sub [(0, .ref p0), (2, .int p2), (4, .int v11), (5, .int (s1.1 ||| ((1 : Int32) <<< (y2 &&& 31)))), (6, .int (s1.2 + 1))] [2, 3, 4, 1, 0] rfl ?_
              have h9 := ih1 _ (Option.some.inj hf).symm
              exact h9
            · rw [if_pos h22] at hf
              refine sk_iload K dX11_order_120 5 rfl ?_
              have hR23 : (y2, d16) = (rr, dd) := hret1 _ (hx1 _ (Option.some.inj hf).symm)
              exact sk_iret K dX11_order_122 rfl rfl (congrArg (fun z => z.1) hR23) rfl (congrArg (fun z => z.2) hR23)
          refine sk_sub [(0, .ref p0), (2, .int p2), (4, .int v11), (5, .int s1.1), (6, .int s1.2), (7, .int (0 : Int32))] [1, 2, 3, 4, 5, 0] rfl ?_
          refine sk_loop (fun s2 => sk_G X C 8 S d16 62 [(0, .ref p0), (2, .int p2), (4, .int v11), (5, .int s1.1), (6, .int s1.2), (7, .int s2)] []) he2 (fun s2 o2 hf ih2 hx2 => ?_)
          unfold fX11_order_L62 at hf
          refine sk_iload K dX11_order_62 2 rfl ?_
          refine sk_iload K dX11_order_64 3 rfl ?_
          refine sk_iconst (-1 : Int32) K dX11_order_66 (by decide) ?_
          refine sk_ixor K dX11_order_67 ?_
          refine sk_iand K dX11_order_68 ?_
          refine sk_i2l K dX11_order_69 ?_
          refine sk_iload K dX11_order_70 5 rfl ?_
          obtain ⟨v24, e25, hf⟩ := sk_ob hf
          refine sk_callS (As := [.long ((v11 &&& (s1.1 ^^^ (-1 : Int32))).toInt64), .int s2]) (st := []) K dX11_order_72 cl_X11_221 (sX11_isIn C l e25) (by decide) rfl rfl (Nat.le_of_ble_eq_true rfl) R1 R2 ?_
          refine sk_ifeqB 108 K dX11_order_75 (by decide) (fun h26 => ?_) (fun h26 => ?_)
          · rw [if_neg h26] at hf
            refine sk_iinc (s2 + 1) [(7, .int (s2 + 1)), (0, .ref p0), (2, .int p2), (4, .int v11), (5, .int s1.1), (6, .int s1.2)] K dX11_order_108 5 rfl rfl (by decide) rfl ?_
            refine sk_goto 62 K dX11_order_111 (by decide) ?_
            refine sk_sub [(0, .ref p0), (2, .int p2), (4, .int v11), (5, .int s1.1), (6, .int s1.2), (7, .int (s2 + 1))] [1, 2, 3, 4, 5, 0] rfl ?_
            have h9 := ih2 _ (Option.some.inj hf).symm
            exact h9
          · rw [if_pos h26] at hf
            refine sk_aload_n K dX11_order_78 rfl 0 rfl ?_
            obtain ⟨v27, e28, hf⟩ := sk_ob hf
            refine sk_getR K dX11_order_79 fl_X11_60 rfl e28 ?_
            refine sk_iload K dX11_order_82 5 rfl ?_
            obtain ⟨v29, e30, hf⟩ := sk_ob hf
            refine sk_ald20 K dX11_order_84 e30 ?_
            refine sk_iload K dX11_order_85 3 rfl ?_
            refine sk_iconst (-1 : Int32) K dX11_order_87 (by decide) ?_
            refine sk_ixor K dX11_order_88 ?_
            refine sk_iand K dX11_order_89 ?_
            refine sk_if_ne 108 K dX11_order_90 (by decide) (fun h31 => ?_) (fun h31 => ?_)
            · rw [if_neg h31] at hf
              refine sk_iinc (s2 + 1) [(7, .int (s2 + 1)), (0, .ref p0), (2, .int p2), (4, .int v11), (5, .int s1.1), (6, .int s1.2)] K dX11_order_108 5 rfl rfl (by decide) rfl ?_
              refine sk_goto 62 K dX11_order_111 (by decide) ?_
              refine sk_sub [(0, .ref p0), (2, .int p2), (4, .int v11), (5, .int s1.1), (6, .int s1.2), (7, .int (s2 + 1))] [1, 2, 3, 4, 5, 0] rfl ?_
              have h9 := ih2 _ (Option.some.inj hf).symm
              exact h9
            · rw [if_pos h31] at hf
              refine sk_aload_n K dX11_order_93 rfl 0 rfl ?_
              obtain ⟨v32, e33, hf⟩ := sk_ob hf
              refine sk_getR K dX11_order_94 fl_X11_63 rfl e33 ?_
              refine sk_iload K dX11_order_97 3 rfl ?_
              refine sk_iconst (1 : Int32) K dX11_order_99 (by decide) ?_
              refine sk_iload K dX11_order_100 5 rfl ?_
              refine sk_ishl K dX11_order_102 ?_
              refine sk_ior K dX11_order_103 ?_
              obtain ⟨v34, e35, hf⟩ := sk_ob hf
              refine sk_ald20 K dX11_order_104 e35 ?_
              refine sk_if_ne 114 K dX11_order_105 (by decide) (fun h36 => ?_) (fun h36 => ?_)
              · rw [if_neg h36] at hf
                refine sk_sub [(0, .ref p0), (2, .int p2), (4, .int v11), (5, .int s1.1), (6, .int s1.2), (7, .int s2)] [0, 1, 2, 3, 4, 5] rfl ?_
                have h9 := rest2 _ (hx2 _ (Option.some.inj hf).symm)
                exact h9
              · rw [if_pos h36] at hf
                refine sk_iinc (s2 + 1) [(7, .int (s2 + 1)), (0, .ref p0), (2, .int p2), (4, .int v11), (5, .int s1.1), (6, .int s1.2)] K dX11_order_108 5 rfl rfl (by decide) rfl ?_
                refine sk_goto 62 K dX11_order_111 (by decide) ?_
                refine sk_sub [(0, .ref p0), (2, .int p2), (4, .int v11), (5, .int s1.1), (6, .int s1.2), (7, .int (s2 + 1))] [1, 2, 3, 4, 5, 0] rfl ?_
                have h9 := ih2 _ (Option.some.inj hf).symm
                exact h9
      · rw [if_pos h19] at hf
        refine sk_iconst (-1 : Int32) K dX11_order_44 (by decide) ?_
        have hR37 : ((-1 : Int32), d16) = (rr, dd) := Option.some.inj hf
        exact sk_iret K dX11_order_45 rfl rfl (congrArg (fun z => z.1) hR37) rfl (congrArg (fun z => z.2) hR37)
    · rw [if_neg h7] at hf
      refine sk_bipush (-3 : Int32) K dX11_order_21 (by decide) ?_
      have hR38 : ((-3 : Int32), d1) = (rr, dd) := Option.some.inj hf
      exact sk_iret K dX11_order_23 rfl rfl (congrArg (fun z => z.1) hR38) rfl (congrArg (fun z => z.2) hR38)
  · rw [if_neg h6] at hf
    refine sk_iload_n K dX11_order_15 rfl 0 rfl ?_
    have hR39 : (v3, d1) = (rr, dd) := Option.some.inj hf
    exact sk_iret K dX11_order_16 rfl rfl (congrArg (fun z => z.1) hR39) rfl (congrArg (fun z => z.2) hR39)
