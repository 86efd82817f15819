/-! stands and most, on both sides -/
def st16 (m : Int32) : Int32 := m &&& 65535
theorem bt_16 (m : Int32) (i : Nat) : bt (st16 m) i = (bt m i && decide (i < 16)) := by unfold st16; rw [b_and, b_65535]
theorem mood_16 (m : Int32) {j : Nat} (hj : j < 8) : mood (st16 m) j = mood m j := by
  apply mood_of
  · rw [bt_16]; simp; omega
  · rw [bt_16]; simp; omega
theorem stnd_16 (m : Int32) : stnd (st16 m) = stnd m := stnd_cong (fun e he => mood_16 m he)
theorem ok_16 {L : LF} {m : Int32} (h : okM L m) : okS L (st16 m) := by
  refine ⟨⟨?_, ?_, 0, by omega, ?_⟩, ?_⟩
  · intro i h1 h2
    rw [bt_16, bt_16, (h.1 i h1 h2).1, (h.1 i h1 h2).2]; simp
  · intro i hi hb e he hne
    rw [bt_16] at hb ⊢
    simp at hb
    simp [h.2.1 i hi hb.1 e he hne]; omega
  · apply b_ext
    intro i hi
    unfold sp
    rw [show (16 : Int32) = nI 16 from rfl, b_sshr 16 (by omega) _ hi, b_low2 (n := 0) (by omega) (by omega) hi]
    split
    · rw [bt_16]; simp
    · rw [bt_16]; simp
  · intro i h1 h2; rw [bt_16]; simp; omega
theorem mfr.bf {d e : sk_D} (h : Fr bfm d e) (h94 : ∀ j, j ≠ 25 → e.1 94 j = d.1 94 j) : mfr d e ∧ e.1 95 = d.1 95 := by
  unfold bfm at h
  refine ⟨⟨fun k _ => by rw [h.i (b := 95) (by omega)], fun k hk => h94 k (by omega), fun b hb => h.i (by omega), h.j (by omega), h.mono (fun b hb => by unfold mdl; omega)⟩, h.i (by omega)⟩
theorem RM.bf {S : sk_S} {d e : sk_D} {A : AS} (h : RM S d A) (hl : (as_ps A).length ≤ 10) (f : Fr bfm d e) (h94 : ∀ j, j ≠ 25 → e.1 94 j = d.1 94 j) : RM S e A := by
  obtain ⟨a, b⟩ := mfr.bf f h94
  exact h.keep a (fun k _ _ => by rw [b]) (by rw [b]; exact h.2.1.1) hl
theorem m_lays {S : sk_S} {d : sk_D} {A : AS} (h : RM S d A) (hA : okA A) :
    ∃ d', fX11_laysStands S d 94 = some d' ∧ wmQ d' (bq (as_L A) (st16 (as_m A))) ∧ wmT d' (as_L A) (bq (as_L A) (st16 (as_m A))) (bq (as_L A) (st16 (as_m A))).length ∧ RM S d' A ∧ Fr bfm d d' ∧ ∀ j, j ≠ 25 → d'.1 94 j = d.1 94 j := by
  have hS := h.1.1
  have hk := hA.1
  have hf := ok_16 hA.2.1
  have vb : vp_nar .boolean (0 : Int32) = 0 := by decide
  unfold fX11_laysStands
  have l1 := it_for (body := fX11_laysStands_L2 S 94) (fun k z => z.1 = nI k ∧ Fr (fun b => b = 105) d z.2 ∧ ∀ i, i < k → z.2.1 105 i = 0) 65536
    (fun e => Fr (fun b => b = 105) d e ∧ ∀ i, i < 65536 → e.1 105 i = 0) ?_ ?_ (s := ((0 : Int32), d)) ⟨rfl, Fr.refl _ _, fun i hi => by omega⟩
  · obtain ⟨y1, hy, y2, y3⟩ := l1
    have r1 : RM S (sk_uI y1 94 25 0) A := h.bf hA.2.2.2.1 ((y2.mono (fun b hb => by unfold bfm; omega)).tI (by unfold bfm; omega)) (fun j hj => by rw [uI_k _ _ _ _ _ hj, y2.i (by omega)])
    have s1 := m_stand hS r1.2.1.1.1
    have q0 : wmQ (sk_uI y1 94 25 0) [] := by
      refine ⟨by rw [uI_s]; rfl, fun i x hx => by simp at hx, fun i hi => ?_⟩
      rw [uI_a _ _ _ 105 _ (by decide), y3 i hi]
      simp
    have hnil : allS (as_L A) [] := fun x hx => by simp at hx
    have hnil2 : nds [] := fun i j x y hx => by simp at hx
    obtain ⟨d2, a1, a2, a3, a4⟩ := m_adds (b := 0) (e := 31) hS q0 hnil hnil2 hf
    have e1 : rch [] (st16 (as_m A)) 0 31 = qs (as_L A) (st16 (as_m A)) 0 := by
      unfold rch
      rw [if_neg]
      · rfl
      · intro a
        rcases a with a | a
        · exact hf.1.pos a
        · simp at a
    rw [e1] at a2
    rw [stnd_16] at a1
    have fr2 : Fr bfm d d2 := ((y2.mono (fun b hb => by unfold bfm; omega)).tI (by unfold bfm; omega)).trans (a3.mono (fun b hb => by unfold bfm; omega))
    have g2 : ∀ j, j ≠ 25 → d2.1 94 j = d.1 94 j := fun j hj => by rw [a4 j hj, uI_k _ _ _ _ _ hj, y2.i (by omega)]
    rw [hy, Option.bind_some, pi94 hS, Option.bind_some, if_pos (kd94 hS), s1, Option.bind_some, if_pos (kd94 hS), a1, Option.bind_some]
    have loop := it_wf (body := fX11_laysStands_L36 S 94) (fun z => ∃ k, k ≤ 65536 ∧ z.1 = nI k ∧ wmQ z.2 (qs (as_L A) (st16 (as_m A)) k) ∧ (∀ i x, i < k → (qs (as_L A) (st16 (as_m A)) k)[i]? = some x → ∀ mv, mv < 16 → z.2.1 103 (16 * stN x.1 + mv) = mvS (as_L A) x.1 mv) ∧ Fr bfm d z.2 ∧ ∀ j, j ≠ 25 → z.2.1 94 j = d.1 94 j) (fun z => 65536 - z.1.toNatClampNeg)
      (fun e => wmQ e (bq (as_L A) (st16 (as_m A))) ∧ wmT e (as_L A) (bq (as_L A) (st16 (as_m A))) (bq (as_L A) (st16 (as_m A))).length ∧ Fr bfm d e ∧ ∀ j, j ≠ 25 → e.1 94 j = d.1 94 j) ?_ ((0 : Int32), d2) ⟨0, by omega, rfl, a2, fun i x hi => by omega, fr2, g2⟩
    · obtain ⟨e, he, x1, x2, x3, x4⟩ := loop
      exact ⟨e, by rw [he]; rfl, x1, x2, h.bf hA.2.2.2.1 x3 x4, x3, x4⟩
    · intro z ⟨k, hk6, i1, i2, i3, i4, i5⟩
      obtain ⟨aQ, bQ⟩ := qs_ok hk hf k
      have lQ := nds_len aQ bQ
      unfold fX11_laysStands_L36
      rw [i1, gi94 hS, Option.bind_some, i2.1]
      by_cases stop : (qs (as_L A) (st16 (as_m A)) k).length ≤ k
      · right
        rw [if_pos (nI_le stop (by omega))]
        have eb := bq_at hk hf stop hk6
        refine ⟨_, rfl, by rw [eb]; exact i2, ?_, i4, i5⟩
        rw [eb]
        intro i x hi hx mv hm
        exact i3 i x (by omega) hx mv hm
      · left
        have hlt : k < (qs (as_L A) (st16 (as_m A)) k).length := by omega
        obtain ⟨x, hx⟩ : ∃ x, (qs (as_L A) (st16 (as_m A)) k)[k]? = some x := ⟨_, List.getElem?_eq_getElem hlt⟩
        rw [if_neg (nI_ge hlt (by omega))]
        obtain ⟨y3, s1, s2, s3, s4, s5⟩ := m_lay1 (h.bf hA.2.2.2.1 i4 i5).1 i2 aQ bQ hx (fun i y hi hy => i3 i y hi hy)
        rw [s1, Option.bind_some]
        refine ⟨_, rfl, ⟨k + 1, by omega, nI_1 k, by rw [qs_some hx]; exact s2, ?_, i4.trans s4, fun j hj => by rw [s5 j hj]; exact i5 j hj⟩, ?_⟩
        · intro i y hi hy mv hm
          rw [(qs_step (as_L A) (st16 (as_m A)) k).2 i (by omega)] at hy
          exact s3 i y hi hy mv hm
        · show 65536 - (nI k + 1).toNatClampNeg < 65536 - (nI k).toNatClampNeg
          rw [nI_1, nI_clamp (by omega), nI_clamp (by omega)]
          omega
  · intro k z hk ⟨i1, i2, i3⟩
    left
    unfold fX11_laysStands_L2
    rw [i1]
    have hx : ¬ (65536 : Int32) ≤ nI k := nI_ge (b := 65536) hk (by omega)
    simp (disch := omega) only [hx, Option.bind_some, ↓reduceIte, nI_leI, nI_ltI, nI_eq, nI_1, kd94 hS, gi94 hS, pi94 hS, gr94_1 hS, gr94_2 hS, gr94_3 hS, gr94_4 hS, gr94_16 hS, gr94_17 hS, gr94_18 hS, gr94_21 hS, gr94_22 hS, gr94_23 hS, gr94_24 hS, gr94_26 hS, gr94_27 hS, gr94_28 hS, gr94_29 hS, gr94_30 hS, gr94_31 hS, gr94_33 hS, gr94_34 hS, gr94_35 hS, gr94_36 hS, si105 hS, vb]
    refine ⟨_, rfl, rfl, i2.tI rfl, ?_⟩
    intro i hi
    by_cases c : i = k
    · subst c; rw [uI_s]
    · rw [uI_k _ _ _ _ _ c]; exact i3 i (by omega)
  · intro z ⟨i1, i2, i3⟩
    unfold fX11_laysStands_L2
    rw [i1, if_pos (show (65536 : Int32) ≤ nI 65536 from nI_le (a := 65536) (Nat.le_refl _) (by omega))]
    exact ⟨_, rfl, i2, i3⟩
theorem f_st (S : sk_S) (d : sk_D) (m : Int32) : fX10_stateIn S d m = some (st16 m) := rfl
theorem c_spreadA {S : sk_S} {d : sk_D} {A : AS} (h : RC S d A) (hA : okA A) :
    ∃ S' d' q c w m len, fX8_spread S d 40 2 (st16 (as_m A)) = some (S', d') ∧ RC S' d' A ∧ WS S' q c w m len ∧ wkF d' (as_L A) (st16 (as_m A)) q c len ∧ Fr cls d d' := by
  obtain ⟨S2, d2, q, c, w, m, len, a1, a2, a3, a4, a5⟩ := c_spread h.1 h.2.2.2.2.2.2 (ok_16 hA.2.1)
  have fi : ∀ b, ¬ wks S b → d2.1 b = d.1 b := fun b hb => a5.i hb
  have fj : ∀ b, ¬ wks S b → d2.2 b = d.2 b := fun b hb => a5.j hb
  unfold wks scr wkc at fi fj
  obtain ⟨-, hp, ht, hf, hr, hi, hw⟩ := h
  refine ⟨S2, d2, q, c, w, m, len, a1, ⟨a2, ?_, ?_, ?_, ?_, ?_, ⟨q, c, w, m, len, a3, Or.inr ⟨_, a4⟩⟩⟩, a3, a4, a5.mono (fun b hb => by unfold wks scr wkc at hb; unfold cls; omega)⟩
  · unfold rcP; rw [fi 50 (by omega), fi 51 (by omega)]; exact hp
  · unfold rcT; rw [fi 1 (by omega), fi 55 (by omega)]; exact ht
  · rw [fi 21 (by omega)]; exact hf
  · intro t h4; exact (hr t h4).same (fi _ (by omega)) (fj _ (by omega))
  · intro i h2; exact (hi i h2).same h2 (fun b _ => fi b (by omega))
noncomputable def x_stands (A : AS) : Int32 := nI (bq (as_L A) (st16 (as_m A))).length
theorem c_stands {S : sk_S} {d : sk_D} {A : AS} (h : RC S d A) (hA : okA A) : ∃ S' d', fX10_stands S d 1 = some (x_stands A, S', d') ∧ RC S' d' A ∧ Fr cls d d' := by
  have hS := h.1.1
  obtain ⟨S2, d2, q, c, w, m, len, a1, a2, a3, a4, a5⟩ := c_spreadA h hA
  refine ⟨S2, d2, ?_, a2, a5⟩
  unfold fX10_stands
  rw [gr1_2 hS, Option.bind_some, gr1_0 hS, Option.bind_some, gr1_5 hS, Option.bind_some, gi50 hS, Option.bind_some, h.2.1.1, f_st, Option.bind_some, if_pos (kd40 hS), a1, Option.bind_some]
  dsimp only
  rw [gr1_2 a2.1.1, Option.bind_some, gi40 a2.1.1, Option.bind_some, a4.2.2.2.2.2.1]
  rfl
theorem m_stands {S : sk_S} {d : sk_D} {A : AS} (h : RM S d A) (hA : okA A) : ∃ d', fX11_stands S d 94 = some (x_stands A, d') ∧ RM S d' A ∧ Fr mdl d d' := by
  have hS := h.1.1
  obtain ⟨d2, a1, a2, a3, a4, a5, a6⟩ := m_lays (h.m0 0) hA
  refine ⟨d2, ?_, a4, (mfr0 d 0).2.2.2.2.trans (mfr.bf a5 a6).1.2.2.2.2⟩
  unfold fX11_stands
  rw [pi94 hS, Option.bind_some, if_pos (kd94 hS), a1, Option.bind_some, gi94 hS, Option.bind_some, a2.1]
  rfl
def mx (Q : List TQ) : Nat → Int32
  | 0 => 0
  | k + 1 => if mx Q k < pc (sw (Q.getD k (0, 0, 0)).1) then pc (sw (Q.getD k (0, 0, 0)).1) else mx Q k
noncomputable def x_most (A : AS) : Int32 := mx (bq (as_L A) (st16 (as_m A))) (bq (as_L A) (st16 (as_m A))).length
theorem getD_of {Q : List TQ} {k : Nat} {x : TQ} (h : Q[k]? = some x) : Q.getD k (0, 0, 0) = x := by rw [List.getD_eq_getElem?_getD, h]; rfl
theorem c_most {S : sk_S} {d : sk_D} {A : AS} (h : RC S d A) (hA : okA A) : ∃ S' d', fX10_most S d 1 = some (x_most A, S', d') ∧ RC S' d' A ∧ Fr cls d d' := by
  have hS := h.1.1
  obtain ⟨S2, d2, q, c, w, m, len, a1, a2, a3, a4, a5⟩ := c_spreadA h hA
  have hS2 := a2.1.1
  refine ⟨S2, d2, ?_, a2, a5⟩
  unfold fX10_most fX8_mostShown
  rw [gr1_2 hS, Option.bind_some, gr1_0 hS, Option.bind_some, gr1_5 hS, Option.bind_some, gi50 hS, Option.bind_some, h.2.1.1, f_st, Option.bind_some, if_pos (kd40 hS), if_pos (kd40 hS), a1, Option.bind_some]
  dsimp only
  obtain ⟨b1, b2, b3⟩ := bq_ok hA.1 (ok_16 hA.2.1)
  have l4 := nds_len4 hA.1 b1 b2
  have lf := a4.2.2.2.2.1
  have cq := a4.2.2.2.2.2.1
  have qq := a4.2.2.2.2.2.2.1
  have kq := a3.2.2.2.2.1
  have hl2 := a3.len
  obtain ⟨gq, -, -, -⟩ := ws_q hS2 a3
  unfold x_most
  generalize bq (as_L A) (st16 (as_m A)) = Q at b1 b2 b3 l4 cq qq ⊢
  have e := it_eq (body := fX8_mostShown_L11 40 S2 d2) (fun k => (mx Q k, nI k)) Q.length (mx Q Q.length, S2, d2) ?_ ?_
  · rw [show ((0 : Int32), (0 : Int32)) = (mx Q 0, nI 0) from rfl, e]; rfl
  · intro k hk
    obtain ⟨x, hx⟩ : ∃ x, Q[k]? = some x := ⟨_, List.getElem?_eq_getElem hk⟩
    obtain ⟨l, hl, el⟩ := sw_nI x.1
    unfold fX8_mostShown_L11
    dsimp only
    rw [gi40 hS2, Option.bind_some, cq, if_neg (nI_ge hk (by omega)), gq, Option.bind_some, kl_al kq, Option.bind_some, if_neg (nI_ge (show k < len by omega) (by omega)), Option.bind_some, kl_lI kq hl2.2 _ (show k < len by omega), Option.bind_some, (qq k x hx).1, f_sw, Option.bind_some, el, f_bc l (by omega), Option.bind_some, mx, getD_of hx, el, nI_1]
  · unfold fX8_mostShown_L11
    dsimp only
    rw [gi40 hS2, Option.bind_some, cq, if_pos (nI_le (Nat.le_refl _) (by omega))]
theorem m_most {S : sk_S} {d : sk_D} {A : AS} (h : RM S d A) (hA : okA A) : ∃ d', fX11_most S d 94 = some (x_most A, d') ∧ RM S d' A ∧ Fr mdl d d' := by
  have hS := h.1.1
  obtain ⟨d2, a1, a2, a3, a4, a5, a6⟩ := m_lays (h.m0 0) hA
  refine ⟨d2, ?_, a4, (mfr0 d 0).2.2.2.2.trans (mfr.bf a5 a6).1.2.2.2.2⟩
  unfold fX11_most
  rw [pi94 hS, Option.bind_some, if_pos (kd94 hS), a1, Option.bind_some]
  obtain ⟨b1, b2, b3⟩ := bq_ok hA.1 (ok_16 hA.2.1)
  obtain ⟨q0, q1, q2⟩ := a2
  unfold x_most
  generalize bq (as_L A) (st16 (as_m A)) = Q at b1 b2 b3 q0 q1 ⊢
  have e := it_eq (body := fX11_most_L13 S 94 d2) (fun k => (mx Q k, nI k)) Q.length (mx Q Q.length, d2) ?_ ?_
  · rw [show ((0 : Int32), (0 : Int32)) = (mx Q 0, nI 0) from rfl, e]; rfl
  · intro k hk
    obtain ⟨x, hx⟩ : ∃ x, Q[k]? = some x := ⟨_, List.getElem?_eq_getElem hk⟩
    have okx := b1 x (List.mem_of_getElem? hx)
    have sh := m_shown hS hA.1 a4.1.2.2 okx.1.z
    unfold fX11_most_L13
    dsimp only
    rw [gi94 hS, Option.bind_some, q0, if_neg (nI_ge hk (by omega)), gr94_21 hS, Option.bind_some, li102 hS _ (show k < 65536 by omega), Option.bind_some, q1 k x hx, if_pos (kd94 hS), sh, Option.bind_some, m_bits, Option.bind_some, mx, getD_of hx]
    by_cases c : pc (sw x.1) ≤ mx Q k
    · rw [if_pos c, if_neg (by rw [Int32.not_lt]; exact c), nI_1]
    · rw [if_neg c, if_pos (by rw [← Int32.not_le]; exact c)]
      simp only [Option.bind_some, if_pos (kd94 hS), li102 hS d2 (show k < 65536 by omega), q1 k x hx, sh, m_bits, nI_1]
  · unfold fX11_most_L13
    dsimp only
    rw [gi94 hS, Option.bind_some, q0, if_pos (nI_le (Nat.le_refl _) (by omega))]
