/-! told deeds in the reference; years -/
theorem m_tells {S : sk_S} {d : sk_D} {A : AS} (h : RM S d A) (hA : okA A) {j : Nat} (hj : j < 4) {x : Int32 × List Int64} (hx : as_tr A j = some x) :
    ∃ d', fX11_tells S d 94 (nI j) = some (nI (hm (as_L A) (as_m A) x.2), d') ∧ mfr d d' ∧ (∀ k, 83 ≤ k → k < 174 → d'.1 95 k = d.1 95 k) ∧ mM (fun k => d'.1 95 (74 + k)) (mi (as_L A) (as_m A) x.2 (hm (as_L A) (as_m A) x.2)) ∧ d'.1 101 = d.1 101 ∧
      d'.1 94 19 = (if hm (as_L A) (as_m A) x.2 < x.2.length then -(mi (as_L A) (as_m A) x.2 (hm (as_L A) (as_m A) x.2 + 1)) else 0) := by
  have hS := h.1.1
  have hl := hA.len j x hx
  have ht := h.2.2.2.2.1 j hj
  rw [hx] at ht
  unfold fX11_tells
  rw [pi94 hS, Option.bind_some]
  have loop := it_for (body := fX11_tells_L7 S 94 (nI j)) (fun i s => s.1 = nI i ∧ mfr d s.2 ∧ (∀ k, 83 ≤ k → k < 174 → s.2.1 95 k = d.1 95 k) ∧ mM (fun k => s.2.1 95 (74 + k)) (mi (as_L A) (as_m A) x.2 i) ∧ s.2.1 101 = d.1 101 ∧ s.2.1 94 19 = 0 ∧ ∀ e, e < i → ¬ mi (as_L A) (as_m A) x.2 (e + 1) < 0) x.2.length
    (fun e => e.1 = nI (hm (as_L A) (as_m A) x.2) ∧ mfr d e.2 ∧ (∀ k, 83 ≤ k → k < 174 → e.2.1 95 k = d.1 95 k) ∧ mM (fun k => e.2.1 95 (74 + k)) (mi (as_L A) (as_m A) x.2 (hm (as_L A) (as_m A) x.2)) ∧ e.2.1 101 = d.1 101 ∧
      e.2.1 94 19 = (if hm (as_L A) (as_m A) x.2 < x.2.length then -(mi (as_L A) (as_m A) x.2 (hm (as_L A) (as_m A) x.2 + 1)) else 0)) ?_ ?_ (s := ((0 : Int32), sk_uI d 94 19 0))
    ⟨rfl, mfr.f94 d (by omega), fun k _ _ => by rw [uI_a _ _ _ 95 _ (by decide)], by rw [uI_a _ _ _ 95 _ (by decide)]; exact h.2.1.1, uI_a _ _ _ _ _ (by decide), uI_s _ _ _ _, fun e he => by omega⟩
  · obtain ⟨e, he, e1, e2⟩ := loop
    refine ⟨e.2, ?_, e2⟩
    rw [he, ← e1]; rfl
  · intro i s hi ⟨i1, i2, i3, i4, i5, i6, i7⟩
    have t1 : s.2.1 114 = d.1 114 := i2.2.2.1 114 (by omega)
    have t2 : s.2.2 115 = d.2 115 := i2.2.2.2.1
    have hxx : ¬ x.2.length ≤ i := by omega
    have gv := ht.2.2 i hi
    have okm := ok_mi hA.1 hA.2.1 x.2 i i7
    have hM := h.1.mfr i2
    unfold fX11_tells_L7
    rw [i1]
    rcases m_act hM i4 okm (x.2.getD i 0) with ⟨b1, b2⟩ | ⟨b1, b2, b3⟩
    · right
      obtain ⟨n1, n2, -⟩ := wy_neg b2
      have hh := hm_at hi i7 n1
      simp (disch := omega) only [Option.bind_some, ↓reduceIte, nI_leI, nI_ltI, nI_eq, nI_1, kd94 hS, gi94 hS, pi94 hS, gr94_1 hS, gr94_2 hS, gr94_3 hS, gr94_4 hS, gr94_16 hS, gr94_17 hS, gr94_18 hS, gr94_21 hS, gr94_22 hS, gr94_23 hS, gr94_24 hS, gr94_26 hS, gr94_27 hS, gr94_28 hS, gr94_29 hS, gr94_30 hS, gr94_31 hS, gr94_33 hS, gr94_34 hS, gr94_35 hS, gr94_36 hS, li114 hS, t1, ht.2.1, hxx, p40, lj115 hS, t2, gv, b1, uI_s, n2]
      refine ⟨_, rfl, by rw [hh], i2.trans (mfr.f94 _ (by omega)), fun k h1 h2 => by rw [uI_a _ _ _ 95 _ (by decide)]; exact i3 k h1 h2, by rw [uI_a _ _ _ 95 _ (by decide), hh]; exact i4, by rw [uI_a _ _ _ 101 _ (by decide)]; exact i5, ?_⟩
      rw [uI_s, hh, if_pos hi]
      show wy (tde _ _ _) = -(tde _ _ _)
      unfold wy
      rw [if_pos n1]
    · left
      obtain ⟨d1, c1, c2, c3, c4, c5, c6⟩ := b3 (sk_uI s.2 94 19 0) (uI_a _ _ _ _ _ (by decide))
      have u2 : (sk_uI s.2 94 19 0).2 115 = d.2 115 := t2
      simp (disch := omega) only [Option.bind_some, ↓reduceIte, nI_leI, nI_ltI, nI_eq, nI_1, kd94 hS, gi94 hS, pi94 hS, gr94_1 hS, gr94_2 hS, gr94_3 hS, gr94_4 hS, gr94_16 hS, gr94_17 hS, gr94_18 hS, gr94_21 hS, gr94_22 hS, gr94_23 hS, gr94_24 hS, gr94_26 hS, gr94_27 hS, gr94_28 hS, gr94_29 hS, gr94_30 hS, gr94_31 hS, gr94_33 hS, gr94_34 hS, gr94_35 hS, gr94_36 hS, li114 hS, t1, ht.2.1, hxx, p40, lj115 hS, t2, u2, gv, b1, uI_s, c1]
      refine ⟨_, rfl, rfl, (i2.trans (mfr.f94 _ (by omega))).trans c2, fun k h1 h2 => by rw [c3 k h1 h2, uI_a _ _ _ 95 _ (by decide)]; exact i3 k h1 h2, c4, by rw [c5, uI_a _ _ _ 101 _ (by decide)]; exact i5, by rw [c6, uI_s], ?_⟩
      intro e he
      by_cases c : e = i
      · subst c; exact b2.pos
      · exact i7 e (by omega)
  · intro s ⟨i1, i2, i3, i4, i5, i6, i7⟩
    have t1 : s.2.1 114 = d.1 114 := i2.2.2.1 114 (by omega)
    have hh := hm_end i7
    unfold fX11_tells_L7
    rw [i1]
    simp (disch := omega) only [Option.bind_some, ↓reduceIte, nI_leI, nI_ltI, nI_eq, nI_1, kd94 hS, gi94 hS, pi94 hS, gr94_1 hS, gr94_2 hS, gr94_3 hS, gr94_4 hS, gr94_16 hS, gr94_17 hS, gr94_18 hS, gr94_21 hS, gr94_22 hS, gr94_23 hS, gr94_24 hS, gr94_26 hS, gr94_27 hS, gr94_28 hS, gr94_29 hS, gr94_30 hS, gr94_31 hS, gr94_33 hS, gr94_34 hS, gr94_35 hS, gr94_36 hS, li114 hS, t1, ht.2.1, Nat.le_refl]
    refine ⟨_, rfl, by rw [hh], i2, i3, by rw [hh]; exact i4, i5, ?_⟩
    rw [i6, hh, if_neg (by omega)]
theorem m_isAgain {S : sk_S} {d : sk_D} (hS : Sh S) : ∃ d', fX11_isAgain S d 94 = some d' ∧ Fr (fun b => b = 95) d d' ∧ ∀ i, d'.1 95 i = if 74 ≤ i ∧ i < 83 then d.1 101 (i - 74) else d.1 95 i := by
  unfold fX11_isAgain
  have loop := it_for (body := fX11_isAgain_L2 S 94) (fun k s => s.1 = nI k ∧ Fr (fun b => b = 95) d s.2 ∧ ∀ i, s.2.1 95 i = if 74 ≤ i ∧ i < 74 + k then d.1 101 (i - 74) else d.1 95 i) 9
    (fun e => Fr (fun b => b = 95) d e ∧ ∀ i, e.1 95 i = if 74 ≤ i ∧ i < 83 then d.1 101 (i - 74) else d.1 95 i) ?_ ?_ (s := ((0 : Int32), d)) ⟨rfl, Fr.refl _ _, fun i => by rw [if_neg (by omega)]⟩
  · obtain ⟨e, he, q⟩ := loop
    exact ⟨e, by rw [he]; rfl, q⟩
  · intro k s hk ⟨i1, i2, i3⟩
    left
    unfold fX11_isAgain_L2
    rw [i1]
    have hx : ¬ (9 : Int32) ≤ nI k := nI_ge (b := 9) (by omega) (by omega)
    have e101 : s.2.1 101 = d.1 101 := i2.i (by omega)
    simp (disch := omega) only [hx, Option.bind_some, ↓reduceIte, nI_leI, nI_ltI, nI_eq, nI_1, kd94 hS, gi94 hS, pi94 hS, gr94_1 hS, gr94_2 hS, gr94_3 hS, gr94_4 hS, gr94_16 hS, gr94_17 hS, gr94_18 hS, gr94_21 hS, gr94_22 hS, gr94_23 hS, gr94_24 hS, gr94_26 hS, gr94_27 hS, gr94_28 hS, gr94_29 hS, gr94_30 hS, gr94_31 hS, gr94_33 hS, gr94_34 hS, gr94_35 hS, gr94_36 hS, p74, li101 hS, e101, si95 hS]
    refine ⟨_, rfl, rfl, i2.tI rfl, ?_⟩
    intro i
    by_cases q : i = 74 + k
    · subst q
      rw [uI_s, if_pos (by omega), Nat.add_sub_cancel_left]
    · rw [uI_k _ _ _ _ _ q, i3]
      by_cases q2 : 74 ≤ i ∧ i < 74 + k
      · rw [if_pos q2, if_pos (by omega)]
      · rw [if_neg q2, if_neg (by omega)]
  · intro s ⟨i1, i2, i3⟩
    unfold fX11_isAgain_L2
    rw [i1]
    exact ⟨_, rfl, i2, i3⟩
theorem RM.keep {S : sk_S} {d e : sk_D} {A : AS} (h : RM S d A) (f : mfr d e) (hk : ∀ k, 83 ≤ k → k < 174 → e.1 95 k = d.1 95 k) (hm : mM (fun k => e.1 95 (74 + k)) (as_m A)) (hl : (as_ps A).length ≤ 10) : RM S e A := by
  obtain ⟨p1, p2, p3⟩ := h.2.1
  have := RM.upd (m := as_m A) (ps := as_ps A) h f ⟨hm, by rw [hk 83 (by omega) (by omega)]; exact p2, fun i hi => (p3 i hi).same (fun k h9 => hk _ (by omega) (by omega))⟩
  exact this
theorem ok_mih {A : AS} (hA : okA A) (l : List Int64) : okM (as_L A) (mi (as_L A) (as_m A) l (hm (as_L A) (as_m A) l)) := ok_mi hA.1 hA.2.1 l _ (fun e he => hm_no he)
theorem m_judge {S : sk_S} {d : sk_D} {A : AS} (h : RM S d A) (hA : okA A) (t w : Int32) : ∃ d', fX11_judge S d 94 t w = some (x_judge A t w, d') ∧ RM S d' A ∧ Fr mdl d d' := by
  have hS := h.1.1
  have h0 := h.m0 0
  have ew := w_in (p := w) 4 3 rfl
  unfold fX11_judge x_judge
  rw [pi94 hS, Option.bind_some, f_within, Option.bind_some]
  by_cases hw : inN 4 w
  · rw [decide_eq_true (ew.mpr hw), if_pos rfl, if_pos (kd94 hS), m_noTray h0 hA, Option.bind_some]
    by_cases ht : inN 4 t
    · have htw : ¬ (¬ inN 4 t ∨ ¬ inN 4 w) := by
        intro a
        rcases a with a | a
        · exact a ht
        · exact a hw
      rw [if_neg htw]
      obtain ⟨j, hj, rfl⟩ := inN_of ht
      rw [x_noTray_j A hj, nI_clamp (by omega)]
      cases hx : as_tr A j with
      | none =>
        rw [if_neg (by decide)]
        exact ⟨_, rfl, h0, (mfr0 d 0).2.2.2.2⟩
      | some x =>
        rw [if_pos (show (if (some x).isNone = true then (-6 : Int32) else 0) = 0 from rfl)]
        dsimp only
        obtain ⟨d1, g1, g2, g3, g4, g5, g6⟩ := m_beg h
        have r1 : RM S d1 A := h.keep g2 (fun k _ _ => by rw [g3]) g6 hA.2.2.2.1
        obtain ⟨d2, a1, a2, a3, a4, a5, a6⟩ := m_tells r1 hA hj hx
        have s1 := m_stand hS a4.1
        obtain ⟨d3, b1, b2, b3⟩ := m_isAgain (d := d2) hS
        have okm := ok_mih hA x.2
        have f3 : mfr d d3 := (g2.trans a2).trans (mfr.h95 b2 (fun k hk => by rw [b3, if_neg (by omega)]))
        have hM3 : MI S d3 (as_L A) := h.1.mfr f3
        have r3 : RM S d3 A := by
          refine h.keep f3 (fun k h1 h2 => ?_) ⟨fun i hi => ?_, ?_⟩ hA.2.2.2.1
          · rw [b3, if_neg (by omega), a3 k h1 h2, g3]
          · show d3.1 95 (74 + i) = _
            rw [b3, if_pos (by omega), Nat.add_sub_cancel_left, a5]; exact g4.1 i hi
          · show d3.1 95 (74 + 8) = _
            rw [b3, if_pos (by omega), a5]; exact g4.2
        have d19 : d3.1 94 19 = d2.1 94 19 := by rw [b2.i (b := 94) (by omega)]
        rw [if_pos (kd94 hS), g1, Option.bind_some, if_pos (kd94 hS), a1, Option.bind_some]
        dsimp only
        rw [if_pos (kd94 hS), s1, Option.bind_some, if_pos (kd94 hS), b1, Option.bind_some]
        by_cases q0 : w = 0
        · rw [if_pos q0, if_pos q0, gi94 hS, Option.bind_some, d19, a6]
          refine ⟨d3, ?_, r3, f3.2.2.2.2⟩
          by_cases c : hm (as_L A) (as_m A) x.2 < x.2.length
          · rw [if_pos c, if_pos c, if_neg]
            intro e
            have hneg := hm_yes c
            have : mi (as_L A) (as_m A) x.2 (hm (as_L A) (as_m A) x.2 + 1) = 0 := by
              rw [← Int32.neg_neg (a := mi (as_L A) (as_m A) x.2 (hm (as_L A) (as_m A) x.2 + 1)), e]; rfl
            rw [this] at hneg
            exact absurd hneg (by decide)
          · rw [if_neg c, if_neg c, if_pos rfl]
        · rw [if_neg q0, if_neg q0]
          by_cases q1 : w = 1
          · rw [if_pos q1, if_pos q1, gi94 hS, Option.bind_some, d19, a6]
            exact ⟨d3, rfl, r3, f3.2.2.2.2⟩
          · rw [if_neg q1, if_neg q1]
            by_cases q2 : w = 2
            · rw [if_pos q2, if_pos q2, if_pos (kd94 hS), m_done hS hA.1 hM3.2.2 okm.z, Option.bind_some]
              exact ⟨d3, rfl, r3, f3.2.2.2.2⟩
            · rw [if_neg q2, if_neg q2, if_pos (kd94 hS), m_stubs hS hA.1 hM3.2.2 okm.z, Option.bind_some]
              exact ⟨d3, rfl, r3, f3.2.2.2.2⟩
    · rw [if_pos (Or.inl ht)]
      have e : x_noTray A t = -2 := by unfold x_noTray; rw [if_neg ht]
      rw [e, if_neg (by decide)]
      exact ⟨_, rfl, h0, (mfr0 d 0).2.2.2.2⟩
  · rw [decide_eq_false (fun a => hw (ew.mp a)), if_neg (by decide), if_pos (Or.inr hw)]
    exact ⟨_, rfl, h0, (mfr0 d 0).2.2.2.2⟩
theorem m_perform {S : sk_S} {d : sk_D} {A : AS} (h : RM S d A) (hA : okA A) (t : Int32) : ∃ d', fX11_perform S d 94 t = some ((x_perform A t).1, d') ∧ RM S d' (x_perform A t).2 ∧ Fr mdl d d' := by
  have hS := h.1.1
  have h0 := h.m0 0
  unfold fX11_perform x_perform
  rw [pi94 hS, Option.bind_some, if_pos (kd94 hS), m_noTray h0 hA, Option.bind_some]
  by_cases q : x_noTray A t = 0
  · rw [if_pos q, if_neg (show ¬ ¬ x_noTray A t = 0 from fun a => a q)]
    obtain ⟨j, x, hj, rfl, hx⟩ := x_noTray_0 q
    have hl := hA.len j x hx
    have hle := hm_le (as_L A) (as_m A) x.2
    rw [nI_clamp (by omega), hx]
    dsimp only
    obtain ⟨d1, g1, g2, g3, g4, g5, g6⟩ := m_beg h
    have r1 : RM S d1 A := h.keep g2 (fun k _ _ => by rw [g3]) g6 hA.2.2.2.1
    obtain ⟨d2, a1, a2, a3, a4, a5, a6⟩ := m_tells r1 hA hj hx
    rw [if_pos (kd94 hS), g1, Option.bind_some, if_pos (kd94 hS), a1, Option.bind_some]
    dsimp only
    by_cases c : hm (as_L A) (as_m A) x.2 = 0
    · rw [if_pos c, c, if_pos (by decide)]
      rw [c] at a4
      exact ⟨d2, rfl, h.keep (g2.trans a2) (fun k h1 h2 => by rw [a3 k h1 h2, g3]) a4 hA.2.2.2.1, (g2.trans a2).2.2.2.2⟩
    · rw [if_neg c, if_neg (nI_nle (by omega) (by omega)), if_pos (kd94 hS)]
      obtain ⟨d4, k1, k2, k3, -⟩ := m_fin h hA (g2.trans a2) (fun k h1 h2 => by rw [a3 k h1 h2, g3]) a4 (by rw [a5]; exact g4)
      rw [k1, Option.bind_some]
      exact ⟨d4, rfl, k2, k3⟩
  · rw [if_neg q, if_pos q]
    exact ⟨_, rfl, h0, (mfr0 d 0).2.2.2.2⟩
