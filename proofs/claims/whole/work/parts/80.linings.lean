/-! linings: the class's search, the reference's search -/
theorem sq_s (L : LF) (D : Int32) (k r j u : Nat) (c : Nat → Int32) : sq L D k (r + 1) j u c = if bt D j = true then tr (fun col => @ite _ (cnl L c j (nI col)) (Classical.propDecidable _) (sq L D k r (j + 1) (max u (col + 1)) (ucf c j (nI col))) none) (min (u + 1) k) else sq L D k r (j + 1) u (ucf c j (-1)) := rfl
theorem sr_s (L : LF) (D : Int32) (k r j : Nat) (c : Nat → Int32) : sr L D k (r + 1) j c = if bt D j = true then tr (fun col => @ite _ (cnl L c j (nI col)) (Classical.propDecidable _) (sr L D k r (j + 1) (ucf c j (nI col))) none) k else sr L D k r (j + 1) (ucf c j (-1)) := rfl
theorem pre_u {d : sk_D} {a j : Nat} {c : Nat → Int32} {v : Int32} (h : ∀ e, e < j → d.1 a e = c e) : ∀ e, e < j + 1 → (sk_uI d a j v).1 a e = ucf c j v e := by
  intro e he
  by_cases q : e = j
  · rw [q, uI_s, ucf_s]
  · rw [uI_k _ _ _ _ _ q, ucf_o _ _ q]; exact h e (by omega)
theorem c_placeT {S : sk_S} {L : LF} (hS : Sh S) {D p4 p5 : Int32} (hD : ∀ i, lf_n L ≤ i → i < 32 → bt D i = false) : ∀ r j fuel d, j + r = 8 → lf_n L ≤ j → r < fuel → ∃ d', gX0 S fuel 0 d 49 3 D (nI j) p4 p5 = some (true, d') ∧ Fr (fun b => b = 49) d d' ∧ ∀ e, e < j → d'.1 49 e = d.1 49 e
  | 0, j, fuel + 1, d, hj, hn, hf => by
    show ∃ d', fX0_place_o (gX0 S fuel) S d 49 3 D (nI j) p4 p5 = some (true, d') ∧ _
    unfold fX0_place_o
    rw [if_pos (show (8 : Int32) ≤ nI j by rw [show j = 8 by omega]; decide)]
    exact ⟨d, rfl, Fr.refl _ _, fun e _ => rfl⟩
  | r + 1, j, fuel + 1, d, hj, hn, hf => by
    show ∃ d', fX0_place_o (gX0 S fuel) S d 49 3 D (nI j) p4 p5 = some (true, d') ∧ _
    obtain ⟨d', h1, h2, h3⟩ := c_placeT hS (p4 := p4) (p5 := p5) hD r (j + 1) fuel (sk_uI d 49 j (-1)) (by omega) (by omega) (by omega)
    unfold fX0_place_o
    rw [if_neg (show ¬ (8 : Int32) ≤ nI j from nI_ge (b := 8) (by omega) (by omega)), al49 hS, Option.bind_some, if_pos (show nI j < nI 8 from (nI_ltI (by omega) (by omega)).mpr (by omega)), if_pos ((t_0 D (by omega)).mpr (hD j hn (by omega))), si49 hS _ _ (show j < 8 by omega), Option.bind_some, nI_1, h1, Option.bind_some]
    exact ⟨d', rfl, (Fr.uI (P := fun b => b = 49) d rfl).trans h2, fun e he => by rw [h3 e (by omega), uI_k _ _ _ _ _ (by omega)]⟩
theorem c_place {S : sk_S} {L : LF} (hS : Sh S) (hk : okL L) {D : Int32} {k : Nat} (hk8 : k ≤ 8) (hD : ∀ i, lf_n L ≤ i → i < 32 → bt D i = false) : ∀ r j u c fuel d, j + r = lf_n L → u ≤ 9 → 8 - j < fuel → cL d 3 L → (∀ e, e < j → d.1 49 e = c e) →
    ∃ b d', gX0 S fuel 0 d 49 3 D (nI j) (nI u) (nI k) = some (b, d') ∧ Fr (fun b => b = 49) d d' ∧ (sq L D k r j u c = none → b = false ∧ ∀ e, e < j → d'.1 49 e = c e) ∧ (∀ f, sq L D k r j u c = some f → b = true ∧ ∀ e, e < lf_n L → d'.1 49 e = f e)
  | 0, j, u, c, fuel, d, hj, hu, hf, hc, hp => by
    have hn := hk.1
    obtain ⟨d', h1, h2, h3⟩ := c_placeT hS (p4 := nI u) (p5 := nI k) hD (8 - j) j fuel d (by omega) (by omega) (by omega)
    refine ⟨true, d', h1, h2, fun a => absurd a (by simp [sq]), fun f a => ⟨rfl, fun e he => ?_⟩⟩
    have : c = f := Option.some.inj a
    rw [h3 e (by omega), ← this]; exact hp e (by omega)
  | r + 1, j, u, c, 0, d, hj, hu, hf, hc, hp => by omega
  | r + 1, j, u, c, fuel + 1, d, hj, hu, hf, hc, hp => by
    have hn := hk.1
    have hcs : ∀ {e : sk_D}, Fr (fun b => b = 49) d e → cL e 3 L := fun f => hc.same (fun b _ _ _ => f.i (by omega))
    show ∃ b d', fX0_place_o (gX0 S fuel) S d 49 3 D (nI j) (nI u) (nI k) = some (b, d') ∧ _
    unfold fX0_place_o
    rw [if_neg (show ¬ (8 : Int32) ≤ nI j from nI_ge (b := 8) (by omega) (by omega)), al49 hS, Option.bind_some, if_pos (show nI j < nI 8 from (nI_ltI (by omega) (by omega)).mpr (by omega)), sq_s]
    by_cases b : bt D j = true
    · rw [if_neg (fun a => by rw [(t_0 D (by omega)).mp a] at b; exact absurd b (by decide)), if_pos b]
      have loop := it_for (body := fX0_place_L43 (gX0 S fuel) S 49 3 D (nI j) (nI u) (nI k)) (fun col s => s.1 = nI col ∧ Fr (fun b => b = 49) d s.2 ∧ (∀ e, e < j → s.2.1 49 e = c e) ∧ tr (fun col => @ite _ (cnl L c j (nI col)) (Classical.propDecidable _) (sq L D k r (j + 1) (max u (col + 1)) (ucf c j (nI col))) none) col = none) (min (u + 1) k)
        (fun e => Fr (fun b => b = 49) d e.2 ∧ (tr (fun col => @ite _ (cnl L c j (nI col)) (Classical.propDecidable _) (sq L D k r (j + 1) (max u (col + 1)) (ucf c j (nI col))) none) (min (u + 1) k) = none → e.1 = false ∧ ∀ i, i < j → e.2.1 49 i = c i) ∧ (∀ f, tr (fun col => @ite _ (cnl L c j (nI col)) (Classical.propDecidable _) (sq L D k r (j + 1) (max u (col + 1)) (ucf c j (nI col))) none) (min (u + 1) k) = some f → e.1 = true ∧ ∀ i, i < lf_n L → e.2.1 49 i = f i)) ?_ ?_ (s := ((0 : Int32), d)) ⟨rfl, Fr.refl _ _, hp, rfl⟩
      · obtain ⟨e, he, e1, e2, e3⟩ := loop
        exact ⟨e.1, e.2, by rw [he]; rfl, e1, e2, e3⟩
      · intro col s hcol ⟨i1, i2, i3, i4⟩
        have c1 : col ≤ u := by omega
        have c2 : col < k := by omega
        unfold fX0_place_L43
        rw [i1, if_neg (show ¬ nI u < nI col by rw [nI_ltI (by omega) (by omega)]; omega), if_neg (nI_ge c2 (by omega)), si49 hS _ _ (show j < 8 by omega), Option.bind_some]
        have f9 : Fr (fun b => b = 49) d (sk_uI s.2 49 j (nI col)) := i2.trans (Fr.uI _ rfl)
        have p9 := pre_u (v := nI col) i3
        obtain ⟨v, v1, v2⟩ := c_fits hS hk (hcs f9) (c := c) (j := j) (by omega) (v := nI col) (fun e he => by rw [p9 e (by omega), ucf_o _ _ (by omega)]) (uI_s _ _ _ _)
        rw [v1, Option.bind_some]
        cases v with
        | false =>
          left
          rw [if_neg (by decide), nI_1]
          refine ⟨_, rfl, rfl, f9, fun e he => by rw [p9 e (by omega), ucf_o _ _ (by omega)], ?_⟩
          rw [tr_s i4, if_neg (fun a => absurd (v2.mpr a) (by decide))]
        | true =>
          have hq := v2.mp rfl
          obtain ⟨b', d', h1, h2, h3, h4⟩ := c_place hS hk hk8 hD r (j + 1) (max u (col + 1)) (ucf c j (nI col)) fuel (sk_uI s.2 49 j (nI col)) (by omega) (by omega) (by omega) (hcs f9) p9
          have em : (if nI u < nI (col + 1) then nI (col + 1) else nI u) = nI (max u (col + 1)) := by
            by_cases q : u < col + 1
            · rw [if_pos ((nI_ltI (by omega) (by omega)).mpr q), Nat.max_eq_right (by omega)]
            · rw [if_neg (fun a => q ((nI_ltI (by omega) (by omega)).mp a)), Nat.max_eq_left (by omega)]
          rw [if_pos rfl, nI_1, nI_1, em, h1, Option.bind_some]
          dsimp only
          cases t : sq L D k r (j + 1) (max u (col + 1)) (ucf c j (nI col)) with
          | none =>
            obtain ⟨g1, g2⟩ := h3 t
            left
            rw [g1, if_neg (by decide)]
            refine ⟨_, rfl, rfl, f9.trans h2, fun e he => by rw [g2 e (by omega), ucf_o _ _ (by omega)], ?_⟩
            rw [tr_s i4, if_pos hq, t]
          | some f =>
            obtain ⟨g1, g2⟩ := h4 f t
            right
            have et : tr (fun col => @ite _ (cnl L c j (nI col)) (Classical.propDecidable _) (sq L D k r (j + 1) (max u (col + 1)) (ucf c j (nI col))) none) (col + 1) = some f := by rw [tr_s i4, if_pos hq, t]
            have et2 := tr_some et (min (u + 1) k - (col + 1))
            rw [show col + 1 + (min (u + 1) k - (col + 1)) = min (u + 1) k by omega] at et2
            rw [g1, if_pos rfl]
            refine ⟨_, rfl, f9.trans h2, fun a => by rw [et2] at a; exact absurd a (by simp), fun f' a => ⟨rfl, ?_⟩⟩
            rw [et2] at a
            obtain rfl := Option.some.inj a
            exact g2
      · intro s ⟨i1, i2, i3, i4⟩
        have ex : fX0_place_L43 (gX0 S fuel) S 49 3 D (nI j) (nI u) (nI k) s = some (.inr (false, s.2)) := by
          unfold fX0_place_L43
          rw [i1]
          by_cases q : u < k
          · rw [if_pos ((nI_ltI (by omega) (by omega)).mpr (by omega))]
          · by_cases q2 : nI u < nI (min (u + 1) k)
            · rw [if_pos q2]
            · rw [if_neg q2, if_pos (nI_le (by omega) (by omega))]
        exact ⟨_, ex, i2, fun _ => ⟨rfl, i3⟩, fun f a => by rw [i4] at a; exact absurd a (by simp)⟩
    · have b' : bt D j = false := by cases q : bt D j <;> simp_all
      obtain ⟨v, d', h1, h2, h3, h4⟩ := c_place hS hk hk8 hD r (j + 1) u (ucf c j (-1)) fuel (sk_uI d 49 j (-1)) (by omega) hu (by omega) (hcs (Fr.uI d rfl)) (pre_u hp)
      rw [if_pos ((t_0 D (by omega)).mpr b'), if_neg b, si49 hS _ _ (show j < 8 by omega), Option.bind_some, nI_1, h1, Option.bind_some]
      exact ⟨v, d', rfl, (Fr.uI (P := fun b => b = 49) d rfl).trans h2, fun a => ⟨(h3 a).1, fun e he => by rw [(h3 a).2 e (by omega), ucf_o _ _ (by omega)]⟩, h4⟩
theorem m_laysC {S : sk_S} {L : LF} {m : Int32} {k : Nat} (hk8 : k ≤ 8) : ∀ r j c fuel d, j + r = lf_n L → r < fuel → MI S d L → (∀ i, i < 8 → d.1 95 (74 + i) = mood m i) → (∀ e, e < j → d.1 112 e = c e) →
    ∃ b d', gX11l S fuel 0 d 94 (nI j) (nI k) = some (b, d') ∧ Fr (fun b => b = 112) d d' ∧ (sr L (dn m) k r j c = none → b = false ∧ ∀ e, e < j → d'.1 112 e = c e) ∧ (∀ f, sr L (dn m) k r j c = some f → b = true ∧ ∀ e, e < lf_n L → d'.1 112 e = f e)
  | 0, j, c, fuel + 1, d, hj, hf, hm, hmo, hp => by
    show ∃ b d', fX11_lays_o (gX11l S fuel) S d 94 (nI j) (nI k) = some (b, d') ∧ _
    unfold fX11_lays_o
    rw [gr94_1 hm.1, Option.bind_some, l95_1 hm.1, Option.bind_some, hm.2.2.2.1, if_pos (by rw [show j = lf_n L by omega])]
    refine ⟨true, d, rfl, Fr.refl _ _, fun a => absurd a (by simp [sr]), fun f a => ⟨rfl, fun e he => ?_⟩⟩
    have : c = f := Option.some.inj a
    rw [← this]; exact hp e (by omega)
  | r + 1, j, c, fuel + 1, d, hj, hf, hm, hmo, hp => by
    have hn := hm.2.1.1
    have hS := hm.1
    have hms : ∀ {e : sk_D}, Fr (fun b => b = 112) d e → MI S e L := fun f => ⟨hm.1, hm.2.1, by rw [f.i (b := 95) (by omega)]; exact hm.2.2⟩
    have hmos : ∀ {e : sk_D}, Fr (fun b => b = 112) d e → ∀ i, i < 8 → e.1 95 (74 + i) = mood m i := fun f => by rw [f.i (b := 95) (by omega)]; exact hmo
    show ∃ b d', fX11_lays_o (gX11l S fuel) S d 94 (nI j) (nI k) = some (b, d') ∧ _
    unfold fX11_lays_o
    have f8 : Fr (fun b => b = 112) d (sk_uI d 112 j (-1)) := Fr.uI d rfl
    have ed : bt (dn m) j = bt m j := by rw [bt_dn]; simp [show j < 8 by omega]
    rw [gr94_1 hS, Option.bind_some, l95_1 hS, Option.bind_some, hm.2.2.2.1, if_neg (by rw [nI_eq (by omega) (by omega)]; omega), gr94_33 hS, Option.bind_some, si112 hS _ _ (show j < 8 by omega), Option.bind_some, if_pos (kd94 hS), m_stand hS (hmos f8), Option.bind_some, f_isDone _ _ _ (show j < 8 by omega), Option.bind_some, sr_s, ed]
    by_cases b : bt m j = true
    · rw [if_pos b, if_pos b]
      have loop := it_for (body := fX11_lays_L41 (gX11l S fuel) S 94 (nI j) (nI k)) (fun col s => s.1 = nI col ∧ Fr (fun b => b = 112) d s.2 ∧ (∀ e, e < j → s.2.1 112 e = c e) ∧ tr (fun col => @ite _ (cnl L c j (nI col)) (Classical.propDecidable _) (sr L (dn m) k r (j + 1) (ucf c j (nI col))) none) col = none) k
        (fun e => Fr (fun b => b = 112) d e.2 ∧ (tr (fun col => @ite _ (cnl L c j (nI col)) (Classical.propDecidable _) (sr L (dn m) k r (j + 1) (ucf c j (nI col))) none) k = none → e.1 = false ∧ ∀ i, i < j → e.2.1 112 i = c i) ∧ (∀ f, tr (fun col => @ite _ (cnl L c j (nI col)) (Classical.propDecidable _) (sr L (dn m) k r (j + 1) (ucf c j (nI col))) none) k = some f → e.1 = true ∧ ∀ i, i < lf_n L → e.2.1 112 i = f i)) ?_ ?_ (s := ((0 : Int32), sk_uI d 112 j (-1))) ⟨rfl, f8, fun e he => by rw [uI_k _ _ _ _ _ (by omega)]; exact hp e he, rfl⟩
      · obtain ⟨e, he, e1, e2, e3⟩ := loop
        exact ⟨e.1, e.2, by rw [he]; rfl, e1, e2, e3⟩
      · intro col s hcol ⟨i1, i2, i3, i4⟩
        unfold fX11_lays_L41
        obtain ⟨v, v1, v2⟩ := m_canLie (hms i2) (c := c) (j := j) (by omega) (v := nI col) i3
        rw [i1, if_neg (nI_ge hcol (by omega)), if_pos (kd94 hS), v1, Option.bind_some]
        cases v with
        | false =>
          left
          rw [if_neg (by decide), nI_1]
          refine ⟨_, rfl, rfl, i2, i3, ?_⟩
          rw [tr_s i4, if_neg (fun a => absurd (v2.mpr a) (by decide))]
        | true =>
          have hq := v2.mp rfl
          have f9 : Fr (fun b => b = 112) d (sk_uI s.2 112 j (nI col)) := i2.trans (Fr.uI _ rfl)
          have p9 := pre_u (v := nI col) i3
          obtain ⟨b', d', h1, h2, h3, h4⟩ := m_laysC (m := m) hk8 r (j + 1) (ucf c j (nI col)) fuel (sk_uI s.2 112 j (nI col)) (by omega) (by omega) (hms f9) (hmos f9) p9
          rw [if_pos rfl, gr94_33 hS, Option.bind_some, si112 hS _ _ (show j < 8 by omega), Option.bind_some, if_pos (kd94 hS), nI_1, nI_1, h1, Option.bind_some]
          dsimp only
          cases t : sr L (dn m) k r (j + 1) (ucf c j (nI col)) with
          | none =>
            obtain ⟨g1, g2⟩ := h3 t
            left
            rw [g1, if_neg (by decide)]
            refine ⟨_, rfl, rfl, f9.trans h2, fun e he => by rw [g2 e (by omega), ucf_o _ _ (by omega)], ?_⟩
            rw [tr_s i4, if_pos hq, t]
          | some f =>
            obtain ⟨g1, g2⟩ := h4 f t
            right
            have et : tr (fun col => @ite _ (cnl L c j (nI col)) (Classical.propDecidable _) (sr L (dn m) k r (j + 1) (ucf c j (nI col))) none) (col + 1) = some f := by rw [tr_s i4, if_pos hq, t]
            have et2 := tr_some et (k - (col + 1))
            rw [show col + 1 + (k - (col + 1)) = k by omega] at et2
            rw [g1, if_pos rfl]
            refine ⟨_, rfl, f9.trans h2, fun a => by rw [et2] at a; exact absurd a (by simp), fun f' a => ⟨rfl, ?_⟩⟩
            rw [et2] at a
            obtain rfl := Option.some.inj a
            exact g2
      · intro s ⟨i1, i2, i3, i4⟩
        unfold fX11_lays_L41
        rw [i1, if_pos (nI_le (Nat.le_refl _) (by omega)), gr94_33 hS, Option.bind_some, si112 hS _ _ (show j < 8 by omega), Option.bind_some]
        exact ⟨_, rfl, i2.trans (Fr.uI _ rfl), fun _ => ⟨rfl, fun e he => by rw [uI_k _ _ _ _ _ (by omega)]; exact i3 e he⟩, fun f a => by rw [i4] at a; exact absurd a (by simp)⟩
    · obtain ⟨v, d', h1, h2, h3, h4⟩ := m_laysC (m := m) hk8 r (j + 1) (ucf c j (-1)) fuel (sk_uI d 112 j (-1)) (by omega) (by omega) (hms f8) (hmos f8) (pre_u hp)
      rw [if_neg b, if_neg b, if_pos (kd94 hS), nI_1, h1, Option.bind_some]
      exact ⟨v, d', rfl, f8.trans h2, fun a => ⟨(h3 a).1, fun e he => by rw [(h3 a).2 e (by omega), ucf_o _ _ (by omega)]⟩, h4⟩
