/-! a life taken anew, by the class -/
theorem c_fill18 {S : sk_S} (hS : Sh S) (d : sk_D) : ∃ e, fJ7_fill_031fb S d 18 0 = some e ∧ Fr (fun b => b = 18) d e ∧ ∀ j, j < 2048 → e.1 18 j = 0 := by
  unfold fJ7_fill_031fb
  rw [al18 hS, Option.bind_some]
  have loop := it_for (body := fJ7_fill_031fb_L5 S 18 0 (nI 2048)) (fun k z => z.1 = nI k ∧ Fr (fun b => b = 18) d z.2 ∧ ∀ j, j < k → z.2.1 18 j = 0) 2048 (fun e => Fr (fun b => b = 18) d e ∧ ∀ j, j < 2048 → e.1 18 j = 0) ?_ ?_ (s := ((0 : Int32), d)) ⟨rfl, Fr.refl _ _, fun j hj => by omega⟩
  · obtain ⟨e, he, e1, e2⟩ := loop
    exact ⟨e, by rw [he]; rfl, e1, e2⟩
  · intro k z hk ⟨i1, i2, i3⟩
    left
    unfold fJ7_fill_031fb_L5
    rw [i1, if_neg (nI_ge hk (by omega)), si18 hS _ _ hk, Option.bind_some, nI_1]
    refine ⟨_, rfl, rfl, i2.trans (Fr.uI _ rfl), fun j hj => ?_⟩
    show (sk_uI z.2 18 k (vp_nar .byte 0)).1 18 j = 0
    by_cases c : j = k
    · rw [c, uI_s]; rfl
    · rw [uI_k _ _ _ _ _ c]; exact i3 j (by omega)
  · intro z ⟨i1, i2, i3⟩
    unfold fJ7_fill_031fb_L5
    rw [i1, if_pos (nI_le (Nat.le_refl _) (by omega))]
    exact ⟨_, rfl, i2, i3⟩
theorem c_fill19 {S : sk_S} (hS : Sh S) (d : sk_D) : ∃ e, fJ7_fill_53178 S d 19 0 = some e ∧ Fr (fun b => b = 19) d e ∧ ∀ j, j < 2048 → e.1 19 j = 0 := by
  unfold fJ7_fill_53178
  rw [al19 hS, Option.bind_some]
  have loop := it_for (body := fJ7_fill_53178_L5 S 19 0 (nI 2048)) (fun k z => z.1 = nI k ∧ Fr (fun b => b = 19) d z.2 ∧ ∀ j, j < k → z.2.1 19 j = 0) 2048 (fun e => Fr (fun b => b = 19) d e ∧ ∀ j, j < 2048 → e.1 19 j = 0) ?_ ?_ (s := ((0 : Int32), d)) ⟨rfl, Fr.refl _ _, fun j hj => by omega⟩
  · obtain ⟨e, he, e1, e2⟩ := loop
    exact ⟨e, by rw [he]; rfl, e1, e2⟩
  · intro k z hk ⟨i1, i2, i3⟩
    left
    unfold fJ7_fill_53178_L5
    rw [i1, if_neg (nI_ge hk (by omega)), si19 hS _ _ hk, Option.bind_some, nI_1]
    refine ⟨_, rfl, rfl, i2.trans (Fr.uI _ rfl), fun j hj => ?_⟩
    show (sk_uI z.2 19 k 0).1 19 j = 0
    by_cases c : j = k
    · rw [c, uI_s]
    · rw [uI_k _ _ _ _ _ c]; exact i3 j (by omega)
  · intro z ⟨i1, i2, i3⟩
    unfold fJ7_fill_53178_L5
    rw [i1, if_pos (nI_le (Nat.le_refl _) (by omega))]
    exact ⟨_, rfl, i2, i3⟩
theorem c_begin {S : sk_S} {d : sk_D} {A : AS} (h : RC S d A) (hA : okA A) {q : Nat} {L : LF} (m : Int32) (hk : okL L) (hq : LA S q) (h17 : 17 < q) (hc : cL d q L) : ∃ e, fX10_begin S d 1 q m = some e ∧ RC S e (aLM A L m) ∧ Fr cls d e := by
  have hS := h.1.1
  have hn := hk.1
  obtain ⟨⟨_, -, -, -⟩, hp, ht, hf, hr, hi, q', c, w, m', len, hw, ho⟩ := h
  obtain ⟨e1, a1, a2, a3, a4⟩ := c_copyFrom d hk (LA3 hS) hq (by omega) hc
  obtain ⟨e2, b1, b2, b3⟩ := c_fill18 hS e1
  obtain ⟨e3, c1, c2, c3⟩ := c_fill19 hS e2
  have f3 : ∀ b, ¬ (3 ≤ b ∧ b ≤ 19) → e3.1 b = d.1 b := fun b hb => by rw [c2.i (by omega), b2.i (by omega), a2 b (by omega)]
  have j3 : ∀ b, ¬ (b = 18 ∨ b = 19) → e3.2 b = d.2 b := fun b hb => by rw [c2.j (by omega), b2.j (by omega), a3]
  obtain ⟨wq, wc, ww, wm, -⟩ := hw.ad
  have ho3 : wkE e3 c len ∨ ∃ f, wkF e3 (as_L A) f q' c len := by
    have x1 : e3.1 40 = d.1 40 := f3 40 (by omega)
    have x2 : e3.1 q' = d.1 q' := f3 q' (by unfold wkc at wq; omega)
    have x3 : e3.1 c = d.1 c := f3 c (by unfold wkc at wc; omega)
    unfold wkE wkF at ho ⊢
    rw [x1, x2, x3]; exact ho
  obtain ⟨e4, g1, g2, g3⟩ := c_forget hS hA.1 hw ho3
  have f4 : ∀ b, ¬ (3 ≤ b ∧ b ≤ 19) → ¬ wkc S b → e4.1 b = d.1 b := fun b h1 h2 => by rw [g3.i h2, f3 b h1]
  have n5 : ∀ b, b ≠ 50 → (sk_uI (sk_uI e4 50 1 m) 50 2 0).1 b = e4.1 b := fun b hb => by rw [uI_a _ _ _ _ _ hb, uI_a _ _ _ _ _ hb]
  have f5 : ∀ b, b ≠ 50 → ¬ (3 ≤ b ∧ b ≤ 19) → ¬ wkc S b → (sk_uI (sk_uI e4 50 1 m) 50 2 0).1 b = d.1 b := fun b h0 h1 h2 => by rw [n5 b h0, f4 b h1 h2]
  have j5 : ∀ b, ¬ (b = 18 ∨ b = 19) → ¬ wkc S b → (sk_uI (sk_uI e4 50 1 m) 50 2 0).2 b = d.2 b := fun b h1 h2 => by show e4.2 b = _; rw [g3.j h2, j3 b h1]
  have w1 : ∀ b, b ≤ 39 ∨ (45 ≤ b ∧ b ≤ 115) → ¬ wkc S b := fun b hb => by unfold wkc; omega
  refine ⟨sk_uI (sk_uI e4 50 1 m) 50 2 0, ?_, ⟨⟨hS, hk, ?_, ?_⟩, ?_, ?_, ?_, ?_, ?_, q', c, w, m', len, hw, Or.inl ?_⟩, fun b hb => ?_⟩
  · unfold fX10_begin fX9_take fX4_begin
    rw [gr1_0 hS, Option.bind_some, if_pos (kd2 hS), gr2_0 hS, Option.bind_some, if_pos (kd3 hS), a1, Option.bind_some, gr2_1 hS, Option.bind_some, b1, Option.bind_some, gr2_2 hS, Option.bind_some, c1, Option.bind_some, Option.bind_some, gr1_2 hS, Option.bind_some, if_pos (kd40 hS), g1, Option.bind_some, gr1_5 hS, Option.bind_some, if_pos (kd50 hS), pi50 hS, Option.bind_some, pi50 hS, Option.bind_some]
    rfl
  · exact a4.same (fun b h1 h2 _ => by rw [n5 b (by omega), g3.i (w1 b (by omega)), c2.i (by omega), b2.i (by omega)])
  · refine ⟨fun j l hj hl => Or.inl ?_, fun j l s hj hl hs => ?_⟩
    · have hj' : j < lf_n L := hj
      rw [n5 18 (by omega), g3.i (w1 18 (by omega)), c2.i (by omega)]; exact b3 _ (by omega)
    · have hj' : j < lf_n L := hj
      rw [n5 19 (by omega), g3.i (w1 19 (by omega)), c3 _ (by omega), b_0, b_0]; rfl
  · show rcP _ m []
    refine ⟨?_, uI_s _ _ _ _, fun i hi => absurd hi (by simp)⟩
    rw [uI_k _ _ _ _ _ (by omega), uI_s]
  · show rcT _ (as_tp A)
    unfold rcT; rw [f5 1 (by omega) (by omega) (w1 1 (by omega)), f5 55 (by omega) (by omega) (w1 55 (by omega))]; exact ht
  · rw [f5 21 (by omega) (by omega) (w1 21 (by omega))]; exact hf
  · intro t h4
    exact (hr t h4).same (f5 _ (by omega) (by omega) (w1 _ (by omega))) (j5 _ (by omega) (w1 _ (by omega)))
  · intro i h2; exact (hi i h2).same h2 (fun b hb => f5 b (by omega) (by omega) (w1 b (by omega)))
  · have x1 : (sk_uI (sk_uI e4 50 1 m) 50 2 0).1 40 = e4.1 40 := n5 40 (by omega)
    have x2 : (sk_uI (sk_uI e4 50 1 m) 50 2 0).1 c = e4.1 c := n5 c (by unfold wkc at wc; omega)
    unfold wkE at g2 ⊢
    rw [x1, x2]; exact g2
  · unfold cls at hb
    exact ⟨f5 b (by omega) (by omega) (w1 b (by omega)), j5 b (by omega) (w1 b (by omega))⟩
theorem c_restore {S : sk_S} {d : sk_D} {A : AS} (h : RC S d A) (hA : okA A) (p : Int32) : ∃ d', fX10_restore S d 1 p = some ((x_restore A p).1, d') ∧ RC S d' (x_restore A p).2 ∧ Fr cls d d' := by
  have hS := h.1.1
  have ip := in_lt (p := p) (n := 2) (by omega) 2 rfl
  unfold fX10_restore x_restore
  by_cases q : inN 2 p
  · obtain ⟨i, hi, rfl⟩ := inN_of q
    have him := h.2.2.2.2.2.1 i hi
    rw [if_neg (ip.1 q).1, if_pos (ip.1 q).2.2, if_pos q, nI_clamp (by omega), gr1_8 hS, Option.bind_some, li54 hS _ hi, Option.bind_some]
    cases hx : as_im A i with
    | none =>
      rw [hx] at him
      rw [show d.1 54 i = -1 from him, if_neg (by decide)]
      exact ⟨d, rfl, h, Fr.refl _ _⟩
    | some x =>
      rw [hx] at him
      have okx := hA.2.2.2.2.2.2.2 i x hx
      obtain ⟨e, a1, a2, a3⟩ := c_begin h hA x.2 okx.1 (LAi hS hi) (by omega) him.2
      rw [him.1, if_pos (by rw [← Int32.not_lt]; exact okx.2.pos), gr1_7 hS, Option.bind_some, lr53 hS hi, Option.bind_some, rT53 i hi, Option.bind_some, li54 hS _ hi, Option.bind_some, him.1, if_pos (kd1 hS), a1]
      exact ⟨e, rfl, a2, a3⟩
  · rw [if_neg q]
    by_cases h0 : p < 0
    · rw [if_pos h0]; exact ⟨d, rfl, h, Fr.refl _ _⟩
    · rw [if_neg h0, if_neg (ip.2 q h0).2]
      exact ⟨d, rfl, h, Fr.refl _ _⟩
