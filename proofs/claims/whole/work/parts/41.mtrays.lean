/-! trays in the reference, and writing -/
theorem p40 (t k : Nat) : (40 : Int32) * nI t + nI k = nI (40 * t + k) := by rw [show (40 : Int32) = nI 40 from rfl, pk_mul, nI_add]
theorem RM.tray {S : sk_S} {d e : sk_D} {A : AS} {j : Nat} (hj : j < 4) {o : Option (Int32 × List Int64)} (hl : ∀ x, as_tr A j = some x → x.2.length ≤ 40) (hla : ∀ t x, as_tr A t = some x → x.2.length ≤ 40) (h : RM S d A) (f1 : ∀ b, b ≠ 113 → b ≠ 114 → b ≠ 94 → e.1 b = d.1 b) (f94 : ∀ k, k ≠ 0 → e.1 94 k = d.1 94 k) (f113 : ∀ k, k ≠ j → e.1 113 k = d.1 113 k) (f114 : ∀ k, k ≠ j → e.1 114 k = d.1 114 k) (f2 : ∀ b, b ≠ 115 → e.2 b = d.2 b)
    (f115 : ∀ k, (k < 40 * j ∨ 40 * j + 40 ≤ k) → e.2 115 k = d.2 115 k) (ho : mTr e j o) : RM S e (aTR A (updT (as_tr A) j o)) ∧ Fr mdl d e := by
  obtain ⟨hM, hp, ht, hf, hr, hi⟩ := h
  refine ⟨⟨hM.fr (f1 95 (by omega) (by omega) (by omega)), ?_, ?_, ?_, ?_, ?_⟩, ?_⟩
  · show rmP (e.1 95) (as_m A) (as_ps A)
    rw [f1 95 (by omega) (by omega) (by omega)]; exact hp
  · show rmT e (as_tp A)
    unfold rmT; rw [f94 5 (by omega), f1 97 (by omega) (by omega) (by omega)]; exact ht
  · show e.1 94 13 = as_fk A ∧ e.1 94 14 = as_fp A
    rw [f94 13 (by omega), f94 14 (by omega)]; exact hf
  · intro t h4
    show mTr e t (updT (as_tr A) j o t)
    unfold updT
    by_cases c : t = j
    · subst c; rw [if_pos rfl]; exact ho
    · rw [if_neg c]
      have := hr t h4
      unfold mTr at this ⊢
      rw [f113 t c, f114 t c]
      cases hx : as_tr A t with
      | none => rw [hx] at this; exact this
      | some x =>
        rw [hx] at this
        have hl40 := hla t x hx
        exact ⟨this.1, this.2.1, fun i hi => by rw [f115 _ (by omega)]; exact this.2.2 i hi⟩
  · intro i h2
    have := hi i h2
    show mIm e i (as_im A i)
    unfold mIm at this ⊢
    rw [f1 96 (by omega) (by omega) (by omega), f1 95 (by omega) (by omega) (by omega)]
    exact this
  · intro b hb
    unfold mdl at hb
    exact ⟨f1 b (by omega) (by omega) (by omega), f2 b (by omega)⟩
theorem okA.len {A : AS} (hA : okA A) : ∀ t x, as_tr A t = some x → x.2.length ≤ 40 := fun t x hx => (hA.2.2.2.2.2.2.1 t x hx).1
theorem m_numbers {S : sk_S} {d : sk_D} {A : AS} (h : RM S d A) (hA : okA A) (t s n : Int32) : ∃ d', fX11_numbers S d 94 t s n = some ((x_numbers A t s n).1, d') ∧ RM S d' (x_numbers A t s n).2 ∧ Fr mdl d d' := by
  have hS := h.1.1
  have h0 := h.m0 0
  have same : ∀ (v : Int32), ∃ d', (some (v, sk_uI d 94 0 0) : Option (Int32 × sk_D)) = some (v, d') ∧ RM S d' A ∧ Fr mdl d d' := fun v => ⟨_, rfl, h0, (mfr0 d 0).2.2.2.2⟩
  have et := w_in (p := t) 4 3 rfl
  have es := w_in (p := s) 4 3 rfl
  have en := w_in (p := n) 41 40 rfl
  unfold fX11_numbers x_numbers
  simp (disch := omega) only [Option.bind_some, kd94 hS, gi94 hS, pi94 hS, gr94_1 hS, gr94_2 hS, gr94_3 hS, gr94_4 hS, gr94_16 hS, gr94_17 hS, gr94_18 hS, gr94_21 hS, gr94_22 hS, gr94_23 hS, gr94_24 hS, gr94_26 hS, gr94_27 hS, gr94_28 hS, gr94_29 hS, gr94_30 hS, gr94_31 hS, gr94_33 hS, gr94_34 hS, gr94_35 hS, gr94_36 hS, f_within]
  by_cases ht : inN 4 t
  · rw [decide_eq_true (et.mpr ht), if_pos rfl]
    by_cases hs : inN 4 s
    · have hts : ¬ (¬ inN 4 t ∨ ¬ inN 4 s) := by
        intro a
        rcases a with a | a
        · exact a ht
        · exact a hs
      rw [decide_eq_true (es.mpr hs), if_pos rfl, if_neg hts]
      by_cases hn : inN 41 n
      · rw [decide_eq_true (en.mpr hn), if_pos rfl, if_neg (fun a => a hn)]
        obtain ⟨j, hj, rfl⟩ := inN_of ht
        obtain ⟨k, hk, rfl⟩ := inN_of hn
        rw [nI_clamp (by omega), nI_clamp (by omega)]
        simp (disch := omega) only [Option.bind_some, si113 hS, si114 hS]
        have loop := it_for (body := fX11_numbers_L64 S 94 (nI j) (nI k)) (fun i z => z.1 = nI i ∧ z.2.1 = (sk_uI (sk_uI (sk_uI d 94 0 0) 113 j s) 114 j (nI k)).1 ∧ (∀ b, b ≠ 115 → z.2.2 b = d.2 b) ∧ ∀ q, z.2.2 115 q = if 40 * j ≤ q ∧ q < 40 * j + i then 0 else d.2 115 q) k
          (fun e => e.1 = 0 ∧ e.2.1 = (sk_uI (sk_uI (sk_uI d 94 0 0) 113 j s) 114 j (nI k)).1 ∧ (∀ b, b ≠ 115 → e.2.2 b = d.2 b) ∧ ∀ q, e.2.2 115 q = if 40 * j ≤ q ∧ q < 40 * j + k then 0 else d.2 115 q) ?_ ?_ (s := ((0 : Int32), sk_uI (sk_uI (sk_uI d 94 0 0) 113 j s) 114 j (nI k))) ⟨rfl, rfl, fun b hb => rfl, fun q => by rw [if_neg (by omega)]; rfl⟩
        · obtain ⟨e, he, e1, e2, e3, e4⟩ := loop
          rw [he, Option.bind_some]
          have r := RM.tray (o := some (s, List.replicate k 0)) hj (hA.len j) hA.len h (e := e.2) ?_ ?_ ?_ ?_ e3 ?_ ⟨?_, ?_, ?_⟩
          · exact ⟨e.2, by rw [← e1], r.1, r.2⟩
          · intro b h1 h2 h3
            rw [e2, uI_a _ _ _ _ _ h2, uI_a _ _ _ _ _ h1, uI_a _ _ _ _ _ h3]
          · intro q hq
            rw [e2, uI_a _ _ _ _ _ (by decide), uI_a _ _ _ _ _ (by decide), uI_k _ _ _ _ _ hq]
          · intro q hq
            rw [e2, uI_a _ _ _ _ _ (by decide), uI_k _ _ _ _ _ hq, uI_a _ _ _ _ _ (by decide)]
          · intro q hq
            rw [e2, uI_k _ _ _ _ _ hq, uI_a _ _ _ _ _ (by decide), uI_a _ _ _ _ _ (by decide)]
          · intro q hq
            rw [e4, if_neg (by omega)]
          · rw [e2, uI_a _ _ _ _ _ (by decide), uI_s]
          · rw [e2, uI_s]; simp
          · intro i hi
            simp at hi
            rw [e4, if_pos (by omega)]
            rw [getD_rep]
        · intro i z hi ⟨i1, i2, i3, i4⟩
          left
          unfold fX11_numbers_L64
          rw [i1]
          have hx : ¬ k ≤ i := by omega
          simp (disch := omega) only [Option.bind_some, ↓reduceIte, nI_leI, nI_ltI, nI_eq, nI_1, hx, kd94 hS, gi94 hS, pi94 hS, gr94_1 hS, gr94_2 hS, gr94_3 hS, gr94_4 hS, gr94_16 hS, gr94_17 hS, gr94_18 hS, gr94_21 hS, gr94_22 hS, gr94_23 hS, gr94_24 hS, gr94_26 hS, gr94_27 hS, gr94_28 hS, gr94_29 hS, gr94_30 hS, gr94_31 hS, gr94_33 hS, gr94_34 hS, gr94_35 hS, gr94_36 hS, p40, sj115 hS]
          refine ⟨_, rfl, rfl, i2, ?_, ?_⟩
          · intro b hb
            show (sk_uJ z.2 115 (40 * j + i) 0).2 b = _
            rw [uJ_a _ _ _ _ _ hb]; exact i3 b hb
          · intro q
            show (sk_uJ z.2 115 (40 * j + i) 0).2 115 q = _
            by_cases c : q = 40 * j + i
            · subst c; rw [uJ_s, if_pos (by omega)]
            · rw [uJ_k _ _ _ _ _ c, i4]
              by_cases c2 : 40 * j ≤ q ∧ q < 40 * j + i
              · rw [if_pos c2, if_pos (by omega)]
              · rw [if_neg c2, if_neg (by omega)]
        · intro z ⟨i1, i2, i3, i4⟩
          unfold fX11_numbers_L64
          rw [i1, if_pos (nI_le (Nat.le_refl _) (by omega))]
          exact ⟨_, rfl, rfl, i2, i3, i4⟩
      · rw [decide_eq_false (fun a => hn (en.mp a)), if_neg (by decide), if_pos hn]; exact same _
    · rw [decide_eq_false (fun a => hs (es.mp a)), if_neg (by decide), if_pos (Or.inr hs)]; exact same _
  · rw [decide_eq_false (fun a => ht (et.mp a)), if_neg (by decide), if_pos (Or.inl ht)]; exact same _
def ctv (s : Int32) (v : Int64) : Int64 := if s = 0 then v.toInt32.toInt8.toInt32.toInt64 else if s = 1 then v.toInt32.toInt16.toInt32.toInt64 else if s = 2 then v.toInt32.toInt64 else v
def x_write (A : AS) (t i : Int32) (v : Int64) : Int64 × AS := if ¬ x_noTray A t = 0 then ((x_noTray A t).toInt64, A) else match as_tr A t.toNatClampNeg with
  | none => (0, A)
  | some x => if inN x.2.length i then (ctv x.1 v, aTR A (updT (as_tr A) t.toNatClampNeg (some (x.1, x.2.set i.toNatClampNeg (ctv x.1 v))))) else (-7, A)
theorem getD_set (l : List Int64) {i : Nat} (k : Nat) (v : Int64) (hi : i < l.length) : (l.set i v).getD k 0 = if k = i then v else l.getD k 0 := by
  simp only [List.getD_eq_getElem?_getD, List.getElem?_set]
  by_cases c : i = k
  · subst c; simp [hi]
  · simp [c, show ¬ k = i by omega]
theorem c_put {S : sk_S} {d : sk_D} (hS : Sh S) {j i : Nat} (hj : j < 4) (hi : i < 40) (v : Int64) : fX6_put S d (56 + 2 * j) (nI i) v = some (sk_uJ d (57 + 2 * j) i (ctv (d.1 (56 + 2 * j) 1) v)) := by
  have h0 : ¬ nI i < 0 := nI_pos (by omega)
  have h4 : ¬ (40 : Int32) ≤ nI i := nI_ge (b := 40) hi (by omega)
  have hc : fX6_cut S d (56 + 2 * j) v = some (ctv (d.1 (56 + 2 * j) 1) v) := by
    unfold fX6_cut ctv
    rw [tgi hS hj, Option.bind_some]
    repeat' split
    all_goals rfl
  unfold fX6_put
  simp (disch := omega) only [h0, h4, ↓reduceIte, Option.bind_some, tgr hS hj, tkd hS hj, hc, tsj hS hj]
theorem c_at {S : sk_S} {d : sk_D} (hS : Sh S) {j i : Nat} (hj : j < 4) (hi : i < 40) : fX6_at S d (56 + 2 * j) (nI i) = some (d.2 (57 + 2 * j) i) := by
  have h0 : ¬ nI i < 0 := nI_pos (by omega)
  have h4 : ¬ (40 : Int32) ≤ nI i := nI_ge (b := 40) hi (by omega)
  unfold fX6_at
  simp (disch := omega) only [h0, h4, ↓reduceIte, Option.bind_some, tgr hS hj, tlj hS hj]
theorem c_write {S : sk_S} {d : sk_D} {A : AS} (h : RC S d A) (hA : okA A) (t i : Int32) (v : Int64) : ∃ d', fX10_write S d 1 t i v = some ((x_write A t i v).1, d') ∧ RC S d' (x_write A t i v).2 ∧ Fr cls d d' := by
  have hS := h.1.1
  unfold fX10_write x_write
  simp (disch := omega) only [Option.bind_some, ↓reduceIte, kd1 hS, gi1 hS, pi1 hS, gr1_0 hS, gr1_1 hS, gr1_2 hS, gr1_3 hS, gr1_4 hS, gr1_5 hS, gr1_6 hS, gr1_7 hS, gr1_8 hS, gr1_9 hS, c_noTray h]
  by_cases q : x_noTray A t = 0
  · rw [if_pos q, if_neg (show ¬ ¬ x_noTray A t = 0 from fun a => a q)]
    obtain ⟨j, x, hj, rfl, hx⟩ := x_noTray_0 q
    have hl := hA.len j x hx
    have ht := h.2.2.2.2.1 j hj
    rw [hx] at ht
    rw [nI_clamp (by omega), hx]
    dsimp only
    by_cases hi : inN x.2.length i
    · rw [if_pos hi]
      obtain ⟨k, hk, rfl⟩ := inN_of hi
      have h0 : ¬ nI k < 0 := nI_pos (by omega)
      have e1 := c_put (d := d) hS hj (i := k) (by omega) v
      rw [ht.2.1] at e1
      have f : Fr (fun b => b = 56 + 2 * j ∨ b = 57 + 2 * j) d (sk_uJ d (57 + 2 * j) k (ctv x.1 v)) := Fr.uJ _ (Or.inr rfl)
      have e2 := c_at (d := sk_uJ d (57 + 2 * j) k (ctv x.1 v)) hS hj (i := k) (by omega)
      rw [uJ_s] at e2
      simp (disch := omega) only [Option.bind_some, ↓reduceIte, h0, kd52 hS, lr52 hS, rT52, tgi hS hj, ht.2.2.1, nI_ltI, hk, tkd hS hj, e1, e2]
      rw [nI_clamp (by omega)]
      refine ⟨_, rfl, RC.tray hj h f ⟨ht.1, ht.2.1, by simp only [List.length_set]; exact ht.2.2.1, ?_⟩, f.mono (fun b hb => by unfold cls; omega)⟩
      intro i2 hi2
      simp only [List.length_set] at hi2
      rw [getD_set _ _ _ hk, show 56 + 2 * j + 1 = 57 + 2 * j by omega]
      by_cases c : i2 = k
      · subst c; rw [uJ_s, if_pos rfl]
      · rw [uJ_k _ _ _ _ _ c, if_neg c, show 57 + 2 * j = 56 + 2 * j + 1 by omega]
        exact ht.2.2.2 i2 hi2
    · rw [if_neg hi]
      by_cases h0 : i < 0
      · rw [if_pos h0]; exact ⟨d, rfl, h, Fr.refl _ _⟩
      · rw [if_neg h0]
        have hx2 := ((in_lt (p := i) (n := x.2.length) (by omega) (nI x.2.length) (nI_toInt (by omega))).2 hi h0).2
        simp (disch := omega) only [Option.bind_some, ↓reduceIte, kd52 hS, lr52 hS, rT52, tgi hS hj, ht.2.2.1, hx2]
        exact ⟨d, rfl, h, Fr.refl _ _⟩
  · rw [if_neg q, if_pos q]
    exact ⟨d, rfl, h, Fr.refl _ _⟩
theorem m_write {S : sk_S} {d : sk_D} {A : AS} (h : RM S d A) (hA : okA A) (t i : Int32) (v : Int64) : ∃ d', fX11_write S d 94 t i v = some ((x_write A t i v).1, d') ∧ RM S d' (x_write A t i v).2 ∧ Fr mdl d d' := by
  have hS := h.1.1
  have h0 := h.m0 0
  unfold fX11_write x_write
  simp (disch := omega) only [Option.bind_some, ↓reduceIte, kd94 hS, gi94 hS, pi94 hS, gr94_1 hS, gr94_2 hS, gr94_3 hS, gr94_4 hS, gr94_16 hS, gr94_17 hS, gr94_18 hS, gr94_21 hS, gr94_22 hS, gr94_23 hS, gr94_24 hS, gr94_26 hS, gr94_27 hS, gr94_28 hS, gr94_29 hS, gr94_30 hS, gr94_31 hS, gr94_33 hS, gr94_34 hS, gr94_35 hS, gr94_36 hS, m_noTray h0 hA]
  by_cases q : x_noTray A t = 0
  · rw [if_pos q, if_neg (show ¬ ¬ x_noTray A t = 0 from fun a => a q)]
    obtain ⟨j, x, hj, rfl, hx⟩ := x_noTray_0 q
    have hl := hA.len j x hx
    have ht := h0.2.2.2.2.1 j hj
    rw [hx] at ht
    have e := w_in (p := i) x.2.length (nI x.2.length - 1).toInt64 (by rw [Int32.toInt_toInt64, show (1 : Int32) = nI 1 from rfl, pk_sub_toInt (by omega) (by omega)]; rfl)
    simp (disch := omega) only [Option.bind_some, kd94 hS, gi94 hS, pi94 hS, gr94_1 hS, gr94_2 hS, gr94_3 hS, gr94_4 hS, gr94_16 hS, gr94_17 hS, gr94_18 hS, gr94_21 hS, gr94_22 hS, gr94_23 hS, gr94_24 hS, gr94_26 hS, gr94_27 hS, gr94_28 hS, gr94_29 hS, gr94_30 hS, gr94_31 hS, gr94_33 hS, gr94_34 hS, gr94_35 hS, gr94_36 hS, li114 hS, ht.2.1, f_within]
    rw [nI_clamp (by omega), hx]
    dsimp only
    by_cases hi : inN x.2.length i
    · rw [if_pos hi, decide_eq_true (e.mpr hi), if_pos rfl]
      obtain ⟨k, hk, rfl⟩ := inN_of hi
      have hc : fX11_cut S (sk_uI d 94 0 0) v x.1 = some (ctv x.1 v) := by
        unfold fX11_cut ctv
        repeat' split
        all_goals rfl
      simp (disch := omega) only [Option.bind_some, li113 hS, ht.1, hc, p40, sj115 hS, lj115 hS, uJ_s]
      rw [nI_clamp (by omega)]
      have r := RM.tray (o := some (x.1, x.2.set k (ctv x.1 v))) hj (hA.len j) hA.len h (e := sk_uJ (sk_uI d 94 0 0) 115 (40 * j + k) (ctv x.1 v)) ?_ ?_ ?_ ?_ ?_ ?_ ⟨?_, ?_, ?_⟩
      · exact ⟨_, rfl, r.1, r.2⟩
      · intro b h1 h2 h3
        exact uI_a _ _ _ _ _ h3
      · intro q hq
        exact uI_k _ _ _ _ _ hq
      · intro q hq
        exact congrFun (uI_a d 94 0 113 0 (by decide)) q
      · intro q hq
        exact congrFun (uI_a d 94 0 114 0 (by decide)) q
      · intro b hb
        exact uJ_a _ _ _ _ _ hb
      · intro q hq
        exact uJ_k _ _ _ _ _ (by omega)
      · exact ht.1
      · simp only [List.length_set]; exact ht.2.1
      · intro i2 hi2
        simp only [List.length_set] at hi2
        rw [getD_set _ _ _ hk]
        by_cases c : i2 = k
        · subst c; rw [uJ_s, if_pos rfl]
        · rw [uJ_k _ _ _ _ _ (by omega), if_neg c]
          exact ht.2.2 i2 hi2
    · rw [if_neg hi, decide_eq_false (fun a => hi (e.mp a)), if_neg (by decide)]
      exact ⟨_, rfl, h0, (mfr0 d 0).2.2.2.2⟩
  · rw [if_neg q, if_pos q]
    exact ⟨_, rfl, h0, (mfr0 d 0).2.2.2.2⟩
