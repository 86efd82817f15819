/-! the reference: the past -/
def mfr (d e : sk_D) : Prop := (∀ k, (k < 74 ∨ 174 ≤ k) → e.1 95 k = d.1 95 k) ∧ (∀ k, (k = 5 ∨ k = 13 ∨ k = 14) → e.1 94 k = d.1 94 k) ∧ (∀ b, (b = 96 ∨ b = 97 ∨ b = 113 ∨ b = 114) → e.1 b = d.1 b) ∧ e.2 115 = d.2 115 ∧ Fr mdl d e
theorem mfr.refl (d : sk_D) : mfr d d := ⟨fun _ _ => rfl, fun _ _ => rfl, fun _ _ => rfl, rfl, Fr.refl _ _⟩
theorem mfr.trans {d e f : sk_D} (h : mfr d e) (h2 : mfr e f) : mfr d f := ⟨fun k hk => (h2.1 k hk).trans (h.1 k hk), fun k hk => (h2.2.1 k hk).trans (h.2.1 k hk), fun b hb => (h2.2.2.1 b hb).trans (h.2.2.1 b hb), h2.2.2.2.1.trans h.2.2.2.1, h.2.2.2.2.trans h2.2.2.2.2⟩
/-- cells that are nobody's -/
def mfree (b : Nat) : Prop := (98 ≤ b ∧ b ≤ 112)
theorem mfr.of {d e : sk_D} (h : Fr mfree d e) : mfr d e := by
  unfold mfree at h
  refine ⟨fun k _ => by rw [h.i (b := 95) (by omega)], fun k _ => by rw [h.i (b := 94) (by omega)], fun b hb => h.i (by omega), h.j (by omega), h.mono (fun b hb => by unfold mdl; omega)⟩
theorem mfr.scm {d e : sk_D} (h : Fr scm d e) : mfr d e := mfr.of (h.mono (fun b hb => by unfold CStubKeepLaw_law_r1379_07d26a.scm at hb; unfold mfree; omega))
theorem mfr.h95 {d e : sk_D} (h : Fr (fun b => b = 95) d e) (hk : ∀ k, (k < 74 ∨ 174 ≤ k) → e.1 95 k = d.1 95 k) : mfr d e :=
  ⟨hk, fun k _ => by rw [h.i (b := 94) (by omega)], fun b hb => h.i (by omega), h.j (by omega), h.mono (fun b hb => by unfold mdl; omega)⟩
theorem mfr.f94 (d : sk_D) {k : Nat} {v : Int32} (hk : k ≠ 5 ∧ k ≠ 13 ∧ k ≠ 14) : mfr d (sk_uI d 94 k v) :=
  ⟨fun _ _ => by rw [uI_a _ _ _ 95 _ (by decide)], fun j hj => uI_k _ _ _ _ _ (by omega), fun b hb => uI_a _ _ _ _ _ (by omega), rfl, Fr.uI _ (by unfold mdl; omega)⟩
theorem mL.same {f g : Nat → Int32} {L : LF} (hk : okL L) (h : mL f L) (e : ∀ k, (k < 74 ∨ 174 ≤ k) → g k = f k) : mL g L := by
  obtain ⟨h0, h1, h2, h3, hv, hd, ⟨hw0, hw0'⟩, ⟨hw1, hw1'⟩⟩ := h
  have hn := hk.1
  have hk8 := hk.2.1
  refine ⟨?_, ?_, ?_, ?_, ?_, ?_, ⟨?_, ?_⟩, ⟨?_, ?_⟩⟩
  · rw [e 0 (by omega)]; exact h0
  · rw [e 1 (by omega)]; exact h1
  · rw [e 2 (by omega)]; exact h2
  · rw [e 3 (by omega)]; exact h3
  · intro t j ht hj; rw [e _ (by omega)]; exact hv t j ht hj
  · intro j hj; rw [e _ (by omega)]; exact hd j hj
  · rw [e _ (by omega)]; exact hw0
  · intro hne
    obtain ⟨fr, a1, a2, a3, a4⟩ := hw0' hne
    refine ⟨fr, by rw [e _ (by omega)]; exact a1, by rw [e _ (by omega)]; exact a2, a3, fun j hj => by rw [e _ (by omega)]; exact a4 j hj⟩
  · rw [e _ (by omega)]; exact hw1
  · intro hne
    obtain ⟨fr, a1, a2, a3, a4⟩ := hw1' hne
    refine ⟨fr, by rw [e _ (by omega)]; exact a1, by rw [e _ (by omega)]; exact a2, a3, fun j hj => by rw [e _ (by omega)]; exact a4 j hj⟩
theorem MI.mfr {S : sk_S} {d e : sk_D} {L : LF} (h : MI S d L) (f : mfr d e) : MI S e L := ⟨h.1, h.2.1, mL.same h.2.1 h.2.2 f.1⟩
theorem RM.upd {S : sk_S} {d e : sk_D} {A : AS} {m : Int32} {ps : List Int32} (h : RM S d A) (f : mfr d e) (hp : rmP (e.1 95) m ps) : RM S e (aMP A m ps) := by
  obtain ⟨hM, -, ht, hf, hr, hi⟩ := h
  refine ⟨hM.mfr f, hp, ?_, ?_, ?_, ?_⟩
  · unfold rmT
    rw [f.2.1 5 (by omega), f.2.2.1 97 (by omega)]
    exact ht
  · rw [f.2.1 13 (by omega), f.2.1 14 (by omega)]; exact hf
  · intro t h4
    have := hr t h4
    unfold mTr at this ⊢
    rw [f.2.2.1 113 (by omega), f.2.2.1 114 (by omega), f.2.2.2.1]
    exact this
  · intro i h2
    have := hi i h2
    unfold mIm at this ⊢
    rw [f.2.2.1 96 (by omega)]
    show (match as_im A i with | none => _ | some x => _)
    have this2 : (match as_im A i with | none => d.1 96 i = 0 | some x => d.1 96 i = 1 ∧ mL (fun k => d.1 95 (1075 * (i + 1) + k)) x.1 ∧ mM (fun k => d.1 95 (1075 * (i + 1) + 74 + k)) x.2) := this
    cases hx : as_im A i with
    | none => rw [hx] at this2; exact this2
    | some x =>
      rw [hx] at this2
      refine ⟨this2.1, ?_, ?_⟩
      · have e1 : (fun k => e.1 95 (1075 * (i + 1) + k)) = (fun k => d.1 95 (1075 * (i + 1) + k)) := by
          funext k; exact f.1 _ (by omega)
        rw [e1]; exact this2.2.1
      · have e1 : (fun k => e.1 95 (1075 * (i + 1) + 74 + k)) = (fun k => d.1 95 (1075 * (i + 1) + 74 + k)) := by
          funext k; exact f.1 _ (by omega)
        rw [e1]; exact this2.2.2
theorem m_keeps {S : sk_S} {d : sk_D} (hS : Sh S) : ∃ d', fX11_keeps S d 94 = some d' ∧ Fr (fun b => b = 101) d d' ∧ ∀ k, k < 9 → d'.1 101 k = d.1 95 (74 + k) := by
  unfold fX11_keeps
  have loop := it_for (body := fX11_keeps_L2 S 94) (fun k s => s.1 = nI k ∧ Fr (fun b => b = 101) d s.2 ∧ ∀ i, i < k → s.2.1 101 i = d.1 95 (74 + i)) 9
    (fun e => Fr (fun b => b = 101) d e ∧ ∀ i, i < 9 → e.1 101 i = d.1 95 (74 + i)) ?_ ?_ (s := ((0 : Int32), d)) ⟨rfl, Fr.refl _ _, fun i hi => by omega⟩
  · obtain ⟨e, he, q⟩ := loop
    exact ⟨e, by rw [he]; rfl, q⟩
  · intro k s hk ⟨i1, i2, i3⟩
    left
    unfold fX11_keeps_L2
    rw [i1]
    have hx : ¬ (9 : Int32) ≤ nI k := nI_ge (b := 9) (by omega) (by omega)
    simp (disch := omega) only [hx, Option.bind_some, ↓reduceIte, nI_leI, nI_ltI, nI_eq, nI_1, kd94 hS, gi94 hS, pi94 hS, gr94_1 hS, gr94_2 hS, gr94_3 hS, gr94_4 hS, gr94_16 hS, gr94_17 hS, gr94_18 hS, gr94_21 hS, gr94_22 hS, gr94_23 hS, gr94_24 hS, gr94_26 hS, gr94_27 hS, gr94_28 hS, gr94_29 hS, gr94_30 hS, gr94_31 hS, gr94_33 hS, gr94_34 hS, gr94_35 hS, gr94_36 hS, p74, li95 hS, si101 hS]
    refine ⟨_, rfl, rfl, i2.tI rfl, ?_⟩
    intro i hi
    by_cases q : i = k
    · subst q
      rw [uI_s, i2.i (by omega)]
    · rw [uI_k _ _ _ _ _ q]; exact i3 i (by omega)
  · intro s ⟨i1, i2, i3⟩
    unfold fX11_keeps_L2
    rw [i1]
    exact ⟨_, rfl, i2, i3⟩
theorem m_isStand {S : sk_S} {d : sk_D} (hS : Sh S) (m : Int32) : ∃ d', fX11_isStand S d 94 (stnd m) = some d' ∧ Fr (fun b => b = 95) d d' ∧ (∀ k, (k < 74 ∨ 82 ≤ k) → d'.1 95 k = d.1 95 k) ∧ ∀ j, j < 8 → d'.1 95 (74 + j) = mood m j := by
  unfold fX11_isStand
  have loop := it_for (body := fX11_isStand_L2 S 94 (stnd m)) (fun k s => s.1 = nI k ∧ Fr (fun b => b = 95) d s.2 ∧ (∀ i, (i < 74 ∨ 82 ≤ i) → s.2.1 95 i = d.1 95 i) ∧ ∀ j, j < k → s.2.1 95 (74 + j) = mood m j) 8
    (fun e => Fr (fun b => b = 95) d e ∧ (∀ i, (i < 74 ∨ 82 ≤ i) → e.1 95 i = d.1 95 i) ∧ ∀ j, j < 8 → e.1 95 (74 + j) = mood m j) ?_ ?_ (s := ((0 : Int32), d)) ⟨rfl, Fr.refl _ _, fun i hi => rfl, fun i hi => by omega⟩
  · obtain ⟨e, he, q⟩ := loop
    exact ⟨e, by rw [he]; rfl, q⟩
  · intro k s hk ⟨i1, i2, i3, i4⟩
    left
    unfold fX11_isStand_L2
    rw [i1]
    have hx : ¬ (8 : Int32) ≤ nI k := nI_ge (b := 8) (by omega) (by omega)
    simp (disch := omega) only [hx, Option.bind_some, ↓reduceIte, nI_leI, nI_ltI, nI_eq, nI_1, kd94 hS, gi94 hS, pi94 hS, gr94_1 hS, gr94_2 hS, gr94_3 hS, gr94_4 hS, gr94_16 hS, gr94_17 hS, gr94_18 hS, gr94_21 hS, gr94_22 hS, gr94_23 hS, gr94_24 hS, gr94_26 hS, gr94_27 hS, gr94_28 hS, gr94_29 hS, gr94_30 hS, gr94_31 hS, gr94_33 hS, gr94_34 hS, gr94_35 hS, gr94_36 hS, p74, f_how, si95 hS]
    refine ⟨_, rfl, rfl, i2.tI rfl, ?_, ?_⟩
    · intro i hi
      rw [uI_k _ _ _ _ _ (by omega)]; exact i3 i hi
    · intro j hj
      by_cases q : j = k
      · subst q; rw [uI_s]
      · rw [uI_k _ _ _ _ _ (by omega)]; exact i4 j (by omega)
  · intro s ⟨i1, i2, i3, i4⟩
    unfold fX11_isStand_L2
    rw [i1]
    exact ⟨_, rfl, i2, i3, i4⟩
theorem p84 (a k : Nat) : (84 : Int32) + (9 : Int32) * nI a + nI k = nI (84 + 9 * a + k) := by
  rw [show (9 : Int32) = nI 9 from rfl, show (84 : Int32) = nI 84 from rfl, pk_mul, nI_add, nI_add]
theorem p84' (k : Nat) : (84 : Int32) + nI k = nI (84 + k) := nI_add 84 k
theorem p93 (k : Nat) : (93 : Int32) + nI k = nI (93 + k) := nI_add 93 k
theorem s95_83 {S : sk_S} (h : Sh S) (d : sk_D) (v : Int32) : sk_sI S d 95 20 (83 : Int32) v = some (sk_uI d 95 83 v) := si95 h d v (j := 83) (by decide)
theorem m_notes5 {S : sk_S} {d : sk_D} (hS : Sh S) {ps : List Int32} {m0 : Int32} (hl : ps.length < 10) (h83 : d.1 95 83 = nI ps.length) (hps : ∀ i, i < ps.length → mM (fun k => d.1 95 (84 + 9 * i + k)) (ps.getD i 0)) (hw : mM (d.1 101) m0) :
    ∃ d', fX11_notes_J55 S 94 d = some d' ∧ Fr (fun b => b = 95) d d' ∧ (∀ k, (k < 83 ∨ 174 ≤ k) → d'.1 95 k = d.1 95 k) ∧ d'.1 95 83 = nI (ps ++ [m0]).length ∧ ∀ i, i < (ps ++ [m0]).length → mM (fun k => d'.1 95 (84 + 9 * i + k)) ((ps ++ [m0]).getD i 0) := by
  unfold fX11_notes_J55
  have loop := it_for (body := fX11_notes_L57 S 94) (fun k s => s.1 = nI k ∧ Fr (fun b => b = 95) d s.2 ∧ ∀ i, s.2.1 95 i = if 84 + 9 * ps.length ≤ i ∧ i < 84 + 9 * ps.length + k then d.1 101 (i - (84 + 9 * ps.length)) else d.1 95 i) 9
    (fun e => Fr (fun b => b = 95) d e ∧ (∀ k, (k < 83 ∨ 174 ≤ k) → e.1 95 k = d.1 95 k) ∧ e.1 95 83 = nI (ps ++ [m0]).length ∧ ∀ i, i < (ps ++ [m0]).length → mM (fun k => e.1 95 (84 + 9 * i + k)) ((ps ++ [m0]).getD i 0)) ?_ ?_ (s := ((0 : Int32), d)) ⟨rfl, Fr.refl _ _, fun i => by rw [if_neg (by omega)]⟩
  · obtain ⟨e, he, q⟩ := loop
    exact ⟨e, by rw [he]; rfl, q⟩
  · intro k s hk ⟨i1, i2, i3⟩
    left
    unfold fX11_notes_L57
    rw [i1]
    have hx : ¬ (9 : Int32) ≤ nI k := nI_ge (b := 9) (by omega) (by omega)
    have e83 : s.2.1 95 83 = nI ps.length := by rw [i3, if_neg (by omega)]; exact h83
    have e101 : s.2.1 101 = d.1 101 := i2.i (by omega)
    simp (disch := omega) only [hx, Option.bind_some, ↓reduceIte, nI_leI, nI_ltI, nI_eq, nI_1, kd94 hS, gi94 hS, pi94 hS, gr94_1 hS, gr94_2 hS, gr94_3 hS, gr94_4 hS, gr94_16 hS, gr94_17 hS, gr94_18 hS, gr94_21 hS, gr94_22 hS, gr94_23 hS, gr94_24 hS, gr94_26 hS, gr94_27 hS, gr94_28 hS, gr94_29 hS, gr94_30 hS, gr94_31 hS, gr94_33 hS, gr94_34 hS, gr94_35 hS, gr94_36 hS, l95_83 hS, e83, li101 hS, e101, p84, si95 hS]
    refine ⟨_, rfl, rfl, i2.tI rfl, ?_⟩
    intro i
    by_cases q : i = 84 + 9 * ps.length + k
    · subst q
      rw [uI_s, if_pos (by omega), Nat.add_sub_cancel_left]
    · rw [uI_k _ _ _ _ _ q, i3]
      by_cases q2 : 84 + 9 * ps.length ≤ i ∧ i < 84 + 9 * ps.length + k
      · rw [if_pos q2, if_pos (by omega)]
      · rw [if_neg q2, if_neg (by omega)]
  · intro s ⟨i1, i2, i3⟩
    unfold fX11_notes_L57
    rw [i1]
    have hx : (9 : Int32) ≤ nI 9 := by decide
    have e83 : s.2.1 95 83 = nI ps.length := by rw [i3, if_neg (by omega)]; exact h83
    simp (disch := omega) only [hx, Option.bind_some, ↓reduceIte, nI_leI, nI_ltI, nI_eq, nI_1, kd94 hS, gi94 hS, pi94 hS, gr94_1 hS, gr94_2 hS, gr94_3 hS, gr94_4 hS, gr94_16 hS, gr94_17 hS, gr94_18 hS, gr94_21 hS, gr94_22 hS, gr94_23 hS, gr94_24 hS, gr94_26 hS, gr94_27 hS, gr94_28 hS, gr94_29 hS, gr94_30 hS, gr94_31 hS, gr94_33 hS, gr94_34 hS, gr94_35 hS, gr94_36 hS, l95_83 hS, e83, s95_83 hS]
    refine ⟨_, rfl, i2.tI rfl, ?_, ?_, ?_⟩
    · intro k hk
      rw [uI_k _ _ _ _ _ (by omega), i3, if_neg (by omega)]
    · rw [uI_s]; simp
    · intro i hi
      simp at hi
      rw [getD_app]
      have u : ∀ k, (sk_uI s.2 95 83 (nI (ps.length + 1))).1 95 (84 + 9 * i + k) = s.2.1 95 (84 + 9 * i + k) := fun k => uI_k _ _ _ _ _ (by omega)
      by_cases c : i < ps.length
      · rw [if_pos c]
        have := hps i c
        refine ⟨fun j hj => ?_, ?_⟩
        · show (sk_uI s.2 95 83 (nI (ps.length + 1))).1 95 (84 + 9 * i + j) = _
          rw [u, i3, if_neg (by omega)]; exact this.1 j hj
        · show (sk_uI s.2 95 83 (nI (ps.length + 1))).1 95 (84 + 9 * i + 8) = _
          rw [u, i3, if_neg (by omega)]; exact this.2
      · have : i = ps.length := by omega
        subst this
        rw [if_neg c, if_pos rfl]
        refine ⟨fun j hj => ?_, ?_⟩
        · show (sk_uI s.2 95 83 (nI (ps.length + 1))).1 95 (84 + 9 * ps.length + j) = _
          rw [u, i3, if_pos (by omega), Nat.add_sub_cancel_left]; exact hw.1 j hj
        · show (sk_uI s.2 95 83 (nI (ps.length + 1))).1 95 (84 + 9 * ps.length + 8) = _
          rw [u, i3, if_pos (by omega), Nat.add_sub_cancel_left]; exact hw.2
theorem m_notes {S : sk_S} {d : sk_D} (hS : Sh S) {ps : List Int32} {m0 : Int32} (hl : ps.length ≤ 10) (h83 : d.1 95 83 = nI ps.length) (hps : ∀ i, i < ps.length → mM (fun k => d.1 95 (84 + 9 * i + k)) (ps.getD i 0)) (hw : mM (d.1 101) m0) :
    ∃ d', fX11_notes S d 94 = some d' ∧ Fr (fun b => b = 95) d d' ∧ (∀ k, (k < 83 ∨ 174 ≤ k) → d'.1 95 k = d.1 95 k) ∧ d'.1 95 83 = nI (push ps m0).length ∧ ∀ i, i < (push ps m0).length → mM (fun k => d'.1 95 (84 + 9 * i + k)) ((push ps m0).getD i 0) := by
  unfold fX11_notes push
  simp (disch := omega) only [Option.bind_some, ↓reduceIte, nI_leI, nI_ltI, nI_eq, nI_1, kd94 hS, gi94 hS, pi94 hS, gr94_1 hS, gr94_2 hS, gr94_3 hS, gr94_4 hS, gr94_16 hS, gr94_17 hS, gr94_18 hS, gr94_21 hS, gr94_22 hS, gr94_23 hS, gr94_24 hS, gr94_26 hS, gr94_27 hS, gr94_28 hS, gr94_29 hS, gr94_30 hS, gr94_31 hS, gr94_33 hS, gr94_34 hS, gr94_35 hS, gr94_36 hS, l95_83 hS, h83]
  by_cases c10 : ps.length = 10
  · rw [if_pos c10, if_pos (by rw [c10]; rfl)]
    have loop := it_for (body := fX11_notes_L14 S 94) (fun k s => s.1 = nI k ∧ Fr (fun b => b = 95) d s.2 ∧ ∀ i, s.2.1 95 i = if 84 ≤ i ∧ i < 84 + k then d.1 95 (i + 9) else d.1 95 i) 81
      (fun e => Fr (fun b => b = 95) d e ∧ ∀ i, e.1 95 i = if 84 ≤ i ∧ i < 84 + 81 then d.1 95 (i + 9) else d.1 95 i) ?_ ?_ (s := ((0 : Int32), d)) ⟨rfl, Fr.refl _ _, fun i => by rw [if_neg (by omega)]⟩
    · obtain ⟨e, he, f1, f2⟩ := loop
      have e83 : e.1 95 83 = nI 10 := by rw [f2, if_neg (by omega), h83, c10]
      simp (disch := omega) only [Option.bind_some, ↓reduceIte, nI_leI, nI_ltI, nI_eq, nI_1, he, kd94 hS, gi94 hS, pi94 hS, gr94_1 hS, gr94_2 hS, gr94_3 hS, gr94_4 hS, gr94_16 hS, gr94_17 hS, gr94_18 hS, gr94_21 hS, gr94_22 hS, gr94_23 hS, gr94_24 hS, gr94_26 hS, gr94_27 hS, gr94_28 hS, gr94_29 hS, gr94_30 hS, gr94_31 hS, gr94_33 hS, gr94_34 hS, gr94_35 hS, gr94_36 hS, l95_83 hS, e83, s95_83 hS]
      have e9 : nI 10 - (1 : Int32) = nI 9 := nI_pred 9
      rw [e9]
      have u : ∀ k, k ≠ 83 → (sk_uI e 95 83 (nI 9)).1 95 k = e.1 95 k := fun k hk => uI_k _ _ _ _ _ hk
      have hq : ∀ i, i < ps.tail.length → mM (fun k => (sk_uI e 95 83 (nI 9)).1 95 (84 + 9 * i + k)) (ps.tail.getD i 0) := by
        intro i hi
        simp at hi
        rw [getD_tail]
        have := hps (i + 1) (by omega)
        refine ⟨fun j hj => ?_, ?_⟩
        · show (sk_uI e 95 83 (nI 9)).1 95 (84 + 9 * i + j) = _
          rw [u _ (by omega), f2, if_pos (by omega), show 84 + 9 * i + j + 9 = 84 + 9 * (i + 1) + j by omega]; exact this.1 j hj
        · show (sk_uI e 95 83 (nI 9)).1 95 (84 + 9 * i + 8) = _
          rw [u _ (by omega), f2, if_pos (by omega), show 84 + 9 * i + 8 + 9 = 84 + 9 * (i + 1) + 8 by omega]; exact this.2
      obtain ⟨d', a1, a2, a3, a4, a5⟩ := m_notes5 (d := sk_uI e 95 83 (nI 9)) hS (ps := ps.tail) (m0 := m0) (by simp; omega) (by rw [uI_s]; simp [c10]) hq (by rw [uI_a _ _ _ 101 _ (by decide), f1.i (by omega)]; exact hw)
      refine ⟨d', a1, (f1.tI rfl).trans a2, ?_, a4, a5⟩
      intro k hk
      rw [a3 k hk, u k (by omega), f2, if_neg (by omega)]
    · intro k s hk ⟨i1, i2, i3⟩
      left
      unfold fX11_notes_L14
      rw [i1]
      have hx : ¬ (81 : Int32) ≤ nI k := nI_ge (b := 81) (by omega) (by omega)
      simp (disch := omega) only [hx, Option.bind_some, ↓reduceIte, nI_leI, nI_ltI, nI_eq, nI_1, kd94 hS, gi94 hS, pi94 hS, gr94_1 hS, gr94_2 hS, gr94_3 hS, gr94_4 hS, gr94_16 hS, gr94_17 hS, gr94_18 hS, gr94_21 hS, gr94_22 hS, gr94_23 hS, gr94_24 hS, gr94_26 hS, gr94_27 hS, gr94_28 hS, gr94_29 hS, gr94_30 hS, gr94_31 hS, gr94_33 hS, gr94_34 hS, gr94_35 hS, gr94_36 hS, p93, p84', li95 hS, si95 hS]
      refine ⟨_, rfl, rfl, i2.tI rfl, ?_⟩
      intro i
      by_cases q : i = 84 + k
      · subst q
        rw [uI_s, i3, if_neg (by omega), if_pos (by omega), show 84 + k + 9 = 93 + k by omega]
      · rw [uI_k _ _ _ _ _ q, i3]
        by_cases q2 : 84 ≤ i ∧ i < 84 + k
        · rw [if_pos q2, if_pos (by omega)]
        · rw [if_neg q2, if_neg (by omega)]
    · intro s ⟨i1, i2, i3⟩
      unfold fX11_notes_L14
      rw [i1]
      exact ⟨_, rfl, i2, i3⟩
  · have hx : ¬ nI ps.length = (10 : Int32) := by
      rw [show (10 : Int32) = nI 10 from rfl, nI_eq (by omega) (by omega)]; exact c10
    rw [if_neg c10, if_neg hx]
    exact m_notes5 hS (by omega) h83 hps hw
