/-! told deeds, judged and performed -/
def mi (L : LF) (m : Int32) (l : List Int64) : Nat → Int32
  | 0 => m
  | i + 1 => tde L (mi L m l i) (l.getD i 0)
def hm (L : LF) (m : Int32) (l : List Int64) : Nat := fa_first (fun i => decide (mi L m l (i + 1) < 0)) l.length
theorem ok_tde {L : LF} (hk : okL L) {m : Int32} (h : okM L m) (v : Int64) (h0 : ¬ tde L m v < 0) : okM L (tde L m v) := by
  by_cases hv : v < 0 ∨ ¬ v ≤ 49
  · exfalso; apply h0; unfold tde; rw [if_pos hv]; decide
  · obtain ⟨a, ha, rfl⟩ := v_49 (fun q => hv (Or.inl q)) (Decidable.not_not.mp (fun q => hv (Or.inr q)))
    have e := tde_kj L m (k := a / 10) (j := a % 10) (by omega) (by omega)
    rw [show 10 * (a / 10) + a % 10 = a by omega] at e
    rw [e] at h0 ⊢
    exact ok_kdd hk h (by omega) h0
theorem hm_le (L : LF) (m : Int32) (l : List Int64) : hm L m l ≤ l.length := fa_first_le _ _
theorem hm_no {L : LF} {m : Int32} {l : List Int64} {i : Nat} (hi : i < hm L m l) : ¬ mi L m l (i + 1) < 0 := by
  have := fa_first_no _ _ i hi
  simpa using this
theorem hm_yes {L : LF} {m : Int32} {l : List Int64} (h : hm L m l < l.length) : mi L m l (hm L m l + 1) < 0 := by
  exact of_decide_eq_true (fa_first_yes _ _ h)
theorem hm_at {L : LF} {m : Int32} {l : List Int64} {k : Nat} (hk : k < l.length) (h1 : ∀ i, i < k → ¬ mi L m l (i + 1) < 0) (h2 : mi L m l (k + 1) < 0) : hm L m l = k := by
  rcases Nat.lt_trichotomy (hm L m l) k with c | c | c
  · exact absurd (hm_yes (by omega)) (h1 _ c)
  · exact c
  · exact absurd h2 (hm_no c)
theorem hm_end {L : LF} {m : Int32} {l : List Int64} (h1 : ∀ i, i < l.length → ¬ mi L m l (i + 1) < 0) : hm L m l = l.length := by
  rcases Nat.lt_or_ge (hm L m l) l.length with c | c
  · exact absurd (hm_yes c) (h1 _ c)
  · have := hm_le L m l; omega
theorem ok_mi {L : LF} (hk : okL L) {m : Int32} (h : okM L m) (l : List Int64) : ∀ i, (∀ e, e < i → ¬ mi L m l (e + 1) < 0) → okM L (mi L m l i)
  | 0, _ => h
  | i + 1, hi => ok_tde hk (ok_mi hk h l i (fun e he => hi e (by omega))) _ (hi i (by omega))
theorem c_howMany {S : sk_S} {d : sk_D} {A : AS} (h : RC S d A) (hA : okA A) {j : Nat} (hj : j < 4) {x : Int32 × List Int64} (hx : as_tr A j = some x) :
    ∃ d', fX9_howMany S d 2 (as_m A) (56 + 2 * j) = some (nI (hm (as_L A) (as_m A) x.2), d') ∧ CI S d' (as_L A) ∧ Fr scr d d' := by
  have hS := h.1.1
  have hl := hA.len j x hx
  have ht := h.2.2.2.2.1 j hj
  rw [hx] at ht
  unfold fX9_howMany
  have loop := it_for (body := fX9_howMany_L5 S 2 (56 + 2 * j)) (fun i s => s.1 = mi (as_L A) (as_m A) x.2 i ∧ s.2.1 = nI i ∧ CI S s.2.2 (as_L A) ∧ Fr scr d s.2.2 ∧ ∀ e, e < i → ¬ mi (as_L A) (as_m A) x.2 (e + 1) < 0) x.2.length
    (fun e => e.1 = nI (hm (as_L A) (as_m A) x.2) ∧ CI S e.2 (as_L A) ∧ Fr scr d e.2) ?_ ?_ (s := (as_m A, (0 : Int32), d)) ⟨rfl, rfl, h.1, Fr.refl _ _, fun e he => by omega⟩
  · obtain ⟨e, he, e1, e2, e3⟩ := loop
    refine ⟨e.2, ?_, e2, e3⟩
    rw [he, ← e1]; rfl
  · intro i s hi ⟨i1, i2, i3, i4, i5⟩
    have t1 : s.2.2.1 (56 + 2 * j) = d.1 (56 + 2 * j) := i4.i (by unfold scr; omega)
    have t2 : s.2.2.2 (57 + 2 * j) = d.2 (57 + 2 * j) := i4.j (by unfold scr; omega)
    have gv : d.2 (57 + 2 * j) i = x.2.getD i 0 := by rw [show 57 + 2 * j = 56 + 2 * j + 1 by omega]; exact ht.2.2.2 i hi
    have hxx : ¬ x.2.length ≤ i := by omega
    obtain ⟨d1, a1, a2, a3⟩ := c_tde i3 (mi (as_L A) (as_m A) x.2 i) (x.2.getD i 0) (ok_mi hA.1 hA.2.1 x.2 i i5).2.2
    unfold fX9_howMany_L5
    rw [i1, i2]
    simp (disch := omega) only [Option.bind_some, ↓reduceIte, nI_leI, nI_ltI, nI_eq, nI_1, tgi hS hj, t1, ht.2.2.1, hxx, tkd hS hj, c_at hS hj, t2, gv, kd2 hS, gi2 hS, pi2 hS, gr2_0 hS, gr2_1 hS, gr2_2 hS, gr2_3 hS, a1]
    by_cases q : tde (as_L A) (mi (as_L A) (as_m A) x.2 i) (x.2.getD i 0) < 0
    · right
      rw [if_neg (by rw [Int32.not_le]; exact q)]
      exact ⟨_, rfl, by rw [hm_at hi i5 q], a2, i4.trans a3⟩
    · left
      rw [if_pos (by rw [← Int32.not_lt]; exact q)]
      refine ⟨_, rfl, rfl, rfl, a2, i4.trans a3, ?_⟩
      intro e he
      by_cases c : e = i
      · subst c; exact q
      · exact i5 e (by omega)
  · intro s ⟨i1, i2, i3, i4, i5⟩
    have t1 : s.2.2.1 (56 + 2 * j) = d.1 (56 + 2 * j) := i4.i (by unfold scr; omega)
    unfold fX9_howMany_L5
    rw [i1, i2]
    simp (disch := omega) only [Option.bind_some, ↓reduceIte, nI_leI, nI_ltI, nI_eq, nI_1, tgi hS hj, t1, ht.2.2.1, Nat.le_refl]
    exact ⟨_, rfl, by rw [hm_end i5], i3, i4⟩
theorem c_after {S : sk_S} {d : sk_D} {A : AS} (h : RC S d A) (hA : okA A) {j : Nat} (hj : j < 4) {x : Int32 × List Int64} (hx : as_tr A j = some x) :
    ∃ d', fX9_after S d 2 (as_m A) (56 + 2 * j) (nI (hm (as_L A) (as_m A) x.2)) = some (mi (as_L A) (as_m A) x.2 (hm (as_L A) (as_m A) x.2), d') ∧ CI S d' (as_L A) ∧ Fr scr d d' := by
  have hS := h.1.1
  have hl := hA.len j x hx
  have hle := hm_le (as_L A) (as_m A) x.2
  have ht := h.2.2.2.2.1 j hj
  rw [hx] at ht
  unfold fX9_after
  have loop := it_for (body := fX9_after_L6 S 2 (56 + 2 * j) (nI (hm (as_L A) (as_m A) x.2))) (fun i s => s.1 = mi (as_L A) (as_m A) x.2 i ∧ s.2.1 = nI i ∧ CI S s.2.2 (as_L A) ∧ Fr scr d s.2.2) (hm (as_L A) (as_m A) x.2)
    (fun e => e.1 = mi (as_L A) (as_m A) x.2 (hm (as_L A) (as_m A) x.2) ∧ CI S e.2 (as_L A) ∧ Fr scr d e.2) ?_ ?_ (s := (as_m A, (0 : Int32), d)) ⟨rfl, rfl, h.1, Fr.refl _ _⟩
  · obtain ⟨e, he, e1, e2, e3⟩ := loop
    refine ⟨e.2, ?_, e2, e3⟩
    rw [he, ← e1]; rfl
  · intro i s hi ⟨i1, i2, i3, i4⟩
    have t2 : s.2.2.2 (57 + 2 * j) = d.2 (57 + 2 * j) := i4.j (by unfold scr; omega)
    have gv : d.2 (57 + 2 * j) i = x.2.getD i 0 := by rw [show 57 + 2 * j = 56 + 2 * j + 1 by omega]; exact ht.2.2.2 i (by omega)
    have hxx : ¬ hm (as_L A) (as_m A) x.2 ≤ i := by omega
    obtain ⟨d1, a1, a2, a3⟩ := c_tde i3 (mi (as_L A) (as_m A) x.2 i) (x.2.getD i 0) (ok_mi hA.1 hA.2.1 x.2 i (fun e he => hm_no (by omega))).2.2
    left
    unfold fX9_after_L6
    rw [i1, i2]
    simp (disch := omega) only [Option.bind_some, ↓reduceIte, nI_leI, nI_ltI, nI_eq, nI_1, hxx, tkd hS hj, c_at hS hj, t2, gv, kd2 hS, gi2 hS, pi2 hS, gr2_0 hS, gr2_1 hS, gr2_2 hS, gr2_3 hS, a1]
    exact ⟨_, rfl, rfl, rfl, a2, i4.trans a3⟩
  · intro s ⟨i1, i2, i3, i4⟩
    unfold fX9_after_L6
    rw [i1, i2, if_pos (nI_le (Nat.le_refl _) (by omega))]
    exact ⟨_, rfl, rfl, i3, i4⟩
def x_judge (A : AS) (t w : Int32) : Int32 := if ¬ inN 4 t ∨ ¬ inN 4 w then -2 else match as_tr A t.toNatClampNeg with
  | none => -6
  | some x => if w = 0 then (if hm (as_L A) (as_m A) x.2 < x.2.length then nI (hm (as_L A) (as_m A) x.2) else -1)
    else if w = 1 then (if hm (as_L A) (as_m A) x.2 < x.2.length then -(mi (as_L A) (as_m A) x.2 (hm (as_L A) (as_m A) x.2 + 1)) else 0)
    else if w = 2 then dn (mi (as_L A) (as_m A) x.2 (hm (as_L A) (as_m A) x.2)) else ln (mi (as_L A) (as_m A) x.2 (hm (as_L A) (as_m A) x.2))
theorem c_judge {S : sk_S} {d : sk_D} {A : AS} (h : RC S d A) (hA : okA A) (t w : Int32) : ∃ d', fX10_judge S d 1 t w = some (x_judge A t w, d') ∧ RC S d' A ∧ Fr cls d d' := by
  have hS := h.1.1
  have it := in_lt (p := t) (n := 4) (by omega) 4 rfl
  have iw := in_le (p := w) (n := 4) 3 rfl
  have same : ∀ (v : Int32), ∃ d', (some (v, d) : Option (Int32 × sk_D)) = some (v, d') ∧ RC S d' A ∧ Fr cls d d' := fun v => ⟨d, rfl, h, Fr.refl _ _⟩
  unfold fX10_judge x_judge
  by_cases t0 : t < 0
  · have : ¬ inN 4 t := fun a => (it.1 a).1 t0
    rw [if_pos t0, if_pos (Or.inl this)]; exact same _
  · rw [if_neg t0]
    by_cases t4 : 4 ≤ t
    · have : ¬ inN 4 t := fun a => (it.1 a).2.1 t4
      rw [if_pos t4, if_pos (Or.inl this)]; exact same _
    · rw [if_neg t4]
      have ht : inN 4 t := Decidable.not_not.mp (fun a => t4 (it.2 a t0).1)
      by_cases w0 : w < 0
      · have : ¬ inN 4 w := fun a => (iw.1 a).1 w0
        rw [if_pos w0, if_pos (Or.inr this)]; exact same _
      · rw [if_neg w0]
        by_cases w3 : w ≤ 3
        · have hw : inN 4 w := Decidable.not_not.mp (fun a => iw.2 a w0 w3)
          have htw : ¬ (¬ inN 4 t ∨ ¬ inN 4 w) := by
            intro a
            rcases a with a | a
            · exact a ht
            · exact a hw
          rw [if_pos w3, if_neg htw]
          obtain ⟨j, hj, rfl⟩ := inN_of ht
          have hT := h.2.2.2.2.1 j hj
          rw [nI_clamp (by omega)]
          cases hx : as_tr A j with
          | none =>
            rw [hx] at hT
            have hT2 : d.1 (56 + 2 * j) 3 = 0 := hT
            rw [gr1_6 hS, Option.bind_some, lr52 hS hj, Option.bind_some, rT52 j hj, tgi hS hj, Option.bind_some, hT2, if_pos rfl]
            exact same _
          | some x =>
            rw [hx] at hT
            have hl := hA.len j x hx
            have hle := hm_le (as_L A) (as_m A) x.2
            have n1 : ¬ (1 : Int32) = 0 := by decide
            obtain ⟨d1, a1, a2, a3⟩ := c_howMany h hA hj hx
            have r1 := h.scrx a2 a3
            obtain ⟨d2, b1, b2, b3⟩ := c_after r1 hA hj hx
            have r2 := r1.scrx b2 b3
            have f2 := (scr_cls a3).trans (scr_cls b3)
            have hT2 := r2.2.2.2.2.1 j hj
            rw [hx] at hT2
            obtain ⟨d3, c1, c2, c3⟩ := c_tde b2 (mi (as_L A) (as_m A) x.2 (hm (as_L A) (as_m A) x.2)) (x.2.getD (hm (as_L A) (as_m A) x.2) 0) (ok_mi hA.1 hA.2.1 x.2 _ (fun e he => hm_no he)).2.2
            dsimp only
            rw [gr1_6 hS, Option.bind_some, lr52 hS hj, Option.bind_some, rT52 j hj, tgi hS hj, Option.bind_some, hT.1, if_neg n1, Option.bind_some, lr52 hS hj, Option.bind_some, rT52 j hj, gr1_0 hS, Option.bind_some, gr1_5 hS, Option.bind_some, gi50 hS, Option.bind_some, if_pos (kd2 hS), h.2.1.1, a1, Option.bind_some, Option.bind_some, Option.bind_some]
            dsimp only
            rw [gi50 hS, Option.bind_some, if_pos (kd2 hS), r1.2.1.1, b1, Option.bind_some]
            dsimp only
            rw [tgi hS hj, Option.bind_some, hT2.2.2.1, Option.bind_some]
            have le : nI x.2.length ≤ nI (hm (as_L A) (as_m A) x.2) ↔ x.2.length ≤ hm (as_L A) (as_m A) x.2 := nI_leI (by omega) (by omega)
            simp only [le, f_dn, f_ln, Option.bind_some]
            by_cases q0 : w = 0
            · rw [if_pos q0, if_pos q0]
              by_cases c : hm (as_L A) (as_m A) x.2 < x.2.length
              · rw [if_neg (by omega), if_pos c]; exact ⟨d2, rfl, r2, f2⟩
              · rw [if_pos (by omega), if_neg c]; exact ⟨d2, rfl, r2, f2⟩
            · rw [if_neg q0, if_neg q0]
              by_cases q1 : w = 1
              · rw [if_pos q1, if_pos q1]
                by_cases c : hm (as_L A) (as_m A) x.2 < x.2.length
                · have gv : d2.2 (57 + 2 * j) (hm (as_L A) (as_m A) x.2) = x.2.getD (hm (as_L A) (as_m A) x.2) 0 := by rw [show 57 + 2 * j = 56 + 2 * j + 1 by omega]; exact hT2.2.2.2 _ c
                  rw [if_neg (by omega), if_pos c]
                  simp (disch := omega) only [Option.bind_some, ↓reduceIte, kd2 hS, tkd hS hj, c_at hS hj, gv, c1]
                  exact ⟨d3, rfl, r2.scrx c2 c3, f2.trans (scr_cls c3)⟩
                · rw [if_pos (by omega), if_neg c]; exact ⟨d2, rfl, r2, f2⟩
              · rw [if_neg q1, if_neg q1]
                by_cases q2 : w = 2
                · rw [if_pos q2, if_pos q2]; exact ⟨d2, rfl, r2, f2⟩
                · rw [if_neg q2, if_neg q2]; exact ⟨d2, rfl, r2, f2⟩
        · have : ¬ inN 4 w := fun a => w3 (iw.1 a).2
          rw [if_neg w3, if_pos (Or.inr this)]; exact same _
def x_perform (A : AS) (t : Int32) : Int32 × AS := if ¬ x_noTray A t = 0 then (x_noTray A t, A) else match as_tr A t.toNatClampNeg with
  | none => (0, A)
  | some x => (nI (hm (as_L A) (as_m A) x.2), if hm (as_L A) (as_m A) x.2 = 0 then A else goto A (mi (as_L A) (as_m A) x.2 (hm (as_L A) (as_m A) x.2)))
theorem c_perform {S : sk_S} {d : sk_D} {A : AS} (h : RC S d A) (hA : okA A) (t : Int32) : ∃ d', fX10_perform S d 1 t = some ((x_perform A t).1, d') ∧ RC S d' (x_perform A t).2 ∧ Fr cls d d' := by
  have hS := h.1.1
  unfold fX10_perform x_perform
  simp (disch := omega) only [Option.bind_some, ↓reduceIte, kd1 hS, gi1 hS, pi1 hS, gr1_0 hS, gr1_1 hS, gr1_2 hS, gr1_3 hS, gr1_4 hS, gr1_5 hS, gr1_6 hS, gr1_7 hS, gr1_8 hS, gr1_9 hS, c_noTray h]
  by_cases q : x_noTray A t = 0
  · rw [if_pos q, if_neg (show ¬ ¬ x_noTray A t = 0 from fun a => a q)]
    obtain ⟨j, x, hj, rfl, hx⟩ := x_noTray_0 q
    have hl := hA.len j x hx
    have hle := hm_le (as_L A) (as_m A) x.2
    obtain ⟨d1, a1, a2, a3⟩ := c_howMany h hA hj hx
    have r1 := h.scrx a2 a3
    rw [nI_clamp (by omega), hx]
    dsimp only
    simp (disch := omega) only [Option.bind_some, ↓reduceIte, kd2 hS, gi2 hS, pi2 hS, gr2_0 hS, gr2_1 hS, gr2_2 hS, gr2_3 hS, kd50 hS, gi50 hS, pi50 hS, gr50_0 hS, kd52 hS, lr52 hS, rT52, h.2.1.1, a1]
    by_cases c : hm (as_L A) (as_m A) x.2 = 0
    · rw [if_pos c, c, if_pos (by decide)]
      exact ⟨d1, rfl, r1, scr_cls a3⟩
    · rw [if_neg c, if_neg (nI_nle (by omega) (by omega))]
      obtain ⟨d2, b1, b2, b3⟩ := c_after r1 hA hj hx
      have r2 := r1.scrx b2 b3
      obtain ⟨d3, c1, c2, c3⟩ := c_goOn r2 hA (mi (as_L A) (as_m A) x.2 (hm (as_L A) (as_m A) x.2))
      simp (disch := omega) only [Option.bind_some, ↓reduceIte, kd1 hS, gi1 hS, pi1 hS, gr1_0 hS, gr1_1 hS, gr1_2 hS, gr1_3 hS, gr1_4 hS, gr1_5 hS, gr1_6 hS, gr1_7 hS, gr1_8 hS, gr1_9 hS, kd2 hS, gi2 hS, pi2 hS, gr2_0 hS, gr2_1 hS, gr2_2 hS, gr2_3 hS, kd50 hS, gi50 hS, pi50 hS, gr50_0 hS, kd52 hS, lr52 hS, rT52, r1.2.1.1, b1, c1]
      exact ⟨d3, rfl, c2, ((scr_cls a3).trans (scr_cls b3)).trans c3⟩
  · rw [if_neg q, if_pos q]
    exact ⟨d, rfl, h, Fr.refl _ _⟩
