/-! the reference: drops, needs, asking, moves -/
theorem f_isDone (S : sk_S) (d : sk_D) (m : Int32) {j : Nat} (hj : j < 8) : fX11_isDone S d (stnd m) (nI j) = some (bt m j) := by
  unfold fX11_isDone
  rw [f_how S d m hj]
  simp only [Option.bind_some, (mood_c m j).1, (mood_c m j).2.1]
  cases bt m j <;> cases bt m (j + 8) <;> simp
theorem bt_drop (m : Int32) {j i : Nat} (hj : j < 8) (hi : i < 32) : bt (m &&& (b8 j ^^^ (-1))) i = (bt m i && !decide (i = j + 8)) := by
  rw [b_and, b_not _ hi, bt_b8 (by omega) hi]
theorem m_dropped (S : sk_S) (d : sk_D) (m : Int32) {j : Nat} (hj : j < 8) (hs : bt m (j + 8) = true) : fX11_droppedTo S d (stnd m) (nI j) = some (stnd (m &&& (b8 j ^^^ (-1)))) := by
  unfold fX11_droppedTo fX11_droppedTo_J16
  rw [f_how S d m hj]
  have oth : ∀ e, e < 8 → e ≠ j → mood (m &&& (b8 j ^^^ (-1))) e = mood m e := by
    intro e he hne
    apply mood_of
    · rw [bt_drop m hj (by omega)]; simp [show ¬ e = j + 8 by omega]
    · rw [bt_drop m hj (by omega)]; simp [hne]
  simp only [Option.bind_some]
  cases hb : bt m j with
  | true =>
    rw [if_pos ((mood_c m j).1.mpr ⟨hb, hs⟩), f_with S d m _ 2 hj ?_ oth]
    · rfl
    · symm
      rw [(mood_c _ _).2.1, bt_drop m hj (by omega), bt_drop m hj (by omega), hb]
      simp
  | false =>
    rw [if_neg (fun q => by rw [(mood_c m j).1, hb] at q; exact absurd q.1 (by decide)), f_with S d m _ 0 hj ?_ oth]
    · rfl
    · symm
      rw [(mood_c _ _).2.2.2, bt_drop m hj (by omega), bt_drop m hj (by omega), hb]
      simp
theorem m_needs {S : sk_S} {d : sk_D} {L : LF} (h : MI S d L) {m : Int32} (hz : zM L m) {j : Nat} (hj : j < lf_n L) : fX11_hasNeeds S d 94 (stnd m) (nI j) = some (decide ((lf_v L 5 j &&& (dn m ^^^ (-1))) = 0)) := by
  obtain ⟨hS, hk, hm⟩ := h
  have hn := hk.1
  have v5 := hm.2.2.2.2.1 5 j (by omega) hj
  rw [show 10 + 8 * 5 + j = 50 + j by omega] at v5
  unfold fX11_hasNeeds
  simp (disch := omega) only [Option.bind_some, ↓reduceIte, nI_leI, nI_ltI, nI_eq, nI_1, kd94 hS, gi94 hS, pi94 hS, gr94_1 hS, gr94_2 hS, gr94_3 hS, gr94_4 hS, gr94_16 hS, gr94_17 hS, gr94_18 hS, gr94_21 hS, gr94_22 hS, gr94_23 hS, gr94_24 hS, gr94_26 hS, gr94_27 hS, gr94_28 hS, gr94_29 hS, gr94_30 hS, gr94_31 hS, gr94_33 hS, gr94_34 hS, gr94_35 hS, gr94_36 hS, p50, li95 hS, v5, m_done hS hk hm hz]
  by_cases q : (lf_v L 5 j &&& (dn m ^^^ (-1))) = 0
  · rw [if_pos q, decide_eq_true q]
  · rw [if_neg q, decide_eq_false q]
theorem m_back {S : sk_S} {d : sk_D} {L : LF} (h : MI S d L) (m : Int32) {j : Nat} (hj : j < lf_n L) : fX11_backOf S d 94 (stnd m) (nI j) = some (nd L j (dn m)) := by
  obtain ⟨hS, hk, hm⟩ := h
  have hn := hk.1
  have h1 := hm.2.1
  unfold fX11_backOf
  have e := it_eq (body := fX11_backOf_L9 S d 94 (stnd m)) (fun k => (ng L (dn m) j k, nI (j + 1 + k))) (lf_n L - (j + 1)) (nd L j (dn m)) ?_ ?_
  · rw [show ((1 : Int32) <<< (nI j &&& 31), nI j + (1 : Int32)) = (ng L (dn m) j 0, nI (j + 1 + 0)) by rw [nI_1]; rfl, e]; rfl
  · intro k hkn
    have hx : ¬ lf_n L ≤ j + 1 + k := by omega
    have v5 := hm.2.2.2.2.1 5 (j + 1 + k) (by omega) (by omega)
    rw [show 10 + 8 * 5 + (j + 1 + k) = 50 + (j + 1 + k) by omega] at v5
    have hb8 : decide (j + 1 + k < 8) = true := decide_eq_true (by omega)
    unfold fX11_backOf_L9
    dsimp only
    simp (disch := omega) only [Option.bind_some, ↓reduceIte, nI_leI, nI_ltI, nI_eq, nI_1, kd94 hS, gi94 hS, pi94 hS, gr94_1 hS, gr94_2 hS, gr94_3 hS, gr94_4 hS, gr94_16 hS, gr94_17 hS, gr94_18 hS, gr94_21 hS, gr94_22 hS, gr94_23 hS, gr94_24 hS, gr94_26 hS, gr94_27 hS, gr94_28 hS, gr94_29 hS, gr94_30 hS, gr94_31 hS, gr94_33 hS, gr94_34 hS, gr94_35 hS, gr94_36 hS, l95_1 hS, h1, hx, f_isDone, p50, li95 hS, v5]
    by_cases hb : bt m (j + 1 + k) = true
    · simp (disch := omega) only [hb, ↓reduceIte]
      have hd : bt (dn m) (j + 1 + k) = true := by rw [bt_dn, hb, hb8]; rfl
      by_cases hz : (lf_v L 5 (j + 1 + k) &&& ng L (dn m) j k) = 0
      · rw [if_pos hz, ng, if_neg (by simp [hz])]; rfl
      · rw [if_neg hz, ng, if_pos ⟨hd, hz⟩]; rfl
    · simp (disch := omega) only [hb, Bool.false_eq_true, ↓reduceIte]
      have hd : ¬ bt (dn m) (j + 1 + k) = true := by rw [bt_dn]; simp [hb]
      rw [ng, if_neg (fun q => hd q.1)]; rfl
  · unfold fX11_backOf_L9
    dsimp only
    have hx : lf_n L ≤ j + 1 + (lf_n L - (j + 1)) := by omega
    simp (disch := omega) only [Option.bind_some, ↓reduceIte, nI_leI, nI_ltI, nI_eq, nI_1, kd94 hS, gi94 hS, pi94 hS, gr94_1 hS, gr94_2 hS, gr94_3 hS, gr94_4 hS, gr94_16 hS, gr94_17 hS, gr94_18 hS, gr94_21 hS, gr94_22 hS, gr94_23 hS, gr94_24 hS, gr94_26 hS, gr94_27 hS, gr94_28 hS, gr94_29 hS, gr94_30 hS, gr94_31 hS, gr94_33 hS, gr94_34 hS, gr94_35 hS, gr94_36 hS, l95_1 hS, h1, hx]
    rfl
theorem m_passes {S : sk_S} {d : sk_D} {L : LF} (h : MI S d L) {m : Int32} (hz : zM L m) {j : Nat} (hj : j < lf_n L) (slip : Int32) :
    ∃ d', fX11_passesBy S d 94 (stnd m) (nI j) slip = some (passes L j (ln m) slip, d') ∧ Fr scm d d' := by
  have hS := h.1
  have w1 := h.2.2.2.2.2.2.2.2.2.1
  rw [show 4 + 1 = 5 from rfl] at w1
  unfold fX11_passesBy passes
  simp (disch := omega) only [Option.bind_some, ↓reduceIte, nI_leI, nI_ltI, nI_eq, nI_1, kd94 hS, gi94 hS, pi94 hS, gr94_1 hS, gr94_2 hS, gr94_3 hS, gr94_4 hS, gr94_16 hS, gr94_17 hS, gr94_18 hS, gr94_21 hS, gr94_22 hS, gr94_23 hS, gr94_24 hS, gr94_26 hS, gr94_27 hS, gr94_28 hS, gr94_29 hS, gr94_30 hS, gr94_31 hS, gr94_33 hS, gr94_34 hS, gr94_35 hS, gr94_36 hS, l95_5 hS, w1]
  by_cases em : (lf_w L 1).isEmpty = true
  · have n1 : ¬ (0 : Int32) = 1 := by decide
    simp only [em, n1, ↓reduceIte]
    exact ⟨d, rfl, Fr.refl _ _⟩
  · have em2 : (lf_w L 1).isEmpty = false := by simpa using em
    have ne : lf_w L 1 ≠ [] := by intro q; rw [q] at em; exact em rfl
    obtain ⟨d', a1, a2⟩ := m_reckons h (t := 1) (by omega) ne hz hj slip
    rw [show nI 1 = (1 : Int32) from rfl] at a1
    simp only [em2, Bool.false_eq_true, ↓reduceIte, a1, Option.bind_some]
    cases ev (gv L j (ln m) slip) (lf_w L 1) with
    | true => exact ⟨d', rfl, a2⟩
    | false => exact ⟨d', rfl, a2⟩
/-- all that are open by being asked for one -/
def aso (L : LF) (m : Int32) (j : Nat) : Int32 := if mood m j = 0 ∨ mood m j = 1 ∨ (mood m j = 3 ∧ passes L j (ln m) (sp m) = true) then 0 else nd L j (dn m)
theorem m_asked {S : sk_S} {d : sk_D} {L : LF} (h : MI S d L) {m : Int32} (hz : zM L m) {j : Nat} (hj : j < lf_n L) (hs : d.1 95 82 = sp m) :
    ∃ d', fX11_askedOf S d 94 (stnd m) (nI j) = some (aso L m j, d') ∧ Fr scm d d' := by
  have hS := h.1
  have hk := h.2.1
  have hn := hk.1
  unfold fX11_askedOf aso
  have back : ∀ e, Fr scm d e → fX11_askedOf_J38 S 94 (stnd m) (nI j) e = some (nd L j (dn m), e) := by
    intro e fe
    unfold fX11_askedOf_J38
    simp (disch := omega) only [Option.bind_some, ↓reduceIte, nI_leI, nI_ltI, nI_eq, nI_1, kd94 hS, gi94 hS, pi94 hS, gr94_1 hS, gr94_2 hS, gr94_3 hS, gr94_4 hS, gr94_16 hS, gr94_17 hS, gr94_18 hS, gr94_21 hS, gr94_22 hS, gr94_23 hS, gr94_24 hS, gr94_26 hS, gr94_27 hS, gr94_28 hS, gr94_29 hS, gr94_30 hS, gr94_31 hS, gr94_33 hS, gr94_34 hS, gr94_35 hS, gr94_36 hS, m_back (h.fr (scm95 fe)) m hj]
  simp (disch := omega) only [Option.bind_some, ↓reduceIte, nI_leI, nI_ltI, nI_eq, nI_1, f_how]
  by_cases q1 : mood m j = 1
  · simp (disch := omega) only [q1, true_or, or_true, ↓reduceIte]
    exact ⟨d, rfl, Fr.refl _ _⟩
  · by_cases q0 : mood m j = 0
    · have n1 : ¬ (0 : Int32) = 1 := by decide
      simp (disch := omega) only [q0, n1, true_or, ↓reduceIte]
      exact ⟨d, rfl, Fr.refl _ _⟩
    · by_cases q3 : mood m j = 3
      · obtain ⟨d', a1, a2⟩ := m_passes h hz hj (sp m)
        have n0 : ¬ (3 : Int32) = 0 := by decide
        have n1 : ¬ (3 : Int32) = 1 := by decide
        simp (disch := omega) only [q3, n0, n1, false_or, true_and, ↓reduceIte, kd94 hS, gi94 hS, pi94 hS, gr94_1 hS, gr94_2 hS, gr94_3 hS, gr94_4 hS, gr94_16 hS, gr94_17 hS, gr94_18 hS, gr94_21 hS, gr94_22 hS, gr94_23 hS, gr94_24 hS, gr94_26 hS, gr94_27 hS, gr94_28 hS, gr94_29 hS, gr94_30 hS, gr94_31 hS, gr94_33 hS, gr94_34 hS, gr94_35 hS, gr94_36 hS, l95_82 hS, hs, a1, Option.bind_some]
        cases passes L j (ln m) (sp m) with
        | true => exact ⟨d', rfl, a2⟩
        | false =>
          simp only [Bool.false_eq_true, ↓reduceIte]
          exact ⟨d', back d' a2, a2⟩
      · simp (disch := omega) only [q0, q1, q3, false_or, false_and, ↓reduceIte]
        exact ⟨d, back d (Fr.refl _ _), Fr.refl _ _⟩
/-- putting a set back -/
def pb (m set : Int32) : Int32 := m &&& ((set ||| (set <<< ((8 : Int32) &&& 31))) ^^^ (-1))
theorem bt_pb (m set : Int32) (h : ∀ i, 8 ≤ i → i < 32 → bt set i = false) : ∀ i, (i < 8 → bt (pb m set) i = (bt m i && !bt set i) ∧ bt (pb m set) (i + 8) = (bt m (i + 8) && !bt set i)) ∧ (16 ≤ i → i < 32 → bt (pb m set) i = bt m i) := by
  intro i
  unfold pb
  constructor
  · intro hi
    rw [b_and, b_not _ (by omega), b_or, b_shl8 _ (by omega), b_and, b_not _ (by omega), b_or, b_shl8 _ (by omega), h (i + 8) (by omega) (by omega)]
    simp [show ¬ 8 ≤ i by omega]
  · intro h1 h2
    rw [b_and, b_not _ (by omega), b_or, b_shl8 _ (by omega), h i (by omega) h2, h (i - 8) (by omega) (by omega)]
    simp
theorem m_opened (S : sk_S) (d : sk_D) (m set : Int32) (h : ∀ i, 8 ≤ i → i < 32 → bt set i = false) : fX11_opened S d (stnd m) set = some (stnd (pb m set)) := by
  unfold fX11_opened
  have hg : ∀ k, k ≤ 8 → ∀ i, 8 ≤ i → i < 32 → bt (gs (fun i => bt set i) k) i = false := by
    intro k hk i h1 h2
    rw [gs_bt _ _ (by omega) _ h2, h i h1 h2]
    simp
  have e := it_eq (body := fX11_opened_L4 S d set) (fun k => (stnd (pb m (gs (fun i => bt set i) k)), nI k)) 8 (stnd (pb m (gs (fun i => bt set i) 8))) ?_ ?_
  · have e0 : stnd m = stnd (pb m (gs (fun i => bt set i) 0)) := by
      apply stnd_cong
      intro i hi
      have q := (bt_pb m (gs (fun i => bt set i) 0) (hg 0 (by omega)) i).1 hi
      apply mood_of
      · rw [q.1]; simp [gs, b_0]
      · rw [q.2]; simp [gs, b_0]
    have e1 : gs (fun i => bt set i) 8 = set := by
      apply b_ext
      intro i hi
      rw [gs_bt _ _ (by omega) _ hi]
      by_cases q : i < 8
      · simp [q]
      · rw [h i (by omega) hi]; simp
    rw [e1] at e
    rw [show (stnd m, (0 : Int32)) = (stnd (pb m (gs (fun i => bt set i) 0)), nI 0) by rw [← e0]; rfl, e]
    rfl
  · intro k hk
    unfold fX11_opened_L4
    have hx : ¬ (8 : Int32) ≤ nI k := nI_ge (b := 8) hk (by omega)
    dsimp only
    simp (disch := omega) only [hx, Option.bind_some, ↓reduceIte, nI_leI, nI_ltI, nI_eq, nI_1, f_isIn]
    cases hb : bt set k with
    | false =>
      simp only [Bool.false_eq_true, ↓reduceIte, gs, hb]
    | true =>
      simp only [↓reduceIte]
      rw [f_with S d _ (pb m (gs (fun i => bt set i) (k + 1))) 0 (by omega) ?_ ?_]
      · rfl
      · symm
        have q := (bt_pb m (gs (fun i => bt set i) (k + 1)) (hg (k + 1) (by omega)) k).1 hk
        rw [(mood_c _ _).2.2.2, q.1, q.2, gs_bt _ _ (by omega) _ (by omega), hb]
        simp
      · intro i hi hne
        have q := (bt_pb m (gs (fun i => bt set i) (k + 1)) (hg (k + 1) (by omega)) i).1 hi
        have q2 := (bt_pb m (gs (fun i => bt set i) k) (hg k (by omega)) i).1 hi
        have e : bt (gs (fun i => bt set i) (k + 1)) i = bt (gs (fun i => bt set i) k) i := by
          rw [gs_bt _ _ (by omega) _ (by omega), gs_bt _ _ (by omega) _ (by omega)]
          congr 1
          rw [decide_eq_decide]
          omega
        apply mood_of
        · rw [q.1, q2.1, e]
        · rw [q.2, q2.2, e]
  · rfl
theorem nd_sub (L : LF) (hk : okL L) {j : Nat} (hj : j < lf_n L) (done : Int32) : ∀ e, e < 32 → bt (nd L j done) e = true → e = j ∨ (j < e ∧ e < lf_n L ∧ bt done e = true) := by
  have hn := hk.1
  have key : ∀ k, j + 1 + k ≤ lf_n L → ∀ e, e < 32 → bt (ng L done j k) e = true → e = j ∨ (j < e ∧ e < lf_n L ∧ bt done e = true) := by
    intro k
    induction k with
    | zero =>
      intro _ e he hb
      rw [ng, bt_b1 (by omega) he] at hb
      left; simpa using hb
    | succ k ih =>
      intro hle e he hb
      rw [ng] at hb
      split at hb
      · next q =>
        rw [b_or, bt_b1 (by omega) he] at hb
        simp at hb
        rcases hb with hb | rfl
        · exact ih (by omega) e he hb
        · right; exact ⟨by omega, by omega, q.1⟩
      · exact ih (by omega) e he hb
  exact key _ (by omega)
theorem nd_self (L : LF) (hk : okL L) {j : Nat} (hj : j < lf_n L) (done : Int32) : bt (nd L j done) j = true := by
  have hn := hk.1
  have key : ∀ k, j + 1 + k ≤ lf_n L → bt (ng L done j k) j = true := by
    intro k
    induction k with
    | zero => intro _; rw [ng, bt_b1 (by omega) (by omega)]; simp
    | succ k ih =>
      intro hle
      rw [ng]
      split
      · rw [b_or, ih (by omega)]; rfl
      · exact ih (by omega)
  exact key _ (by omega)
theorem nd_8 (L : LF) (hk : okL L) {j : Nat} (hj : j < lf_n L) (done : Int32) : ∀ i, 8 ≤ i → i < 32 → bt (nd L j done) i = false := by
  intro i h1 h2
  have hn := hk.1
  cases hb : bt (nd L j done) i
  · rfl
  · rcases nd_sub L hk hj done i h2 hb with q | q <;> omega
theorem tas_aso (L : LF) (hk : okL L) (m : Int32) {j : Nat} (hj : j < lf_n L) : tas L m j = pb m (aso L m j) := by
  unfold tas aso
  rw [if_neg (by simpa using hj)]
  split
  · unfold pb
    apply b_ext
    intro i hi
    rw [b_and, b_not _ hi, b_or, b_shl8 _ hi, b_0, b_0]
    simp
  · rfl
theorem aso_8 (L : LF) (hk : okL L) (m : Int32) {j : Nat} (hj : j < lf_n L) : ∀ i, 8 ≤ i → i < 32 → bt (aso L m j) i = false := by
  intro i h1 h2
  unfold aso
  split
  · exact b_0 i
  · exact nd_8 L hk hj _ i h1 h2
