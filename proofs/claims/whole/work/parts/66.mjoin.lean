/-! doors that are joined, by the reference; the calls -/
theorem mood1 (m : Int32) {j : Nat} (hj : j < 8) : mood m j = 1 ↔ bt (sw m) j = true := by
  rw [bt_sw m (by omega), decide_eq_true hj, Bool.true_and]
  unfold mood
  cases bt m j <;> cases bt m (j + 8) <;> decide
def MJ (d e : sk_D) (L : LF) (sh : Int32) (j : Nat) (v : Int32) : Prop := mfr d e ∧ e.1 95 = d.1 95 ∧ e.1 94 32 = v ∧ ∀ i, i < j → e.1 111 i = oI (dO L sh i)
theorem MJ.step {d e : sk_D} {L : LF} {sh v w : Int32} {j x : Nat} (h : MJ d e L sh j v) (hx : j ≤ x) (u : Int32) : MJ d (sk_uI (sk_uI e 111 x u) 94 32 w) L sh j w := by
  obtain ⟨h1, h2, h3, h4⟩ := h
  refine ⟨(h1.trans (mfr.of (d := e) (e := sk_uI e 111 x u) ?_)).trans (mfr.f94 _ (by omega)), ?_, uI_s _ _ _ _, fun i hi => ?_⟩
  · exact Fr.uI e (by unfold mfree; omega)
  · rw [uI_a _ _ _ _ _ (by decide), uI_a _ _ _ _ _ (by decide)]; exact h2
  · rw [uI_a _ _ _ _ _ (by decide), uI_k _ _ _ _ _ (by omega)]; exact h4 i hi
theorem MJ.set {d e : sk_D} {L : LF} {sh v : Int32} {j x : Nat} (h : MJ d e L sh j v) (hx : j ≤ x) (u : Int32) : MJ d (sk_uI e 111 x u) L sh j v := by
  obtain ⟨h1, h2, h3, h4⟩ := h
  refine ⟨h1.trans (mfr.of (d := e) (e := sk_uI e 111 x u) ?_), ?_, ?_, fun i hi => ?_⟩
  · exact Fr.uI e (by unfold mfree; omega)
  · rw [uI_a _ _ _ _ _ (by decide)]; exact h2
  · rw [uI_a _ _ _ _ _ (by decide)]; exact h3
  · rw [uI_k _ _ _ _ _ (by omega)]; exact h4 i hi
theorem m_joinOne {S : sk_S} {d : sk_D} {L : LF} {m : Int32} (h : MI S d L) (hm : mM (fun k => d.1 95 (74 + k)) m) {j : Nat} (hj : j < lf_n L) {e : sk_D} (he : MJ d e L (sw m) j (dj L (sw m) j)) :
    ∃ e', sk_itr (fX11_laysJoined_L26 S 94 (nI j)) ((0 : Int32), sk_uI e 111 j (-1)) = some e' ∧ MJ d e' L (sw m) (j + 1) (dj L (sw m) (j + 1)) := by
  obtain ⟨hS, hk, hl⟩ := h
  have hn := hk.1
  have h8 := hk.2.1
  obtain ⟨-, v1, -⟩ := mv hl hj
  have hd : ∀ k, k < lf_k L → d.1 95 (66 + k) = lf_v L 7 k := hl.2.2.2.2.2.1
  have hmd := mood1 m (show j < 8 by omega)
  have hmm : d.1 95 (74 + j) = mood m j := hm.1 j (by omega)
  have fin : ∀ e2 : sk_D, MJ d e2 L (sw m) j (dj L (sw m) j ||| oB (dO L (sw m) j)) → e2.1 111 j = oI (dO L (sw m) j) → MJ d e2 L (sw m) (j + 1) (dj L (sw m) (j + 1)) := by
    intro e2 ⟨a1, a2, a3, a4⟩ a5
    refine ⟨a1, a2, a3, fun i hi => ?_⟩
    rcases Nat.lt_or_ge i j with q | q
    · exact a4 i q
    · rw [show i = j by omega]; exact a5
  have loop := it_for (body := fX11_laysJoined_L26 S 94 (nI j)) (fun k z => z.1 = nI k ∧ MJ d z.2 L (sw m) j (dj L (sw m) j ||| oB (fk (jc L (sw m) j) k)) ∧ z.2.1 111 j = oI (fk (jc L (sw m) j) k)) (lf_k L)
    (fun e2 => MJ d e2 L (sw m) (j + 1) (dj L (sw m) (j + 1))) ?_ ?_ (s := ((0 : Int32), sk_uI e 111 j (-1))) ⟨rfl, ?_, uI_s _ _ _ _⟩
  · exact loop
  · intro k z hkk ⟨i1, i2, i3⟩
    have p1 := i2.2.1
    unfold fX11_laysJoined_L26
    rw [i1, gr94_1 hS, Option.bind_some, l95_2 hS, Option.bind_some, p1, hl.2.2.1, if_neg (nI_ge hkk (by omega)), gr94_31 hS, Option.bind_some, li111 hS _ (show j < 8 by omega), Option.bind_some, i3]
    cases o : fk (jc L (sw m) j) k with
    | some k0 =>
      obtain ⟨o1, o2, o3⟩ := fk_some o
      right
      have en : ∀ k, k < 8 → ¬ oI (some k) = -1 := by decide
      rw [if_neg (en k0 (by omega))]
      rw [o] at i2 i3
      have ed : dO L (sw m) j = some k0 := by rw [← dO_eq hk]; exact fk_is (by omega) o2 o3
      exact ⟨_, rfl, fin _ (by rw [ed]; exact i2) (by rw [ed]; exact i3)⟩
    | none =>
      have o3 := fk_none o
      rw [o] at i2 i3
      rw [show oI none = -1 from rfl, if_pos rfl, Option.bind_some, p74, li95 hS _ (by omega), Option.bind_some, p1, hmm]
      by_cases c : bt (sw m) j = true
      · rw [if_pos (hmd.mpr c), gi94 hS, Option.bind_some, i2.2.2.1, show dj L (sw m) j ||| oB none = dj L (sw m) j from Int32.or_zero, f_isIn _ _ _ (by omega), Option.bind_some]
        have jk : jc L (sw m) j k = (mt L j k && !(bt (dj L (sw m) j) k)) := by unfold jc; rw [c, Bool.true_and]
        left
        cases c2 : bt (dj L (sw m) j) k with
        | true =>
          rw [if_pos rfl, nI_1]
          have : fk (jc L (sw m) j) (k + 1) = none := by simp [fk, o, jk, c2]
          exact ⟨_, rfl, rfl, by rw [this]; exact i2, by rw [this]; exact i3⟩
        | false =>
          rw [if_neg (by decide), Option.bind_some, p18, li95 hS _ (by omega), Option.bind_some, Option.bind_some, p66, li95 hS _ (by omega), Option.bind_some, p1, v1, hd k hkk]
          by_cases q : lf_v L 1 j + lf_v L 7 k = 9
          · have qm : mt L j k = true := by unfold mt; rw [decide_eq_true q]
            have : fk (jc L (sw m) j) (k + 1) = some k := by simp [fk, o, jk, c2, qm]
            rw [if_pos q, Option.bind_some, si111 hS _ _ (show j < 8 by omega), Option.bind_some, gi94 hS, Option.bind_some, pi94 hS, Option.bind_some, nI_1, uI_a _ _ _ _ _ (by decide), i2.2.2.1]
            refine ⟨_, rfl, rfl, ?_, ?_⟩
            · rw [this]
              rw [show dj L (sw m) j ||| oB none = dj L (sw m) j from Int32.or_zero]
              exact MJ.step i2 (Nat.le_refl _) _
            · rw [this, uI_a _ _ _ _ _ (by decide), uI_s]; rfl
          · have qm : mt L j k = false := by unfold mt; rw [decide_eq_false q]
            have : fk (jc L (sw m) j) (k + 1) = none := by simp [fk, o, jk, c2, qm]
            rw [if_neg q, nI_1]
            exact ⟨_, rfl, rfl, by rw [this]; exact i2, by rw [this]; exact i3⟩
      · right
        rw [if_neg (fun a => c (hmd.mp a))]
        have ed : dO L (sw m) j = none := by unfold dO; rw [if_neg c]
        exact ⟨_, rfl, fin _ (by rw [ed]; exact i2) (by rw [ed]; exact i3)⟩
  · intro z ⟨i1, i2, i3⟩
    have p1 := i2.2.1
    unfold fX11_laysJoined_L26
    rw [i1, gr94_1 hS, Option.bind_some, l95_2 hS, Option.bind_some, p1, hl.2.2.1, if_pos (nI_le (Nat.le_refl _) (by omega))]
    rw [dO_eq hk] at i2 i3
    exact ⟨_, rfl, fin _ i2 i3⟩
  · have := he.set (x := j) (Nat.le_refl _) (-1)
    rw [show dj L (sw m) j ||| oB (fk (jc L (sw m) j) 0) = dj L (sw m) j from Int32.or_zero]
    exact this
theorem m_laysJoined {S : sk_S} {d : sk_D} {L : LF} {m : Int32} (h : MI S d L) (hm : mM (fun k => d.1 95 (74 + k)) m) : ∃ e, fX11_laysJoined S d 94 = some e ∧ MJ d e L (sw m) (lf_n L) (dj L (sw m) (lf_n L)) := by
  have hS := h.1
  have hk := h.2.1
  have hl := h.2.2
  have hn := hk.1
  unfold fX11_laysJoined
  rw [pi94 hS, Option.bind_some]
  have loop := it_for (body := fX11_laysJoined_L7 S 94) (fun j z => z.1 = nI j ∧ MJ d z.2 L (sw m) j (dj L (sw m) j)) (lf_n L) (fun e => MJ d e L (sw m) (lf_n L) (dj L (sw m) (lf_n L))) ?_ ?_ (s := ((0 : Int32), sk_uI d 94 32 0)) ⟨rfl, mfr.f94 d (by omega), uI_a _ _ _ _ _ (by decide), uI_s _ _ _ _, fun i hi => by omega⟩
  · obtain ⟨e, he, e1⟩ := loop
    exact ⟨e, by rw [he]; rfl, e1⟩
  · intro j z hj ⟨i1, i2⟩
    left
    have p1 := i2.2.1
    obtain ⟨e', a1, a2⟩ := m_joinOne h hm hj i2
    unfold fX11_laysJoined_L7
    rw [i1, gr94_1 hS, Option.bind_some, l95_1 hS, Option.bind_some, p1, hl.2.1, if_neg (nI_ge hj (by omega)), gr94_31 hS, Option.bind_some, si111 hS _ _ (show j < 8 by omega), Option.bind_some, a1, Option.bind_some, nI_1]
    exact ⟨_, rfl, rfl, a2⟩
  · intro z ⟨i1, i2⟩
    have p1 := i2.2.1
    unfold fX11_laysJoined_L7
    rw [i1, gr94_1 hS, Option.bind_some, l95_1 hS, Option.bind_some, p1, hl.2.1, if_pos (nI_le (Nat.le_refl _) (by omega))]
    exact ⟨_, rfl, i2⟩
def x_over (A : AS) : Int32 := (((1 : Int32) <<< (nI (lf_k (as_L A)) &&& 31)) - 1) &&& (dj (as_L A) (sw (as_m A)) (lf_n (as_L A)) ^^^ (-1))
def x_join (A : AS) (p : Int32) : Int32 := if p = 0 then pc (dj (as_L A) (sw (as_m A)) (lf_n (as_L A))) else if p < 10 then -2 else if inN (lf_n (as_L A)) (p - 10) then oI (dO (as_L A) (sw (as_m A)) (p - 10).toNatClampNeg) else -2
theorem c_over {S : sk_S} {d : sk_D} {A : AS} (h : RC S d A) (hA : okA A) : fX10_over S d 1 = some (x_over A) := by
  have hS := h.1.1
  have hk := hA.1
  have hc := h.1.2.2.1
  unfold fX10_over x_over
  rw [gr1_0 hS, Option.bind_some, gr2_0 hS, Option.bind_some, gi3 hS, Option.bind_some, Option.bind_some, gr2_0 hS, Option.bind_some, gr1_5 hS, Option.bind_some, gi50 hS, Option.bind_some, h.2.1.1, f_sw, Option.bind_some, if_pos (kd3 hS), c_joined hS hk hc, Option.bind_some, hc.2.2.1]
theorem dj_low {L : LF} (hk : okL L) (sh : Int32) (j : Nat) : ∃ x, x < 256 ∧ dj L sh j = nI x := by
  have h8 := hk.2.1
  obtain ⟨x, h1, h2⟩ := b_low (x := dj L sh j) (n := 8) (by omega) (fun i a b => by
    cases q : bt (dj L sh j) i with
    | false => rfl
    | true =>
      obtain ⟨e, -, e2⟩ := (dj_bt hk sh b j).mp q
      have := (dO_lt e2).1
      omega)
  exact ⟨x, h1, h2⟩
theorem c_join {S : sk_S} {d : sk_D} {A : AS} (h : RC S d A) (hA : okA A) (p : Int32) : fX10_join S d 1 p = some (x_join A p) := by
  have hS := h.1.1
  have hk := hA.1
  have hn := hk.1
  have hc := h.1.2.2.1
  unfold fX10_join x_join
  by_cases q0 : p = 0
  · obtain ⟨x, x1, x2⟩ := dj_low hk (sw (as_m A)) (lf_n (as_L A))
    rw [if_pos q0, if_pos q0, gr1_0 hS, Option.bind_some, gr2_0 hS, Option.bind_some, gr1_5 hS, Option.bind_some, gi50 hS, Option.bind_some, h.2.1.1, f_sw, Option.bind_some, if_pos (kd3 hS), c_joined hS hk hc, Option.bind_some, x2, f_bc x (by omega)]
    rfl
  · rw [if_neg q0, if_neg q0]
    by_cases q1 : p < 10
    · rw [if_pos q1, if_pos q1]
    · rw [if_neg q1, if_neg q1, gr1_0 hS, Option.bind_some, gr2_0 hS, Option.bind_some, if_pos (kd3 hS)]
      have hp := c_hasP hS hk hc (p - 10)
      by_cases q : inN (lf_n (as_L A)) (p - 10)
      · obtain ⟨j, hj, e⟩ := inN_of q
        rw [hp.1 q, Option.bind_some, if_pos rfl, if_pos q, e, nI_clamp (by omega), Option.bind_some, gr2_0 hS, Option.bind_some, gr1_5 hS, Option.bind_some, gi50 hS, Option.bind_some, h.2.1.1, f_sw, Option.bind_some, if_pos (kd3 hS), c_doorOf hS hk hc _ hj]
        rfl
      · rw [hp.2 q, Option.bind_some, if_neg (by decide), if_neg q]
theorem RM.mj {S : sk_S} {d e : sk_D} {A : AS} {v : Int32} {j : Nat} (h : RM S d A) (hA : okA A) (f : MJ d e (as_L A) (sw (as_m A)) j v) : RM S e A :=
  h.keep f.1 (fun k _ _ => by rw [f.2.1]) (by rw [f.2.1]; exact h.2.1.1) hA.2.2.2.1
theorem m_over {S : sk_S} {d : sk_D} {A : AS} (h : RM S d A) (hA : okA A) : ∃ d', fX11_over S d 94 = some (x_over A, d') ∧ RM S d' A ∧ Fr mdl d d' := by
  have hS := h.1.1
  have h0 := h.m0 0
  have hm := h0.1.2.2
  obtain ⟨e, e1, e2⟩ := m_laysJoined h0.1 h0.2.1.1
  unfold fX11_over x_over
  rw [pi94 hS, Option.bind_some, if_pos (kd94 hS), e1, Option.bind_some, gr94_1 hS, Option.bind_some, l95_2 hS, Option.bind_some, gi94 hS, Option.bind_some, e2.2.1, hm.2.2.1, e2.2.2.1]
  exact ⟨e, rfl, h0.mj hA e2, (mfr0 d 0).2.2.2.2.trans e2.1.2.2.2.2⟩
theorem m_join {S : sk_S} {d : sk_D} {A : AS} (h : RM S d A) (hA : okA A) (p : Int32) : ∃ d', fX11_join S d 94 p = some (x_join A p, d') ∧ RM S d' A ∧ Fr mdl d d' := by
  have hS := h.1.1
  have h0 := h.m0 0
  have hm := h0.1.2.2
  have hn := hA.1.1
  obtain ⟨e, e1, e2⟩ := m_laysJoined h0.1 h0.2.1.1
  have r : RM S e A ∧ Fr mdl d e := ⟨h0.mj hA e2, (mfr0 d 0).2.2.2.2.trans e2.1.2.2.2.2⟩
  have same : ∀ (v : Int32), ∃ d', (some (v, sk_uI d 94 0 0) : Option (Int32 × sk_D)) = some (v, d') ∧ RM S d' A ∧ Fr mdl d d' := fun v => ⟨_, rfl, h0, (mfr0 d 0).2.2.2.2⟩
  unfold fX11_join x_join fX11_isWhat
  rw [pi94 hS, Option.bind_some, if_pos (kd94 hS)]
  by_cases q0 : p = 0
  · rw [if_pos q0, if_pos q0, Option.bind_some, if_pos rfl, if_pos (kd94 hS), e1, Option.bind_some, if_pos q0, gi94 hS, Option.bind_some, m_bits, Option.bind_some, e2.2.2.1]
    exact ⟨e, rfl, r⟩
  · rw [if_neg q0, if_neg q0]
    by_cases q1 : p < 10
    · rw [if_pos q1, if_pos q1, Option.bind_some, if_neg (by decide)]
      exact same _
    · rw [if_neg q1, if_neg q1, if_pos (kd94 hS)]
      have hp := m_isDoingP h0.1 (p - 10)
      by_cases q : inN (lf_n (as_L A)) (p - 10)
      · obtain ⟨j, hj, ej⟩ := inN_of q
        rw [hp.1 q, Option.bind_some, if_pos rfl, Option.bind_some, if_pos rfl, if_pos (kd94 hS), e1, Option.bind_some, if_neg q0, gr94_31 hS, Option.bind_some, ej, li111 hS _ (show j < 8 by omega), Option.bind_some, if_pos (by rw [← ej]; exact q), nI_clamp (by omega), e2.2.2.2 j hj]
        exact ⟨e, rfl, r⟩
      · rw [hp.2 q, Option.bind_some, if_neg (by decide), Option.bind_some, if_neg (by decide), if_neg q]
        exact same _
