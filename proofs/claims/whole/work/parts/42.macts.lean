/-! the reference: told deeds -/
theorem lw (a lo hi : Nat) (ha : a < 2 ^ 31) (hlo : lo < 2 ^ 31) (hhi : hi < 2 ^ 31) : (lN lo ≤ lN a ∧ lN a ≤ lN hi) ↔ (lo ≤ a ∧ a ≤ hi) := by rw [lN_le hlo ha, lN_le ha hhi]
def inR (lo hi : Nat) (v : Int64) : Prop := lN lo ≤ v ∧ v ≤ lN hi
theorem v_neg {v : Int64} (h : v < 0 ∨ ¬ v ≤ 49) : ∀ lo hi : Int64, 0 ≤ lo → hi ≤ 49 → ¬ (lo ≤ v ∧ v ≤ hi) := by
  intro lo hi h1 h2 ⟨h3, h4⟩
  have e0 : (0 : Int64).toInt = 0 := rfl
  have e49 : (49 : Int64).toInt = 49 := rfl
  rw [fa_le64] at h1 h2 h3 h4
  rw [fa_lt64, fa_le64] at h
  omega
theorem m_whyNotB {S : sk_S} (d : sk_D) {v : Int64} (h : v < 0 ∨ ¬ v ≤ 49) : fX11_whyNot S d 94 v = some 1 := by
  have e := v_neg h
  unfold fX11_whyNot
  simp only [f_within, Option.bind_some, e 0 9 (by decide) (by decide), e 10 19 (by decide) (by decide), e 20 29 (by decide) (by decide), e 30 39 (by decide) (by decide), e 40 49 (by decide) (by decide), decide_false, Bool.false_eq_true, ↓reduceIte]
/-- what acting brings -/
def acted (d e : sk_D) (m : Int32) : Prop := mfr d e ∧ (∀ k, 83 ≤ k → k < 174 → e.1 95 k = d.1 95 k) ∧ mM (fun k => e.1 95 (74 + k)) m ∧ e.1 101 = d.1 101 ∧ e.1 94 = d.1 94
theorem ml10 (a : Nat) (ha : a < 2 ^ 31) : nI a - nI a / (10 : Int32) * (10 : Int32) = nI (a % 10) := by
  rw [show (10 : Int32) = nI 10 from rfl]; exact pk_rem ha (by omega) (by omega)
theorem m_act {S : sk_S} {d : sk_D} {L : LF} (h : MI S d L) {m : Int32} (hm : mM (fun k => d.1 95 (74 + k)) m) (ho : okM L m) (v : Int64) :
    (fX11_whyNot S d 94 v = some (wy (tde L m v)) ∧ ng4 (tde L m v)) ∨ (fX11_whyNot S d 94 v = some 0 ∧ okM L (tde L m v) ∧ ∀ e : sk_D, e.1 95 = d.1 95 → ∃ d', fX11_acts S e 94 v.toInt32 = some d' ∧ acted e d' (tde L m v)) := by
  have hS := h.1
  have hk := h.2.1
  have hn := hk.1
  by_cases hv : v < 0 ∨ ¬ v ≤ 49
  · left
    have e : tde L m v = -1 := by unfold tde; rw [if_pos hv]
    rw [m_whyNotB d hv, e]
    exact ⟨rfl, Or.inl rfl⟩
  · have hv1 : ¬ v < 0 := fun a => hv (Or.inl a)
    have hv2 : v ≤ 49 := Decidable.not_not.mp (fun a => hv (Or.inr a))
    obtain ⟨a, ha, rfl⟩ := v_49 hv1 hv2
    have w : ∀ lo hi, lo < 50 → hi < 50 → ((lN lo ≤ lN a ∧ lN a ≤ lN hi) ↔ (lo ≤ a ∧ a ≤ hi)) := fun lo hi h1 h2 => lw a lo hi (by omega) (by omega) (by omega)
    have w0 : (0 ≤ lN a ∧ lN a ≤ 9) ↔ a ≤ 9 := (w 0 9 (by omega) (by omega)).trans (by omega)
    have w1 : (10 ≤ lN a ∧ lN a ≤ 19) ↔ (10 ≤ a ∧ a ≤ 19) := w 10 19 (by omega) (by omega)
    have w2 : (20 ≤ lN a ∧ lN a ≤ 29) ↔ (20 ≤ a ∧ a ≤ 29) := w 20 29 (by omega) (by omega)
    have w3 : (30 ≤ lN a ∧ lN a ≤ 39) ↔ (30 ≤ a ∧ a ≤ 39) := w 30 39 (by omega) (by omega)
    have w4 : (40 ≤ lN a ∧ lN a ≤ 49) ↔ (40 ≤ a ∧ a ≤ 49) := w 40 49 (by omega) (by omega)
    have c1 : (10 : Int32) ≤ nI a ↔ 10 ≤ a := nI_leI (a := 10) (by omega) (by omega)
    have c2 : (20 : Int32) ≤ nI a ↔ 20 ≤ a := nI_leI (a := 20) (by omega) (by omega)
    have c3 : (30 : Int32) ≤ nI a ↔ 30 ≤ a := nI_leI (a := 30) (by omega) (by omega)
    have c4 : (40 : Int32) ≤ nI a ↔ 40 ≤ a := nI_leI (a := 40) (by omega) (by omega)
    have mm : ∀ e : sk_D, e.1 95 = d.1 95 → MI S e L ∧ mM (fun k => e.1 95 (74 + k)) m := fun e he => ⟨h.fr he, by rw [he]; exact hm⟩
    unfold fX11_whyNot
    simp only [f_within, Option.bind_some, w0, w1, w2, w3, w4, kd94 hS, ↓reduceIte, decide_eq_true_eq, lN_i]
    rcases (by omega : a ≤ 9 ∨ (10 ≤ a ∧ a ≤ 19) ∨ (20 ≤ a ∧ a ≤ 29) ∨ (30 ≤ a ∧ a ≤ 39) ∨ (40 ≤ a ∧ a ≤ 49)) with r | r | r | r | r
    · -- to do
      have e := tde_kj L m (k := 0) (j := a) (by omega) (by omega)
      rw [show 10 * 0 + a = a by omega] at e
      have ek : kdd L m 0 a = tdo L m a := rfl
      rw [e, ek, if_pos r]
      rcases m_whyDo h hm ho.z (j := a) (by omega) with ⟨b1, b2⟩ | ⟨b1, b2, b3, b4⟩
      · left; rw [b1]; exact ⟨rfl, b2⟩
      · right
        rw [b1, b3]
        refine ⟨rfl, ok_do hk ho b2 b4, fun x hx => ?_⟩
        obtain ⟨hX, hXm⟩ := mm x hx
        obtain ⟨d2, q1, q2⟩ := m_doneTo hX ho.z b2
        obtain ⟨d3, e1, e2, e3, e4⟩ := m_isStand (d := d2) hS (dto L m a)
        unfold fX11_acts
        rw [ml10 a (by omega), show a % 10 = a by omega]
        have n1 : ¬ 10 ≤ a := by omega
        simp (disch := omega) only [Option.bind_some, ↓reduceIte, kd94 hS, gi94 hS, pi94 hS, gr94_1 hS, gr94_2 hS, gr94_3 hS, gr94_4 hS, gr94_16 hS, gr94_17 hS, gr94_18 hS, gr94_21 hS, gr94_22 hS, gr94_23 hS, gr94_24 hS, gr94_26 hS, gr94_27 hS, gr94_28 hS, gr94_29 hS, gr94_30 hS, gr94_31 hS, gr94_33 hS, gr94_34 hS, gr94_35 hS, gr94_36 hS, c1, n1, m_stand hS hXm.1, q1, e1]
        have e95 : d2.1 95 = x.1 95 := scm95 q2
        refine ⟨d3, rfl, (mfr.scm q2).trans (mfr.h95 e2 (fun k hk => e3 k (by omega))), fun k h1 h2 => by rw [e3 k (by omega), e95], ⟨e4, ?_⟩, ?_, ?_⟩
        · show d3.1 95 (74 + 8) = _
          rw [e3 82 (by omega), e95, sp_dto _ _ (by omega)]; exact hXm.2
        · rw [e2.i (b := 101) (by omega), q2.i (b := 101) (by unfold scm; omega)]
        · rw [e2.i (b := 94) (by omega), q2.i (b := 94) (by unfold scm; omega)]
    · -- to drop
      have e := tde_kj L m (k := 1) (j := a - 10) (by omega) (by omega)
      rw [show 10 * 1 + (a - 10) = a by omega] at e
      have ek : kdd L m 1 (a - 10) = tdr L m (a - 10) := rfl
      have es : lN a - 10 = lN (a - 10) := by rw [show (10 : Int64) = lN 10 from rfl, lN_sub (by omega)]
      rw [e, ek, if_neg (by omega), if_pos r, es]
      rcases m_whyDrop h hm (j := a - 10) (by omega) with ⟨b1, b2⟩ | ⟨b1, b2, b3, b4⟩
      · left; rw [b1]; exact ⟨rfl, b2⟩
      · right
        rw [b1, b4]
        refine ⟨rfl, ok_drop hk ho b2, fun x hx => ?_⟩
        obtain ⟨hX, hXm⟩ := mm x hx
        have q1 := m_dropped S x m (j := a - 10) (by omega) b3
        obtain ⟨d3, e1, e2, e3, e4⟩ := m_isStand (d := x) hS (m &&& (b8 (a - 10) ^^^ (-1)))
        unfold fX11_acts
        rw [ml10 a (by omega), show a % 10 = a - 10 by omega]
        have n1 : 10 ≤ a := by omega
        have n2 : ¬ 20 ≤ a := by omega
        simp (disch := omega) only [Option.bind_some, ↓reduceIte, kd94 hS, gi94 hS, pi94 hS, gr94_1 hS, gr94_2 hS, gr94_3 hS, gr94_4 hS, gr94_16 hS, gr94_17 hS, gr94_18 hS, gr94_21 hS, gr94_22 hS, gr94_23 hS, gr94_24 hS, gr94_26 hS, gr94_27 hS, gr94_28 hS, gr94_29 hS, gr94_30 hS, gr94_31 hS, gr94_33 hS, gr94_34 hS, gr94_35 hS, gr94_36 hS, c1, c2, n1, n2, m_stand hS hXm.1, q1, e1]
        refine ⟨d3, rfl, mfr.h95 e2 (fun k hk => e3 k (by omega)), fun k h1 h2 => e3 k (by omega), ⟨e4, ?_⟩, e2.i (b := 101) (by omega), e2.i (b := 94) (by omega)⟩
        show d3.1 95 (74 + 8) = _
        rw [e3 82 (by omega), sp_drop _ (by omega)]; exact hXm.2
    · -- to forge
      have e := tde_kj L m (k := 2) (j := a - 20) (by omega) (by omega)
      rw [show 10 * 2 + (a - 20) = a by omega] at e
      have ek : kdd L m 2 (a - 20) = tfo L m (a - 20) := rfl
      have es : lN a - 20 = lN (a - 20) := by rw [show (20 : Int64) = lN 20 from rfl, lN_sub (by omega)]
      rw [e, ek, if_neg (by omega), if_neg (by omega), if_pos r, es]
      rcases m_whyForge h hm ho.z (j := a - 20) (by omega) with ⟨b1, b2⟩ | ⟨b1, b2, b3, b4⟩
      · left; rw [b1]; exact ⟨rfl, b2⟩
      · right
        rw [b1, b4]
        refine ⟨rfl, ok_forge hk ho b2, fun x hx => ?_⟩
        obtain ⟨hX, hXm⟩ := mm x hx
        have qb := (mood_c _ _).2.2.2.mp b3
        unfold fX11_acts
        rw [ml10 a (by omega), show a % 10 = a - 20 by omega]
        have n1 : 10 ≤ a := by omega
        have n2 : 20 ≤ a := by omega
        have n3 : ¬ 30 ≤ a := by omega
        simp (disch := omega) only [Option.bind_some, ↓reduceIte, kd94 hS, gi94 hS, pi94 hS, gr94_1 hS, gr94_2 hS, gr94_3 hS, gr94_4 hS, gr94_16 hS, gr94_17 hS, gr94_18 hS, gr94_21 hS, gr94_22 hS, gr94_23 hS, gr94_24 hS, gr94_26 hS, gr94_27 hS, gr94_28 hS, gr94_29 hS, gr94_30 hS, gr94_31 hS, gr94_33 hS, gr94_34 hS, gr94_35 hS, gr94_36 hS, c1, c2, c3, n1, n2, n3, p74, si95 hS]
        have e2 : Fr (fun b => b = 95) x (sk_uI x 95 (74 + (a - 20)) 3) := Fr.uI _ rfl
        refine ⟨_, rfl, mfr.h95 e2 (fun k hk => uI_k _ _ _ _ _ (by omega)), fun k h1 h2 => uI_k _ _ _ _ _ (by omega), ⟨fun i hi => ?_, ?_⟩, e2.i (b := 101) (by omega), e2.i (b := 94) (by omega)⟩
        · show (sk_uI x 95 (74 + (a - 20)) 3).1 95 (74 + i) = _
          by_cases c : i = a - 20
          · subst c
            rw [uI_s]
            symm
            rw [(mood_c _ _).2.2.1, b_or, b_or, bt_b8 (by omega) (by omega), bt_b8 (by omega) (by omega), qb.1]
            simp
          · rw [uI_k _ _ _ _ _ (by omega), show x.1 95 (74 + i) = mood m i from hXm.1 i hi]
            apply mood_of
            · rw [b_or, bt_b8 (by omega) (by omega)]; simp [show ¬ i = a - 20 + 8 by omega]
            · rw [b_or, bt_b8 (by omega) (by omega)]; simp [c]
        · show (sk_uI x 95 (74 + (a - 20)) 3).1 95 (74 + 8) = _
          rw [uI_k _ _ _ _ _ (by omega), sp_forge _ (by omega)]
          exact hXm.2
    · -- to be asked
      have e := tde_kj L m (k := 3) (j := a - 30) (by omega) (by omega)
      rw [show 10 * 3 + (a - 30) = a by omega] at e
      have ek : kdd L m 3 (a - 30) = tas L m (a - 30) := rfl
      have es : lN a - 30 = lN (a - 30) := by rw [show (30 : Int64) = lN 30 from rfl, lN_sub (by omega)]
      rw [e, ek, if_neg (by omega), if_neg (by omega), if_neg (by omega), if_pos r, es, m_isDoingN h (by omega), Option.bind_some]
      by_cases b2 : a - 30 < lf_n L
      · right
        rw [tas_aso _ hk _ b2, decide_eq_true b2]
        refine ⟨rfl, ok_ask hk ho b2, fun x hx => ?_⟩
        obtain ⟨hX, hXm⟩ := mm x hx
        obtain ⟨d2, q1, q2⟩ := m_asked hX ho.z b2 hXm.2
        have o1 := m_opened S d2 m (aso L m (a - 30)) (aso_8 _ hk _ b2)
        obtain ⟨d3, e1, e2, e3, e4⟩ := m_isStand (d := d2) hS (pb m (aso L m (a - 30)))
        unfold fX11_acts
        rw [ml10 a (by omega), show a % 10 = a - 30 by omega]
        have n1 : 10 ≤ a := by omega
        have n2 : 20 ≤ a := by omega
        have n3 : 30 ≤ a := by omega
        have n4 : ¬ 40 ≤ a := by omega
        simp (disch := omega) only [Option.bind_some, ↓reduceIte, kd94 hS, gi94 hS, pi94 hS, gr94_1 hS, gr94_2 hS, gr94_3 hS, gr94_4 hS, gr94_16 hS, gr94_17 hS, gr94_18 hS, gr94_21 hS, gr94_22 hS, gr94_23 hS, gr94_24 hS, gr94_26 hS, gr94_27 hS, gr94_28 hS, gr94_29 hS, gr94_30 hS, gr94_31 hS, gr94_33 hS, gr94_34 hS, gr94_35 hS, gr94_36 hS, c1, c2, c3, c4, n1, n2, n3, n4, m_stand hS hXm.1, q1, o1, e1]
        have e95 : d2.1 95 = x.1 95 := scm95 q2
        refine ⟨d3, rfl, (mfr.scm q2).trans (mfr.h95 e2 (fun k hk => e3 k (by omega))), fun k h1 h2 => by rw [e3 k (by omega), e95], ⟨e4, ?_⟩, ?_, ?_⟩
        · show d3.1 95 (74 + 8) = _
          rw [e3 82 (by omega), e95, sp_pb _ _ (aso_8 _ hk _ b2)]; exact hXm.2
        · rw [e2.i (b := 101) (by omega), q2.i (b := 101) (by unfold scm; omega)]
        · rw [e2.i (b := 94) (by omega), q2.i (b := 94) (by unfold scm; omega)]
      · left
        have et : tas L m (a - 30) = -1 := by unfold tas; rw [if_pos b2]
        rw [et, decide_eq_false b2]
        exact ⟨rfl, Or.inl rfl⟩
    · -- to slip
      right
      have e := tde_kj L m (k := 4) (j := a - 40) (by omega) (by omega)
      rw [show 10 * 4 + (a - 40) = a by omega] at e
      have ek : kdd L m 4 (a - 40) = (m &&& 65535) ||| (nI (a - 40) <<< ((16 : Int32) &&& 31)) := rfl
      obtain ⟨okn, hsp⟩ := ok_slip ho (z := a - 40) (by omega)
      rw [e, ek, if_neg (by omega), if_neg (by omega), if_neg (by omega), if_neg (by omega), if_pos r]
      refine ⟨rfl, okn, fun x hx => ?_⟩
      obtain ⟨hX, hXm⟩ := mm x hx
      have s82 : ∀ (x : sk_D) (v : Int32), sk_sI S x 95 20 (82 : Int32) v = some (sk_uI x 95 82 v) := fun x v => si95 hS x v (j := 82) (by decide)
      unfold fX11_acts
      rw [ml10 a (by omega), show a % 10 = a - 40 by omega]
      have n1 : 10 ≤ a := by omega
      have n2 : 20 ≤ a := by omega
      have n3 : 30 ≤ a := by omega
      have n4 : 40 ≤ a := by omega
      simp (disch := omega) only [Option.bind_some, ↓reduceIte, kd94 hS, gi94 hS, pi94 hS, gr94_1 hS, gr94_2 hS, gr94_3 hS, gr94_4 hS, gr94_16 hS, gr94_17 hS, gr94_18 hS, gr94_21 hS, gr94_22 hS, gr94_23 hS, gr94_24 hS, gr94_26 hS, gr94_27 hS, gr94_28 hS, gr94_29 hS, gr94_30 hS, gr94_31 hS, gr94_33 hS, gr94_34 hS, gr94_35 hS, gr94_36 hS, c1, c2, c3, c4, n1, n2, n3, n4, s82]
      have e2 : Fr (fun b => b = 95) x (sk_uI x 95 82 (nI (a - 40))) := Fr.uI _ rfl
      refine ⟨_, rfl, mfr.h95 e2 (fun k hk => uI_k _ _ _ _ _ (by omega)), fun k h1 h2 => uI_k _ _ _ _ _ (by omega), ⟨fun i hi => ?_, ?_⟩, e2.i (b := 101) (by omega), e2.i (b := 94) (by omega)⟩
      · show (sk_uI x 95 82 (nI (a - 40))).1 95 (74 + i) = _
        rw [uI_k _ _ _ _ _ (by omega), show x.1 95 (74 + i) = mood m i from hXm.1 i hi, mood_slip _ _ hi]
      · show (sk_uI x 95 82 (nI (a - 40))).1 95 (74 + 8) = _
        rw [uI_s, hsp]
