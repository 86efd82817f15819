/-! the reference lays its stands -/
def stN (s : Int32) : Nat := (stnd s).toNatClampNeg
theorem stN_eq (s : Int32) : stN s < 65536 ∧ stnd s = nI (stN s) := by
  obtain ⟨k, hk, e⟩ := b_low (x := stnd s) (n := 16) (by omega) (fun i h1 h2 => by rw [stnd_bt s h2]; simp; omega)
  have : stN s = k := by unfold stN; rw [e, nI_clamp (by omega)]
  rw [this]
  exact ⟨hk, e⟩
theorem stN_inj {L : LF} {s t : Int32} (hs : okS L s) (ht : okS L t) (h : stN s = stN t) : s = t := by
  have e : stnd s = stnd t := by rw [(stN_eq s).2, (stN_eq t).2, h]
  have hb : ∀ j, j < 8 → bt s (j + 8) = bt t (j + 8) ∧ bt s j = bt t j := by
    intro j hj
    have e0 := congrArg (fun x => bt x (2 * j)) e
    have e1 := congrArg (fun x => bt x (2 * j + 1)) e
    simp only [stnd_bt s (show 2 * j < 32 by omega), stnd_bt t (show 2 * j < 32 by omega), stnd_bt s (show 2 * j + 1 < 32 by omega), stnd_bt t (show 2 * j + 1 < 32 by omega)] at e0 e1
    rw [show 2 * j / 2 = j by omega, show 2 * j % 2 = 0 by omega, bt_mood, bt_mood] at e0
    rw [show (2 * j + 1) / 2 = j by omega, show (2 * j + 1) % 2 = 1 by omega, bt_mood, bt_mood] at e1
    simp [show 2 * j < 16 by omega] at e0
    simp [show 2 * j + 1 < 16 by omega] at e1
    rw [e0] at e1
    refine ⟨e0, ?_⟩
    cases h1 : bt s j <;> cases h2 : bt t j <;> cases h3 : bt t (j + 8) <;> simp_all
  apply b_ext
  intro i hi
  by_cases c : i < 8
  · exact (hb i c).2
  · by_cases c2 : i < 16
    · have := (hb (i - 8) (by omega)).1
      rw [show i - 8 + 8 = i by omega] at this
      exact this
    · rw [hs.2 i (by omega) hi, ht.2 i (by omega) hi]
def mvS (L : LF) (s : Int32) (mv : Nat) : Int32 := if mvt L s mv < 0 then -1 else stnd (mvt L s mv)
theorem m_moved {S : sk_S} {d : sk_D} {L : LF} (h : MI S d L) {s : Int32} (hs : okM L s) {mv : Nat} (hm : mv < 16) : ∃ d', fX11_movedTo S d 94 (stnd s) (nI mv) = some (mvS L s mv, d') ∧ Fr scm d d' := by
  have hS := h.1
  have hk := h.2.1
  have hn := hk.1
  obtain ⟨n1, n2, n3, n4⟩ := neg_lit
  have e8 : nI mv - nI mv / (8 : Int32) * (8 : Int32) = nI (mv % 8) := by
    rw [show (8 : Int32) = nI 8 from rfl]; exact pk_rem (by omega) (by omega) (by omega)
  have c8 : nI mv < (8 : Int32) ↔ mv < 8 := nI_ltI (b := 8) (by omega) (by omega)
  unfold fX11_movedTo mvS mvt
  rw [e8]
  simp (disch := omega) only [Option.bind_some, ↓reduceIte, nI_leI, nI_ltI, nI_eq, nI_1, kd94 hS, gi94 hS, pi94 hS, gr94_1 hS, gr94_2 hS, gr94_3 hS, gr94_4 hS, gr94_16 hS, gr94_17 hS, gr94_18 hS, gr94_21 hS, gr94_22 hS, gr94_23 hS, gr94_24 hS, gr94_26 hS, gr94_27 hS, gr94_28 hS, gr94_29 hS, gr94_30 hS, gr94_31 hS, gr94_33 hS, gr94_34 hS, gr94_35 hS, gr94_36 hS, l95_1 hS, h.2.2.2.1, c8]
  by_cases q : mv % 8 < lf_n L
  · rw [if_pos q]
    by_cases c : mv < 8
    · have em : mv % 8 = mv := by omega
      rw [em] at q ⊢
      rw [if_pos c, if_pos c, f_isDone S d s (by omega), m_needs h hs.z q]
      simp only [Option.bind_some]
      rcases Bool.eq_false_or_eq_true (bt s mv) with hb | hb
      · have e : tdo L s mv = -2 := by unfold tdo; rw [if_neg (show ¬ ¬ mv < lf_n L by simpa using q), if_pos hb]
        rw [if_pos hb, e, if_pos n2]
        exact ⟨d, rfl, Fr.refl _ _⟩
      · rw [if_neg (by rw [hb]; decide)]
        by_cases z : (lf_v L 5 mv &&& (dn s ^^^ (-1))) = 0
        · have e : tdo L s mv = dto L s mv := by unfold tdo; rw [if_neg (show ¬ ¬ mv < lf_n L by simpa using q), if_neg (by rw [hb]; decide), if_neg (show ¬ ¬ (lf_v L 5 mv &&& (dn s ^^^ (-1))) = 0 from fun a => a z)]; rfl
          obtain ⟨d2, a1, a2⟩ := m_doneTo h hs.z q
          rw [decide_eq_true z, if_pos rfl, e, if_neg (ok_do hk hs q z).pos, a1]
          exact ⟨d2, rfl, a2⟩
        · have e : tdo L s mv = -3 := by unfold tdo; rw [if_neg (show ¬ ¬ mv < lf_n L by simpa using q), if_neg (by rw [hb]; decide), if_pos z]
          rw [decide_eq_false z, if_neg (by decide), e, if_pos n3]
          exact ⟨d, rfl, Fr.refl _ _⟩
    · have em : mv % 8 = mv - 8 := by omega
      rw [em] at q ⊢
      rw [if_neg c, if_neg c, f_how S d s (by omega)]
      simp only [Option.bind_some]
      unfold fX11_movedTo_J41
      cases hb : bt s (mv - 8 + 8) with
      | true =>
        have e : tdr L s (mv - 8) = s &&& (b8 (mv - 8) ^^^ (-1)) := by unfold tdr; rw [if_neg (show ¬ ¬ mv - 8 < lf_n L by simpa using q), if_neg (by rw [hb]; decide)]
        rw [m_dropped S d s (by omega) hb, e, if_neg (ok_drop hk hs q).pos]
        simp only [Option.bind_some]
        refine ⟨d, ?_, Fr.refl _ _⟩
        by_cases c1 : mood s (mv - 8) = 1
        · rw [if_pos c1]
        · rw [if_neg c1, if_pos]
          rw [(mood_c _ _).1, hb] at c1
          rw [(mood_c _ _).2.2.1, hb]
          refine ⟨?_, rfl⟩
          cases h2 : bt s (mv - 8)
          · rfl
          · exact absurd ⟨h2, rfl⟩ c1
      | false =>
        have e : tdr L s (mv - 8) = -2 := by unfold tdr; rw [if_neg (show ¬ ¬ mv - 8 < lf_n L by simpa using q), if_pos hb]
        rw [e, if_pos n2, if_neg (fun a => by rw [(mood_c _ _).1, hb] at a; exact absurd a.2 (by decide)), if_neg (fun a => by rw [(mood_c _ _).2.2.1, hb] at a; exact absurd a.2 (by decide))]
        exact ⟨d, rfl, Fr.refl _ _⟩
  · rw [if_neg q]
    have e : (if mv < 8 then tdo L s mv else tdr L s (mv - 8)) = -1 := by
      by_cases c : mv < 8
      · rw [if_pos c]; unfold tdo; rw [if_pos (by omega)]
      · rw [if_neg c]; unfold tdr; rw [if_pos (by omega)]
    rw [e, if_pos n1]
    exact ⟨d, rfl, Fr.refl _ _⟩
/-- a queue in the reference's cells -/
def wmQ (d : sk_D) (Q : List TQ) : Prop := d.1 94 25 = nI Q.length ∧ (∀ (i : Nat) x, Q[i]? = some x → d.1 102 i = stnd x.1) ∧ ∀ i, i < 65536 → (d.1 105 i ≠ 0 ↔ ∃ x, x ∈ Q ∧ stN x.1 = i)
def wmT (d : sk_D) (L : LF) (Q : List TQ) (h : Nat) : Prop := ∀ (i : Nat) x, i < h → Q[i]? = some x → ∀ mv, mv < 16 → d.1 103 (16 * stN x.1 + mv) = mvS L x.1 mv
def bfm (b : Nat) : Prop := b = 94 ∨ b = 99 ∨ b = 100 ∨ b = 102 ∨ b = 103 ∨ b = 104 ∨ b = 105 ∨ b = 106 ∨ b = 107
theorem m_adds {S : sk_S} {d : sk_D} {L : LF} (hS : Sh S) {Q : List TQ} (hQ : wmQ d Q) (h1 : allS L Q) (h2 : nds Q) {t b e : Int32} (ht : okS L t) :
    ∃ d', fX11_adds S d 94 (stnd t) = some d' ∧ wmQ d' (rch Q t b e) ∧ Fr (fun a => a = 94 ∨ a = 102 ∨ a = 105) d d' ∧ ∀ k, k ≠ 25 → d'.1 94 k = d.1 94 k := by
  obtain ⟨q0, q1, q2⟩ := hQ
  obtain ⟨hz, ez⟩ := stN_eq t
  have okr := rch_ok (b := b) (e := e) h1 h2 (fun _ => ht)
  have lr := nds_len okr.1 okr.2
  have vb : vp_nar .boolean (1 : Int32) = 1 := by decide
  unfold fX11_adds
  rw [ez]
  simp (disch := omega) only [Option.bind_some, kd94 hS, gi94 hS, pi94 hS, gr94_1 hS, gr94_2 hS, gr94_3 hS, gr94_4 hS, gr94_16 hS, gr94_17 hS, gr94_18 hS, gr94_21 hS, gr94_22 hS, gr94_23 hS, gr94_24 hS, gr94_26 hS, gr94_27 hS, gr94_28 hS, gr94_29 hS, gr94_30 hS, gr94_31 hS, gr94_33 hS, gr94_34 hS, gr94_35 hS, gr94_36 hS, li105 hS]
  by_cases c : d.1 105 (stN t) = 0
  · have notin : ¬ (Q.any (fun x => x.1 == t)) = true := by
      intro a
      obtain ⟨x, hx, ex⟩ := (any_iff Q t).mp a
      exact (q2 (stN t) hz).mpr ⟨x, hx, by rw [ex]⟩ c
    have e1 : rch Q t b e = Q ++ [(t, b, e)] := by
      unfold rch
      rw [if_neg (by intro a; rcases a with a | a; exact ht.1.pos a; exact notin a)]
    rw [e1, List.length_append] at lr
    simp at lr
    have u1 : ∀ (x : sk_D) (k : Nat) (v : Int32), (sk_uI x 105 k v).1 94 = x.1 94 := fun x k v => uI_a _ _ _ _ _ (by decide)
    have u2 : ∀ (x : sk_D) (k : Nat) (v : Int32), (sk_uI x 102 k v).1 94 = x.1 94 := fun x k v => uI_a _ _ _ _ _ (by decide)
    rw [if_pos c]
    simp (disch := omega) only [Option.bind_some, kd94 hS, gi94 hS, pi94 hS, gr94_1 hS, gr94_2 hS, gr94_3 hS, gr94_4 hS, gr94_16 hS, gr94_17 hS, gr94_18 hS, gr94_21 hS, gr94_22 hS, gr94_23 hS, gr94_24 hS, gr94_26 hS, gr94_27 hS, gr94_28 hS, gr94_29 hS, gr94_30 hS, gr94_31 hS, gr94_33 hS, gr94_34 hS, gr94_35 hS, gr94_36 hS, si105 hS, vb, u1, q0, si102 hS, u2, nI_1]
    refine ⟨_, rfl, ?_, Fr.tI (Fr.tI (Fr.tI (Fr.refl _ _) (Or.inr (Or.inr rfl))) (Or.inr (Or.inl rfl))) (Or.inl rfl), fun k hk => by rw [uI_k _ _ _ _ _ hk, u2, u1]⟩
    rw [e1]
    refine ⟨by rw [uI_s]; simp, ?_, ?_⟩
    · intro i x hx
      rw [uI_a _ _ _ 102 _ (by decide)]
      rw [List.getElem?_append] at hx
      split at hx
      · next hi => rw [uI_k _ _ _ _ _ (by omega), uI_a _ _ _ 102 _ (by decide)]; exact q1 i x hx
      · next hi =>
        rw [List.getElem?_singleton] at hx
        split at hx
        · cases hx
          have : i = Q.length := by omega
          subst this
          rw [uI_s]; exact ez.symm
        · cases hx
    · intro i hi
      rw [uI_a _ _ _ 105 _ (by decide), uI_a _ _ _ 105 _ (by decide)]
      by_cases ci : i = stN t
      · subst ci
        rw [uI_s]
        exact ⟨fun _ => ⟨(t, b, e), by simp, rfl⟩, fun _ => by decide⟩
      · rw [uI_k _ _ _ _ _ ci, q2 i hi]
        constructor
        · rintro ⟨x, hx, ex⟩; exact ⟨x, by simp [hx], ex⟩
        · rintro ⟨x, hx, ex⟩
          rw [List.mem_append] at hx
          rcases hx with hx | hx
          · exact ⟨x, hx, ex⟩
          · simp at hx; subst hx; exact absurd ex.symm ci
  · rw [if_neg c]
    obtain ⟨x, hx, ex⟩ := (q2 (stN t) hz).mp c
    have : x.1 = t := stN_inj (h1 x hx) ht ex
    have e1 : rch Q t b e = Q := by unfold rch; rw [if_pos (Or.inr ((any_iff Q t).mpr ⟨x, hx, this⟩))]
    rw [e1]
    exact ⟨d, rfl, ⟨q0, q1, q2⟩, Fr.refl _ _, fun k _ => rfl⟩
theorem p16 (a k : Nat) : (16 : Int32) * nI a + nI k = nI (16 * a + k) := by rw [show (16 : Int32) = nI 16 from rfl, pk_mul, nI_add]
theorem m_lay1 {S : sk_S} {d : sk_D} {L : LF} (h : MI S d L) {Q : List TQ} (hQ : wmQ d Q) (h1 : allS L Q) (h2 : nds Q) {k : Nat} {x : TQ} (hx : Q[k]? = some x) (hT : wmT d L Q k) :
    ∃ d', sk_itr (fX11_laysStands_L46 S 94 (nI k)) ((0 : Int32), d) = some d' ∧ wmQ d' (bst L x.1 16 Q) ∧ wmT d' L Q (k + 1) ∧ Fr bfm d d' ∧ ∀ j, j ≠ 25 → d'.1 94 j = d.1 94 j := by
  have hS := h.1
  have hk := h.2.1
  have okx := h1 x (List.mem_of_getElem? hx)
  have lQ := nds_len h1 h2
  have kl : k < Q.length := by
    rcases Nat.lt_or_ge k Q.length with a | a
    · exact a
    · rw [List.getElem?_eq_none a] at hx; cases hx
  obtain ⟨hz, ez⟩ := stN_eq x.1
  have loop := it_for (body := fX11_laysStands_L46 S 94 (nI k)) (fun mv z => z.1 = nI mv ∧ MI S z.2 L ∧ wmQ z.2 (bst L x.1 mv Q) ∧ wmT z.2 L Q k ∧ (∀ j, j < mv → z.2.1 103 (16 * stN x.1 + j) = mvS L x.1 j) ∧ Fr bfm d z.2 ∧ ∀ j, j ≠ 25 → z.2.1 94 j = d.1 94 j) 16
    (fun e => wmQ e (bst L x.1 16 Q) ∧ wmT e L Q (k + 1) ∧ Fr bfm d e ∧ ∀ j, j ≠ 25 → e.1 94 j = d.1 94 j) ?_ ?_ (s := ((0 : Int32), d)) ⟨rfl, h, hQ, hT, fun j hj => by omega, Fr.refl _ _, fun j _ => rfl⟩
  · exact loop
  · intro mv z hm ⟨i1, i2, i3, i4, i5, i6, i7⟩
    left
    have okb := bst_ok hk okx h1 h2 mv (by omega)
    have gk : z.2.1 102 k = stnd x.1 := by
      apply i3.2.1 k x
      rw [(bst_len L x.1 Q mv).2 k kl]; exact hx
    obtain ⟨d1, a1, a2⟩ := m_moved i2 okx.1 hm
    have hx16 : ¬ (16 : Int32) ≤ nI mv := nI_ge (b := 16) hm (by omega)
    have g1 : d1.1 102 k = stnd x.1 := by rw [a2.i (b := 102) (by unfold scm; omega)]; exact gk
    have b1 : 16 * stN x.1 + mv < 1048576 := by omega
    have ix : (16 : Int32) * stnd x.1 + nI mv = nI (16 * stN x.1 + mv) := by rw [ez, p16]
    have q1 : wmQ d1 (bst L x.1 mv Q) := by
      unfold wmQ
      rw [a2.i (b := 94) (by unfold scm; omega), a2.i (b := 102) (by unfold scm; omega), a2.i (b := 105) (by unfold scm; omega)]
      exact i3
    have f3 : d1.1 103 = z.2.1 103 := a2.i (by unfold scm; omega)
    have q2 : wmQ (sk_uI d1 103 (16 * stN x.1 + mv) (mvS L x.1 mv)) (bst L x.1 mv Q) := by
      unfold wmQ
      rw [uI_a _ _ _ 94 _ (by decide), uI_a _ _ _ 102 _ (by decide), uI_a _ _ _ 105 _ (by decide)]
      exact q1
    have fr1 : Fr bfm d (sk_uI d1 103 (16 * stN x.1 + mv) (mvS L x.1 mv)) := (i6.trans (a2.mono (fun b hb => by unfold scm at hb; unfold bfm; omega))).tI (by unfold bfm; omega)
    have f94 : ∀ j, j ≠ 25 → (sk_uI d1 103 (16 * stN x.1 + mv) (mvS L x.1 mv)).1 94 j = d.1 94 j := fun j hj => by
      rw [uI_a _ _ _ 94 _ (by decide), a2.i (b := 94) (by unfold scm; omega)]; exact i7 j hj
    have t4 : wmT (sk_uI d1 103 (16 * stN x.1 + mv) (mvS L x.1 mv)) L Q k := by
      intro i y hi hy mv2 hm2
      have : ¬ 16 * stN y.1 + mv2 = 16 * stN x.1 + mv := by
        intro a
        have : stN y.1 = stN x.1 := by omega
        have e := stN_inj (h1 y (List.mem_of_getElem? hy)) okx this
        have := h2 i k y x hy hx e
        omega
      rw [uI_k _ _ _ _ _ this, f3]
      exact i4 i y hi hy mv2 hm2
    have t5 : ∀ j, j < mv + 1 → (sk_uI d1 103 (16 * stN x.1 + mv) (mvS L x.1 mv)).1 103 (16 * stN x.1 + j) = mvS L x.1 j := by
      intro j hj
      by_cases c : j = mv
      · subst c; rw [uI_s]
      · rw [uI_k _ _ _ _ _ (by omega), f3]; exact i5 j (by omega)
    have m2 : MI S (sk_uI d1 103 (16 * stN x.1 + mv) (mvS L x.1 mv)) L := i2.fr (by rw [uI_a _ _ _ 95 _ (by decide)]; exact scm95 a2)
    unfold fX11_laysStands_L46
    rw [i1]
    simp (disch := omega) only [Option.bind_some, ↓reduceIte, hx16, kd94 hS, gi94 hS, pi94 hS, gr94_1 hS, gr94_2 hS, gr94_3 hS, gr94_4 hS, gr94_16 hS, gr94_17 hS, gr94_18 hS, gr94_21 hS, gr94_22 hS, gr94_23 hS, gr94_24 hS, gr94_26 hS, gr94_27 hS, gr94_28 hS, gr94_29 hS, gr94_30 hS, gr94_31 hS, gr94_33 hS, gr94_34 hS, gr94_35 hS, gr94_36 hS, li102 hS, gk, a1, g1, ix, si103 hS]
    by_cases c : mvt L x.1 mv < 0
    · have e : mvS L x.1 mv = -1 := by unfold mvS; rw [if_pos c]
      rw [e] at q2 fr1 f94 t4 t5 m2 ⊢
      rw [if_pos rfl]
      refine ⟨_, rfl, nI_1 mv, m2, ?_, t4, t5, fr1, f94⟩
      rw [bst, rch_neg c]; exact q2
    · have e : mvS L x.1 mv = stnd (mvt L x.1 mv) := by unfold mvS; rw [if_neg c]
      have okm := okx.mv hk hm c
      have ne : ¬ stnd (mvt L x.1 mv) = -1 := by
        rw [(stN_eq _).2, fa_eq, nI_toInt (by have := (stN_eq (mvt L x.1 mv)).1; omega), show (-1 : Int32).toInt = -1 from rfl]; omega
      rw [e] at q2 fr1 f94 t4 t5 m2 ⊢
      obtain ⟨d3, r1, r2, r3, r4⟩ := m_adds (b := x.1) (e := dcd mv) hS q2 okb.1 okb.2 okm
      rw [if_neg ne, r1, Option.bind_some]
      refine ⟨_, rfl, nI_1 mv, m2.fr (r3.i (by omega)), ?_, ?_, ?_, fr1.trans (r3.mono (fun b hb => by unfold bfm; omega)), fun j hj => by rw [r4 j hj]; exact f94 j hj⟩
      · rw [bst]; exact r2
      · unfold wmT; rw [r3.i (b := 103) (by omega)]; exact t4
      · rw [r3.i (b := 103) (by omega)]; exact t5
  · intro z ⟨i1, i2, i3, i4, i5, i6, i7⟩
    unfold fX11_laysStands_L46
    rw [i1]
    refine ⟨_, rfl, i3, ?_, i6, i7⟩
    intro i y hi hy mv hm
    rcases Nat.lt_or_ge i k with c | c
    · exact i4 i y c hy mv hm
    · have : i = k := by omega
      subst this
      rw [hx] at hy
      cases hy
      exact i5 mv hm
