/-! years by draws -/
def dx (x : Int32) : Int32 := (1103515245 : Int32) * x + (12345 : Int32)
def d8 (x : Int32) : Int32 := ((x.toUInt32 >>> ((16 : Int32).toUInt32 &&& Int32.toUInt32 31)).toInt32) - ((x.toUInt32 >>> ((16 : Int32).toUInt32 &&& Int32.toUInt32 31)).toInt32) / (8 : Int32) * (8 : Int32)
theorem d8_nI (x : Int32) : ∃ a, a < 8 ∧ d8 x = nI a := by
  have h : (x.toUInt32 >>> ((16 : Int32).toUInt32 &&& Int32.toUInt32 31)).toInt32.toBitVec.toNat = x.toBitVec.toNat / 2 ^ 16 := pk_ushr x 16 16 (by decide)
  have hlt : x.toBitVec.toNat < 2 ^ 32 := x.toBitVec.isLt
  have e : (x.toUInt32 >>> ((16 : Int32).toUInt32 &&& Int32.toUInt32 31)).toInt32 = nI (x.toBitVec.toNat / 2 ^ 16) := by
    apply Int32.toBitVec_inj.1
    apply BitVec.eq_of_toNat_eq
    rw [h, pk_tn (by omega)]
  refine ⟨x.toBitVec.toNat / 2 ^ 16 % 8, by omega, ?_⟩
  unfold d8
  rw [e, show (8 : Int32) = nI 8 from rfl]
  exact pk_rem (by omega) (by omega) (by omega)
def kdr (a : Nat) : Nat := if a < 4 then 0 else if a = 4 then 1 else if a = 5 then 2 else 3
theorem f_kd (S : sk_S) (d : sk_D) {a : Nat} (ha : a < 8) : fX10_kindDrawn S d (nI a) = some (nI (kdr a)) := by
  exact (by decide : ∀ a, a < 8 → (if (4 : Int32) ≤ nI a then (if nI a = 4 then (some (1 : Int32)) else (if nI a = 5 then some 2 else some 3)) else some 0) = some (nI (kdr a))) a ha
/-- behind k times: the seed, the moment, how many could be -/
def yr (L : LF) (m seed : Int32) : Nat → Int32 × Int32 × Nat
  | 0 => (seed, m, 0)
  | k + 1 => if tde L (yr L m seed k).2.1 (lN (10 * kdr (d8 (dx (yr L m seed k).1)).toNatClampNeg + (d8 (dx (dx (yr L m seed k).1))).toNatClampNeg)) < 0 then (dx (dx (yr L m seed k).1), (yr L m seed k).2.1, (yr L m seed k).2.2)
    else (dx (dx (yr L m seed k).1), tde L (yr L m seed k).2.1 (lN (10 * kdr (d8 (dx (yr L m seed k).1)).toNatClampNeg + (d8 (dx (dx (yr L m seed k).1))).toNatClampNeg)), (yr L m seed k).2.2 + 1)
theorem ok_yr {L : LF} (hk : okL L) {m : Int32} (h : okM L m) (seed : Int32) : ∀ k, okM L (yr L m seed k).2.1 ∧ (yr L m seed k).2.2 ≤ k ∧ ((yr L m seed k).2.2 = 0 → (yr L m seed k).2.1 = m)
  | 0 => ⟨h, Nat.le_refl _, fun _ => rfl⟩
  | k + 1 => by
    obtain ⟨a1, a2, a3⟩ := ok_yr hk h seed k
    rw [yr]
    split
    · exact ⟨a1, Nat.le_succ_of_le a2, a3⟩
    · next q => exact ⟨ok_tde hk a1 _ q, by show _ + 1 ≤ _; omega, fun z => by simp at z⟩
def x_year (A : AS) (seed n : Int32) : Int32 × AS := if n < 1 ∨ ¬ n ≤ 40 then (-3, A) else (nI (yr (as_L A) (as_m A) seed n.toNatClampNeg).2.2, if (yr (as_L A) (as_m A) seed n.toNatClampNeg).2.2 = 0 then A else goto A (yr (as_L A) (as_m A) seed n.toNatClampNeg).2.1)
theorem n_40 {n : Int32} (h : ¬ (n < 1 ∨ ¬ n ≤ 40)) : ∃ k, 1 ≤ k ∧ k ≤ 40 ∧ n = nI k := by
  have h1 : ¬ n < 1 := fun q => h (Or.inl q)
  have h2 : n ≤ 40 := Decidable.not_not.mp (fun q => h (Or.inr q))
  rw [fa_lt, show (1 : Int32).toInt = 1 from rfl] at h1
  rw [fa_le, show (40 : Int32).toInt = 40 from rfl] at h2
  refine ⟨n.toInt.toNat, by omega, by omega, ?_⟩
  rw [fa_eq, nI_toInt (by omega)]
  omega
theorem kdr4 (a : Nat) : kdr a < 4 := by
  unfold kdr
  repeat' split
  all_goals omega
theorem c_year {S : sk_S} {d : sk_D} {A : AS} (h : RC S d A) (hA : okA A) (seed n : Int32) : ∃ d', fX10_year S d 1 seed n = some ((x_year A seed n).1, d') ∧ RC S d' (x_year A seed n).2 ∧ Fr cls d d' := by
  have hS := h.1.1
  unfold fX10_year x_year
  by_cases q : n < 1 ∨ ¬ n ≤ 40
  · rw [if_pos q]
    by_cases q1 : n < 1
    · rw [if_pos q1]; exact ⟨d, rfl, h, Fr.refl _ _⟩
    · rw [if_neg q1, if_neg (by rcases q with a | a; exact absurd a q1; exact a)]
      exact ⟨d, rfl, h, Fr.refl _ _⟩
  · rw [if_neg q, if_neg (fun a => q (Or.inl a)), if_pos (Decidable.not_not.mp (fun a => q (Or.inr a)))]
    obtain ⟨k, hk1, hk2, rfl⟩ := n_40 q
    rw [nI_clamp (by omega), gr1_5 hS, Option.bind_some, gi50 hS, Option.bind_some, h.2.1.1]
    have loop := it_for (body := fX10_year_L31 S 1 (nI k)) (fun i s => s.1 = (yr (as_L A) (as_m A) seed i).1 ∧ s.2.1 = (yr (as_L A) (as_m A) seed i).2.1 ∧ s.2.2.1 = nI (yr (as_L A) (as_m A) seed i).2.2 ∧ s.2.2.2.1 = nI i ∧ CI S s.2.2.2.2 (as_L A) ∧ Fr scr d s.2.2.2.2) k
      (fun e => e.1 = (yr (as_L A) (as_m A) seed k).2.1 ∧ e.2.1 = nI (yr (as_L A) (as_m A) seed k).2.2 ∧ CI S e.2.2 (as_L A) ∧ Fr scr d e.2.2) ?_ ?_ (s := (seed, as_m A, (0 : Int32), (0 : Int32), d)) ⟨rfl, rfl, rfl, rfl, h.1, Fr.refl _ _⟩
    · obtain ⟨e, he, e1, e2, e3, e4⟩ := loop
      obtain ⟨o1, o2, o3⟩ := ok_yr hA.1 hA.2.1 seed k
      have r1 := h.scrx e3 e4
      rw [he, Option.bind_some, e1, e2]
      by_cases c : (yr (as_L A) (as_m A) seed k).2.2 = 0
      · rw [if_pos c, c, if_pos (by decide)]
        exact ⟨e.2.2, rfl, r1, scr_cls e4⟩
      · rw [if_neg c, if_neg (nI_nle (by omega) (by omega))]
        obtain ⟨d3, c1, c2, c3⟩ := c_goOn r1 hA (yr (as_L A) (as_m A) seed k).2.1
        rw [Option.bind_some, if_pos (kd50 hS), c1, Option.bind_some]
        exact ⟨d3, rfl, c2, (scr_cls e4).trans c3⟩
    · intro i s hi ⟨i1, i2, i3, i4, i5, i6⟩
      left
      obtain ⟨o1, o2, o3⟩ := ok_yr hA.1 hA.2.1 seed i
      obtain ⟨a, ha, ea⟩ := d8_nI (dx (yr (as_L A) (as_m A) seed i).1)
      obtain ⟨b, hb, eb⟩ := d8_nI (dx (dx (yr (as_L A) (as_m A) seed i).1))
      obtain ⟨d1, c1, c2, c3⟩ := c_tde i5 (yr (as_L A) (as_m A) seed i).2.1 (lN (10 * kdr a + b)) o1.2.2
      have k4 := kdr4 a
      unfold fX10_year_L31
      rw [i1, i2, i3, i4]
      have hx : ¬ nI k ≤ nI i := nI_ge hi (by omega)
      have ev : (nI (kdr a) * (10 : Int32) + nI b).toInt64 = lN (10 * kdr a + b) := by
        rw [show (10 : Int32) = nI 10 from rfl, pk_mul, nI_add, nI_l (by omega), Nat.mul_comm]
      have f1 : fX10_kindDrawn S s.2.2.2.2 (d8 (dx (yr (as_L A) (as_m A) seed i).1)) = some (nI (kdr a)) := by rw [ea]; exact f_kd S _ ha
      rw [if_neg hx]
      show ∃ s1, ((fX10_kindDrawn S s.2.2.2.2 (d8 (dx (yr (as_L A) (as_m A) seed i).1))).bind fun v18 => (sk_gR S 1 9 0).bind fun v20 => if S.2.1 v20 = (8, 0) then ((fX9_tryDeed S s.2.2.2.2 v20 (yr (as_L A) (as_m A) seed i).2.1 (((v18 * (10 : Int32)) + d8 (dx (dx (yr (as_L A) (as_m A) seed i).1))).toInt64)).bind fun b26 => if b26.1 < 0 then (some (Sum.inl (dx (dx (yr (as_L A) (as_m A) seed i).1), (yr (as_L A) (as_m A) seed i).2.1, nI (yr (as_L A) (as_m A) seed i).2.2, nI i + 1, b26.2))) else (some (Sum.inl (dx (dx (yr (as_L A) (as_m A) seed i).1), b26.1, nI (yr (as_L A) (as_m A) seed i).2.2 + 1, nI i + 1, b26.2)))) else none) = some (Sum.inl s1) ∧ _
      rw [f1, Option.bind_some, gr1_0 hS, Option.bind_some, if_pos (kd2 hS), eb, ev, c1, Option.bind_some]
      dsimp only
      rw [yr, ea, eb, nI_clamp (by omega), nI_clamp (by omega)]
      by_cases q : tde (as_L A) (yr (as_L A) (as_m A) seed i).2.1 (lN (10 * kdr a + b)) < 0
      · rw [if_pos q, if_pos q]
        exact ⟨_, rfl, rfl, rfl, rfl, nI_1 i, c2, i6.trans c3⟩
      · rw [if_neg q, if_neg q]
        exact ⟨_, rfl, rfl, rfl, nI_1 _, nI_1 i, c2, i6.trans c3⟩
    · intro s ⟨i1, i2, i3, i4, i5, i6⟩
      unfold fX10_year_L31
      rw [i2, i3, i4, if_pos (nI_le (Nat.le_refl _) (by omega))]
      exact ⟨_, rfl, rfl, rfl, i5, i6⟩
theorem m_draw {S : sk_S} (hS : Sh S) (d : sk_D) : fX11_draw S d 94 (8 : Int32) = some (d8 (dx (d.1 94 20)), sk_uI d 94 20 (dx (d.1 94 20))) := by
  unfold fX11_draw
  rw [gi94 hS, Option.bind_some, pi94 hS, Option.bind_some, gi94 hS, Option.bind_some, uI_s, if_pos (by decide)]
  rfl
theorem m_drawn {S : sk_S} (hS : Sh S) (d : sk_D) {a b : Nat} (ha : a < 8) (hb : b < 8) (ea : d8 (dx (d.1 94 20)) = nI a) (eb : d8 (dx (dx (d.1 94 20))) = nI b) : fX11_drawn S d 94 = some (nI (10 * kdr a + b), sk_uI (sk_uI d 94 20 (dx (d.1 94 20))) 94 20 (dx (dx (d.1 94 20)))) := by
  unfold fX11_drawn
  rw [if_pos (kd94 hS), m_draw hS, Option.bind_some, if_pos (kd94 hS), m_draw hS, Option.bind_some, uI_s, ea, eb]
  dsimp only
  have p1 : (10 : Int32) + nI b = nI (10 + b) := nI_add 10 b
  have p2 : (20 : Int32) + nI b = nI (20 + b) := nI_add 20 b
  have p3 : (30 : Int32) + nI b = nI (30 + b) := nI_add 30 b
  rw [p1, p2, p3]
  rcases (by omega : a = 0 ∨ a = 1 ∨ a = 2 ∨ a = 3 ∨ a = 4 ∨ a = 5 ∨ a = 6 ∨ a = 7) with rfl | rfl | rfl | rfl | rfl | rfl | rfl | rfl
  · rw [if_neg (by decide)]; simp [kdr]
  · rw [if_neg (by decide)]; simp [kdr]
  · rw [if_neg (by decide)]; simp [kdr]
  · rw [if_neg (by decide)]; simp [kdr]
  · rw [if_pos (by decide), if_pos (by decide)]; simp [kdr]
  · rw [if_pos (by decide), if_neg (by decide), if_pos (by decide)]; simp [kdr]
  · rw [if_pos (by decide), if_neg (by decide), if_neg (by decide)]; simp [kdr]
  · rw [if_pos (by decide), if_neg (by decide), if_neg (by decide)]; simp [kdr]
theorem m_year {S : sk_S} {d : sk_D} {A : AS} (h : RM S d A) (hA : okA A) (seed n : Int32) : ∃ d', fX11_year S d 94 seed n = some ((x_year A seed n).1, d') ∧ RM S d' (x_year A seed n).2 ∧ Fr mdl d d' := by
  have hS := h.1.1
  have h0 := h.m0 0
  have e1 : (1 : Int64).toInt = 1 := rfl
  have e40 : (40 : Int64).toInt = 40 := rfl
  unfold fX11_year x_year
  rw [pi94 hS, Option.bind_some, f_within, Option.bind_some]
  by_cases q : n < 1 ∨ ¬ n ≤ 40
  · have c : ¬ (1 ≤ n.toInt64 ∧ n.toInt64 ≤ 40) := by
      rw [fa_le64, fa_le64, Int32.toInt_toInt64, e1, e40]
      rw [fa_lt, fa_le, show (1 : Int32).toInt = 1 from rfl, show (40 : Int32).toInt = 40 from rfl] at q
      omega
    rw [if_pos q, decide_eq_false c, if_neg (by decide)]
    exact ⟨_, rfl, h0, (mfr0 d 0).2.2.2.2⟩
  · rw [if_neg q]
    obtain ⟨k, hk1, hk2, rfl⟩ := n_40 q
    have c : (1 ≤ (nI k).toInt64 ∧ (nI k).toInt64 ≤ 40) := by
      rw [fa_le64, fa_le64, Int32.toInt_toInt64, e1, e40, nI_toInt (by omega)]; omega
    obtain ⟨d1, g1, g2, g3, g4, g5, g6⟩ := m_beg h
    rw [decide_eq_true c, if_pos rfl, if_pos (kd94 hS), g1, Option.bind_some, pi94 hS, Option.bind_some, nI_clamp (by omega)]
    have loop := it_for (body := fX11_year_L34 S 94 (nI k)) (fun i s => s.2.2.1 94 20 = (yr (as_L A) (as_m A) seed i).1 ∧ mM (fun z => s.2.2.1 95 (74 + z)) (yr (as_L A) (as_m A) seed i).2.1 ∧ s.1 = nI (yr (as_L A) (as_m A) seed i).2.2 ∧ s.2.1 = nI i ∧ mfr d s.2.2 ∧ (∀ z, 83 ≤ z → z < 174 → s.2.2.1 95 z = d.1 95 z) ∧ s.2.2.1 101 = d1.1 101) k
      (fun e => e.1 = nI (yr (as_L A) (as_m A) seed k).2.2 ∧ mM (fun z => e.2.1 95 (74 + z)) (yr (as_L A) (as_m A) seed k).2.1 ∧ mfr d e.2 ∧ (∀ z, 83 ≤ z → z < 174 → e.2.1 95 z = d.1 95 z) ∧ e.2.1 101 = d1.1 101) ?_ ?_ (s := ((0 : Int32), (0 : Int32), sk_uI d1 94 20 seed))
      ⟨uI_s _ _ _ _, by rw [uI_a _ _ _ 95 _ (by decide)]; exact g6, rfl, rfl, g2.trans (mfr.f94 _ (by omega)), fun z _ _ => by rw [uI_a _ _ _ 95 _ (by decide), g3], uI_a _ _ _ _ _ (by decide)⟩
    · obtain ⟨e, he, f1, f2, f3, f4, f5⟩ := loop
      obtain ⟨o1, o2, o3⟩ := ok_yr hA.1 hA.2.1 seed k
      rw [he, Option.bind_some, f1]
      by_cases c : (yr (as_L A) (as_m A) seed k).2.2 = 0
      · rw [if_pos c, c, if_pos (by decide)]
        rw [o3 c] at f2
        exact ⟨e.2, rfl, h.keep f3 f4 f2 hA.2.2.2.1, f3.2.2.2.2⟩
      · rw [if_neg c, if_neg (nI_nle (by omega) (by omega)), if_pos (kd94 hS)]
        obtain ⟨d4, k1, k2, k3, -⟩ := m_fin h hA f3 f4 f2 (by rw [f5]; exact g4)
        rw [k1, Option.bind_some]
        exact ⟨d4, rfl, k2, k3⟩
    · intro i s hi ⟨i1, i2, i3, i4, i5, i6, i7⟩
      left
      obtain ⟨o1, o2, o3⟩ := ok_yr hA.1 hA.2.1 seed i
      obtain ⟨a, ha, ea⟩ := d8_nI (dx (yr (as_L A) (as_m A) seed i).1)
      obtain ⟨b, hb, eb⟩ := d8_nI (dx (dx (yr (as_L A) (as_m A) seed i).1))
      have k4 := kdr4 a
      have hx : ¬ nI k ≤ nI i := nI_ge hi (by omega)
      have dr := m_drawn hS s.2.2 ha hb (by rw [i1]; exact ea) (by rw [i1]; exact eb)
      have x95 : (sk_uI (sk_uI s.2.2 94 20 (dx (s.2.2.1 94 20))) 94 20 (dx (dx (s.2.2.1 94 20)))).1 95 = s.2.2.1 95 := by rw [uI_a _ _ _ 95 _ (by decide), uI_a _ _ _ 95 _ (by decide)]
      have f9 : mfr d (sk_uI (sk_uI s.2.2 94 20 (dx (s.2.2.1 94 20))) 94 20 (dx (dx (s.2.2.1 94 20)))) := (i5.trans (mfr.f94 _ (by omega))).trans (mfr.f94 _ (by omega))
      have x101 : (sk_uI (sk_uI s.2.2 94 20 (dx (s.2.2.1 94 20))) 94 20 (dx (dx (s.2.2.1 94 20)))).1 101 = d1.1 101 := by rw [uI_a _ _ _ 101 _ (by decide), uI_a _ _ _ 101 _ (by decide)]; exact i7
      have hM := h.1.mfr f9
      unfold fX11_year_L34
      rw [i3, i4, if_neg hx, if_pos (kd94 hS), dr, Option.bind_some, if_pos (kd94 hS)]
      dsimp only
      rw [nI_l (by omega)]
      rw [yr, ea, eb, nI_clamp (by omega), nI_clamp (by omega)]
      rcases m_act hM (m := (yr (as_L A) (as_m A) seed i).2.1) (by rw [x95]; exact i2) o1 (lN (10 * kdr a + b)) with ⟨b1, b2⟩ | ⟨b1, b2, b3⟩
      · obtain ⟨n1, n2, -⟩ := wy_neg b2
        rw [b1, Option.bind_some, if_neg n2, if_pos n1]
        exact ⟨_, rfl, by rw [uI_s, i1], by rw [x95]; exact i2, rfl, nI_1 i, f9, fun z h1 h2 => by rw [x95]; exact i6 z h1 h2, x101⟩
      · obtain ⟨d2, c1, c2, c3, c4, c5, c6⟩ := b3 _ rfl
        rw [lN_i] at c1
        rw [b1, Option.bind_some, if_pos rfl, if_pos (kd94 hS), c1, Option.bind_some, if_neg b2.pos]
        exact ⟨_, rfl, by rw [c6, uI_s, i1], c4, nI_1 _, nI_1 i, f9.trans c2, fun z h1 h2 => by rw [c3 z h1 h2, x95]; exact i6 z h1 h2, c5.trans x101⟩
    · intro s ⟨i1, i2, i3, i4, i5, i6, i7⟩
      unfold fX11_year_L34
      rw [i3, i4, if_pos (nI_le (Nat.le_refl _) (by omega))]
      exact ⟨_, rfl, rfl, i2, i5, i6, i7⟩
