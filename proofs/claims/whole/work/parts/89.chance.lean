/-! chance, mean, wanted -/
noncomputable def x_chance (A : AS) (p w : Int32) : Int64 := if ¬ inN (lf_n (as_L A)) p then -2 else if ¬ inN 2 w then -2 else if bt (as_m A) p.toNatClampNeg = true then x_low (sd (as_L A) (as_m A) p.toNatClampNeg) w else -5
noncomputable def x_mean (A : AS) (w : Int32) : Int64 := if ¬ inN 2 w then -2 else x_low (sm (as_L A) (as_m A) (lf_n (as_L A))) w
theorem in2 {w : Int32} : (inN 2 w → ¬ w < 0 ∧ w ≤ 1) ∧ (¬ inN 2 w → w < 0 ∨ ¬ w ≤ 1) := by
  have e0 : (0 : Int32).toInt = 0 := rfl
  have e1 : (1 : Int32).toInt = 1 := rfl
  unfold inN
  rw [Int32.lt_iff_toInt_lt, Int32.le_iff_toInt_le]
  constructor
  · intro h; constructor <;> omega
  · intro h; omega
theorem c_chance {S : sk_S} {d : sk_D} {A : AS} (h : RC S d A) (hA : okA A) (p w : Int32) : fX10_chance S d 1 p w = some (x_chance A p w) := by
  have hS := h.1.1
  have hn := hA.1.1
  have hp := c_hasP hS hA.1 h.1.2.2.1 p
  unfold fX10_chance x_chance
  rw [gr1_0 hS, Option.bind_some, gr2_0 hS, Option.bind_some, if_pos (kd3 hS)]
  by_cases q : inN (lf_n (as_L A)) p
  · rw [hp.1 q, Option.bind_some, if_pos rfl, if_neg (show ¬ ¬ inN (lf_n (as_L A)) p from fun x => x q)]
    obtain ⟨j, hj, rfl⟩ := inN_of q
    by_cases qw : inN 2 w
    · obtain ⟨w1, w2⟩ := in2.1 qw
      rw [if_neg w1, if_pos w2, if_neg (show ¬ ¬ inN 2 w from fun x => x qw), if_pos (kd1 hS), c_nd h hA, Option.bind_some, x_nd_j A hj hn, nI_clamp (by omega)]
      by_cases c : bt (as_m A) j = true
      · rw [if_pos c, if_pos c, if_pos (show (0 : Int32) = 0 from rfl), Option.bind_some, gr1_5 hS, Option.bind_some, gi50 hS, Option.bind_some, h.2.1.1, if_pos (kd2 hS), c_still hS hA.1 h.1.2.2.1 _ hj, Option.bind_some, c_lowest S d (Nat.le_trans (sd_le hA.1 _ hj) (by decide))]
        rfl
      · rw [if_neg c, if_neg c, if_neg (show ¬ ((-5 : Int32) = 0) by decide)]
    · rw [if_pos qw]
      rcases in2.2 qw with w1 | w2
      · rw [if_pos w1]
      · by_cases w1 : w < 0
        · rw [if_pos w1]
        · rw [if_neg w1, if_neg w2]
  · rw [hp.2 q, Option.bind_some, if_neg (by decide), if_pos q]
theorem c_mean {S : sk_S} {d : sk_D} {A : AS} (h : RC S d A) (hA : okA A) (w : Int32) : fX10_mean S d 1 w = some (x_mean A w) := by
  have hS := h.1.1
  unfold fX10_mean x_mean
  by_cases qw : inN 2 w
  · obtain ⟨w1, w2⟩ := in2.1 qw
    rw [if_neg w1, if_pos w2, if_neg (show ¬ ¬ inN 2 w from fun x => x qw), gr1_0 hS, Option.bind_some, gr1_5 hS, Option.bind_some, gi50 hS, Option.bind_some, h.2.1.1, if_pos (kd2 hS), c_sumDone hS hA.1 h.1.2.2.1, Option.bind_some, c_lowest S d (sm_lt hA.1 _)]
    rfl
  · rw [if_pos qw]
    rcases in2.2 qw with w1 | w2
    · rw [if_pos w1]
    · by_cases w1 : w < 0
      · rw [if_pos w1]
      · rw [if_neg w1, if_neg w2]
theorem m_chance {S : sk_S} {d : sk_D} {A : AS} (h : RM S d A) (hA : okA A) (p w : Int32) : fX11_chance S d 94 p w = some (x_chance A p w, sk_uI d 94 0 0) := by
  have hS := h.1.1
  have h0 := h.m0 0
  have hn := hA.1.1
  have hp := m_isDoingP h0.1 p
  unfold fX11_chance x_chance
  rw [pi94 hS, Option.bind_some, if_pos (kd94 hS)]
  by_cases q : inN (lf_n (as_L A)) p
  · rw [hp.1 q, Option.bind_some, if_pos rfl, if_neg (show ¬ ¬ inN (lf_n (as_L A)) p from fun x => x q), f_within, Option.bind_some]
    obtain ⟨j, hj, rfl⟩ := inN_of q
    by_cases qw : inN 2 w
    · rw [decide_eq_true ((w_in 2 1 rfl).mpr qw), if_pos rfl, if_neg (show ¬ ¬ inN 2 w from fun x => x qw), if_pos (kd94 hS), m_stand hS h0.2.1.1.1, Option.bind_some, f_isDone _ _ _ (show j < 8 by omega), Option.bind_some, nI_clamp (by omega)]
      by_cases c : bt (as_m A) j = true
      · rw [if_pos c, if_pos c, if_pos (kd94 hS), Option.bind_some, if_pos (kd94 hS), m_stays h0.1 hA.2.1.2.1 hj c, Option.bind_some, m_part (Nat.le_trans (sd_le hA.1 _ hj) (by decide))]
        rfl
      · rw [if_neg c, if_neg c]
    · rw [decide_eq_false (fun x => qw ((w_in 2 1 rfl).mp x)), if_neg (by decide), if_pos qw]
  · rw [hp.2 q, Option.bind_some, if_neg (by decide), if_pos q]
theorem m_mean {S : sk_S} {d : sk_D} {A : AS} (h : RM S d A) (hA : okA A) (w : Int32) : fX11_mean S d 94 w = some (x_mean A w, sk_uI d 94 0 0) := by
  have hS := h.1.1
  have h0 := h.m0 0
  unfold fX11_mean x_mean
  rw [pi94 hS, Option.bind_some, f_within, Option.bind_some]
  by_cases qw : inN 2 w
  · rw [decide_eq_true ((w_in 2 1 rfl).mpr qw), if_pos rfl, if_neg (show ¬ ¬ inN 2 w from fun x => x qw), if_pos (kd94 hS), m_stand hS h0.2.1.1.1, Option.bind_some, if_pos (kd94 hS), m_meanOf h0.1 hA.2.1.2.1, Option.bind_some, m_part (sm_lt hA.1 _)]
    rfl
  · rw [decide_eq_false (fun x => qw ((w_in 2 1 rfl).mp x)), if_neg (by decide), if_pos qw]
noncomputable def wft (L : LF) (m : Int32) : Nat → Int32 × Int64
  | 0 => (-1, -1)
  | k + 1 => if mood m k = 2 then (if lN (sm L (m ||| b8 k) (lf_n L)) ≤ (wft L m k).2 then wft L m k else (nI k, lN (sm L (m ||| b8 k) (lf_n L)))) else wft L m k
theorem wft_s (L : LF) (m : Int32) (k : Nat) : wft L m (k + 1) = if mood m k = 2 then (if lN (sm L (m ||| b8 k) (lf_n L)) ≤ (wft L m k).2 then wft L m k else (nI k, lN (sm L (m ||| b8 k) (lf_n L)))) else wft L m k := rfl
noncomputable def x_wanted (A : AS) : Int32 := (wft (as_L A) (as_m A) (lf_n (as_L A))).1
theorem c_wanted {S : sk_S} {d : sk_D} {A : AS} (h : RC S d A) (hA : okA A) : fX10_wanted S d 1 = some (x_wanted A) := by
  have hS := h.1.1
  have hn := hA.1.1
  unfold fX10_wanted
  have e := it_eq (body := fX10_wanted_L9 S d 1) (fun k => ((wft (as_L A) (as_m A) k).1, (wft (as_L A) (as_m A) k).2, nI k)) (lf_n (as_L A)) (x_wanted A) ?_ ?_
  · rw [show ((-1 : Int32), (-1 : Int64), (0 : Int32)) = ((wft (as_L A) (as_m A) 0).1, (wft (as_L A) (as_m A) 0).2, nI 0) from rfl, e]; rfl
  · intro k hk
    unfold fX10_wanted_L9
    dsimp only
    rw [gr1_0 hS, Option.bind_some, gr2_0 hS, Option.bind_some, gi3 hS, Option.bind_some, h.1.2.2.1.2.1, if_neg (nI_ge hk (by omega)), gr1_5 hS, Option.bind_some, gi50 hS, Option.bind_some, h.2.1.1, f_mood _ _ _ (show k < 8 by omega), Option.bind_some, wft_s, nI_1]
    by_cases c : mood (as_m A) k = 2
    · rw [if_pos c, if_pos c, Option.bind_some, Option.bind_some, gi50 hS, Option.bind_some, h.2.1.1, if_pos (kd2 hS), show ((256 : Int32) <<< (nI k &&& 31)) = b8 k from rfl, c_sumDone hS hA.1 h.1.2.2.1, Option.bind_some]
      by_cases c2 : lN (sm (as_L A) (as_m A ||| b8 k) (lf_n (as_L A))) ≤ (wft (as_L A) (as_m A) k).2
      · rw [if_pos c2, if_pos c2]
      · rw [if_neg c2, if_neg c2]
    · rw [if_neg c, if_neg c]
  · unfold fX10_wanted_L9
    dsimp only
    rw [gr1_0 hS, Option.bind_some, gr2_0 hS, Option.bind_some, gi3 hS, Option.bind_some, h.1.2.2.1.2.1, if_pos (nI_le (Nat.le_refl _) (by omega))]
    rfl
theorem bt_o8 (m : Int32) {k : Nat} (hk : k < 8) {i : Nat} (hi : i < 8) : bt (m ||| b8 k) i = bt m i ∧ bt (m ||| b8 k) (i + 8) = (bt m (i + 8) || decide (i = k)) := by
  constructor
  · rw [b_or, bt_b8 (by omega) (by omega), decide_eq_false (by omega), Bool.or_false]
  · rw [b_or, bt_b8 (by omega) (by omega)]
    congr 1
    by_cases c : i = k
    · rw [decide_eq_true (by omega), decide_eq_true c]
    · rw [decide_eq_false (by omega), decide_eq_false c]
theorem m_wanted {S : sk_S} {d : sk_D} {A : AS} (h : RM S d A) (hA : okA A) : fX11_wanted S d 94 = some (x_wanted A, sk_uI d 94 0 0) := by
  have hS := h.1.1
  have h0 := h.m0 0
  have hn := hA.1.1
  unfold fX11_wanted
  rw [pi94 hS, Option.bind_some]
  have e := it_eq (body := fX11_wanted_L14 S 94 (sk_uI d 94 0 0)) (fun k => ((wft (as_L A) (as_m A) k).1, (wft (as_L A) (as_m A) k).2, nI k)) (lf_n (as_L A)) (x_wanted A, sk_uI d 94 0 0) ?_ ?_
  · rw [show ((-1 : Int32), (-1 : Int64), (0 : Int32)) = ((wft (as_L A) (as_m A) 0).1, (wft (as_L A) (as_m A) 0).2, nI 0) from rfl, e]; rfl
  · intro k hk
    have k8 : k < 8 := by omega
    unfold fX11_wanted_L14
    dsimp only
    rw [gr94_1 hS, Option.bind_some, l95_1 hS, Option.bind_some, h0.1.2.2.2.1, if_neg (nI_ge hk (by omega)), Option.bind_some, p74, li95 hS _ (show 74 + k < 3225 by omega), Option.bind_some, show (sk_uI d 94 0 0).1 95 (74 + k) = mood (as_m A) k from h0.2.1.1.1 _ k8, wft_s, nI_1]
    by_cases c : mood (as_m A) k = 2
    · have cb := (mood_c (as_m A) k).2.1.mp c
      have w1 : fX11_withHow S (sk_uI d 94 0 0) (stnd (as_m A)) (nI k) 1 = some (stnd (as_m A ||| b8 k)) := f_with _ _ _ _ _ k8 (by
          obtain ⟨o1, o2⟩ := bt_o8 (as_m A) k8 k8
          unfold mood
          rw [o1, o2, cb.1, decide_eq_true rfl, Bool.or_true]
          rfl) (fun e he hne => by
          obtain ⟨o1, o2⟩ := bt_o8 (as_m A) k8 he
          unfold mood
          rw [o1, o2, decide_eq_false hne, Bool.or_false])
      rw [if_pos c, if_pos c, if_pos (kd94 hS), m_stand hS h0.2.1.1.1, Option.bind_some, w1, Option.bind_some, if_pos (kd94 hS), m_meanOf h0.1 (m := as_m A ||| b8 k) (fun i hi a e he b => by
        rw [(bt_o8 _ k8 hi).1] at a
        rw [(bt_o8 _ k8 he).1]
        exact hA.2.1.2.1 i hi a e he b), Option.bind_some]
      by_cases c2 : lN (sm (as_L A) (as_m A ||| b8 k) (lf_n (as_L A))) ≤ (wft (as_L A) (as_m A) k).2
      · rw [if_neg (by rw [Int64.not_lt]; exact c2), if_pos c2]
      · rw [if_pos (by rw [← Int64.not_le]; exact c2), if_neg c2]
    · rw [if_neg c, if_neg c]
  · unfold fX11_wanted_L14
    dsimp only
    rw [gr94_1 hS, Option.bind_some, l95_1 hS, Option.bind_some, h0.1.2.2.2.1, if_pos (nI_le (Nat.le_refl _) (by omega))]
    rfl
