/-! the reference: stands -/
theorem or0 (x : Int32) : x ||| 0 = x := b_ext (fun i _ => by rw [b_or, b_0, Bool.or_false])
theorem n2k (k : Nat) : (2 : Int32) * nI k = nI (2 * k) := by rw [show (2 : Int32) = nI 2 from rfl, pk_mul]
def st8 (m : Int32) : Nat → Int32
  | 0 => 0
  | k + 1 => st8 m k ||| (mood m k <<< (nI (2 * k) &&& 31))
def stnd (m : Int32) : Int32 := st8 m 8
theorem bt_mood (m : Int32) (j i : Nat) : bt (mood m j) i = if i = 0 then bt m (j + 8) else if i = 1 then (bt m j ^^ bt m (j + 8)) else false := by
  unfold mood
  cases bt m j <;> cases bt m (j + 8) <;> simp [b_0, b_1, b_2, b_3] <;> (rcases i with _ | _ | i <;> simp)
theorem st8_bt (m : Int32) : ∀ k, k ≤ 8 → ∀ i, i < 32 → bt (st8 m k) i = (decide (i < 2 * k) && bt (mood m (i / 2)) (i % 2))
  | 0, _, i, _ => by simp [st8, b_0]
  | k + 1, hk, i, hi => by
    rw [st8, b_or, st8_bt m k (by omega) i hi, b_shl (2 * k) (by omega) _ hi]
    by_cases h : i < 2 * k
    · simp [h, show ¬ 2 * k ≤ i by omega, show i < 2 * (k + 1) by omega]
    · by_cases h2 : i < 2 * k + 2
      · rw [show i / 2 = k by omega, show i - 2 * k = i % 2 by omega]
        simp [h, show 2 * k ≤ i by omega, show i < 2 * (k + 1) by omega]
      · rw [bt_mood m k (i - 2 * k), if_neg (by omega), if_neg (by omega)]
        simp [h, show ¬ i < 2 * (k + 1) by omega]
theorem stnd_bt (m : Int32) {i : Nat} (hi : i < 32) : bt (stnd m) i = (decide (i < 16) && bt (mood m (i / 2)) (i % 2)) := st8_bt m 8 (by omega) i hi
theorem stnd_cong {m m2 : Int32} (h : ∀ e, e < 8 → mood m e = mood m2 e) : stnd m = stnd m2 := by
  apply b_ext
  intro i hi
  rw [stnd_bt m hi, stnd_bt m2 hi]
  by_cases h2 : i < 16
  · rw [h (i / 2) (by omega)]
  · simp [h2]
theorem f_how (S : sk_S) (d : sk_D) (m : Int32) {j : Nat} (hj : j < 8) : fX11_howIn S d (stnd m) (nI j) = some (mood m j) := by
  unfold fX11_howIn
  rw [n2k]
  congr 1
  apply b_ext
  intro i hi
  rw [b_and, b_3, b_sshr (2 * j) (by omega) _ hi]
  by_cases h : i < 2
  · rw [if_pos (by omega), stnd_bt m (by omega), show (2 * j + i) / 2 = j by omega, show (2 * j + i) % 2 = i by omega]
    simp [h]; omega
  · rw [bt_mood]
    simp [h, show ¬ i = 0 by omega, show ¬ i = 1 by omega]
theorem f_with (S : sk_S) (d : sk_D) (m m2 h : Int32) {j : Nat} (hj : j < 8) (hh : h = mood m2 j) (he : ∀ e, e < 8 → e ≠ j → mood m2 e = mood m e) : fX11_withHow S d (stnd m) (nI j) h = some (stnd m2) := by
  unfold fX11_withHow
  rw [n2k]
  congr 1
  apply b_ext
  intro i hi
  rw [b_or, b_and, b_not _ hi, b_shl (2 * j) (by omega) _ hi, b_shl (2 * j) (by omega) _ hi, b_3, stnd_bt m hi, stnd_bt m2 hi, hh]
  by_cases h1 : i / 2 = j
  · rw [h1, show i - 2 * j = i % 2 by omega]
    simp [show 2 * j ≤ i by omega, show i % 2 < 2 by omega, show i < 16 by omega]
  · by_cases h2 : 2 * j ≤ i
    · rw [bt_mood m2 j, if_neg (by omega), if_neg (by omega)]
      by_cases h3 : i < 16
      · rw [he (i / 2) (by omega) h1]
        simp [h3, show ¬ i - 2 * j < 2 by omega]
      · simp [h3]
    · by_cases h3 : i < 16
      · rw [he (i / 2) (by omega) h1]
        simp [h2, h3]
      · simp [h2, h3]
/-- the cells of a life in the reference -/
def cod (c : Int32) : Int32 := if 0 ≤ c then c else if (-6 : Int32) ≤ c then 999 - c else if c = (-15 : Int32) then 3006 else if c = (-14 : Int32) then 3008 else if c = (-13 : Int32) then 3007 else 2993 - c
def mW (f : Nat → Int32) (t : Nat) (w : List Int32) : Prop := f (4 + t) = (if w.isEmpty = true then 0 else 1) ∧ (w ≠ [] → ∃ fr, f (6 + t) = nI fr ∧ f (8 + t) = nI w.length ∧ fr + w.length ≤ 900 ∧ ∀ j, j < w.length → f (175 + fr + j) = cod (w.getD j 0))
def mL (f : Nat → Int32) (L : LF) : Prop := f 0 = lf_lines L ∧ f 1 = nI (lf_n L) ∧ f 2 = nI (lf_k L) ∧ f 3 = lf_room L ∧ (∀ t j, t < 7 → j < lf_n L → f (10 + 8 * t + j) = lf_v L t j) ∧ (∀ j, j < lf_k L → f (66 + j) = lf_v L 7 j) ∧ mW f 0 (lf_w L 0) ∧ mW f 1 (lf_w L 1)
def zM (L : LF) (m : Int32) : Prop := ∀ i, lf_n L ≤ i → i < 8 → bt m i = false ∧ bt m (i + 8) = false
def scm (b : Nat) : Prop := b = 99 ∨ b = 100
theorem l95_0 {S : sk_S} (h : Sh S) (d : sk_D) : sk_lI S d 95 20 (0 : Int32) = some (d.1 95 0) := li95 h d (j := 0) (by decide)
theorem l95_1 {S : sk_S} (h : Sh S) (d : sk_D) : sk_lI S d 95 20 (1 : Int32) = some (d.1 95 1) := li95 h d (j := 1) (by decide)
theorem l95_2 {S : sk_S} (h : Sh S) (d : sk_D) : sk_lI S d 95 20 (2 : Int32) = some (d.1 95 2) := li95 h d (j := 2) (by decide)
theorem l95_3 {S : sk_S} (h : Sh S) (d : sk_D) : sk_lI S d 95 20 (3 : Int32) = some (d.1 95 3) := li95 h d (j := 3) (by decide)
theorem l95_4 {S : sk_S} (h : Sh S) (d : sk_D) : sk_lI S d 95 20 (4 : Int32) = some (d.1 95 4) := li95 h d (j := 4) (by decide)
theorem l95_5 {S : sk_S} (h : Sh S) (d : sk_D) : sk_lI S d 95 20 (5 : Int32) = some (d.1 95 5) := li95 h d (j := 5) (by decide)
theorem l95_82 {S : sk_S} (h : Sh S) (d : sk_D) : sk_lI S d 95 20 (82 : Int32) = some (d.1 95 82) := li95 h d (j := 82) (by decide)
theorem l95_83 {S : sk_S} (h : Sh S) (d : sk_D) : sk_lI S d 95 20 (83 : Int32) = some (d.1 95 83) := li95 h d (j := 83) (by decide)
theorem p4 (k : Nat) : (4 : Int32) + nI k = nI (4 + k) := nI_add 4 k
theorem p6 (k : Nat) : (6 : Int32) + nI k = nI (6 + k) := nI_add 6 k
theorem p8 (k : Nat) : (8 : Int32) + nI k = nI (8 + k) := nI_add 8 k
theorem p10 (k : Nat) : (10 : Int32) + nI k = nI (10 + k) := nI_add 10 k
theorem p18 (k : Nat) : (18 : Int32) + nI k = nI (18 + k) := nI_add 18 k
theorem p26 (k : Nat) : (26 : Int32) + nI k = nI (26 + k) := nI_add 26 k
theorem p34 (k : Nat) : (34 : Int32) + nI k = nI (34 + k) := nI_add 34 k
theorem p42 (k : Nat) : (42 : Int32) + nI k = nI (42 + k) := nI_add 42 k
theorem p50 (k : Nat) : (50 : Int32) + nI k = nI (50 + k) := nI_add 50 k
theorem p58 (k : Nat) : (58 : Int32) + nI k = nI (58 + k) := nI_add 58 k
theorem p66 (k : Nat) : (66 : Int32) + nI k = nI (66 + k) := nI_add 66 k
theorem p74 (k : Nat) : (74 : Int32) + nI k = nI (74 + k) := nI_add 74 k
theorem p175 (k : Nat) : (175 : Int32) + nI k = nI (175 + k) := nI_add 175 k
theorem f_isIn (S : sk_S) (d : sk_D) (x : Int32) {k : Nat} (hk : k < 32) : fX11_isIn S d x.toInt64 (nI k) = some (bt x k) := by
  unfold fX11_isIn
  have hs : ∀ k, k < 32 → ((nI k).toInt64 &&& 63).toBitVec.smod 64 = BitVec.ofNat 64 k := by decide +kernel
  have hb : ((x.toInt64 >>> ((nI k).toInt64 &&& 63))).toBitVec.getLsbD 0 = bt x k := by
    rw [Int64.toBitVec_shiftRight]
    show (x.toInt64.toBitVec.sshiftRight (((nI k).toInt64 &&& 63).toBitVec.smod 64).toNat).getLsbD 0 = _
    rw [hs k hk, BitVec.getLsbD_sshiftRight, BitVec.toNat_ofNat, Nat.mod_eq_of_lt (by omega)]
    simp only [Nat.add_zero]
    rw [if_pos (by omega)]
    show (x.toBitVec.signExtend 64).getLsbD k = x.toBitVec.getLsbD k
    rw [BitVec.getLsbD_signExtend]
    simp [hk]
    omega
  have key : ∀ y : Int64, (y &&& 1 = 1) ↔ y.toBitVec.getLsbD 0 = true := by
    intro y
    have e : (y &&& 1).toBitVec = if y.toBitVec.getLsbD 0 = true then 1#64 else 0#64 := by
      rw [Int64.toBitVec_and]
      apply BitVec.eq_of_getLsbD_eq
      intro i hi
      rw [BitVec.getLsbD_and]
      show (y.toBitVec.getLsbD i && (1#64).getLsbD i) = _
      by_cases h : i = 0
      · subst h
        cases h2 : y.toBitVec.getLsbD 0 <;> simp
      · have h3 : (1#64).getLsbD i = false := by simp [h]
        cases h2 : y.toBitVec.getLsbD 0 <;> simp [h, h3]
    constructor
    · intro h
      rw [h] at e
      cases h2 : y.toBitVec.getLsbD 0
      · rw [h2] at e; exact absurd e (by decide)
      · rfl
    · intro h
      rw [h] at e
      exact Int64.toBitVec_inj.mp e
  by_cases h : bt x k = true
  · rw [if_pos ((key _).mpr (hb.trans h)), h]
  · rw [if_neg (fun q => h (hb.symm.trans ((key _).mp q)))]
    simp at h
    rw [h]
theorem m_stand {S : sk_S} {d : sk_D} {m : Int32} (hS : Sh S) (hm : ∀ j, j < 8 → d.1 95 (74 + j) = mood m j) : fX11_standNow S d 94 = some (stnd m) := by
  unfold fX11_standNow
  have e := it_eq (body := fX11_standNow_L4 S d 94) (fun k => (st8 m k, nI k)) 8 (stnd m) ?_ ?_
  · rw [show ((0 : Int32), (0 : Int32)) = (st8 m 0, nI 0) from rfl, e]; rfl
  · intro k hk
    unfold fX11_standNow_L4
    have hx : ¬ (8 : Int32) ≤ nI k := nI_ge (b := 8) hk (by omega)
    simp (disch := omega) only [hx, Option.bind_some, ↓reduceIte, nI_leI, nI_ltI, nI_eq, nI_1, kd94 hS, gi94 hS, pi94 hS, gr94_1 hS, gr94_2 hS, gr94_3 hS, gr94_4 hS, gr94_16 hS, gr94_17 hS, gr94_18 hS, gr94_21 hS, gr94_22 hS, gr94_23 hS, gr94_24 hS, gr94_26 hS, gr94_27 hS, gr94_28 hS, gr94_29 hS, gr94_30 hS, gr94_31 hS, gr94_33 hS, gr94_34 hS, gr94_35 hS, gr94_36 hS, p74, li95 hS, hm k hk, n2k]
    rfl
  · rfl
theorem m_those {S : sk_S} {d : sk_D} {L : LF} (hS : Sh S) (hk : okL L) (hm : mL (d.1 95) L) (m h : Int32) : fX11_thoseIn S d 94 (stnd m) h = some (gs (fun i => decide (mood m i = h)) (lf_n L)) := by
  have hn := hk.1
  have h1 := hm.2.1
  unfold fX11_thoseIn
  have e := it_eq (body := fX11_thoseIn_L5 S d 94 (stnd m) h) (fun k => (gs (fun i => decide (mood m i = h)) k, nI k)) (lf_n L) (gs (fun i => decide (mood m i = h)) (lf_n L)) ?_ ?_
  · rw [show ((0 : Int32), (0 : Int32)) = (gs (fun i => decide (mood m i = h)) 0, nI 0) from rfl, e]; rfl
  · intro k hkn
    unfold fX11_thoseIn_L5
    have hx : ¬ lf_n L ≤ k := by omega
    simp (disch := omega) only [Option.bind_some, ↓reduceIte, nI_leI, nI_ltI, nI_eq, nI_1, kd94 hS, gi94 hS, pi94 hS, gr94_1 hS, gr94_2 hS, gr94_3 hS, gr94_4 hS, gr94_16 hS, gr94_17 hS, gr94_18 hS, gr94_21 hS, gr94_22 hS, gr94_23 hS, gr94_24 hS, gr94_26 hS, gr94_27 hS, gr94_28 hS, gr94_29 hS, gr94_30 hS, gr94_31 hS, gr94_33 hS, gr94_34 hS, gr94_35 hS, gr94_36 hS, l95_1 hS, h1, hx, f_how, gs]
    by_cases q : mood m k = h
    · simp [q]
    · simp [q, or0]
  · unfold fX11_thoseIn_L5
    simp (disch := omega) only [Option.bind_some, ↓reduceIte, nI_leI, nI_ltI, nI_eq, nI_1, kd94 hS, gi94 hS, pi94 hS, gr94_1 hS, gr94_2 hS, gr94_3 hS, gr94_4 hS, gr94_16 hS, gr94_17 hS, gr94_18 hS, gr94_21 hS, gr94_22 hS, gr94_23 hS, gr94_24 hS, gr94_26 hS, gr94_27 hS, gr94_28 hS, gr94_29 hS, gr94_30 hS, gr94_31 hS, gr94_33 hS, gr94_34 hS, gr94_35 hS, gr94_36 hS, l95_1 hS, h1, Nat.le_refl]
theorem mood_c (m : Int32) (i : Nat) : (mood m i = 1 ↔ bt m i = true ∧ bt m (i + 8) = true) ∧ (mood m i = 2 ↔ bt m i = true ∧ bt m (i + 8) = false) ∧ (mood m i = 3 ↔ bt m i = false ∧ bt m (i + 8) = true) ∧ (mood m i = 0 ↔ bt m i = false ∧ bt m (i + 8) = false) := by
  unfold mood
  cases bt m i <;> cases bt m (i + 8) <;> simp <;> decide
theorem m_done {S : sk_S} {d : sk_D} {L : LF} (hS : Sh S) (hk : okL L) (hm : mL (d.1 95) L) {m : Int32} (hz : zM L m) : fX11_doneIn S d 94 (stnd m) = some (dn m) := by
  have hn := hk.1
  unfold fX11_doneIn
  simp (disch := omega) only [Option.bind_some, ↓reduceIte, nI_leI, nI_ltI, nI_eq, nI_1, kd94 hS, gi94 hS, pi94 hS, gr94_1 hS, gr94_2 hS, gr94_3 hS, gr94_4 hS, gr94_16 hS, gr94_17 hS, gr94_18 hS, gr94_21 hS, gr94_22 hS, gr94_23 hS, gr94_24 hS, gr94_26 hS, gr94_27 hS, gr94_28 hS, gr94_29 hS, gr94_30 hS, gr94_31 hS, gr94_33 hS, gr94_34 hS, gr94_35 hS, gr94_36 hS, m_those hS hk hm]
  congr 1
  apply b_ext
  intro i hi
  rw [b_or, gs_bt _ _ (by omega) i hi, gs_bt _ _ (by omega) i hi, bt_dn]
  by_cases h : i < lf_n L
  · simp only [(mood_c m i).1, (mood_c m i).2.1]
    cases bt m i <;> cases bt m (i + 8) <;> simp [h] <;> omega
  · by_cases h8 : i < 8
    · rw [(hz i (by omega) h8).1]; simp [h]
    · simp [h, h8]
theorem m_stubs {S : sk_S} {d : sk_D} {L : LF} (hS : Sh S) (hk : okL L) (hm : mL (d.1 95) L) {m : Int32} (hz : zM L m) : fX11_stubsIn S d 94 (stnd m) = some (ln m) := by
  have hn := hk.1
  unfold fX11_stubsIn
  simp (disch := omega) only [Option.bind_some, ↓reduceIte, nI_leI, nI_ltI, nI_eq, nI_1, kd94 hS, gi94 hS, pi94 hS, gr94_1 hS, gr94_2 hS, gr94_3 hS, gr94_4 hS, gr94_16 hS, gr94_17 hS, gr94_18 hS, gr94_21 hS, gr94_22 hS, gr94_23 hS, gr94_24 hS, gr94_26 hS, gr94_27 hS, gr94_28 hS, gr94_29 hS, gr94_30 hS, gr94_31 hS, gr94_33 hS, gr94_34 hS, gr94_35 hS, gr94_36 hS, m_those hS hk hm]
  congr 1
  apply b_ext
  intro i hi
  rw [b_or, gs_bt _ _ (by omega) i hi, gs_bt _ _ (by omega) i hi, bt_ln _ hi]
  by_cases h : i < lf_n L
  · simp only [(mood_c m i).1, (mood_c m i).2.2.1]
    cases bt m i <;> cases bt m (i + 8) <;> simp [h] <;> omega
  · by_cases h8 : i < 8
    · rw [(hz i (by omega) h8).2]; simp [h]
    · simp [h, h8]
theorem m_shown {S : sk_S} {d : sk_D} {L : LF} (hS : Sh S) (hk : okL L) (hm : mL (d.1 95) L) {m : Int32} (hz : zM L m) : fX11_thoseIn S d 94 (stnd m) 1 = some (sw m) := by
  have hn := hk.1
  rw [m_those hS hk hm]
  congr 1
  apply b_ext
  intro i hi
  rw [gs_bt _ _ (by omega) i hi, bt_sw _ hi]
  by_cases h : i < lf_n L
  · simp only [(mood_c m i).1]
    cases bt m i <;> cases bt m (i + 8) <;> simp [h] <;> omega
  · by_cases h8 : i < 8
    · rw [(hz i (by omega) h8).2]; simp [h]
    · simp [h, h8]
theorem m_sizes {S : sk_S} {d : sk_D} {L : LF} (hS : Sh S) (hk : okL L) (hm : mL (d.1 95) L) (set : Int32) : fX11_sizesOf S d 94 set = some (s3 (fun j => if bt set j = true then lf_v L 0 j else 0) (lf_n L)) := by
  have hn := hk.1
  have h1 := hm.2.1
  unfold fX11_sizesOf
  have e := it_eq (body := fX11_sizesOf_L4 S d 94 set) (fun k => (s3 (fun j => if bt set j = true then lf_v L 0 j else 0) k, nI k)) (lf_n L) (s3 (fun j => if bt set j = true then lf_v L 0 j else 0) (lf_n L)) ?_ ?_
  · rw [show ((0 : Int32), (0 : Int32)) = (s3 (fun j => if bt set j = true then lf_v L 0 j else 0) 0, nI 0) from rfl, e]; rfl
  · intro k hkn
    unfold fX11_sizesOf_L4
    have hx : ¬ lf_n L ≤ k := by omega
    have hv := hm.2.2.2.2.1 0 k (by omega) hkn
    rw [show 10 + 8 * 0 + k = 10 + k by omega] at hv
    simp (disch := omega) only [Option.bind_some, ↓reduceIte, nI_leI, nI_ltI, nI_eq, nI_1, kd94 hS, gi94 hS, pi94 hS, gr94_1 hS, gr94_2 hS, gr94_3 hS, gr94_4 hS, gr94_16 hS, gr94_17 hS, gr94_18 hS, gr94_21 hS, gr94_22 hS, gr94_23 hS, gr94_24 hS, gr94_26 hS, gr94_27 hS, gr94_28 hS, gr94_29 hS, gr94_30 hS, gr94_31 hS, gr94_33 hS, gr94_34 hS, gr94_35 hS, gr94_36 hS, l95_1 hS, h1, hx, f_isIn, s3, p10, li95 hS, hv]
    cases bt set k <;> simp
  · unfold fX11_sizesOf_L4
    simp (disch := omega) only [Option.bind_some, ↓reduceIte, nI_leI, nI_ltI, nI_eq, nI_1, kd94 hS, gi94 hS, pi94 hS, gr94_1 hS, gr94_2 hS, gr94_3 hS, gr94_4 hS, gr94_16 hS, gr94_17 hS, gr94_18 hS, gr94_21 hS, gr94_22 hS, gr94_23 hS, gr94_24 hS, gr94_26 hS, gr94_27 hS, gr94_28 hS, gr94_29 hS, gr94_30 hS, gr94_31 hS, gr94_33 hS, gr94_34 hS, gr94_35 hS, gr94_36 hS, l95_1 hS, h1, Nat.le_refl]
theorem m_left {S : sk_S} {d : sk_D} {L : LF} (hS : Sh S) (hk : okL L) (hm : mL (d.1 95) L) {m : Int32} (hz : zM L m) : fX11_leftIn S d 94 (stnd m) = some (rl L (ln m)) := by
  unfold fX11_leftIn
  simp (disch := omega) only [Option.bind_some, ↓reduceIte, nI_leI, nI_ltI, nI_eq, nI_1, kd94 hS, gi94 hS, pi94 hS, gr94_1 hS, gr94_2 hS, gr94_3 hS, gr94_4 hS, gr94_16 hS, gr94_17 hS, gr94_18 hS, gr94_21 hS, gr94_22 hS, gr94_23 hS, gr94_24 hS, gr94_26 hS, gr94_27 hS, gr94_28 hS, gr94_29 hS, gr94_30 hS, gr94_31 hS, gr94_33 hS, gr94_34 hS, gr94_35 hS, gr94_36 hS, l95_3 hS, m_stubs hS hk hm hz, m_sizes hS hk hm, hm.2.2.2.1]
  rfl
