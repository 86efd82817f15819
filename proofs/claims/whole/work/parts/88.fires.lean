/-! fires and officers: how likely one is still done -/
def nq (L : LF) (j : Nat) : Nat → Int32
  | 0 => b1 j
  | k + 1 => if bt (nq L j k) (j - k) = true then nq L j k ||| lf_v L 5 (j - k) else nq L j k
def nee (L : LF) (j : Nat) : Int32 := nq L j (j + 1)
theorem nq_in {L : LF} (hk : okL L) {j : Nat} (hj : j < lf_n L) : ∀ k e, e < 32 → bt (nq L j k) e = true → e ≤ j
  | 0, e, he, h => by
    have hn := hk.1
    rw [show nq L j 0 = b1 j from rfl, bt_b1x (by omega) he] at h
    have := of_decide_eq_true h
    omega
  | k + 1, e, he, h => by
    have hn := hk.1
    unfold nq at h
    split at h
    · rw [b_or] at h
      simp only [Bool.or_eq_true] at h
      rcases h with h | h
      · exact nq_in hk hj k e he h
      · have := (hk.2.2.2.1 (j - k) (by omega)).2.2.2.2.2.1 e he h
        omega
    · exact nq_in hk hj k e he h
theorem nq_done {L : LF} (hk : okL L) {j : Nat} (hj : j < lf_n L) {m : Int32} (hm : bt m j = true) (hc : ∀ i, i < 8 → bt m i = true → ∀ e, e < 8 → bt (lf_v L 5 i) e = true → bt m e = true) : ∀ k e, e < 32 → bt (nq L j k) e = true → bt m e = true
  | 0, e, he, h => by
    have hn := hk.1
    rw [show nq L j 0 = b1 j from rfl, bt_b1x (by omega) he] at h
    rw [of_decide_eq_true h]; exact hm
  | k + 1, e, he, h => by
    have hn := hk.1
    unfold nq at h
    split at h
    · next c =>
      rw [b_or] at h
      simp only [Bool.or_eq_true] at h
      rcases h with h | h
      · exact nq_done hk hj hm hc k e he h
      · have := (hk.2.2.2.1 (j - k) (by omega)).2.2.2.2.2.1 e he h
        exact hc (j - k) (by omega) (nq_done hk hj hm hc k (j - k) (by omega) c) e (by omega) h
    · exact nq_done hk hj hm hc k e he h
theorem c_needed {S : sk_S} {d : sk_D} {L : LF} (hS : Sh S) (hk : okL L) (hc : cL d 3 L) {j : Nat} (hj : j < lf_n L) : fX2_needed S d 3 (nI j) = some (nee L j) := by
  have hn := hk.1
  unfold fX2_needed
  have e := it_eq (body := fX2_needed_L6 S d 3) (fun k => (nq L j k, nI (j + 1 - k) - 1)) (j + 1) (nee L j) ?_ ?_
  · rw [show ((1 : Int32) <<< (nI j &&& 31), nI j) = (nq L j 0, nI (j + 1 - 0) - 1) by rw [Nat.sub_zero, nI_pred]; rfl, e]; rfl
  · intro k hkk
    obtain ⟨-, -, -, -, -, v5, -⟩ := cv hc (show j - k < lf_n L by omega)
    unfold fX2_needed_L6
    dsimp only
    rw [show j + 1 - k = (j - k) + 1 by omega, nI_pred, if_neg (nI_pos (by omega)), show j + 1 - (k + 1) = j - k by omega, nq]
    by_cases c : bt (nq L j k) (j - k) = true
    · rw [if_pos ((t_1 _ (by omega)).mpr c), if_pos c, gr3_10 hS, Option.bind_some, li9 hS _ (show j - k < 8 by omega), Option.bind_some, v5]
    · rw [if_neg (fun a => c ((t_1 _ (by omega)).mp a)), if_neg c]
  · unfold fX2_needed_L6
    dsimp only
    rw [Nat.sub_self, if_pos (by decide)]
    rfl
theorem m_needsOf {S : sk_S} {d : sk_D} {L : LF} (h : MI S d L) {j : Nat} (hj : j < lf_n L) : fX11_needsOf S d 94 (nI j) = some (nee L j) := by
  obtain ⟨hS, hk, hm⟩ := h
  have hn := hk.1
  unfold fX11_needsOf
  have e := it_eq (body := fX11_needsOf_L6 S d 94) (fun k => (nq L j k, nI (j + 1 - k) - 1)) (j + 1) (nee L j) ?_ ?_
  · rw [show ((1 : Int32) <<< (nI j &&& 31), nI j) = (nq L j 0, nI (j + 1 - 0) - 1) by rw [Nat.sub_zero, nI_pred]; rfl, e]; rfl
  · intro k hkk
    obtain ⟨-, -, -, -, -, v5, -⟩ := mv hm (show j - k < lf_n L by omega)
    unfold fX11_needsOf_L6
    dsimp only
    rw [show j + 1 - k = (j - k) + 1 by omega, nI_pred, if_neg (nI_pos (by omega)), show j + 1 - (k + 1) = j - k by omega, nq, f_isIn _ _ _ (by omega), Option.bind_some]
    by_cases c : bt (nq L j k) (j - k) = true
    · rw [if_pos c, if_pos c, gr94_1 hS, Option.bind_some, p50, li95 hS _ (show 50 + (j - k) < 3225 by omega), Option.bind_some, v5]
    · rw [if_neg c, if_neg c, or0]
  · unfold fX11_needsOf_L6
    dsimp only
    rw [Nat.sub_self, if_pos (by decide)]
    rfl
def fL (L : LF) (m : Int32) (e : Nat) : Int32 := lf_v L 2 e * (if bt m (e + 8) = true then lf_v L 3 e else 10)
def fc (L : LF) (m : Int32) (e : Nat) : Nat := ((100 : Int32) - fL L m e).toNatClampNeg
theorem fc_ok {L : LF} (hk : okL L) (m : Int32) {e : Nat} (he : e < lf_n L) : ((100 : Int32) - fL L m e).toInt64 = lN (fc L m e) ∧ fc L m e ≤ 100 := by
  obtain ⟨-, -, ⟨z, hz, ez⟩, ⟨y, hy, ey⟩, -⟩ := hk.2.2.2.1 e he
  have key : ∀ z, z < 11 → ∀ y, y < 11 → ((100 : Int32) - nI z * nI y).toInt64 = lN ((100 : Int32) - nI z * nI y).toNatClampNeg ∧ ((100 : Int32) - nI z * nI y).toNatClampNeg ≤ 100 := by decide +kernel
  unfold fc fL
  rw [ez, ey]
  split
  · exact key z (by omega) y (by omega)
  · exact key z (by omega) 10 (by omega)
def pP (f : Nat → Nat) : Nat → Nat
  | 0 => 1
  | n + 1 => pP f n * f n
theorem pP_le {f : Nat → Nat} : ∀ {n : Nat}, (∀ k, k < n → f k ≤ 100) → pP f n ≤ 100 ^ n
  | 0, _ => Nat.le_refl _
  | n + 1, h => Nat.mul_le_mul (pP_le (fun k hk => h k (by omega))) (h n (by omega))
def ff1 (L : LF) (m : Int32) (j e : Nat) : Nat := if bt (nee L j) e = true then fc L m e else 100
def sd (L : LF) (m : Int32) (j : Nat) : Nat := pP (ff1 L m j) 8
theorem ff1_le {L : LF} (hk : okL L) (m : Int32) {j : Nat} (hj : j < lf_n L) {e : Nat} (he : e < 8) : ff1 L m j e ≤ 100 := by
  unfold ff1
  split
  · next c => exact (fc_ok hk m (Nat.lt_of_le_of_lt (nq_in hk hj (j + 1) e (by omega) c) hj)).2
  · omega
theorem sd_le {L : LF} (hk : okL L) (m : Int32) {j : Nat} (hj : j < lf_n L) : sd L m j ≤ 10000000000000000 := pP_le (fun k hk2 => ff1_le hk m hj hk2)
theorem lNm (a b : Nat) : lN (a * b) = lN a * lN b := Int64.ofNat_mul a b
theorem lNa (a b : Nat) : lN (a + b) = lN a + lN b := Int64.ofNat_add a b
theorem c_lost {S : sk_S} {d : sk_D} {L : LF} (hS : Sh S) (hn : lf_n L ≤ 8) (hc : cL d 3 L) (m : Int32) {e : Nat} (he : e < lf_n L) : fX9_lostInHundred S d 2 m (nI e) = some (fL L m e) := by
  obtain ⟨-, -, v2, v3, -⟩ := cv hc he
  have eb : bt (ln m) e = bt m (e + 8) := by rw [bt_ln _ (by omega)]; simp [show e < 8 by omega]
  unfold fX9_lostInHundred
  rw [f_ln, Option.bind_some]
  have j17 : ∀ v : Int32, fX9_lostInHundred_J17 S d 2 (nI e) v = some (if v = 0 then lf_v L 2 e * 10 else lf_v L 2 e * lf_v L 3 e) := by
    intro v
    unfold fX9_lostInHundred_J17
    rw [gr2_0 hS, Option.bind_some, gr3_7 hS, Option.bind_some, li6 hS _ (show e < 8 by omega), Option.bind_some, v2]
    by_cases q : v = 0
    · rw [if_pos q, if_pos q]
    · rw [if_neg q, if_neg q, Option.bind_some, gr3_8 hS, Option.bind_some, li7 hS _ (show e < 8 by omega), Option.bind_some, v3]
  rw [j17, j17]
  unfold fL
  by_cases c : bt (ln m) e = true
  · rw [if_pos ((t_1 _ (by omega)).mpr c), if_neg (by decide), if_pos (by rw [← eb]; exact c)]
  · rw [if_neg (fun a => c ((t_1 _ (by omega)).mp a)), if_pos rfl, if_neg (by rw [← eb]; exact c)]
theorem c_still {S : sk_S} {d : sk_D} {L : LF} (hS : Sh S) (hk : okL L) (hc : cL d 3 L) (m : Int32) {j : Nat} (hj : j < lf_n L) : fX9_stillDone S d 2 m (nI j) = some (lN (sd L m j)) := by
  have hn := hk.1
  unfold fX9_stillDone
  rw [gr2_0 hS, Option.bind_some, if_pos (kd3 hS), c_needed hS hk hc hj, Option.bind_some]
  have e := it_eq (body := fX9_stillDone_L15 S d 2 m (nee L j)) (fun k => (lN (pP (ff1 L m j) k), nI k)) 8 (lN (sd L m j)) ?_ ?_
  · rw [show ((1 : Int64), (0 : Int32)) = (lN (pP (ff1 L m j) 0), nI 0) from rfl, e]; rfl
  · intro k hkk
    unfold fX9_stillDone_L15
    dsimp only
    rw [if_neg (show ¬ (8 : Int32) ≤ nI k from nI_ge (b := 8) hkk (by omega)), pP, nI_1, lNm]
    unfold ff1
    by_cases c : bt (nee L j) k = true
    · have kn := Nat.lt_of_le_of_lt (nq_in hk hj (j + 1) k (by omega) c) hj
      rw [if_pos ((t_1 _ (by omega)).mpr c), if_pos (kd2 hS), c_lost hS hn hc m kn, Option.bind_some, (fc_ok hk m kn).1, if_pos c]
    · rw [if_neg (fun a => c ((t_1 _ (by omega)).mp a)), if_neg c]
      rfl
  · unfold fX9_stillDone_L15
    dsimp only
    rw [if_pos (by decide)]
    rfl
theorem m_stays {S : sk_S} {d : sk_D} {L : LF} (h : MI S d L) {m : Int32} (hcl : ∀ i, i < 8 → bt m i = true → ∀ e, e < 8 → bt (lf_v L 5 i) e = true → bt m e = true) {j : Nat} (hj : j < lf_n L) (hd : bt m j = true) : fX11_staysDone S d 94 (stnd m) (nI j) = some (lN (sd L m j)) := by
  have hS := h.1
  have hk := h.2.1
  have hm := h.2.2
  have hn := hk.1
  unfold fX11_staysDone
  rw [if_pos (kd94 hS), m_needsOf h hj, Option.bind_some]
  have e := it_eq (body := fX11_staysDone_L14 S d 94 (stnd m) (nI j) (nee L j)) (fun k => (lN (pP (ff1 L m j) k * 100 ^ (8 - k)), nI k)) (j + 1) (lN (sd L m j)) ?_ ?_
  · have e0 : (10000000000000000 : Int64) = lN (pP (ff1 L m j) 0 * 100 ^ (8 - 0)) := by
      show (10000000000000000 : Int64) = lN (1 * 100 ^ (8 - 0))
      decide
    rw [e0, show (0 : Int32) = nI 0 from rfl, e]; rfl
  · intro k hkk
    have ple : pP (ff1 L m j) k ≤ 100 ^ k := pP_le (fun i hi => ff1_le hk m hj (by omega))
    obtain ⟨q, hq⟩ : ∃ q, 8 - k = q + 1 := ⟨7 - k, by omega⟩
    have hb : pP (ff1 L m j) k * 100 ^ (8 - k) ≤ 100 ^ 8 := by
      have := Nat.mul_le_mul_right (100 ^ (8 - k)) ple
      rw [← Nat.pow_add, show k + (8 - k) = 8 by omega] at this
      exact this
    have h8 : (100 : Nat) ^ 8 = 10000000000000000 := by decide
    unfold fX11_staysDone_L14
    dsimp only
    rw [if_neg (show ¬ nI j < nI k by rw [nI_ltI (by omega) (by omega)]; omega), f_isIn _ _ _ (by omega), Option.bind_some, pP, nI_1, show 8 - (k + 1) = q by omega]
    rw [hq] at hb ⊢
    rw [Nat.pow_succ] at hb ⊢
    unfold ff1
    by_cases c : bt (nee L j) k = true
    · have kn := Nat.lt_of_le_of_lt (nq_in hk hj (j + 1) k (by omega) c) hj
      have kd := nq_done hk hj hd hcl (j + 1) k (by omega) c
      obtain ⟨-, -, v2, v3, -⟩ := mv hm kn
      have e100 : lN (pP (ff1 L m j) k * (100 ^ q * 100)) / 100 = lN (pP (ff1 L m j) k * 100 ^ q) := by
        have : (100 : Int64) = Int64.ofNat 100 := rfl
        rw [this]
        unfold lN
        rw [← Int64.ofNat_div (by omega) (by decide), ← Nat.mul_assoc, Nat.mul_div_cancel _ (by decide)]
      rw [if_pos c, if_pos c, gr94_1 hS, Option.bind_some, p26, li95 hS _ (show 26 + k < 3225 by omega), Option.bind_some, v2, f_how _ _ _ (show k < 8 by omega), Option.bind_some]
      have eM : mood m k = 1 ↔ bt m (k + 8) = true := by rw [(mood_c m k).1]; exact ⟨fun a => a.2, fun a => ⟨kd, a⟩⟩
      have fin : ∀ x : Int32, x = fL L m k → (some (Sum.inl (lN (pP (ff1 L m j) k * (100 ^ q * 100)) / 100 * ((100 : Int32) - x).toInt64, nI (k + 1))) : Option ((Int64 × Int32) ⊕ Int64)) = some (Sum.inl (lN (pP (ff1 L m j) k * fc L m k * 100 ^ q), nI (k + 1))) := by
        intro x hx
        rw [hx, (fc_ok hk m kn).1, e100, ← lNm, Nat.mul_right_comm]
      by_cases cm : mood m k = 1
      · rw [if_pos cm, Option.bind_some, p34, li95 hS _ (show 34 + k < 3225 by omega), Option.bind_some, v3]
        exact fin _ (by unfold fL; rw [if_pos (eM.mp cm)])
      · rw [if_neg cm]
        exact fin _ (by unfold fL; rw [if_neg (fun a => cm (eM.mpr a))])
    · rw [if_neg c, if_neg c, Nat.mul_assoc, Nat.mul_comm 100]
  · unfold fX11_staysDone_L14
    dsimp only
    rw [if_pos (show nI j < nI (j + 1) by rw [nI_ltI (by omega) (by omega)]; omega)]
    have ext : ∀ x, j + 1 + x ≤ 8 → pP (ff1 L m j) (j + 1 + x) = pP (ff1 L m j) (j + 1) * 100 ^ x := by
      intro x
      induction x with
      | zero => intro _; rw [Nat.pow_zero, Nat.mul_one]
      | succ x ih =>
        intro hx
        show pP (ff1 L m j) (j + 1 + x) * ff1 L m j (j + 1 + x) = _
        rw [ih (by omega), Nat.pow_succ, ← Nat.mul_assoc]
        congr 1
        unfold ff1
        rw [if_neg]
        intro a
        have := nq_in hk hj (j + 1) (j + 1 + x) (by omega) a
        omega
    have := ext (8 - (j + 1)) (by omega)
    rw [show j + 1 + (8 - (j + 1)) = 8 by omega] at this
    unfold sd
    rw [this]
def sm (L : LF) (m : Int32) : Nat → Nat
  | 0 => 0
  | k + 1 => if bt m k = true then sm L m k + sd L m k else sm L m k
theorem sm_le {L : LF} (hk : okL L) (m : Int32) : ∀ k, k ≤ lf_n L → sm L m k ≤ k * 10000000000000000
  | 0, _ => Nat.le_refl _
  | k + 1, h => by
    have a := sm_le hk m k (by omega)
    have b := sd_le hk m (j := k) (by omega)
    rw [Nat.succ_mul]
    unfold sm
    split
    · exact Nat.add_le_add a b
    · exact Nat.le_trans a (Nat.le_add_right _ _)
theorem sm_lt {L : LF} (hk : okL L) (m : Int32) : sm L m (lf_n L) ≤ 80000000000000000 := by
  exact Nat.le_trans (sm_le hk m (lf_n L) (Nat.le_refl _)) (Nat.le_trans (Nat.mul_le_mul_right _ hk.1) (by decide))
theorem c_sumDone {S : sk_S} {d : sk_D} {L : LF} (hS : Sh S) (hk : okL L) (hc : cL d 3 L) (m : Int32) : fX9_sumDone S d 2 m = some (lN (sm L m (lf_n L))) := by
  have hn := hk.1
  unfold fX9_sumDone
  have e := it_eq (body := fX9_sumDone_L5 S d 2 m) (fun k => (lN (sm L m k), nI k)) (lf_n L) (lN (sm L m (lf_n L))) ?_ ?_
  · rw [show ((0 : Int64), (0 : Int32)) = (lN (sm L m 0), nI 0) from rfl, e]; rfl
  · intro k hkk
    have ed : bt (dn m) k = bt m k := by rw [bt_dn]; simp [show k < 8 by omega]
    unfold fX9_sumDone_L5
    dsimp only
    rw [gr2_0 hS, Option.bind_some, gi3 hS, Option.bind_some, hc.2.1, if_neg (nI_ge hkk (by omega)), f_dn, Option.bind_some, nI_1, sm]
    by_cases c : bt m k = true
    · rw [if_pos ((t_1 _ (by omega)).mpr (by rw [ed]; exact c)), if_pos (kd2 hS), c_still hS hk hc m hkk, Option.bind_some, if_pos c, lNa]
    · rw [if_neg (fun a => c (by rw [← ed]; exact (t_1 _ (by omega)).mp a)), if_neg c]
  · unfold fX9_sumDone_L5
    dsimp only
    rw [gr2_0 hS, Option.bind_some, gi3 hS, Option.bind_some, hc.2.1, if_pos (nI_le (Nat.le_refl _) (by omega))]
theorem m_meanOf {S : sk_S} {d : sk_D} {L : LF} (h : MI S d L) {m : Int32} (hcl : ∀ i, i < 8 → bt m i = true → ∀ e, e < 8 → bt (lf_v L 5 i) e = true → bt m e = true) : fX11_meanOf S d 94 (stnd m) = some (lN (sm L m (lf_n L))) := by
  have hS := h.1
  have hm := h.2.2
  have hn := h.2.1.1
  unfold fX11_meanOf
  have e := it_eq (body := fX11_meanOf_L5 S d 94 (stnd m)) (fun k => (lN (sm L m k), nI k)) (lf_n L) (lN (sm L m (lf_n L))) ?_ ?_
  · rw [show ((0 : Int64), (0 : Int32)) = (lN (sm L m 0), nI 0) from rfl, e]; rfl
  · intro k hkk
    unfold fX11_meanOf_L5
    dsimp only
    rw [gr94_1 hS, Option.bind_some, l95_1 hS, Option.bind_some, hm.2.1, if_neg (nI_ge hkk (by omega)), f_isDone _ _ _ (show k < 8 by omega), Option.bind_some, nI_1, sm]
    by_cases c : bt m k = true
    · rw [if_pos c, if_pos c, if_pos (kd94 hS), m_stays h hcl hkk c, Option.bind_some, lNa]
    · rw [if_neg c, if_neg c, Int64.add_zero]
  · unfold fX11_meanOf_L5
    dsimp only
    rw [gr94_1 hS, Option.bind_some, l95_1 hS, Option.bind_some, hm.2.1, if_pos (nI_le (Nat.le_refl _) (by omega))]
