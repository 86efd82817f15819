/-! rows: what the queue holds -/
def s16 (s : Int32) : Prop := ∀ i, 16 ≤ i → i < 32 → bt s i = false
def okS (L : LF) (s : Int32) : Prop := okM L s ∧ s16 s
theorem okS.nI {L : LF} {s : Int32} (h : okS L s) : ∃ k, k < 65536 ∧ s = nI k := b_low (n := 16) (by omega) h.2
theorem mvt_kdd (L : LF) (s : Int32) {mv : Nat} (h : mv < 16) : mvt L s mv = kdd L s (mv / 8) (mv % 8) := by
  unfold mvt kdd
  by_cases c : mv < 8
  · rw [if_pos c, if_pos (by omega), show mv % 8 = mv by omega]
  · rw [if_neg c, if_neg (by omega), if_pos (by omega), show mv % 8 = mv - 8 by omega]
theorem okS.mv {L : LF} (hk : okL L) {s : Int32} (h : okS L s) {mv : Nat} (hm : mv < 16) (h0 : ¬ mvt L s mv < 0) : okS L (mvt L s mv) := by
  have hn := hk.1
  refine ⟨?_, ?_⟩
  · rw [mvt_kdd L s hm] at h0 ⊢
    exact ok_kdd hk h.1 (by omega) h0
  · obtain ⟨n1, n2, n3, n4⟩ := neg_lit
    intro i h1 h2
    unfold mvt at h0 ⊢
    by_cases c : mv < 8
    · rw [if_pos c] at h0 ⊢
      unfold tdo at h0 ⊢
      by_cases q1 : ¬ mv < lf_n L
      · rw [if_pos q1] at h0; exact absurd n1 h0
      · rw [if_neg q1] at h0 ⊢
        by_cases q2 : bt s mv = true
        · rw [if_pos q2] at h0; exact absurd n2 h0
        · rw [if_neg q2] at h0 ⊢
          by_cases q3 : ¬ (lf_v L 5 mv &&& (dn s ^^^ (-1))) = 0
          · rw [if_pos q3] at h0; exact absurd n3 h0
          · rw [if_neg q3]
            show bt (dto L s mv) i = false
            unfold dto
            split
            · rw [b_or, bt_gone s c h2, bt_b8 (by omega) h2, h.2 i h1 h2]; simp; omega
            · rw [bt_gone s c h2, h.2 i h1 h2]; simp; omega
    · rw [if_neg c] at h0 ⊢
      unfold tdr at h0 ⊢
      by_cases q1 : ¬ mv - 8 < lf_n L
      · rw [if_pos q1] at h0; exact absurd n1 h0
      · rw [if_neg q1] at h0 ⊢
        by_cases q2 : bt s (mv - 8 + 8) = false
        · rw [if_pos q2] at h0; exact absurd n2 h0
        · rw [if_neg q2, bt_drop s (by omega) h2, h.2 i h1 h2]; rfl
def nds (Q : List TQ) : Prop := ∀ (i j : Nat) (x y : TQ), Q[i]? = some x → Q[j]? = some y → x.1 = y.1 → i = j
def allS (L : LF) (Q : List TQ) : Prop := ∀ x, x ∈ Q → okS L x.1
theorem any_iff (Q : List TQ) (t : Int32) : (Q.any (fun x => x.1 == t)) = true ↔ ∃ x, x ∈ Q ∧ x.1 = t := by
  rw [List.any_eq_true]
  constructor
  · rintro ⟨x, h1, h2⟩; exact ⟨x, h1, by simpa using h2⟩
  · rintro ⟨x, h1, h2⟩; exact ⟨x, h1, by simpa using h2⟩
theorem rch_ok {L : LF} {Q : List TQ} {t b e : Int32} (hQ : allS L Q) (hn : nds Q) (ht : ¬ t < 0 → okS L t) : allS L (rch Q t b e) ∧ nds (rch Q t b e) := by
  unfold rch
  by_cases c : t < 0 ∨ (Q.any (fun x => x.1 == t)) = true
  · rw [if_pos c]; exact ⟨hQ, hn⟩
  · rw [if_neg c]
    have c1 : ¬ t < 0 := fun a => c (Or.inl a)
    have c2 : ∀ x, x ∈ Q → x.1 ≠ t := fun x hx hxt => c (Or.inr ((any_iff Q t).mpr ⟨x, hx, hxt⟩))
    refine ⟨?_, ?_⟩
    · intro x hx
      rw [List.mem_append] at hx
      rcases hx with hx | hx
      · exact hQ x hx
      · simp at hx; subst hx; exact ht c1
    · intro i j x y hi hj hxy
      rw [List.getElem?_append] at hi hj
      split at hi
      · next h1 =>
        split at hj
        · next h2 => exact hn i j x y hi hj hxy
        · next h2 =>
          have : y = (t, b, e) := by
            rw [List.getElem?_singleton] at hj
            split at hj
            · exact (Option.some.inj hj).symm
            · cases hj
          subst this
          exact absurd hxy (c2 x (List.mem_of_getElem? hi))
      · next h1 =>
        have hx : x = (t, b, e) ∧ i = Q.length := by
          rw [List.getElem?_singleton] at hi
          split at hi
          · exact ⟨(Option.some.inj hi).symm, by omega⟩
          · cases hi
        split at hj
        · next h2 =>
          rw [hx.1] at hxy
          exact absurd hxy.symm (c2 y (List.mem_of_getElem? hj))
        · next h2 =>
          have hy : j = Q.length := by
            rw [List.getElem?_singleton] at hj
            split at hj
            · omega
            · cases hj
          omega
theorem bst_ok {L : LF} (hk : okL L) {s : Int32} (hs : okS L s) {Q : List TQ} (hQ : allS L Q) (hn : nds Q) : ∀ k, k ≤ 16 → allS L (bst L s k Q) ∧ nds (bst L s k Q)
  | 0, _ => ⟨hQ, hn⟩
  | k + 1, h => by
    obtain ⟨a, b⟩ := bst_ok hk hs hQ hn k (by omega)
    exact rch_ok a b (fun h0 => hs.mv hk (by omega) h0)
theorem qs_ok {L : LF} (hk : okL L) {s : Int32} (hs : okS L s) : ∀ h, allS L (qs L s h) ∧ nds (qs L s h)
  | 0 => by
    refine ⟨?_, ?_⟩
    · intro x hx; simp [qs] at hx; subst hx; exact hs
    · intro i j x y hi hj _
      simp only [qs, List.getElem?_singleton] at hi hj
      split at hi
      · split at hj
        · omega
        · cases hj
      · cases hi
  | h + 1 => by
    obtain ⟨a, b⟩ := qs_ok hk hs h
    rw [qs]
    cases hx : (qs L s h)[h]? with
    | none => exact ⟨a, b⟩
    | some x => exact bst_ok hk (a x (List.mem_of_getElem? hx)) a b 16 (Nat.le_refl _)
theorem nds_len {L : LF} {Q : List TQ} (hQ : allS L Q) (hn : nds Q) : Q.length ≤ 65536 := by
  refine fb_holes 65536 Q.length (fun i => (Q.getD i (0, 0, 0)).1.toNatClampNeg) ?_ ?_
  · intro i hi
    have e : Q.getD i (0, 0, 0) = Q[i] := by rw [List.getD_eq_getElem?_getD, List.getElem?_eq_getElem hi]; rfl
    obtain ⟨k, hk, ek⟩ := (hQ Q[i] (List.getElem_mem _)).nI
    show (Q.getD i (0, 0, 0)).1.toNatClampNeg < 65536
    rw [e, ek, nI_clamp (by omega)]
    exact hk
  · intro i j hij hj he
    have e1 : Q.getD i (0, 0, 0) = Q[i] := by rw [List.getD_eq_getElem?_getD, List.getElem?_eq_getElem (by omega)]; rfl
    have e2 : Q.getD j (0, 0, 0) = Q[j] := by rw [List.getD_eq_getElem?_getD, List.getElem?_eq_getElem hj]; rfl
    have he2 : (Q.getD i (0, 0, 0)).1.toNatClampNeg = (Q.getD j (0, 0, 0)).1.toNatClampNeg := he
    rw [e1, e2] at he2
    obtain ⟨k, hk, ek⟩ := (hQ Q[i] (List.getElem_mem _)).nI
    obtain ⟨k2, hk2, ek2⟩ := (hQ Q[j] (List.getElem_mem _)).nI
    rw [ek, ek2, nI_clamp (by omega), nI_clamp (by omega)] at he2
    have := hn i j Q[i] Q[j] (List.getElem?_eq_getElem (by omega)) (List.getElem?_eq_getElem hj) (by rw [ek, ek2, he2])
    omega
theorem bst_len (L : LF) (s : Int32) (Q : List TQ) : ∀ k, Q.length ≤ (bst L s k Q).length ∧ ∀ i, i < Q.length → (bst L s k Q)[i]? = Q[i]?
  | 0 => ⟨Nat.le_refl _, fun _ _ => rfl⟩
  | k + 1 => by
    obtain ⟨a, b⟩ := bst_len L s Q k
    rw [bst]
    unfold rch
    split
    · exact ⟨a, b⟩
    · refine ⟨by rw [List.length_append]; omega, fun i hi => ?_⟩
      rw [List.getElem?_append_left (by omega)]
      exact b i hi
theorem qs_step (L : LF) (s : Int32) (h : Nat) : (qs L s h).length ≤ (qs L s (h + 1)).length ∧ ∀ i, i < (qs L s h).length → (qs L s (h + 1))[i]? = (qs L s h)[i]? := by
  rw [qs]
  cases hx : (qs L s h)[h]? with
  | none => exact ⟨Nat.le_refl _, fun _ _ => rfl⟩
  | some x => exact bst_len L x.1 _ 16
theorem qs_stop {L : LF} {s : Int32} {h : Nat} (hh : (qs L s h).length ≤ h) : ∀ k, qs L s (h + k) = qs L s h
  | 0 => rfl
  | k + 1 => by
    have ih := qs_stop hh k
    rw [← Nat.add_assoc, qs, ih, List.getElem?_eq_none (by omega)]
theorem bq_at {L : LF} (hk : okL L) {s : Int32} (hs : okS L s) {h : Nat} (hh : (qs L s h).length ≤ h) (h6 : h ≤ 65536) : bq L s = qs L s h := by
  rw [bq_eq, show (65536 : Nat) = h + (65536 - h) by omega]
  exact qs_stop hh _
theorem bq_ok {L : LF} (hk : okL L) {s : Int32} (hs : okS L s) : allS L (bq L s) ∧ nds (bq L s) ∧ (bq L s).length ≤ 65536 := by
  obtain ⟨a, b⟩ := qs_ok hk hs 65536
  rw [← bq_eq] at a b
  exact ⟨a, b, nds_len a b⟩
/-- the place of a state -/
theorem bt_spt {L : LF} (hk : okL L) {s : Int32} (hz : zM L s) {i : Nat} (hi : i < 32) : bt (spt (lf_n L) s) i = ((decide (i < lf_n L) && bt s i) || (decide (lf_n L ≤ i ∧ i < 2 * lf_n L) && bt s (i - lf_n L + 8))) := by
  have hn := hk.1
  unfold spt
  rw [b_or, bt_dn, b_shl (lf_n L) (by omega) _ hi]
  by_cases c : i < lf_n L
  · simp [c, show i < 8 by omega, show ¬ lf_n L ≤ i by omega]
  · by_cases c2 : i < 2 * lf_n L
    · rw [bt_ln _ (by omega)]
      by_cases c3 : i < 8
      · rw [(hz i (by omega) c3).1]; simp [c, c2, show lf_n L ≤ i by omega, show i - lf_n L < 8 by omega]
      · simp [c, c2, c3, show lf_n L ≤ i by omega, show i - lf_n L < 8 by omega]
    · rw [bt_ln _ (by omega)]
      by_cases c4 : i - lf_n L < 8
      · rw [(hz (i - lf_n L) (by omega) c4).2]
        by_cases c3 : i < 8
        · rw [(hz i (by omega) c3).1]; simp [c, c2]
        · simp [c, c2, c3]
      · simp [c, c2, c4, show ¬ i < 8 by omega]
theorem spt_nI {L : LF} (hk : okL L) {s : Int32} (hz : zM L s) : ∃ k, k < 4 ^ lf_n L ∧ spt (lf_n L) s = nI k := by
  have hn := hk.1
  have e : (4 : Nat) ^ lf_n L = 2 ^ (2 * lf_n L) := by rw [Nat.pow_mul]
  rw [e]
  exact b_low (by omega) (fun i h1 h2 => by rw [bt_spt hk hz h2]; simp; constructor <;> (intros; omega))
theorem spt_inj {L : LF} (hk : okL L) {s t : Int32} (hs : okS L s) (ht : okS L t) (h : spt (lf_n L) s = spt (lf_n L) t) : s = t := by
  have hn := hk.1
  apply b_ext
  intro i hi
  by_cases c : i < 8
  · by_cases c2 : i < lf_n L
    · have := congrArg (fun x => bt x i) h
      simp only [bt_spt hk hs.1.z hi, bt_spt hk ht.1.z hi] at this
      simpa [c2, show ¬ lf_n L ≤ i by omega] using this
    · rw [(hs.1.z i (by omega) c).1, (ht.1.z i (by omega) c).1]
  · by_cases c3 : i < 16
    · by_cases c2 : i - 8 < lf_n L
      · have hi2 : i - 8 + lf_n L < 32 := by omega
        have := congrArg (fun x => bt x (i - 8 + lf_n L)) h
        simp only [bt_spt hk hs.1.z hi2, bt_spt hk ht.1.z hi2] at this
        rw [show i - 8 + lf_n L - lf_n L + 8 = i by omega] at this
        simpa [show ¬ i - 8 + lf_n L < lf_n L by omega, show i - 8 + lf_n L < 2 * lf_n L by omega] using this
      · have a := (hs.1.z (i - 8) (by omega) (by omega)).2
        have b := (ht.1.z (i - 8) (by omega) (by omega)).2
        rw [show i - 8 + 8 = i by omega] at a b
        rw [a, b]
    · rw [hs.2 i (by omega) hi, ht.2 i (by omega) hi]
theorem spt_injN {L : LF} (hk : okL L) {s t : Int32} (hs : okS L s) (ht : okS L t) (h : (spt (lf_n L) s).toNatClampNeg = (spt (lf_n L) t).toNatClampNeg) : s = t := by
  have hn := hk.1
  have h4 : (4 : Nat) ^ lf_n L ≤ 65536 := by
    calc (4 : Nat) ^ lf_n L ≤ 4 ^ 8 := Nat.pow_le_pow_right (by omega) hn
      _ = 65536 := by decide
  obtain ⟨a, ha, ea⟩ := spt_nI hk hs.1.z
  obtain ⟨b, hb, eb⟩ := spt_nI hk ht.1.z
  rw [ea, eb, nI_clamp (by omega), nI_clamp (by omega)] at h
  exact spt_inj hk hs ht (by rw [ea, eb, h])
theorem pow4 {L : LF} (hk : okL L) : (4 : Nat) ^ lf_n L ≤ 65536 := by
  calc (4 : Nat) ^ lf_n L ≤ 4 ^ 8 := Nat.pow_le_pow_right (by omega) hk.1
    _ = 65536 := by decide
