/-! moments stay what they must be -/
theorem bt_sp (m : Int32) {i : Nat} (hi : i < 16) : bt (sp m) i = bt m (i + 16) := by
  unfold sp
  rw [show (16 : Int32) = nI 16 from rfl, b_sshr 16 (by omega) m (by omega), if_pos (by omega), Nat.add_comm]
theorem sp_cong {x y : Int32} (h : ∀ i, 16 ≤ i → i < 32 → bt x i = bt y i) : sp x = sp y := by
  apply b_ext
  intro i hi
  unfold sp
  rw [show (16 : Int32) = nI 16 from rfl, b_sshr 16 (by omega) x hi, b_sshr 16 (by omega) y hi]
  split
  · exact h _ (by omega) (by omega)
  · exact h _ (by omega) (by omega)
theorem okM.hi {L : LF} {m : Int32} (h : okM L m) : ∀ i, 20 ≤ i → i < 32 → bt m i = false := by
  obtain ⟨s, hs, e⟩ := h.2.2
  intro i h1 h2
  have := bt_sp m (i := i - 16) (by omega)
  rw [e, show i - 16 + 16 = i by omega] at this
  rw [← this]
  exact b_low2 (n := 4) (by omega) (by omega) (by omega)
theorem okM.nI {L : LF} {m : Int32} (h : okM L m) : ∃ k, k < 2 ^ 20 ∧ m = nI k := b_low (by omega) (fun i h1 h2 => h.hi i h1 h2)
theorem okM.pos {L : LF} {m : Int32} (h : okM L m) : ¬ m < 0 := by
  obtain ⟨k, hk, rfl⟩ := h.nI
  exact nI_pos (by omega)
theorem okM.z {L : LF} {m : Int32} (h : okM L m) : zM L m := h.1
theorem ok_do {L : LF} (hk : okL L) {m : Int32} (h : okM L m) {j : Nat} (hj : j < lf_n L) (hn : (lf_v L 5 j &&& (dn m ^^^ (-1))) = 0) : okM L (dto L m j) := by
  have h8 := hk.1
  have nb := (z_sub _ _).mp hn
  have base : ∀ x : Int32, (∀ i, i < 32 → bt x i = ((bt m i && !decide (i = j + 8)) || decide (i = j)) ∨ (i = j + 8 ∧ bt x i = true)) → okM L x := by
    intro x hx
    refine ⟨?_, ?_, ?_⟩
    · intro i h1 h2
      have a := h.1 i h1 h2
      have b1 := hx i (by omega)
      have b2 := hx (i + 8) (by omega)
      rw [a.1] at b1
      rw [a.2] at b2
      simp [show ¬ i = j by omega, show ¬ i = j + 8 by omega] at b1
      simp [show ¬ i + 8 = j by omega, show ¬ i = j by omega] at b2
      exact ⟨b1, b2⟩
    · intro i hi hb e he hne
      have b1 := hx i (by omega)
      have b2 := hx e (by omega)
      simp [show ¬ i = j + 8 by omega] at b1
      simp [show ¬ e = j + 8 by omega] at b2
      rw [b2]
      by_cases q : i = j
      · subst q
        have := nb e (by omega) hne
        rw [bt_dn] at this
        simp at this
        simp [this.1]
      · rw [b1] at hb
        simp [q] at hb
        have := h.2.1 i hi hb e he hne
        simp [this]
    · obtain ⟨s, hs, e⟩ := h.2.2
      refine ⟨s, hs, ?_⟩
      rw [← e]
      apply sp_cong
      intro i h1 h2
      have b1 := hx i h2
      simp [show ¬ i = j by omega, show ¬ i = j + 8 by omega] at b1
      exact b1
  unfold dto
  split
  · apply base
    intro i hi
    rw [b_or, bt_gone m (by omega) hi, bt_b8 (by omega) hi]
    by_cases q : i = j + 8
    · right; subst q; simp
    · left; simp [q]
  · apply base
    intro i hi
    left
    exact bt_gone m (by omega) hi
theorem ok_drop {L : LF} (hk : okL L) {m : Int32} (h : okM L m) {j : Nat} (hj : j < lf_n L) : okM L (m &&& (b8 j ^^^ (-1))) := by
  have h8 := hk.1
  have hx : ∀ i, i < 32 → bt (m &&& (b8 j ^^^ (-1))) i = (bt m i && !decide (i = j + 8)) := fun i hi => bt_drop m (by omega) hi
  refine ⟨?_, ?_, ?_⟩
  · intro i h1 h2
    rw [hx i (by omega), hx (i + 8) (by omega), (h.1 i h1 h2).1, (h.1 i h1 h2).2]
    simp
  · intro i hi hb e he hne
    rw [hx i (by omega)] at hb
    rw [hx e (by omega)]
    simp [show ¬ i = j + 8 by omega] at hb
    simp [show ¬ e = j + 8 by omega]
    exact h.2.1 i hi hb e he hne
  · obtain ⟨s, hs, e⟩ := h.2.2
    refine ⟨s, hs, ?_⟩
    rw [← e]
    apply sp_cong
    intro i h1 h2
    rw [hx i h2]
    simp [show ¬ i = j + 8 by omega]
theorem ok_forge {L : LF} (hk : okL L) {m : Int32} (h : okM L m) {j : Nat} (hj : j < lf_n L) : okM L (m ||| b8 j) := by
  have h8 := hk.1
  have hx : ∀ i, i < 32 → bt (m ||| b8 j) i = (bt m i || decide (i = j + 8)) := fun i hi => by rw [b_or, bt_b8 (by omega) hi]
  refine ⟨?_, ?_, ?_⟩
  · intro i h1 h2
    rw [hx i (by omega), hx (i + 8) (by omega), (h.1 i h1 h2).1, (h.1 i h1 h2).2]
    simp
    omega
  · intro i hi hb e he hne
    rw [hx i (by omega)] at hb
    rw [hx e (by omega)]
    simp [show ¬ i = j + 8 by omega] at hb
    simp [h.2.1 i hi hb e he hne]
  · obtain ⟨s, hs, e⟩ := h.2.2
    refine ⟨s, hs, ?_⟩
    rw [← e]
    apply sp_cong
    intro i h1 h2
    rw [hx i h2]
    simp [show ¬ i = j + 8 by omega]
theorem ng_mono (L : LF) (done : Int32) (j : Nat) {e : Nat} (he : e < 32) : ∀ k i, bt (ng L done j k) e = true → bt (ng L done j (k + i)) e = true := by
  intro k i h
  induction i with
  | zero => exact h
  | succ i ih =>
    rw [← Nat.add_assoc, ng]
    split
    · rw [b_or, ih]; rfl
    · exact ih
theorem nd_closed {L : LF} (hk : okL L) {j : Nat} (hj : j < lf_n L) (done : Int32) {e i : Nat} (hi : i < lf_n L) (he : bt (nd L j done) e = true) (hd : bt done i = true) (hn : bt (lf_v L 5 i) e = true) (he32 : e < 32) : bt (nd L j done) i = true := by
  have h8 := hk.1
  have hlt : e < i := (hk.2.2.2.1 i hi).2.2.2.2.2.1 e he32 hn
  have hje : j ≤ e := by
    rcases nd_sub L hk hj done e he32 he with q | q <;> omega
  have low : ∀ k x, j + 1 + k + x ≤ lf_n L → e < j + 1 + k → bt (ng L done j (k + x)) e = true → bt (ng L done j k) e = true := by
    intro k x
    induction x with
    | zero => intro _ _ h; exact h
    | succ x ih =>
      intro h1 h2 h
      apply ih (by omega) h2
      rw [← Nat.add_assoc, ng] at h
      split at h
      · rw [b_or, bt_b1 (by omega) he32] at h
        simp at h
        rcases h with h | h
        · exact h
        · omega
      · exact h
  have h0 : bt (ng L done j (i - (j + 1))) e = true := by
    apply low (i - (j + 1)) (lf_n L - i) (by omega) (by omega)
    rw [show i - (j + 1) + (lf_n L - i) = lf_n L - (j + 1) by omega]
    exact he
  have h1 : bt (ng L done j (i - (j + 1) + 1)) i = true := by
    have ei : j + 1 + (i - (j + 1)) = i := by omega
    have hne : ¬ (lf_v L 5 i &&& ng L done j (i - (j + 1))) = 0 := by
      intro q
      rw [z_iff] at q
      have := q e he32
      rw [b_and, hn, h0] at this
      exact absurd this (by decide)
    rw [ng, ei, if_pos ⟨hd, hne⟩, b_or, bt_b1 (by omega) (by omega)]
    simp
  have := ng_mono L done j (e := i) (by omega) (i - (j + 1) + 1) (lf_n L - (i + 1)) h1
  rw [show i - (j + 1) + 1 + (lf_n L - (i + 1)) = lf_n L - (j + 1) by omega] at this
  exact this
theorem ok_pb {L : LF} (hk : okL L) {m : Int32} (h : okM L m) {set : Int32} (h8 : ∀ i, 8 ≤ i → i < 32 → bt set i = false) (hcl : ∀ e i, e < 8 → i < lf_n L → bt set e = true → bt m i = true → bt (lf_v L 5 i) e = true → bt set i = true) : okM L (pb m set) := by
  have hn := hk.1
  have hx := bt_pb m set h8
  refine ⟨?_, ?_, ?_⟩
  · intro i h1 h2
    rw [((hx i).1 h2).1, ((hx i).1 h2).2, (h.1 i h1 h2).1, (h.1 i h1 h2).2]
    simp
  · intro i hi hb e he hne
    rw [((hx i).1 hi).1] at hb
    rw [((hx e).1 he).1]
    simp at hb ⊢
    have hin : i < lf_n L := by
      rcases Nat.lt_or_ge i (lf_n L) with q | q
      · exact q
      · rw [(h.1 i q hi).1] at hb; exact absurd hb.1 (by decide)
    refine ⟨h.2.1 i hi hb.1 e he hne, ?_⟩
    cases q : bt set e
    · rfl
    · rw [hcl e i he hin q hb.1 hne] at hb; exact absurd hb.2 (by decide)
  · obtain ⟨s, hs, e⟩ := h.2.2
    refine ⟨s, hs, ?_⟩
    rw [← e]
    apply sp_cong
    intro i h1 h2
    exact (hx i).2 h1 h2
theorem ok_ask {L : LF} (hk : okL L) {m : Int32} (h : okM L m) {j : Nat} (hj : j < lf_n L) : okM L (pb m (aso L m j)) := by
  have hn := hk.1
  apply ok_pb hk h (aso_8 L hk m hj)
  intro e i he hi hse hbi hne
  unfold aso at hse ⊢
  split at hse
  · rw [b_0] at hse; exact absurd hse (by decide)
  · next q =>
    rw [if_neg q]
    exact nd_closed hk hj _ hi hse (by rw [bt_dn, hbi]; simp; omega) hne (by omega)
theorem ok_slip {L : LF} {m : Int32} (h : okM L m) {z : Nat} (hz : z < 10) : okM L ((m &&& 65535) ||| (nI z <<< ((16 : Int32) &&& 31))) ∧ sp ((m &&& 65535) ||| (nI z <<< ((16 : Int32) &&& 31))) = nI z := by
  have hx : ∀ i, i < 32 → bt ((m &&& 65535) ||| (nI z <<< ((16 : Int32) &&& 31))) i = ((bt m i && decide (i < 16)) || (decide (16 ≤ i) && bt (nI z) (i - 16))) := by
    intro i hi
    rw [b_or, b_and, b_65535, b_shl16 _ hi]
  have e : sp ((m &&& 65535) ||| (nI z <<< ((16 : Int32) &&& 31))) = nI z := by
    apply b_ext
    intro i hi
    by_cases q : i < 16
    · rw [bt_sp _ q, hx _ (by omega)]
      simp [show ¬ i + 16 < 16 by omega]
    · unfold sp
      rw [show ((16 : Int32) &&& 31) = (nI 16 &&& 31) from rfl, b_sshr 16 (by omega) _ hi, if_neg (by omega), show (nI 16 &&& 31) = ((16 : Int32) &&& 31) from rfl, hx 31 (by omega), b_low2 (n := 4) (by omega) (by omega) hi]
      rw [b_low2 (n := 4) (by omega) (by omega) (by omega)]
      simp
  refine ⟨⟨?_, ?_, z, hz, e⟩, e⟩
  · intro i h1 h2
    rw [hx i (by omega), hx (i + 8) (by omega), (h.1 i h1 h2).1, (h.1 i h1 h2).2]
    simp [show ¬ 16 ≤ i by omega, show ¬ 16 ≤ i + 8 by omega]
  · intro i hi hb e2 he hne
    rw [hx i (by omega)] at hb
    rw [hx e2 (by omega)]
    simp [show ¬ 16 ≤ i by omega, show i < 16 by omega] at hb
    simp [show e2 < 16 by omega, h.2.1 i hi hb e2 he hne]
