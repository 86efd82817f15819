/-! whether a colour fits, on both sides -/
theorem c_fits {S : sk_S} {d : sk_D} {L : LF} (hS : Sh S) (hk : okL L) (hc : cL d 3 L) {c : Nat → Int32} {j : Nat} (hj : j < lf_n L) {v : Int32} (h1 : ∀ e, e < j → d.1 49 e = c e) (h2 : d.1 49 j = v) : ∃ r, fX0_fits S d 49 3 (nI j) = some r ∧ (r = true ↔ cnl L c j v) := by
  have hn := hk.1
  obtain ⟨-, -, -, -, -, -, v6⟩ := cv hc hj
  unfold fX0_fits
  have loop := it_for (body := fX0_fits_L2 S d 49 3 (nI j)) (fun k z => z = nI k ∧ ∀ e, e < k → c e = v → bt (lf_v L 6 j) e = false) j (fun e => (e = true ↔ cnl L c j v)) ?_ ?_ (s := (0 : Int32)) ⟨rfl, fun e he => by omega⟩
  · obtain ⟨e, he, e1⟩ := loop
    exact ⟨e, by rw [he]; rfl, e1⟩
  · intro k z hkk ⟨i1, i2⟩
    unfold fX0_fits_L2
    rw [i1, if_neg (nI_ge hkk (by omega)), li49 hS _ (show k < 8 by omega), Option.bind_some, li49 hS _ (show j < 8 by omega), Option.bind_some, h1 k hkk, h2]
    by_cases q : c k = v
    · rw [if_pos q, gr3_11 hS, Option.bind_some, li10 hS _ (show j < 8 by omega), Option.bind_some, v6]
      cases b : bt (lf_v L 6 j) k with
      | true =>
        right
        rw [if_pos ((t_1 _ (by omega)).mpr b)]
        exact ⟨_, rfl, ⟨fun a => absurd a (by decide), fun a => by rw [a k hkk q] at b; exact absurd b (by decide)⟩⟩
      | false =>
        left
        rw [if_neg (fun a => by rw [(t_1 _ (by omega)).mp a] at b; exact absurd b (by decide)), nI_1]
        refine ⟨_, rfl, rfl, fun e he hv => ?_⟩
        rcases Nat.lt_or_ge e k with w | w
        · exact i2 e w hv
        · rw [show e = k by omega]; exact b
    · left
      rw [if_neg q, nI_1]
      refine ⟨_, rfl, rfl, fun e he hv => ?_⟩
      rcases Nat.lt_or_ge e k with w | w
      · exact i2 e w hv
      · rw [show e = k by omega] at hv; exact absurd hv q
  · intro z ⟨i1, i2⟩
    unfold fX0_fits_L2
    rw [i1, if_pos (nI_le (Nat.le_refl _) (by omega))]
    exact ⟨_, rfl, ⟨fun _ => i2, fun _ => rfl⟩⟩
theorem m_canLie {S : sk_S} {d : sk_D} {L : LF} (h : MI S d L) {c : Nat → Int32} {j : Nat} (hj : j < lf_n L) {v : Int32} (h1 : ∀ e, e < j → d.1 112 e = c e) : ∃ r, fX11_canLie S d 94 (nI j) v = some r ∧ (r = true ↔ cnl L c j v) := by
  obtain ⟨hS, hk, hm⟩ := h
  have hn := hk.1
  obtain ⟨-, -, -, -, -, -, v6⟩ := mv hm hj
  unfold fX11_canLie
  have loop := it_for (body := fX11_canLie_L2 S d 94 (nI j) v) (fun k z => z = nI k ∧ ∀ e, e < k → c e = v → bt (lf_v L 6 j) e = false) j (fun e => (e = true ↔ cnl L c j v)) ?_ ?_ (s := (0 : Int32)) ⟨rfl, fun e he => by omega⟩
  · obtain ⟨e, he, e1⟩ := loop
    exact ⟨e, by rw [he]; rfl, e1⟩
  · intro k z hkk ⟨i1, i2⟩
    unfold fX11_canLie_L2
    rw [i1, if_neg (nI_ge hkk (by omega)), gr94_33 hS, Option.bind_some, li112 hS _ (show k < 8 by omega), Option.bind_some, h1 k hkk]
    by_cases q : c k = v
    · rw [if_pos q, gr94_1 hS, Option.bind_some, p58, li95 hS _ (show 58 + j < 3225 by omega), Option.bind_some, v6, f_isIn _ _ _ (by omega), Option.bind_some]
      cases b : bt (lf_v L 6 j) k with
      | true =>
        right
        rw [if_pos rfl]
        exact ⟨_, rfl, ⟨fun a => absurd a (by decide), fun a => by rw [a k hkk q] at b; exact absurd b (by decide)⟩⟩
      | false =>
        left
        rw [if_neg (by decide), nI_1]
        refine ⟨_, rfl, rfl, fun e he hv => ?_⟩
        rcases Nat.lt_or_ge e k with w | w
        · exact i2 e w hv
        · rw [show e = k by omega]; exact b
    · left
      rw [if_neg q, nI_1]
      refine ⟨_, rfl, rfl, fun e he hv => ?_⟩
      rcases Nat.lt_or_ge e k with w | w
      · exact i2 e w hv
      · rw [show e = k by omega] at hv; exact absurd hv q
  · intro z ⟨i1, i2⟩
    unfold fX11_canLie_L2
    rw [i1, if_pos (nI_le (Nat.le_refl _) (by omega))]
    exact ⟨_, rfl, ⟨fun _ => i2, fun _ => rfl⟩⟩
