/-! the reference's draft -/
def mLw (f : Nat → Int32) (W : List Int32) (t : Nat) (w : List Int32) : Prop := f (4 + t) = (if w.isEmpty = true then 0 else 1) ∧ (w ≠ [] → ∃ fr, f (6 + t) = nI fr ∧ f (8 + t) = nI w.length ∧ fr + w.length ≤ W.length ∧ ∀ j, j < w.length → W.getD (fr + j) 0 = cod (w.getD j 0))
def MD (f : Nat → Int32) (nn : Nat) (D : DFT) (W : List Int32) : Prop := (f 0 = lf_lines D.1 ∧ f 1 = nI nn ∧ f 2 = nI (lf_k D.1) ∧ f 3 = lf_room D.1) ∧ (∀ t j, t < 7 → j < lf_n D.1 → f (10 + 8 * t + j) = lf_v D.1 t j) ∧ (∀ t j, t < 7 → lf_n D.1 ≤ j → j < 8 → f (10 + 8 * t + j) = 0) ∧ (∀ j, j < lf_k D.1 → f (66 + j) = lf_v D.1 7 j) ∧ (mLw f W 0 (lf_w D.1 0) ∧ mLw f W 1 (lf_w D.1 1)) ∧ f 82 = D.2 ∧ (∀ k, 74 ≤ k → k < 174 → k ≠ 82 → f k = 0) ∧ lf_n D.1 ≤ 8 ∧ lf_k D.1 ≤ 8
theorem mLw.k {f g : Nat → Int32} {W : List Int32} {t : Nat} {w : List Int32} (h : mLw f W t w) (h4 : g (4 + t) = f (4 + t)) (h6 : g (6 + t) = f (6 + t)) (h8 : g (8 + t) = f (8 + t)) : mLw g W t w := by
  unfold mLw
  rw [h4, h6, h8]
  exact h
theorem mLw.app {f : Nat → Int32} {W : List Int32} {t : Nat} {w : List Int32} (h : mLw f W t w) (V : List Int32) : mLw f (W ++ V) t w := by
  refine ⟨h.1, fun hw => ?_⟩
  obtain ⟨fr, a1, a2, a3, a4⟩ := h.2 hw
  refine ⟨fr, a1, a2, by rw [List.length_append]; omega, fun j hj => ?_⟩
  rw [← a4 j hj, List.getD_eq_getElem?_getD, List.getD_eq_getElem?_getD, List.getElem?_append_left (by omega)]
theorem MD.v {d : sk_D} {nn : Nat} {D : DFT} {W : List Int32} (h : MD (d.1 98) nn D W) {t j : Nat} (ht : t < 7) (hj : j < lf_n D.1) (x : Int32) : MD ((sk_uI d 98 (10 + 8 * t + j) x).1 98) nn (sV D.1 t j x, D.2) W := by
  obtain ⟨⟨h0, h1, h2, h3⟩, hv, hz, hk, ⟨w0, w1⟩, hs, h7, hn, hk8⟩ := h
  have n8 : j < 8 := by omega
  refine ⟨⟨by rw [uI_k _ _ _ _ _ (by omega)]; exact h0, by rw [uI_k _ _ _ _ _ (by omega)]; exact h1, by rw [uI_k _ _ _ _ _ (by omega)]; exact h2, by rw [uI_k _ _ _ _ _ (by omega)]; exact h3⟩, fun t' j' ht' hj' => ?_, fun t' j' ht' h1' h2' => ?_, fun j' hj' => ?_, ⟨w0.k (uI_k _ _ _ _ _ (by omega)) (uI_k _ _ _ _ _ (by omega)) (uI_k _ _ _ _ _ (by omega)), w1.k (uI_k _ _ _ _ _ (by omega)) (uI_k _ _ _ _ _ (by omega)) (uI_k _ _ _ _ _ (by omega))⟩, by rw [uI_k _ _ _ _ _ (by omega)]; exact hs, fun k a b c => by rw [uI_k _ _ _ _ _ (by omega)]; exact h7 k a b c, hn, hk8⟩
  · show _ = (if t' = t ∧ j' = j then x else D.1.2.1 t' j')
    have hj2 : j' < 8 := by have : j' < lf_n D.1 := hj'; omega
    by_cases e : t' = t ∧ j' = j
    · rw [if_pos e, e.1, e.2, uI_s]
    · rw [if_neg e, uI_k _ _ _ _ _ (by omega)]; exact hv t' j' ht' hj'
  · have h1'' : lf_n D.1 ≤ j' := h1'
    rw [uI_k _ _ _ _ _ (by omega)]; exact hz t' j' ht' h1' h2'
  · show _ = (if 7 = t ∧ j' = j then x else D.1.2.1 7 j')
    have : j' < lf_k D.1 := hj'
    rw [if_neg (fun a => by omega), uI_k _ _ _ _ _ (by omega)]; exact hk j' hj'
theorem MD.add {d : sk_D} {D : DFT} {W : List Int32} (h : MD (d.1 98) (lf_n D.1) D W) (hn8 : lf_n D.1 < 8) (u : Int32) : MD ((sk_uI (sk_uI (sk_uI d 98 (10 + lf_n D.1) u) 98 (26 + lf_n D.1) 5) 98 (42 + lf_n D.1) 1).1 98) (lf_n D.1) (addD D.1 u, D.2) W := by
  obtain ⟨⟨h0, h1, h2, h3⟩, hv, hz, hk, ⟨w0, w1⟩, hs, h7, hn, hk8⟩ := h
  have o : ∀ k, k ≠ 10 + lf_n D.1 → k ≠ 26 + lf_n D.1 → k ≠ 42 + lf_n D.1 → (sk_uI (sk_uI (sk_uI d 98 (10 + lf_n D.1) u) 98 (26 + lf_n D.1) 5) 98 (42 + lf_n D.1) 1).1 98 k = d.1 98 k := fun k a b c => by rw [uI_k _ _ _ _ _ c, uI_k _ _ _ _ _ b, uI_k _ _ _ _ _ a]
  refine ⟨⟨by rw [o 0 (by omega) (by omega) (by omega)]; exact h0, by rw [o 1 (by omega) (by omega) (by omega)]; exact h1, by rw [o 2 (by omega) (by omega) (by omega)]; exact h2, by rw [o 3 (by omega) (by omega) (by omega)]; exact h3⟩, fun t j ht hj => ?_, fun t j ht hj1 hj2 => ?_, fun j hj => ?_, ⟨w0.k (o _ (by omega) (by omega) (by omega)) (o _ (by omega) (by omega) (by omega)) (o _ (by omega) (by omega) (by omega)), w1.k (o _ (by omega) (by omega) (by omega)) (o _ (by omega) (by omega) (by omega)) (o _ (by omega) (by omega) (by omega))⟩, by rw [o 82 (by omega) (by omega) (by omega)]; exact hs, fun k a b c => by rw [o k (by omega) (by omega) (by omega)]; exact h7 k a b c, by show lf_n D.1 + 1 ≤ 8; omega, hk8⟩
  · have hj' : j < lf_n D.1 + 1 := hj
    show _ = (if j = lf_n D.1 ∧ t < 7 then (if t = 0 then u else if t = 2 then 5 else if t = 4 then 1 else 0) else D.1.2.1 t j)
    by_cases e : j = lf_n D.1
    · rw [if_pos ⟨e, ht⟩, e]
      by_cases t0 : t = 0
      · rw [if_pos t0, t0, uI_k _ _ _ _ _ (by omega), uI_k _ _ _ _ _ (by omega), show 10 + 8 * 0 + lf_n D.1 = 10 + lf_n D.1 by omega, uI_s]
      · rw [if_neg t0]
        by_cases t2 : t = 2
        · rw [if_pos t2, t2, uI_k _ _ _ _ _ (by omega), show 10 + 8 * 2 + lf_n D.1 = 26 + lf_n D.1 by omega, uI_s]
        · rw [if_neg t2]
          by_cases t4 : t = 4
          · rw [if_pos t4, t4, show 10 + 8 * 4 + lf_n D.1 = 42 + lf_n D.1 by omega, uI_s]
          · rw [if_neg t4, o _ (by omega) (by omega) (by omega)]; exact hz t (lf_n D.1) ht (Nat.le_refl _) hn8
    · rw [if_neg (fun a => e a.1), o _ (by omega) (by omega) (by omega)]; exact hv t j ht (by omega)
  · have hj1' : lf_n D.1 + 1 ≤ j := hj1
    rw [o _ (by omega) (by omega) (by omega)]; exact hz t j ht (by omega) hj2
  · have : j < lf_k D.1 := hj
    show _ = (if j = lf_n D.1 ∧ 7 < 7 then _ else D.1.2.1 7 j)
    rw [if_neg (fun a => by omega), o _ (by omega) (by omega) (by omega)]; exact hk j hj
theorem MD.one {d : sk_D} {nn : Nat} {D : DFT} {W : List Int32} (h : MD (d.1 98) nn D W) (m : Nat) : MD ((sk_uI d 98 1 (nI m)).1 98) m D W := by
  obtain ⟨⟨h0, h1, h2, h3⟩, hv, hz, hk, ⟨w0, w1⟩, hs, h7, hn, hk8⟩ := h
  exact ⟨⟨by rw [uI_k _ _ _ _ _ (by omega)]; exact h0, uI_s _ _ _ _, by rw [uI_k _ _ _ _ _ (by omega)]; exact h2, by rw [uI_k _ _ _ _ _ (by omega)]; exact h3⟩, fun t j ht hj => by rw [uI_k _ _ _ _ _ (by omega)]; exact hv t j ht hj, fun t j ht a b => by rw [uI_k _ _ _ _ _ (by omega)]; exact hz t j ht a b, fun j hj => by rw [uI_k _ _ _ _ _ (by omega)]; exact hk j hj, ⟨w0.k (uI_k _ _ _ _ _ (by omega)) (uI_k _ _ _ _ _ (by omega)) (uI_k _ _ _ _ _ (by omega)), w1.k (uI_k _ _ _ _ _ (by omega)) (uI_k _ _ _ _ _ (by omega)) (uI_k _ _ _ _ _ (by omega))⟩, by rw [uI_k _ _ _ _ _ (by omega)]; exact hs, fun k a b c => by rw [uI_k _ _ _ _ _ (by omega)]; exact h7 k a b c, hn, hk8⟩
theorem MD.line {d : sk_D} {nn : Nat} {D : DFT} {W : List Int32} (h : MD (d.1 98) nn D W) : MD ((sk_uI d 98 0 (lf_lines D.1 + 1)).1 98) nn (addL D) W := by
  obtain ⟨⟨h0, h1, h2, h3⟩, hv, hz, hk, ⟨w0, w1⟩, hs, h7, hn, hk8⟩ := h
  exact ⟨⟨uI_s _ _ _ _, by rw [uI_k _ _ _ _ _ (by omega)]; exact h1, by rw [uI_k _ _ _ _ _ (by omega)]; exact h2, by rw [uI_k _ _ _ _ _ (by omega)]; exact h3⟩, fun t j ht hj => by rw [uI_k _ _ _ _ _ (by omega)]; exact hv t j ht hj, fun t j ht a b => by rw [uI_k _ _ _ _ _ (by omega)]; exact hz t j ht a b, fun j hj => by rw [uI_k _ _ _ _ _ (by omega)]; exact hk j hj, ⟨w0.k (uI_k _ _ _ _ _ (by omega)) (uI_k _ _ _ _ _ (by omega)) (uI_k _ _ _ _ _ (by omega)), w1.k (uI_k _ _ _ _ _ (by omega)) (uI_k _ _ _ _ _ (by omega)) (uI_k _ _ _ _ _ (by omega))⟩, by rw [uI_k _ _ _ _ _ (by omega)]; exact hs, fun k a b c => by rw [uI_k _ _ _ _ _ (by omega)]; exact h7 k a b c, hn, hk8⟩
theorem MD.slip {d : sk_D} {nn : Nat} {D : DFT} {W : List Int32} (h : MD (d.1 98) nn D W) (u : Int32) : MD ((sk_uI d 98 82 u).1 98) nn (D.1, u) W := by
  obtain ⟨⟨h0, h1, h2, h3⟩, hv, hz, hk, ⟨w0, w1⟩, hs, h7, hn, hk8⟩ := h
  exact ⟨⟨by rw [uI_k _ _ _ _ _ (by omega)]; exact h0, by rw [uI_k _ _ _ _ _ (by omega)]; exact h1, by rw [uI_k _ _ _ _ _ (by omega)]; exact h2, by rw [uI_k _ _ _ _ _ (by omega)]; exact h3⟩, fun t j ht hj => by rw [uI_k _ _ _ _ _ (by have : j < lf_n D.1 := hj; omega)]; exact hv t j ht hj, fun t j ht a b => by rw [uI_k _ _ _ _ _ (by omega)]; exact hz t j ht a b, fun j hj => by rw [uI_k _ _ _ _ _ (by have : j < lf_k D.1 := hj; omega)]; exact hk j hj, ⟨w0.k (uI_k _ _ _ _ _ (by omega)) (uI_k _ _ _ _ _ (by omega)) (uI_k _ _ _ _ _ (by omega)), w1.k (uI_k _ _ _ _ _ (by omega)) (uI_k _ _ _ _ _ (by omega)) (uI_k _ _ _ _ _ (by omega))⟩, uI_s _ _ _ _, fun k a b c => by rw [uI_k _ _ _ _ _ c]; exact h7 k a b c, hn, hk8⟩
theorem MD.room {d : sk_D} {nn : Nat} {D : DFT} {W : List Int32} (h : MD (d.1 98) nn D W) (u : Int32) : MD ((sk_uI d 98 3 u).1 98) nn (((lf_n D.1, lf_k D.1, u, lf_lines D.1), D.1.2), D.2) W := by
  obtain ⟨⟨h0, h1, h2, h3⟩, hv, hz, hk, ⟨w0, w1⟩, hs, h7, hn, hk8⟩ := h
  exact ⟨⟨by rw [uI_k _ _ _ _ _ (by omega)]; exact h0, by rw [uI_k _ _ _ _ _ (by omega)]; exact h1, by rw [uI_k _ _ _ _ _ (by omega)]; exact h2, uI_s _ _ _ _⟩, fun t j ht hj => by rw [uI_k _ _ _ _ _ (by omega)]; exact hv t j ht hj, fun t j ht a b => by rw [uI_k _ _ _ _ _ (by omega)]; exact hz t j ht a b, fun j hj => by rw [uI_k _ _ _ _ _ (by omega)]; exact hk j hj, ⟨w0.k (uI_k _ _ _ _ _ (by omega)) (uI_k _ _ _ _ _ (by omega)) (uI_k _ _ _ _ _ (by omega)), w1.k (uI_k _ _ _ _ _ (by omega)) (uI_k _ _ _ _ _ (by omega)) (uI_k _ _ _ _ _ (by omega))⟩, by rw [uI_k _ _ _ _ _ (by omega)]; exact hs, fun k a b c => by rw [uI_k _ _ _ _ _ (by omega)]; exact h7 k a b c, hn, hk8⟩
theorem MD.door {d : sk_D} {nn : Nat} {D : DFT} {W : List Int32} (h : MD (d.1 98) nn D W) (hk7 : lf_k D.1 < 8) (u : Int32) : MD ((sk_uI (sk_uI d 98 (66 + lf_k D.1) u) 98 2 (nI (lf_k D.1 + 1))).1 98) nn (addK D.1 u, D.2) W := by
  obtain ⟨⟨h0, h1, h2, h3⟩, hv, hz, hk, ⟨w0, w1⟩, hs, h7, hn, hk8⟩ := h
  have o : ∀ k, k ≠ 66 + lf_k D.1 → k ≠ 2 → (sk_uI (sk_uI d 98 (66 + lf_k D.1) u) 98 2 (nI (lf_k D.1 + 1))).1 98 k = d.1 98 k := fun k a b => by rw [uI_k _ _ _ _ _ b, uI_k _ _ _ _ _ a]
  refine ⟨⟨by rw [o 0 (by omega) (by omega)]; exact h0, by rw [o 1 (by omega) (by omega)]; exact h1, uI_s _ _ _ _, by rw [o 3 (by omega) (by omega)]; exact h3⟩, fun t j ht hj => ?_, fun t j ht a b => ?_, fun j hj => ?_, ⟨w0.k (o _ (by omega) (by omega)) (o _ (by omega) (by omega)) (o _ (by omega) (by omega)), w1.k (o _ (by omega) (by omega)) (o _ (by omega) (by omega)) (o _ (by omega) (by omega))⟩, by rw [o 82 (by omega) (by omega)]; exact hs, fun k a b c => by rw [o k (by omega) (by omega)]; exact h7 k a b c, hn, by show lf_k D.1 + 1 ≤ 8; omega⟩
  · show _ = (if t = 7 ∧ j = lf_k D.1 then u else D.1.2.1 t j)
    have : j < lf_n D.1 := hj
    rw [if_neg (fun a => by omega), o _ (by omega) (by omega)]; exact hv t j ht hj
  · rw [o _ (by omega) (by omega)]; exact hz t j ht a b
  · have hj' : j < lf_k D.1 + 1 := hj
    show _ = (if 7 = 7 ∧ j = lf_k D.1 then u else D.1.2.1 7 j)
    by_cases e : j = lf_k D.1
    · rw [if_pos ⟨rfl, e⟩, e, uI_k _ _ _ _ _ (by omega), uI_s]
    · rw [if_neg (fun a => e a.2), o _ (by omega) (by omega)]; exact hk j (by omega)
