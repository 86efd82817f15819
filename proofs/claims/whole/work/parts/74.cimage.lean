/-! images, by the class -/
theorem rT53 : ∀ j, j < 2 → rT 53 j = 64 + 15 * j := by decide
theorem LAi {S : sk_S} (h : Sh S) {i : Nat} (hi : i < 2) : LA S (64 + 15 * i) := by
  rcases (by omega : i = 0 ∨ i = 1) with rfl | rfl
  · exact LA64 h
  · exact LA79 h
theorem c_image {S : sk_S} {d : sk_D} {A : AS} (h : RC S d A) (hA : okA A) (p : Int32) : ∃ d', fX10_image S d 1 p = some ((x_image A p).1, d') ∧ RC S d' (x_image A p).2 ∧ Fr cls d d' := by
  have hS := h.1.1
  have ip := in_lt (p := p) (n := 2) (by omega) 2 rfl
  unfold fX10_image x_image
  by_cases q : inN 2 p
  · obtain ⟨i, hi, rfl⟩ := inN_of q
    obtain ⟨e, e1, e2, e3, e4⟩ := c_copyFrom d hA.1 (LAi hS hi) (LA3 hS) (by omega) h.1.2.2.1
    have n54 : ∀ b, b ≠ 54 → (sk_uI e 54 i (as_m A)).1 b = e.1 b := fun b hb => uI_a _ _ _ _ _ hb
    have fi : ∀ b, b ≠ 54 → ¬ (64 + 15 * i ≤ b ∧ b ≤ 64 + 15 * i + 14) → (sk_uI e 54 i (as_m A)).1 b = d.1 b := fun b h1 h2 => by rw [n54 b h1, e2 b h2]
    rw [if_neg (ip.1 q).1, if_pos (ip.1 q).2.2, if_pos q, nI_clamp (by omega), gr1_7 hS, Option.bind_some, lr53 hS hi, Option.bind_some, rT53 i hi, gr1_0 hS, Option.bind_some, gr2_0 hS, Option.bind_some, if_pos (LAi hS hi).1, e1, Option.bind_some, gr1_8 hS, Option.bind_some, gr1_5 hS, Option.bind_some, gi50 hS, Option.bind_some, e2 50 (by omega), h.2.1.1, si54 hS _ _ hi, Option.bind_some]
    refine ⟨_, rfl, ?_, fun b hb => ?_⟩
    · obtain ⟨⟨_, hk, hc, hK⟩, hp, ht, hf, hr, hi2, hw⟩ := h
      refine ⟨⟨hS, hk, hc.same (fun b _ _ _ => fi b (by omega) (by omega)), hK.fr (fi 18 (by omega) (by omega)) (fi 19 (by omega) (by omega))⟩, ?_, ?_, ?_, ?_, ?_, ?_⟩
      · show rcP _ (as_m A) (as_ps A)
        unfold rcP; rw [fi 50 (by omega) (by omega), fi 51 (by omega) (by omega)]; exact hp
      · show rcT _ (as_tp A)
        unfold rcT; rw [fi 1 (by omega) (by omega), fi 55 (by omega) (by omega)]; exact ht
      · rw [fi 21 (by omega) (by omega)]; exact hf
      · intro t h4
        exact (hr t h4).same (fi _ (by omega) (by omega)) (by show e.2 _ = _; rw [e3])
      · intro k hk2
        show cIm _ k (updM (as_im A) i (some (as_L A, as_m A)) k)
        unfold updM
        by_cases c : k = i
        · rw [if_pos c, c]
          exact ⟨uI_s _ _ _ _, e4.same (fun b _ _ _ => n54 b (by omega))⟩
        · rw [if_neg c]
          have := hi2 k hk2
          cases hx : as_im A k with
          | none =>
            rw [hx] at this
            show (sk_uI e 54 i (as_m A)).1 54 k = -1
            rw [uI_k _ _ _ _ _ c, e2 54 (by omega)]; exact this
          | some x =>
            rw [hx] at this
            refine ⟨?_, this.2.same (fun b h1 h2 _ => fi b (by omega) (by omega))⟩
            rw [uI_k _ _ _ _ _ c, e2 54 (by omega)]; exact this.1
      · exact hw.same (fun b hb => fi b (by omega) (by omega))
    · unfold cls at hb
      exact ⟨fi b (by omega) (by omega), by show e.2 _ = _; rw [e3]⟩
  · rw [if_neg q]
    by_cases h0 : p < 0
    · rw [if_pos h0]; exact ⟨d, rfl, h, Fr.refl _ _⟩
    · rw [if_neg h0, if_neg (ip.2 q h0).2]
      exact ⟨d, rfl, h, Fr.refl _ _⟩
