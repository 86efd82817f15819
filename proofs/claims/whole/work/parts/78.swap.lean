/-! colours in order lose nothing -/
def swp (a b : Nat) (v : Int32) : Int32 := if v = nI a then nI b else if v = nI b then nI a else v
theorem swp_inj (a b : Nat) {v w : Int32} (h : swp a b v = swp a b w) : v = w := by
  unfold swp at h
  repeat' split at h
  all_goals simp_all
theorem cen_swap {L : LF} {D : Int32} {k r j a b : Nat} {c f : Nat → Int32} (ha : a < k) (hb : b < k) (hk : k ≤ 9) (na : ∀ e, e < j → c e ≠ nI a) (nb : ∀ e, e < j → c e ≠ nI b) (h : cen L D k r (j + 1) (ucf c j (nI a)) f) : cen L D k r (j + 1) (ucf c j (nI b)) (fun e => swp a b (f e)) := by
  obtain ⟨h1, h2⟩ := h
  have m1 : ∀ x, x < 9 → (-1 : Int32) ≠ nI x := by decide
  refine ⟨fun e he => ?_, fun i hi1 hi2 => ⟨fun hd => ?_, fun hd => ?_⟩⟩
  · show swp a b (f e) = _
    rw [h1 e he]
    by_cases ej : e = j
    · rw [ej, ucf_s, ucf_s]; exact if_pos rfl
    · rw [ucf_o _ _ ej, ucf_o _ _ ej]
      unfold swp
      rw [if_neg (na e (by omega)), if_neg (nb e (by omega))]
  · obtain ⟨col, hc, e1, e2⟩ := (h2 i hi1 hi2).1 hd
    have x : ∃ col', col' < k ∧ swp a b (nI col) = nI col' := by
      unfold swp
      split
      · exact ⟨b, hb, rfl⟩
      · split
        · exact ⟨a, ha, rfl⟩
        · exact ⟨col, hc, rfl⟩
    obtain ⟨col', c1, c2⟩ := x
    refine ⟨col', c1, by show swp a b (f i) = _; rw [e1]; exact c2, fun e he hv => ?_⟩
    have hv2 : swp a b (f e) = swp a b (nI col) := by rw [c2]; exact hv
    exact e2 e he (swp_inj a b hv2)
  · show swp a b (f i) = -1
    rw [(h2 i hi1 hi2).2 hd]
    unfold swp
    rw [if_neg (m1 a (by omega)), if_neg (m1 b (by omega))]
theorem sq_sr (L : LF) (D : Int32) {k : Nat} (hk : k ≤ 9) : ∀ r j u c, (∀ e, e < j → ∀ x, u ≤ x → x < k → c e ≠ nI x) → sq L D k r j u c = sr L D k r j c
  | 0, _, _, _, _ => rfl
  | r + 1, j, u, c, hp => by
    rw [show sr L D k (r + 1) j c = if bt D j = true then tr (fun col => @ite _ (cnl L c j (nI col)) (Classical.propDecidable _) (sr L D k r (j + 1) (ucf c j (nI col))) none) k else sr L D k r (j + 1) (ucf c j (-1)) from rfl,
      show sq L D k (r + 1) j u c = if bt D j = true then tr (fun col => @ite _ (cnl L c j (nI col)) (Classical.propDecidable _) (sq L D k r (j + 1) (max u (col + 1)) (ucf c j (nI col))) none) (min (u + 1) k) else sq L D k r (j + 1) u (ucf c j (-1)) from rfl]
    have m1 : ∀ x, x < 9 → (-1 : Int32) ≠ nI x := by decide
    by_cases b : bt D j = true
    · rw [if_pos b, if_pos b]
      have e1 : tr (fun col => @ite _ (cnl L c j (nI col)) (Classical.propDecidable _) (sq L D k r (j + 1) (max u (col + 1)) (ucf c j (nI col))) none) (min (u + 1) k) = tr (fun col => @ite _ (cnl L c j (nI col)) (Classical.propDecidable _) (sr L D k r (j + 1) (ucf c j (nI col))) none) (min (u + 1) k) := by
        apply tr_cong
        intro col hc
        rw [sq_sr L D hk r (j + 1) (max u (col + 1)) (ucf c j (nI col))]
        intro e he x hx1 hx2
        by_cases ej : e = j
        · rw [ej, ucf_s]; intro a; rw [nI_eq (by omega) (by omega)] at a; omega
        · rw [ucf_o _ _ ej]; exact hp e (by omega) x (by omega) hx2
      rw [e1]
      rcases Nat.lt_or_ge (u + 1) k with q | q
      · rw [Nat.min_eq_left (by omega)]
        cases t : tr (fun col => @ite _ (cnl L c j (nI col)) (Classical.propDecidable _) (sr L D k r (j + 1) (ucf c j (nI col))) none) (u + 1) with
        | some x =>
          have := tr_some t (k - (u + 1))
          rw [show u + 1 + (k - (u + 1)) = k by omega] at this
          exact this.symm
        | none =>
          have n := tr_none t
          have nu := n u (by omega)
          rw [if_pos (show cnl L c j (nI u) from fun e he hv => absurd hv (hp e he u (Nat.le_refl _) (by omega)))] at nu
          refine (tr_no (fun i hi => ?_)).symm
          rcases Nat.lt_or_ge i (u + 1) with w | w
          · exact n i w
          · split
            · cases s : sr L D k r (j + 1) (ucf c j (nI i)) with
              | none => rfl
              | some x =>
                exfalso
                obtain ⟨f, hf⟩ := (sr_cen L D k r (j + 1) _).mp (by rw [s]; rfl)
                have g := (sr_cen L D k r (j + 1) (ucf c j (nI u))).mpr ⟨_, cen_swap hi (show u < k by omega) hk (fun e he => hp e he i (by omega) hi) (fun e he => hp e he u (Nat.le_refl _) (by omega)) hf⟩
                rw [nu] at g
                exact absurd g (by decide)
            · rfl
      · rw [Nat.min_eq_right q]
    · rw [if_neg b, if_neg b]
      apply sq_sr L D hk r (j + 1) u
      intro e he x hx1 hx2
      by_cases ej : e = j
      · rw [ej, ucf_s]; exact m1 x (by omega)
      · rw [ucf_o _ _ ej]; exact hp e (by omega) x hx1 hx2
