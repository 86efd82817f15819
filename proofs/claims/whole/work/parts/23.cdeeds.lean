/-! the class: room, needs, laws, deeds -/
theorem cL.fr {d e : sk_D} {L : LF} (hc : cL d 3 L) (h : Fr scr d e) : cL e 3 L := by
  obtain ⟨h0, h1, h2, h4, hv, hdo, ⟨hw0, hw0'⟩, ⟨hw1, hw1'⟩⟩ := hc
  have f : ∀ b, (b ≠ 14 ∧ b ≠ 17 ∧ b ≠ 18 ∧ b ≠ 19 ∧ b ≠ 20) → e.1 b = d.1 b := fun b hb => h.i (by unfold scr; omega)
  refine ⟨?_, ?_, ?_, ?_, ?_, ?_, ⟨?_, ?_⟩, ⟨?_, ?_⟩⟩
  · rw [f 3 (by omega)]; exact h0
  · rw [f 3 (by omega)]; exact h1
  · rw [f 3 (by omega)]; exact h2
  · rw [f 3 (by omega)]; exact h4
  · intro t j ht hj; rw [f (3 + 1 + t) (by omega)]; exact hv t j ht hj
  · intro j hj; rw [f (3 + 8) (by omega)]; exact hdo j hj
  · rw [f (3 + 9) (by omega)]; exact hw0
  · intro j hj; rw [f (3 + 9 + 1) (by omega)]; exact hw0' j hj
  · rw [f (3 + 12) (by omega)]; exact hw1
  · intro j hj; rw [f (3 + 12 + 1) (by omega)]; exact hw1' j hj
theorem c_room {S : sk_S} {d : sk_D} {L : LF} (hS : Sh S) (hk : okL L) (hc : cL d 3 L) (set : Int32) : fX2_roomLeft S d 3 set = some (rl L set) := by
  obtain ⟨h0, h1, h2, h4, hv, hdo, hw0, hw1⟩ := hc
  have hn := hk.1
  unfold fX2_roomLeft
  have e : sk_itr (fX2_roomLeft_L7 S d 3 set) (lf_room L, (0 : Int32)) = some (rl L set) := by
    have e := it_eq (body := fX2_roomLeft_L7 S d 3 set) (fun k => (lf_room L - s3 (fun j => if bt set j = true then lf_v L 0 j else 0) k, nI k)) (lf_n L) (rl L set) ?_ ?_
    · simpa [s3, nI_0] using e
    · intro k hkn
      have hx : ¬ lf_n L ≤ k := by omega
      unfold fX2_roomLeft_L7
      dsimp only
      simp (disch := omega) only [Option.bind_some, ↓reduceIte, nI_leI, nI_ltI, nI_eq, nI_1, kd3 hS, gi3 hS, pi3 hS, gr3_5 hS, gr3_6 hS, gr3_7 hS, gr3_8 hS, gr3_9 hS, gr3_10 hS, gr3_11 hS, gr3_12 hS, gr3_13 hS, gr3_14 hS, h1, hx, t_1]
      by_cases hb : bt set k = true
      · simp (disch := omega) only [Option.bind_some, ↓reduceIte, nI_leI, nI_ltI, nI_eq, nI_1, kd3 hS, gi3 hS, pi3 hS, gr3_5 hS, gr3_6 hS, gr3_7 hS, gr3_8 hS, gr3_9 hS, gr3_10 hS, gr3_11 hS, gr3_12 hS, gr3_13 hS, gr3_14 hS, li4 hS, hb, s3]
        rw [hv 0 k (by omega) hkn, Int32.sub_sub]
      · simp (disch := omega) only [Option.bind_some, ↓reduceIte, nI_leI, nI_ltI, nI_eq, nI_1, hb, s3]
        simp
    · unfold fX2_roomLeft_L7
      dsimp only
      simp (disch := omega) only [Option.bind_some, ↓reduceIte, nI_leI, nI_ltI, nI_eq, nI_1, kd3 hS, gi3 hS, pi3 hS, gr3_5 hS, gr3_6 hS, gr3_7 hS, gr3_8 hS, gr3_9 hS, gr3_10 hS, gr3_11 hS, gr3_12 hS, gr3_13 hS, gr3_14 hS, h1, Nat.le_refl]
      rfl
  simp (disch := omega) only [Option.bind_some, ↓reduceIte, nI_leI, nI_ltI, nI_eq, nI_1, kd3 hS, gi3 hS, pi3 hS, gr3_5 hS, gr3_6 hS, gr3_7 hS, gr3_8 hS, gr3_9 hS, gr3_10 hS, gr3_11 hS, gr3_12 hS, gr3_13 hS, gr3_14 hS, h0, e]
theorem c_has {S : sk_S} {d : sk_D} {L : LF} (hS : Sh S) (hk : okL L) (hc : cL d 3 L) {j : Nat} (hj : j < 2 ^ 31) : fX2_has S d 3 (nI j) = some (decide (j < lf_n L)) := by
  have h1 := hc.2.1
  have hn := hk.1
  unfold fX2_has
  rw [if_neg (nI_pos hj)]
  simp (disch := omega) only [Option.bind_some, ↓reduceIte, nI_leI, nI_ltI, nI_eq, nI_1, kd3 hS, gi3 hS, pi3 hS, gr3_5 hS, gr3_6 hS, gr3_7 hS, gr3_8 hS, gr3_9 hS, gr3_10 hS, gr3_11 hS, gr3_12 hS, gr3_13 hS, gr3_14 hS, h1]
  by_cases h : j < lf_n L
  · have h2 : ¬ lf_n L ≤ j := by omega
    have h3 : ¬ (8 : Int32) ≤ nI j := nI_ge (b := 8) (by omega) (by omega)
    simp (disch := omega) only [Option.bind_some, ↓reduceIte, nI_leI, nI_ltI, nI_eq, nI_1, h2, h3, h, decide_true]
  · have h2 : lf_n L ≤ j := by omega
    simp (disch := omega) only [Option.bind_some, ↓reduceIte, nI_leI, nI_ltI, nI_eq, nI_1, h2, h, decide_false]
theorem c_needing {S : sk_S} {d : sk_D} {L : LF} (hS : Sh S) (hk : okL L) (hc : cL d 3 L) (done : Int32) {j : Nat} (hj : j < lf_n L) : fX2_needing S d 3 (nI j) done = some (nd L j done) := by
  obtain ⟨h0, h1, h2, h4, hv, hdo, hw0, hw1⟩ := hc
  have hn := hk.1
  unfold fX2_needing
  have e : sk_itr (fX2_needing_L9 S d 3 done) ((1 : Int32) <<< (nI j &&& 31), nI j + 1) = some (nd L j done) := by
    have e := it_eq (body := fX2_needing_L9 S d 3 done) (fun k => (ng L done j k, nI (j + 1 + k))) (lf_n L - (j + 1)) (nd L j done) ?_ ?_
    · rw [nI_1]; exact e
    · intro k hkn
      have hx : ¬ lf_n L ≤ j + 1 + k := by omega
      unfold fX2_needing_L9
      dsimp only
      simp (disch := omega) only [Option.bind_some, ↓reduceIte, nI_leI, nI_ltI, nI_eq, nI_1, kd3 hS, gi3 hS, pi3 hS, gr3_5 hS, gr3_6 hS, gr3_7 hS, gr3_8 hS, gr3_9 hS, gr3_10 hS, gr3_11 hS, gr3_12 hS, gr3_13 hS, gr3_14 hS, h1, hx, t_1]
      by_cases hb : bt done (j + 1 + k) = true
      · simp (disch := omega) only [Option.bind_some, ↓reduceIte, nI_leI, nI_ltI, nI_eq, nI_1, kd3 hS, gi3 hS, pi3 hS, gr3_5 hS, gr3_6 hS, gr3_7 hS, gr3_8 hS, gr3_9 hS, gr3_10 hS, gr3_11 hS, gr3_12 hS, gr3_13 hS, gr3_14 hS, li9 hS, hb]
        have h5 := hv 5 (j + 1 + k) (by omega) (by omega)
        rw [show (3 + 1 + 5 : Nat) = 9 from rfl] at h5
        rw [h5]
        by_cases hz : (lf_v L 5 (j + 1 + k) &&& ng L done j k) = 0
        · rw [if_pos hz, ng, if_neg (by simp [hz])]; rfl
        · rw [if_neg hz, ng, if_pos ⟨hb, hz⟩]; rfl
      · simp (disch := omega) only [Option.bind_some, ↓reduceIte, nI_leI, nI_ltI, nI_eq, nI_1, hb, ng]
        simp
        rfl
    · unfold fX2_needing_L9
      dsimp only
      have hx : lf_n L ≤ j + 1 + (lf_n L - (j + 1)) := by omega
      simp (disch := omega) only [Option.bind_some, ↓reduceIte, nI_leI, nI_ltI, nI_eq, nI_1, kd3 hS, gi3 hS, pi3 hS, gr3_5 hS, gr3_6 hS, gr3_7 hS, gr3_8 hS, gr3_9 hS, gr3_10 hS, gr3_11 hS, gr3_12 hS, gr3_13 hS, gr3_14 hS, h1, hx]
      rfl
  rw [e]; rfl
