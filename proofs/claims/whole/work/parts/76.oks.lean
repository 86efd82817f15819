/-! what follows is sound -/
theorem x_lists_ok {A : AS} (hA : okA A) (t set : Int32) : okA (x_lists A t set).2 := by
  unfold x_lists
  split
  · exact hA
  · split
    · split
      · next x D hx hd =>
        have := hA.2.2.2.2.2.2.1 _ x hx
        exact aW_ok hA (by rw [wr_len]; exact this.1) this.2
      · exact hA
    · exact hA
theorem x_numbers_ok {A : AS} (hA : okA A) (t s n : Int32) : okA (x_numbers A t s n).2 := by
  unfold x_numbers
  split
  · exact hA
  · next c =>
    split
    · exact hA
    · next c2 =>
      have hs : inN 4 s := Decidable.byContradiction fun a => c (Or.inr a)
      have hn : inN 41 n := Decidable.byContradiction fun a => c2 a
      obtain ⟨z, hz, rfl⟩ := inN_of hs
      obtain ⟨k, hk, rfl⟩ := inN_of hn
      exact aW_ok hA (by rw [List.length_replicate, nI_clamp (by omega)]; omega) ⟨z, hz, rfl⟩
theorem x_write_ok {A : AS} (hA : okA A) (t i : Int32) (v : Int64) : okA (x_write A t i v).2 := by
  unfold x_write
  split
  · exact hA
  · split
    · exact hA
    · next x hx =>
      split
      · have := hA.2.2.2.2.2.2.1 _ x hx
        exact aW_ok hA (by rw [List.length_set]; exact this.1) this.2
      · exact hA
theorem x_perform_ok {A : AS} (hA : okA A) (t : Int32) : okA (x_perform A t).2 := by
  unfold x_perform
  split
  · exact hA
  · split
    · exact hA
    · next x hx =>
      dsimp only
      split
      · exact hA
      · exact hA.goto (ok_mih hA x.2)
theorem x_year_ok {A : AS} (hA : okA A) (seed n : Int32) : okA (x_year A seed n).2 := by
  unfold x_year
  split
  · exact hA
  · dsimp only
    split
    · exact hA
    · exact hA.goto (ok_yr hA.1 hA.2.1 seed _).1
theorem bts_ok (x c : Int32) (h : c ∈ bts x) : ∃ k, k < 256 ∧ c = nI k := by
  unfold bts at h
  simp only [List.mem_cons, List.not_mem_nil, or_false] at h
  rcases h with rfl | rfl | rfl | rfl <;> exact byt_ok _ _
theorem x_feed_ok {A : AS} (hA : okA A) (a b c d e : Int32) : okA (x_feed A a b c d e).2 := by
  unfold x_feed
  split
  · next q =>
    obtain ⟨h1, h2, h3, h4, h5, h6, h7, h8⟩ := hA
    refine ⟨h1, h2, h3, h4, ?_, fun z hz => ?_, h7, h8⟩
    · show ((as_tp A) ++ bts a ++ bts b ++ bts c ++ bts d ++ bts e).length ≤ 900
      simp only [List.length_append, bts_len]
      omega
    · have hz2 : z ∈ (as_tp A) ++ bts a ++ bts b ++ bts c ++ bts d ++ bts e := hz
      simp only [List.mem_append] at hz2
      rcases hz2 with ((((h | h) | h) | h) | h) | h
      · exact h6 z h
      · exact bts_ok _ _ h
      · exact bts_ok _ _ h
      · exact bts_ok _ _ h
      · exact bts_ok _ _ h
      · exact bts_ok _ _ h
  · exact hA
