/-! linings, on both sides -/
def cfr (b : Nat) : Prop := 45 ≤ b ∧ b ≤ 49
theorem RC.cfr {S : sk_S} {d e : sk_D} {A : AS} (h : RC S d A) (f : Fr cfr d e) : RC S e A := by
  have fi : ∀ b, ¬ (45 ≤ b ∧ b ≤ 49) → e.1 b = d.1 b := fun b hb => f.i hb
  have fj : ∀ b, ¬ (45 ≤ b ∧ b ≤ 49) → e.2 b = d.2 b := fun b hb => f.j hb
  obtain ⟨⟨hS, hk, hc, hK⟩, hp, ht, hf, hr, hi, hw⟩ := h
  refine ⟨⟨hS, hk, hc.same (fun b _ _ _ => fi b (by omega)), hK.fr (fi 18 (by omega)) (fi 19 (by omega))⟩, ?_, ?_, ?_, ?_, ?_, ?_⟩
  · unfold rcP; rw [fi 50 (by omega), fi 51 (by omega)]; exact hp
  · unfold rcT; rw [fi 1 (by omega), fi 55 (by omega)]; exact ht
  · rw [fi 21 (by omega)]; exact hf
  · intro t h4; exact (hr t h4).same (fi _ (by omega)) (fj _ (by omega))
  · intro i h2; exact (hi i h2).same h2 (fun b _ => fi b (by omega))
  · exact hw.same (fun b hb => fi b (by omega))
theorem cfr_cls {d e : sk_D} (f : Fr cfr d e) : Fr cls d e := f.mono (fun b hb => by unfold CStubKeepLaw_law_r1379_07d26a.cfr at hb; unfold cls; omega)
theorem RM.free {S : sk_S} {d e : sk_D} {A : AS} (h : RM S d A) (hA : okA A) (f : Fr mfree d e) : RM S e A := by
  have e95 : e.1 95 = d.1 95 := f.i (by unfold mfree; omega)
  exact RM.keep h (mfr.of f) (fun k _ _ => by rw [e95]) (by rw [e95]; exact h.2.1.1) hA.2.2.2.1
noncomputable def lg (L : LF) (D : Int32) (k : Nat) : Option (Nat × (Nat → Int32)) := (sr L D k (lf_n L) 0 (fun _ => 0)).map (fun f => (k, f))
noncomputable def lres (L : LF) (D : Int32) : Option (Nat × (Nat → Int32)) := tr (lg L D) 9
theorem lg_8 {L : LF} (hk : okL L) (D : Int32) : lg L D 8 ≠ none := by
  have hn := hk.1
  intro h
  have g : (sr L D 8 (lf_n L) 0 (fun _ => 0)).isSome = true := (sr_cen L D 8 (lf_n L) 0 _).mpr ⟨fun e => if bt D e = true then nI e else -1, fun e he => by omega, fun i h1 h2 => ⟨fun b => ⟨i, by omega, if_pos b, fun e he hv => ?_⟩, fun b => if_neg (by rw [b]; decide)⟩⟩
  · unfold lg at h
    cases t : sr L D 8 (lf_n L) 0 (fun _ => 0) with
    | none => rw [t] at g; exact absurd g (by decide)
    | some f => rw [t] at h; exact absurd h (by simp)
  · dsimp only at hv
    split at hv
    · rw [nI_eq (by omega) (by omega)] at hv; omega
    · exact absurd hv ((by decide : ∀ x, x < 9 → (-1 : Int32) ≠ nI x) i (by omega))
theorem lg_step {L : LF} {D : Int32} {k : Nat} (hk : k ≤ 8) (h : tr (lg L D) k = none) : (sr L D k (lf_n L) 0 (fun _ => 0) = none → tr (lg L D) (k + 1) = none) ∧ ∀ f, sr L D k (lf_n L) 0 (fun _ => 0) = some f → lres L D = some (k, f) := by
  refine ⟨fun a => by rw [tr_s h]; unfold lg; rw [a]; rfl, fun f a => ?_⟩
  have e : tr (lg L D) (k + 1) = some (k, f) := by rw [tr_s h]; unfold lg; rw [a]; rfl
  have := tr_some e (9 - (k + 1))
  rw [show k + 1 + (9 - (k + 1)) = 9 by omega] at this
  exact this
theorem c_part {S : sk_S} {d : sk_D} {L : LF} (hS : Sh S) (hk : okL L) (hc : cL d 3 L) {D : Int32} (hD : ∀ i, lf_n L ≤ i → i < 32 → bt D i = false) : ∃ k f d', lres L D = some (k, f) ∧ fX0_part S d 48 3 D = some (nI k, d') ∧ Fr (fun b => b = 49) d d' ∧ ∀ i, i < lf_n L → d'.1 49 i = f i := by
  have hn := hk.1
  have step : ∀ k (s : Int32 × sk_D), k ≤ 8 → (s.1 = nI k ∧ Fr (fun b => b = 49) d s.2 ∧ tr (lg L D) k = none) → (∃ s1, fX0_part_L2 S 48 3 D s = some (.inl s1) ∧ (s1.1 = nI (k + 1) ∧ Fr (fun b => b = 49) d s1.2 ∧ tr (lg L D) (k + 1) = none)) ∨ (∃ e, fX0_part_L2 S 48 3 D s = some (.inr e) ∧ ∃ k f, lres L D = some (k, f) ∧ e.1 = nI k ∧ Fr (fun b => b = 49) d e.2 ∧ ∀ i, i < lf_n L → e.2.1 49 i = f i) := by
    intro k s hk8 ⟨i1, i2, i3⟩
    obtain ⟨b, d', h1, h2, h3, h4⟩ := c_place hS hk hk8 hD (lf_n L) 0 0 (fun _ => 0) 100 s.2 (by omega) (by omega) (by omega) (hc.same (fun b _ _ _ => i2.i (by omega))) (fun e he => by omega)
    rw [sq_sr L D (by omega) (lf_n L) 0 0 (fun _ => 0) (fun e he => by omega)] at h3 h4
    obtain ⟨l1, l2⟩ := lg_step hk8 i3
    unfold fX0_part_L2 fX0_place
    rw [i1, if_neg (show ¬ (8 : Int32) < nI k by rw [show (8 : Int32) = nI 8 from rfl, nI_ltI (by omega) (by omega)]; omega), gr48_0 hS, Option.bind_some, show (0 : Int32) = nI 0 from rfl, h1, Option.bind_some]
    dsimp only
    cases t : sr L D k (lf_n L) 0 (fun _ => 0) with
    | none =>
      left
      rw [(h3 t).1, if_neg (by decide), nI_1]
      exact ⟨_, rfl, rfl, i2.trans h2, l1 t⟩
    | some f =>
      right
      obtain ⟨g1, g2⟩ := h4 f t
      rw [g1, if_pos rfl]
      exact ⟨_, rfl, k, f, l2 f t, rfl, i2.trans h2, g2⟩
  have loop := it_for (body := fX0_part_L2 S 48 3 D) (fun k s => s.1 = nI k ∧ Fr (fun b => b = 49) d s.2 ∧ tr (lg L D) k = none) 8 (fun e => ∃ k f, lres L D = some (k, f) ∧ e.1 = nI k ∧ Fr (fun b => b = 49) d e.2 ∧ ∀ i, i < lf_n L → e.2.1 49 i = f i) (fun k s hkk hi => step k s (by omega) hi) ?_ (s := ((0 : Int32), d)) ⟨rfl, Fr.refl _ _, rfl⟩
  · obtain ⟨e, he, k, f, e1, e2, e3, e4⟩ := loop
    refine ⟨k, f, e.2, e1, ?_, e3, e4⟩
    unfold fX0_part
    rw [he, Option.bind_some, ← e2]
  · intro s hi
    rcases step 8 s (Nat.le_refl _) hi with ⟨s1, -, -, -, a⟩ | a
    · rw [tr_s hi.2.2] at a; exact absurd a (lg_8 hk D)
    · exact a
theorem m_partL {S : sk_S} {d : sk_D} {A : AS} (h : RM S d A) (hA : okA A) : ∃ k f d', lres (as_L A) (dn (as_m A)) = some (k, f) ∧ sk_itr (fX11_linings_L18 S 94) ((0 : Int32), d) = some (nI k, d') ∧ Fr (fun b => b = 112) d d' ∧ ∀ i, i < lf_n (as_L A) → d'.1 112 i = f i := by
  have hS := h.1.1
  have hk := hA.1
  have hn := hk.1
  have step : ∀ k (s : Int32 × sk_D), k ≤ 8 → (s.1 = nI k ∧ Fr (fun b => b = 112) d s.2 ∧ tr (lg (as_L A) (dn (as_m A))) k = none) → (∃ s1, fX11_linings_L18 S 94 s = some (.inl s1) ∧ (s1.1 = nI (k + 1) ∧ Fr (fun b => b = 112) d s1.2 ∧ tr (lg (as_L A) (dn (as_m A))) (k + 1) = none)) ∨ (∃ e, fX11_linings_L18 S 94 s = some (.inr e) ∧ ∃ k f, lres (as_L A) (dn (as_m A)) = some (k, f) ∧ e.1 = nI k ∧ Fr (fun b => b = 112) d e.2 ∧ ∀ i, i < lf_n (as_L A) → e.2.1 112 i = f i) := by
    intro k s hk8 ⟨i1, i2, i3⟩
    have r := RM.free h hA (i2.mono (fun b hb => by unfold mfree; omega))
    obtain ⟨b, d', h1, h2, h3, h4⟩ := m_laysC (m := as_m A) hk8 (lf_n (as_L A)) 0 (fun _ => 0) 100 s.2 (by omega) (by omega) r.1 r.2.1.1.1 (fun e he => by omega)
    obtain ⟨l1, l2⟩ := lg_step hk8 i3
    unfold fX11_linings_L18 fX11_lays
    rw [i1, if_pos (kd94 hS), show (0 : Int32) = nI 0 from rfl, h1, Option.bind_some]
    dsimp only
    cases t : sr (as_L A) (dn (as_m A)) k (lf_n (as_L A)) 0 (fun _ => 0) with
    | none =>
      left
      rw [(h3 t).1, if_neg (by decide), nI_1]
      exact ⟨_, rfl, rfl, i2.trans h2, l1 t⟩
    | some f =>
      right
      obtain ⟨g1, g2⟩ := h4 f t
      rw [g1, if_pos rfl]
      exact ⟨_, rfl, k, f, l2 f t, rfl, i2.trans h2, g2⟩
  have loop := it_for (body := fX11_linings_L18 S 94) (fun k s => s.1 = nI k ∧ Fr (fun b => b = 112) d s.2 ∧ tr (lg (as_L A) (dn (as_m A))) k = none) 8 (fun e => ∃ k f, lres (as_L A) (dn (as_m A)) = some (k, f) ∧ e.1 = nI k ∧ Fr (fun b => b = 112) d e.2 ∧ ∀ i, i < lf_n (as_L A) → e.2.1 112 i = f i) (fun k s hkk hi => step k s (by omega) hi) ?_ (s := ((0 : Int32), d)) ⟨rfl, Fr.refl _ _, rfl⟩
  · obtain ⟨e, he, k, f, e1, e2, e3, e4⟩ := loop
    exact ⟨k, f, e.2, e1, by rw [he, ← e2], e3, e4⟩
  · intro s hi
    rcases step 8 s (Nat.le_refl _) hi with ⟨s1, -, -, -, a⟩ | a
    · rw [tr_s hi.2.2] at a; exact absurd a (lg_8 hk _)
    · exact a
noncomputable def lq (A : AS) : Nat × (Nat → Int32) := (lres (as_L A) (dn (as_m A))).getD (0, fun _ => 0)
noncomputable def x_linings (A : AS) (p : Int32) : Int32 := if p = 0 then nI (lq A).1 else if p < 10 then -2 else if inN (lf_n (as_L A)) (p - 10) then (lq A).2 (p - 10).toNatClampNeg else -2
theorem c_linings {S : sk_S} {d : sk_D} {A : AS} (h : RC S d A) (hA : okA A) (p : Int32) : ∃ d', fX10_linings S d 1 p = some (x_linings A p, d') ∧ RC S d' A ∧ Fr cls d d' := by
  have hS := h.1.1
  have hk := hA.1
  have hn := hk.1
  have hc := h.1.2.2.1
  obtain ⟨k, f, d', e1, e2, e3, e4⟩ := c_part hS hk hc (dn_n hA.2.1)
  have f3 : Fr CStubKeepLaw_law_r1379_07d26a.cfr d d' := e3.mono (fun b hb => by unfold CStubKeepLaw_law_r1379_07d26a.cfr; omega)
  have r : RC S d' A ∧ Fr cls d d' := ⟨h.cfr f3, cfr_cls f3⟩
  have eq : lq A = (k, f) := by unfold lq; rw [e1]; rfl
  have j30 : ∀ v, (p = 0 → v = nI k) → (p ≠ 0 → ∃ j, j < lf_n (as_L A) ∧ p - 10 = nI j ∧ v = f j) → fX10_linings_J30 S 1 p d = some (v, d') := by
    intro v hv0 hv
    unfold fX10_linings_J30
    rw [gr1_4 hS, Option.bind_some, gr1_0 hS, Option.bind_some, gr2_0 hS, Option.bind_some, gr1_5 hS, Option.bind_some, gi50 hS, Option.bind_some, h.2.1.1, f_dn, Option.bind_some, if_pos (kd48 hS), e2, Option.bind_some]
    dsimp only
    by_cases q0 : p = 0
    · rw [if_pos q0, hv0 q0]
    · obtain ⟨j, hj, ej, ev⟩ := hv q0
      rw [if_neg q0, Option.bind_some, if_pos (kd48 hS), ej]
      unfold fX0_liningOf
      rw [if_neg (show ¬ nI j < 0 by rw [show (0 : Int32) = nI 0 from rfl, nI_ltI (by omega) (by omega)]; omega), if_neg (show ¬ (8 : Int32) ≤ nI j from nI_ge (b := 8) (by omega) (by omega)), gr48_0 hS, Option.bind_some, li49 hS _ (show j < 8 by omega), Option.bind_some, Option.bind_some, e4 j hj, ev]
  unfold fX10_linings x_linings
  rw [eq]
  by_cases q0 : p = 0
  · rw [if_pos q0, if_pos q0, j30 _ (fun _ => rfl) (fun a => absurd q0 a)]
    exact ⟨d', rfl, r⟩
  · rw [if_neg q0, if_neg q0]
    by_cases q1 : p < 10
    · rw [if_pos q1, if_pos q1]
      exact ⟨d, rfl, h, Fr.refl _ _⟩
    · rw [if_neg q1, if_neg q1, gr1_0 hS, Option.bind_some, gr2_0 hS, Option.bind_some, if_pos (kd3 hS)]
      have hp := c_hasP hS hk hc (p - 10)
      by_cases q : inN (lf_n (as_L A)) (p - 10)
      · obtain ⟨j, hj, ej⟩ := inN_of q
        rw [hp.1 q, Option.bind_some, if_pos rfl, if_pos q, j30 (f j) (fun a => absurd a q0) (fun _ => ⟨j, hj, ej, rfl⟩), ej, nI_clamp (by omega)]
        exact ⟨d', rfl, r⟩
      · rw [hp.2 q, Option.bind_some, if_neg (by decide), if_neg q]
        exact ⟨d, rfl, h, Fr.refl _ _⟩
theorem m_linings {S : sk_S} {d : sk_D} {A : AS} (h : RM S d A) (hA : okA A) (p : Int32) : ∃ d', fX11_linings S d 94 p = some (x_linings A p, d') ∧ RM S d' A ∧ Fr mdl d d' := by
  have hS := h.1.1
  have h0 := h.m0 0
  have hn := hA.1.1
  obtain ⟨k, f, e, e1, e2, e3, e4⟩ := m_partL h0 hA
  have f3 : Fr mfree (sk_uI d 94 0 0) e := e3.mono (fun b hb => by unfold mfree; omega)
  have r : RM S e A ∧ Fr mdl d e := ⟨h0.free hA f3, (mfr0 d 0).2.2.2.2.trans (mfr.of f3).2.2.2.2⟩
  have eq : lq A = (k, f) := by unfold lq; rw [e1]; rfl
  have same : ∀ (v : Int32), ∃ d', (some (v, sk_uI d 94 0 0) : Option (Int32 × sk_D)) = some (v, d') ∧ RM S d' A ∧ Fr mdl d d' := fun v => ⟨_, rfl, h0, (mfr0 d 0).2.2.2.2⟩
  unfold fX11_linings x_linings fX11_isWhat
  rw [pi94 hS, Option.bind_some, if_pos (kd94 hS), eq]
  by_cases q0 : p = 0
  · rw [if_pos q0, if_pos q0, Option.bind_some, if_pos rfl, e2, Option.bind_some, if_pos q0]
    exact ⟨e, rfl, r⟩
  · rw [if_neg q0, if_neg q0]
    by_cases q1 : p < 10
    · rw [if_pos q1, if_pos q1, Option.bind_some, if_neg (by decide)]
      exact same _
    · rw [if_neg q1, if_neg q1, if_pos (kd94 hS)]
      have hp := m_isDoingP h0.1 (p - 10)
      by_cases q : inN (lf_n (as_L A)) (p - 10)
      · obtain ⟨j, hj, ej⟩ := inN_of q
        rw [hp.1 q, Option.bind_some, if_pos rfl, Option.bind_some, if_pos rfl, e2, Option.bind_some, if_neg q0, gr94_33 hS, Option.bind_some, ej, li112 hS _ (show j < 8 by omega), Option.bind_some, if_pos (by rw [← ej]; exact q), nI_clamp (by omega), e4 j hj]
        exact ⟨e, rfl, r⟩
      · rw [hp.2 q, Option.bind_some, if_neg (by decide), Option.bind_some, if_neg (by decide), if_neg q]
        exact same _
