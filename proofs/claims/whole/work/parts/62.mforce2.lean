/-! forcing: the reference's calls -/
theorem RM.scm {S : sk_S} {d e : sk_D} {A : AS} (h : RM S d A) (hl : (as_ps A).length ≤ 10) (f : Fr scm d e) : RM S e A :=
  h.keep (mfr.scm f) (fun k _ _ => by rw [scm95 f]) (by rw [scm95 f]; exact h.2.1.1) hl
theorem RM.ma {S : sk_S} {d : sk_D} {A : AS} (h : RM S d A) (hA : okA A) : MA S d (as_L A) (as_m A) := ⟨h.1, hA.2.1, h.2.1.1.2⟩
theorem m_forcedIn {S : sk_S} {d : sk_D} {A : AS} (h : RM S d A) (hA : okA A) (set : Int32) : ∃ d', fX11_forcedIn S d 94 set = some (toI (fft (as_L A) set (as_m A)), d') ∧ Fr CStubKeepLaw_law_r1379_07d26a.scm d d' := by
  have hS := h.1.1
  unfold fX11_forcedIn
  have loop := it_for (body := fX11_forcedIn_L2 S 94 set) (fun t z => z.1 = nI t ∧ Fr CStubKeepLaw_law_r1379_07d26a.scm d z.2 ∧ ∀ k, k < t → ¬ ff (as_L A) set k (as_m A)) 4
    (fun e => e.1 = toI (fft (as_L A) set (as_m A)) ∧ Fr CStubKeepLaw_law_r1379_07d26a.scm d e.2) ?_ ?_ (s := ((0 : Int32), d)) ⟨rfl, Fr.refl _ _, fun k hk => by omega⟩
  · obtain ⟨e, he, e1, e2⟩ := loop
    exact ⟨e.2, by rw [he, ← e1]; rfl, e2⟩
  · intro t z ht ⟨i1, i2, i3⟩
    have rz := h.scm hA.2.2.2.1 i2
    obtain ⟨r, d1, a1, a2, a3⟩ := (mF_all (S := S) (L := as_L A) (set := set) t (by omega) 100 (by omega)).1 z.2 (as_m A) (rz.ma hA)
    unfold fX11_forcedIn_L2 fX11_forcesFrom
    rw [i1, if_neg (show ¬ (3 : Int32) < nI t from nI_nlt (a := 3) (by omega) (by omega)), if_pos (kd94 hS), m_stand hS rz.2.1.1.1, Option.bind_some, if_pos (kd94 hS), a1, Option.bind_some]
    dsimp only
    cases r with
    | true =>
      right
      rw [if_pos rfl]
      refine ⟨_, rfl, ?_, i2.trans a3⟩
      have : fft (as_L A) set (as_m A) = some t := lst_some ⟨by omega, a2.mp rfl⟩ (fun k hk a => i3 k hk a.2)
      rw [this]; rfl
    | false =>
      left
      rw [if_neg (by decide)]
      refine ⟨_, rfl, nI_1 t, i2.trans a3, fun k hk => ?_⟩
      by_cases c : k = t
      · subst c; intro a; exact absurd (a2.mpr a) (by decide)
      · exact i3 k (by omega)
  · intro z ⟨i1, i2, i3⟩
    unfold fX11_forcedIn_L2
    rw [i1, if_pos (show (3 : Int32) < nI 4 by decide)]
    refine ⟨_, rfl, ?_, i2⟩
    have : fft (as_L A) set (as_m A) = none := lst_none (fun k a => i3 k (by omega) a.2)
    rw [this]; rfl
theorem m_forces {S : sk_S} {d : sk_D} {A : AS} (h : RM S d A) (hA : okA A) (set : Int32) : ∃ d', fX11_forces S d 94 set = some (x_forces A set, d') ∧ RM S d' A ∧ Fr mdl d d' := by
  have hS := h.1.1
  have h0 := h.m0 0
  unfold fX11_forces x_forces
  rw [pi94 hS, Option.bind_some, if_pos (kd94 hS)]
  by_cases q : hAl (as_L A) set
  · obtain ⟨d1, a1, a2⟩ := m_forcedIn h0 hA set
    rw [(m_isSet h0.1 set).1 q, Option.bind_some, if_pos rfl, if_pos q, if_pos (kd94 hS), a1, Option.bind_some]
    exact ⟨d1, rfl, h0.scm hA.2.2.2.1 a2, (mfr0 d 0).2.2.2.2.trans (mfr.scm a2).2.2.2.2⟩
  · rw [(m_isSet h0.1 set).2 q, Option.bind_some, if_neg (by decide), if_neg q]
    exact ⟨_, rfl, h0, (mfr0 d 0).2.2.2.2⟩
theorem m_best {S : sk_S} {d : sk_D} {A : AS} (h : RM S d A) (hA : okA A) (set : Int32) : ∃ d', fX11_best S d 94 set = some (x_best A set, d') ∧ RM S d' A ∧ Fr mdl d d' := by
  have hS := h.1.1
  have h0 := h.m0 0
  unfold fX11_best x_best
  rw [pi94 hS, Option.bind_some, if_pos (kd94 hS)]
  by_cases q : hAl (as_L A) set
  · obtain ⟨d1, a1, a2⟩ := m_forcedIn h0 hA set
    have r1 := h0.scm hA.2.2.2.1 a2
    have f1 : Fr mdl d d1 := (mfr0 d 0).2.2.2.2.trans (mfr.scm a2).2.2.2.2
    rw [(m_isSet h0.1 set).1 q, Option.bind_some, if_pos rfl, if_pos q, if_pos (kd94 hS), a1, Option.bind_some]
    dsimp only
    rcases fft_cases (as_L A) set (as_m A) with ⟨t, t1, t2, t3, t4⟩ | ⟨t1, t2⟩
    · rw [t4]
      cases t with
      | zero =>
        rw [if_neg (show ¬ (1 : Int32) ≤ toI (some 0) by show ¬ (1 : Int32) ≤ nI 0; decide)]
        exact ⟨d1, rfl, r1, f1⟩
      | succ t =>
        dsimp only
        have ev : toI (some (t + 1)) = nI (t + 1) := rfl
        rw [ev, if_pos (show (1 : Int32) ≤ nI (t + 1) from nI_le (a := 1) (by omega) (by omega))]
        have ex : ∃ k, k < 17 ∧ ¬ mv17 (as_L A) (as_m A) k < 0 ∧ ocP (ff (as_L A) set t) (as_L A) set (mv17 (as_L A) (as_m A) k) := by
          have t0 := t3 0 (by omega)
          rcases t2 with c | ⟨mv, hm, c1, c2⟩ | c
          · exact absurd c t0
          · exact ⟨mv, by omega, by unfold mv17; rw [if_neg (by omega)]; exact c1, by unfold mv17; rw [if_neg (by omega)]; exact c2⟩
          · exact ⟨16, by omega, by unfold mv17; rw [if_pos rfl]; exact hA.2.1.pos, by unfold mv17; rw [if_pos rfl]; exact c⟩
        obtain ⟨g, g1, g2⟩ := pk_least _ ex
        have eg : fmw (as_L A) set (as_m A) t = some g := lst_some g1 g2
        rw [eg]
        have step : ∀ k z, k < 16 → z.1 = nI k → Fr CStubKeepLaw_law_r1379_07d26a.scm d1 z.2 → ∃ r d2, fX11_best_L31 S 94 set (nI (t + 1)) z = (if r = true then some (.inr (.inr (nI k, d2))) else some (.inl (nI (k + 1), d2))) ∧ (r = true ↔ ¬ mvt (as_L A) (as_m A) k < 0 ∧ ocP (ff (as_L A) set t) (as_L A) set (mvt (as_L A) (as_m A) k)) ∧ Fr CStubKeepLaw_law_r1379_07d26a.scm d1 d2 := by
          intro k z hk i1 i2
          have rz := r1.scm hA.2.2.2.1 i2
          obtain ⟨r, d2, b1, b2, b3⟩ := (mF_all (S := S) (L := as_L A) (set := set) t (by omega) 98 (by omega)).2.2 z.2 (as_m A) k hk (rz.ma hA)
          refine ⟨r, d2, ?_, b2, i2.trans b3⟩
          unfold fX11_best_L31 fX11_forcesBy
          rw [i1, if_neg (show ¬ (16 : Int32) ≤ nI k from nI_ge (b := 16) hk (by omega)), if_pos (kd94 hS), m_stand hS rz.2.1.1.1, Option.bind_some, if_pos (kd94 hS), b1, Option.bind_some]
          dsimp only
          rw [nI_1]
        have no : ∀ k, k < g → k < 16 → ¬ (¬ mvt (as_L A) (as_m A) k < 0 ∧ ocP (ff (as_L A) set t) (as_L A) set (mvt (as_L A) (as_m A) k)) := by
          intro k hk h16 a
          apply g2 k hk
          refine ⟨by omega, ?_, ?_⟩
          · unfold mv17; rw [if_neg (by omega)]; exact a.1
          · unfold mv17; rw [if_neg (by omega)]; exact a.2
        have loop := it_for (body := fX11_best_L31 S 94 set (nI (t + 1))) (fun k z => z.1 = nI k ∧ Fr CStubKeepLaw_law_r1379_07d26a.scm d1 z.2) g
          (fun e => ∃ y, (g < 16 ∧ e = .inr (nI g, y) ∨ g = 16 ∧ e = .inl (99, y)) ∧ Fr CStubKeepLaw_law_r1379_07d26a.scm d1 y) ?_ ?_ (s := ((0 : Int32), d1)) ⟨rfl, Fr.refl _ _⟩
        · obtain ⟨e, he, y, e1, e2⟩ := loop
          have ry := r1.scm hA.2.2.2.1 e2
          have fy : Fr mdl d y := f1.trans (mfr.scm e2).2.2.2.2
          rw [he, Option.bind_some]
          rcases e1 with ⟨c, e1⟩ | ⟨c, e1⟩
          · rw [e1]
            dsimp only
            rw [f_told y c, Option.bind_some]
            refine ⟨y, ?_, ry, fy⟩
            unfold d17
            rw [if_neg (by omega)]
          · rw [e1]
            refine ⟨y, ?_, ry, fy⟩
            dsimp only
            unfold d17
            rw [if_pos c]
        · intro k z hk ⟨i1, i2⟩
          left
          have g0 := g1.1
          obtain ⟨r, d2, b1, b2, b3⟩ := step k z (by omega) i1 i2
          cases r with
          | true => exact absurd (b2.mp rfl) (no k hk (by omega))
          | false => exact ⟨_, b1, rfl, b3⟩
        · intro z ⟨i1, i2⟩
          by_cases c : g < 16
          · obtain ⟨r, d2, b1, b2, b3⟩ := step g z c i1 i2
            have : r = true := by
              apply b2.mpr
              obtain ⟨_, g3, g4⟩ := g1
              unfold mv17 at g3 g4
              rw [if_neg (by omega)] at g3 g4
              exact ⟨g3, g4⟩
            subst this
            exact ⟨_, b1, d2, Or.inl ⟨c, rfl⟩, b3⟩
          · have g0 := g1.1
            have e16 : g = 16 := by omega
            unfold fX11_best_L31
            rw [i1, e16, if_pos (show (16 : Int32) ≤ nI 16 by decide)]
            exact ⟨_, rfl, z.2, Or.inr ⟨rfl, rfl⟩, i2⟩
    · rw [t2, if_neg (show ¬ (1 : Int32) ≤ toI none by show ¬ (1 : Int32) ≤ -1; decide)]
      exact ⟨d1, rfl, r1, f1⟩
  · rw [(m_isSet h0.1 set).2 q, Option.bind_some, if_neg (by decide), if_neg q]
    exact ⟨_, rfl, h0, (mfr0 d 0).2.2.2.2⟩
