/-! forcing: the calls of the class, the reference's search -/
theorem cW_all {S : sk_S} {L : LF} (hk : okL L) {set : Int32} (hs : hAl L set) : ∀ t, t ≤ 7 → ∀ fuel, 2 * t + 1 ≤ fuel → CW S L set t fuel ∧ CO S L set t (fuel + 1)
  | 0, _, fuel, hf => by
    obtain ⟨n, rfl⟩ : ∃ n, fuel = n + 1 := ⟨fuel - 1, by omega⟩
    have a : CW S L set 0 (n + 1) := c_win0 hk hs
    exact ⟨a, c_with hk hs a⟩
  | t + 1, ht, fuel, hf => by
    obtain ⟨n, rfl⟩ : ∃ n, fuel = n + 1 := ⟨fuel - 1, by omega⟩
    obtain ⟨k, rfl⟩ : ∃ k, n = k + 1 := ⟨n - 1, by omega⟩
    have a := (cW_all (S := S) hk hs t (by omega) k (by omega)).2
    have b := c_win hk (by omega) hs a
    exact ⟨b, c_with hk hs b⟩
noncomputable def fft (L : LF) (set m : Int32) : Option Nat := lst (fun t => t ≤ 3 ∧ ff L set t m)
theorem fft_cases (L : LF) (set m : Int32) : (∃ t, t ≤ 3 ∧ ff L set t m ∧ (∀ k, k < t → ¬ ff L set k m) ∧ fft L set m = some t) ∨ ((∀ k, k ≤ 3 → ¬ ff L set k m) ∧ fft L set m = none) := by
  by_cases h : ∃ t, t ≤ 3 ∧ ff L set t m
  · left
    obtain ⟨t, h1, h2⟩ := pk_least (fun t => t ≤ 3 ∧ ff L set t m) h
    exact ⟨t, h1.1, h1.2, fun k hk a => h2 k hk ⟨by omega, a⟩, lst_some h1 h2⟩
  · right
    exact ⟨fun k hk a => h ⟨k, hk, a⟩, lst_none (fun n a => h ⟨n, a⟩)⟩
theorem c_fewest {S : sk_S} {d : sk_D} {L : LF} (hc : CI S d L) {m : Int32} (hm : okM L m) {set : Int32} (hs : hAl L set) : ∃ d', fX7_fewest S d 2 m set = some (toI (fft L set m), d') ∧ CI S d' L ∧ Fr scr d d' := by
  have hk := hc.2.1
  unfold fX7_fewest
  have loop := it_for (body := fX7_fewest_L2 S 2 m set) (fun t z => z.1 = nI t ∧ CI S z.2 L ∧ Fr scr d z.2 ∧ ∀ k, k < t → ¬ ff L set k m) 4
    (fun e => e.1 = toI (fft L set m) ∧ CI S e.2 L ∧ Fr scr d e.2) ?_ ?_ (s := ((0 : Int32), d)) ⟨rfl, hc, Fr.refl _ _, fun k hk => by omega⟩
  · obtain ⟨e, he, e1, e2, e3⟩ := loop
    exact ⟨e.2, by rw [he, ← e1]; rfl, e2, e3⟩
  · intro t z ht ⟨i1, i2, i3, i4⟩
    obtain ⟨r, d1, a1, a2, a3, a4⟩ := (cW_all (S := S) hk hs t (by omega) 100 (by omega)).1 z.2 m i2 hm
    unfold fX7_fewest_L2 fX7_wins
    rw [i1, if_neg (show ¬ (3 : Int32) < nI t from nI_nlt (a := 3) (by omega) (by omega)), a1, Option.bind_some]
    dsimp only
    cases r with
    | true =>
      right
      rw [if_pos rfl]
      refine ⟨_, rfl, ?_, a3, i3.trans a4⟩
      have : fft L set m = some t := lst_some ⟨by omega, a2.mp rfl⟩ (fun k hk a => i4 k hk a.2)
      rw [this]; rfl
    | false =>
      left
      rw [if_neg (by decide)]
      refine ⟨_, rfl, nI_1 t, a3, i3.trans a4, fun k hk => ?_⟩
      by_cases c : k = t
      · subst c; intro a; exact absurd (a2.mpr a) (by decide)
      · exact i4 k (by omega)
  · intro z ⟨i1, i2, i3, i4⟩
    unfold fX7_fewest_L2
    rw [i1, if_pos (show (3 : Int32) < nI 4 by decide)]
    refine ⟨_, rfl, ?_, i2, i3⟩
    have : fft L set m = none := lst_none (fun k a => i4 k (by omega) a.2)
    rw [this]; rfl
noncomputable def x_forces (A : AS) (set : Int32) : Int32 := @ite _ (hAl (as_L A) set) (Classical.propDecidable _) (toI (fft (as_L A) set (as_m A))) (-3)
theorem c_forces {S : sk_S} {d : sk_D} {A : AS} (h : RC S d A) (hA : okA A) (set : Int32) : ∃ d', fX10_forces S d 1 set = some (x_forces A set, d') ∧ RC S d' A ∧ Fr cls d d' := by
  have hS := h.1.1
  unfold fX10_forces x_forces
  rw [gr1_0 hS, Option.bind_some, gr2_0 hS, Option.bind_some, if_pos (kd3 hS)]
  by_cases q : hAl (as_L A) set
  · obtain ⟨d1, a1, a2, a3⟩ := c_fewest h.1 hA.2.1 q
    rw [(c_hasAll hS h.1.2.2.1 set).1 q, Option.bind_some, if_pos rfl, if_pos q, Option.bind_some, gr1_5 hS, Option.bind_some, gi50 hS, Option.bind_some, h.2.1.1, a1, Option.bind_some]
    exact ⟨d1, rfl, h.scrx a2 a3, scr_cls a3⟩
  · rw [(c_hasAll hS h.1.2.2.1 set).2 q, Option.bind_some, if_neg (by decide), if_neg q]
    exact ⟨d, rfl, h, Fr.refl _ _⟩
/-- the first move by which it is forced in t turns more -/
noncomputable def fmw (L : LF) (set m : Int32) (t : Nat) : Option Nat := lst (fun k => k < 17 ∧ ¬ mv17 L m k < 0 ∧ ocP (ff L set t) L set (mv17 L m k))
def d17 (k : Nat) : Int32 := if k = 16 then 99 else dcd k
noncomputable def x_best (A : AS) (set : Int32) : Int32 := @ite _ (hAl (as_L A) set) (Classical.propDecidable _) (match fft (as_L A) set (as_m A) with
  | some (t + 1) => (match fmw (as_L A) set (as_m A) t with
    | some k => d17 k
    | none => -1)
  | _ => -1) (-3)
theorem f_deedOf {S : sk_S} (d : sk_D) {k : Nat} (hk : k < 17) : fX7_deedOf S d (nI k) = some (d17 k) := by
  exact (by decide : ∀ k, k < 17 → (if nI k = (16 : Int32) then (some (99 : Int32)) else (if (8 : Int32) ≤ nI k then (some ((nI k - (8 : Int32)) + (10 : Int32))) else (some (nI k)))) = some (d17 k)) k hk
theorem c_best {S : sk_S} {d : sk_D} {A : AS} (h : RC S d A) (hA : okA A) (set : Int32) : ∃ d', fX10_best S d 1 set = some (x_best A set, d') ∧ RC S d' A ∧ Fr cls d d' := by
  have hS := h.1.1
  unfold fX10_best x_best
  rw [gr1_0 hS, Option.bind_some, gr2_0 hS, Option.bind_some, if_pos (kd3 hS)]
  by_cases q : hAl (as_L A) set
  · obtain ⟨d1, a1, a2, a3⟩ := c_fewest h.1 hA.2.1 q
    have hk := hA.1
    rw [(c_hasAll hS h.1.2.2.1 set).1 q, Option.bind_some, if_pos rfl, if_pos q, Option.bind_some, gr1_5 hS, Option.bind_some, gi50 hS, Option.bind_some, Option.bind_some, Option.bind_some, gi50 hS, Option.bind_some, h.2.1.1, a1, Option.bind_some]
    unfold fX7_firstDeed
    dsimp only
    have stop : ∀ v : Int32, v ≤ 0 → sk_itr (fX7_firstDeed_L3 S 2 (as_m A) set v) ((0 : Int32), d1) = some (.inl ((-1 : Int32), d1)) := by
      intro v hv
      apply sk_itr_exit
      unfold fX7_firstDeed_L3
      rw [if_neg (show ¬ (16 : Int32) < 0 by decide), if_pos hv]
    rcases fft_cases (as_L A) set (as_m A) with ⟨t, t1, t2, t3, t4⟩ | ⟨t1, t2⟩
    · rw [t4]
      cases t with
      | zero =>
        rw [stop (toI (some 0)) (by decide)]
        exact ⟨d1, rfl, h.scrx a2 a3, scr_cls a3⟩
      | succ t =>
        dsimp only
        have ev : toI (some (t + 1)) = nI (t + 1) := rfl
        have e1 : nI (t + 1) - (1 : Int32) = nI t := nI_pred t
        have nle : ¬ nI (t + 1) ≤ 0 := nI_nle (by omega) (by omega)
        have ex : ∃ k, k < 17 ∧ ¬ mv17 (as_L A) (as_m A) k < 0 ∧ ocP (ff (as_L A) set t) (as_L A) set (mv17 (as_L A) (as_m A) k) := by
          have t0 := t3 0 (by omega)
          rcases t2 with c | ⟨mv, hm, c1, c2⟩ | c
          · exact absurd c t0
          · exact ⟨mv, by omega, by unfold mv17; rw [if_neg (by omega)]; exact c1, by unfold mv17; rw [if_neg (by omega)]; exact c2⟩
          · exact ⟨16, by omega, by unfold mv17; rw [if_pos rfl]; exact hA.2.1.pos, by unfold mv17; rw [if_pos rfl]; exact c⟩
        obtain ⟨g, g1, g2⟩ := pk_least _ ex
        have eg : fmw (as_L A) set (as_m A) t = some g := lst_some g1 g2
        rw [eg, ev]
        have loop := it_for (body := fX7_firstDeed_L3 S 2 (as_m A) set (nI (t + 1))) (fun k z => z.1 = nI k ∧ CI S z.2 (as_L A) ∧ Fr scr d z.2) g
          (fun e => ∃ y, e = .inr (nI g, y) ∧ CI S y (as_L A) ∧ Fr scr d y) ?_ ?_ (s := ((0 : Int32), d1)) ⟨rfl, a2, a3⟩
        · obtain ⟨e, he, y, e1, e2, e3⟩ := loop
          rw [he, Option.bind_some, e1]
          dsimp only
          rw [f_deedOf y g1.1, Option.bind_some]
          exact ⟨y, rfl, h.scrx e2 e3, scr_cls e3⟩
        · intro k z hkk ⟨i1, i2, i3⟩
          left
          have g0 := g1.1
          obtain ⟨d2, b1, b2, b3⟩ := c_moved i2 (as_m A) (k := k) (by omega)
          unfold fX7_firstDeed_L3 fX7_withstands
          rw [i1, if_neg (show ¬ (16 : Int32) < nI k from nI_nlt (a := 16) (by omega) (by omega)), if_neg nle, b1, Option.bind_some]
          dsimp only
          by_cases cz : mv17 (as_L A) (as_m A) k < 0
          · rw [if_pos cz]; exact ⟨_, rfl, nI_1 k, b2, i3.trans b3⟩
          · have okn : okM (as_L A) (mv17 (as_L A) (as_m A) k) := by
              unfold mv17 at cz ⊢
              rw [if_neg (by omega)] at cz ⊢; exact hA.2.1.mvs hk (by omega) cz
            obtain ⟨r2, d3, f1, f2, f3, f4⟩ := (cW_all (S := S) hk q t (by omega) 99 (by omega)).2 d2 (mv17 (as_L A) (as_m A) k) b2 okn
            rw [if_neg cz, e1, f1, Option.bind_some]
            dsimp only
            cases r2 with
            | true => exact absurd ⟨by omega, cz, f2.mp rfl⟩ (g2 k hkk)
            | false => rw [if_neg (by decide)]; exact ⟨_, rfl, nI_1 k, f3, (i3.trans b3).trans f4⟩
        · intro z ⟨i1, i2, i3⟩
          obtain ⟨g0, g3, g4⟩ := g1
          obtain ⟨d2, b1, b2, b3⟩ := c_moved i2 (as_m A) (k := g) (by omega)
          have okn : okM (as_L A) (mv17 (as_L A) (as_m A) g) := by
            unfold mv17 at g3 ⊢
            by_cases c16 : g = 16
            · rw [if_pos c16]; exact hA.2.1
            · rw [if_neg c16] at g3 ⊢; exact hA.2.1.mvs hk (by omega) g3
          obtain ⟨r2, d3, f1, f2, f3, f4⟩ := (cW_all (S := S) hk q t (by omega) 99 (by omega)).2 d2 (mv17 (as_L A) (as_m A) g) b2 okn
          unfold fX7_firstDeed_L3 fX7_withstands
          rw [i1, if_neg (show ¬ (16 : Int32) < nI g from nI_nlt (a := 16) (by omega) (by omega)), if_neg nle, b1, Option.bind_some]
          dsimp only
          rw [if_neg g3, e1, f1, Option.bind_some]
          dsimp only
          rw [if_pos (f2.mpr g4)]
          exact ⟨_, rfl, d3, rfl, f3, (i3.trans b3).trans f4⟩
    · rw [t2]
      rw [stop (toI none) (by decide)]
      exact ⟨d1, rfl, h.scrx a2 a3, scr_cls a3⟩
  · rw [(c_hasAll hS h.1.2.2.1 set).2 q, Option.bind_some, if_neg (by decide), if_neg q]
    exact ⟨d, rfl, h, Fr.refl _ _⟩
