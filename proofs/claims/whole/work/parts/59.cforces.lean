/-! forcing: what it is, and the class's search -/
def shw (set m : Int32) : Prop := gl true set m
def ocP (F : Int32 → Prop) (L : LF) (set m : Int32) : Prop := shw set m ∨ ((∀ j, j < lf_n L → ¬ aso L m j = 0 → F (pb m (aso L m j))) ∧ F m)
def ff (L : LF) (set : Int32) : Nat → Int32 → Prop
  | 0, m => shw set m
  | t + 1, m => shw set m ∨ (∃ mv, mv < 16 ∧ ¬ mvt L m mv < 0 ∧ ocP (ff L set t) L set (mvt L m mv)) ∨ ocP (ff L set t) L set m
/-- how many are missing -/
def ms (set m : Int32) : Nat := fb_ct (fun i => bt set i && !bt (sw m) i) 8
theorem pc_ct (x : Int32) : ∀ n, s3 (fun i => if bt x i = true then 1 else 0) n = nI (fb_ct (fun i => bt x i) n)
  | 0 => rfl
  | n + 1 => by
    rw [s3, pc_ct x n, fb_ct_succ]
    cases bt x n
    · simp
    · simp [nI_1]
theorem ms_bc {L : LF} (hk : okL L) {set : Int32} (hs : hAl L set) (m : Int32) (S : sk_S) (d : sk_D) : fJ6_bitCount_0f7a4 S d (set &&& (sw m ^^^ (-1))) = some (nI (ms set m)) := by
  have hn := hk.1
  have hb := (hAl_iff hk set).mp hs
  have h8 : ∀ i, 8 ≤ i → i < 32 → bt (set &&& (sw m ^^^ (-1))) i = false := fun i h1 h2 => by rw [b_and, hb i (by omega) h2]; rfl
  obtain ⟨l, hl, el⟩ := b_low (n := 8) (by omega) h8
  have e : pc (set &&& (sw m ^^^ (-1))) = nI (ms set m) := by
    unfold pc ms
    rw [pc_ct]
    congr 1
    rw [fb_ct_succ, fb_ct_succ, h8 9 (by omega) (by omega), h8 8 (by omega) (by omega)]
    show fb_ct (fun i => bt (set &&& (sw m ^^^ (-1))) i) 8 + 0 + 0 = _
    rw [Nat.add_zero]
    exact fb_ct_cong (fun i hi => by rw [b_and, b_not _ (by omega)])
  rw [el] at e ⊢
  rw [f_bc l (by omega), e]
theorem ms_0 {L : LF} (hk : okL L) {set : Int32} (hs : hAl L set) (m : Int32) : ms set m = 0 ↔ shw set m := by
  have hn := hk.1
  have hb := (hAl_iff hk set).mp hs
  unfold ms shw gl
  rw [fb_ct_zero]
  simp only [↓reduceIte]
  rw [z_sub]
  constructor
  · intro h i hi hs2
    by_cases c : i < 8
    · have := h i c
      rw [hs2] at this
      simpa using this
    · rw [hb i (by omega) hi] at hs2; exact absurd hs2 (by decide)
  · intro h i hi
    cases hs2 : bt set i
    · rfl
    · rw [h i (by omega) hs2]; rfl
theorem ms_le (set m m2 : Int32) (j : Nat) (h : ∀ i, i < 8 → i ≠ j → bt (sw m2) i = true → bt (sw m) i = true) : ms set m ≤ ms set m2 + 1 := by
  unfold ms
  have a : fb_ct (fun i => bt set i && !bt (sw m) i) 8 ≤ fb_ct (fun k => if k = j then true else (bt set k && !bt (sw m2) k)) 8 := by
    apply fb_ct_sub
    intro k hk hp
    by_cases c : k = j
    · simp [c]
    · simp only [c, ↓reduceIte]
      simp at hp ⊢
      refine ⟨hp.1, ?_⟩
      cases hq : bt (sw m2) k
      · rfl
      · rw [h k hk c hq] at hp; exact absurd hp.2 (by decide)
  by_cases c : j < 8
  · have b := fb_ct_upd (fun i => bt set i && !bt (sw m2) i) true (i := j) (n := 8) c
    simp only [↓reduceIte] at b
    omega
  · have b : fb_ct (fun k => if k = j then true else (bt set k && !bt (sw m2) k)) 8 = fb_ct (fun i => bt set i && !bt (sw m2) i) 8 := fb_ct_cong (fun k hk => by rw [if_neg (by omega)])
    omega
theorem ms_mv {L : LF} (hk : okL L) (set : Int32) {m : Int32} {mv : Nat} (hm : mv < 16) (h0 : ¬ mvt L m mv < 0) : ms set m ≤ ms set (mvt L m mv) + 1 := by
  have hn := hk.1
  obtain ⟨n1, n2, n3, n4⟩ := neg_lit
  apply ms_le set m _ (mv % 8)
  intro i hi hne hb
  rw [bt_sw _ (by omega)] at hb ⊢
  simp at hb ⊢
  unfold mvt at hb h0
  by_cases c : mv < 8
  · rw [if_pos c] at hb h0
    unfold tdo at hb h0
    by_cases q1 : ¬ mv < lf_n L
    · rw [if_pos q1] at h0; exact absurd n1 h0
    · rw [if_neg q1] at hb h0
      by_cases q2 : bt m mv = true
      · rw [if_pos q2] at h0; exact absurd n2 h0
      · rw [if_neg q2] at hb h0
        by_cases q3 : ¬ (lf_v L 5 mv &&& (dn m ^^^ (-1))) = 0
        · rw [if_pos q3] at h0; exact absurd n3 h0
        · rw [if_neg q3] at hb
          have hb2 : i < 8 ∧ bt (dto L m mv) i = true ∧ bt (dto L m mv) (i + 8) = true := hb
          have em : mv % 8 = mv := by omega
          rw [em] at hne
          have key : ∀ e, e < 16 → e ≠ mv → e ≠ mv + 8 → bt (dto L m mv) e = bt m e := by
            intro e he e1 e2
            unfold dto
            split
            · rw [b_or, bt_gone m c (by omega), bt_b8 (by omega) (by omega)]; simp [e1, e2]
            · rw [bt_gone m c (by omega)]; simp [e1, e2]
          rw [key i (by omega) hne (by omega), key (i + 8) (by omega) (by omega) (by omega)] at hb2
          exact hb2
  · rw [if_neg c] at hb h0
    unfold tdr at hb h0
    by_cases q1 : ¬ mv - 8 < lf_n L
    · rw [if_pos q1] at h0; exact absurd n1 h0
    · rw [if_neg q1] at hb h0
      by_cases q2 : bt m (mv - 8 + 8) = false
      · rw [if_pos q2] at h0; exact absurd n2 h0
      · rw [if_neg q2, bt_drop m (by omega) (by omega), bt_drop m (by omega) (by omega)] at hb
        simp at hb
        exact ⟨hi, hb.2.1.1, hb.2.2.1⟩
theorem ff_ms {L : LF} (hk : okL L) {set : Int32} (hs : hAl L set) : ∀ t m, ff L set t m → ms set m ≤ t
  | 0, m, h => by have := (ms_0 hk hs m).mpr h; omega
  | t + 1, m, h => by
    rcases h with h | ⟨mv, hm, h0, h⟩ | h
    · have := (ms_0 hk hs m).mpr h; omega
    · have a := ms_mv hk set hm h0
      rcases h with h | h
      · have := (ms_0 hk hs _).mpr h; omega
      · have := ff_ms hk hs t _ h.2; omega
    · rcases h with h | h
      · have := (ms_0 hk hs m).mpr h; omega
      · have := ff_ms hk hs t _ h.2; omega
theorem okM.mvs {L : LF} (hk : okL L) {m : Int32} (h : okM L m) {mv : Nat} (hm : mv < 16) (h0 : ¬ mvt L m mv < 0) : okM L (mvt L m mv) := by
  rw [mvt_kdd L m hm] at h0 ⊢
  exact ok_kdd hk h (by omega) h0
theorem pb_ne {L : LF} (hk : okL L) (m : Int32) {j : Nat} (hj : j < lf_n L) : tas L m j = m ↔ aso L m j = 0 := by
  rw [tas_aso L hk m hj]
  constructor
  · intro h
    have := no_pb m (aso L m j) (aso_8 L hk m hj) (aso_no hk m hj)
    rw [h] at this
    rw [← this]
    apply b_ext
    intro i hi
    rw [b_and, b_not _ hi, b_0]
    cases bt (no m) i <;> rfl
  · intro h
    rw [h]
    unfold pb
    apply b_ext
    intro i hi
    rw [b_and, b_not _ hi, b_or, b_shl8 _ hi, b_0, b_0]
    simp
/-- the class's move: doing, dropping, neither -/
def mv17 (L : LF) (m : Int32) (k : Nat) : Int32 := if k = 16 then m else mvt L m k
theorem c_moved {S : sk_S} {d : sk_D} {L : LF} (h : CI S d L) (m : Int32) {k : Nat} (hk : k < 17) : ∃ d', fX7_moved S d 2 m (nI k) = some (mv17 L m k, d') ∧ CI S d' L ∧ Fr scr d d' := by
  have hS := h.1
  unfold fX7_moved mv17 mvt
  have e16 : nI k = (16 : Int32) ↔ k = 16 := nI_eq (b := 16) (by omega) (by omega)
  have e8 : (8 : Int32) ≤ nI k ↔ 8 ≤ k := nI_leI (a := 8) (by omega) (by omega)
  by_cases c : k = 16
  · rw [if_pos (e16.mpr c), if_pos c]; exact ⟨d, rfl, h, Fr.refl _ _⟩
  · rw [if_neg (fun a => c (e16.mp a)), if_neg c]
    by_cases c8 : 8 ≤ k
    · rw [if_pos (e8.mpr c8), if_pos (kd2 hS), if_neg (by omega), show nI k - (8 : Int32) = nI (k - 8) by rw [show (8 : Int32) = nI 8 from rfl, pk_sub c8], c_tdr h m (by omega), Option.bind_some]
      exact ⟨d, rfl, h, Fr.refl _ _⟩
    · obtain ⟨d1, a1, a2, a3⟩ := c_tdo h m (j := k) (by omega)
      rw [if_neg (fun a => c8 (e8.mp a)), if_pos (kd2 hS), if_pos (by omega), a1, Option.bind_some]
      exact ⟨d1, rfl, a2, a3⟩
def CW (S : sk_S) (L : LF) (set : Int32) (t fuel : Nat) : Prop := ∀ (d : sk_D) (m : Int32), CI S d L → okM L m → ∃ r d', gX7 S fuel 0 d 2 m set (nI t) = some (r, d') ∧ (r = true ↔ ff L set t m) ∧ CI S d' L ∧ Fr scr d d'
def CO (S : sk_S) (L : LF) (set : Int32) (t fuel : Nat) : Prop := ∀ (d : sk_D) (m : Int32), CI S d L → okM L m → ∃ r d', gX7 S fuel 1 d 2 m set (nI t) = some (r, d') ∧ (r = true ↔ ocP (ff L set t) L set m) ∧ CI S d' L ∧ Fr scr d d'
theorem c_with {S : sk_S} {L : LF} (hk : okL L) {set : Int32} {t fuel : Nat} (hs : hAl L set) (hW : CW S L set t fuel) : CO S L set t (fuel + 1) := by
  intro d m hc hm
  have hn := hk.1
  show ∃ r d', fX7_withstands_o (gX7 S fuel) S d 2 m set (nI t) = some (r, d') ∧ _
  unfold fX7_withstands_o
  rw [f_sw, Option.bind_some]
  by_cases c : shw set m
  · rw [if_pos (show (set &&& (sw m ^^^ (-1))) = 0 from c)]
    exact ⟨true, d, rfl, ⟨fun _ => Or.inl c, fun _ => rfl⟩, hc, Fr.refl _ _⟩
  · rw [if_neg (show ¬ (set &&& (sw m ^^^ (-1))) = 0 from c)]
    obtain ⟨r1, d1, a1, a2, a3, a4⟩ := hW d m hc hm
    rw [a1, Option.bind_some]
    dsimp only
    cases r1 with
    | false =>
      rw [if_neg (by decide)]
      refine ⟨false, d1, rfl, ⟨fun h => absurd h (by decide), fun h => ?_⟩, a3, a4⟩
      rcases h with h | h
      · exact absurd h c
      · exact a2.mpr h.2
    | true =>
      rw [if_pos rfl]
      have fm := a2.mp rfl
      have loop := it_for (body := fX7_withstands_L28 (gX7 S fuel) S 2 m set (nI t)) (fun j z => z.1 = nI j ∧ CI S z.2 L ∧ Fr scr d z.2 ∧ ∀ i, i < j → i < lf_n L → ¬ aso L m i = 0 → ff L set t (pb m (aso L m i))) 8
        (fun e => (e.1 = true ↔ ocP (ff L set t) L set m) ∧ CI S e.2 L ∧ Fr scr d e.2) ?_ ?_ (s := ((0 : Int32), d1)) ⟨rfl, a3, a4, fun i hi => by omega⟩
      · obtain ⟨e, he, e1, e2, e3⟩ := loop
        rw [he, Option.bind_some]
        exact ⟨e.1, e.2, rfl, e1, e2, e3⟩
      · intro j z hj ⟨i1, i2, i3, i4⟩
        have hS := i2.1
        obtain ⟨d2, b1, b2, b3⟩ := c_tas i2 m (j := j) (by omega) hm.2.2
        unfold fX7_withstands_L28
        rw [i1, if_neg (show ¬ (8 : Int32) ≤ nI j from nI_ge (b := 8) hj (by omega)), if_pos (kd2 hS), b1, Option.bind_some]
        dsimp only
        by_cases cj : j < lf_n L
        · have et := tas_aso L hk m cj
          have okp := ok_ask hk hm cj
          by_cases cz : aso L m j = 0
          · left
            rw [if_neg (by rw [et]; exact okp.pos), if_pos ((pb_ne hk m cj).mpr cz)]
            refine ⟨_, rfl, nI_1 j, b2, i3.trans b3, fun i hi h1 h2 => ?_⟩
            by_cases ci : i = j
            · subst ci; exact absurd cz h2
            · exact i4 i (by omega) h1 h2
          · obtain ⟨r2, d3, e1, e2, e3, e4⟩ := hW d2 (pb m (aso L m j)) b2 okp
            rw [if_neg (by rw [et]; exact okp.pos), if_neg (fun a => cz ((pb_ne hk m cj).mp a)), et, e1, Option.bind_some]
            dsimp only
            cases r2 with
            | true =>
              left
              rw [if_pos rfl]
              refine ⟨_, rfl, nI_1 j, e3, (i3.trans b3).trans e4, fun i hi h1 h2 => ?_⟩
              by_cases ci : i = j
              · subst ci; exact e2.mp rfl
              · exact i4 i (by omega) h1 h2
            | false =>
              right
              rw [if_neg (by decide)]
              refine ⟨_, rfl, ⟨fun h => absurd (show false = true from h) (by decide), fun h => ?_⟩, e3, (i3.trans b3).trans e4⟩
              rcases h with h | h
              · exact absurd h c
              · exact e2.mpr (h.1 j cj cz)
        · left
          have et : tas L m j = -1 := by unfold tas; rw [if_pos cj]
          rw [if_pos (by rw [et]; decide)]
          refine ⟨_, rfl, nI_1 j, b2, i3.trans b3, fun i hi h1 h2 => ?_⟩
          exact i4 i (by omega) h1 h2
      · intro z ⟨i1, i2, i3, i4⟩
        unfold fX7_withstands_L28
        rw [i1]
        exact ⟨_, rfl, ⟨fun _ => Or.inr ⟨fun j hj hz => i4 j (by omega) hj hz, fm⟩, fun _ => rfl⟩, i2, i3⟩
theorem c_win0 {S : sk_S} {L : LF} (hk : okL L) {set : Int32} {fuel : Nat} (hs : hAl L set) : CW S L set 0 (fuel + 1) := by
  intro d m hc hm
  show ∃ r d', fX7_wins_o (gX7 S fuel) S d 2 m set (nI 0) = some (r, d') ∧ _
  unfold fX7_wins_o
  rw [f_sw, Option.bind_some, ms_bc hk hs, Option.bind_some]
  have l8 : ms set m ≤ 8 := fb_ct_le _ _
  by_cases c : ms set m = 0
  · rw [c, if_pos (by rfl), if_pos (by rfl)]
    exact ⟨true, d, rfl, ⟨fun _ => (ms_0 hk hs m).mp c, fun _ => rfl⟩, hc, Fr.refl _ _⟩
  · rw [if_neg (nI_ne0 (by omega) (by omega)), if_neg (nI_ge (show 0 < ms set m by omega) (by omega)), if_neg (nI_ne0 (by omega) (by omega))]
    exact ⟨false, d, rfl, ⟨fun h => absurd h (by decide), fun h => absurd ((ms_0 hk hs m).mpr h) c⟩, hc, Fr.refl _ _⟩
theorem c_win {S : sk_S} {L : LF} (hk : okL L) {set : Int32} {t fuel : Nat} (ht : t < 8) (hs : hAl L set) (hO : CO S L set t fuel) : CW S L set (t + 1) (fuel + 1) := by
  intro d m hc hm
  have hn := hk.1
  show ∃ r d', fX7_wins_o (gX7 S fuel) S d 2 m set (nI (t + 1)) = some (r, d') ∧ _
  unfold fX7_wins_o
  rw [f_sw, Option.bind_some, ms_bc hk hs, Option.bind_some]
  have l8 : ms set m ≤ 8 := fb_ct_le _ _
  by_cases c : ms set m = 0
  · rw [c, if_pos (by rfl), if_pos (by rfl)]
    exact ⟨true, d, rfl, ⟨fun _ => Or.inl ((ms_0 hk hs m).mp c), fun _ => rfl⟩, hc, Fr.refl _ _⟩
  · rw [if_neg (nI_ne0 (by omega) (by omega))]
    have cs : ¬ shw set m := fun a => c ((ms_0 hk hs m).mpr a)
    by_cases c2 : ms set m ≤ t + 1
    · rw [if_pos (nI_le c2 (by omega))]
      have e1 : nI (t + 1) - (1 : Int32) = nI t := nI_pred t
      have loop := it_for (body := fX7_wins_L38 (gX7 S fuel) S 2 m set (nI (t + 1))) (fun k z => z.1 = nI k ∧ CI S z.2 L ∧ Fr scr d z.2 ∧ ∀ i, i < k → ¬ mv17 L m i < 0 → ¬ ocP (ff L set t) L set (mv17 L m i)) 17
        (fun e => (e.1 = true ↔ ff L set (t + 1) m) ∧ CI S e.2 L ∧ Fr scr d e.2) ?_ ?_ (s := ((0 : Int32), d)) ⟨rfl, hc, Fr.refl _ _, fun i hi => by omega⟩
      · obtain ⟨e, he, e1, e2, e3⟩ := loop
        rw [he, Option.bind_some]
        exact ⟨e.1, e.2, rfl, e1, e2, e3⟩
      · intro k z hkk ⟨i1, i2, i3, i4⟩
        obtain ⟨d2, b1, b2, b3⟩ := c_moved i2 m hkk
        unfold fX7_wins_L38
        rw [i1, if_neg (show ¬ (16 : Int32) < nI k from nI_nlt (a := 16) (by omega) (by omega)), b1, Option.bind_some]
        dsimp only
        by_cases cz : mv17 L m k < 0
        · left
          rw [if_pos cz]
          refine ⟨_, rfl, nI_1 k, b2, i3.trans b3, fun i hi h1 => ?_⟩
          by_cases ci : i = k
          · subst ci; exact absurd cz h1
          · exact i4 i (by omega) h1
        · have okn : okM L (mv17 L m k) := by
            unfold mv17 at cz ⊢
            by_cases c16 : k = 16
            · rw [if_pos c16]; exact hm
            · rw [if_neg c16] at cz ⊢; exact hm.mvs hk (by omega) cz
          obtain ⟨r2, d3, f1, f2, f3, f4⟩ := hO d2 (mv17 L m k) b2 okn
          rw [if_neg cz, e1, f1, Option.bind_some]
          dsimp only
          cases r2 with
          | true =>
            right
            rw [if_pos rfl]
            refine ⟨_, rfl, ⟨fun _ => ?_, fun _ => rfl⟩, f3, (i3.trans b3).trans f4⟩
            have o := f2.mp rfl
            unfold mv17 at o cz
            by_cases c16 : k = 16
            · rw [if_pos c16] at o; exact Or.inr (Or.inr o)
            · rw [if_neg c16] at o cz; exact Or.inr (Or.inl ⟨k, by omega, cz, o⟩)
          | false =>
            left
            rw [if_neg (by decide)]
            refine ⟨_, rfl, nI_1 k, f3, (i3.trans b3).trans f4, fun i hi h1 => ?_⟩
            by_cases ci : i = k
            · subst ci; intro a; exact absurd (f2.mpr a) (by decide)
            · exact i4 i (by omega) h1
      · intro z ⟨i1, i2, i3, i4⟩
        unfold fX7_wins_L38
        rw [i1, if_pos (show (16 : Int32) < nI 17 by decide)]
        refine ⟨_, rfl, ⟨fun h => absurd (show false = true from h) (by decide), fun h => ?_⟩, i2, i3⟩
        rcases h with h | ⟨mv, hmv, h0, h⟩ | h
        · exact absurd h cs
        · have := i4 mv (by omega) (by unfold mv17; rw [if_neg (by omega)]; exact h0)
          unfold mv17 at this; rw [if_neg (by omega)] at this
          exact absurd h this
        · have := i4 16 (by omega) (by unfold mv17; rw [if_pos rfl]; exact hm.pos)
          unfold mv17 at this; rw [if_pos rfl] at this
          exact absurd h this
    · rw [if_neg (nI_ge (show t + 1 < ms set m by omega) (by omega)), if_neg (nI_ne0 (by omega) (by omega))]
      exact ⟨false, d, rfl, ⟨fun h => absurd h (by decide), fun h => absurd (ff_ms hk hs (t + 1) m h) c2⟩, hc, Fr.refl _ _⟩
