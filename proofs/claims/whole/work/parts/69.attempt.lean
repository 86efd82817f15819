/-! the attempt that tells most -/
def aby (L : LF) (m sl : Int32) (j : Nat) : Int32 := sl &&& spB L j (ln m) 10
def aot (L : LF) (m sl : Int32) (j : Nat) : Int32 := sl &&& (aby L m sl j ^^^ (-1))
def als (L : LF) (m sl : Int32) (j : Nat) : Int32 := if pc (aot L m sl j) < pc (aby L m sl j) then pc (aot L m sl j) else pc (aby L m sl j)
def af (L : LF) (m sl : Int32) : Nat → Int32 × Int32
  | 0 => (-1, -1)
  | k + 1 => if mood m k = 3 then (if als L m sl k ≤ (af L m sl k).2 then af L m sl k else (nI k, als L m sl k)) else af L m sl k
theorem af_s (L : LF) (m sl : Int32) (k : Nat) : af L m sl (k + 1) = if mood m k = 3 then (if als L m sl k ≤ (af L m sl k).2 then af L m sl k else (nI k, als L m sl k)) else af L m sl k := rfl
theorem ct_split (L : LF) (m sl : Int32) (j : Nat) : ∀ k, k ≤ 32 → fb_ct (fun i => bt sl i) k = fb_ct (fun i => bt (aby L m sl j) i) k + fb_ct (fun i => bt (aot L m sl j) i) k
  | 0, _ => rfl
  | k + 1, h => by
    have ih := ct_split L m sl j k (by omega)
    rw [fb_ct_succ, fb_ct_succ, fb_ct_succ, ih]
    have e1 : bt (aby L m sl j) k = (bt sl k && bt (spB L j (ln m) 10) k) := b_and _ _ _
    have e2 : bt (aot L m sl j) k = (bt sl k && !bt (aby L m sl j) k) := by unfold aot; rw [b_and, b_not _ (by omega)]
    rw [e2, e1]
    cases bt sl k <;> cases bt (spB L j (ln m) 10) k <;> simp <;> omega
theorem pc_split (L : LF) (m sl : Int32) (j : Nat) : pc sl - pc (aby L m sl j) = pc (aot L m sl j) := by
  have := ct_split L m sl j 10 (by omega)
  unfold pc
  rw [pc_ct, pc_ct, pc_ct, this, pk_sub (by omega), Nat.add_sub_cancel_left]
theorem als_m (L : LF) (m sl : Int32) (j : Nat) : als L m sl j = if pc (aot L m sl j) ≤ pc (aby L m sl j) then pc (aot L m sl j) else pc (aby L m sl j) := by
  unfold als
  by_cases c : pc (aot L m sl j) < pc (aby L m sl j)
  · rw [if_pos c, if_pos (fa_of_lt c).1]
  · rw [if_neg c]
    by_cases c2 : pc (aot L m sl j) ≤ pc (aby L m sl j)
    · rw [if_pos c2]
      rw [Int32.not_lt] at c
      exact Int32.le_antisymm c c2
    · rw [if_neg c2]
theorem c_attemptL {S : sk_S} {d : sk_D} {A : AS} (h : RC S d A) (hA : okA A) {sl : Int32} (hs : ∃ k, k < 1024 ∧ sl = nI k) :
    ∃ d', sk_itr (fX10_attempt_L32 S 1 sl) ((-1 : Int32), (-1 : Int32), (0 : Int32), d) = some ((if sl = 0 then -1 else (af (as_L A) (as_m A) sl (lf_n (as_L A))).1), d') ∧ RC S d' A ∧ Fr scr d d' := by
  have hS := h.1.1
  have hn := hA.1.1
  have low : ∀ y : Int32, ∃ k, k < 1024 ∧ sl &&& y = nI k := by
    intro y
    obtain ⟨k, hk, e⟩ := hs
    exact b_low (n := 10) (by omega) (fun i h1 h2 => by rw [b_and, e, b_low2 (n := 10) hk h1 h2, Bool.false_and])
  by_cases z0 : sl = 0
  · rw [if_pos z0]
    have e : fX10_attempt_L32 S 1 sl ((-1 : Int32), (-1 : Int32), (0 : Int32), d) = some (.inr ((-1 : Int32), d)) := by
      unfold fX10_attempt_L32
      rw [gr1_0 hS, Option.bind_some, gr2_0 hS, Option.bind_some, gi3 hS, Option.bind_some]
      dsimp only
      rw [if_pos z0]
      split <;> rfl
    have loop := it_for (body := fX10_attempt_L32 S 1 sl) (fun _ s => s = ((-1 : Int32), (-1 : Int32), (0 : Int32), d)) 0 (fun e => e = ((-1 : Int32), d)) (fun k s hk => by omega) (fun s hs => by rw [hs, e]; exact ⟨_, rfl, rfl⟩) (s := ((-1 : Int32), (-1 : Int32), (0 : Int32), d)) rfl
    obtain ⟨x, x1, x2⟩ := loop
    exact ⟨d, by rw [x1, x2], h, Fr.refl _ _⟩
  · rw [if_neg z0]
    have loop := it_for (body := fX10_attempt_L32 S 1 sl) (fun k s => s.1 = (af (as_L A) (as_m A) sl k).1 ∧ s.2.1 = (af (as_L A) (as_m A) sl k).2 ∧ s.2.2.1 = nI k ∧ RC S s.2.2.2 A ∧ Fr scr d s.2.2.2) (lf_n (as_L A))
      (fun e => e.1 = (af (as_L A) (as_m A) sl (lf_n (as_L A))).1 ∧ RC S e.2 A ∧ Fr scr d e.2) ?_ ?_ (s := ((-1 : Int32), (-1 : Int32), (0 : Int32), d)) ⟨rfl, rfl, rfl, h, Fr.refl _ _⟩
    · obtain ⟨e, he, e1, e2, e3⟩ := loop
      exact ⟨e.2, by rw [he, ← e1], e2, e3⟩
    · intro k s hk ⟨i1, i2, i3, i4, i5⟩
      left
      have e := af_s (as_L A) (as_m A) sl k
      unfold fX10_attempt_L32
      rw [i1, i2, i3, gr1_0 hS, Option.bind_some, gr2_0 hS, Option.bind_some, gi3 hS, Option.bind_some, i4.1.2.2.1.2.1, if_neg (nI_ge hk (by omega)), if_neg z0, gr1_5 hS, Option.bind_some, gi50 hS, Option.bind_some, i4.2.1.1, f_mood S _ _ (show k < 8 by omega), Option.bind_some, nI_1]
      by_cases c : mood (as_m A) k = 3
      · obtain ⟨d1, a1, a2, a3⟩ := c_slipsPassing i4.1 hk (as_m A)
        have r1 := i4.scrx a2 a3
        obtain ⟨k1, l1, l2⟩ := low (spB (as_L A) k (ln (as_m A)) 10)
        obtain ⟨k2, l3, l4⟩ := low (aby (as_L A) (as_m A) sl k ^^^ (-1))
        have b1 : fJ6_bitCount_0f7a4 S d1 (sl &&& spB (as_L A) k (ln (as_m A)) 10) = some (pc (aby (as_L A) (as_m A) sl k)) := by
          unfold aby; rw [l2]; exact f_bc k1 l1 S d1
        have b2 : fJ6_bitCount_0f7a4 S d1 (sl &&& ((sl &&& spB (as_L A) k (ln (as_m A)) 10) ^^^ (-1))) = some (pc (aot (as_L A) (as_m A) sl k)) := by
          show fJ6_bitCount_0f7a4 S d1 (sl &&& (aby (as_L A) (as_m A) sl k ^^^ (-1))) = _
          unfold aot; rw [l4]; exact f_bc k2 l3 S d1
        rw [if_pos c] at e
        rw [if_pos c, Option.bind_some, Option.bind_some, gi50 hS, Option.bind_some, i4.2.1.1, f_ln, Option.bind_some, if_pos (kd2 hS), a1, Option.bind_some]
        dsimp only
        rw [b1, Option.bind_some, b2, Option.bind_some]
        have q : (if pc (aot (as_L A) (as_m A) sl k) < pc (aby (as_L A) (as_m A) sl k) then pc (aot (as_L A) (as_m A) sl k) else pc (aby (as_L A) (as_m A) sl k)) = als (as_L A) (as_m A) sl k := rfl
        rw [q]
        by_cases c2 : als (as_L A) (as_m A) sl k ≤ (af (as_L A) (as_m A) sl k).2
        · rw [if_pos c2] at e
          rw [if_pos c2]
          exact ⟨_, rfl, by rw [e], by rw [e], rfl, r1, i5.trans a3⟩
        · rw [if_neg c2] at e
          rw [if_neg c2]
          exact ⟨_, rfl, by rw [e], by rw [e], rfl, r1, i5.trans a3⟩
      · rw [if_neg c] at e
        rw [if_neg c]
        exact ⟨_, rfl, by rw [e], by rw [e], rfl, i4, i5⟩
    · intro s ⟨i1, i2, i3, i4, i5⟩
      unfold fX10_attempt_L32
      rw [i1, i2, i3, gr1_0 hS, Option.bind_some, gr2_0 hS, Option.bind_some, gi3 hS, Option.bind_some, i4.1.2.2.1.2.1, if_pos (nI_le (Nat.le_refl _) (by omega))]
      exact ⟨_, rfl, rfl, i4, i5⟩
def x_attempt (A : AS) (t : Int32) : Int32 := if ¬ x_noP A t = 0 then x_noP A t else match as_tr A t.toNatClampNeg with
  | none => 0
  | some x => if sb (as_L A) (as_m A) x.2 x.2.length = 0 then -1 else (af (as_L A) (as_m A) (sb (as_L A) (as_m A) x.2 x.2.length) (lf_n (as_L A))).1
theorem sb_low (L : LF) (m : Int32) (l : List Int64) (k : Nat) : ∃ x, x < 1024 ∧ sb L m l k = nI x := by
  exact b_low (n := 10) (by omega) (fun i h1 h2 => by rw [bt_sb L m l h2, decide_eq_false (by omega), Bool.false_and])
theorem c_attempt {S : sk_S} {d : sk_D} {A : AS} (h : RC S d A) (hA : okA A) (t : Int32) : ∃ d', fX10_attempt S d 1 t = some (x_attempt A t, d') ∧ RC S d' A ∧ Fr cls d d' := by
  have hS := h.1.1
  unfold fX10_attempt x_attempt
  rw [if_pos (kd1 hS), c_noPassed h hA, Option.bind_some]
  by_cases q : x_noP A t = 0
  · rw [if_pos q, if_neg (show ¬ ¬ x_noP A t = 0 from fun a => a q)]
    obtain ⟨j, x, hj, rfl, hx, hl, hg⟩ := x_noP_0 q
    obtain ⟨d1, a1, a2, a3⟩ := c_slipsBy h hA hj hx hg
    obtain ⟨d2, b1, b2, b3⟩ := c_attemptL a2 hA (sb_low (as_L A) (as_m A) x.2 x.2.length)
    rw [nI_clamp (by omega), hx, gr1_6 hS, Option.bind_some, lr52 hS hj, Option.bind_some, rT52 j hj, if_pos (kd1 hS), a1, Option.bind_some]
    dsimp only
    rw [b1]
    exact ⟨d2, rfl, b2, (scr_cls a3).trans (scr_cls b3)⟩
  · rw [if_neg q, if_pos q]
    exact ⟨d, rfl, h, Fr.refl _ _⟩
/-! by the reference -/
theorem m_attempt1 {S : sk_S} {d : sk_D} {A : AS} (h : RM S d A) (hA : okA A) (sl : Int32) {j : Nat} (hj : j < lf_n (as_L A)) :
    ∃ d', sk_itr (fX11_attempt_L70 S 94 (nI j) sl) ((0 : Int32), (0 : Int32), d) = some (pc (aby (as_L A) (as_m A) sl j), d') ∧ Fr CStubKeepLaw_law_r1379_07d26a.scm d d' := by
  have hS := h.1.1
  have loop := it_for (body := fX11_attempt_L70 S 94 (nI j) sl) (fun z s => s.1 = s3 (fun i => if bt (aby (as_L A) (as_m A) sl j) i = true then 1 else 0) z ∧ s.2.1 = nI z ∧ Fr CStubKeepLaw_law_r1379_07d26a.scm d s.2.2) 10
    (fun e => e.1 = pc (aby (as_L A) (as_m A) sl j) ∧ Fr CStubKeepLaw_law_r1379_07d26a.scm d e.2) ?_ ?_ (s := ((0 : Int32), (0 : Int32), d)) ⟨rfl, rfl, Fr.refl _ _⟩
  · obtain ⟨e, he, e1, e2⟩ := loop
    exact ⟨e.2, by rw [he, ← e1], e2⟩
  · intro z s hz ⟨i1, i2, i3⟩
    left
    have r := RM.scm h hA.2.2.2.1 i3
    have e : s3 (fun i => if bt (aby (as_L A) (as_m A) sl j) i = true then 1 else 0) (z + 1) = s3 (fun i => if bt (aby (as_L A) (as_m A) sl j) i = true then 1 else 0) z + (if bt (aby (as_L A) (as_m A) sl j) z = true then 1 else 0) := rfl
    have eb : bt (aby (as_L A) (as_m A) sl j) z = (bt sl z && passes (as_L A) j (ln (as_m A)) (nI z)) := by
      unfold aby; rw [b_and, bt_spB _ _ _ (by omega) 10 (Nat.le_refl _), decide_eq_true hz, Bool.true_and]
    rw [eb] at e
    unfold fX11_attempt_L70
    rw [i1, i2, if_neg (show ¬ (10 : Int32) ≤ nI z from nI_ge (b := 10) hz (by omega)), f_isIn _ _ _ (by omega), Option.bind_some, nI_1]
    cases b : bt sl z with
    | true =>
      obtain ⟨d1, a1, a2⟩ := m_passes r.1 hA.2.1.z hj (nI z)
      rw [b, Bool.true_and] at e
      rw [if_pos rfl, if_pos (kd94 hS), m_stand hS r.2.1.1.1, Option.bind_some, if_pos (kd94 hS), a1, Option.bind_some]
      dsimp only
      cases p : passes (as_L A) j (ln (as_m A)) (nI z) with
      | true => rw [p, if_pos rfl] at e; rw [if_pos rfl]; exact ⟨_, rfl, e.symm, rfl, i3.trans a2⟩
      | false => rw [p, if_neg (by decide)] at e; rw [if_neg (by decide)]; exact ⟨_, rfl, e.symm, rfl, i3.trans a2⟩
    | false =>
      rw [b, Bool.false_and, if_neg (by decide)] at e
      rw [if_neg (by decide)]
      exact ⟨_, rfl, e.symm, rfl, i3⟩
  · intro s ⟨i1, i2, i3⟩
    unfold fX11_attempt_L70
    rw [i1, i2, if_pos (show (10 : Int32) ≤ nI 10 by decide)]
    exact ⟨_, rfl, rfl, i3⟩
theorem m_attemptL {S : sk_S} {d : sk_D} {A : AS} (h : RM S d A) (hA : okA A) (sl : Int32) :
    ∃ d', sk_itr (fX11_attempt_L32 S 94 sl) ((-1 : Int32), (-1 : Int32), (0 : Int32), d) = some ((if sl = 0 then -1 else (af (as_L A) (as_m A) sl (lf_n (as_L A))).1), d') ∧ Fr CStubKeepLaw_law_r1379_07d26a.scm d d' := by
  have hS := h.1.1
  have hn := hA.1.1
  by_cases z0 : sl = 0
  · rw [if_pos z0]
    have e : fX11_attempt_L32 S 94 sl ((-1 : Int32), (-1 : Int32), (0 : Int32), d) = some (.inr ((-1 : Int32), d)) := by
      unfold fX11_attempt_L32
      rw [gr94_1 hS, Option.bind_some, l95_1 hS, Option.bind_some]
      dsimp only
      rw [if_pos z0]
      split <;> rfl
    have loop := it_for (body := fX11_attempt_L32 S 94 sl) (fun _ s => s = ((-1 : Int32), (-1 : Int32), (0 : Int32), d)) 0 (fun e => e = ((-1 : Int32), d)) (fun k s hk => by omega) (fun s hs => by rw [hs, e]; exact ⟨_, rfl, rfl⟩) (s := ((-1 : Int32), (-1 : Int32), (0 : Int32), d)) rfl
    obtain ⟨x, x1, x2⟩ := loop
    exact ⟨d, by rw [x1, x2], Fr.refl _ _⟩
  · rw [if_neg z0]
    have loop := it_for (body := fX11_attempt_L32 S 94 sl) (fun k s => s.1 = (af (as_L A) (as_m A) sl k).1 ∧ s.2.1 = (af (as_L A) (as_m A) sl k).2 ∧ s.2.2.1 = nI k ∧ Fr CStubKeepLaw_law_r1379_07d26a.scm d s.2.2.2) (lf_n (as_L A))
      (fun e => e.1 = (af (as_L A) (as_m A) sl (lf_n (as_L A))).1 ∧ Fr CStubKeepLaw_law_r1379_07d26a.scm d e.2) ?_ ?_ (s := ((-1 : Int32), (-1 : Int32), (0 : Int32), d)) ⟨rfl, rfl, rfl, Fr.refl _ _⟩
    · obtain ⟨e, he, e1, e2⟩ := loop
      exact ⟨e.2, by rw [he, ← e1], e2⟩
    · intro k s hk ⟨i1, i2, i3, i5⟩
      left
      have r := RM.scm h hA.2.2.2.1 i5
      have e := af_s (as_L A) (as_m A) sl k
      unfold fX11_attempt_L32
      rw [i1, i2, i3, gr94_1 hS, Option.bind_some, l95_1 hS, Option.bind_some, r.1.2.2.2.1, if_neg (nI_ge hk (by omega)), if_neg z0, Option.bind_some, p74, li95 hS _ (show 74 + k < 3225 by omega), Option.bind_some, show s.2.2.2.1 95 (74 + k) = mood (as_m A) k from r.2.1.1.1 _ (by omega), nI_1]
      by_cases c : mood (as_m A) k = 3
      · obtain ⟨d1, a1, a2⟩ := m_attempt1 r hA sl hk
        rw [if_pos c, als_m] at e
        rw [if_pos c, a1, Option.bind_some]
        dsimp only
        rw [m_bits, Option.bind_some, Option.bind_some, pc_split]
        by_cases c1 : pc (aot (as_L A) (as_m A) sl k) ≤ pc (aby (as_L A) (as_m A) sl k)
        · rw [if_pos c1] at e
          rw [if_pos c1]
          by_cases c2 : pc (aot (as_L A) (as_m A) sl k) ≤ (af (as_L A) (as_m A) sl k).2
          · rw [if_pos c2] at e
            rw [if_neg (by rw [Int32.not_lt]; exact c2)]
            exact ⟨_, rfl, by rw [e], by rw [e], rfl, i5.trans a2⟩
          · rw [if_neg c2] at e
            rw [if_pos (by rw [← Int32.not_le]; exact c2)]
            exact ⟨_, rfl, by rw [e], by rw [e], rfl, i5.trans a2⟩
        · rw [if_neg c1] at e
          rw [if_neg c1]
          by_cases c2 : pc (aby (as_L A) (as_m A) sl k) ≤ (af (as_L A) (as_m A) sl k).2
          · rw [if_pos c2] at e
            rw [if_neg (by rw [Int32.not_lt]; exact c2)]
            exact ⟨_, rfl, by rw [e], by rw [e], rfl, i5.trans a2⟩
          · rw [if_neg c2] at e
            rw [if_pos (by rw [← Int32.not_le]; exact c2)]
            exact ⟨_, rfl, by rw [e], by rw [e], rfl, i5.trans a2⟩
      · rw [if_neg c] at e
        rw [if_neg c]
        exact ⟨_, rfl, by rw [e], by rw [e], rfl, i5⟩
    · intro s ⟨i1, i2, i3, i5⟩
      have r := RM.scm h hA.2.2.2.1 i5
      unfold fX11_attempt_L32
      rw [i1, i2, i3, gr94_1 hS, Option.bind_some, l95_1 hS, Option.bind_some, r.1.2.2.2.1, if_pos (nI_le (Nat.le_refl _) (by omega))]
      exact ⟨_, rfl, rfl, i5⟩
theorem m_attempt {S : sk_S} {d : sk_D} {A : AS} (h : RM S d A) (hA : okA A) (t : Int32) : ∃ d', fX11_attempt S d 94 t = some (x_attempt A t, d') ∧ RM S d' A ∧ Fr mdl d d' := by
  have hS := h.1.1
  have h0 := h.m0 0
  unfold fX11_attempt x_attempt
  rw [pi94 hS, Option.bind_some, if_pos (kd94 hS), m_noSlips h0 hA, Option.bind_some]
  by_cases q : x_noP A t = 0
  · rw [if_pos q, if_neg (show ¬ ¬ x_noP A t = 0 from fun a => a q)]
    obtain ⟨j, x, hj, rfl, hx, hl, hg⟩ := x_noP_0 q
    obtain ⟨d1, a1, a2⟩ := m_slipsOf h0 hA hj hx hg
    have r1 := RM.scm h0 hA.2.2.2.1 a2
    obtain ⟨d2, b1, b2⟩ := m_attemptL r1 hA (sb (as_L A) (as_m A) x.2 x.2.length)
    rw [nI_clamp (by omega), hx, if_pos (kd94 hS), a1, Option.bind_some]
    dsimp only
    rw [b1]
    exact ⟨d2, rfl, RM.scm r1 hA.2.2.2.1 b2, ((mfr0 d 0).2.2.2.2.trans (scm_mdl a2)).trans (scm_mdl b2)⟩
  · rw [if_neg q, if_pos q]
    exact ⟨_, rfl, h0, (mfr0 d 0).2.2.2.2⟩
