/-! the class's machine of the laws -/
def PL (f : Nat → Int32) : List Int32 → Prop
  | [] => True
  | x :: r => f r.length = x ∧ PL f r
theorem PL.up {f g : Nat → Int32} : ∀ {st : List Int32}, (∀ i, i < st.length → g i = f i) → PL f st → PL g st
  | [], _, _ => True.intro
  | x :: r, h, hp => ⟨by rw [h r.length (by simp)]; exact hp.1, PL.up (fun i hi => h i (by simp; omega)) hp.2⟩
theorem f_clamp (v : Int64) : fX1_both_J118 v = some (cl6 v) := by
  unfold fX1_both_J118 cl6
  have e1 : (1000000 : Int64).toInt = 1000000 := rfl
  have e2 : (-1000000 : Int64).toInt = -1000000 := rfl
  by_cases h1 : v < 1000000
  · have h2 : v ≤ 1000000 := by rw [fa_le64]; rw [fa_lt64] at h1; omega
    rw [if_pos h2, if_pos h1]
    by_cases h3 : (-1000000 : Int64) ≤ v
    · rw [if_pos h3, if_neg (by rw [Int64.not_lt]; exact h3)]
    · rw [if_neg h3, if_pos (by rw [← Int64.not_le]; exact h3)]; rfl
  · rw [if_neg h1, if_neg (by decide : ¬ (1000000 : Int64) < -1000000)]
    by_cases h2 : v ≤ 1000000
    · have : v = 1000000 := by
        rw [fa_eq64]; rw [fa_le64] at h2; rw [fa_lt64] at h1; omega
      subst this
      rfl
    · rw [if_neg h2]; rfl
theorem f_both (S : sk_S) (d : sk_D) (c a b : Int32) : fX1_both S d c a b = some (bo c a b) := by
  unfold fX1_both bo
  simp only [f_clamp]
  repeat' split
  all_goals first | rfl | contradiction
theorem i_neg6 {c : Int32} (h : ¬ 0 ≤ c) (h6 : (-6 : Int32) ≤ c) : ∃ i, i < 6 ∧ (-1 : Int32) - c = nI i := by
  have a1 := (fa_le (-6) c).mp h6
  have a2 : ¬ (0 : Int32).toInt ≤ c.toInt := fun q => h ((fa_le 0 c).mpr q)
  have e6 : (-6 : Int32).toInt = -6 := rfl
  have e0 : (0 : Int32).toInt = 0 := rfl
  have e1 : (-1 : Int32).toInt = -1 := rfl
  rw [e6] at a1
  rw [e0] at a2
  refine ⟨(-1 - c.toInt).toNat, by omega, ?_⟩
  rw [fa_eq, fb_subI (by rw [e1]; omega) (by rw [e1]; omega), e1, nI_toInt (by omega)]
  omega
set_option maxHeartbeats 1000000 in
theorem c_holds {S : sk_S} {d : sk_D} {a : Nat} (hS : Sh S) (ha : a = 12 ∨ a = 15) {w : List Int32} {t : Nat} (hw : cW d a w) (hok : okW t w) (hne : w ≠ []) {g : Nat → Int32} (hg : ∀ i, i < 6 → d.1 20 i = g i) :
    ∃ d', fX1_holds S d a 20 = some (ev g w, d') ∧ Fr (fun b => b = a + 2) d d' := by
  obtain ⟨v, hv01, hv⟩ := hok.2.1 hne g
  have hlen := hok.1
  have kO : ∀ (e : sk_D) (k : Nat), sk_gI S e a 1 k = some (e.1 a k) := by rcases ha with rfl | rfl <;> intro e k <;> simp only [kd12 hS, gi12 hS, pi12 hS, gr12_0 hS, gr12_1 hS, kd15 hS, gi15 hS, pi15 hS, gr15_0 hS, gr15_1 hS]
  have k0 : sk_gR S a 1 0 = some (a + 1) := by rcases ha with rfl | rfl <;> simp only [kd12 hS, gi12 hS, pi12 hS, gr12_0 hS, gr12_1 hS, kd15 hS, gi15 hS, pi15 hS, gr15_0 hS, gr15_1 hS]
  have k1 : sk_gR S a 1 1 = some (a + 2) := by rcases ha with rfl | rfl <;> simp only [kd12 hS, gi12 hS, pi12 hS, gr12_0 hS, gr12_1 hS, kd15 hS, gi15 hS, pi15 hS, gr15_0 hS, gr15_1 hS]
  have kl : ∀ (e : sk_D) {j : Nat}, j < 900 → sk_lI S e (a + 1) 20 (nI j) = some (e.1 (a + 1) j) := by
    rcases ha with rfl | rfl
    · intro e j hj; exact li13 hS e hj
    · intro e j hj; exact li16 hS e hj
  have kp : ∀ (e : sk_D) {j : Nat}, j < 64 → sk_lI S e (a + 2) 20 (nI j) = some (e.1 (a + 2) j) := by
    rcases ha with rfl | rfl
    · intro e j hj; exact li14 hS e hj
    · intro e j hj; exact li17 hS e hj
  have ks : ∀ (e : sk_D) (x : Int32) {j : Nat}, j < 64 → sk_sI S e (a + 2) 20 (nI j) x = some (sk_uI e (a + 2) j x) := by
    rcases ha with rfl | rfl
    · intro e x j hj; exact si14 hS e x hj
    · intro e x j hj; exact si17 hS e x hj
  have ha2 : a + 1 ≠ a + 2 ∧ a ≠ a + 2 ∧ 20 ≠ a + 2 := by omega
  have loop := it_for (body := fX1_holds_L13 S a 20) (fun k s => ∃ st, rn g 64 (w.drop k) st = some [v] ∧ s.1 = nI st.length ∧ s.2.1 = nI k ∧ Fr (fun b => b = a + 2) d s.2.2 ∧ PL (s.2.2.1 (a + 2)) st ∧ st.length ≤ 64) w.length
    (fun e => e.1 = nI 1 ∧ Fr (fun b => b = a + 2) d e.2 ∧ e.2.1 (a + 2) 0 = v) ?_ ?_ (s := ((0 : Int32), (0 : Int32), d)) ⟨[], by simpa using hv, rfl, rfl, Fr.refl _ _, True.intro, by simp⟩
  · obtain ⟨e, he, e1, e2, e3⟩ := loop
    refine ⟨e.2, ?_, e2⟩
    unfold fX1_holds
    have h6 : (6 : Int32) ≤ nI 6 := by decide
    simp (disch := omega) only [Option.bind_some, ↓reduceIte, nI_leI, nI_ltI, nI_eq, nI_1, al20 hS, h6, he]
    rw [e1, if_neg (by decide), k1, Option.bind_some, show (0 : Int32) = nI 0 from rfl, kp _ (by omega), Option.bind_some, e3]
    unfold ev
    rw [hv]
    rcases hv01 with rfl | rfl
    · rfl
    · rfl
  · intro k s hk ⟨st, i1, i2, i3, i4, i5, i6⟩
    have hd : w.drop k = w.getD k 0 :: w.drop (k + 1) := by
      rw [List.drop_eq_getElem_cons hk, List.getD_eq_getElem?_getD, List.getElem?_eq_getElem hk]; rfl
    rw [hd, rn] at i1
    obtain ⟨st2, r1, r2⟩ := sk_ob i1
    have e1 : s.2.2.1 (a + 1) k = w.getD k 0 := by rw [i4.i (b := a + 1) (by omega)]; exact hw.2 k hk
    have e2 : s.2.2.1 a 2 = nI w.length := by rw [i4.i (b := a) (by omega)]; exact hw.1
    have hx : ¬ w.length ≤ k := by omega
    have h9 : ¬ (900 : Int32) ≤ nI k := nI_ge (b := 900) (by omega) (by omega)
    left
    generalize w.getD k 0 = c at r1 e1
    unfold fX1_holds_L13
    rw [kO, Option.bind_some, e2, i3]
    simp (disch := omega) only [Option.bind_some, ↓reduceIte, nI_leI, nI_ltI, nI_eq, nI_1, hx, h9]
    rw [k0, Option.bind_some, kl _ (by omega), Option.bind_some, e1]
    unfold rs at r1
    by_cases c0 : 0 ≤ c
    · have n6 : ¬ c < (-6 : Int32) := by
        intro q; have := Int32.lt_iff_toInt_lt.mp q; have := Int32.le_iff_toInt_le.mp c0; simp at *; omega
      rw [if_pos c0] at r1
      obtain ⟨⟨q1, q2⟩, r1⟩ := sk_ib r1
      cases r1
      have h64 : ¬ (64 : Int32) ≤ nI st.length := nI_ge (b := 64) q2 (by omega)
      rw [if_neg n6, i2, if_neg h64, k1, Option.bind_some, if_neg (by rw [Int32.not_lt]; exact c0), ks _ _ q2, Option.bind_some]
      refine ⟨_, rfl, c :: st, r2, by rw [nI_1]; rfl, by rw [nI_1], i4.trans (Fr.uI _ rfl), ⟨uI_s _ _ _ _, PL.up (fun i hi => uI_k _ _ _ _ _ (by omega)) i5⟩, by simp; omega⟩
    · rw [if_neg c0] at r1
      by_cases c6 : (-6 : Int32) ≤ c
      · rw [if_pos c6] at r1
        obtain ⟨q2, r1⟩ := sk_ib r1
        cases r1
        have n6 : ¬ c < (-6 : Int32) := by rw [Int32.not_lt]; exact c6
        have h64 : ¬ (64 : Int32) ≤ nI st.length := nI_ge (b := 64) q2 (by omega)
        have cn : c < 0 := by rw [← Int32.not_le]; exact c0
        obtain ⟨i, hi, ei⟩ := i_neg6 c0 c6
        rw [if_neg n6, i2, if_neg h64, k1, Option.bind_some, if_pos cn, ei, li20 hS _ hi, Option.bind_some, i4.i (b := 20) (by omega), hg i hi, ks _ _ q2, Option.bind_some]
        refine ⟨_, rfl, g i :: st, ?_, by rw [nI_1]; rfl, by rw [nI_1], i4.trans (Fr.uI _ rfl), ⟨uI_s _ _ _ _, PL.up (fun i hi => uI_k _ _ _ _ _ (by omega)) i5⟩, by simp; omega⟩
        rw [ei, nI_clamp (by omega)] at r2
        exact r2
      · rw [if_neg c6] at r1
        have n6 : c < (-6 : Int32) := by rw [← Int32.not_le]; exact c6
        rw [if_pos n6]
        unfold fX1_holds_J77i13
        by_cases c15 : c = (-15 : Int32)
        · rw [if_pos c15] at r1
          rw [if_pos c15]
          cases st with
          | nil => cases r1
          | cons x r =>
            cases r1
            have hl : r.length + 1 ≤ 64 := by simpa using i6
            have h0 : ¬ nI (r.length + 1) ≤ 0 := nI_nle (by omega) (by omega)
            have es : nI (r.length + 1) - 1 = nI r.length := nI_pred _
            rw [i2, List.length_cons, if_neg h0, k1, Option.bind_some, Option.bind_some, es, kp _ (by omega), Option.bind_some, ks _ _ (by omega), Option.bind_some, i5.1]
            refine ⟨_, rfl, (1 - x) :: r, r2, rfl, by rw [nI_1], i4.trans (Fr.uI _ rfl), ⟨uI_s _ _ _ _, PL.up (fun i hi => uI_k _ _ _ _ _ (by omega)) i5.2⟩, by simp; omega⟩
        · rw [if_neg c15] at r1
          rw [if_neg c15]
          obtain ⟨q2, r1⟩ := sk_ib r1
          cases st with
          | nil => cases r1
          | cons b r =>
            cases r with
            | nil => cases r1
            | cons x r =>
              cases r1
              have hl : r.length + 2 ≤ 64 := by simpa using i6
              have h0 : ¬ nI (r.length + 1 + 1) ≤ 1 := nI_ge (a := 1) (by omega) (by omega)
              have es : nI (r.length + 1 + 1) - 1 = nI (r.length + 1) := nI_pred _
              have es2 : nI (r.length + 1) - 1 = nI r.length := nI_pred _
              unfold fX1_holds_J109i13
              rw [i2, List.length_cons, List.length_cons, if_neg h0, k1, Option.bind_some, Option.bind_some, es, es2, kp _ (by omega), Option.bind_some, Option.bind_some, kp _ (by omega), Option.bind_some, f_both, Option.bind_some, ks _ _ (by omega), Option.bind_some]
              have p1 := i5.1
              have p2 := i5.2.1
              rw [List.length_cons] at p1
              rw [p1, p2]
              refine ⟨_, rfl, bo c x b :: r, r2, rfl, by rw [nI_1], i4.trans (Fr.uI _ rfl), ⟨uI_s _ _ _ _, PL.up (fun i hi => uI_k _ _ _ _ _ (by omega)) i5.2.2⟩, by simp; omega⟩
  · intro s ⟨st, i1, i2, i3, i4, i5, i6⟩
    have e2 : s.2.2.1 a 2 = nI w.length := by rw [i4.i (b := a) (by omega)]; exact hw.1
    rw [List.drop_length] at i1
    cases i1
    unfold fX1_holds_L13
    rw [kO, Option.bind_some, e2, i3, if_pos (nI_le (Nat.le_refl _) (by omega))]
    exact ⟨_, rfl, i2, i4, i5.1⟩
