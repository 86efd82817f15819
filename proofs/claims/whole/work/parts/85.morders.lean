/-! orders, by the reference -/
theorem m_isDoneOne {S : sk_S} {d : sk_D} {A : AS} (h : RM S d A) (hA : okA A) {a : Nat} (ha : a < 10) : fX11_isDoneOne S d 94 (nI a).toInt64 = some (bt (dn (as_m A)) a) := by
  have hS := h.1.1
  have hn := hA.1.1
  have hp := m_isDoingP h.1 (nI a)
  unfold fX11_isDoneOne
  rw [if_pos (kd94 hS)]
  rcases Nat.lt_or_ge a (lf_n (as_L A)) with q | q
  · have e : (nI a).toInt64.toInt32 = nI a := (by decide : ∀ a, a < 10 → (nI a).toInt64.toInt32 = nI a) a ha
    have ed : bt (dn (as_m A)) a = bt (as_m A) a := by rw [bt_dn]; simp [show a < 8 by omega]
    rw [hp.1 (inN_nI q (by omega)), Option.bind_some, if_pos rfl, if_pos (kd94 hS), m_stand hS h.2.1.1.1, Option.bind_some, e, f_isDone _ _ _ (show a < 8 by omega), Option.bind_some, ed]
    cases bt (as_m A) a <;> rfl
  · rw [hp.2 (fun x => by unfold inN at x; rw [nI_toInt (by omega)] at x; omega), Option.bind_some, if_neg (by decide), dn_n hA.2.1 a q (by omega)]
theorem m_noOrders {S : sk_S} {d : sk_D} {A : AS} (h : RM S d A) (hA : okA A) (t : Int32) : fX11_noOrders S d 94 t = some (x_tell A t) := by
  have hS := h.1.1
  have hn := hA.1.1
  unfold fX11_noOrders
  rw [if_pos (kd94 hS), m_noTray h hA, Option.bind_some]
  by_cases q : x_noTray A t = 0
  · obtain ⟨j, x, hj, rfl, hx⟩ := x_noTray_0 q
    have hl := hA.len j x hx
    have ht := h.2.2.2.2.1 j hj
    rw [hx] at ht
    rw [if_pos q, x_tell_j hj hx, gr94_35 hS, Option.bind_some, li114 hS _ hj, Option.bind_some, ht.2.1]
    by_cases l : x.2.length ≤ 12
    · rw [if_pos (show nI x.2.length ≤ (12 : Int32) from (nI_leI (b := 12) (by omega) (by omega)).mpr l), if_pos l]
      have loop := it_for (body := fX11_noOrders_L28 S d 94 (nI j)) (fun i s => s = nI i ∧ ∀ e, e < i → tgd (dn (as_m A)) (x.2.getD e 0) = true) x.2.length
        (fun e => e = if fk (fun i => !tgd (dn (as_m A)) (x.2.getD i 0)) x.2.length = none then 0 else -3) ?_ ?_ (s := (0 : Int32)) ⟨rfl, fun e he => by omega⟩
      · obtain ⟨e, he, e1⟩ := loop
        rw [he, e1]; rfl
      · intro i s hi ⟨i1, i2⟩
        have bad : tgd (dn (as_m A)) (x.2.getD i 0) = false → (-3 : Int32) = if fk (fun i => !tgd (dn (as_m A)) (x.2.getD i 0)) x.2.length = none then 0 else -3 := fun b => by
          rw [if_neg (fun a => by have := fk_none a i hi; rw [b] at this; exact absurd this (by decide))]
        have nx : tgd (dn (as_m A)) (x.2.getD i 0) = true → ∀ e, e < i + 1 → tgd (dn (as_m A)) (x.2.getD e 0) = true := fun a e he => by
          rcases Nat.lt_or_ge e i with w | w
          · exact i2 e w
          · rw [show e = i by omega]; exact a
        unfold fX11_noOrders_L28
        rw [i1, gr94_35 hS, Option.bind_some, li114 hS _ hj, Option.bind_some, ht.2.1, if_neg (nI_ge hi (by omega)), gr94_36 hS, Option.bind_some, p40, lj115 hS _ (show 40 * j + i < 160 by omega), Option.bind_some, ht.2.2 i hi, f_within, Option.bind_some]
        obtain ⟨v, hv⟩ : ∃ v, x.2.getD i 0 = v := ⟨_, rfl⟩
        rw [hv] at bad nx ⊢
        have iw : ((0 : Int64) ≤ v ∧ v ≤ 99) ↔ (0 ≤ v.toInt ∧ v.toInt < 100) := by
          rw [fa_le64, fa_le64, show (0 : Int64).toInt = 0 from rfl, show (99 : Int64).toInt = 99 from rfl]; omega
        by_cases c1 : 0 ≤ v.toInt ∧ v.toInt < 100
        · obtain ⟨a, ha, rfl⟩ := lNof (v := v) (n := 100) (by omega) (by omega) (by omega)
          obtain ⟨-, -, t3, t4⟩ := lN_ten a ha
          rw [tgd_l ha] at bad nx
          rw [decide_eq_true (iw.mpr c1), if_pos rfl, t4, t3]
          by_cases q3 : a / 10 = a % 10
          · right
            rw [if_pos (by rw [q3])]
            exact ⟨_, rfl, bad (by rw [decide_eq_false (by omega)]; rfl)⟩
          · rw [if_neg (fun e => by have := congrArg Int64.toInt e; rw [Int32.toInt_toInt64, Int32.toInt_toInt64, nI_toInt (by omega), nI_toInt (by omega)] at this; omega), if_pos (kd94 hS), m_isDoneOne h hA (by omega), Option.bind_some]
            rw [decide_eq_true q3] at bad nx
            cases b1 : bt (dn (as_m A)) (a / 10) with
            | false =>
              right
              rw [if_neg (by decide)]
              rw [b1] at bad
              exact ⟨_, rfl, bad (by simp)⟩
            | true =>
              rw [if_pos rfl, if_pos (kd94 hS), m_isDoneOne h hA (by omega), Option.bind_some]
              cases b2 : bt (dn (as_m A)) (a % 10) with
              | false =>
                right
                rw [if_neg (by decide)]
                rw [b2] at bad
                exact ⟨_, rfl, bad (by simp)⟩
              | true =>
                left
                rw [if_pos rfl, nI_1]
                rw [b1, b2] at nx
                exact ⟨_, rfl, rfl, nx (by simp)⟩
        · right
          rw [decide_eq_false (fun a => c1 (iw.mp a)), if_neg (by decide)]
          exact ⟨_, rfl, bad (by unfold tgd; rw [decide_eq_false c1]; rfl)⟩
      · intro s ⟨i1, i2⟩
        unfold fX11_noOrders_L28
        rw [i1, gr94_35 hS, Option.bind_some, li114 hS _ hj, Option.bind_some, ht.2.1, if_pos (nI_le (Nat.le_refl _) (by omega))]
        exact ⟨_, rfl, by rw [if_pos (fk_no (fun i hi => by rw [i2 i hi]; rfl))]⟩
    · rw [if_neg (show ¬ nI x.2.length ≤ (12 : Int32) from fun a => l ((nI_leI (b := 12) (by omega) (by omega)).mp a)), if_neg l]
  · have e : x_tell A t = x_noTray A t := by unfold x_tell; rw [if_neg q]
    rw [if_neg q, e]
def mo89 (b : Nat) : Prop := b = 108 ∨ b = 109
theorem mo89.free {d e : sk_D} (f : Fr mo89 d e) : Fr mfree d e := f.mono (fun b hb => by unfold mo89 at hb; unfold mfree; omega)
def MOr (L : LF) (d : sk_D) (bf : Nat → Int32) : Prop := ∀ e, e < lf_n L → d.1 108 e = bf e
theorem sub_le {x y : Nat} (hx : x < 256) (hy : y < 256) (h : ∀ i, i < 32 → bt (nI x) i = true → bt (nI y) i = true) : x ≤ y := by
  have e : x &&& y = x := by
    apply Nat.eq_of_testBit_eq
    intro i
    rw [Nat.testBit_and]
    rcases Nat.lt_or_ge i 32 with w | w
    · have := h i w
      rw [b_nI _ _ w, b_nI _ _ w] at this
      cases c : x.testBit i with
      | false => rfl
      | true => rw [this c]; rfl
    · rw [Nat.testBit_lt_two_pow (Nat.lt_of_lt_of_le hx (Nat.le_trans (by decide : 256 ≤ 2 ^ 32) (Nat.pow_le_pow_right (by omega) w)))]; rfl
  rw [← e]
  exact Nat.and_le_right
theorem pn_lt {x y : Int32} (h : ∀ i, i < 32 → bt x i = true → bt y i = true) (hy : ∀ i, 8 ≤ i → i < 32 → bt y i = false) (hne : x ≠ y) : pn x < pn y := by
  have : ∃ j, j < 8 ∧ bt y j = true ∧ bt x j = false := by
    apply Classical.byContradiction
    intro hno
    apply hne
    apply b_ext
    intro i hi
    cases c : bt x i with
    | true => rw [h i hi c]
    | false =>
      cases c2 : bt y i with
      | false => rfl
      | true =>
        exfalso
        rcases Nat.lt_or_ge i 8 with w | w
        · exact hno ⟨i, w, c2, c⟩
        · rw [hy i w hi] at c2; exact absurd c2 (by decide)
  obtain ⟨j, hj, j1, j2⟩ := this
  have e := pn_set hj j2
  have m : pn (x ||| b1 j) ≤ pn y := pn_mono (fun i hi a => by
    rw [bt_set _ (by omega) hi] at a
    simp only [Bool.or_eq_true, decide_eq_true_eq] at a
    rcases a with a | a
    · exact h i hi a
    · rw [a]; exact j1)
  omega
theorem sN_ext (f : Nat → Nat) {n : Nat} : ∀ m, (∀ k, n ≤ k → k < n + m → f k = 0) → sN f (n + m) = sN f n
  | 0, _ => rfl
  | m + 1, h => by
    show sN f (n + m) + f (n + m) = _
    rw [sN_ext f m (fun k a b => h k a (by omega)), h (n + m) (by omega) (by omega), Nat.add_zero]
theorem bt_rest (D A : Int32) {j : Nat} (hj : j < 32) : bt (D &&& (A ^^^ (-1))) j = (bt D j && !bt A j) := by rw [b_and, b_not _ hj]
theorem m_ordIn {S : sk_S} {d : sk_D} {L : LF} (h : MI S d L) {D : Int32} {bf : Nat → Int32} (hb : MOr L d bf) (hD : lowD L D) {i : Nat} (hi : i < 256) (hs : ∀ e, e < 32 → bt (nI i) e = true → bt D e = true) (hne : nI i ≠ D)
    (hv : ∀ j, j < 256 → i < j → (∀ e, e < 32 → bt (nI j) e = true → bt D e = true) → d.1 109 j = nI (UK bf D (pn D - pn (nI j)) (dl D) (nI j))) :
    sk_itr (fX11_laysOrders_L164 S 94 (nI i) d D) ((0 : Int32), (0 : Int32)) = some (nI (UK bf D (pn D - pn (nI i)) (dl D) (nI i))) := by
  obtain ⟨hS, hk, hm⟩ := h
  have hn := hk.1
  have lt := pn_lt hs (fun e h1 h2 => hD e (by omega) h2) hne
  obtain ⟨K, hK⟩ : ∃ K, K + 1 = pn D - pn (nI i) := ⟨pn D - pn (nI i) - 1, by omega⟩
  have e := it_eq (body := fX11_laysOrders_L164 S 94 (nI i) d D) (fun k => (nI (sN (fun j => if okd bf D (nI i) j = true then UK bf D K (dl D) (nI i ||| b1 j) else 0) k), nI k)) (lf_n L) (nI (UK bf D (pn D - pn (nI i)) (dl D) (nI i))) ?_ ?_
  · exact e
  · intro k hkk
    unfold fX11_laysOrders_L164
    dsimp only
    rw [gr94_1 hS, Option.bind_some, l95_1 hS, Option.bind_some, hm.2.1, if_neg (nI_ge hkk (by omega)), f_isIn _ _ _ (by omega), Option.bind_some, bt_rest _ _ (by omega), nI_1, sN]
    by_cases c : (bt D k && !bt (nI i) k) = true
    · have c' := c
      simp only [Bool.and_eq_true, Bool.not_eq_true'] at c'
      rw [if_pos c, gr94_28 hS, Option.bind_some, li108 hS _ (show k < 8 by omega), Option.bind_some, hb k hkk]
      by_cases c2 : (bf k &&& (nI i ^^^ (-1))) = 0
      · obtain ⟨l1, l2, l3⟩ := set_ok i hi k (by omega)
        rw [if_pos c2, gr94_29 hS, Option.bind_some, show ((1 : Int32) <<< (nI k &&& 31)) = b1 k from rfl, ← l1, li109 hS _ l2, Option.bind_some, hv _ l2 (l3 c'.2), l1, if_pos (by unfold okd; rw [c, decide_eq_true c2]; rfl), pn_set (by omega) c'.2, show pn D - (pn (nI i) + 1) = K by omega, nI_add]
        rw [l1]
        intro e he a
        rw [bt_set _ (by omega) he] at a
        simp only [Bool.or_eq_true, decide_eq_true_eq] at a
        rcases a with a | a
        · exact hs e he a
        · rw [a]; exact c'.1
      · rw [if_neg c2, if_neg (by unfold okd; rw [decide_eq_false c2, Bool.and_false]; decide)]
        rfl
    · rw [if_neg c, if_neg (by
        unfold okd
        intro a
        rw [Bool.and_eq_true] at a
        exact c a.1)]
      rfl
  · unfold fX11_laysOrders_L164
    dsimp only
    rw [gr94_1 hS, Option.bind_some, l95_1 hS, Option.bind_some, hm.2.1, if_pos (nI_le (Nat.le_refl _) (by omega)), ← hK]
    have x : sN (fun j => if okd bf D (nI i) j = true then UK bf D K (dl D) (nI i ||| b1 j) else 0) (lf_n L + (8 - lf_n L)) = _ := sN_ext _ _ (fun k h1 h2 => if_neg (by unfold okd; rw [hD k h1 (by omega)]; simp))
    rw [← x, show lf_n L + (8 - lf_n L) = 8 by omega]
    rfl
def mV (bf : Nat → Int32) (D : Int32) (d : sk_D) : Prop := ∀ j, j < 256 → (∀ e, e < 32 → bt (nI j) e = true → bt D e = true) → d.1 109 j = nI (UK bf D (pn D - pn (nI j)) (dl D) (nI j))
theorem MI.o {S : sk_S} {d e : sk_D} {L : LF} (h : MI S d L) (f : Fr mo89 d e) : MI S e L := ⟨h.1, h.2.1, by rw [f.i (b := 95) (by unfold mo89; omega)]; exact h.2.2⟩
theorem m_J126 {S : sk_S} {d : sk_D} {L : LF} (h : MI S d L) {D : Int32} {bf : Nat → Int32} (hb : MOr L d bf) (hD : lowD L D) : ∃ d', fX11_laysOrders_J126 S 94 D d = some (nI (tot bf D), d') ∧ Fr (fun b => b = 109) d d' ∧ mV bf D d' := by
  have hS := h.1
  have hn := h.2.1.1
  obtain ⟨jd, hjd, ejd⟩ := hD.nI hn
  have x89 : ∀ {e e' : sk_D}, Fr (fun b => b = 109) e e' → Fr mo89 e e' := fun f => f.mono (fun b hb => by unfold mo89; omega)
  have hbs : ∀ {e : sk_D}, Fr (fun b => b = 109) d e → MOr L e bf := fun f i hi => by rw [f.i (b := 108) (by omega)]; exact hb i hi
  unfold fX11_laysOrders_J126
  have loop := it_for (body := fX11_laysOrders_L140 S 94 D) (fun k s => s.1 = nI (jd - k) - 1 ∧ Fr (fun b => b = 109) d s.2 ∧ ∀ j, j < 256 → jd - k ≤ j → (∀ e, e < 32 → bt (nI j) e = true → bt D e = true) → s.2.1 109 j = nI (UK bf D (pn D - pn (nI j)) (dl D) (nI j))) jd
    (fun e => e.1 = nI (tot bf D) ∧ Fr (fun b => b = 109) d e.2 ∧ mV bf D e.2) ?_ ?_ (s := (D - 1, sk_uI d 109 jd 1)) ⟨by rw [ejd, Nat.sub_zero], Fr.uI _ rfl, fun j hj h1 h2 => ?_⟩
  · obtain ⟨e, he, e1, e2, e3⟩ := loop
    refine ⟨e.2, ?_, e2, e3⟩
    rw [gr94_29 hS, Option.bind_some]
    conv => lhs; arg 1; rw [ejd]
    rw [si109 hS _ _ hjd, Option.bind_some, he, ← e1]
    rfl
  · intro k s hk ⟨i1, i2, i3⟩
    left
    obtain ⟨q, hq⟩ : ∃ q, jd - k = q + 1 := ⟨jd - k - 1, by omega⟩
    rw [hq, nI_pred] at i1
    unfold fX11_laysOrders_L140
    rw [i1, if_neg (nI_pos (by omega))]
    by_cases c : (nI q &&& (D ^^^ (-1))) = 0
    · have cs := (z_sub _ _).mp c
      have ne : nI q ≠ D := by rw [ejd]; intro a; rw [nI_eq (by omega) (by omega)] at a; omega
      rw [if_pos c, m_ordIn (h.o (x89 i2)) (hbs i2) hD (show q < 256 by omega) cs ne (fun j h1 h2 h3 => i3 j h1 (by omega) h3), Option.bind_some, gr94_29 hS, Option.bind_some, si109 hS _ _ (show q < 256 by omega), Option.bind_some]
      refine ⟨_, rfl, by rw [show jd - (k + 1) = q by omega], i2.trans (Fr.uI _ rfl), fun j h1 h2 h3 => ?_⟩
      by_cases cj : j = q
      · rw [cj, uI_s]
      · rw [uI_k _ _ _ _ _ cj]
        exact i3 j h1 (by omega) h3
    · rw [if_neg c]
      refine ⟨_, rfl, by rw [show jd - (k + 1) = q by omega], i2, fun j h1 h2 h3 => ?_⟩
      by_cases cj : j = q
      · exact absurd ((z_sub _ _).mpr (by rw [← cj]; exact h3)) c
      · exact i3 j h1 (by omega) h3
  · intro s ⟨i1, i2, i3⟩
    unfold fX11_laysOrders_L140
    have i0 := i3 0 (by omega) (by omega) (fun e _ a => by rw [show nI 0 = 0 from rfl, b_0] at a; exact absurd a (by decide))
    rw [i1, Nat.sub_self, if_pos (show nI 0 - 1 < 0 by decide), gr94_29 hS, Option.bind_some, show (0 : Int32) = nI 0 from rfl, li109 hS _ (show 0 < 256 by omega), Option.bind_some, i0]
    exact ⟨_, rfl, rfl, i2, fun j h1 h2 => i3 j h1 (by omega) h2⟩
  · have := sub_le hj hjd (by rw [← ejd]; exact h2)
    have ej : j = jd := by omega
    rw [ej, uI_s, ← ejd, Nat.sub_self]
    show 1 = nI (dl D D)
    unfold dl
    rw [if_pos rfl]
    rfl
