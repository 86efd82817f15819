/-! orders as calls of the reference -/
theorem fr89 {d e : sk_D} (f : Fr (fun b => b = 109) d e) : Fr mo89 d e := f.mono (fun b hb => by unfold mo89; omega)
theorem fr88 {d e : sk_D} (f : Fr (fun b => b = 108) d e) : Fr mo89 d e := f.mono (fun b hb => by unfold mo89; omega)
theorem m_copyNeeds {S : sk_S} {d : sk_D} {L : LF} (h : MI S d L) : ∃ d', sk_itr (fX11_laysOrders_L13 S 94) ((0 : Int32), d) = some d' ∧ Fr (fun b => b = 108) d d' ∧ MOr L d' (lf_v L 5) := by
  have hS := h.1
  have hn := h.2.1.1
  have loop := it_for (body := fX11_laysOrders_L13 S 94) (fun k s => s.1 = nI k ∧ Fr (fun b => b = 108) d s.2 ∧ ∀ e, e < k → s.2.1 108 e = lf_v L 5 e) (lf_n L) (fun e => Fr (fun b => b = 108) d e ∧ MOr L e (lf_v L 5)) ?_ ?_ (s := ((0 : Int32), d)) ⟨rfl, Fr.refl _ _, fun e he => by omega⟩
  · exact loop
  · intro k s hk ⟨i1, i2, i3⟩
    left
    have hm := (h.o (fr88 i2)).2.2
    obtain ⟨-, -, -, -, -, v5, -⟩ := mv hm hk
    unfold fX11_laysOrders_L13
    rw [i1, gr94_1 hS, Option.bind_some, l95_1 hS, Option.bind_some, hm.2.1, if_neg (nI_ge hk (by omega)), gr94_28 hS, Option.bind_some, Option.bind_some, p50, li95 hS _ (show 50 + k < 3225 by omega), Option.bind_some, v5, si108 hS _ _ (show k < 8 by omega), Option.bind_some, nI_1]
    refine ⟨_, rfl, rfl, i2.trans (Fr.uI _ rfl), fun e he => ?_⟩
    by_cases c : e = k
    · rw [c, uI_s]
    · rw [uI_k _ _ _ _ _ c]; exact i3 e (by omega)
  · intro s ⟨i1, i2, i3⟩
    have hm := (h.o (fr88 i2)).2.2
    unfold fX11_laysOrders_L13
    rw [i1, gr94_1 hS, Option.bind_some, l95_1 hS, Option.bind_some, hm.2.1, if_pos (nI_le (Nat.le_refl _) (by omega))]
    exact ⟨_, rfl, i2, i3⟩
theorem RM.o {S : sk_S} {d e : sk_D} {A : AS} (h : RM S d A) (hA : okA A) (f : Fr mo89 d e) : RM S e A := h.free hA (mo89.free f)
theorem m_tellsO {S : sk_S} {d : sk_D} {A : AS} (h : RM S d A) (hA : okA A) {j : Nat} {x : Int32 × List Int64} (hj : j < 4) (hx : as_tr A j = some x) (hg : ∀ i, i < x.2.length → tgd (dn (as_m A)) (x.2.getD i 0) = true) (hb : MOr (as_L A) d (lf_v (as_L A) 5)) :
    ∃ d', sk_itr (fX11_laysOrders_L50 S 94 (nI j)) ((0 : Int32), d) = some d' ∧ Fr (fun b => b = 108) d d' ∧ MOr (as_L A) d' (tb (as_L A) x.2 x.2.length) := by
  have hS := h.1.1
  have hn := hA.1.1
  have hl := hA.len j x hx
  have loop := it_for (body := fX11_laysOrders_L50 S 94 (nI j)) (fun k s => s.1 = nI k ∧ Fr (fun b => b = 108) d s.2 ∧ MOr (as_L A) s.2 (tb (as_L A) x.2 k)) x.2.length (fun e => Fr (fun b => b = 108) d e ∧ MOr (as_L A) e (tb (as_L A) x.2 x.2.length)) ?_ ?_ (s := ((0 : Int32), d)) ⟨rfl, Fr.refl _ _, hb⟩
  · exact loop
  · intro k s hk ⟨i1, i2, i3⟩
    left
    have ht := (h.o hA (fr88 i2)).2.2.2.2.1 j hj
    rw [hx] at ht
    have g := hg k hk
    obtain ⟨v, hv⟩ : ∃ v, x.2.getD k 0 = v := ⟨_, rfl⟩
    unfold fX11_laysOrders_L50
    rw [i1, gr94_35 hS, Option.bind_some, li114 hS _ hj, Option.bind_some, ht.2.1, if_neg (nI_ge hk (by omega)), gr94_28 hS, Option.bind_some, gr94_36 hS, Option.bind_some, p40, lj115 hS _ (show 40 * j + k < 160 by omega), Option.bind_some, ht.2.2 k hk, hv]
    rw [hv] at g
    have g1 : 0 ≤ v.toInt ∧ v.toInt < 100 := by
      unfold tgd at g
      simp only [Bool.and_eq_true, decide_eq_true_eq] at g
      exact g.1.1.1
    obtain ⟨a, ha, rfl⟩ := lNof (v := v) (n := 100) (by omega) (by omega) (by omega)
    rw [tgd_l ha] at g
    simp only [Bool.and_eq_true, decide_eq_true_eq] at g
    obtain ⟨t1, t2, -, -⟩ := lN_ten a ha
    have h8 : a % 10 < lf_n (as_L A) := by
      rcases Nat.lt_or_ge (a % 10) (lf_n (as_L A)) with w | w
      · exact w
      · rw [dn_n hA.2.1 (a % 10) w (by omega)] at g; exact absurd g.2 (by decide)
    rw [t2, li108 hS _ (show a % 10 < 8 by omega), Option.bind_some, Option.bind_some, lj115 hS _ (show 40 * j + k < 160 by omega), Option.bind_some, ht.2.2 k hk, hv, t1, si108 hS _ _ (show a % 10 < 8 by omega), Option.bind_some, nI_1]
    refine ⟨_, rfl, rfl, i2.trans (Fr.uI _ rfl), fun e he => ?_⟩
    show _ = if e = vN (x.2.getD k 0) % 10 then tb (as_L A) x.2 k e ||| b1 (vN (x.2.getD k 0) / 10) else tb (as_L A) x.2 k e
    rw [hv, vN_l (by omega)]
    by_cases c : e = a % 10
    · rw [if_pos c, c, uI_s, i3 (a % 10) h8]; rfl
    · rw [if_neg c, uI_k _ _ _ _ _ c]; exact i3 e he
  · intro s ⟨i1, i2, i3⟩
    have ht := (h.o hA (fr88 i2)).2.2.2.2.1 j hj
    rw [hx] at ht
    unfold fX11_laysOrders_L50
    rw [i1, gr94_35 hS, Option.bind_some, li114 hS _ hj, Option.bind_some, ht.2.1, if_pos (nI_le (Nat.le_refl _) (by omega))]
    exact ⟨_, rfl, i2, i3⟩
theorem m_laysOrders {S : sk_S} {d : sk_D} {A : AS} (h : RM S d A) (hA : okA A) {j : Nat} {x : Int32 × List Int64} (hj : j < 4) (hx : as_tr A j = some x) (hg : ∀ i, i < x.2.length → tgd (dn (as_m A)) (x.2.getD i 0) = true) :
    ∃ d', fX11_laysOrders S d 94 (nI j) (-1) (-1) = some (nI (tot (tb (as_L A) x.2 x.2.length) (dn (as_m A))), d') ∧ Fr mo89 d d' ∧ MOr (as_L A) d' (tb (as_L A) x.2 x.2.length) ∧ mV (tb (as_L A) x.2 x.2.length) (dn (as_m A)) d' := by
  have hS := h.1.1
  obtain ⟨d1, a1, a2, a3⟩ := m_copyNeeds h.1
  have r1 := h.o hA (fr88 a2)
  obtain ⟨d2, b1, b2, b3⟩ := m_tellsO r1 hA hj hx hg a3
  have r2 := r1.o hA (fr88 b2)
  obtain ⟨d3, c1, c2, c3⟩ := m_J126 r2.1 b3 (dn_n hA.2.1)
  unfold fX11_laysOrders
  rw [if_pos (kd94 hS), m_stand hS h.2.1.1.1, Option.bind_some, if_pos (kd94 hS), m_done hS hA.1 h.1.2.2 hA.2.1.z, Option.bind_some, a1, Option.bind_some, b1, Option.bind_some, if_pos rfl, c1]
  exact ⟨d3, rfl, ((fr88 a2).trans (fr88 b2)).trans (fr89 c2), fun e he => by rw [c2.i (b := 108) (by omega)]; exact b3 e he, c3⟩
theorem m_laysOrders2 {S : sk_S} {d : sk_D} {A : AS} (h : RM S d A) (hA : okA A) {j : Nat} {x : Int32 × List Int64} (hj : j < 4) (hx : as_tr A j = some x) (hg : ∀ i, i < x.2.length → tgd (dn (as_m A)) (x.2.getD i 0) = true) {a b : Nat} (ha : a < lf_n (as_L A)) (hb : b < lf_n (as_L A)) :
    ∃ d', fX11_laysOrders S d 94 (nI j) (nI a) (nI b) = some (nI (tot (tbA (as_L A) x.2 a b) (dn (as_m A))), d') ∧ Fr mo89 d d' := by
  have hS := h.1.1
  have hn := hA.1.1
  obtain ⟨d1, a1, a2, a3⟩ := m_copyNeeds h.1
  have r1 := h.o hA (fr88 a2)
  obtain ⟨d2, b1, b2, b3⟩ := m_tellsO r1 hA hj hx hg a3
  have r2 := r1.o hA (fr88 b2)
  have f4 : Fr (fun b => b = 108) d2 (sk_uI d2 108 b (d2.1 108 b ||| ((1 : Int32) <<< (nI a &&& 31)))) := Fr.uI _ rfl
  have m4 : MOr (as_L A) (sk_uI d2 108 b (d2.1 108 b ||| ((1 : Int32) <<< (nI a &&& 31)))) (tbA (as_L A) x.2 a b) := by
    intro e he
    unfold tbA
    by_cases c : e = b
    · rw [if_pos c, c, uI_s, b3 b hb]; rfl
    · rw [if_neg c, uI_k _ _ _ _ _ c]; exact b3 e he
  obtain ⟨d3, c1, c2, c3⟩ := m_J126 (r2.o hA (fr88 f4)).1 m4 (dn_n hA.2.1)
  unfold fX11_laysOrders
  rw [if_pos (kd94 hS), m_stand hS h.2.1.1.1, Option.bind_some, if_pos (kd94 hS), m_done hS hA.1 h.1.2.2 hA.2.1.z, Option.bind_some, a1, Option.bind_some, b1, Option.bind_some, if_neg (fun a => (by decide : ∀ x, x < 9 → (-1 : Int32) ≠ nI x) _ (by omega) a.symm), gr94_28 hS, Option.bind_some, li108 hS _ (show b < 8 by omega), Option.bind_some, si108 hS _ _ (show b < 8 by omega), Option.bind_some, c1]
  exact ⟨d3, rfl, (((fr88 a2).trans (fr88 b2)).trans (fr88 f4)).trans (fr89 c2)⟩
theorem o_mdl {d e : sk_D} (f : Fr mo89 (sk_uI d 94 0 0) e) : Fr mdl d e := (mfr0 d 0).2.2.2.2.trans (mfr.of (mo89.free f)).2.2.2.2
theorem m_orders {S : sk_S} {d : sk_D} {A : AS} (h : RM S d A) (hA : okA A) (t : Int32) : ∃ d', fX11_orders S d 94 t = some (x_orders A t, d') ∧ RM S d' A ∧ Fr mdl d d' := by
  have hS := h.1.1
  have h0 := h.m0 0
  unfold fX11_orders x_orders
  rw [pi94 hS, Option.bind_some, if_pos (kd94 hS), m_noOrders h0 hA, Option.bind_some]
  by_cases q : x_tell A t = 0
  · obtain ⟨j, x, hj, rfl, hx, -, hg⟩ := x_tell_0 q
    obtain ⟨d1, a1, a2, -, -⟩ := m_laysOrders h0 hA hj hx hg
    rw [if_pos q, if_pos q, if_pos (kd94 hS), a1, Option.bind_some, xL_j hj hx]
    exact ⟨d1, rfl, h0.o hA a2, o_mdl a2⟩
  · rw [if_neg q, if_neg q]
    exact ⟨_, rfl, h0, (mfr0 d 0).2.2.2.2⟩
theorem m_ahead {S : sk_S} {d : sk_D} {A : AS} (h : RM S d A) (hA : okA A) (t a b : Int32) : ∃ d', fX11_ahead S d 94 t a b = some (x_ahead A t a b, d') ∧ RM S d' A ∧ Fr mdl d d' := by
  have hS := h.1.1
  have h0 := h.m0 0
  have hn := hA.1.1
  have no : ∀ v, ∃ d', (some (v, sk_uI d 94 0 0) : Option (Int32 × sk_D)) = some (v, d') ∧ RM S d' A ∧ Fr mdl d d' := fun v => ⟨_, rfl, h0, (mfr0 d 0).2.2.2.2⟩
  have ha := m_isDoingP h0.1 a
  have hb := m_isDoingP h0.1 b
  unfold fX11_ahead x_ahead
  rw [pi94 hS, Option.bind_some, f_within, Option.bind_some]
  by_cases w : inN 4 t
  · rw [decide_eq_true ((w_in 4 3 rfl).mpr w), if_pos rfl, if_pos (kd94 hS)]
    by_cases qa : inN (lf_n (as_L A)) a
    · rw [ha.1 qa, Option.bind_some, if_pos rfl, if_neg (show ¬ ¬ inN (lf_n (as_L A)) a from fun x => x qa), if_pos (kd94 hS)]
      by_cases qb : inN (lf_n (as_L A)) b
      · rw [hb.1 qb, Option.bind_some, if_pos rfl, if_neg (show ¬ ¬ inN (lf_n (as_L A)) b from fun x => x qb)]
        by_cases ab : a = b
        · rw [if_pos ab, if_pos ab]
          exact no _
        · rw [if_neg ab, if_neg ab, if_pos (kd94 hS), m_noOrders h0 hA, Option.bind_some]
          by_cases q : x_tell A t = 0
          · obtain ⟨j, x, hj, rfl, hx, -, hg⟩ := x_tell_0 q
            obtain ⟨ka, la, rfl⟩ := inN_of qa
            obtain ⟨kb, lb, rfl⟩ := inN_of qb
            have da : bt (dn (as_m A)) ka = bt (as_m A) ka := by rw [bt_dn]; simp [show ka < 8 by omega]
            have db : bt (dn (as_m A)) kb = bt (as_m A) kb := by rw [bt_dn]; simp [show kb < 8 by omega]
            rw [if_pos q, if_pos q, if_pos (kd94 hS), m_isDoneOne h0 hA (show ka < 10 by omega), Option.bind_some, nI_clamp (by omega), nI_clamp (by omega), da]
            cases m1 : bt (as_m A) ka with
            | false =>
              rw [if_neg (show ¬ (false = true) by decide), if_pos rfl]
              exact no _
            | true =>
              rw [if_pos (show (true = true) from rfl), if_neg (show ¬ (true = false) by decide), if_pos (kd94 hS), m_isDoneOne h0 hA (show kb < 10 by omega), Option.bind_some, db]
              cases m2 : bt (as_m A) kb with
              | false =>
                rw [if_neg (show ¬ (false = true) by decide), if_pos rfl]
                exact no _
              | true =>
                obtain ⟨d1, a1, a2⟩ := m_laysOrders2 h0 hA hj hx hg la lb
                rw [if_pos (show (true = true) from rfl), if_neg (show ¬ (true = false) by decide), if_pos (kd94 hS), a1, Option.bind_some, xL_j hj hx]
                exact ⟨d1, rfl, h0.o hA a2, o_mdl a2⟩
          · rw [if_neg q, if_neg q]
            exact no _
      · rw [hb.2 qb, Option.bind_some, if_neg (by decide), if_pos qb]
        exact no _
    · rw [ha.2 qa, Option.bind_some, if_neg (by decide), if_pos qa]
      exact no _
  · have e1 : x_tell A t = -2 := by
      have e2 : x_noTray A t = -2 := by unfold x_noTray; rw [if_neg w]
      unfold x_tell
      rw [if_neg (by rw [e2]; decide), e2]
    rw [decide_eq_false (fun x => w ((w_in 4 3 rfl).mp x)), if_neg (by decide), e1, if_neg (show ¬ ((-2 : Int32) = 0) by decide)]
    have : (if ¬inN (lf_n (as_L A)) a then (-2 : Int32) else if ¬inN (lf_n (as_L A)) b then -2 else if a = b then -2 else -2) = -2 := by
      split
      · rfl
      · split
        · rfl
        · split <;> rfl
    rw [this]
    exact no _
theorem m_firstIn {S : sk_S} {d : sk_D} {L : LF} (h : MI S d L) {D so : Int32} {bf : Nat → Int32} (hb : MOr L d bf) (hD : lowD L D) (hv : mV bf D d) (tp : 0 < tot bf D) (hs : ∀ e, e < 32 → bt so e = true → bt D e = true) {j : Nat} (hj : fk (okd bf D so) 8 = some j) : sk_itr (fX11_order_L62 S 94 d so D) (0 : Int32) = some (nI j) := by
  have hS := h.1
  have hn := h.2.1.1
  obtain ⟨j8, jo, jb⟩ := fk_some hj
  obtain ⟨o1, o2, o3⟩ := okd_of jo
  obtain ⟨is, his, es⟩ : ∃ i, i < 256 ∧ so = nI i := b_low (n := 8) (by omega) (fun i h1 h2 => by
    cases c : bt so i with
    | false => rfl
    | true => have := hs i h2 c; rw [hD i (by omega) h2] at this; exact absurd this (by decide))
  have e := it_eq (body := fX11_order_L62 S 94 d so D) (fun k => nI k) j (nI j) ?_ ?_
  · exact e
  · intro k hk
    have ok := jb k hk
    unfold fX11_order_L62
    rw [f_isIn _ _ _ (by omega), Option.bind_some, bt_rest _ _ (by omega), nI_1]
    by_cases c : (bt D k && !bt so k) = true
    · have c' := c
      simp only [Bool.and_eq_true, Bool.not_eq_true'] at c'
      have kn : k < lf_n L := by
        rcases Nat.lt_or_ge k (lf_n L) with w | w
        · exact w
        · rw [hD k w (by omega)] at c'; exact absurd c'.1 (by decide)
      have c2 : ¬ (bf k &&& (so ^^^ (-1))) = 0 := by
        intro a
        unfold okd at ok
        rw [c, decide_eq_true a] at ok
        exact absurd ok (by decide)
      rw [if_pos c, gr94_28 hS, Option.bind_some, li108 hS _ (show k < 8 by omega), Option.bind_some, hb k kn, if_neg c2]
    · rw [if_neg c]
  · have jn : j < lf_n L := by
      rcases Nat.lt_or_ge j (lf_n L) with w | w
      · exact w
      · rw [hD j w (by omega)] at o1; exact absurd o1 (by decide)
    have hs2 : ∀ e, e < 32 → bt (so ||| b1 j) e = true → bt D e = true := by
      intro e he a
      rw [bt_set _ (by omega) he] at a
      simp only [Bool.or_eq_true, decide_eq_true_eq] at a
      rcases a with a | a
      · exact hs e he a
      · rw [a]; exact o1
    obtain ⟨l1, l2, -⟩ := set_ok is his j j8
    rw [← es] at l1 l2
    have vv := hv _ l2 (by rw [l1]; exact hs2)
    rw [l1] at vv
    have pos := tot_cp tp hs2
    have lt := UK_lt bf D D (k := pn D - pn (so ||| b1 j)) (by have := pn_le D; omega) (so ||| b1 j)
    unfold fX11_order_L62
    rw [f_isIn _ _ _ (by omega), Option.bind_some, bt_rest _ _ (by omega), o1, o2, if_pos (by decide), gr94_28 hS, Option.bind_some, li108 hS _ j8, Option.bind_some, hb j jn, if_pos o3, gr94_29 hS, Option.bind_some, show ((1 : Int32) <<< (nI j &&& 31)) = b1 j from rfl, ← l1, li109 hS _ l2, Option.bind_some, vv, if_neg]
    rw [show (0 : Int32) = nI 0 from rfl, nI_eq (Nat.lt_trans lt (by decide)) (by omega)]
    omega
theorem m_order {S : sk_S} {d : sk_D} {A : AS} (h : RM S d A) (hA : okA A) (t p : Int32) : ∃ d', fX11_order S d 94 t p = some (x_order A t p, d') ∧ RM S d' A ∧ Fr mdl d d' := by
  have hS := h.1.1
  have h0 := h.m0 0
  have hn := hA.1.1
  unfold fX11_order x_order
  rw [pi94 hS, Option.bind_some, if_pos (kd94 hS), m_noOrders h0 hA, Option.bind_some]
  by_cases q : x_tell A t = 0
  · obtain ⟨j, x, hj, rfl, hx, -, hg⟩ := x_tell_0 q
    rw [if_pos q, if_pos q]
    by_cases p0 : p < 0
    · rw [if_neg (by rw [Int32.not_le]; exact p0), if_pos p0]
      exact ⟨_, rfl, h0, (mfr0 d 0).2.2.2.2⟩
    · obtain ⟨i, hi, rfl⟩ : ∃ i, i < 2 ^ 31 ∧ p = nI i := inN_of (by
        unfold inN
        rw [Int32.lt_iff_toInt_lt] at p0
        have : (0 : Int32).toInt = 0 := rfl
        have := Int32.toInt_lt p
        omega)
      obtain ⟨d1, a1, a2, a3, a4⟩ := m_laysOrders h0 hA hj hx hg
      have r1 := h0.o hA a2
      have h8 := pn_le (dn (as_m A))
      have hD : lowD (as_L A) (dn (as_m A)) := dn_n hA.2.1
      rw [if_pos (by rw [← Int32.not_lt]; exact p0), if_neg p0, if_pos (kd94 hS), m_stand hS h0.2.1.1.1, Option.bind_some, if_pos (kd94 hS), m_done hS hA.1 h0.1.2.2 hA.2.1.z, Option.bind_some, if_pos (kd94 hS), a1, Option.bind_some, xL_j hj hx]
      dsimp only
      generalize tb (as_L A) x.2 x.2.length = bf at *
      generalize dn (as_m A) = D at *
      unfold x_firstAt
      by_cases t0 : tot bf D = 0
      · rw [if_pos (tot_0.mpr t0), if_pos t0]
        exact ⟨d1, by split <;> rfl, r1, o_mdl a2⟩
      · have tp : 0 < tot bf D := by omega
        rw [if_neg (fun a => t0 (tot_0.mp a)), if_neg t0, nI_clamp hi]
        have loop := it_for (body := fX11_order_L52 S 94 (nI i) d1 D) (fun k s => s.1 = sos bf D k ∧ s.2 = nI k) (min i (pn D)) (fun e => e = (if nI (pn D) ≤ nI i then (-1 : Int32) else oI (fk (okd bf D (sos bf D i)) 8), d1)) ?_ ?_ (s := ((0 : Int32), (0 : Int32))) ⟨rfl, rfl⟩
        · obtain ⟨e, he, e1⟩ := loop
          exact ⟨d1, by rw [he, e1]; rfl, r1, o_mdl a2⟩
        · intro k s hk ⟨i1, i2⟩
          left
          obtain ⟨s1, s2⟩ := sos_ok tp k (by omega)
          obtain ⟨y, y1, y2⟩ := sos_fk tp (i := k) (by omega)
          unfold fX11_order_L52
          rw [i1, i2, if_neg (fun a => by rw [a] at s2; omega), m_firstIn r1.1 a3 hD a4 tp s1 y2, Option.bind_some, if_neg (by rw [nI_eq (by omega) (by omega)]; omega), nI_1]
          exact ⟨_, rfl, (sos_s y2).symm, rfl⟩
        · intro s ⟨i1, i2⟩
          obtain ⟨s1, s2⟩ := sos_ok tp (min i (pn D)) (by omega)
          unfold fX11_order_L52
          rw [i1, i2]
          by_cases c : pn D ≤ i
          · rw [Nat.min_eq_right c] at s1 s2 ⊢
            have eD : sos bf D (pn D) = D := by
              apply Classical.byContradiction
              intro hne
              have := pn_lt s1 (fun e h1 h2 => hD e (by omega) h2) hne
              omega
            rw [if_pos eD, if_pos ((nI_leI (by omega) (by omega)).mpr c)]
            exact ⟨_, rfl, rfl⟩
          · rw [Nat.min_eq_left (by omega)] at s1 s2 ⊢
            obtain ⟨y, y1, y2⟩ := sos_fk tp (i := i) (by omega)
            rw [if_neg (fun a => by rw [a] at s2; omega), m_firstIn r1.1 a3 hD a4 tp s1 y2, Option.bind_some, if_pos rfl, if_neg (fun a => c ((nI_leI (by omega) (by omega)).mp a)), y2]
            exact ⟨_, rfl, rfl⟩
  · rw [if_neg q, if_neg q]
    exact ⟨_, rfl, h0, (mfr0 d 0).2.2.2.2⟩
