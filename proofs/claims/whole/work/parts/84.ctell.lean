/-! orders as calls of the class -/
theorem b_255x {L : LF} {m : Int32} (h : okM L m) : lowD L (dn m) := dn_n h
theorem lN_ten : ∀ a, a < 100 → (lN a).toInt32 / 10 = nI (a / 10) ∧ (lN a).toInt32 - (lN a).toInt32 / 10 * 10 = nI (a % 10) ∧ lN a / 10 = (nI (a / 10)).toInt64 ∧ lN a - lN a / 10 * 10 = (nI (a % 10)).toInt64 := by decide +kernel
def tgd (D : Int32) (v : Int64) : Bool := decide (0 ≤ v.toInt ∧ v.toInt < 100) && decide (vN v / 10 ≠ vN v % 10) && bt D (vN v / 10) && bt D (vN v % 10)
theorem tgd_l {D : Int32} {a : Nat} (h : a < 100) : tgd D (lN a) = (decide (a / 10 ≠ a % 10) && bt D (a / 10) && bt D (a % 10)) := by
  unfold tgd
  rw [lNt (by omega), vN_l (by omega), decide_eq_true (by omega), Bool.true_and]
def tb (L : LF) (x : List Int64) : Nat → Nat → Int32
  | 0, e => lf_v L 5 e
  | k + 1, e => if e = vN (x.getD k 0) % 10 then tb L x k e ||| b1 (vN (x.getD k 0) / 10) else tb L x k e
def tbA (L : LF) (x : List Int64) (a b : Nat) (e : Nat) : Int32 := if e = b then tb L x x.length e ||| b1 a else tb L x x.length e
theorem c_tell {S : sk_S} {L : LF} (hS : Sh S) (hn : lf_n L ≤ 8) {D : Int32} {bf : Nat → Int32} {d : sk_D} (hc : COr L d D bf) {a b : Nat} (hb : b < 8) : ∃ d', fX3_tell S d 45 (nI a) (nI b) = some d' ∧ Fr (fun b => b = 46) d d' ∧ COr L d' D (fun e => if e = b then bf e ||| b1 a else bf e) := by
  unfold fX3_tell
  rw [if_neg (nI_pos (by omega)), if_neg (show ¬ (8 : Int32) ≤ nI b from nI_ge (b := 8) hb (by omega)), gr45_0 hS, Option.bind_some, li46 hS _ hb, Option.bind_some, si46 hS _ _ hb, Option.bind_some]
  refine ⟨_, rfl, Fr.uI _ rfl, by rw [uI_a _ _ _ _ _ (by omega)]; exact hc.1, fun e he => ?_⟩
  by_cases c : e = b
  · subst c
    dsimp only
    rw [uI_s, if_pos rfl, hc.2 e he]
    rfl
  · dsimp only
    rw [uI_k _ _ _ _ _ c, if_neg c, hc.2 e he]
theorem c_tellNumber {S : sk_S} {L : LF} (hS : Sh S) (hn : lf_n L ≤ 8) {D : Int32} {bf : Nat → Int32} (hD : lowD L D) {d : sk_D} (hc : COr L d D bf) (v : Int64) : ∃ d', fX3_tellNumber S d 45 v = some (tgd D v, d') ∧ Fr (fun b => b = 46) d d' ∧ (tgd D v = true → COr L d' D (fun e => if e = vN v % 10 then bf e ||| b1 (vN v / 10) else bf e)) := by
  have no : tgd D v = false → ∃ d', (some (false, d) : Option (Bool × sk_D)) = some (tgd D v, d') ∧ Fr (fun b => b = 46) d d' ∧ (tgd D v = true → COr L d' D (fun e => if e = vN v % 10 then bf e ||| b1 (vN v / 10) else bf e)) := fun a => ⟨d, by rw [a], Fr.refl _ _, fun b => by rw [a] at b; exact absurd b (by decide)⟩
  unfold fX3_tellNumber
  by_cases q1 : v < 0
  · rw [if_pos q1]
    apply no
    unfold tgd
    rw [Int64.lt_iff_toInt_lt] at q1
    have : (0 : Int64).toInt = 0 := rfl
    rw [decide_eq_false (by omega)]; rfl
  · rw [if_neg q1]
    by_cases q2 : v ≤ 99
    · obtain ⟨a, ha, rfl⟩ : ∃ a, a < 100 ∧ v = lN a := lNof (by
        rw [Int64.lt_iff_toInt_lt] at q1
        have : (0 : Int64).toInt = 0 := rfl
        omega) (by
        rw [Int64.le_iff_toInt_le] at q2
        have : (99 : Int64).toInt = 99 := rfl
        omega) (by omega)
      obtain ⟨t1, t2, -, -⟩ := lN_ten a ha
      rw [if_pos q2, t2, t1]
      rw [tgd_l ha] at no ⊢
      rw [vN_l (by omega)] at no ⊢
      by_cases q3 : a / 10 = a % 10
      · rw [if_pos (by rw [q3])]
        exact no (by rw [decide_eq_false (by omega)]; rfl)
      · rw [if_neg (by rw [nI_eq (by omega) (by omega)]; exact q3), gi45 hS, Option.bind_some, hc.1]
        cases b1 : bt D (a / 10) with
        | false =>
          rw [if_pos ((t_0 D (by omega)).mpr b1)]
          rw [b1] at no
          exact no (by simp)
        | true =>
          rw [if_neg (fun x => by rw [(t_0 D (by omega)).mp x] at b1; exact absurd b1 (by decide)), Option.bind_some]
          cases b2 : bt D (a % 10) with
          | false =>
            rw [if_pos ((t_0 D (by omega)).mpr b2)]
            rw [b1, b2] at no
            exact no (by simp)
          | true =>
            have h8 : a % 10 < 8 := by
              rcases Nat.lt_or_ge (a % 10) 8 with w | w
              · exact w
              · rw [hD (a % 10) (by omega) (by omega)] at b2; exact absurd b2 (by decide)
            obtain ⟨d', e1, e2, e3⟩ := c_tell hS hn hc (a := a / 10) h8
            rw [if_neg (fun x => by rw [(t_0 D (by omega)).mp x] at b2; exact absurd b2 (by decide)), if_pos (kd45 hS), e1, Option.bind_some, decide_eq_true q3]
            exact ⟨d', rfl, e2, fun _ => e3⟩
    · rw [if_neg q2]
      apply no
      unfold tgd
      rw [Int64.le_iff_toInt_le] at q2
      have : (99 : Int64).toInt = 99 := rfl
      rw [decide_eq_false (by omega)]; rfl
noncomputable def x_tell (A : AS) (t : Int32) : Int32 := if x_noTray A t = 0 then (match as_tr A t.toNatClampNeg with
  | none => 0
  | some x => if x.2.length ≤ 12 then (if fk (fun i => !tgd (dn (as_m A)) (x.2.getD i 0)) x.2.length = none then 0 else -3) else -4) else x_noTray A t
theorem x_tell_j {A : AS} {j : Nat} (hj : j < 4) {x : Int32 × List Int64} (hx : as_tr A j = some x) : x_tell A (nI j) = if x.2.length ≤ 12 then (if fk (fun i => !tgd (dn (as_m A)) (x.2.getD i 0)) x.2.length = none then 0 else -3) else -4 := by
  have e : x_noTray A (nI j) = 0 := by rw [x_noTray_j A hj, hx]; rfl
  unfold x_tell
  rw [if_pos e, nI_clamp (by omega), hx]
theorem x_tell_0 {A : AS} {t : Int32} (h : x_tell A t = 0) : ∃ j x, j < 4 ∧ t = nI j ∧ as_tr A j = some x ∧ x.2.length ≤ 12 ∧ ∀ i, i < x.2.length → tgd (dn (as_m A)) (x.2.getD i 0) = true := by
  by_cases q : x_noTray A t = 0
  · obtain ⟨j, x, hj, rfl, hx⟩ := x_noTray_0 q
    rw [x_tell_j hj hx] at h
    by_cases l : x.2.length ≤ 12
    · rw [if_pos l] at h
      by_cases f : fk (fun i => !tgd (dn (as_m A)) (x.2.getD i 0)) x.2.length = none
      · refine ⟨j, x, hj, rfl, hx, l, fun i hi => ?_⟩
        have := fk_none f i hi
        simpa using this
      · rw [if_neg f] at h; exact absurd h (by decide)
    · rw [if_neg l] at h; exact absurd h (by decide)
  · unfold x_tell at h
    rw [if_neg q] at h
    exact absurd h q
theorem c_begin3 {S : sk_S} {L : LF} (hS : Sh S) (hn : lf_n L ≤ 8) {d : sk_D} (hc : cL d 3 L) (D : Int32) : ∃ d', fX3_begin S d 45 3 D = some d' ∧ Fr cfr d d' ∧ COr L d' D (lf_v L 5) := by
  obtain ⟨e, e1, e2, e3, e4⟩ := cpA (sk_uI d 45 2 D) (kd9 hS) (kd46 hS) (by omega)
  unfold fX3_begin
  rw [pi45 hS, Option.bind_some, gr3_10 hS, Option.bind_some, gr45_0 hS, Option.bind_some, show (8 : Int32) = nI 8 from rfl, e1, Option.bind_some]
  refine ⟨e, rfl, ?_, by rw [e2 45 (by omega), uI_s], fun i hi => ?_⟩
  · intro b hb
    unfold CStubKeepLaw_law_r1379_07d26a.cfr at hb
    exact ⟨by rw [e2 b (by omega), uI_a _ _ _ _ _ (by omega)], by rw [e4]; rfl⟩
  · rw [e3 i (by omega), uI_a _ _ _ _ _ (by omega)]
    exact (cv hc hi).2.2.2.2.2.1
theorem fr46 {d e : sk_D} (f : Fr (fun b => b = 46) d e) : Fr cfr d e := f.mono (fun b hb => by unfold CStubKeepLaw_law_r1379_07d26a.cfr; omega)
theorem fr47 {d e : sk_D} (f : Fr (fun b => b = 47) d e) : Fr cfr d e := f.mono (fun b hb => by unfold CStubKeepLaw_law_r1379_07d26a.cfr; omega)
theorem c_tellOrders {S : sk_S} {d : sk_D} {A : AS} (h : RC S d A) (hA : okA A) (t : Int32) : ∃ d', fX10_tellOrders S d 1 t = some (x_tell A t, d') ∧ Fr cfr d d' ∧ ∀ j x, j < 4 → t = nI j → as_tr A j = some x → x_tell A t = 0 → COr (as_L A) d' (dn (as_m A)) (tb (as_L A) x.2 x.2.length) := by
  have hS := h.1.1
  have hn := hA.1.1
  unfold fX10_tellOrders
  rw [if_pos (kd1 hS), c_noTray h, Option.bind_some]
  by_cases q : x_noTray A t = 0
  · obtain ⟨j, x, hj, rfl, hx⟩ := x_noTray_0 q
    have hl := hA.len j x hx
    have ht := h.2.2.2.2.1 j hj
    rw [hx] at ht
    obtain ⟨-, -, ht2, ht3⟩ := ht
    rw [if_pos q, gr1_6 hS, Option.bind_some, lr52 hS hj, Option.bind_some, rT52 j hj, tgi hS hj, Option.bind_some, ht2, x_tell_j hj hx]
    have uq : ∀ {j' x'}, nI j = nI j' → j' < 4 → as_tr A j' = some x' → x' = x := by
      intro j' x' e1 e2 e3
      rw [nI_eq (by omega) (by omega)] at e1
      subst e1
      rw [hx] at e3
      exact (Option.some.inj e3).symm
    by_cases l : x.2.length ≤ 12
    · obtain ⟨d1, a1, a2, a3⟩ := c_begin3 hS hn h.1.2.2.1 (dn (as_m A))
      rw [if_pos (show nI x.2.length ≤ (12 : Int32) from (nI_leI (b := 12) (by omega) (by omega)).mpr l), if_pos l, gr1_3 hS, Option.bind_some, gr1_0 hS, Option.bind_some, gr2_0 hS, Option.bind_some, gr1_5 hS, Option.bind_some, gi50 hS, Option.bind_some, h.2.1.1, f_dn, Option.bind_some, if_pos (kd45 hS), a1, Option.bind_some]
      have loop := it_for (body := fX10_tellOrders_L58 S 1 (56 + 2 * j)) (fun k s => s.1 = nI k ∧ Fr cfr d s.2 ∧ COr (as_L A) s.2 (dn (as_m A)) (tb (as_L A) x.2 k) ∧ ∀ i, i < k → tgd (dn (as_m A)) (x.2.getD i 0) = true) x.2.length
        (fun e => Fr cfr d e.2 ∧ e.1 = (if fk (fun i => !tgd (dn (as_m A)) (x.2.getD i 0)) x.2.length = none then 0 else -3) ∧ (e.1 = 0 → COr (as_L A) e.2 (dn (as_m A)) (tb (as_L A) x.2 x.2.length))) ?_ ?_ (s := ((0 : Int32), d1)) ⟨rfl, a2, a3, fun i hi => by omega⟩
      · obtain ⟨e, he, e1, e2, e3⟩ := loop
        refine ⟨e.2, by rw [he, ← e2]; rfl, e1, fun j' x' h1 h2 h3 h4 => ?_⟩
        rw [uq h2 h1 h3]
        exact e3 (by rw [e2]; exact h4)
      · intro k s hk ⟨i1, i2, i3, i4⟩
        have r := h.cfr i2
        have ht := r.2.2.2.2.1 j hj
        rw [hx] at ht
        obtain ⟨-, -, ht2, ht3⟩ := ht
        obtain ⟨d2, b1, b2, b3⟩ := c_tellNumber hS hn (dn_n hA.2.1) i3 (x.2.getD k 0)
        unfold fX10_tellOrders_L58
        rw [tgi hS hj, Option.bind_some, ht2, i1, if_neg (nI_ge hk (by omega)), gr1_3 hS, Option.bind_some, if_pos (tkd hS hj), c_at hS hj (show k < 40 by omega), Option.bind_some, show 57 + 2 * j = 56 + 2 * j + 1 by omega, ht3 k hk, if_pos (kd45 hS), b1, Option.bind_some]
        dsimp only
        cases g : tgd (dn (as_m A)) (x.2.getD k 0) with
        | true =>
          left
          rw [if_pos rfl, nI_1]
          refine ⟨_, rfl, rfl, i2.trans (fr46 b2), b3 g, fun i hi => ?_⟩
          rcases Nat.lt_or_ge i k with w | w
          · exact i4 i w
          · rw [show i = k by omega]; exact g
        | false =>
          right
          rw [if_neg (by decide)]
          refine ⟨_, rfl, i2.trans (fr46 b2), ?_, fun a => absurd (show (-3 : Int32) = 0 from a) (by decide)⟩
          rw [if_neg (fun a => by have := fk_none a k hk; rw [g] at this; exact absurd this (by decide))]
      · intro s ⟨i1, i2, i3, i4⟩
        have r := h.cfr i2
        have ht := r.2.2.2.2.1 j hj
        rw [hx] at ht
        obtain ⟨-, -, ht2, ht3⟩ := ht
        unfold fX10_tellOrders_L58
        rw [tgi hS hj, Option.bind_some, ht2, i1, if_pos (nI_le (Nat.le_refl _) (by omega))]
        refine ⟨_, rfl, i2, ?_, fun _ => i3⟩
        rw [if_pos (fk_no (fun i hi => by rw [i4 i hi]; rfl))]
    · rw [if_neg (show ¬ nI x.2.length ≤ (12 : Int32) from fun a => l ((nI_leI (b := 12) (by omega) (by omega)).mp a)), if_neg l]
      exact ⟨d, rfl, Fr.refl _ _, fun _ _ _ _ _ a => absurd a (by decide)⟩
  · have e : x_tell A t = x_noTray A t := by unfold x_tell; rw [if_neg q]
    rw [if_neg q, e]
    exact ⟨d, rfl, Fr.refl _ _, fun _ _ _ _ _ a => absurd a q⟩
noncomputable def xL (A : AS) (t : Int32) : List Int64 := match as_tr A t.toNatClampNeg with
  | none => []
  | some x => x.2
theorem xL_j {A : AS} {j : Nat} (hj : j < 4) {x : Int32 × List Int64} (hx : as_tr A j = some x) : xL A (nI j) = x.2 := by unfold xL; rw [nI_clamp (by omega), hx]
noncomputable def x_orders (A : AS) (t : Int32) : Int32 := if x_tell A t = 0 then nI (tot (tb (as_L A) (xL A t) (xL A t).length) (dn (as_m A))) else x_tell A t
noncomputable def x_order (A : AS) (t p : Int32) : Int32 := if x_tell A t = 0 then (if p < 0 then -3 else x_firstAt (tb (as_L A) (xL A t) (xL A t).length) (dn (as_m A)) p) else x_tell A t
noncomputable def x_ahead (A : AS) (t a b : Int32) : Int32 :=
  if ¬ inN (lf_n (as_L A)) a then -2 else if ¬ inN (lf_n (as_L A)) b then -2 else if a = b then -2 else
  if x_tell A t = 0 then (if bt (as_m A) a.toNatClampNeg = false then -5 else if bt (as_m A) b.toNatClampNeg = false then -5 else nI (tot (tbA (as_L A) (xL A t) a.toNatClampNeg b.toNatClampNeg) (dn (as_m A)))) else x_tell A t
theorem c_orders {S : sk_S} {d : sk_D} {A : AS} (h : RC S d A) (hA : okA A) (t : Int32) : ∃ d', fX10_orders S d 1 t = some (x_orders A t, d') ∧ RC S d' A ∧ Fr cls d d' := by
  have hS := h.1.1
  have hn := hA.1.1
  obtain ⟨d1, a1, a2, a3⟩ := c_tellOrders h hA t
  unfold fX10_orders x_orders
  rw [if_pos (kd1 hS), a1, Option.bind_some]
  dsimp only
  by_cases q : x_tell A t = 0
  · obtain ⟨j, x, hj, e, hx, -, -⟩ := x_tell_0 q
    obtain ⟨d2, b1, b2⟩ := c_total hS hn (dn_n hA.2.1) (a3 j x hj e hx q)
    have f := a2.trans (fr47 b2)
    rw [if_pos q, if_pos q, gr1_3 hS, Option.bind_some, if_pos (kd45 hS), b1, Option.bind_some, e, xL_j hj hx]
    exact ⟨d2, rfl, h.cfr f, cfr_cls f⟩
  · rw [if_neg q, if_neg q]
    exact ⟨d1, rfl, h.cfr a2, cfr_cls a2⟩
theorem c_order {S : sk_S} {d : sk_D} {A : AS} (h : RC S d A) (hA : okA A) (t p : Int32) : ∃ d', fX10_order S d 1 t p = some (x_order A t p, d') ∧ RC S d' A ∧ Fr cls d d' := by
  have hS := h.1.1
  have hn := hA.1.1
  obtain ⟨d1, a1, a2, a3⟩ := c_tellOrders h hA t
  unfold fX10_order x_order
  rw [if_pos (kd1 hS), a1, Option.bind_some]
  dsimp only
  by_cases q : x_tell A t = 0
  · obtain ⟨j, x, hj, e, hx, -, -⟩ := x_tell_0 q
    rw [if_pos q, if_pos q]
    by_cases p0 : p < 0
    · rw [if_neg (by rw [Int32.not_le]; exact p0), if_pos p0]
      exact ⟨d1, rfl, h.cfr a2, cfr_cls a2⟩
    · obtain ⟨d2, b1, b2⟩ := c_firstAt hS hn (dn_n hA.2.1) (a3 j x hj e hx q) p0
      have f := a2.trans (fr47 b2)
      rw [if_pos (by rw [← Int32.not_lt]; exact p0), if_neg p0, gr1_3 hS, Option.bind_some, if_pos (kd45 hS), b1, Option.bind_some, e, xL_j hj hx]
      exact ⟨d2, rfl, h.cfr f, cfr_cls f⟩
  · rw [if_neg q, if_neg q]
    exact ⟨d1, rfl, h.cfr a2, cfr_cls a2⟩
theorem c_ahead {S : sk_S} {d : sk_D} {A : AS} (h : RC S d A) (hA : okA A) (t a b : Int32) : ∃ d', fX10_ahead S d 1 t a b = some (x_ahead A t a b, d') ∧ RC S d' A ∧ Fr cls d d' := by
  have hS := h.1.1
  have hn := hA.1.1
  have no : ∀ v, ∃ d', (some (v, d) : Option (Int32 × sk_D)) = some (v, d') ∧ RC S d' A ∧ Fr cls d d' := fun v => ⟨d, rfl, h, Fr.refl _ _⟩
  unfold fX10_ahead x_ahead
  rw [gr1_0 hS, Option.bind_some, gr2_0 hS, Option.bind_some, if_pos (kd3 hS)]
  have ha := c_hasP hS hA.1 h.1.2.2.1 a
  have hb := c_hasP hS hA.1 h.1.2.2.1 b
  by_cases qa : inN (lf_n (as_L A)) a
  · rw [ha.1 qa, Option.bind_some, if_pos rfl, if_neg (show ¬ ¬ inN (lf_n (as_L A)) a from fun x => x qa), Option.bind_some, gr2_0 hS, Option.bind_some, if_pos (kd3 hS)]
    by_cases qb : inN (lf_n (as_L A)) b
    · rw [hb.1 qb, Option.bind_some, if_pos rfl, if_neg (show ¬ ¬ inN (lf_n (as_L A)) b from fun x => x qb)]
      by_cases ab : a = b
      · rw [if_pos ab, if_pos ab]
        exact no _
      · obtain ⟨d1, a1, a2, a3⟩ := c_tellOrders h hA t
        have r1 := h.cfr a2
        rw [if_neg ab, if_neg ab, if_pos (kd1 hS), a1, Option.bind_some]
        dsimp only
        by_cases q : x_tell A t = 0
        · obtain ⟨j, x, hj, e, hx, -, -⟩ := x_tell_0 q
          obtain ⟨ka, la, rfl⟩ := inN_of qa
          obtain ⟨kb, lb, rfl⟩ := inN_of qb
          rw [if_pos q, if_pos q, if_pos (kd1 hS), c_nd r1 hA, Option.bind_some, x_nd_j A la hn, nI_clamp (by omega), nI_clamp (by omega)]
          cases m1 : bt (as_m A) ka with
          | false =>
            rw [if_neg (show ¬ (false = true) by decide), if_neg (show ¬ ((-5 : Int32) = 0) by decide), if_pos rfl]
            exact ⟨d1, rfl, r1, cfr_cls a2⟩
          | true =>
            rw [if_pos (show (true = true) from rfl), if_pos (show ((0 : Int32) = 0) from rfl), if_neg (show ¬ (true = false) by decide), if_pos (kd1 hS), c_nd r1 hA, Option.bind_some, x_nd_j A lb hn]
            cases m2 : bt (as_m A) kb with
            | false =>
              rw [if_neg (show ¬ (false = true) by decide), if_neg (show ¬ ((-5 : Int32) = 0) by decide), if_pos rfl]
              exact ⟨d1, rfl, r1, cfr_cls a2⟩
            | true =>
              obtain ⟨d2, b1, b2, b3⟩ := c_tell hS hn (a3 j x hj e hx q) (a := ka) (show kb < 8 by omega)
              obtain ⟨d3, c1, c2⟩ := c_total hS hn (dn_n hA.2.1) b3
              have f := (a2.trans (fr46 b2)).trans (fr47 c2)
              rw [if_pos (show (true = true) from rfl), if_pos (show ((0 : Int32) = 0) from rfl), if_neg (show ¬ (true = false) by decide), gr1_3 hS, Option.bind_some, if_pos (kd45 hS), b1, Option.bind_some, Option.bind_some, if_pos (kd45 hS), c1, Option.bind_some, e, xL_j hj hx]
              exact ⟨d3, rfl, h.cfr f, cfr_cls f⟩
        · rw [if_neg q, if_neg q]
          exact ⟨d1, rfl, r1, cfr_cls a2⟩
    · rw [hb.2 qb, Option.bind_some, if_neg (by decide), if_pos qb]
      exact no _
  · rw [ha.2 qa, Option.bind_some, if_neg (by decide), if_pos qa]
    exact no _
