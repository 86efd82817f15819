/-! slips that fit what is told -/
theorem lNt {a : Nat} (h : a < 1000) : (lN a).toInt = a := Int64.toInt_ofNat_of_lt (by omega)
theorem lNof {v : Int64} {n : Nat} (h0 : 0 ≤ v.toInt) (h1 : v.toInt < n) (hn : n ≤ 1000) : ∃ a, a < n ∧ v = lN a := ⟨v.toInt.toNat, by omega, by rw [fa_eq64, lNt (by omega)]; omega⟩
def vN (v : Int64) : Nat := v.toInt.toNat
theorem vN_l {a : Nat} (h : a < 1000) : vN (lN a) = a := by unfold vN; rw [lNt h]; omega
def gdb (L : LF) (m : Int32) (v : Int64) : Bool := decide (0 ≤ v.toInt ∧ v.toInt < 2 * lf_n L) && decide (mood m (vN v / 2) = 3)
theorem gdb_of {L : LF} (hk : okL L) {m : Int32} {v : Int64} (h : gdb L m v = true) : ∃ a, a < 2 * lf_n L ∧ v = lN a ∧ mood m (a / 2) = 3 := by
  have hn := hk.1
  unfold gdb at h
  simp only [Bool.and_eq_true, decide_eq_true_eq] at h
  obtain ⟨a, ha, e⟩ := lNof (n := 2 * lf_n L) h.1.1 (by omega) (by omega)
  refine ⟨a, ha, e, ?_⟩
  have := h.2
  rw [e, vN_l (by omega)] at this
  exact this
theorem lN_half {a : Nat} (h : a < 1000) : (lN a).toInt32 / 2 = nI (a / 2) ∧ (lN a).toInt32 - (lN a).toInt32 / 2 * 2 = nI (a % 2) := by
  rw [lN_i, show (2 : Int32) = nI 2 from rfl, pk_div (by omega) (by omega) (by omega), pk_mul, pk_sub (by omega), show a - a / 2 * 2 = a % 2 by omega]
  exact ⟨rfl, rfl⟩
def gdf (L : LF) (m : Int32) (l : List Int64) (k : Nat) : Option Nat := fk (fun i => !gdb L m (l.getD i 0)) k
def nP (L : LF) (m : Int32) (l : List Int64) : Int32 := if l.length < 1 ∨ 12 < l.length then -4 else if (gdf L m l l.length).isNone = true then 0 else -3
def x_noP (A : AS) (t : Int32) : Int32 := if ¬ x_noTray A t = 0 then x_noTray A t else match as_tr A t.toNatClampNeg with
  | none => 0
  | some x => nP (as_L A) (as_m A) x.2
theorem gdf_none {L : LF} {m : Int32} {l : List Int64} {k : Nat} (h : ∀ i, i < k → gdb L m (l.getD i 0) = true) : gdf L m l k = none := fk_no (fun i hi => by rw [h i hi]; rfl)
theorem gdf_some {L : LF} {m : Int32} {l : List Int64} {k n : Nat} (hk : k < n) (h : ∀ i, i < k → gdb L m (l.getD i 0) = true) (h2 : gdb L m (l.getD k 0) = false) : gdf L m l n = some k := fk_is hk (by rw [h2]; rfl) (fun i hi => by rw [h i hi]; rfl)
theorem c_noPassed {S : sk_S} {d : sk_D} {A : AS} (h : RC S d A) (hA : okA A) (t : Int32) : fX10_noPassed S d 1 t = some (x_noP A t) := by
  have hS := h.1.1
  have hk := hA.1
  have hn := hk.1
  have hc := h.1.2.2.1
  have e2 : ∀ n, n ≤ 8 → ((2 : Int32) * nI n).toInt64.toInt = 2 * (n : Int) := by decide
  unfold fX10_noPassed x_noP
  rw [if_pos (kd1 hS), c_noTray h, Option.bind_some]
  by_cases q : x_noTray A t = 0
  · rw [if_pos q, if_neg (show ¬ ¬ x_noTray A t = 0 from fun a => a q)]
    obtain ⟨j, x, hj, rfl, hx⟩ := x_noTray_0 q
    have hl := hA.len j x hx
    have ht := h.2.2.2.2.1 j hj
    rw [hx] at ht
    rw [nI_clamp (by omega), hx]
    unfold nP
    dsimp only
    rw [gr1_6 hS, Option.bind_some, lr52 hS hj, Option.bind_some, rT52 j hj, tgi hS hj, Option.bind_some, ht.2.2.1]
    by_cases q1 : x.2.length < 1
    · rw [if_pos (show nI x.2.length < 1 from (nI_ltI (b := 1) (by omega) (by omega)).mpr q1), if_pos (Or.inl q1)]
    · rw [if_neg (show ¬ nI x.2.length < 1 from fun a => q1 ((nI_ltI (b := 1) (by omega) (by omega)).mp a)), Option.bind_some]
      by_cases q2 : x.2.length ≤ 12
      · rw [if_pos (show nI x.2.length ≤ 12 from (nI_leI (b := 12) (by omega) (by omega)).mpr q2), if_neg (show ¬ (x.2.length < 1 ∨ 12 < x.2.length) by omega)]
        have loop := it_for (body := fX10_noPassed_L42 S d 1 (56 + 2 * j)) (fun i s => s = nI i ∧ ∀ e, e < i → gdb (as_L A) (as_m A) (x.2.getD e 0) = true) x.2.length
          (fun e => e = if (gdf (as_L A) (as_m A) x.2 x.2.length).isNone = true then 0 else -3) ?_ ?_ (s := (0 : Int32)) ⟨rfl, fun e he => by omega⟩
        · obtain ⟨e, he, e1⟩ := loop
          rw [he, e1]; rfl
        · intro i s hi ⟨i1, i2⟩
          have gv : d.2 (57 + 2 * j) i = x.2.getD i 0 := by rw [show 57 + 2 * j = 56 + 2 * j + 1 by omega]; exact ht.2.2.2 i hi
          have bad : gdb (as_L A) (as_m A) (x.2.getD i 0) = false → (-3 : Int32) = if (gdf (as_L A) (as_m A) x.2 x.2.length).isNone = true then 0 else -3 := fun b => by rw [gdf_some hi i2 b]; rfl
          unfold fX10_noPassed_L42
          rw [i1, tgi hS hj, Option.bind_some, ht.2.2.1, if_neg (nI_ge hi (by omega)), if_pos (tkd hS hj), c_at hS hj (by omega), Option.bind_some, gv]
          obtain ⟨v, hv⟩ : ∃ v, x.2.getD i 0 = v := ⟨_, rfl⟩
          rw [hv] at bad ⊢
          by_cases c1 : v < 0
          · right
            rw [if_pos c1]
            rw [fa_lt64, show (0 : Int64).toInt = 0 from rfl] at c1
            exact ⟨_, rfl, bad (by unfold gdb; rw [decide_eq_false (by omega)]; rfl)⟩
          · rw [if_neg c1, gr1_0 hS, Option.bind_some, gr2_0 hS, Option.bind_some, gi3 hS, Option.bind_some, hc.2.1]
            rw [fa_lt64, show (0 : Int64).toInt = 0 from rfl] at c1
            by_cases c2 : ((2 : Int32) * nI (lf_n (as_L A))).toInt64 ≤ v
            · right
              rw [if_pos c2]
              rw [fa_le64, e2 _ hn] at c2
              exact ⟨_, rfl, bad (by unfold gdb; rw [decide_eq_false (by omega)]; rfl)⟩
            · rw [if_neg c2, gr1_5 hS, Option.bind_some, gi50 hS, Option.bind_some, h.2.1.1]
              rw [fa_le64, e2 _ hn] at c2
              obtain ⟨a, ha, rfl⟩ := lNof (v := v) (n := 2 * lf_n (as_L A)) (by omega) (by omega) (by omega)
              have g : gdb (as_L A) (as_m A) (lN a) = decide (mood (as_m A) (a / 2) = 3) := by
                unfold gdb; rw [vN_l (by omega), decide_eq_true (by omega), Bool.true_and]
              rw [(lN_half (a := a) (by omega)).1, f_mood S d _ (show a / 2 < 8 by omega), Option.bind_some]
              by_cases c3 : mood (as_m A) (a / 2) = 3
              · left
                rw [if_pos c3, nI_1]
                refine ⟨_, rfl, rfl, fun e he => ?_⟩
                rcases Nat.lt_or_ge e i with r | r
                · exact i2 e r
                · rw [show e = i by omega, hv, g, decide_eq_true c3]
              · right
                rw [if_neg c3]
                exact ⟨_, rfl, bad (by rw [g, decide_eq_false c3])⟩
        · intro s ⟨i1, i2⟩
          unfold fX10_noPassed_L42
          rw [i1, tgi hS hj, Option.bind_some, ht.2.2.1, if_pos (nI_le (Nat.le_refl _) (by omega)), gdf_none i2]
          exact ⟨_, rfl, rfl⟩
      · rw [if_neg (show ¬ nI x.2.length ≤ 12 from fun a => q2 ((nI_leI (b := 12) (by omega) (by omega)).mp a)), if_pos (Or.inr (by omega))]
  · rw [if_neg q, if_pos q]
theorem m_noSlips {S : sk_S} {d : sk_D} {A : AS} (h : RM S d A) (hA : okA A) (t : Int32) : fX11_noSlips S d 94 t = some (x_noP A t) := by
  have hS := h.1.1
  have hk := hA.1
  have hn := hk.1
  have hm := h.1.2.2
  have e2 : ∀ n, n ≤ 8 → ((2 : Int64) * (nI n).toInt64 - 1).toInt = 2 * (n : Int) - 1 := by decide
  unfold fX11_noSlips x_noP
  rw [if_pos (kd94 hS), m_noTray h hA, Option.bind_some]
  by_cases q : x_noTray A t = 0
  · rw [if_pos q, if_neg (show ¬ ¬ x_noTray A t = 0 from fun a => a q)]
    obtain ⟨j, x, hj, rfl, hx⟩ := x_noTray_0 q
    have hl := hA.len j x hx
    have ht := h.2.2.2.2.1 j hj
    rw [hx] at ht
    rw [nI_clamp (by omega), hx]
    unfold nP
    dsimp only
    rw [gr94_35 hS, Option.bind_some, li114 hS _ hj, Option.bind_some, ht.2.1, f_within, Option.bind_some]
    have ew : ((1 : Int64) ≤ (nI x.2.length).toInt64 ∧ (nI x.2.length).toInt64 ≤ 12) ↔ ¬ (x.2.length < 1 ∨ 12 < x.2.length) := by
      rw [fa_le64, fa_le64, Int32.toInt_toInt64, nI_toInt (by omega), show (1 : Int64).toInt = 1 from rfl, show (12 : Int64).toInt = 12 from rfl]
      omega
    by_cases q1 : x.2.length < 1 ∨ 12 < x.2.length
    · rw [decide_eq_false (fun a => ew.mp a q1), if_neg (by decide), if_pos q1]
    · rw [decide_eq_true (ew.mpr q1), if_pos rfl, if_neg q1]
      have loop := it_for (body := fX11_noSlips_L34 S d 94 (nI j)) (fun i s => s = nI i ∧ ∀ e, e < i → gdb (as_L A) (as_m A) (x.2.getD e 0) = true) x.2.length
        (fun e => e = if (gdf (as_L A) (as_m A) x.2 x.2.length).isNone = true then 0 else -3) ?_ ?_ (s := (0 : Int32)) ⟨rfl, fun e he => by omega⟩
      · obtain ⟨e, he, e1⟩ := loop
        rw [he, e1]; rfl
      · intro i s hi ⟨i1, i2⟩
        have bad : gdb (as_L A) (as_m A) (x.2.getD i 0) = false → (-3 : Int32) = if (gdf (as_L A) (as_m A) x.2 x.2.length).isNone = true then 0 else -3 := fun b => by rw [gdf_some hi i2 b]; rfl
        unfold fX11_noSlips_L34
        rw [i1, gr94_35 hS, Option.bind_some, li114 hS _ hj, Option.bind_some, ht.2.1, if_neg (nI_ge hi (by omega)), gr94_36 hS, Option.bind_some, show (40 : Int32) = nI 40 from rfl, pk_mul, nI_add, lj115 hS _ (show 40 * j + i < 160 by omega), Option.bind_some, ht.2.2 i hi, gr94_1 hS, Option.bind_some, l95_1 hS, Option.bind_some, hm.2.1, f_within, Option.bind_some]
        obtain ⟨v, hv⟩ : ∃ v, x.2.getD i 0 = v := ⟨_, rfl⟩
        rw [hv] at bad ⊢
        have iw : ((0 : Int64) ≤ v ∧ v ≤ (2 : Int64) * (nI (lf_n (as_L A))).toInt64 - 1) ↔ (0 ≤ v.toInt ∧ v.toInt < 2 * lf_n (as_L A)) := by
          rw [fa_le64, fa_le64, e2 _ hn, show (0 : Int64).toInt = 0 from rfl]; omega
        by_cases c1 : 0 ≤ v.toInt ∧ v.toInt < 2 * lf_n (as_L A)
        · obtain ⟨a, ha, rfl⟩ := lNof (v := v) (n := 2 * lf_n (as_L A)) (by omega) (by omega) (by omega)
          have g : gdb (as_L A) (as_m A) (lN a) = decide (mood (as_m A) (a / 2) = 3) := by
            unfold gdb; rw [vN_l (by omega), decide_eq_true c1, Bool.true_and]
          rw [decide_eq_true (iw.mpr c1), if_pos rfl, Option.bind_some, (lN_half (a := a) (by omega)).1, p74, li95 hS _ (show 74 + a / 2 < 3225 by omega), Option.bind_some, show d.1 95 (74 + a / 2) = mood (as_m A) (a / 2) from h.2.1.1.1 _ (by omega)]
          by_cases c3 : mood (as_m A) (a / 2) = 3
          · left
            rw [if_pos c3, nI_1]
            refine ⟨_, rfl, rfl, fun e he => ?_⟩
            rcases Nat.lt_or_ge e i with r | r
            · exact i2 e r
            · rw [show e = i by omega, hv, g, decide_eq_true c3]
          · right
            rw [if_neg c3]
            exact ⟨_, rfl, bad (by rw [g, decide_eq_false c3])⟩
        · right
          rw [decide_eq_false (fun a => c1 (iw.mp a)), if_neg (by decide)]
          exact ⟨_, rfl, bad (by unfold gdb; rw [decide_eq_false c1]; rfl)⟩
      · intro s ⟨i1, i2⟩
        unfold fX11_noSlips_L34
        rw [i1, gr94_35 hS, Option.bind_some, li114 hS _ hj, Option.bind_some, ht.2.1, if_pos (nI_le (Nat.le_refl _) (by omega)), gdf_none i2]
        exact ⟨_, rfl, rfl⟩
  · rw [if_neg q, if_pos q]
theorem x_noP_0 {A : AS} {t : Int32} (h : x_noP A t = 0) : ∃ j x, j < 4 ∧ t = nI j ∧ as_tr A j = some x ∧ x.2.length ≤ 12 ∧ ∀ i, i < x.2.length → gdb (as_L A) (as_m A) (x.2.getD i 0) = true := by
  unfold x_noP at h
  by_cases q : x_noTray A t = 0
  · rw [if_neg (show ¬ ¬ x_noTray A t = 0 from fun a => a q)] at h
    obtain ⟨j, x, hj, rfl, hx⟩ := x_noTray_0 q
    rw [nI_clamp (by omega), hx] at h
    dsimp only at h
    unfold nP at h
    by_cases q1 : x.2.length < 1 ∨ 12 < x.2.length
    · rw [if_pos q1] at h; exact absurd h (by decide)
    · rw [if_neg q1] at h
      refine ⟨j, x, hj, rfl, hx, by omega, ?_⟩
      cases o : gdf (as_L A) (as_m A) x.2 x.2.length with
      | some k => rw [o] at h; exact absurd (show (-3 : Int32) = 0 from h) (by decide)
      | none =>
        intro i hi
        have := fk_none o i hi
        simpa using this
  · rw [if_pos q] at h; exact absurd h q
/-! the slips by which one passes -/
def spB (L : LF) (j : Nat) (l : Int32) : Nat → Int32
  | 0 => 0
  | k + 1 => if passes L j l (nI k) = true then spB L j l k ||| ((1 : Int32) <<< (nI k &&& 31)) else spB L j l k
theorem bt_spB (L : LF) (j : Nat) (l : Int32) {i : Nat} (hi : i < 32) : ∀ k, k ≤ 10 → bt (spB L j l k) i = (decide (i < k) && passes L j l (nI i))
  | 0, _ => by rw [show spB L j l 0 = 0 from rfl, b_0]; simp
  | k + 1, hk => by
    have ih := bt_spB L j l hi k (by omega)
    rw [show spB L j l (k + 1) = if passes L j l (nI k) = true then spB L j l k ||| ((1 : Int32) <<< (nI k &&& 31)) else spB L j l k from rfl]
    by_cases c : i = k
    · subst c
      cases p : passes L j l (nI i) with
      | true => rw [if_pos rfl, b_or, b_one hi hi]; simp
      | false => rw [if_neg (by decide), ih, p]; simp
    · have e : decide (i < k + 1) = decide (i < k) := by
        by_cases r : i < k
        · rw [decide_eq_true r, decide_eq_true (by omega)]
        · rw [decide_eq_false r, decide_eq_false (by omega)]
      rw [e, ← ih]
      split
      · rw [b_or, b_one (by omega) hi, decide_eq_false c, Bool.or_false]
      · rfl
theorem c_slipsPassing {S : sk_S} {d : sk_D} {L : LF} (h : CI S d L) {j : Nat} (hj : j < lf_n L) (m : Int32) :
    ∃ d', fX9_slipsPassing S d 2 (nI j) (ln m) = some (spB L j (ln m) 10, d') ∧ CI S d' L ∧ Fr scr d d' := by
  have hS := h.1
  obtain ⟨l, hl, el⟩ := ln_nI m
  unfold fX9_slipsPassing
  have loop := it_for (body := fX9_slipsPassing_L5 S 2 (nI j) (ln m)) (fun k s => s.1 = spB L j (ln m) k ∧ s.2.1 = nI k ∧ CI S s.2.2 L ∧ Fr scr d s.2.2) 10
    (fun e => e.1 = spB L j (ln m) 10 ∧ CI S e.2 L ∧ Fr scr d e.2) ?_ ?_ (s := ((0 : Int32), (0 : Int32), d)) ⟨rfl, rfl, h, Fr.refl _ _⟩
  · obtain ⟨e, he, e1, e2, e3⟩ := loop
    exact ⟨e.2, by rw [he, ← e1]; rfl, e2, e3⟩
  · intro k s hk ⟨i1, i2, i3, i4⟩
    left
    obtain ⟨d1, a1, a2, a3⟩ := c_passes i3 (z := k) hj hl hk
    rw [← el] at a1
    unfold fX9_slipsPassing_L5
    rw [i1, i2, if_neg (show ¬ (10 : Int32) ≤ nI k from nI_ge (b := 10) hk (by omega)), if_pos (kd2 hS), a1, Option.bind_some, nI_1]
    have e : spB L j (ln m) (k + 1) = if passes L j (ln m) (nI k) = true then spB L j (ln m) k ||| ((1 : Int32) <<< (nI k &&& 31)) else spB L j (ln m) k := rfl
    dsimp only
    cases p : passes L j (ln m) (nI k) with
    | true => rw [p, if_pos rfl] at e; rw [if_pos rfl]; exact ⟨_, rfl, e.symm, rfl, a2, i4.trans a3⟩
    | false => rw [p, if_neg (by decide)] at e; rw [if_neg (by decide)]; exact ⟨_, rfl, e.symm, rfl, a2, i4.trans a3⟩
  · intro s ⟨i1, i2, i3, i4⟩
    unfold fX9_slipsPassing_L5
    rw [i1, i2, if_pos (show (10 : Int32) ≤ nI 10 by decide)]
    exact ⟨_, rfl, rfl, i3, i4⟩
def sbs (L : LF) (m : Int32) (v : Int64) : Int32 := if vN v % 2 = 1 then spB L (vN v / 2) (ln m) 10 else spB L (vN v / 2) (ln m) 10 ^^^ (-1)
def sb (L : LF) (m : Int32) (l : List Int64) : Nat → Int32
  | 0 => 1023
  | i + 1 => sb L m l i &&& sbs L m (l.getD i 0)
theorem c_slipsBy {S : sk_S} {d : sk_D} {A : AS} (h : RC S d A) (hA : okA A) {j : Nat} (hj : j < 4) {x : Int32 × List Int64} (hx : as_tr A j = some x) (hg : ∀ i, i < x.2.length → gdb (as_L A) (as_m A) (x.2.getD i 0) = true) :
    ∃ d', fX10_slipsBy S d 1 (56 + 2 * j) = some (sb (as_L A) (as_m A) x.2 x.2.length, d') ∧ RC S d' A ∧ Fr scr d d' := by
  have hS := h.1.1
  have hn := hA.1.1
  have hl := hA.len j x hx
  have n1 : ∀ k, k < 2 → (nI k = 1 ↔ k = 1) := by decide
  unfold fX10_slipsBy
  have loop := it_for (body := fX10_slipsBy_L6 S 1 (56 + 2 * j)) (fun i s => s.1 = sb (as_L A) (as_m A) x.2 i ∧ s.2.1 = nI i ∧ RC S s.2.2 A ∧ Fr scr d s.2.2) x.2.length
    (fun e => e.1 = sb (as_L A) (as_m A) x.2 x.2.length ∧ RC S e.2 A ∧ Fr scr d e.2) ?_ ?_ (s := ((1023 : Int32), (0 : Int32), d)) ⟨rfl, rfl, h, Fr.refl _ _⟩
  · obtain ⟨e, he, e1, e2, e3⟩ := loop
    exact ⟨e.2, by rw [he, ← e1]; rfl, e2, e3⟩
  · intro i s hi ⟨i1, i2, i3, i4⟩
    left
    have ht := i3.2.2.2.2.1 j hj
    rw [hx] at ht
    have gv : s.2.2.2 (57 + 2 * j) i = x.2.getD i 0 := by rw [show 57 + 2 * j = 56 + 2 * j + 1 by omega]; exact ht.2.2.2 i hi
    obtain ⟨a, ha, ea, -⟩ := gdb_of hA.1 (hg i hi)
    obtain ⟨d1, a1, a2, a3⟩ := c_slipsPassing i3.1 (show a / 2 < lf_n (as_L A) by omega) (as_m A)
    have r1 := i3.scrx a2 a3
    have e : sb (as_L A) (as_m A) x.2 (i + 1) = sb (as_L A) (as_m A) x.2 i &&& sbs (as_L A) (as_m A) (lN a) := by rw [← ea]; rfl
    unfold sbs at e
    rw [vN_l (by omega)] at e
    unfold fX10_slipsBy_L6
    rw [i1, i2, tgi hS hj, Option.bind_some, ht.2.2.1, if_neg (nI_ge hi (by omega)), if_pos (tkd hS hj), c_at hS hj (by omega), Option.bind_some, gv, ea, gr1_0 hS, Option.bind_some, gr1_5 hS, Option.bind_some, gi50 hS, Option.bind_some, i3.2.1.1, f_ln, Option.bind_some, if_pos (kd2 hS), (lN_half (a := a) (by omega)).2, (lN_half (a := a) (by omega)).1, a1, Option.bind_some, nI_1]
    dsimp only
    by_cases c : a % 2 = 1
    · rw [if_pos c] at e
      rw [if_pos ((n1 _ (by omega)).mpr c)]
      exact ⟨_, rfl, e.symm, rfl, r1, i4.trans a3⟩
    · rw [if_neg c] at e
      rw [if_neg (fun q => c ((n1 _ (by omega)).mp q))]
      exact ⟨_, rfl, e.symm, rfl, r1, i4.trans a3⟩
  · intro s ⟨i1, i2, i3, i4⟩
    have ht := i3.2.2.2.2.1 j hj
    rw [hx] at ht
    unfold fX10_slipsBy_L6
    rw [i1, i2, tgi hS hj, Option.bind_some, ht.2.2.1, if_pos (nI_le (Nat.le_refl _) (by omega))]
    exact ⟨_, rfl, rfl, i3, i4⟩
def x_slips (A : AS) (t : Int32) : Int32 := if ¬ x_noP A t = 0 then x_noP A t else match as_tr A t.toNatClampNeg with
  | none => 0
  | some x => sb (as_L A) (as_m A) x.2 x.2.length
theorem c_slips {S : sk_S} {d : sk_D} {A : AS} (h : RC S d A) (hA : okA A) (t : Int32) : ∃ d', fX10_slips S d 1 t = some (x_slips A t, d') ∧ RC S d' A ∧ Fr cls d d' := by
  have hS := h.1.1
  unfold fX10_slips x_slips
  rw [if_pos (kd1 hS), c_noPassed h hA, Option.bind_some]
  by_cases q : x_noP A t = 0
  · rw [if_pos q, if_neg (show ¬ ¬ x_noP A t = 0 from fun a => a q)]
    obtain ⟨j, x, hj, rfl, hx, hl, hg⟩ := x_noP_0 q
    obtain ⟨d1, a1, a2, a3⟩ := c_slipsBy h hA hj hx hg
    rw [nI_clamp (by omega), hx, gr1_6 hS, Option.bind_some, lr52 hS hj, Option.bind_some, rT52 j hj, if_pos (kd1 hS), a1]
    exact ⟨d1, rfl, a2, scr_cls a3⟩
  · rw [if_neg q, if_pos q]
    exact ⟨d, rfl, h, Fr.refl _ _⟩
