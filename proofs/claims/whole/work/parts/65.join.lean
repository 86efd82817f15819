/-! doors that are joined -/
def fk (p : Nat → Bool) : Nat → Option Nat
  | 0 => none
  | n + 1 => match fk p n with
    | some k => some k
    | none => if p n = true then some n else none
theorem fk_both (p : Nat → Bool) : ∀ n, (∀ k, fk p n = some k → k < n ∧ p k = true ∧ ∀ i, i < k → p i = false) ∧ (fk p n = none → ∀ i, i < n → p i = false)
  | 0 => ⟨fun k h => by simp [fk] at h, fun _ i hi => by omega⟩
  | n + 1 => by
    obtain ⟨a, b⟩ := fk_both p n
    cases h : fk p n with
    | some k =>
      obtain ⟨a1, a2, a3⟩ := a k h
      have e : fk p (n + 1) = some k := by simp [fk, h]
      rw [e]
      refine ⟨fun k' h' => ?_, fun h' => by simp at h'⟩
      obtain rfl := Option.some.inj h'
      exact ⟨by omega, a2, a3⟩
    | none =>
      have hb := b h
      cases c : p n with
      | true =>
        have e : fk p (n + 1) = some n := by simp [fk, h, c]
        rw [e]
        refine ⟨fun k' h' => ?_, fun h' => by simp at h'⟩
        obtain rfl := Option.some.inj h'
        exact ⟨by omega, c, hb⟩
      | false =>
        have e : fk p (n + 1) = none := by simp [fk, h, c]
        rw [e]
        refine ⟨fun k' h' => by simp at h', fun _ i hi => ?_⟩
        rcases Nat.lt_or_ge i n with q | q
        · exact hb i q
        · rw [show i = n by omega]; exact c
theorem fk_some {p : Nat → Bool} {n k : Nat} (h : fk p n = some k) : k < n ∧ p k = true ∧ ∀ i, i < k → p i = false := (fk_both p n).1 k h
theorem fk_none {p : Nat → Bool} {n : Nat} (h : fk p n = none) : ∀ i, i < n → p i = false := (fk_both p n).2 h
theorem fk_is {p : Nat → Bool} {n k : Nat} (hk : k < n) (h : p k = true) (h2 : ∀ i, i < k → p i = false) : fk p n = some k := by
  cases e : fk p n with
  | none => rw [fk_none e k hk] at h; exact absurd h (by decide)
  | some j =>
    obtain ⟨e1, e2, e3⟩ := fk_some e
    rcases Nat.lt_trichotomy j k with q | q | q
    · rw [h2 j q] at e2; exact absurd e2 (by decide)
    · rw [q]
    · rw [e3 k q] at h; exact absurd h (by decide)
theorem fk_no {p : Nat → Bool} {n : Nat} (h : ∀ i, i < n → p i = false) : fk p n = none := by
  cases e : fk p n with
  | none => rfl
  | some j => obtain ⟨e1, e2, -⟩ := fk_some e; rw [h j e1] at e2; exact absurd e2 (by decide)
theorem ct_at (p : Nat → Bool) : ∀ n r, r < fb_ct p n → ∃ i, i < n ∧ p i = true ∧ fb_ct p i = r
  | 0, r, h => absurd h (Nat.not_lt_zero _)
  | n + 1, r, h => by
    rcases Nat.lt_or_ge r (fb_ct p n) with q | q
    · obtain ⟨i, i1, i2, i3⟩ := ct_at p n r q
      exact ⟨i, by omega, i2, i3⟩
    · rw [fb_ct_succ] at h
      cases c : p n with
      | true => rw [c, if_pos rfl] at h; exact ⟨n, by omega, c, by omega⟩
      | false => rw [c, if_neg (by decide)] at h; omega
def oI (o : Option Nat) : Int32 := match o with
  | some k => nI k
  | none => -1
def oB (o : Option Nat) : Int32 := match o with
  | some k => (1 : Int32) <<< (nI k &&& 31)
  | none => 0
def mt (L : LF) (j k : Nat) : Bool := decide (lf_v L 1 j + lf_v L 7 k = 9)
def eqE (L : LF) (sh : Int32) (j e : Nat) : Bool := bt sh e && decide (lf_v L 1 e = lf_v L 1 j)
def tk (L : LF) (sh : Int32) (j : Nat) : Nat := fb_ct (eqE L sh j) j
def dq (L : LF) (sh : Int32) (j k : Nat) : Bool := mt L j k && decide (fb_ct (mt L j) k = tk L sh j)
def dO (L : LF) (sh : Int32) (j : Nat) : Option Nat := if bt sh j = true then fk (dq L sh j) (lf_k L) else none
def dj (L : LF) (sh : Int32) : Nat → Int32
  | 0 => 0
  | j + 1 => dj L sh j ||| oB (dO L sh j)
theorem dO_lt {L : LF} {sh : Int32} {j k : Nat} (h : dO L sh j = some k) : k < lf_k L ∧ bt sh j = true ∧ mt L j k = true ∧ fb_ct (mt L j) k = tk L sh j := by
  unfold dO at h
  split at h
  · next c =>
    obtain ⟨a1, a2, -⟩ := fk_some h
    unfold dq at a2
    simp only [Bool.and_eq_true, decide_eq_true_eq] at a2
    exact ⟨a1, c, a2.1, a2.2⟩
  · exact absurd h (by simp)
theorem dj_bt {L : LF} (hk : okL L) (sh : Int32) {i : Nat} (hi : i < 32) : ∀ j, (bt (dj L sh j) i = true ↔ ∃ e, e < j ∧ dO L sh e = some i)
  | 0 => by
    rw [show dj L sh 0 = 0 from rfl, b_0]
    exact ⟨fun h => absurd h (by decide), fun ⟨e, h, _⟩ => by omega⟩
  | j + 1 => by
    have hn := hk.2.1
    rw [show dj L sh (j + 1) = dj L sh j ||| oB (dO L sh j) from rfl, b_or, Bool.or_eq_true, dj_bt hk sh hi j]
    cases o : dO L sh j with
    | none =>
      rw [show oB none = 0 from rfl, b_0]
      constructor
      · rintro (⟨e, h1, h2⟩ | h)
        · exact ⟨e, by omega, h2⟩
        · exact absurd h (by decide)
      · rintro ⟨e, h1, h2⟩
        rcases Nat.lt_or_ge e j with q | q
        · exact .inl ⟨e, q, h2⟩
        · rw [show e = j by omega, o] at h2; exact absurd h2 (by simp)
    | some k =>
      have := (dO_lt o).1
      rw [show oB (some k) = (1 : Int32) <<< (nI k &&& 31) from rfl, b_one (by omega) hi, decide_eq_true_eq]
      constructor
      · rintro (⟨e, h1, h2⟩ | h)
        · exact ⟨e, by omega, h2⟩
        · exact ⟨j, by omega, by rw [o, h]⟩
      · rintro ⟨e, h1, h2⟩
        rcases Nat.lt_or_ge e j with q | q
        · exact .inl ⟨e, q, h2⟩
        · rw [show e = j by omega, o] at h2; exact .inr (Option.some.inj h2).symm
theorem mt_eq {L : LF} {e j : Nat} (h : lf_v L 1 e = lf_v L 1 j) : mt L e = mt L j := by funext k; unfold mt; rw [h]
theorem eqE_eq {L : LF} (sh : Int32) {e j : Nat} (h : lf_v L 1 e = lf_v L 1 j) : eqE L sh e = eqE L sh j := by funext k; unfold eqE; rw [h]
theorem jn_iff {L : LF} (hk : okL L) {sh : Int32} {j k : Nat} (hkk : k < lf_k L) (hm : mt L j k = true) : bt (dj L sh j) k = true ↔ fb_ct (mt L j) k < tk L sh j := by
  have h8 := hk.2.1
  rw [dj_bt hk sh (by omega)]
  constructor
  · rintro ⟨e, h1, h2⟩
    obtain ⟨-, a2, a3, a4⟩ := dO_lt h2
    have q : lf_v L 1 e = lf_v L 1 j := by
      unfold mt at a3 hm
      have x1 := of_decide_eq_true a3
      have x2 := of_decide_eq_true hm
      rw [← x2] at x1
      have := congrArg (fun y => y - lf_v L 7 k) x1
      simpa using this
    rw [mt_eq q] at a4
    rw [a4]
    unfold tk
    rw [eqE_eq sh q]
    have s := fb_ct_succ (eqE L sh j) e
    rw [show eqE L sh j e = true by unfold eqE; rw [a2, q]; simp, if_pos rfl] at s
    have := fb_ct_mono (eqE L sh j) (show e + 1 ≤ j by omega)
    omega
  · intro h
    obtain ⟨e, e1, e2, e3⟩ := ct_at (eqE L sh j) j _ h
    refine ⟨e, e1, ?_⟩
    unfold eqE at e2
    simp only [Bool.and_eq_true, decide_eq_true_eq] at e2
    have q := e2.2
    unfold dO
    rw [if_pos e2.1]
    have t : tk L sh e = fb_ct (mt L j) k := by unfold tk; rw [eqE_eq sh q]; exact e3
    apply fk_is hkk
    · unfold dq; rw [mt_eq q, hm, t]; simp
    · intro i hi
      unfold dq
      rw [mt_eq q, t]
      cases c : mt L j i with
      | false => rfl
      | true =>
        have s := fb_ct_succ (mt L j) i
        rw [c, if_pos rfl] at s
        have := fb_ct_mono (mt L j) (show i + 1 ≤ k by omega)
        rw [decide_eq_false (by omega)]
        rfl
def jc (L : LF) (sh : Int32) (j k : Nat) : Bool := bt sh j && (mt L j k && !(bt (dj L sh j) k))
theorem jc_no {L : LF} (hk : okL L) {sh : Int32} {j b : Nat} (hb : b ≤ lf_k L) (h : ∀ i, i < b → dq L sh j i = false) : ∀ i, i < b → jc L sh j i = false := by
  intro i hi
  unfold jc
  cases c : mt L j i with
  | false => simp
  | true =>
    cases c2 : bt (dj L sh j) i with
    | true => simp
    | false =>
      exfalso
      have n1 : ¬ fb_ct (mt L j) i < tk L sh j := fun a => by rw [(jn_iff hk (by omega) c).mpr a] at c2; exact absurd c2 (by decide)
      rcases Nat.lt_or_ge (tk L sh j) (fb_ct (mt L j) i) with q | q
      · obtain ⟨i2, q1, q2, q3⟩ := ct_at (mt L j) i _ q
        have := h i2 (by omega)
        unfold dq at this
        rw [q2, q3] at this
        simp at this
      · have := h i hi
        unfold dq at this
        rw [c, show fb_ct (mt L j) i = tk L sh j by omega] at this
        simp at this
theorem dO_eq {L : LF} (hk : okL L) (sh : Int32) (j : Nat) : fk (jc L sh j) (lf_k L) = dO L sh j := by
  cases c : bt sh j with
  | false =>
    unfold dO
    rw [if_neg (by rw [c]; decide)]
    exact fk_no (fun i _ => by unfold jc; rw [c]; rfl)
  | true =>
    cases o : dO L sh j with
    | none =>
      unfold dO at o
      rw [if_pos c] at o
      exact fk_no (jc_no hk (Nat.le_refl _) (fk_none o))
    | some k =>
      obtain ⟨a1, a2, a3, a4⟩ := dO_lt o
      unfold dO at o
      rw [if_pos c] at o
      have a5 := (fk_some o).2.2
      refine fk_is a1 ?_ (jc_no hk (by omega) a5)
      unfold jc
      have : bt (dj L sh j) k = false := by
        cases q : bt (dj L sh j) k with
        | false => rfl
        | true => have := (jn_iff hk a1 a3).mp q; omega
      rw [c, a3, this]; rfl
theorem sub0 {a b : Nat} (ha : a < 100) (hb : b < 100) : nI a - nI b = 0 ↔ a = b := by
  rw [fa_eq, Int32.toInt_sub, nI_toInt (by omega), nI_toInt (by omega), show (0 : Int32).toInt = 0 from rfl, fb_bmod (by omega) (by omega)]
  omega
theorem c_doorOf {S : sk_S} {d : sk_D} {L : LF} (hS : Sh S) (hk : okL L) (hc : cL d 3 L) (sh : Int32) {j : Nat} (hj : j < lf_n L) : fX2_doorOf S d 3 (nI j) sh = some (oI (dO L sh j)) := by
  have hn := hk.1
  have h8 := hk.2.1
  obtain ⟨-, v1, -⟩ := cv hc hj
  have hd : ∀ k, k < lf_k L → d.1 11 k = lf_v L 7 k := hc.2.2.2.2.2.1
  have t9 : tk L sh j ≤ j := fb_ct_le _ _
  unfold fX2_doorOf
  cases c : bt sh j with
  | false =>
    rw [if_pos ((t_0 sh (by omega)).mpr c)]
    unfold dO; rw [if_neg (by rw [c]; decide)]; rfl
  | true =>
    rw [if_neg (fun a => by rw [(t_0 sh (by omega)).mp a] at c; exact absurd c (by decide))]
    have e := it_eq (body := fX2_doorOf_L15 S d 3 (nI j) sh) (fun k => (nI (fb_ct (eqE L sh j) k), nI k)) j (nI (tk L sh j)) ?_ ?_
    · rw [show ((0 : Int32), (0 : Int32)) = (nI (fb_ct (eqE L sh j) 0), nI 0) from rfl, e, Option.bind_some]
      have loop := it_for (body := fX2_doorOf_L64 S d 3 (nI j)) (fun k z => z = (nI (tk L sh j) - nI (fb_ct (mt L j) k), nI k) ∧ ∀ i, i < k → dq L sh j i = false) (lf_k L) (fun e => e = oI (dO L sh j)) ?_ ?_ (s := (nI (tk L sh j), (0 : Int32))) ⟨by rw [show fb_ct (mt L j) 0 = 0 from rfl, show nI 0 = 0 from rfl, Int32.sub_zero], fun i hi => by omega⟩
      · obtain ⟨e, he, e1⟩ := loop
        rw [he, e1]; rfl
      · intro k z hkk ⟨i1, i2⟩
        have c9 := fb_ct_le (mt L j) k
        unfold fX2_doorOf_L64
        rw [i1]
        dsimp only
        rw [gi3 hS, Option.bind_some, hc.2.2.1, if_neg (nI_ge hkk (by omega)), gr3_6 hS, Option.bind_some, li5 hS _ (show j < 8 by omega), Option.bind_some, gr3_12 hS, Option.bind_some, li11 hS _ (show k < 8 by omega), Option.bind_some, v1, hd k hkk]
        by_cases q : lf_v L 1 j + lf_v L 7 k = 9
        · have qm : mt L j k = true := by unfold mt; rw [decide_eq_true q]
          rw [if_pos q]
          by_cases q2 : tk L sh j = fb_ct (mt L j) k
          · right
            rw [if_pos ((sub0 (by omega) (by omega)).mpr q2)]
            refine ⟨_, rfl, ?_⟩
            unfold dO
            rw [if_pos c, fk_is hkk (by unfold dq; rw [qm, q2]; simp) i2]
            rfl
          · left
            rw [if_neg (fun a => q2 ((sub0 (by omega) (by omega)).mp a))]
            refine ⟨_, rfl, ?_, fun i hi => ?_⟩
            · rw [fb_ct_succ, qm, if_pos rfl, ← nI_1 k, ← nI_1 (fb_ct (mt L j) k), Int32.sub_sub]
            · rcases Nat.lt_or_ge i k with r | r
              · exact i2 i r
              · rw [show i = k by omega]; unfold dq; rw [decide_eq_false (fun a => q2 a.symm)]; simp
        · have qm : mt L j k = false := by unfold mt; rw [decide_eq_false q]
          left
          rw [if_neg q]
          refine ⟨_, rfl, ?_, fun i hi => ?_⟩
          · rw [fb_ct_succ, qm, if_neg (by decide), ← nI_1 k]; rfl
          · rcases Nat.lt_or_ge i k with r | r
            · exact i2 i r
            · rw [show i = k by omega]; unfold dq; rw [qm]; rfl
      · intro z ⟨i1, i2⟩
        unfold fX2_doorOf_L64
        rw [i1]
        dsimp only
        rw [gi3 hS, Option.bind_some, hc.2.2.1, if_pos (nI_le (Nat.le_refl _) (by omega))]
        refine ⟨_, rfl, ?_⟩
        unfold dO
        rw [if_pos c, fk_no i2]
        rfl
    · intro k hkk
      have e9 : eqE L sh j k = (bt sh k && decide (lf_v L 1 k = lf_v L 1 j)) := rfl
      obtain ⟨-, w1, -⟩ := cv hc (show k < lf_n L by omega)
      unfold fX2_doorOf_L15
      dsimp only
      rw [if_neg (nI_ge hkk (by omega)), fb_ct_succ, e9, nI_1 k]
      cases b : bt sh k with
      | true =>
        rw [if_pos ((t_1 sh (by omega)).mpr b), gr3_6 hS, Option.bind_some, li5 hS _ (show k < 8 by omega), Option.bind_some, Option.bind_some, li5 hS _ (show j < 8 by omega), Option.bind_some, v1, w1]
        by_cases q : lf_v L 1 k = lf_v L 1 j
        · rw [if_pos q, decide_eq_true q, Bool.and_true, if_pos rfl, nI_1]
        · rw [if_neg q, decide_eq_false q, Bool.and_false, if_neg (by decide), Int32.add_zero]; rfl
      | false =>
        rw [if_neg (fun a => by rw [(t_1 sh (by omega)).mp a] at b; exact absurd b (by decide)), Bool.false_and, if_neg (by decide), Int32.add_zero]; rfl
    · unfold fX2_doorOf_L15
      dsimp only
      rw [if_pos (nI_le (Nat.le_refl _) (by omega))]
      rfl
theorem c_joined {S : sk_S} {d : sk_D} {L : LF} (hS : Sh S) (hk : okL L) (hc : cL d 3 L) (sh : Int32) : fX2_doorsJoined S d 3 sh = some (dj L sh (lf_n L)) := by
  have hn := hk.1
  have h8 := hk.2.1
  unfold fX2_doorsJoined
  have e := it_eq (body := fX2_doorsJoined_L4 S d 3 sh) (fun k => (dj L sh k, nI k)) (lf_n L) (dj L sh (lf_n L)) ?_ ?_
  · rw [show ((0 : Int32), (0 : Int32)) = (dj L sh 0, nI 0) from rfl, e]; rfl
  · intro k hkk
    unfold fX2_doorsJoined_L4
    dsimp only
    rw [gi3 hS, Option.bind_some, hc.2.1, if_neg (nI_ge hkk (by omega)), if_pos (kd3 hS), c_doorOf hS hk hc sh hkk, Option.bind_some, nI_1, show dj L sh (k + 1) = dj L sh k ||| oB (dO L sh k) from rfl]
    cases o : dO L sh k with
    | none => rw [if_neg (by decide)]; rfl
    | some i =>
      have := (dO_lt o).1
      rw [show oI (some i) = nI i from rfl, if_pos (by rw [show (0 : Int32) = nI 0 from rfl, nI_leI (by omega) (by omega)]; omega)]
      rfl
  · unfold fX2_doorsJoined_L4
    dsimp only
    rw [gi3 hS, Option.bind_some, hc.2.1, if_pos (nI_le (Nat.le_refl _) (by omega))]
