/-! the class: the past, deeds as calls -/
def aMP (A : AS) (m : Int32) (ps : List Int32) : AS := (A.1, A.2.1, A.2.2.1, m, ps, A.2.2.2.2.2)
theorem RC.past {S : sk_S} {d e : sk_D} {A : AS} {m : Int32} {ps : List Int32} (h : RC S d A) (f : Fr (fun b => b = 50 ∨ b = 51) d e) (hp : rcP e m ps) : RC S e (aMP A m ps) := by
  have fi : ∀ b, ¬ (b = 50 ∨ b = 51) → e.1 b = d.1 b := fun b hb => f.i hb
  have fj : ∀ b, ¬ (b = 50 ∨ b = 51) → e.2 b = d.2 b := fun b hb => f.j hb
  obtain ⟨⟨hS, hk, hc, hK⟩, -, ht, hf, hr, hi, hw⟩ := h
  refine ⟨⟨hS, hk, hc.same (fun b _ _ _ => fi b (by omega)), hK.fr (fi 18 (by omega)) (fi 19 (by omega))⟩, hp, ?_, ?_, ?_, ?_, ?_⟩
  · unfold rcT; rw [fi 1 (by omega), fi 55 (by omega)]; exact ht
  · rw [fi 21 (by omega)]; exact hf
  · intro t h4; exact (hr t h4).same (fi _ (by omega)) (fj _ (by omega))
  · intro i h2; exact (hi i h2).same h2 (fun b _ => fi b (by omega))
  · exact hw.same (fun b hb => fi b (by omega))
theorem RC.scrx {S : sk_S} {d e : sk_D} {A : AS} (h : RC S d A) (hci : CI S e (as_L A)) (f : Fr scr d e) : RC S e A := by
  have fi : ∀ b, ¬ scr b → e.1 b = d.1 b := fun b hb => f.i hb
  have fj : ∀ b, ¬ scr b → e.2 b = d.2 b := fun b hb => f.j hb
  unfold scr at fi fj
  obtain ⟨-, hp, ht, hf, hr, hi, hw⟩ := h
  refine ⟨hci, ?_, ?_, ?_, ?_, ?_, ?_⟩
  · unfold rcP; rw [fi 50 (by omega), fi 51 (by omega)]; exact hp
  · unfold rcT; rw [fi 1 (by omega), fi 55 (by omega)]; exact ht
  · rw [fi 21 (by omega)]; exact hf
  · intro t h4; exact (hr t h4).same (fi _ (by omega)) (fj _ (by omega))
  · intro i h2; exact (hi i h2).same h2 (fun b _ => fi b (by omega))
  · exact hw.same (fun b hb => fi b (by omega))
theorem scr_cls {d e : sk_D} (h : Fr scr d e) : Fr cls d e := h.mono (fun b hb => by unfold scr at hb; unfold cls; omega)
theorem c_eldest {S : sk_S} {d : sk_D} (hS : Sh S) : ∃ d', fX4_forgetEldest S d 50 = some d' ∧ Fr (fun b => b = 50 ∨ b = 51) d d' ∧ d'.1 50 2 = nI 9 ∧ d'.1 50 1 = d.1 50 1 ∧ ∀ i, i < 9 → d'.1 51 i = d.1 51 (i + 1) := by
  unfold fX4_forgetEldest
  have loop := it_for (body := fX4_forgetEldest_L2 S 50) (fun k s => s.1 = nI (k + 1) ∧ Fr (fun b => b = 51) d s.2 ∧ ∀ i, s.2.1 51 i = if i < k then d.1 51 (i + 1) else d.1 51 i) 9
    (fun e => Fr (fun b => b = 50 ∨ b = 51) d e ∧ e.1 50 2 = nI 9 ∧ e.1 50 1 = d.1 50 1 ∧ ∀ i, i < 9 → e.1 51 i = d.1 51 (i + 1)) ?_ ?_ (s := ((1 : Int32), d)) ⟨rfl, Fr.refl _ _, fun i => by simp⟩
  · obtain ⟨e, he, q⟩ := loop
    exact ⟨e, by rw [he]; rfl, q⟩
  · intro k s hk ⟨i1, i2, i3⟩
    left
    unfold fX4_forgetEldest_L2
    rw [i1]
    have hx : ¬ (10 : Int32) ≤ nI (k + 1) := nI_ge (b := 10) (by omega) (by omega)
    have hp : nI (k + 1) - (1 : Int32) = nI k := nI_pred k
    simp (disch := omega) only [hx, Option.bind_some, ↓reduceIte, nI_leI, nI_ltI, nI_eq, nI_1, kd50 hS, gi50 hS, pi50 hS, gr50_0 hS, li51 hS, hp, si51 hS]
    refine ⟨_, rfl, rfl, i2.tI rfl, ?_⟩
    intro i
    by_cases q : i = k
    · subst q
      rw [uI_s, i3, if_neg (by omega), if_pos (by omega)]
    · rw [uI_k _ _ _ _ _ q, i3]
      by_cases q2 : i < k
      · rw [if_pos q2, if_pos (by omega)]
      · rw [if_neg q2, if_neg (by omega)]
  · intro s ⟨i1, i2, i3⟩
    unfold fX4_forgetEldest_L2
    rw [i1]
    have hx : (10 : Int32) ≤ nI (9 + 1) := by decide
    simp (disch := omega) only [hx, Option.bind_some, ↓reduceIte, nI_leI, nI_ltI, nI_eq, nI_1, kd50 hS, gi50 hS, pi50 hS, gr50_0 hS]
    refine ⟨_, rfl, (i2.mono (fun b hb => Or.inr hb)).tI (Or.inl rfl), uI_s _ _ _ _, ?_, ?_⟩
    · rw [uI_k _ _ _ _ _ (by decide), i2.i (by omega)]
    · intro i hi
      rw [uI_a _ _ _ 51 _ (by decide), i3, if_pos hi]
theorem getD_tail (ps : List Int32) (i : Nat) : ps.tail.getD i 0 = ps.getD (i + 1) 0 := by
  cases ps with
  | nil => rfl
  | cons x r => simp
theorem getD_app (ps : List Int32) (x : Int32) (i : Nat) : (ps ++ [x]).getD i 0 = if i < ps.length then ps.getD i 0 else if i = ps.length then x else 0 := by
  simp only [List.getD_eq_getElem?_getD]
  split
  · next h => rw [List.getElem?_append_left h]
  · next h =>
    rw [List.getElem?_append_right (by omega)]
    split
    · next h2 => subst h2; simp
    · next h2 =>
      rw [List.getElem?_eq_none (by simp; omega)]; rfl
theorem c_goOn {S : sk_S} {d : sk_D} {A : AS} (h : RC S d A) (hA : okA A) (next : Int32) : ∃ d', fX4_goOn S d 50 next = some d' ∧ RC S d' (goto A next) ∧ Fr cls d d' := by
  have hS := h.1.1
  obtain ⟨p1, p2, p3⟩ := h.2.1
  have hl := hA.2.2.2.1
  have fin : ∀ (e : sk_D) (ps : List Int32), ps.length < 10 → Fr (fun b => b = 50 ∨ b = 51) d e → rcP e (as_m A) ps → push (as_ps A) (as_m A) = ps ++ [as_m A] → ∃ d', fX4_goOn_J13 S 50 next e = some d' ∧ RC S d' (goto A next) ∧ Fr cls d d' := by
    intro e ps hps fe ⟨q1, q2, q3⟩ hpush
    unfold fX4_goOn_J13
    simp (disch := omega) only [Option.bind_some, ↓reduceIte, nI_leI, nI_ltI, nI_eq, nI_1, kd50 hS, gi50 hS, pi50 hS, gr50_0 hS, q1, q2, si51 hS]
    have z1 : ∀ (x : sk_D) (k : Nat) (v : Int32), (sk_uI x 51 k v).1 50 = x.1 50 := fun x k v => uI_a _ _ _ _ _ (by decide)
    have z2 : ∀ (x : sk_D) (k : Nat) (v : Int32), (sk_uI x 50 k v).1 51 = x.1 51 := fun x k v => uI_a _ _ _ _ _ (by decide)
    have fe2 : Fr (fun b => b = 50 ∨ b = 51) d (sk_uI (sk_uI (sk_uI e 51 ps.length (as_m A)) 50 2 ((sk_uI e 51 ps.length (as_m A)).1 50 2 + 1)) 50 1 next) := ((fe.tI (Or.inr rfl)).tI (Or.inl rfl)).tI (Or.inl rfl)
    refine ⟨_, rfl, ?_, fe2.mono (fun b hb => by unfold cls; omega)⟩
    have := RC.past h fe2 (m := next) (ps := push (as_ps A) (as_m A)) ?_
    · exact this
    · rw [hpush]
      refine ⟨uI_s _ _ _ _, ?_, ?_⟩
      · rw [uI_k _ _ _ _ _ (by decide), uI_s, z1, q2, nI_1]
        simp
      · intro i hi
        rw [z2, z2, getD_app]
        simp at hi
        by_cases c1 : i < ps.length
        · rw [if_pos c1, uI_k _ _ _ _ _ (by omega)]; exact q3 i c1
        · have : i = ps.length := by omega
          subst this
          rw [if_neg c1, if_pos rfl, uI_s]
  unfold fX4_goOn
  simp (disch := omega) only [Option.bind_some, ↓reduceIte, nI_leI, nI_ltI, nI_eq, nI_1, kd50 hS, gi50 hS, pi50 hS, gr50_0 hS, p2]
  by_cases c10 : (as_ps A).length = 10
  · have hx : ¬ nI (as_ps A).length < (10 : Int32) := by rw [c10]; decide
    rw [if_neg hx]
    obtain ⟨e, e1, e2, e3, e4, e5⟩ := c_eldest (d := d) hS
    rw [e1, Option.bind_some]
    refine fin e (as_ps A).tail (by simp; omega) e2 ⟨by rw [e4]; exact p1, ?_, ?_⟩ ?_
    · rw [e3]; simp [c10]
    · intro i hi
      simp at hi
      rw [e5 i (by omega), getD_tail]
      exact p3 (i + 1) (by omega)
    · unfold push; rw [if_pos c10]
  · have hx : nI (as_ps A).length < (10 : Int32) := nI_lt (b := 10) (by omega) (by omega)
    rw [if_pos hx]
    exact fin d (as_ps A) (by omega) (Fr.refl _ _) ⟨p1, p2, p3⟩ (by unfold push; rw [if_neg c10])
theorem okA.goto {A : AS} (hA : okA A) {m : Int32} (hm : okM (as_L A) m) : okA (goto A m) := by
  obtain ⟨a1, a2, a3, a4, a5, a6, a7, a8⟩ := hA
  refine ⟨a1, hm, ?_, ?_, a5, a6, a7, a8⟩
  · intro x hx
    have hx2 : x ∈ push (as_ps A) (as_m A) := hx
    unfold push at hx2
    rw [List.mem_append] at hx2
    rcases hx2 with q | q
    · split at q
      · exact a3 x (List.mem_of_mem_tail q)
      · exact a3 x q
    · simp at q
      subst q
      exact a2
  · show (push (as_ps A) (as_m A)).length ≤ 10
    unfold push
    split
    · next q => simp [q]
    · next q => simp; omega
/-- a deed of kind k at place j -/
def kdd (L : LF) (m : Int32) (k j : Nat) : Int32 := if k = 0 then tdo L m j else if k = 1 then tdr L m j else if k = 2 then tfo L m j else if k = 3 then tas L m j else (m &&& 65535) ||| (nI j <<< ((16 : Int32) &&& 31))
theorem tde_kj (L : LF) (m : Int32) {k j : Nat} (hk : k < 5) (hj : j < 10) : tde L m (lN (10 * k + j)) = kdd L m k j := by
  unfold tde kdd
  rw [if_neg, lN_i, show (10 : Int32) = nI 10 from rfl, pk_div (by omega) (by omega) (by omega), pk_mul, pk_sub (by omega), show (10 * k + j) / 10 = k by omega, show 10 * k + j - k * 10 = j by omega, nI_clamp (by omega)]
  · have e : ∀ z, z < 5 → (nI k = nI z ↔ k = z) := fun z hz => nI_eq (by omega) (by omega)
    rw [show (0 : Int32) = nI 0 from rfl, show (1 : Int32) = nI 1 from rfl, show (2 : Int32) = nI 2 from rfl, show (3 : Int32) = nI 3 from rfl]
    simp only [e 0 (by omega), e 1 (by omega), e 2 (by omega), e 3 (by omega)]
  · have h1 : ¬ lN (10 * k + j) < 0 := by
      rw [show (0 : Int64) = lN 0 from rfl, pk_lLT (by omega) (by omega)]; omega
    have h2 : lN (10 * k + j) ≤ 49 := by
      rw [show (49 : Int64) = lN 49 from rfl, pk_lLE (by omega) (by omega)]; omega
    simp [h1, h2]
theorem neg_lit : ((-1 : Int32) < 0) ∧ ((-2 : Int32) < 0) ∧ ((-3 : Int32) < 0) ∧ ((-4 : Int32) < 0) := by decide
/-- what a deed that can be brings is a good moment -/
theorem ok_kdd {L : LF} (hk : okL L) {m : Int32} (h : okM L m) {k j : Nat} (hj : j < 10) (h0 : ¬ kdd L m k j < 0) : okM L (kdd L m k j) := by
  obtain ⟨n1, n2, n3, n4⟩ := neg_lit
  unfold kdd at h0 ⊢
  by_cases k0 : k = 0
  · rw [if_pos k0] at h0 ⊢
    unfold tdo at h0 ⊢
    by_cases q1 : ¬ j < lf_n L
    · rw [if_pos q1] at h0; exact absurd n1 h0
    · rw [if_neg q1] at h0 ⊢
      by_cases q2 : bt m j = true
      · rw [if_pos q2] at h0; exact absurd n2 h0
      · rw [if_neg q2] at h0 ⊢
        by_cases q3 : ¬ (lf_v L 5 j &&& (dn m ^^^ (-1))) = 0
        · rw [if_pos q3] at h0; exact absurd n3 h0
        · rw [if_neg q3]
          have := ok_do hk h (Decidable.not_not.mp q1) (Decidable.not_not.mp q3)
          exact this
  · rw [if_neg k0] at h0 ⊢
    by_cases k1 : k = 1
    · rw [if_pos k1] at h0 ⊢
      unfold tdr at h0 ⊢
      by_cases q1 : ¬ j < lf_n L
      · rw [if_pos q1] at h0; exact absurd n1 h0
      · rw [if_neg q1] at h0 ⊢
        by_cases q2 : bt m (j + 8) = false
        · rw [if_pos q2] at h0; exact absurd n2 h0
        · rw [if_neg q2]
          exact ok_drop hk h (Decidable.not_not.mp q1)
    · rw [if_neg k1] at h0 ⊢
      by_cases k2 : k = 2
      · rw [if_pos k2] at h0 ⊢
        unfold tfo at h0 ⊢
        by_cases q1 : ¬ j < lf_n L
        · rw [if_pos q1] at h0; exact absurd n1 h0
        · rw [if_neg q1] at h0 ⊢
          by_cases q2 : bt m j = true ∨ bt m (j + 8) = true
          · rw [if_pos q2] at h0; exact absurd n2 h0
          · rw [if_neg q2] at h0 ⊢
            by_cases q3 : lf_v L 0 j ≤ rl L (ln m)
            · rw [if_pos q3]
              exact ok_forge hk h (Decidable.not_not.mp q1)
            · rw [if_neg q3] at h0; exact absurd n4 h0
      · rw [if_neg k2] at h0 ⊢
        by_cases k3 : k = 3
        · rw [if_pos k3] at h0 ⊢
          by_cases q1 : j < lf_n L
          · rw [tas_aso L hk m q1]
            exact ok_ask hk h q1
          · unfold tas at h0
            rw [if_pos q1] at h0
            exact absurd n1 h0
        · rw [if_neg k3]
          exact (ok_slip h hj).1
def x_en (A : AS) (k : Nat) (p : Int32) : Int32 × AS := if p < 0 ∨ ¬ p ≤ 9 then (-1, A) else if kdd (as_L A) (as_m A) k p.toNatClampNeg < 0 then (kdd (as_L A) (as_m A) k p.toNatClampNeg, A) else (0, goto A (kdd (as_L A) (as_m A) k p.toNatClampNeg))
theorem p_9 {p : Int32} (h0 : ¬ p < 0) (h9 : p ≤ 9) : ∃ j, j < 10 ∧ p = nI j := by
  obtain ⟨j, hj, e⟩ := nI_of2 (M := 9) (n := 9) rfl h0 h9
  exact ⟨j, by omega, e⟩
theorem x_en_ok {A : AS} (hA : okA A) (k : Nat) (p : Int32) : okA (x_en A k p).2 := by
  unfold x_en
  by_cases h : p < 0 ∨ ¬ p ≤ 9
  · rw [if_pos h]; exact hA
  · rw [if_neg h]
    by_cases q : kdd (as_L A) (as_m A) k p.toNatClampNeg < 0
    · rw [if_pos q]; exact hA
    · rw [if_neg q]
      have h' : ¬ p < 0 ∧ p ≤ 9 := by
        constructor
        · intro q; exact h (Or.inl q)
        · exact Decidable.not_not.mp (fun q => h (Or.inr q))
      obtain ⟨j, hj, rfl⟩ := p_9 h'.1 h'.2
      rw [nI_clamp (by omega)] at q ⊢
      exact hA.goto (ok_kdd hA.1 hA.2.1 hj q)
theorem c_enact {S : sk_S} {d : sk_D} {A : AS} (h : RC S d A) (hA : okA A) {k : Nat} (hk : k < 5) (p : Int32) :
    ∃ d', fX10_enact S d 1 (nI k) p = some ((x_en A k p).1, d') ∧ RC S d' (x_en A k p).2 ∧ Fr cls d d' := by
  have hS := h.1.1
  have stop : ∀ (v : Int32) (e : sk_D), v < 0 → fX10_enact_J35 S 1 v e = some (v, e) := by
    intro v e hv
    unfold fX10_enact_J35
    rw [if_neg (by rw [Int32.not_le]; exact hv)]
  unfold fX10_enact fX10_enact_J10 x_en
  by_cases h0 : p < 0
  · rw [if_pos h0, if_pos (Or.inl h0), stop _ _ (by decide)]
    exact ⟨d, rfl, h, Fr.refl _ _⟩
  · rw [if_neg h0]
    by_cases h9 : p ≤ 9
    · rw [if_pos h9, if_neg (by simp [h0, h9])]
      obtain ⟨j, hj, rfl⟩ := p_9 h0 h9
      obtain ⟨d1, a1, a2, a3⟩ := c_tde h.1 (as_m A) (lN (10 * k + j)) hA.2.1.2.2
      have e1 : (nI k * (10 : Int32) + nI j).toInt64 = lN (10 * k + j) := by
        rw [show (10 : Int32) = nI 10 from rfl, pk_mul, nI_add, nI_l (by omega), Nat.mul_comm]
      have r1 := h.scrx a2 a3
      have m1 := h.2.1.1
      rw [tde_kj _ _ hk hj] at a1
      simp (disch := omega) only [Option.bind_some, ↓reduceIte, nI_leI, nI_ltI, nI_eq, nI_1, kd1 hS, gi1 hS, pi1 hS, gr1_0 hS, gr1_1 hS, gr1_2 hS, gr1_3 hS, gr1_4 hS, gr1_5 hS, gr1_6 hS, gr1_7 hS, gr1_8 hS, gr1_9 hS, kd2 hS, gi2 hS, pi2 hS, gr2_0 hS, gr2_1 hS, gr2_2 hS, gr2_3 hS, kd50 hS, gi50 hS, pi50 hS, gr50_0 hS, m1, e1, a1]
      rw [nI_clamp (by omega)]
      by_cases q : kdd (as_L A) (as_m A) k j < 0
      · rw [if_pos q, stop _ _ q]
        exact ⟨d1, rfl, r1, scr_cls a3⟩
      · rw [if_neg q]
        unfold fX10_enact_J35
        rw [if_pos (by rw [← Int32.not_lt]; exact q)]
        obtain ⟨d2, b1, b2, b3⟩ := c_goOn r1 hA (kdd (as_L A) (as_m A) k j)
        simp (disch := omega) only [Option.bind_some, ↓reduceIte, nI_leI, nI_ltI, nI_eq, nI_1, kd1 hS, gi1 hS, pi1 hS, gr1_0 hS, gr1_1 hS, gr1_2 hS, gr1_3 hS, gr1_4 hS, gr1_5 hS, gr1_6 hS, gr1_7 hS, gr1_8 hS, gr1_9 hS, kd50 hS, gi50 hS, pi50 hS, gr50_0 hS, b1]
        exact ⟨d2, rfl, b2, (scr_cls a3).trans b3⟩
    · rw [if_neg h9, if_pos (Or.inr h9), stop _ _ (by decide)]
      exact ⟨d, rfl, h, Fr.refl _ _⟩
