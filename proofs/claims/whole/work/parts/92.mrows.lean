/-! rows, by the reference -/
def m67 (b : Nat) : Prop := b = 106 ∨ b = 107
section
variable {S : sk_S} {d : sk_D} {L : LF} {f : Int32} {Q : List TQ} {K : Nat → Nat}
def stj (Q : List TQ) (j : Nat) : Nat := stN (gq Q j).1
def vm (d : sk_D) (Q : List TQ) (a : Nat) (g : Nat → Nat) : Prop := ∀ j, j < Q.length → d.2 a (stj Q j) = lN (g j)
theorem LY.fr67 {e : sk_D} (h : LY S d L f Q K) (x : Fr m67 d e) : LY S e L f Q K := by
  obtain ⟨h1, h2, h3, h4, h5, h6⟩ := h
  unfold m67 at x
  refine ⟨h1, h2, ?_, ?_, ?_, h6⟩
  · rw [x.i (b := 94) (by omega)]; exact h3
  · rw [x.i (b := 102) (by omega)]; exact h4
  · rw [x.i (b := 103) (by omega)]; exact h5
theorem LY.st (h : LY S d L f Q K) {j : Nat} (hj : j < Q.length) : stj Q j < 65536 ∧ d.1 102 j = nI (stj Q j) := ⟨(stN_eq _).1, by rw [h.2.2.2.1 j hj]; exact (stN_eq _).2⟩
theorem LY.inj (h : LY S d L f Q K) {i j : Nat} (hi : i < Q.length) (hj : j < Q.length) (e : stj Q i = stj Q j) : i = j := gq_nds h.2.2.2.2.2.2.1 hi hj (stN_inj (h.2.2.2.2.2.1.q hi) (h.2.2.2.2.2.1.q hj) e)
theorem m_zero (h : LY S d L f Q K) : ∃ d', sk_itr (fX11_rows_L35 S 94) ((0 : Int32), d) = some d' ∧ Fr m67 d d' ∧ vm d' Q 106 (cnt L Q 0) ∧ vm d' Q 107 (fun _ => 0) := by
  have hS := h.1
  have hl := h.2.2.2.2.2.2.2.1
  have loop := it_for (body := fX11_rows_L35 S 94) (fun k s => s.1 = nI k ∧ Fr m67 d s.2 ∧ ∀ j, j < k → s.2.2 106 (stj Q j) = lN (cnt L Q 0 j) ∧ s.2.2 107 (stj Q j) = lN 0) Q.length (fun e => Fr m67 d e ∧ vm e Q 106 (cnt L Q 0) ∧ vm e Q 107 (fun _ => 0)) ?_ ?_ (s := ((0 : Int32), d)) ⟨rfl, Fr.refl _ _, fun j hj => by omega⟩
  · exact loop
  · intro k s hk ⟨i1, i2, i3⟩
    left
    have h1 := h.fr67 i2
    obtain ⟨s1, s2⟩ := h1.st hk
    have fin : ∀ v : Int64, v = lN (cnt L Q 0 k) → (Fr m67 d (sk_uJ (sk_uJ s.2 106 (stj Q k) v) 107 (stj Q k) 0) ∧ ∀ j, j < k + 1 → (sk_uJ (sk_uJ s.2 106 (stj Q k) v) 107 (stj Q k) 0).2 106 (stj Q j) = lN (cnt L Q 0 j) ∧ (sk_uJ (sk_uJ s.2 106 (stj Q k) v) 107 (stj Q k) 0).2 107 (stj Q j) = lN 0) := by
      intro v hv
      refine ⟨(i2.trans (Fr.uJ (P := m67) _ (Or.inl rfl))).trans (Fr.uJ (P := m67) _ (Or.inr rfl)), fun j hj => ?_⟩
      by_cases e : j = k
      · subst e
        exact ⟨by rw [uJ_a _ _ _ 106 _ (by omega), uJ_s, hv], by rw [uJ_s]; rfl⟩
      · have ne : stj Q j ≠ stj Q k := fun a => e (h.inj (by omega) hk a)
        obtain ⟨a, b⟩ := i3 j (by omega)
        exact ⟨by rw [uJ_a _ _ _ 106 _ (by omega), uJ_k _ _ _ _ _ ne]; exact a, by rw [uJ_k _ _ _ _ _ ne, uJ_a _ _ _ 107 _ (by omega)]; exact b⟩
    unfold fX11_rows_L35
    rw [i1, gi94 hS, Option.bind_some, h1.2.2.1, if_neg (nI_ge hk (by omega)), gr94_26 hS, Option.bind_some, gr94_21 hS, Option.bind_some, li102 hS _ (show k < 65536 by omega), Option.bind_some, s2, nI_1]
    by_cases k0 : k = 0
    · rw [if_pos (by rw [k0]; rfl), sj106 hS _ _ s1, Option.bind_some, gr94_27 hS, Option.bind_some, Option.bind_some, li102 hS _ (show k < 65536 by omega), Option.bind_some, show (sk_uJ s.2 106 (stj Q k) 1).1 102 k = nI (stj Q k) from s2, sj107 hS _ _ s1, Option.bind_some]
      exact ⟨_, rfl, rfl, fin 1 (by rw [k0]; rfl)⟩
    · rw [if_neg (by rw [show (0 : Int32) = nI 0 from rfl, nI_eq (by omega) (by omega)]; exact k0), sj106 hS _ _ s1, Option.bind_some, gr94_27 hS, Option.bind_some, Option.bind_some, li102 hS _ (show k < 65536 by omega), Option.bind_some, show (sk_uJ s.2 106 (stj Q k) 0).1 102 k = nI (stj Q k) from s2, sj107 hS _ _ s1, Option.bind_some]
      exact ⟨_, rfl, rfl, fin 0 (by show _ = lN (if k = 0 then 1 else 0); rw [if_neg k0]; rfl)⟩
  · intro s ⟨i1, i2, i3⟩
    have h1 := h.fr67 i2
    unfold fX11_rows_L35
    rw [i1, gi94 hS, Option.bind_some, h1.2.2.1, if_pos (nI_le (Nat.le_refl _) (by omega))]
    exact ⟨_, rfl, i2, fun j hj => (i3 j hj).1, fun j hj => (i3 j hj).2⟩
theorem lN_pos {x : Nat} (h : x ≤ 4294967296) : lN x ≤ 0 ↔ x = 0 := by
  rw [Int64.le_iff_toInt_le]
  unfold lN
  rw [Int64.toInt_ofNat_of_lt (by omega)]
  have : (0 : Int64).toInt = 0 := rfl
  omega
theorem m_onL (h : LY S d L f Q K) {k : Nat} (hk : k < Q.length) {x : Nat} (hx : x ≤ 4294967296) (h6 : d.2 106 (stj Q k) = lN x) {g : Nat → Nat} (hv : vm d Q 107 g) :
    ∃ d', sk_itr (fX11_rows_L103 S 94 (nI k)) ((0 : Int32), d) = some d' ∧ Fr (fun b => b = 107) d d' ∧ d'.1 = d.1 ∧ vm d' Q 107 (fun j => g j + adk L Q k x j) := by
  have hS := h.1
  have hl := h.2.2.2.2.2.2.2.1
  have hB := h.2.2.2.2.2.2.2.2
  have hs := h.2.2.2.2.2.1
  obtain ⟨s1, s2⟩ := h.st hk
  have loop := it_for (body := fX11_rows_L103 S 94 (nI k)) (fun mv s => s.1 = nI mv ∧ Fr (fun b => b = 107) d s.2 ∧ s.2.1 = d.1 ∧ vm s.2 Q 107 (fun j => g j + sN (fun mv => if (gq Q j).1 = mvt L (gq Q k).1 mv then x else 0) mv)) 16
    (fun e => Fr (fun b => b = 107) d e ∧ e.1 = d.1 ∧ vm e Q 107 (fun j => g j + adk L Q k x j)) ?_ ?_ (s := ((0 : Int32), d)) ⟨rfl, Fr.refl _ _, rfl, hv⟩
  · exact loop
  · intro mv s hm ⟨i1, i2, i3, i4⟩
    have v6 : s.2.2 106 (stj Q k) = lN x := by rw [i2.j (b := 106) (by omega)]; exact h6
    unfold fX11_rows_L103
    rw [i1, if_neg (show ¬ (16 : Int32) ≤ nI mv from nI_ge (b := 16) hm (by omega)), gr94_26 hS, Option.bind_some, gr94_21 hS, Option.bind_some, li102 hS _ (show k < 65536 by omega), Option.bind_some, i3, s2, lj106 hS _ s1, Option.bind_some, v6]
    by_cases x0 : x = 0
    · right
      rw [if_pos ((lN_pos hx).mpr x0)]
      refine ⟨_, rfl, i2, i3, fun j hj => ?_⟩
      have z : ∀ n, sN (fun mv => if (gq Q j).1 = mvt L (gq Q k).1 mv then x else 0) n = 0 := fun n => by
        rw [x0, sN_cong (g := fun _ => 0) (fun k _ => by split <;> rfl), sN_zero]
      have := i4 j hj
      dsimp only at this ⊢
      rw [this, z]
      unfold adk
      rw [z]
    · left
      have t := h.2.2.2.2.1 k mv hk hm
      rw [show stN (gq Q k).1 = stj Q k from rfl] at t
      rw [if_neg (fun a => x0 ((lN_pos hx).mp a)), gr94_22 hS, Option.bind_some, Option.bind_some, li102 hS _ (show k < 65536 by omega), Option.bind_some, i3, s2, p16, li103 hS _ (show 16 * stj Q k + mv < 1048576 by omega), Option.bind_some, i3, t, nI_1]
      unfold mvS
      by_cases m0 : mvt L (gq Q k).1 mv < 0
      · rw [if_pos m0, if_pos rfl]
        refine ⟨_, rfl, rfl, i2, i3, fun j hj => ?_⟩
        have := i4 j hj
        dsimp only at this ⊢
        rw [this, sN, if_neg (fun e => (hs.q hj).nn (by rw [e]; exact m0)), Nat.add_zero]
      · obtain ⟨j0, hj0, e0⟩ := mvt_ex hB hk hm m0
        obtain ⟨z1, z2⟩ := h.st hj0
        have ez : stnd (mvt L (gq Q k).1 mv) = nI (stj Q j0) := by rw [← e0]; exact (stN_eq _).2
        rw [if_neg m0, ez, if_neg (by intro a; exact absurd (nI_pos (n := stj Q j0) (by omega)) (by rw [a]; decide)), gr94_27 hS, Option.bind_some, Option.bind_some, Option.bind_some, li102 hS _ (show k < 65536 by omega), Option.bind_some, i3, s2, p16, li103 hS _ (show 16 * stj Q k + mv < 1048576 by omega), Option.bind_some, i3, t]
        unfold mvS
        rw [if_neg m0, ez, lj107 hS _ z1, Option.bind_some, Option.bind_some, Option.bind_some, li102 hS _ (show k < 65536 by omega), Option.bind_some, i3, s2, lj106 hS _ s1, Option.bind_some, v6, sj107 hS _ _ z1, Option.bind_some]
        refine ⟨_, rfl, rfl, i2.trans (Fr.uJ _ rfl), i3, fun j hj => ?_⟩
        have a4 := i4 j hj
        have b4 := i4 j0 hj0
        dsimp only at a4 b4 ⊢
        by_cases e : j = j0
        · subst e
          rw [uJ_s, a4, sN, if_pos e0, ← lNa, Nat.add_assoc]
        · have ne : stj Q j ≠ stj Q j0 := fun a => e (h.inj hj hj0 a)
          rw [uJ_k _ _ _ _ _ ne, a4, sN, if_neg (fun a => e (gq_nds h.2.2.2.2.2.2.1 hj hj0 (by rw [a, e0]))), Nat.add_zero]
  · intro s ⟨i1, i2, i3, i4⟩
    unfold fX11_rows_L103
    rw [i1, if_pos (show (16 : Int32) ≤ nI 16 by decide)]
    exact ⟨_, rfl, i2, i3, i4⟩
theorem m_on (h : LY S d L f Q K) {i : Nat} (hi : i ≤ 8) (h6 : vm d Q 106 (cnt L Q i)) (h7 : vm d Q 107 (fun _ => 0)) : ∃ d', sk_itr (fX11_rows_L91 S 94) ((0 : Int32), d) = some d' ∧ Fr (fun b => b = 107) d d' ∧ vm d' Q 107 (cnt L Q (i + 1)) := by
  have hS := h.1
  have hl := h.2.2.2.2.2.2.2.1
  have hnd := h.2.2.2.2.2.2.1
  have f67 : ∀ {e e' : sk_D}, Fr (fun b => b = 107) e e' → Fr m67 e e' := fun f => f.mono (fun b hb => Or.inr hb)
  have loop := it_for (body := fX11_rows_L91 S 94) (fun k s => s.1 = nI k ∧ Fr (fun b => b = 107) d s.2 ∧ vm s.2 Q 107 (fun j => sN (fun k => sN (fun mv => if (gq Q j).1 = mvt L (gq Q k).1 mv then cnt L Q i k else 0) 16) k)) Q.length (fun e => Fr (fun b => b = 107) d e ∧ vm e Q 107 (cnt L Q (i + 1))) ?_ ?_ (s := ((0 : Int32), d)) ⟨rfl, Fr.refl _ _, h7⟩
  · exact loop
  · intro k s hk ⟨i1, i2, i3⟩
    left
    have h1 := h.fr67 (f67 i2)
    obtain ⟨d1, a1, a2, a3, a4⟩ := m_onL h1 hk (x := cnt L Q i k) (cnt_lt hnd hi hk) (by rw [i2.j (b := 106) (by omega)]; exact h6 k hk) i3
    unfold fX11_rows_L91
    rw [i1, gi94 hS, Option.bind_some, h1.2.2.1, if_neg (nI_ge hk (by omega)), a1, Option.bind_some, nI_1]
    exact ⟨_, rfl, rfl, i2.trans a2, a4⟩
  · intro s ⟨i1, i2, i3⟩
    have h1 := h.fr67 (f67 i2)
    unfold fX11_rows_L91
    rw [i1, gi94 hS, Option.bind_some, h1.2.2.1, if_pos (nI_le (Nat.le_refl _) (by omega))]
    exact ⟨_, rfl, i2, i3⟩
theorem m_back2 (h : LY S d L f Q K) {g : Nat → Nat} (h7 : vm d Q 107 g) : ∃ d', sk_itr (fX11_rows_L202 S 94) ((0 : Int32), d) = some d' ∧ Fr m67 d d' ∧ vm d' Q 106 g ∧ vm d' Q 107 (fun _ => 0) := by
  have hS := h.1
  have hl := h.2.2.2.2.2.2.2.1
  have loop := it_for (body := fX11_rows_L202 S 94) (fun k s => s.1 = nI k ∧ Fr m67 d s.2 ∧ (∀ j, j < k → s.2.2 106 (stj Q j) = lN (g j) ∧ s.2.2 107 (stj Q j) = lN 0) ∧ ∀ j, k ≤ j → j < Q.length → s.2.2 107 (stj Q j) = lN (g j)) Q.length (fun e => Fr m67 d e ∧ vm e Q 106 g ∧ vm e Q 107 (fun _ => 0)) ?_ ?_ (s := ((0 : Int32), d)) ⟨rfl, Fr.refl _ _, fun j hj => by omega, fun j _ hj => h7 j hj⟩
  · exact loop
  · intro k s hk ⟨i1, i2, i3, i4⟩
    left
    have h1 := h.fr67 i2
    obtain ⟨s1, s2⟩ := h1.st hk
    unfold fX11_rows_L202
    rw [i1, gi94 hS, Option.bind_some, h1.2.2.1, if_neg (nI_ge hk (by omega)), gr94_26 hS, Option.bind_some, gr94_21 hS, Option.bind_some, li102 hS _ (show k < 65536 by omega), Option.bind_some, s2, gr94_27 hS, Option.bind_some, Option.bind_some, li102 hS _ (show k < 65536 by omega), Option.bind_some, s2, lj107 hS _ s1, Option.bind_some, sj106 hS _ _ s1, Option.bind_some, Option.bind_some, Option.bind_some, li102 hS _ (show k < 65536 by omega), Option.bind_some, show (sk_uJ s.2 106 (stj Q k) (s.2.2 107 (stj Q k))).1 102 k = nI (stj Q k) from s2, sj107 hS _ _ s1, Option.bind_some, nI_1]
    refine ⟨_, rfl, rfl, (i2.trans (Fr.uJ (P := m67) _ (Or.inl rfl))).trans (Fr.uJ (P := m67) _ (Or.inr rfl)), fun j hj => ?_, fun j h1 h2 => ?_⟩
    · by_cases e : j = k
      · subst e
        exact ⟨by rw [uJ_a _ _ _ 106 _ (by omega), uJ_s]; exact i4 j (Nat.le_refl _) hk, by rw [uJ_s]; rfl⟩
      · have ne : stj Q j ≠ stj Q k := fun a => e (h.inj (by omega) hk a)
        obtain ⟨a, b⟩ := i3 j (by omega)
        exact ⟨by rw [uJ_a _ _ _ 106 _ (by omega), uJ_k _ _ _ _ _ ne]; exact a, by rw [uJ_k _ _ _ _ _ ne, uJ_a _ _ _ 107 _ (by omega)]; exact b⟩
    · have ne : stj Q j ≠ stj Q k := fun a => by have := h.inj h2 hk a; omega
      rw [uJ_k _ _ _ _ _ ne, uJ_a _ _ _ 107 _ (by omega)]
      exact i4 j (by omega) h2
  · intro s ⟨i1, i2, i3, i4⟩
    have h1 := h.fr67 i2
    unfold fX11_rows_L202
    rw [i1, gi94 hS, Option.bind_some, h1.2.2.1, if_pos (nI_le (Nat.le_refl _) (by omega))]
    exact ⟨_, rfl, i2, fun j hj => (i3 j hj).1, fun j hj => (i3 j hj).2⟩
theorem m_steps (h : LY S d L f Q K) {n : Nat} (hn : n ≤ 8) (h6 : vm d Q 106 (cnt L Q 0)) (h7 : vm d Q 107 (fun _ => 0)) : ∃ d', sk_itr (fX11_rows_L83 S 94 (nI n)) ((0 : Int32), d) = some d' ∧ Fr m67 d d' ∧ vm d' Q 106 (cnt L Q n) := by
  have hS := h.1
  have loop := it_for (body := fX11_rows_L83 S 94 (nI n)) (fun k s => s.1 = nI k ∧ Fr m67 d s.2 ∧ vm s.2 Q 106 (cnt L Q k) ∧ vm s.2 Q 107 (fun _ => 0)) n (fun e => Fr m67 d e ∧ vm e Q 106 (cnt L Q n)) ?_ ?_ (s := ((0 : Int32), d)) ⟨rfl, Fr.refl _ _, h6, h7⟩
  · exact loop
  · intro k s hk ⟨i1, i2, i3, i4⟩
    left
    have h1 := h.fr67 i2
    obtain ⟨d1, a1, a2, a3⟩ := m_on h1 (show k ≤ 8 by omega) i3 i4
    have f1 : Fr m67 s.2 d1 := a2.mono (fun b hb => Or.inr hb)
    obtain ⟨d2, b1, b2, b3, b4⟩ := m_back2 (h1.fr67 f1) a3
    unfold fX11_rows_L83
    rw [i1, if_neg (nI_ge hk (by omega)), a1, Option.bind_some, b1, Option.bind_some, nI_1]
    exact ⟨_, rfl, rfl, (i2.trans f1).trans b2, b3, b4⟩
  · intro s ⟨i1, i2, i3, i4⟩
    unfold fX11_rows_L83
    rw [i1, if_pos (nI_le (Nat.le_refl _) (by omega))]
    exact ⟨_, rfl, i2, i3⟩
theorem m_sum (h : LY S d L f Q K) (hm : MI S d L) (set : Int32) {n : Nat} (h6 : vm d Q 106 (cnt L Q n)) : sk_itr (fX11_rows_L265 S 94 set d) ((0 : Int64), (0 : Int32)) = some (lN (rsm L Q set n Q.length), d) := by
  have hS := h.1
  have hl := h.2.2.2.2.2.2.2.1
  have e := it_eq (body := fX11_rows_L265 S 94 set d) (fun k => (lN (rsm L Q set n k), nI k)) Q.length (lN (rsm L Q set n Q.length), d) ?_ ?_
  · exact e
  · intro k hk
    obtain ⟨s1, s2⟩ := h.st hk
    have ha := m_hasAll hm (h.2.2.2.2.2.1.q hk).1.z set true
    unfold fX11_rows_L265
    dsimp only
    rw [gi94 hS, Option.bind_some, h.2.2.1, if_neg (nI_ge hk (by omega)), gr94_21 hS, Option.bind_some, li102 hS _ (show k < 65536 by omega), Option.bind_some, if_pos (kd94 hS), h.2.2.2.1 k hk, nI_1]
    unfold rsm
    rw [sN, lNa]
    by_cases g : (set &&& (sw (gq Q k).1 ^^^ (-1))) = 0
    · have g' : gl true set (gq Q k).1 := by unfold gl; rw [if_pos rfl]; exact g
      rw [ha.1 g', Option.bind_some, if_pos rfl, if_pos g, gr94_26 hS, Option.bind_some, Option.bind_some, li102 hS _ (show k < 65536 by omega), Option.bind_some, s2, lj106 hS _ s1, Option.bind_some, h6 k hk]
    · have g' : ¬ gl true set (gq Q k).1 := by unfold gl; rw [if_pos rfl]; exact g
      rw [ha.2 g', Option.bind_some, if_neg (by decide), if_neg g]
      rfl
  · unfold fX11_rows_L265
    dsimp only
    rw [gi94 hS, Option.bind_some, h.2.2.1, if_pos (nI_le (Nat.le_refl _) (by omega))]
end
theorem m_rows {S : sk_S} {d : sk_D} {A : AS} (h : RM S d A) (hA : okA A) (set n : Int32) : ∃ d', fX11_rows S d 94 set n = some (x_rows A set n, d') ∧ RM S d' A ∧ Fr mdl d d' := by
  have hS := h.1.1
  have h0 := h.m0 0
  have no : ¬ (hAl (as_L A) set ∧ inN 9 n) → ∃ d', (some ((-3 : Int64), sk_uI d 94 0 0) : Option (Int64 × sk_D)) = some (x_rows A set n, d') ∧ RM S d' A ∧ Fr mdl d d' := fun a => ⟨_, by unfold x_rows; rw [if_neg a], h0, (mfr0 d 0).2.2.2.2⟩
  have ha := m_isSet h0.1 set
  unfold fX11_rows
  rw [pi94 hS, Option.bind_some, if_pos (kd94 hS)]
  by_cases q : hAl (as_L A) set
  · rw [ha.1 q, Option.bind_some, if_pos rfl, f_within, Option.bind_some]
    by_cases qn : inN 9 n
    · have hf := ok_16 hA.2.1
      have hB := kq_BI hA.1 hf
      obtain ⟨d1, a1, a2, a3, a4, a5, a6⟩ := m_lays h0 hA
      obtain ⟨b1, b2, b3⟩ := bq_ok hA.1 hf
      have ly : LY S d1 (as_L A) (st16 (as_m A)) (bq (as_L A) (st16 (as_m A))) (kq (as_L A) (st16 (as_m A))) :=
        ⟨hS, hA.1, a2.1, fun i hi => a2.2.1 i _ (gq_some hi), fun i mv hi hm => a3 i _ hi (gq_some hi) mv hm, b1, b2, b3, hB⟩
      obtain ⟨j, hj, rfl⟩ := inN_of qn
      obtain ⟨d2, e1, e2, e3, e4⟩ := m_zero ly
      obtain ⟨d3, r1, r2, r3⟩ := m_steps (ly.fr67 e2) (show j ≤ 8 by omega) e3 e4
      have f13 := e2.trans r2
      have r13 : RM S d3 A := a4.free hA (f13.mono (fun b hb => by unfold m67 at hb; unfold mfree; omega))
      rw [decide_eq_true ((w_in 9 8 rfl).mpr qn), if_pos rfl, if_pos (kd94 hS), a1, Option.bind_some, e1, Option.bind_some, r1, Option.bind_some, m_sum (ly.fr67 f13) r13.1 set r3]
      refine ⟨d3, ?_, r13, ((mfr0 d 0).2.2.2.2.trans (mfr.bf a5 a6).1.2.2.2.2).trans (f13.mono (fun b hb => by unfold m67 at hb; unfold mdl; omega))⟩
      unfold x_rows
      rw [if_pos ⟨q, qn⟩, nI_clamp (by omega)]
      rfl
    · rw [decide_eq_false (fun x => qn ((w_in 9 8 rfl).mp x)), if_neg (by decide)]
      exact no (fun a => qn a.2)
  · rw [ha.2 q, Option.bind_some, if_neg (by decide)]
    exact no (fun a => q a.1)
