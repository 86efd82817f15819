/-! a life copied -/
def LA (S : sk_S) (a : Nat) : Prop := S.2.1 a = (2, 0) ∧ (∀ k, k < 8 → sk_gR S a 2 (5 + k) = some (a + 1 + k) ∧ S.2.1 (a + 1 + k) = (20, 8)) ∧ sk_gR S a 2 13 = some (a + 9) ∧ sk_gR S a 2 14 = some (a + 12) ∧
  S.2.1 (a + 9) = (1, 0) ∧ S.2.1 (a + 12) = (1, 0) ∧ sk_gR S (a + 9) 1 0 = some (a + 10) ∧ sk_gR S (a + 12) 1 0 = some (a + 13) ∧ S.2.1 (a + 10) = (20, 900) ∧ S.2.1 (a + 13) = (20, 900)
theorem k8 {P : Nat → Prop} (h0 : P 0) (h1 : P 1) (h2 : P 2) (h3 : P 3) (h4 : P 4) (h5 : P 5) (h6 : P 6) (h7 : P 7) : ∀ k, k < 8 → P k := by
  intro k hk
  rcases (by omega : k = 0 ∨ k = 1 ∨ k = 2 ∨ k = 3 ∨ k = 4 ∨ k = 5 ∨ k = 6 ∨ k = 7) with rfl | rfl | rfl | rfl | rfl | rfl | rfl | rfl <;> assumption
theorem LA3 {S : sk_S} (h : Sh S) : LA S 3 := ⟨kd3 h, k8 ⟨gr3_5 h, kd4 h⟩ ⟨gr3_6 h, kd5 h⟩ ⟨gr3_7 h, kd6 h⟩ ⟨gr3_8 h, kd7 h⟩ ⟨gr3_9 h, kd8 h⟩ ⟨gr3_10 h, kd9 h⟩ ⟨gr3_11 h, kd10 h⟩ ⟨gr3_12 h, kd11 h⟩, gr3_13 h, gr3_14 h, kd12 h, kd15 h, gr12_0 h, gr15_0 h, kd13 h, kd16 h⟩
theorem LA22 {S : sk_S} (h : Sh S) : LA S 22 := ⟨kd22 h, k8 ⟨gr22_5 h, kd23 h⟩ ⟨gr22_6 h, kd24 h⟩ ⟨gr22_7 h, kd25 h⟩ ⟨gr22_8 h, kd26 h⟩ ⟨gr22_9 h, kd27 h⟩ ⟨gr22_10 h, kd28 h⟩ ⟨gr22_11 h, kd29 h⟩ ⟨gr22_12 h, kd30 h⟩, gr22_13 h, gr22_14 h, kd31 h, kd34 h, gr31_0 h, gr34_0 h, kd32 h, kd35 h⟩
theorem LA64 {S : sk_S} (h : Sh S) : LA S 64 := ⟨kd64 h, k8 ⟨gr64_5 h, kd65 h⟩ ⟨gr64_6 h, kd66 h⟩ ⟨gr64_7 h, kd67 h⟩ ⟨gr64_8 h, kd68 h⟩ ⟨gr64_9 h, kd69 h⟩ ⟨gr64_10 h, kd70 h⟩ ⟨gr64_11 h, kd71 h⟩ ⟨gr64_12 h, kd72 h⟩, gr64_13 h, gr64_14 h, kd73 h, kd76 h, gr73_0 h, gr76_0 h, kd74 h, kd77 h⟩
theorem LA79 {S : sk_S} (h : Sh S) : LA S 79 := ⟨kd79 h, k8 ⟨gr79_5 h, kd80 h⟩ ⟨gr79_6 h, kd81 h⟩ ⟨gr79_7 h, kd82 h⟩ ⟨gr79_8 h, kd83 h⟩ ⟨gr79_9 h, kd84 h⟩ ⟨gr79_10 h, kd85 h⟩ ⟨gr79_11 h, kd86 h⟩ ⟨gr79_12 h, kd87 h⟩, gr79_13 h, gr79_14 h, kd88 h, kd91 h, gr88_0 h, gr91_0 h, kd89 h, kd92 h⟩
theorem cpA {S : sk_S} (d : sk_D) {a0 a N : Nat} (h0 : S.2.1 a0 = (20, N)) (h : S.2.1 a = (20, N)) (hN : N < 2 ^ 31) :
    ∃ e, sk_cp S d a0 0 a 0 (nI N) = some e ∧ (∀ b, b ≠ a → e.1 b = d.1 b) ∧ (∀ j, j < N → e.1 a j = d.1 a0 j) ∧ e.2 = d.2 := by
  have z : (0 : Int32).toNatClampNeg = 0 := rfl
  unfold sk_cp
  rw [h0, h, z, nI_clamp hN, if_pos ⟨rfl, rfl, by decide, by decide, nI_pos hN, by omega, by omega⟩]
  refine ⟨_, rfl, fun b hb => ?_, fun j hj => ?_, rfl⟩
  · funext j; exact if_neg hb
  · show (if a = a then va_cpy (d.1 a0) (d.1 a) 0 0 N j else d.1 a j) = _
    rw [if_pos rfl]
    unfold va_cpy
    rw [if_pos (by omega), Nat.zero_add, Nat.sub_zero]
theorem c_copyLaw {S : sk_S} (d : sk_D) {p q : Nat} (kp : S.2.1 p = (1, 0)) (kq : S.2.1 q = (1, 0)) (rp : sk_gR S p 1 0 = some (p + 1)) (rq : sk_gR S q 1 0 = some (q + 1)) (ap : S.2.1 (p + 1) = (20, 900)) (aq : S.2.1 (q + 1) = (20, 900)) (hpq : p + 2 < q ∨ q + 2 < p) :
    ∃ e, fX1_copyFrom S d p q = some e ∧ (∀ b, b ≠ p → b ≠ p + 1 → e.1 b = d.1 b) ∧ e.1 p 2 = d.1 q 2 ∧ (∀ j, j < 900 → e.1 (p + 1) j = d.1 (q + 1) j) ∧ e.2 = d.2 := by
  obtain ⟨e, e1, e2, e3, e4⟩ := cpA (sk_uI d p 2 (d.1 q 2)) aq ap (by omega)
  refine ⟨e, ?_, fun b h1 h2 => by rw [e2 b h2, uI_a _ _ _ _ _ h1], by rw [e2 p (by omega), uI_s], fun j hj => by rw [e3 j hj, uI_a _ _ _ _ _ (by omega)], e4⟩
  unfold fX1_copyFrom
  rw [show sk_gI S d q 1 2 = some (d.1 q 2) from if_pos kq, Option.bind_some, show sk_pI S d p 1 2 (d.1 q 2) = some (sk_uI d p 2 (d.1 q 2)) from if_pos kp, Option.bind_some, rq, Option.bind_some, rp, Option.bind_some, show (900 : Int32) = nI 900 from rfl, e1, Option.bind_some]
def CP (d e : sk_D) (p q T : Nat) : Prop := (∀ b, ¬ (p ≤ b ∧ b ≤ p + 14) → e.1 b = d.1 b) ∧ e.2 = d.2 ∧ (∀ k, k < 5 → e.1 p k = d.1 q k) ∧ ∀ t j, t < T → j < 8 → e.1 (p + 1 + t) j = d.1 (q + 1 + t) j
theorem CP.step {S : sk_S} {d e : sk_D} {p q T : Nat} (h : CP d e p q T) (hp : LA S p) (hq : LA S q) (hpq : p + 14 < q ∨ q + 14 < p) (hT : T < 8) : ∃ e', sk_cp S e (q + 1 + T) 0 (p + 1 + T) 0 8 = some e' ∧ CP d e' p q (T + 1) := by
  obtain ⟨e', a1, a2, a3, a4⟩ := cpA e (hq.2.1 T hT).2 (hp.2.1 T hT).2 (by omega)
  obtain ⟨h1, h2, h3, h4⟩ := h
  refine ⟨e', a1, fun b hb => by rw [a2 b (by omega)]; exact h1 b hb, a4.trans h2, fun k hk => by rw [a2 p (by omega)]; exact h3 k hk, fun t j ht hj => ?_⟩
  by_cases c : t = T
  · rw [c, a3 j hj, h1 _ (by omega)]
  · rw [a2 _ (by omega)]; exact h4 t j (by omega) hj
theorem c_copyFrom {S : sk_S} (d : sk_D) {p q : Nat} {L : LF} (hk : okL L) (hp : LA S p) (hq : LA S q) (hpq : p + 14 < q ∨ q + 14 < p) (hc : cL d q L) :
    ∃ e, fX2_copyFrom S d p q = some e ∧ (∀ b, ¬ (p ≤ b ∧ b ≤ p + 14) → e.1 b = d.1 b) ∧ e.2 = d.2 ∧ cL e p L := by
  have hn := hk.1
  have h8 := hk.2.1
  have gi : ∀ (x : sk_D) (k : Nat), sk_gI S x q 2 k = some (x.1 q k) := fun x k => if_pos hq.1
  have pi : ∀ (x : sk_D) (k : Nat) (v : Int32), sk_pI S x p 2 k v = some (sk_uI x p k v) := fun x k v => if_pos hp.1
  have nq : q ≠ p := by omega
  have c0 : CP d (sk_uI (sk_uI (sk_uI (sk_uI (sk_uI d p 0 (d.1 q 0)) p 1 (d.1 q 1)) p 2 (d.1 q 2)) p 3 (d.1 q 3)) p 4 (d.1 q 4)) p q 0 := by
    refine ⟨fun b hb => ?_, rfl, fun k hk => ?_, fun t j ht => by omega⟩
    · rw [uI_a _ _ _ _ _ (by omega), uI_a _ _ _ _ _ (by omega), uI_a _ _ _ _ _ (by omega), uI_a _ _ _ _ _ (by omega), uI_a _ _ _ _ _ (by omega)]
    · rcases (by omega : k = 0 ∨ k = 1 ∨ k = 2 ∨ k = 3 ∨ k = 4) with rfl | rfl | rfl | rfl | rfl
      · rw [uI_k _ _ _ _ _ (by omega), uI_k _ _ _ _ _ (by omega), uI_k _ _ _ _ _ (by omega), uI_k _ _ _ _ _ (by omega), uI_s]
      · rw [uI_k _ _ _ _ _ (by omega), uI_k _ _ _ _ _ (by omega), uI_k _ _ _ _ _ (by omega), uI_s]
      · rw [uI_k _ _ _ _ _ (by omega), uI_k _ _ _ _ _ (by omega), uI_s]
      · rw [uI_k _ _ _ _ _ (by omega), uI_s]
      · rw [uI_s]
  obtain ⟨e1, s1, c1⟩ := c0.step hp hq hpq (by omega)
  obtain ⟨e2, s2, c2⟩ := c1.step hp hq hpq (by omega)
  obtain ⟨e3, s3', c3⟩ := c2.step hp hq hpq (by omega)
  obtain ⟨e4, s4, c4⟩ := c3.step hp hq hpq (by omega)
  obtain ⟨e5, s5, c5⟩ := c4.step hp hq hpq (by omega)
  obtain ⟨e6, s6, c6⟩ := c5.step hp hq hpq (by omega)
  obtain ⟨e7, s7, c7⟩ := c6.step hp hq hpq (by omega)
  obtain ⟨e8, s8, c8⟩ := c7.step hp hq hpq (by omega)
  obtain ⟨-, hpa, p13, p14, kp9, kp12, rp9, rp12, ap9, ap12⟩ := hp
  obtain ⟨-, hqa, q13, q14, kq9, kq12, rq9, rq12, aq9, aq12⟩ := hq
  obtain ⟨e9, f1, f2, f3, f4, f5⟩ := c_copyLaw e8 kp9 kq9 rp9 rq9 ap9 aq9 (by omega)
  obtain ⟨e10, g1, g2, g3, g4, g5⟩ := c_copyLaw e9 kp12 kq12 rp12 rq12 ap12 aq12 (by omega)
  obtain ⟨b1, b2, b3, b4⟩ := c8
  obtain ⟨h0, h1, h2, h4, hv, hd, ⟨hw0, hw0'⟩, ⟨hw1, hw1'⟩⟩ := hc
  have lw := hk.2.2.2.2.2
  have fp : ∀ b, b ≠ p + 9 → b ≠ p + 10 → b ≠ p + 12 → b ≠ p + 13 → e10.1 b = e8.1 b := fun b x1 x2 x3 x4 => by rw [g2 b x3 x4, f2 b x1 x2]
  refine ⟨e10, ?_, fun b hb => ?_, g5.trans (f5.trans b2), ?_, ?_, ?_, ?_, fun t j ht hj => ?_, fun j hj => ?_, ⟨?_, fun j hj => ?_⟩, ⟨?_, fun j hj => ?_⟩⟩
  · unfold fX2_copyFrom
    rw [gi, Option.bind_some, pi, Option.bind_some, gi, Option.bind_some, pi, Option.bind_some, gi, Option.bind_some, pi, Option.bind_some, gi, Option.bind_some, pi, Option.bind_some, gi, Option.bind_some, pi, Option.bind_some]
    simp only [uI_a _ _ _ _ _ nq]
    rw [(hqa 0 (by omega)).1, Option.bind_some, (hpa 0 (by omega)).1, Option.bind_some, s1, Option.bind_some, (hqa 1 (by omega)).1, Option.bind_some, (hpa 1 (by omega)).1, Option.bind_some, s2, Option.bind_some,
      (hqa 2 (by omega)).1, Option.bind_some, (hpa 2 (by omega)).1, Option.bind_some, s3', Option.bind_some, (hqa 3 (by omega)).1, Option.bind_some, (hpa 3 (by omega)).1, Option.bind_some, s4, Option.bind_some,
      (hqa 4 (by omega)).1, Option.bind_some, (hpa 4 (by omega)).1, Option.bind_some, s5, Option.bind_some, (hqa 5 (by omega)).1, Option.bind_some, (hpa 5 (by omega)).1, Option.bind_some, s6, Option.bind_some,
      (hqa 6 (by omega)).1, Option.bind_some, (hpa 6 (by omega)).1, Option.bind_some, s7, Option.bind_some, (hqa 7 (by omega)).1, Option.bind_some, (hpa 7 (by omega)).1, Option.bind_some, s8, Option.bind_some,
      p13, Option.bind_some, q13, Option.bind_some, if_pos kp9, f1, Option.bind_some, p14, Option.bind_some, q14, Option.bind_some, if_pos kp12, g1, Option.bind_some]
  · rw [fp b (by omega) (by omega) (by omega) (by omega)]; exact b1 b hb
  · rw [fp p (by omega) (by omega) (by omega) (by omega), b3 0 (by omega)]; exact h0
  · rw [fp p (by omega) (by omega) (by omega) (by omega), b3 1 (by omega)]; exact h1
  · rw [fp p (by omega) (by omega) (by omega) (by omega), b3 2 (by omega)]; exact h2
  · rw [fp p (by omega) (by omega) (by omega) (by omega), b3 4 (by omega)]; exact h4
  · rw [fp _ (by omega) (by omega) (by omega) (by omega), b4 t j (by omega) (by omega)]; exact hv t j ht hj
  · rw [fp _ (by omega) (by omega) (by omega) (by omega), show p + 8 = p + 1 + 7 by omega, b4 7 j (by omega) (by omega), show q + 1 + 7 = q + 8 by omega]; exact hd j hj
  · rw [g2 _ (by omega) (by omega), f3, b1 _ (by omega)]; exact hw0
  · have := lw.1.1
    rw [g2 _ (by omega) (by omega), f4 j (by omega), b1 _ (by omega)]; exact hw0' j hj
  · rw [g3, f2 _ (by omega) (by omega), b1 _ (by omega)]; exact hw1
  · have := lw.2.1
    rw [g4 j (by omega), f2 _ (by omega) (by omega), b1 _ (by omega)]; exact hw1' j hj
