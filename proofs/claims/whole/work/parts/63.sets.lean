/-! sets of done ones: the greatest clique, packing -/
theorem sub_n {L : LF} (hk : okL L) {done : Int32} (hd : ∀ i, lf_n L ≤ i → i < 32 → bt done i = false) {k : Nat} (h2 : k < 256) (h : (nI k &&& (done ^^^ (-1))) = 0) : k < 2 ^ lf_n L := by
  have hn := hk.1
  have p8 : (2 : Nat) ^ lf_n L ≤ 2 ^ 8 := Nat.pow_le_pow_right (by omega) hn
  have hb := (z_sub _ _).mp h
  obtain ⟨j, hj, e⟩ := b_low (x := nI k) (n := lf_n L) (by omega) (fun i h1 h3 => by
    cases hx : bt (nI k) i
    · rfl
    · have := hb i h3 hx; rw [hd i h1 h3] at this; exact absurd this (by decide))
  rw [nI_eq (by omega) (by omega)] at e
  omega
theorem dn_n {L : LF} {m : Int32} (h : okM L m) : ∀ i, lf_n L ≤ i → i < 32 → bt (dn m) i = false := by
  intro i h1 h2
  rw [bt_dn]
  by_cases c : i < 8
  · rw [(h.1 i h1 c).1]; rfl
  · simp [c]
theorem clr_eq (set : Int32) {j : Nat} (hj : j < 8) : (set &&& (((1 : Int32) <<< (nI j &&& 31)) ^^^ (-1))) = set ↔ bt set j = false := by
  constructor
  · intro h
    have := congrArg (fun x => bt x j) h
    simp only [b_and, b_not _ (show j < 32 by omega), b_one (show j < 32 by omega) (show j < 32 by omega)] at this
    simp at this
    exact this
  · intro h
    apply b_ext
    intro i hi
    rw [b_and, b_not _ hi, b_one (by omega) hi]
    by_cases c : i = j
    · subst c; rw [h]; rfl
    · simp [c]
def acj (L : LF) (set : Int32) (j : Nat) : Prop := bt set j = true → ((set &&& (((1 : Int32) <<< (nI j &&& 31)) ^^^ (-1))) &&& (lf_v L 6 j ^^^ (-1))) = 0
def allC (L : LF) (set : Int32) : Prop := ∀ j, j < lf_n L → acj L set j
theorem c_allClash {S : sk_S} {d : sk_D} {L : LF} (hS : Sh S) (hk : okL L) (hc : cL d 3 L) {set : Int32} (hs : ∀ i, lf_n L ≤ i → i < 8 → bt set i = false) : ∃ r, fX0_allClash S d 3 set = some r ∧ (r = true ↔ allC L set) := by
  have hn := hk.1
  unfold fX0_allClash
  have loop := it_for (body := fX0_allClash_L2 S d 3 set) (fun k z => z = nI k ∧ ∀ j, j < k → j < lf_n L → acj L set j) 8 (fun e => (e = true ↔ allC L set)) ?_ ?_ (s := (0 : Int32)) ⟨rfl, fun j hj => by omega⟩
  · obtain ⟨e, he, e1⟩ := loop
    exact ⟨e, by rw [he]; rfl, e1⟩
  · intro k z hkk ⟨i1, i2⟩
    unfold fX0_allClash_L2
    rw [i1, if_neg (show ¬ (8 : Int32) ≤ nI k from nI_ge (b := 8) hkk (by omega))]
    rcases Bool.eq_false_or_eq_true (bt set k) with hb | hb
    · have kn : k < lf_n L := by
        rcases Nat.lt_or_ge k (lf_n L) with a | a
        · exact a
        · rw [hs k a hkk] at hb; exact absurd hb (by decide)
      obtain ⟨-, -, -, -, -, -, v6⟩ := cv hc kn
      rw [if_neg (fun a => by rw [(clr_eq set hkk).mp a] at hb; exact absurd hb (by decide)), gr3_11 hS, Option.bind_some, li10 hS _ hkk, Option.bind_some, v6]
      by_cases c : ((set &&& (((1 : Int32) <<< (nI k &&& 31)) ^^^ (-1))) &&& (lf_v L 6 k ^^^ (-1))) = 0
      · left
        rw [if_pos c]
        refine ⟨_, rfl, nI_1 k, fun j hj hjn => ?_⟩
        by_cases cj : j = k
        · subst cj; exact fun _ => c
        · exact i2 j (by omega) hjn
      · right
        rw [if_neg c]
        exact ⟨_, rfl, ⟨fun h => absurd h (by decide), fun h => absurd (h k kn hb) c⟩⟩
    · left
      rw [if_pos ((clr_eq set hkk).mpr hb)]
      refine ⟨_, rfl, nI_1 k, fun j hj hjn => ?_⟩
      by_cases cj : j = k
      · subst cj; intro a; rw [hb] at a; exact absurd a (by decide)
      · exact i2 j (by omega) hjn
  · intro z ⟨i1, i2⟩
    unfold fX0_allClash_L2
    rw [i1, if_pos (show (8 : Int32) ≤ nI 8 by decide)]
    exact ⟨_, rfl, ⟨fun _ j hj => i2 j (by omega) hj, fun _ => rfl⟩⟩
theorem m_allClash {S : sk_S} {d : sk_D} {L : LF} (h : MI S d L) (set : Int32) : ∃ r, fX11_allClash S d 94 set = some r ∧ (r = true ↔ allC L set) := by
  obtain ⟨hS, hk, hm⟩ := h
  have hn := hk.1
  unfold fX11_allClash
  have loop := it_for (body := fX11_allClash_L2 S d 94 set) (fun k z => z = nI k ∧ ∀ j, j < k → acj L set j) (lf_n L) (fun e => (e = true ↔ allC L set)) ?_ ?_ (s := (0 : Int32)) ⟨rfl, fun j hj => by omega⟩
  · obtain ⟨e, he, e1⟩ := loop
    exact ⟨e, by rw [he]; rfl, e1⟩
  · intro k z hkk ⟨i1, i2⟩
    obtain ⟨-, -, -, -, -, -, v6⟩ := mv hm hkk
    unfold fX11_allClash_L2
    rw [i1, gr94_1 hS, Option.bind_some, l95_1 hS, Option.bind_some, hm.2.1, if_neg (nI_ge hkk (by omega)), f_isIn S d set (by omega), Option.bind_some]
    rcases Bool.eq_false_or_eq_true (bt set k) with hb | hb
    · rw [if_pos hb, Option.bind_some, p58, li95 hS _ (by omega), Option.bind_some, v6]
      by_cases c : ((set &&& (((1 : Int32) <<< (nI k &&& 31)) ^^^ (-1))) &&& (lf_v L 6 k ^^^ (-1))) = 0
      · left
        rw [if_pos c]
        refine ⟨_, rfl, nI_1 k, fun j hj => ?_⟩
        by_cases cj : j = k
        · subst cj; exact fun _ => c
        · exact i2 j (by omega)
      · right
        rw [if_neg c]
        exact ⟨_, rfl, ⟨fun h => absurd h (by decide), fun h => absurd (h k hkk hb) c⟩⟩
    · left
      rw [if_neg (by rw [hb]; decide)]
      refine ⟨_, rfl, nI_1 k, fun j hj => ?_⟩
      by_cases cj : j = k
      · subst cj; intro a; rw [hb] at a; exact absurd a (by decide)
      · exact i2 j (by omega)
  · intro z ⟨i1, i2⟩
    unfold fX11_allClash_L2
    rw [i1, gr94_1 hS, Option.bind_some, l95_1 hS, Option.bind_some, hm.2.1, if_pos (nI_le (Nat.le_refl _) (by omega))]
    exact ⟨_, rfl, ⟨fun _ j hj => i2 j hj, fun _ => rfl⟩⟩
noncomputable def cq (L : LF) (done : Int32) : Nat → Nat
  | 0 => 0
  | k + 1 => @ite _ ((nI k &&& (done ^^^ (-1))) = 0 ∧ ¬ pc (nI k) ≤ pc (nI (cq L done k)) ∧ allC L (nI k)) (Classical.propDecidable _) k (cq L done k)
theorem cq_s (L : LF) (done : Int32) (k : Nat) : cq L done (k + 1) = @ite _ ((nI k &&& (done ^^^ (-1))) = 0 ∧ ¬ pc (nI k) ≤ pc (nI (cq L done k)) ∧ allC L (nI k)) (Classical.propDecidable _) k (cq L done k) := rfl
theorem cq_le (L : LF) (done : Int32) : ∀ k, cq L done k ≤ k
  | 0 => Nat.le_refl _
  | k + 1 => by
    have := cq_le L done k
    unfold cq
    split <;> omega
theorem cq_stop {L : LF} (hk : okL L) {done : Int32} (hd : ∀ i, lf_n L ≤ i → i < 32 → bt done i = false) : ∀ k, 2 ^ lf_n L + k ≤ 256 → cq L done (2 ^ lf_n L + k) = cq L done (2 ^ lf_n L)
  | 0, _ => rfl
  | k + 1, h => by
    rw [← Nat.add_assoc, cq_s, if_neg]
    · exact cq_stop hk hd k (by omega)
    · intro a; have := sub_n hk hd (k := 2 ^ lf_n L + k) (by omega) a.1; omega
noncomputable def x_clique (A : AS) : Int32 := nI (cq (as_L A) (dn (as_m A)) 256)
theorem c_clique {S : sk_S} {d : sk_D} {A : AS} (h : RC S d A) (hA : okA A) : fX10_clique S d 1 = some (x_clique A) := by
  have hS := h.1.1
  have hk := hA.1
  have hc := h.1.2.2.1
  have hd := dn_n hA.2.1
  unfold fX10_clique fX0_greatest
  rw [gr1_4 hS, Option.bind_some, gr1_0 hS, Option.bind_some, gr2_0 hS, Option.bind_some, gr1_5 hS, Option.bind_some, gi50 hS, Option.bind_some, h.2.1.1, f_dn, Option.bind_some, if_pos (kd48 hS)]
  have e := it_eq (body := fX0_greatest_L5 S d 3 (dn (as_m A))) (fun k => (nI (cq (as_L A) (dn (as_m A)) (k + 1)), nI (k + 1))) 255 (x_clique A) ?_ ?_
  · have c1 : cq (as_L A) (dn (as_m A)) 1 = 0 := by rw [cq_s]; split <;> rfl
    rw [show ((0 : Int32), (1 : Int32)) = (nI (cq (as_L A) (dn (as_m A)) (0 + 1)), nI (0 + 1)) by rw [Nat.zero_add, c1]; rfl, e]
    rfl
  · intro k hkk
    have l1 := cq_le (as_L A) (dn (as_m A)) (k + 1)
    unfold fX0_greatest_L5
    dsimp only
    rw [if_neg (show ¬ (256 : Int32) ≤ nI (k + 1) from nI_ge (b := 256) (by omega) (by omega)), cq_s _ _ (k + 1), nI_1]
    by_cases c : (nI (k + 1) &&& (dn (as_m A) ^^^ (-1))) = 0
    · rw [if_pos c, f_bc (k + 1) (by omega), Option.bind_some, f_bc _ (by omega), Option.bind_some]
      by_cases c2 : pc (nI (k + 1)) ≤ pc (nI (cq (as_L A) (dn (as_m A)) (k + 1)))
      · rw [if_pos c2, if_neg (fun a => a.2.1 c2)]
      · rw [if_neg c2]
        have hb := (z_sub _ _).mp c
        obtain ⟨r, r1, r2⟩ := c_allClash hS hk hc (set := nI (k + 1)) (fun i h1 h2 => by
          cases hx : bt (nI (k + 1)) i
          · rfl
          · have := hb i (by omega) hx; rw [hd i h1 (by omega)] at this; exact absurd this (by decide))
        rw [r1, Option.bind_some]
        cases r with
        | true => rw [if_pos rfl, if_pos ⟨c, c2, r2.mp rfl⟩]
        | false => rw [if_neg (by decide), if_neg (fun a => absurd (r2.mpr a.2.2) (by decide))]
    · rw [if_neg c, if_neg (fun a => c a.1)]
  · unfold fX0_greatest_L5
    dsimp only
    rw [if_pos (show (256 : Int32) ≤ nI (255 + 1) by decide)]
    rfl
theorem m_clique {S : sk_S} {d : sk_D} {A : AS} (h : RM S d A) (hA : okA A) : fX11_clique S d 94 = some (x_clique A, sk_uI d 94 0 0) := by
  have hS := h.1.1
  have h0 := h.m0 0
  have hk := hA.1
  have hn := hk.1
  have hd := dn_n hA.2.1
  have hm := h0.1.2.2
  have e1 : ∀ n, n ≤ 8 → (1 : Int32) <<< (nI n &&& 31) = nI (2 ^ n) := by decide
  have p8 : (2 : Nat) ^ lf_n (as_L A) ≤ 2 ^ 8 := Nat.pow_le_pow_right (by omega) hn
  have p1 : 1 ≤ (2 : Nat) ^ lf_n (as_L A) := Nat.one_le_two_pow
  unfold fX11_clique
  rw [pi94 hS, Option.bind_some, if_pos (kd94 hS), m_stand hS h0.2.1.1.1, Option.bind_some, if_pos (kd94 hS), m_done hS hk hm hA.2.1.z, Option.bind_some]
  have ex : x_clique A = nI (cq (as_L A) (dn (as_m A)) (2 ^ lf_n (as_L A))) := by
    unfold x_clique
    have := cq_stop hk hd (256 - 2 ^ lf_n (as_L A)) (by omega)
    rw [show 2 ^ lf_n (as_L A) + (256 - 2 ^ lf_n (as_L A)) = 256 by omega] at this
    rw [this]
  have e := it_eq (body := fX11_clique_L18 S 94 (sk_uI d 94 0 0) (dn (as_m A))) (fun k => (nI (cq (as_L A) (dn (as_m A)) (k + 1)), nI (k + 1))) (2 ^ lf_n (as_L A) - 1) (x_clique A, sk_uI d 94 0 0) ?_ ?_
  · have c1 : cq (as_L A) (dn (as_m A)) 1 = 0 := by rw [cq_s]; split <;> rfl
    rw [show ((0 : Int32), (1 : Int32)) = (nI (cq (as_L A) (dn (as_m A)) (0 + 1)), nI (0 + 1)) by rw [Nat.zero_add, c1]; rfl, e]
    rfl
  · intro k hkk
    have l1 := cq_le (as_L A) (dn (as_m A)) (k + 1)
    unfold fX11_clique_L18
    dsimp only
    rw [gr94_1 hS, Option.bind_some, l95_1 hS, Option.bind_some, hm.2.1, e1 _ hn, if_neg (nI_ge (show k + 1 < 2 ^ lf_n (as_L A) by omega) (by omega)), cq_s _ _ (k + 1), nI_1]
    by_cases c : (nI (k + 1) &&& (dn (as_m A) ^^^ (-1))) = 0
    · rw [if_pos c, m_bits, Option.bind_some, m_bits, Option.bind_some]
      by_cases c2 : pc (nI (k + 1)) ≤ pc (nI (cq (as_L A) (dn (as_m A)) (k + 1)))
      · rw [if_pos c2, if_neg (fun a => a.2.1 c2)]
      · obtain ⟨r, r1, r2⟩ := m_allClash h0.1 (nI (k + 1))
        rw [if_neg c2, if_pos (kd94 hS), r1, Option.bind_some]
        cases r with
        | true => rw [if_pos rfl, if_pos ⟨c, c2, r2.mp rfl⟩]
        | false => rw [if_neg (by decide), if_neg (fun a => absurd (r2.mpr a.2.2) (by decide))]
    · rw [if_neg c, if_neg (fun a => c a.1)]
  · unfold fX11_clique_L18
    dsimp only
    rw [gr94_1 hS, Option.bind_some, l95_1 hS, Option.bind_some, hm.2.1, e1 _ hn, show 2 ^ lf_n (as_L A) - 1 + 1 = 2 ^ lf_n (as_L A) by omega, if_pos (nI_le (Nat.le_refl _) (by omega)), ex]
