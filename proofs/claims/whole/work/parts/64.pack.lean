/-! packing -/
def gsm (L : LF) (done set : Int32) (k : Nat) : Int32 := s3 (fun j => if bt set j = true then gn L j done else 0) k
def szs (L : LF) (set : Int32) (k : Nat) : Int32 := s3 (fun j => if bt set j = true then lf_v L 0 j else 0) k
theorem szs_le {L : LF} (hk : okL L) (set : Int32) : ∀ k, k ≤ lf_n L → ∃ z, z ≤ 9 * k ∧ szs L set k = nI z
  | 0, _ => ⟨0, by omega, rfl⟩
  | k + 1, h => by
    have hn := hk.1
    obtain ⟨z, z1, z2⟩ := szs_le hk set k (by omega)
    obtain ⟨y, -, y1, y2⟩ := (hk.2.2.2.1 k (by omega)).1
    have e : szs L set (k + 1) = szs L set k + (if bt set k = true then lf_v L 0 k else 0) := rfl
    rw [e, z2]
    by_cases c : bt set k = true
    · rw [if_pos c, y2]; exact ⟨z + y, by omega, nI_add _ _⟩
    · rw [if_neg c]; exact ⟨z, by omega, Int32.add_zero _⟩
theorem rl_neg {L : LF} (hk : okL L) (set : Int32) : rl L set < 0 ↔ ¬ szs L set (lf_n L) ≤ lf_room L := by
  have hn := hk.1
  obtain ⟨r, r1, r2⟩ := hk.2.2.1
  obtain ⟨z, z1, z2⟩ := szs_le hk set (lf_n L) (Nat.le_refl _)
  have e : rl L set = lf_room L - szs L set (lf_n L) := rfl
  rw [e, r2, z2, fa_lt, fa_le, Int32.toInt_sub, nI_toInt (by omega), nI_toInt (by omega), show (0 : Int32).toInt = 0 from rfl, fb_bmod (by omega) (by omega)]
  omega
theorem c_gainsOf {S : sk_S} {d : sk_D} {L : LF} (hS : Sh S) (hk : okL L) (hc : cL d 3 L) (set done : Int32) : fX2_gainsOf S d 3 set done = some (gsm L done set (lf_n L)) := by
  have hn := hk.1
  unfold fX2_gainsOf
  have e := it_eq (body := fX2_gainsOf_L5 S d 3 set done) (fun k => (gsm L done set k, nI k)) (lf_n L) (gsm L done set (lf_n L)) ?_ ?_
  · rw [show ((0 : Int32), (0 : Int32)) = (gsm L done set 0, nI 0) from rfl, e]; rfl
  · intro k hkn
    have hx : ¬ lf_n L ≤ k := by omega
    unfold fX2_gainsOf_L5
    dsimp only
    simp (disch := omega) only [Option.bind_some, ↓reduceIte, nI_leI, nI_ltI, nI_eq, nI_1, kd3 hS, gi3 hS, pi3 hS, gr3_5 hS, gr3_6 hS, gr3_7 hS, gr3_8 hS, gr3_9 hS, gr3_10 hS, gr3_11 hS, gr3_12 hS, gr3_13 hS, gr3_14 hS, hc.2.1, hx, t_1, c_gainOf hS hk hc done hkn]
    have e : gsm L done set (k + 1) = gsm L done set k + (if bt set k = true then gn L k done else 0) := rfl
    rw [e]
    by_cases hb : bt set k = true
    · simp only [hb, ↓reduceIte]
    · simp only [hb, Bool.false_eq_true, ↓reduceIte, Int32.add_zero]
  · unfold fX2_gainsOf_L5
    dsimp only
    simp (disch := omega) only [Option.bind_some, ↓reduceIte, nI_leI, nI_ltI, nI_eq, nI_1, kd3 hS, gi3 hS, pi3 hS, gr3_5 hS, gr3_6 hS, gr3_7 hS, gr3_8 hS, gr3_9 hS, gr3_10 hS, gr3_11 hS, gr3_12 hS, gr3_13 hS, gr3_14 hS, hc.2.1, Nat.le_refl]
theorem m_gainsOf {S : sk_S} {d : sk_D} {L : LF} (h : MI S d L) {m : Int32} (hm : mM (fun k => d.1 95 (74 + k)) m) (set : Int32) : sk_itr (fX11_pack_L81 S 94 d set) ((0 : Int32), (0 : Int32)) = some (gsm L (dn m) set (lf_n L)) := by
  have hS := h.1
  have hn := h.2.1.1
  have e := it_eq (body := fX11_pack_L81 S 94 d set) (fun k => (gsm L (dn m) set k, nI k)) (lf_n L) (gsm L (dn m) set (lf_n L)) ?_ ?_
  · rw [show ((0 : Int32), (0 : Int32)) = (gsm L (dn m) set 0, nI 0) from rfl, e]
  · intro k hkn
    have hx : ¬ lf_n L ≤ k := by omega
    unfold fX11_pack_L81
    dsimp only
    simp (disch := omega) only [Option.bind_some, ↓reduceIte, nI_leI, nI_ltI, nI_eq, nI_1, kd94 hS, gi94 hS, pi94 hS, gr94_1 hS, gr94_2 hS, gr94_3 hS, gr94_4 hS, gr94_16 hS, gr94_17 hS, gr94_18 hS, gr94_21 hS, gr94_22 hS, gr94_23 hS, gr94_24 hS, gr94_26 hS, gr94_27 hS, gr94_28 hS, gr94_29 hS, gr94_30 hS, gr94_31 hS, gr94_33 hS, gr94_34 hS, gr94_35 hS, gr94_36 hS, l95_1 hS, h.2.2.2.1, hx, f_isIn, m_gainOf h hm hkn]
    have e : gsm L (dn m) set (k + 1) = gsm L (dn m) set k + (if bt set k = true then gn L k (dn m) else 0) := rfl
    rw [e]
    by_cases hb : bt set k = true
    · simp only [hb, ↓reduceIte]
    · simp only [hb, Bool.false_eq_true, ↓reduceIte]
  · unfold fX11_pack_L81
    dsimp only
    simp (disch := omega) only [Option.bind_some, ↓reduceIte, nI_leI, nI_ltI, nI_eq, nI_1, kd94 hS, gi94 hS, pi94 hS, gr94_1 hS, gr94_2 hS, gr94_3 hS, gr94_4 hS, gr94_16 hS, gr94_17 hS, gr94_18 hS, gr94_21 hS, gr94_22 hS, gr94_23 hS, gr94_24 hS, gr94_26 hS, gr94_27 hS, gr94_28 hS, gr94_29 hS, gr94_30 hS, gr94_31 hS, gr94_33 hS, gr94_34 hS, gr94_35 hS, gr94_36 hS, l95_1 hS, h.2.2.2.1, Nat.le_refl]
def bpc (L : LF) (done : Int32) (b k : Nat) : Prop := (nI k &&& (done ^^^ (-1))) = 0 ∧ szs L (nI k) (lf_n L) ≤ lf_room L ∧ ¬ gsm L done (nI k) (lf_n L) ≤ gsm L done (nI b) (lf_n L)
noncomputable def bp (L : LF) (done : Int32) : Nat → Nat
  | 0 => 0
  | k + 1 => @ite _ (bpc L done (bp L done k) k) (Classical.propDecidable _) k (bp L done k)
theorem bp_s (L : LF) (done : Int32) (k : Nat) : bp L done (k + 1) = @ite _ (bpc L done (bp L done k) k) (Classical.propDecidable _) k (bp L done k) := rfl
theorem bp_stop {L : LF} (hk : okL L) {done : Int32} (hd : ∀ i, lf_n L ≤ i → i < 32 → bt done i = false) : ∀ k, 2 ^ lf_n L + k ≤ 256 → bp L done (2 ^ lf_n L + k) = bp L done (2 ^ lf_n L)
  | 0, _ => rfl
  | k + 1, h => by
    rw [← Nat.add_assoc, bp_s, if_neg]
    · exact bp_stop hk hd k (by omega)
    · intro a; have := sub_n hk hd (k := 2 ^ lf_n L + k) (by omega) a.1; omega
theorem gsm0 (L : LF) (done : Int32) : ∀ k, gsm L done (nI 0) k = 0
  | 0 => rfl
  | k + 1 => by
    have e : gsm L done (nI 0) (k + 1) = gsm L done (nI 0) k + (if bt (nI 0) k = true then gn L k done else 0) := rfl
    rw [e, gsm0 L done k, if_neg]
    · rfl
    · rw [show nI 0 = 0 from rfl, b_0]; decide
noncomputable def x_bp (A : AS) : Int32 := nI (bp (as_L A) (dn (as_m A)) 256)
noncomputable def x_pack (A : AS) (p : Int32) : Int32 := if p = 0 then gsm (as_L A) (dn (as_m A)) (x_bp A) (lf_n (as_L A)) else if p = 1 then x_bp A else -2
theorem c_bestPacked {S : sk_S} {d : sk_D} {L : LF} (hS : Sh S) (hk : okL L) (hc : cL d 3 L) (done : Int32) : fX2_bestPacked S d 3 done = some (nI (bp L done 256)) := by
  unfold fX2_bestPacked
  have e := it_eq (body := fX2_bestPacked_L7 S d 3 done) (fun k => (nI (bp L done (k + 1)), gsm L done (nI (bp L done (k + 1))) (lf_n L), nI (k + 1))) 255 (nI (bp L done 256)) ?_ ?_
  · have c1 : bp L done 1 = 0 := by rw [bp_s]; split <;> rfl
    rw [show ((0 : Int32), (0 : Int32), (1 : Int32)) = (nI (bp L done (0 + 1)), gsm L done (nI (bp L done (0 + 1))) (lf_n L), nI (0 + 1)) by rw [Nat.zero_add, c1, gsm0]; rfl, e]
    rfl
  · intro k hkk
    unfold fX2_bestPacked_L7
    dsimp only
    rw [if_neg (show ¬ (256 : Int32) ≤ nI (k + 1) from nI_ge (b := 256) (by omega) (by omega)), bp_s _ _ (k + 1), nI_1]
    generalize hb : bp L done (k + 1) = b
    by_cases c : (nI (k + 1) &&& (done ^^^ (-1))) = 0
    · rw [if_pos c, if_pos (kd3 hS), c_room hS hk hc, Option.bind_some]
      by_cases c2 : rl L (nI (k + 1)) < 0
      · rw [if_pos c2, if_neg (fun a => (rl_neg hk _).mp c2 a.2.1)]
      · rw [if_neg c2, if_pos (kd3 hS), c_gainsOf hS hk hc, Option.bind_some]
        have c3 : szs L (nI (k + 1)) (lf_n L) ≤ lf_room L := Decidable.byContradiction fun a => c2 ((rl_neg hk _).mpr a)
        by_cases c4 : gsm L done (nI (k + 1)) (lf_n L) ≤ gsm L done (nI b) (lf_n L)
        · rw [if_pos c4, if_neg (fun a => a.2.2 c4)]
        · rw [if_neg c4, if_pos ⟨c, c3, c4⟩]
    · rw [if_neg c, if_neg (fun a => c a.1)]
  · unfold fX2_bestPacked_L7
    dsimp only
    rw [if_pos (show (256 : Int32) ≤ nI (255 + 1) by decide)]
theorem c_pack {S : sk_S} {d : sk_D} {A : AS} (h : RC S d A) (hA : okA A) (p : Int32) : fX10_pack S d 1 p = some (x_pack A p) := by
  have hS := h.1.1
  have hk := hA.1
  have hc := h.1.2.2.1
  have j : fX10_pack_J12 S d 1 p = if p = 1 then some (x_bp A) else some (gsm (as_L A) (dn (as_m A)) (x_bp A) (lf_n (as_L A))) := by
    unfold fX10_pack_J12 x_bp
    rw [gr1_5 hS, Option.bind_some, gi50 hS, Option.bind_some, h.2.1.1, f_dn, Option.bind_some]
    simp (disch := omega) only [Option.bind_some, ↓reduceIte, nI_leI, nI_ltI, nI_eq, nI_1, kd1 hS, gi1 hS, pi1 hS, gr1_0 hS, gr1_1 hS, gr1_2 hS, gr1_3 hS, gr1_4 hS, gr1_5 hS, gr1_6 hS, gr1_7 hS, gr1_8 hS, gr1_9 hS, kd2 hS, gi2 hS, pi2 hS, gr2_0 hS, gr2_1 hS, gr2_2 hS, gr2_3 hS, kd3 hS, gi3 hS, pi3 hS, gr3_5 hS, gr3_6 hS, gr3_7 hS, gr3_8 hS, gr3_9 hS, gr3_10 hS, gr3_11 hS, gr3_12 hS, gr3_13 hS, gr3_14 hS, c_bestPacked hS hk hc, c_gainsOf hS hk hc]
  unfold fX10_pack x_pack
  rw [j]
  by_cases q0 : p = 0
  · rw [if_pos q0, if_pos q0, q0]; rfl
  · rw [if_neg q0, if_neg q0]
    by_cases q1 : p = 1
    · rw [if_pos q1, if_pos q1, if_pos q1]
    · rw [if_neg q1, if_neg q1]
theorem m_pack {S : sk_S} {d : sk_D} {A : AS} (h : RM S d A) (hA : okA A) (p : Int32) : fX11_pack S d 94 p = some (x_pack A p, sk_uI d 94 0 0) := by
  have hS := h.1.1
  have h0 := h.m0 0
  have hk := hA.1
  have hn := hk.1
  have hd := dn_n hA.2.1
  have hm := h0.1.2.2
  have e1 : ∀ n, n ≤ 8 → (1 : Int32) <<< (nI n &&& 31) = nI (2 ^ n) := by decide
  have p8 : (2 : Nat) ^ lf_n (as_L A) ≤ 2 ^ 8 := Nat.pow_le_pow_right (by omega) hn
  have p1 : 1 ≤ (2 : Nat) ^ lf_n (as_L A) := Nat.one_le_two_pow
  have ew := w_in (p := p) 2 1 rfl
  unfold fX11_pack
  rw [pi94 hS, Option.bind_some, f_within, Option.bind_some]
  by_cases q : inN 2 p
  · rw [decide_eq_true (ew.mpr q), if_pos rfl, if_pos (kd94 hS), m_stand hS h0.2.1.1.1, Option.bind_some, if_pos (kd94 hS), m_done hS hk hm hA.2.1.z, Option.bind_some]
    have ex : x_bp A = nI (bp (as_L A) (dn (as_m A)) (2 ^ lf_n (as_L A))) := by
      unfold x_bp
      have := bp_stop hk hd (256 - 2 ^ lf_n (as_L A)) (by omega)
      rw [show 2 ^ lf_n (as_L A) + (256 - 2 ^ lf_n (as_L A)) = 256 by omega] at this
      rw [this]
    have e := it_eq (body := fX11_pack_L35 S 94 p (sk_uI d 94 0 0) (dn (as_m A))) (fun k => (nI (bp (as_L A) (dn (as_m A)) (k + 1)), gsm (as_L A) (dn (as_m A)) (nI (bp (as_L A) (dn (as_m A)) (k + 1))) (lf_n (as_L A)), nI (k + 1))) (2 ^ lf_n (as_L A) - 1) (x_pack A p, sk_uI d 94 0 0) ?_ ?_
    · have c1 : bp (as_L A) (dn (as_m A)) 1 = 0 := by rw [bp_s]; split <;> rfl
      rw [show ((0 : Int32), (0 : Int32), (1 : Int32)) = (nI (bp (as_L A) (dn (as_m A)) (0 + 1)), gsm (as_L A) (dn (as_m A)) (nI (bp (as_L A) (dn (as_m A)) (0 + 1))) (lf_n (as_L A)), nI (0 + 1)) by rw [Nat.zero_add, c1, gsm0]; rfl, e]
      rfl
    · intro k hkk
      unfold fX11_pack_L35
      dsimp only
      rw [gr94_1 hS, Option.bind_some, l95_1 hS, Option.bind_some, hm.2.1, e1 _ hn, if_neg (nI_ge (show k + 1 < 2 ^ lf_n (as_L A) by omega) (by omega)), bp_s _ _ (k + 1), nI_1]
      generalize hb : bp (as_L A) (dn (as_m A)) (k + 1) = b
      have es : fX11_sizesOf S (sk_uI d 94 0 0) 94 (nI (k + 1)) = some (szs (as_L A) (nI (k + 1)) (lf_n (as_L A))) := m_sizes hS hk hm _
      by_cases c : (nI (k + 1) &&& (dn (as_m A) ^^^ (-1))) = 0
      · rw [if_pos c, if_pos (kd94 hS), es, Option.bind_some, Option.bind_some, l95_3 hS, Option.bind_some, hm.2.2.2.1]
        by_cases c2 : szs (as_L A) (nI (k + 1)) (lf_n (as_L A)) ≤ lf_room (as_L A)
        · rw [if_pos c2, m_gainsOf h0.1 h0.2.1.1, Option.bind_some]
          by_cases c4 : gsm (as_L A) (dn (as_m A)) (nI (k + 1)) (lf_n (as_L A)) ≤ gsm (as_L A) (dn (as_m A)) (nI b) (lf_n (as_L A))
          · rw [if_neg (by rw [Int32.not_lt]; exact c4), if_neg (fun a => a.2.2 c4)]
          · rw [if_pos (by rw [← Int32.not_le]; exact c4), if_pos ⟨c, c2, c4⟩]
        · rw [if_neg c2, if_neg (fun a => c2 a.2.1)]
      · rw [if_neg c, if_neg (fun a => c a.1)]
    · unfold fX11_pack_L35
      dsimp only
      rw [gr94_1 hS, Option.bind_some, l95_1 hS, Option.bind_some, hm.2.1, e1 _ hn, show 2 ^ lf_n (as_L A) - 1 + 1 = 2 ^ lf_n (as_L A) by omega, if_pos (nI_le (Nat.le_refl _) (by omega)), ← ex]
      unfold x_pack
      by_cases q0 : p = 0
      · rw [if_pos q0, if_pos q0]
      · rw [if_neg q0, if_neg q0]
        have q1 : p = 1 := by
          obtain ⟨j, hj, rfl⟩ := inN_of q
          match j, hj with
          | 0, _ => exact absurd rfl q0
          | 1, _ => rfl
        rw [if_pos q1]
  · rw [decide_eq_false (fun a => q (ew.mp a)), if_neg (by decide)]
    unfold x_pack
    rw [if_neg (fun a => q (by rw [a]; decide)), if_neg (fun a => q (by rw [a]; decide))]
