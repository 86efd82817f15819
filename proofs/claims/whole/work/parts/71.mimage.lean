/-! images, by the reference -/
theorem mL.low {f g : Nat → Int32} {L : LF} (hk : okL L) (h : mL f L) (e : ∀ k, k < 1075 → g k = f k) : mL g L := by
  obtain ⟨h0, h1, h2, h3, hv, hd, ⟨hw0, hw0'⟩, ⟨hw1, hw1'⟩⟩ := h
  have hn := hk.1
  have hk8 := hk.2.1
  refine ⟨?_, ?_, ?_, ?_, ?_, ?_, ⟨?_, ?_⟩, ⟨?_, ?_⟩⟩
  · rw [e 0 (by omega)]; exact h0
  · rw [e 1 (by omega)]; exact h1
  · rw [e 2 (by omega)]; exact h2
  · rw [e 3 (by omega)]; exact h3
  · intro t j ht hj; rw [e _ (by omega)]; exact hv t j ht hj
  · intro j hj; rw [e _ (by omega)]; exact hd j hj
  · rw [e _ (by omega)]; exact hw0
  · intro hne
    obtain ⟨fr, a1, a2, a3, a4⟩ := hw0' hne
    refine ⟨fr, by rw [e _ (by omega)]; exact a1, by rw [e _ (by omega)]; exact a2, a3, fun j hj => by rw [e _ (by omega)]; exact a4 j hj⟩
  · rw [e _ (by omega)]; exact hw1
  · intro hne
    obtain ⟨fr, a1, a2, a3, a4⟩ := hw1' hne
    refine ⟨fr, by rw [e _ (by omega)]; exact a1, by rw [e _ (by omega)]; exact a2, a3, fun j hj => by rw [e _ (by omega)]; exact a4 j hj⟩
def updM (im : Nat → Option (LF × Int32)) (i : Nat) (o : Option (LF × Int32)) : Nat → Option (LF × Int32) := fun k => if k = i then o else im k
def aIM (A : AS) (im : Nat → Option (LF × Int32)) : AS := (A.1, A.2.1, A.2.2.1, A.2.2.2.1, A.2.2.2.2.1, A.2.2.2.2.2.1, im)
def x_image (A : AS) (p : Int32) : Int32 × AS := if inN 2 p then (0, aIM A (updM (as_im A) p.toNatClampNeg (some (as_L A, as_m A)))) else (-2, A)
theorem x_image_ok {A : AS} (hA : okA A) (p : Int32) : okA (x_image A p).2 := by
  unfold x_image
  split
  · obtain ⟨h1, h2, h3, h4, h5, h6, h7, h8⟩ := hA
    refine ⟨h1, h2, h3, h4, h5, h6, h7, fun i x hx => ?_⟩
    have e : updM (as_im A) p.toNatClampNeg (some (as_L A, as_m A)) i = some x := hx
    unfold updM at e
    split at e
    · obtain rfl := Option.some.inj e
      exact ⟨h1, h2⟩
    · exact h8 i x e
  · exact hA
theorem p1075 {i k : Nat} : (1075 : Int32) * (nI i + 1) + nI k = nI (1075 * (i + 1) + k) := by
  rw [nI_1, show (1075 : Int32) = nI 1075 from rfl, pk_mul, nI_add]
theorem m_image {S : sk_S} {d : sk_D} {A : AS} (h : RM S d A) (hA : okA A) (p : Int32) : ∃ d', fX11_image S d 94 p = some ((x_image A p).1, d') ∧ RM S d' (x_image A p).2 ∧ Fr mdl d d' := by
  have hS := h.1.1
  have h0 := h.m0 0
  have ew := w_in (p := p) 2 1 rfl
  unfold fX11_image x_image
  rw [pi94 hS, Option.bind_some, f_within, Option.bind_some]
  by_cases q : inN 2 p
  · obtain ⟨i, hi, rfl⟩ := inN_of q
    rw [decide_eq_true (ew.mpr q), if_pos rfl, if_pos q, nI_clamp (by omega)]
    have loop := it_for (body := fX11_image_L20 S 94 (nI i)) (fun k z => z.1 = nI k ∧ (∀ b, b ≠ 95 → z.2.1 b = (sk_uI d 94 0 0).1 b) ∧ z.2.2 = (sk_uI d 94 0 0).2 ∧ ∀ q, z.2.1 95 q = if 1075 * (i + 1) ≤ q ∧ q < 1075 * (i + 1) + k then d.1 95 (q - 1075 * (i + 1)) else d.1 95 q) 1075
      (fun e => e.1 = 0 ∧ (∀ b, b ≠ 95 → b ≠ 96 → e.2.1 b = (sk_uI d 94 0 0).1 b) ∧ e.2.2 = (sk_uI d 94 0 0).2 ∧ (∀ q, e.2.1 95 q = if 1075 * (i + 1) ≤ q ∧ q < 1075 * (i + 1) + 1075 then d.1 95 (q - 1075 * (i + 1)) else d.1 95 q) ∧ ∀ q, e.2.1 96 q = if q = i then 1 else d.1 96 q) ?_ ?_ (s := ((0 : Int32), sk_uI d 94 0 0)) ⟨rfl, fun b hb => rfl, rfl, fun q => by rw [if_neg (by omega)]; exact congrFun (uI_a d 94 0 95 0 (by decide)) q⟩
    · obtain ⟨e, he, e1, e2, e3, e4, e5⟩ := loop
      have lo : ∀ k, k < 1075 → e.2.1 95 k = d.1 95 k := fun k hk => by rw [e4, if_neg (by omega)]
      have hi' : ∀ k, k < 1075 → e.2.1 95 (1075 * (i + 1) + k) = d.1 95 k := fun k hk => by rw [e4, if_pos (by omega), Nat.add_sub_cancel_left]
      refine ⟨e.2, by rw [he, ← e1]; rfl, ⟨⟨hS, h.1.2.1, mL.low h.1.2.1 h.1.2.2 lo⟩, ?_, ?_, ?_, ?_, ?_⟩, ?_⟩
      · obtain ⟨p1, p2, p3⟩ := h.2.1
        have hl := hA.2.2.2.1
        refine ⟨mM.same p1 (fun k hk => lo _ (by omega)), by rw [lo 83 (by omega)]; exact p2, fun t ht => mM.same (p3 t ht) (fun k hk => lo _ ?_)⟩
        have : t < (as_ps A).length := ht
        omega
      · show rmT e.2 (as_tp A)
        have := h0.2.2.1
        unfold rmT at this ⊢
        rw [e2 94 (by decide) (by decide), e2 97 (by decide) (by decide)]; exact this
      · show e.2.1 94 13 = as_fk A ∧ e.2.1 94 14 = as_fp A
        rw [e2 94 (by decide) (by decide)]; exact h0.2.2.2.1
      · intro t h4
        have := h0.2.2.2.2.1 t h4
        show mTr e.2 t (as_tr A t)
        unfold mTr at this ⊢
        rw [e2 113 (by decide) (by decide), e2 114 (by decide) (by decide), e3]
        exact this
      · intro k hk
        show mIm e.2 k (updM (as_im A) i (some (as_L A, as_m A)) k)
        unfold updM
        by_cases c : k = i
        · rw [if_pos c, c]
          exact ⟨by rw [e5, if_pos rfl], mL.low h.1.2.1 h.1.2.2 hi', mM.same h.2.1.1 (fun z hz => by show e.2.1 95 (1075 * (i + 1) + 74 + z) = _; rw [Nat.add_assoc, hi' _ (by omega)])⟩
        · rw [if_neg c]
          have := h.2.2.2.2.2 k hk
          have ok8 := hA.2.2.2.2.2.2.2 k
          cases hx : as_im A k with
          | none => rw [hx] at this; show e.2.1 96 k = 0; rw [e5, if_neg c]; exact this
          | some x =>
            rw [hx] at this
            have go : ∀ z, z < 1075 → e.2.1 95 (1075 * (k + 1) + z) = d.1 95 (1075 * (k + 1) + z) := fun z hz => by rw [e4, if_neg (by omega)]
            exact ⟨by rw [e5, if_neg c]; exact this.1, mL.low (ok8 x hx).1 this.2.1 go, mM.same this.2.2 (fun z hz => by show e.2.1 95 (1075 * (k + 1) + 74 + z) = d.1 95 (1075 * (k + 1) + 74 + z); rw [Nat.add_assoc, go _ (by omega)])⟩
      · intro b hb
        unfold mdl at hb
        exact ⟨by rw [e2 b (by omega) (by omega)]; exact uI_a _ _ _ _ _ (by omega), by rw [e3]; rfl⟩
    · intro k z hk ⟨i1, i2, i3, i4⟩
      left
      unfold fX11_image_L20
      rw [i1, if_neg (show ¬ (1075 : Int32) ≤ nI k from nI_ge (b := 1075) hk (by omega)), gr94_1 hS, Option.bind_some, Option.bind_some, li95 hS _ (show k < 3225 by omega), Option.bind_some, p1075, si95 hS _ _ (show 1075 * (i + 1) + k < 3225 by omega), Option.bind_some, nI_1]
      refine ⟨_, rfl, rfl, fun b hb => ?_, i3, fun q => ?_⟩
      · show (sk_uI z.2 95 _ _).1 b = _
        rw [uI_a _ _ _ _ _ hb]; exact i2 b hb
      · show (sk_uI z.2 95 (1075 * (i + 1) + k) (z.2.1 95 k)).1 95 q = _
        by_cases c : q = 1075 * (i + 1) + k
        · rw [c, uI_s, i4 k, if_neg (by omega), if_pos (by omega), Nat.add_sub_cancel_left]
        · rw [uI_k _ _ _ _ _ c, i4 q]
          by_cases c2 : 1075 * (i + 1) ≤ q ∧ q < 1075 * (i + 1) + k
          · rw [if_pos c2, if_pos (by omega)]
          · rw [if_neg c2, if_neg (by omega)]
    · intro z ⟨i1, i2, i3, i4⟩
      unfold fX11_image_L20
      rw [i1, if_pos (show (1075 : Int32) ≤ nI 1075 by decide), gr94_2 hS, Option.bind_some, si96 hS _ _ hi, Option.bind_some]
      refine ⟨_, rfl, rfl, fun b h5 h6 => ?_, i3, fun q => ?_, fun q => ?_⟩
      · show (sk_uI z.2 96 _ _).1 b = _
        rw [uI_a _ _ _ _ _ h6]; exact i2 b h5
      · show (sk_uI z.2 96 _ _).1 95 q = _
        rw [uI_a _ _ _ _ _ (by decide)]; exact i4 q
      · show (sk_uI z.2 96 i (vp_nar .boolean 1)).1 96 q = _
        by_cases c : q = i
        · rw [c, uI_s, if_pos rfl]; rfl
        · rw [uI_k _ _ _ _ _ c, if_neg c, i2 96 (by decide)]
          exact congrFun (uI_a d 94 0 96 0 (by decide)) q
  · rw [decide_eq_false (fun a => q (ew.mp a)), if_neg (by decide), if_neg q]
    exact ⟨_, rfl, h0, (mfr0 d 0).2.2.2.2⟩
