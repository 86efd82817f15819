/-! back to an image, by the reference -/
def aLM (A : AS) (L : LF) (m : Int32) : AS := (A.1, A.2.1, L, m, [], A.2.2.2.2.2.1, A.2.2.2.2.2.2)
def x_restore (A : AS) (p : Int32) : Int32 × AS := if inN 2 p then (match as_im A p.toNatClampNeg with
  | some x => (0, aLM A x.1 x.2)
  | none => (-5, A)) else (-2, A)
theorem x_restore_ok {A : AS} (hA : okA A) (p : Int32) : okA (x_restore A p).2 := by
  unfold x_restore
  split
  · cases hx : as_im A p.toNatClampNeg with
    | none => exact hA
    | some x =>
      obtain ⟨h1, h2, h3, h4, h5, h6, h7, h8⟩ := hA
      exact ⟨(h8 _ x hx).1, (h8 _ x hx).2, fun y hy => absurd hy (by show y ∉ ([] : List Int32); simp), by show ([] : List Int32).length ≤ 10; simp, h5, h6, h7, h8⟩
  · exact hA
theorem m_restore {S : sk_S} {d : sk_D} {A : AS} (h : RM S d A) (hA : okA A) (p : Int32) : ∃ d', fX11_restore S d 94 p = some ((x_restore A p).1, d') ∧ RM S d' (x_restore A p).2 ∧ Fr mdl d d' := by
  have hS := h.1.1
  have h0 := h.m0 0
  have ew := w_in (p := p) 2 1 rfl
  unfold fX11_restore x_restore
  rw [pi94 hS, Option.bind_some, f_within, Option.bind_some]
  by_cases q : inN 2 p
  · obtain ⟨i, hi, rfl⟩ := inN_of q
    rw [decide_eq_true (ew.mpr q), if_pos rfl, if_pos q, nI_clamp (by omega), gr94_2 hS, Option.bind_some, li96 hS _ hi, Option.bind_some]
    have him := h0.2.2.2.2.2 i hi
    cases hx : as_im A i with
    | none =>
      rw [hx] at him
      rw [if_pos (show (sk_uI d 94 0 0).1 96 i = 0 from him)]
      exact ⟨_, rfl, h0, (mfr0 d 0).2.2.2.2⟩
    | some x =>
      rw [hx] at him
      have okx := hA.2.2.2.2.2.2.2 i x hx
      rw [if_neg (by rw [him.1]; decide)]
      have loop := it_for (body := fX11_restore_L32 S 94 (nI i)) (fun k z => z.1 = nI k ∧ (∀ b, b ≠ 95 → z.2.1 b = (sk_uI d 94 0 0).1 b) ∧ z.2.2 = (sk_uI d 94 0 0).2 ∧ ∀ q, z.2.1 95 q = if q < k then d.1 95 (1075 * (i + 1) + q) else d.1 95 q) 1075
        (fun e => e.1 = 0 ∧ (∀ b, b ≠ 95 → e.2.1 b = (sk_uI d 94 0 0).1 b) ∧ e.2.2 = (sk_uI d 94 0 0).2 ∧ (∀ q, e.2.1 95 q = if q = 83 then 0 else if q < 1075 then d.1 95 (1075 * (i + 1) + q) else d.1 95 q)) ?_ ?_ (s := ((0 : Int32), sk_uI d 94 0 0)) ⟨rfl, fun b hb => rfl, rfl, fun q => by rw [if_neg (by omega)]; exact congrFun (uI_a d 94 0 95 0 (by decide)) q⟩
      · obtain ⟨e, he, e1, e2, e3, e4⟩ := loop
        refine ⟨e.2, by rw [he, ← e1]; rfl, ⟨⟨hS, okx.1, ?_⟩, ?_, ?_, ?_, ?_, ?_⟩, ?_⟩
        · have a : mL (fun k => d.1 95 (1075 * (i + 1) + k)) x.1 := him.2.1
          have b : mL (fun k => if k < 1075 then d.1 95 (1075 * (i + 1) + k) else d.1 95 k) x.1 := mL.low okx.1 a (fun k hk => if_pos hk)
          exact mL.same okx.1 b (fun k hk => by rw [e4, if_neg (by omega)])
        · refine ⟨mM.same (f := fun k => d.1 95 (1075 * (i + 1) + 74 + k)) him.2.2 (fun k hk => ?_), by rw [e4, if_pos rfl]; rfl, fun t ht => absurd ht (by show ¬ t < ([] : List Int32).length; simp)⟩
          show e.2.1 95 (74 + k) = d.1 95 (1075 * (i + 1) + 74 + k)
          rw [e4, if_neg (by omega), if_pos (by omega), Nat.add_assoc]
        · show rmT e.2 (as_tp A)
          have := h0.2.2.1
          unfold rmT at this ⊢
          rw [e2 94 (by decide), e2 97 (by decide)]; exact this
        · show e.2.1 94 13 = as_fk A ∧ e.2.1 94 14 = as_fp A
          rw [e2 94 (by decide)]; exact h0.2.2.2.1
        · intro t h4
          have := h0.2.2.2.2.1 t h4
          show mTr e.2 t (as_tr A t)
          unfold mTr at this ⊢
          rw [e2 113 (by decide), e2 114 (by decide), e3]
          exact this
        · intro k hk
          show mIm e.2 k (as_im A k)
          have := h0.2.2.2.2.2 k hk
          unfold mIm at this ⊢
          have g : ∀ z, e.2.1 95 (1075 * (k + 1) + z) = (sk_uI d 94 0 0).1 95 (1075 * (k + 1) + z) := fun z => by
            rw [e4, if_neg (by omega), if_neg (by omega)]; exact (congrFun (uI_a d 94 0 95 0 (by decide)) _).symm
          have g2 : ∀ z, e.2.1 95 (1075 * (k + 1) + 74 + z) = (sk_uI d 94 0 0).1 95 (1075 * (k + 1) + 74 + z) := fun z => by
            rw [Nat.add_assoc]; exact g _
          rw [show (fun z => e.2.1 95 (1075 * (k + 1) + z)) = (fun z => (sk_uI d 94 0 0).1 95 (1075 * (k + 1) + z)) from funext g, show (fun z => e.2.1 95 (1075 * (k + 1) + 74 + z)) = (fun z => (sk_uI d 94 0 0).1 95 (1075 * (k + 1) + 74 + z)) from funext g2, e2 96 (by decide)]
          exact this
        · intro b hb
          unfold mdl at hb
          exact ⟨by rw [e2 b (by omega)]; exact uI_a _ _ _ _ _ (by omega), by rw [e3]; rfl⟩
      · intro k z hk ⟨i1, i2, i3, i4⟩
        left
        unfold fX11_restore_L32
        rw [i1, if_neg (show ¬ (1075 : Int32) ≤ nI k from nI_ge (b := 1075) hk (by omega)), gr94_1 hS, Option.bind_some, Option.bind_some, p1075, li95 hS _ (show 1075 * (i + 1) + k < 3225 by omega), Option.bind_some, si95 hS _ _ (show k < 3225 by omega), Option.bind_some, nI_1]
        refine ⟨_, rfl, rfl, fun b hb => ?_, i3, fun q => ?_⟩
        · show (sk_uI z.2 95 _ _).1 b = _
          rw [uI_a _ _ _ _ _ hb]; exact i2 b hb
        · show (sk_uI z.2 95 k (z.2.1 95 (1075 * (i + 1) + k))).1 95 q = _
          by_cases c : q = k
          · rw [c, uI_s, i4 _, if_neg (by omega), if_pos (by omega)]
          · rw [uI_k _ _ _ _ _ c, i4 q]
            by_cases c2 : q < k
            · rw [if_pos c2, if_pos (by omega)]
            · rw [if_neg c2, if_neg (by omega)]
      · intro z ⟨i1, i2, i3, i4⟩
        unfold fX11_restore_L32
        rw [i1, if_pos (show (1075 : Int32) ≤ nI 1075 by decide), gr94_1 hS, Option.bind_some, show (83 : Int32) = nI 83 from rfl, si95 hS _ _ (show 83 < 3225 by omega), Option.bind_some]
        refine ⟨_, rfl, rfl, fun b h5 => ?_, i3, fun q => ?_⟩
        · show (sk_uI z.2 95 _ _).1 b = _
          rw [uI_a _ _ _ _ _ h5]; exact i2 b h5
        · show (sk_uI z.2 95 83 0).1 95 q = _
          by_cases c : q = 83
          · rw [c, uI_s, if_pos rfl]
          · rw [uI_k _ _ _ _ _ c, if_neg c]; exact i4 q
  · rw [decide_eq_false (fun a => q (ew.mp a)), if_neg (by decide), if_neg q]
    exact ⟨_, rfl, h0, (mfr0 d 0).2.2.2.2⟩
