/-! the reference reads lines, 4 -/
theorem m_codN (w : List Int32) : (w.map cod).length = w.length := List.length_map cod
theorem getD_apq {W V : List Int32} {j : Nat} : (W ++ V).getD (W.length + j) 0 = V.getD j 0 := by
  rw [List.getD_eq_getElem?_getD, List.getElem?_append_right (by omega), Nat.add_sub_cancel_left, ← List.getD_eq_getElem?_getD]
theorem MD.law {f g : Nat → Int32} {nn : Nat} {D : DFT} {W : List Int32} (h : MD f nn D W) {t : Nat} (ht : t < 2) {w : List Int32} (hw : w ≠ []) (g4 : g (4 + t) = 1) (g6 : g (6 + t) = nI W.length) (g8 : g (8 + t) = nI w.length) (go : ∀ k, k < 174 → k ≠ 4 + t → k ≠ 6 + t → k ≠ 8 + t → g k = f k) : MD g nn (sWl D.1 t w, D.2) (W ++ w.map cod) := by
  obtain ⟨⟨h0, h1, h2, h3⟩, hv, hz, hk, ⟨w0, w1⟩, hs, h7, hn, hk8⟩ := h
  have nw : mLw g (W ++ w.map cod) t w := by
    refine ⟨by rw [g4, if_neg (by rw [List.isEmpty_iff]; exact hw)], fun _ => ⟨W.length, g6, g8, by rw [List.length_append, m_codN]; omega, fun j hj => ?_⟩⟩
    rw [getD_apq, List.getD_eq_getElem?_getD, List.getElem?_map, List.getElem?_eq_getElem hj, Option.map_some, Option.getD_some, List.getD_eq_getElem?_getD, List.getElem?_eq_getElem hj, Option.getD_some]
  refine ⟨⟨by rw [go 0 (by omega) (by omega) (by omega) (by omega)]; exact h0, by rw [go 1 (by omega) (by omega) (by omega) (by omega)]; exact h1, by rw [go 2 (by omega) (by omega) (by omega) (by omega)]; exact h2, by rw [go 3 (by omega) (by omega) (by omega) (by omega)]; exact h3⟩, fun t' j ht' hj => ?_, fun t' j ht' a b => ?_, fun j hj => ?_, ⟨?_, ?_⟩, by rw [go 82 (by omega) (by omega) (by omega) (by omega)]; exact hs, fun k a b c => by rw [go k (by omega) (by omega) (by omega) (by omega)]; exact h7 k a b c, hn, hk8⟩
  · have hj' : j < lf_n D.1 := hj
    rw [go _ (by omega) (by omega) (by omega) (by omega)]; exact hv t' j ht' hj
  · rw [go _ (by omega) (by omega) (by omega) (by omega)]; exact hz t' j ht' a b
  · have hj' : j < lf_k D.1 := hj
    rw [go _ (by omega) (by omega) (by omega) (by omega)]; exact hk j hj
  · show mLw g _ 0 (if 0 = t then w else D.1.2.2 0)
    by_cases e : 0 = t
    · rw [if_pos e]; subst e; exact nw
    · rw [if_neg e]; exact (w0.app _).k (go _ (by omega) (by omega) (by omega) (by omega)) (go _ (by omega) (by omega) (by omega) (by omega)) (go _ (by omega) (by omega) (by omega) (by omega))
  · show mLw g _ 1 (if 1 = t then w else D.1.2.2 1)
    by_cases e : 1 = t
    · rw [if_pos e]; subst e; exact nw
    · rw [if_neg e]; exact (w1.app _).k (go _ (by omega) (by omega) (by omega) (by omega)) (go _ (by omega) (by omega) (by omega) (by omega)) (go _ (by omega) (by omega) (by omega) (by omega))
section
variable {S : sk_S} {T : TKS} {z : Nat} {B : Nat → Nat} {n : Nat} {c : Nat → Int32} {d : sk_D} {i : Nat} {D : DFT} {W : List Int32}
theorem mrf.u15 (d : sk_D) (v : Int32) : mrf d (sk_uI d 94 15 v) := ⟨fun b h1 _ => uI_a _ _ _ _ _ h1, rfl, fun k _ h2 => uI_k _ _ _ _ _ h2⟩
theorem m_lawF (hS : Sh S) (hT : okT2 T z) (hN : NXT S T z B n c) {e : sk_D} {f : FLT} (F : MFd e f) (v : Int32) : ∃ d', fX11_readLaw_J18 S 94 v e = some d' ∧ mrf e d' ∧ MFd d' f := by
  have F1 : MFd (sk_uI e 94 15 v) f := ⟨by rw [uI_k _ _ _ _ _ (by omega)]; exact F.1, F.2.1, by rw [uI_k _ _ _ _ _ (by omega)]; exact F.2.2⟩
  obtain ⟨d', a1, a2, a3⟩ := (m_gTruth (sl := true) hS hT hN).1 _ _ F1
  dsimp only at a1
  unfold fX11_readLaw_J18
  rw [gr94_4 hS, Option.bind_some, show (174 : Int32) = nI 174 from rfl, li98 hS e (j := 174) (by omega), Option.bind_some, pi94 hS, Option.bind_some, if_pos (kd94 hS), a1, Option.bind_some, gi94 hS, Option.bind_some, a2.1, if_neg a2.2.1]
  exact ⟨d', rfl, (mrf.u15 _ _).trans a3.1, a2⟩
theorem m_law2 (hS : Sh S) (hT : okT2 T z) (hN : NXT S T z B n c) (h : MLx T z B n c d i (lf_n D.1) D W) {t : Nat} (ht : t < 2) (hk : T.1 i ≠ 202) : LM T z B n c d (fX11_readLaw S d 94 (nI t)) (wSl (gLaw T t i D.1) D.2) := by
  have hz := h.1.2.2.2.2
  have hiz := tk_lt hT hz.1 hk
  have l174 : ∀ {e : sk_D}, sk_lI S e 98 20 174 = some (e.1 98 174) := fun {e} => li98 hS e (j := 174) (by omega)
  obtain ⟨d1, a1, a2, a3⟩ := h.next hN hiz
  have ea := a2.eats hS hT hN (a := 58) (r := 31) (by decide) (by decide)
  unfold fX11_readLaw gLaw wSl
  rw [if_pos (kd94 hS), a1, Option.bind_some, if_pos (kd94 hS)]
  by_cases k58 : T.1 (i + 1) = 58
  · obtain ⟨d2, b1, b2, b3⟩ := ea.1 k58
    rw [b1, Option.bind_some, if_pos rfl, if_pos k58]
    dsimp only
    have sb : nI t = sk_b (decide (t = 1)) := by
      rcases (show t = 0 ∨ t = 1 by omega) with e | e <;> subst e <;> rfl
    have G : MGS T z B n c (decide (t = 1)) (sk_uI d2 94 15 (nI t)) (i + 2) W := by
      obtain ⟨g1, g2, g3, g4⟩ := b2
      obtain ⟨m1, m2, m3, m4, m5, m6, m7⟩ := g1
      refine ⟨⟨by rw [uI_k _ _ _ _ _ (by omega)]; exact m1, by rw [uI_k _ _ _ _ _ (by omega)]; exact m2, by rw [uI_k _ _ _ _ _ (by omega)]; exact m3, fun q => by rw [uI_k _ _ _ _ _ (by omega)]; exact m4 q, m5, m6, m7.fr (uI_k _ _ _ _ _ (by omega)) (uI_k _ _ _ _ _ (by omega)) (uI_a _ _ _ 97 _ (by omega))⟩, ?_, g4, by rw [uI_s]; exact sb⟩
      unfold cdw
      rw [uI_a _ _ _ 98 _ (by omega)]
      exact g3
    obtain ⟨d3, c1, c2, c3, c4⟩ := (m_gTruth (sl := decide (t = 1)) hS hT hN).2 _ _ _ G
    dsimp only at c1
    have fr := ((a3.trans b3).trans (mrf.u15 d2 (nI t))).trans c2.1
    unfold fX11_readLaw_J18
    rw [gr94_4 hS, Option.bind_some, l174, Option.bind_some, b2.2.2.1.1, pi94 hS, Option.bind_some, if_pos (kd94 hS), c1, Option.bind_some, gi94 hS, Option.bind_some]
    cases x : gTruth T (decide (t = 1)) 6 (i + 2) with
    | inl u =>
      have F := c3 u x
      rw [F.1, if_neg F.2.1]
      exact LM.bad rfl rfl fr F
    | inr y =>
      obtain ⟨g1, g2, g3, g4⟩ := c4 y x
      have hw := truth_ne _ _ _ _ x
      have gz := g1.2.2.2.2
      have len : (W ++ y.2.map cod).length = W.length + y.2.length := by rw [List.length_append, m_codN]
      have c174 : ∀ a b, (sk_uI (sk_uI d3 98 (4 + t) a) 98 (6 + t) b).1 98 174 = nI (W.length + y.2.length) := fun a b => by rw [uI_k _ _ _ _ _ (by omega), uI_k _ _ _ _ _ (by omega), g2.1, len]
      rw [g1.1, if_pos rfl, Option.bind_some, show (4 : Int32) + nI t = nI (4 + t) by rw [show (4 : Int32) = nI 4 from rfl, nI_add], si98 hS _ _ (show 4 + t < 1075 by omega), Option.bind_some, Option.bind_some, show (6 : Int32) + nI t = nI (6 + t) by rw [show (6 : Int32) = nI 6 from rfl, nI_add], si98 hS _ _ (show 6 + t < 1075 by omega), Option.bind_some, Option.bind_some, Option.bind_some, l174, Option.bind_some, c174, show (8 : Int32) + nI t = nI (8 + t) by rw [show (8 : Int32) = nI 8 from rfl, nI_add], si98 hS _ _ (show 8 + t < 1075 by omega), Option.bind_some]
      have sub : nI (W.length + y.2.length) - nI W.length = nI y.2.length := by
        rw [← nI_add, Int32.add_comm, Int32.add_sub_cancel]
      rw [sub]
      refine LM.good rfl rfl (((fr.trans (u98 _ _ _)).trans (u98 _ _ _)).trans (u98 _ _ _)) (W' := W ++ y.2.map cod) ⟨((g1.eq (uI_a _ _ _ 94 _ (by omega)) (uI_a _ _ _ 97 _ (by omega))).eq (uI_a _ _ _ 94 _ (by omega)) (uI_a _ _ _ 97 _ (by omega))).eq (uI_a _ _ _ 94 _ (by omega)) (uI_a _ _ _ 97 _ (by omega)), ?_, ⟨?_, fun k hk => ?_⟩, g3⟩
      · have base := b2.2.1
        refine MD.law base ht hw ?_ ?_ (uI_s _ _ _ _) (fun k h1 h2 h3 h4 => ?_)
        · rw [uI_k _ _ _ _ _ (by omega), uI_k _ _ _ _ _ (by omega), uI_s]
        · rw [uI_k _ _ _ _ _ (by omega), uI_s]
        · rw [uI_k _ _ _ _ _ h4, uI_k _ _ _ _ _ h3, uI_k _ _ _ _ _ h2, c2.2.1 k h1, uI_a _ _ _ 98 _ (by omega)]
      · rw [uI_k _ _ _ _ _ (by omega), uI_k _ _ _ _ _ (by omega), uI_k _ _ _ _ _ (by omega)]; exact g2.1
      · rw [uI_k _ _ _ _ _ (by omega), uI_k _ _ _ _ _ (by omega), uI_k _ _ _ _ _ (by omega)]; exact g2.2 k hk
  · obtain ⟨d3, f1, f2, f3⟩ := m_failG hS a2.1 (y := 2) (by decide)
    obtain ⟨d4, q1, q2, q3⟩ := m_lawF hS hT hN f2 (nI t)
    rw [ea.2 k58, Option.bind_some, if_neg (show ¬ (false, d1).1 = true from Bool.false_ne_true), if_pos (kd94 hS), f1, Option.bind_some, q1, if_neg k58]
    exact LM.bad rfl rfl ((a3.trans f3.1).trans q2) q3
theorem m_line2 (hS : Sh S) (hT : okT2 T z) (hN : NXT S T z B n c) (h : MLx T z B n c d i (lf_n D.1) D W) : LM T z B n c d (fX11_readLine S d 94) (gLine T i D) := by
  have hz := h.1.2.2.2.2
  have bb : ∀ {o : Option sk_D}, (o.bind fun d => some d) = o := fun {o} => by cases o <;> rfl
  unfold fX11_readLine gLine
  rw [gi94 hS, Option.bind_some, h.1.1, if_pos rfl, if_pos (kd94 hS), m_isG hS h.1 (a := 2) (r := 2) (by decide), Option.bind_some]
  by_cases k2 : T.1 i = 2
  · rw [decide_eq_true k2, if_pos rfl, if_pos (kd94 hS), bb, if_pos k2]
    exact m_doing2 hS hT hN h k2
  rw [decide_eq_false k2, if_neg Bool.false_ne_true, if_pos (kd94 hS), m_isG hS h.1 (a := 12) (r := 9) (by decide), Option.bind_some, if_neg k2]
  by_cases k12 : T.1 i = 12
  · rw [decide_eq_true k12, if_pos rfl, if_pos (kd94 hS), bb, if_pos k12]
    exact m_door2 hS hT hN h k12
  rw [decide_eq_false k12, if_neg Bool.false_ne_true, if_pos (kd94 hS), m_isG hS h.1 (a := 13) (r := 10) (by decide), Option.bind_some, if_neg k12]
  by_cases k13 : T.1 i = 13
  · rw [decide_eq_true k13, if_pos rfl, if_pos (kd94 hS), bb, if_pos k13]
    exact m_clash2 hS hT hN h k13
  rw [decide_eq_false k13, if_neg Bool.false_ne_true, if_pos (kd94 hS), if_neg k13]
  have e7 := h.eats hS hT hN (a := 7) (r := 11) (by decide) (by decide)
  by_cases k7 : T.1 i = 7
  · obtain ⟨d1, a1, a2, a3⟩ := e7.1 k7
    obtain ⟨v, d2, b1, b2, b3, b4⟩ := a2.takes hS hT hN 0 9
    rw [a1, Option.bind_some, if_pos rfl, gr94_4 hS, Option.bind_some, if_pos (kd94 hS), b1, Option.bind_some, show (82 : Int32) = nI 82 from rfl, si98 hS _ _ (show 82 < 1075 by omega), Option.bind_some, if_pos k7]
    have fr := (a3.trans b2).trans (u98 d2 82 v)
    cases x : tnu T 0 9 (i + 1) with
    | inl u => exact LM.bad rfl rfl fr ((b3 u x).w 82 v)
    | inr u =>
      obtain ⟨e1, e2⟩ := b4 u x
      have := e2.w (k := 82) (by omega) (e2.2.1.slip u)
      rw [e1] at fr ⊢
      exact LM.good rfl rfl fr this
  rw [e7.2 k7, Option.bind_some, if_neg (show ¬ (false, d).1 = true from Bool.false_ne_true), if_pos (kd94 hS), m_isG hS h.1 (a := 14) (r := 12) (by decide), Option.bind_some, if_neg k7]
  by_cases k14 : T.1 i = 14
  · rw [decide_eq_true k14, if_pos rfl, if_pos k14]
    unfold fX11_readLine_J99
    have e9 : d.1 94 9 = 12 := by rw [h.1.2.1, k14]; decide +kernel
    rw [gi94 hS, Option.bind_some, e9, if_pos (kd94 hS), bb]
    exact m_law2 (t := 0) hS hT hN h (by omega) (by rw [k14]; decide)
  rw [decide_eq_false k14, if_neg Bool.false_ne_true, if_pos (kd94 hS), m_isG hS h.1 (a := 15) (r := 13) (by decide), Option.bind_some, if_neg k14]
  by_cases k15 : T.1 i = 15
  · rw [decide_eq_true k15, if_pos rfl, if_pos k15]
    unfold fX11_readLine_J99
    have e9 : d.1 94 9 = 13 := by rw [h.1.2.1, k15]; decide +kernel
    rw [gi94 hS, Option.bind_some, e9, if_pos (kd94 hS), bb]
    exact m_law2 (t := 1) hS hT hN h (by omega) (by rw [k15]; decide)
  obtain ⟨d1, f1, f2, f3⟩ := m_failG hS h.1 (y := 2) (by decide)
  rw [decide_eq_false k15, if_neg Bool.false_ne_true, if_pos (kd94 hS), f1, Option.bind_some, if_neg k15]
  exact LM.bad rfl rfl f3.1 f2
theorem m_endsF (hS : Sh S) {e : sk_D} {f : FLT} (F : MFd e f) : ∃ d', fX11_ends S e 94 = some d' ∧ mrf e d' ∧ MFd d' f := by
  unfold fX11_ends
  rw [if_pos (kd94 hS), m_eatsF hS F, Option.bind_some, if_neg (show ¬ (false, e).1 = true from Bool.false_ne_true), if_pos (kd94 hS), m_failF hS F, Option.bind_some, gr94_4 hS, Option.bind_some, show (0 : Int32) = nI 0 from rfl, li98 hS e (j := 0) (by omega), Option.bind_some, si98 hS _ _ (show 0 < 1075 by omega), Option.bind_some]
  exact ⟨_, rfl, u98 _ _ _, F.w _ _⟩
/-- a line and its end -/
theorem m_ends2 (hS : Sh S) (hT : okT2 T z) (hN : NXT S T z B n c) {o : Option sk_D} {X : LR} (h : LM T z B n c d o X) : LM T z B n c d (o.bind fun d57 => fX11_ends S d57 94) (gEnd T X) := by
  obtain ⟨d1, a1, a2, a3, a4⟩ := h
  rw [a1, Option.bind_some]
  cases X with
  | inl x =>
    obtain ⟨d2, b1, b2, b3⟩ := m_endsF hS (a3 x rfl)
    exact LM.bad rfl b1 (a2.trans b2) b3
  | inr y =>
    obtain ⟨W', G⟩ := a4 y rfl
    have ea := G.eats hS hT hN (a := 59) (r := 30) (by decide) (by decide)
    unfold fX11_ends gEnd
    rw [if_pos (kd94 hS)]
    by_cases q : T.1 y.1 = 59
    · obtain ⟨d2, b1, b2, b3⟩ := ea.1 q
      have := b2.w (k := 0) (by omega) b2.2.1.line
      have e0 : d2.1 98 0 = lf_lines y.2.1 := b2.2.1.1.1
      rw [b1, Option.bind_some, if_pos rfl, gr94_4 hS, Option.bind_some, show (0 : Int32) = nI 0 from rfl, li98 hS d2 (j := 0) (by omega), Option.bind_some, si98 hS _ _ (show 0 < 1075 by omega), Option.bind_some, e0]
      exact LM.good (if_pos q) rfl ((a2.trans b3).trans (u98 _ _ _)) this
    · obtain ⟨d3, f1, f2, f3⟩ := m_failG hS G.1 (y := 2) (by decide)
      rw [ea.2 q, Option.bind_some, if_neg (show ¬ (false, d1).1 = true from Bool.false_ne_true), if_pos (kd94 hS), f1, Option.bind_some, gr94_4 hS, Option.bind_some, show (0 : Int32) = nI 0 from rfl, li98 hS d3 (j := 0) (by omega), Option.bind_some, si98 hS _ _ (show 0 < 1075 by omega), Option.bind_some]
      exact LM.bad (if_neg q) rfl ((a2.trans f3.1).trans (u98 _ _ _)) (f2.w _ _)
theorem m_linesF (hS : Sh S) {e : sk_D} {f : FLT} (F : MFd e f) : sk_itr (fX11_life_L91 S 94) e = some e := by
  apply sk_itr_exit
  unfold fX11_life_L91
  rw [gi94 hS, Option.bind_some, F.1, if_neg F.2.1]
theorem m_lines2 (hS : Sh S) (hT : okT2 T z) (hN : NXT S T z B n c) : ∀ f k d i (D : DFT) (W : List Int32), f + k = 901 → k ≤ i → MLx T z B n c d i (lf_n D.1) D W → ∃ d', sk_itr (fX11_life_L91 S 94) d = some d' ∧ mrf d d' ∧ (∀ x, gLines T f i D = .inl x → MFd d' x) ∧ ∀ y, gLines T f i D = .inr y → d'.1 94 11 = 0 ∧ ∃ W', MD (d'.1 98) (lf_n y.1) y W' ∧ cdw d' W' ∧ W'.length ≤ 900
  | 0, k, d, i, D, W, hf, hk, h => by have := h.1.2.2.2.2; omega
  | f + 1, k, d, i, D, W, hf, hk, h => by
    have hz := h.1.2.2.2.2
    have r24 := rho_if (a := 202) (r := 24) (by decide) (T.1 i)
    unfold gLines
    by_cases q : T.1 i = 202
    · rw [if_pos q]
      refine ⟨d, sk_itr_exit ?_, mrf.refl d, fun x e => absurd e (by simp), fun y e => ?_⟩
      · unfold fX11_life_L91
        rw [gi94 hS, Option.bind_some, h.1.1, if_pos rfl, gi94 hS, Option.bind_some, h.1.2.1, if_pos (r24.mpr q)]
      · rw [← Sum.inr.inj e]
        exact ⟨h.1.1, W, h.2.1, h.2.2.1, by have := h.2.2.2; omega⟩
    · rw [if_neg q]
      obtain ⟨d1, a1, a2, a3, a4⟩ := m_ends2 hS hT hN (m_line2 hS hT hN h)
      have body : fX11_life_L91 S 94 d = some (.inl d1) := by
        unfold fX11_life_L91
        rw [gi94 hS, Option.bind_some, h.1.1, if_pos rfl, gi94 hS, Option.bind_some, h.1.2.1, if_neg (fun e => q (r24.mp e)), if_pos (kd94 hS)]
        cases l : fX11_readLine S d 94 with
        | none => rw [l] at a1; exact absurd a1 (by simp)
        | some d2 =>
          rw [l, Option.bind_some] at a1
          rw [Option.bind_some, if_pos (kd94 hS), a1, Option.bind_some]
      rw [sk_itr_step body]
      cases x : gEnd T (gLine T i D) with
      | inl v =>
        have F := a3 v x
        exact ⟨d1, m_linesF hS F, a2, fun y e => by rw [← Sum.inl.inj e]; exact F, fun y e => absurd e (by simp)⟩
      | inr v =>
        obtain ⟨W', G⟩ := a4 v x
        have gt := end_gt hT hz.1 x
        obtain ⟨d2, b1, b2, b3⟩ := m_lines2 hS hT hN f (k + 1) d1 v.1 v.2 W' (by omega) (by omega) G
        exact ⟨d2, b1, a2.trans b2, b3⟩
end
