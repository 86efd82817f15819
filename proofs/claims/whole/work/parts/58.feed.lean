/-! feeding the tape -/
def aTP (A : AS) (tp : List Int32) : AS := (tp, A.2)
theorem RC.tape {S : sk_S} {d e : sk_D} {A : AS} {tp : List Int32} (h : RC S d A) (f : Fr (fun b => b = 1 ∨ b = 55) d e) (hp : rcT e tp) : RC S e (aTP A tp) := by
  have fi : ∀ b, ¬ (b = 1 ∨ b = 55) → e.1 b = d.1 b := fun b hb => f.i hb
  have fj : ∀ b, ¬ (b = 1 ∨ b = 55) → e.2 b = d.2 b := fun b hb => f.j hb
  obtain ⟨⟨hS, hk, hc, hK⟩, hpp, -, hf, hr, hi, hw⟩ := h
  refine ⟨⟨hS, hk, hc.same (fun b h1 h2 _ => fi b (by omega)), hK.fr (fi 18 (by omega)) (fi 19 (by omega))⟩, ?_, hp, ?_, ?_, ?_, ?_⟩
  · show rcP e (as_m A) (as_ps A)
    unfold rcP; rw [fi 50 (by omega), fi 51 (by omega)]; exact hpp
  · rw [fi 21 (by omega)]; exact hf
  · intro t h4; exact (hr t h4).same (fi _ (by omega)) (fj _ (by omega))
  · intro i h2; exact (hi i h2).same h2 (fun b _ => fi b (by omega))
  · exact hw.same (fun b hb => fi b (by omega))
def byt (x : Int32) (s : Nat) : Int32 := (x >>> (nI s &&& 31)) &&& 255
def bts (x : Int32) : List Int32 := [byt x 24, byt x 16, byt x 8, byt x 0]
theorem byt_u (x : Int32) {s : Nat} (hs : s ≤ 24) : ((x.toUInt32 >>> ((nI s).toUInt32 &&& Int32.toUInt32 31)).toInt32) &&& (255 : Int32) = byt x s := by
  apply b_ext
  intro i hi
  unfold byt
  rw [b_and, b_and, b_255, b_ushr s (by omega), b_sshr s (by omega) _ hi]
  by_cases c : i < 8
  · rw [if_pos (by omega)]
  · simp [c]
theorem byt_ok (x : Int32) (s : Nat) : ∃ k, k < 256 ∧ byt x s = nI k := and255 _
theorem c_feed1 {S : sk_S} {d : sk_D} (hS : Sh S) {tp : List Int32} (ht : rcT d tp) (hl : tp.length + 4 ≤ 900) (x : Int32) : ∃ d', fX10_feedInt S d 1 x = some d' ∧ rcT d' (tp ++ bts x) ∧ Fr (fun b => b = 1 ∨ b = 55) d d' := by
  have step : ∀ (e : sk_D) (l : List Int32) (s : Nat), s ≤ 24 → rcT e l → l.length < 900 → ∃ e', fX10_feedInt_L3 S 1 x (nI s, e) = some (.inl (nI s - 8, e')) ∧ rcT e' (l ++ [byt x s]) ∧ Fr (fun b => b = 1 ∨ b = 55) e e' := by
    intro e l s hs hr hl9
    have h9 : ¬ (900 : Int32) ≤ nI l.length := nI_ge (b := 900) hl9 (by omega)
    unfold fX10_feedInt_L3
    dsimp only
    rw [if_neg (nI_pos (by omega)), gi1 hS, Option.bind_some, hr.1, if_neg h9, gr1_9 hS, Option.bind_some, Option.bind_some, si55 hS _ _ hl9, Option.bind_some, gi1 hS, Option.bind_some, pi1 hS, Option.bind_some, byt_u x hs]
    have z1 : ∀ (y : sk_D) (k : Nat) (v : Int32), (sk_uI y 55 k v).1 1 = y.1 1 := fun y k v => uI_a _ _ _ _ _ (by decide)
    have z2 : ∀ (y : sk_D) (k : Nat) (v : Int32), (sk_uI y 1 k v).1 55 = y.1 55 := fun y k v => uI_a _ _ _ _ _ (by decide)
    refine ⟨_, rfl, ⟨?_, ?_⟩, Fr.tI (Fr.tI (Fr.refl _ _) (Or.inr rfl)) (Or.inl rfl)⟩
    · rw [uI_s, z1, hr.1, nI_1]; simp
    · intro i hi
      rw [z2, getD_app]
      simp at hi
      by_cases c : i < l.length
      · rw [if_pos c, uI_k _ _ _ _ _ (by omega)]; exact hr.2 i c
      · have : i = l.length := by omega
        subst this
        rw [if_neg c, if_pos rfl, uI_s]
  obtain ⟨d1, a1, a2, a3⟩ := step d tp 24 (by omega) ht (by omega)
  obtain ⟨d2, b1, b2, b3⟩ := step d1 (tp ++ [byt x 24]) 16 (by omega) a2 (by simp; omega)
  obtain ⟨d3, c1, c2, c3⟩ := step d2 (tp ++ [byt x 24] ++ [byt x 16]) 8 (by omega) b2 (by simp; omega)
  obtain ⟨d4, e1, e2, e3⟩ := step d3 (tp ++ [byt x 24] ++ [byt x 16] ++ [byt x 8]) 0 (by omega) c2 (by simp; omega)
  refine ⟨d4, ?_, ?_, ((a3.trans b3).trans c3).trans e3⟩
  · unfold fX10_feedInt
    rw [show ((24 : Int32), d) = (nI 24, d) from rfl, sk_itr_step a1, show (nI 24 - 8, d1) = (nI 16, d1) from rfl, sk_itr_step b1, show (nI 16 - 8, d2) = (nI 8, d2) from rfl, sk_itr_step c1, show (nI 8 - 8, d3) = (nI 0, d3) from rfl, sk_itr_step e1]
    have ex : fX10_feedInt_L3 S 1 x (nI 0 - 8, d4) = some (.inr d4) := by
      unfold fX10_feedInt_L3
      rw [if_pos (show nI 0 - 8 < 0 by decide)]
    rw [sk_itr_exit ex]
    rfl
  · have : tp ++ bts x = tp ++ [byt x 24] ++ [byt x 16] ++ [byt x 8] ++ [byt x 0] := by unfold bts; simp
    rw [this]; exact e2
def x_feed (A : AS) (a b c d e : Int32) : Int32 × AS := if (as_tp A).length + 20 ≤ 900 then (nI ((as_tp A).length + 20), aTP A ((as_tp A) ++ bts a ++ bts b ++ bts c ++ bts d ++ bts e)) else (-5, A)
theorem bts_len (x : Int32) : (bts x).length = 4 := rfl
theorem c_feed {S : sk_S} {d : sk_D} {A : AS} (h : RC S d A) (hA : okA A) (a b c e f : Int32) : ∃ d', fX10_feed S d 1 a b c e f = some ((x_feed A a b c e f).1, d') ∧ RC S d' (x_feed A a b c e f).2 ∧ Fr cls d d' := by
  have hS := h.1.1
  have ht := h.2.2.1
  have hl := hA.2.2.2.2.1
  unfold fX10_feed x_feed
  rw [gi1 hS, Option.bind_some, ht.1, show nI (as_tp A).length + (20 : Int32) = nI ((as_tp A).length + 20) from nI_add _ 20]
  by_cases q : (as_tp A).length + 20 ≤ 900
  · rw [if_pos (show nI ((as_tp A).length + 20) ≤ (900 : Int32) from nI_le (b := 900) q (by omega)), if_pos q]
    obtain ⟨d1, a1, a2, a3⟩ := c_feed1 hS ht (by omega) a
    obtain ⟨d2, b1, b2, b3⟩ := c_feed1 hS a2 (by simp [bts_len]; omega) b
    obtain ⟨d3, c1, c2, c3⟩ := c_feed1 hS b2 (by simp [bts_len]; omega) c
    obtain ⟨d4, e1, e2, e3⟩ := c_feed1 hS c2 (by simp [bts_len]; omega) e
    obtain ⟨d5, f1, f2, f3⟩ := c_feed1 hS e2 (by simp [bts_len]; omega) f
    rw [if_pos (kd1 hS), a1, Option.bind_some, if_pos (kd1 hS), b1, Option.bind_some, if_pos (kd1 hS), c1, Option.bind_some, if_pos (kd1 hS), e1, Option.bind_some, if_pos (kd1 hS), f1, Option.bind_some, gi1 hS, Option.bind_some, f2.1]
    have fr := (((a3.trans b3).trans c3).trans e3).trans f3
    refine ⟨d5, ?_, RC.tape h fr f2, fr.mono (fun b hb => by unfold cls; omega)⟩
    simp [bts_len]
  · rw [if_neg (show ¬ nI ((as_tp A).length + 20) ≤ (900 : Int32) from nI_ge (a := 900) (by omega) (by omega)), if_neg q]
    exact ⟨d, rfl, h, Fr.refl _ _⟩
theorem RM.tape {S : sk_S} {d e : sk_D} {A : AS} {tp : List Int32} (h : RM S d A) (f : Fr (fun b => b = 94 ∨ b = 97) d e) (f94 : ∀ k, k ≠ 0 → k ≠ 5 → e.1 94 k = d.1 94 k) (hp : rmT e tp) : RM S e (aTP A tp) ∧ Fr mdl d e := by
  have fi : ∀ b, ¬ (b = 94 ∨ b = 97) → e.1 b = d.1 b := fun b hb => f.i hb
  obtain ⟨hM, hpp, -, hf, hr, hi⟩ := h
  refine ⟨⟨hM.fr (fi 95 (by omega)), ?_, hp, ?_, ?_, ?_⟩, f.mono (fun b hb => by unfold mdl; omega)⟩
  · show rmP (e.1 95) (as_m A) (as_ps A)
    rw [fi 95 (by omega)]; exact hpp
  · rw [f94 13 (by omega) (by omega), f94 14 (by omega) (by omega)]; exact hf
  · intro t h4
    have := hr t h4
    show mTr e t (as_tr A t)
    unfold mTr at this ⊢
    rw [fi 113 (by omega), fi 114 (by omega), f.j (by omega)]
    exact this
  · intro i h2
    have := hi i h2
    show mIm e i (as_im A i)
    unfold mIm at this ⊢
    rw [fi 96 (by omega), fi 95 (by omega)]
    exact this
theorem m_feed {S : sk_S} {d : sk_D} {A : AS} (h : RM S d A) (hA : okA A) (a b c e f : Int32) : ∃ d', fX11_feed S d 94 a b c e f = some ((x_feed A a b c e f).1, d') ∧ RM S d' (x_feed A a b c e f).2 ∧ Fr mdl d d' := by
  have hS := h.1.1
  have h0 := h.m0 0
  have ht := h0.2.2.1
  have hl := hA.2.2.2.2.1
  unfold fX11_feed x_feed
  rw [pi94 hS, Option.bind_some, gi94 hS, Option.bind_some, ht.1, show nI (as_tp A).length + (20 : Int32) = nI ((as_tp A).length + 20) from nI_add _ 20]
  by_cases q : (as_tp A).length + 20 ≤ 900
  · rw [if_pos (show nI ((as_tp A).length + 20) ≤ (900 : Int32) from nI_le (b := 900) q (by omega)), if_pos q]
    have hv : ∀ k, k < 20 → (bts a ++ bts b ++ bts c ++ bts e ++ bts f).getD k 0 = byt (if k < 4 then a else if k < 8 then b else if k < 12 then c else if k < 16 then e else f) (24 - 8 * (k % 4)) := by
      intro k hk
      rcases (by omega : k = 0 ∨ k = 1 ∨ k = 2 ∨ k = 3 ∨ k = 4 ∨ k = 5 ∨ k = 6 ∨ k = 7 ∨ k = 8 ∨ k = 9 ∨ k = 10 ∨ k = 11 ∨ k = 12 ∨ k = 13 ∨ k = 14 ∨ k = 15 ∨ k = 16 ∨ k = 17 ∨ k = 18 ∨ k = 19) with rfl | rfl | rfl | rfl | rfl | rfl | rfl | rfl | rfl | rfl | rfl | rfl | rfl | rfl | rfl | rfl | rfl | rfl | rfl | rfl <;> rfl
    have jstep : ∀ (z : sk_D) (k : Nat) (v : Int32), k < 20 → z.1 94 5 = nI ((as_tp A).length + k) → fX11_feed_J77i24 S 94 (nI k) v z = some (.inl (nI (k + 1), sk_uI (sk_uI z 97 ((as_tp A).length + k) (byt v (24 - 8 * (k % 4)))) 94 5 (nI ((as_tp A).length + k + 1)))) := by
      intro z k v hk hz
      have e4 : (24 : Int32) - (8 : Int32) * (nI k - nI k / (4 : Int32) * (4 : Int32)) = nI (24 - 8 * (k % 4)) := by
        rw [show (4 : Int32) = nI 4 from rfl, pk_rem (by omega) (by omega) (by omega), show (8 : Int32) = nI 8 from rfl, pk_mul, show (24 : Int32) = nI 24 from rfl, pk_sub (by omega)]
      unfold fX11_feed_J77i24
      rw [e4, gr94_3 hS, Option.bind_some, gi94 hS, Option.bind_some, hz, si97 hS _ _ (by omega), Option.bind_some, gi94 hS, Option.bind_some, pi94 hS, Option.bind_some, uI_a _ _ _ 94 _ (by decide), hz, nI_1, nI_1]
      rfl
    have loop := it_for (body := fX11_feed_L24 S 94 a b c e f) (fun k z => z.1 = nI k ∧ z.2.1 94 5 = nI ((as_tp A).length + k) ∧ Fr (fun b => b = 94 ∨ b = 97) (sk_uI d 94 0 0) z.2 ∧ (∀ j, j ≠ 5 → z.2.1 94 j = (sk_uI d 94 0 0).1 94 j) ∧ (∀ i, i < (as_tp A).length → z.2.1 97 i = (as_tp A).getD i 0) ∧ ∀ i, i < k → z.2.1 97 ((as_tp A).length + i) = (bts a ++ bts b ++ bts c ++ bts e ++ bts f).getD i 0) 20
      (fun x => x.1 = nI ((as_tp A).length + 20) ∧ x.2.1 94 5 = nI ((as_tp A).length + 20) ∧ Fr (fun b => b = 94 ∨ b = 97) (sk_uI d 94 0 0) x.2 ∧ (∀ j, j ≠ 5 → x.2.1 94 j = (sk_uI d 94 0 0).1 94 j) ∧ (∀ i, i < (as_tp A).length → x.2.1 97 i = (as_tp A).getD i 0) ∧ ∀ i, i < 20 → x.2.1 97 ((as_tp A).length + i) = (bts a ++ bts b ++ bts c ++ bts e ++ bts f).getD i 0) ?_ ?_ (s := ((0 : Int32), sk_uI d 94 0 0)) ⟨rfl, ht.1, Fr.refl _ _, fun j _ => rfl, ht.2, fun i hi => by omega⟩
    · obtain ⟨x, hx, x1, x2, x3, x4, x5, x6⟩ := loop
      rw [hx, Option.bind_some]
      have tp : rmT x.2 (as_tp A ++ bts a ++ bts b ++ bts c ++ bts e ++ bts f) := by
        have ea : as_tp A ++ bts a ++ bts b ++ bts c ++ bts e ++ bts f = as_tp A ++ (bts a ++ bts b ++ bts c ++ bts e ++ bts f) := by simp
        rw [ea]
        refine ⟨by rw [x2]; simp [bts_len], fun i hi => ?_⟩
        simp [bts_len] at hi
        rw [List.getD_eq_getElem?_getD, List.getElem?_append]
        split
        · next c => rw [← List.getD_eq_getElem?_getD]; exact x5 i c
        · next c =>
          have := x6 (i - (as_tp A).length) (by omega)
          rw [show (as_tp A).length + (i - (as_tp A).length) = i by omega] at this
          rw [this, List.getD_eq_getElem?_getD]
      have fr : Fr (fun b => b = 94 ∨ b = 97) d x.2 := (Fr.uI _ (Or.inl rfl)).trans x3
      have r := RM.tape h fr (fun k h1 h2 => by rw [x4 k h2, uI_k _ _ _ _ _ h1]) tp
      exact ⟨x.2, by rw [← x1], r.1, r.2⟩
    · intro k z hk ⟨i1, i2, i3, i4, i5, i6⟩
      left
      have fin : ∀ v, v = (if k < 4 then a else if k < 8 then b else if k < 12 then c else if k < 16 then e else f) → ∃ s1, fX11_feed_J77i24 S 94 (nI k) v z.2 = some (.inl s1) ∧ (s1.1 = nI (k + 1) ∧ s1.2.1 94 5 = nI ((as_tp A).length + (k + 1)) ∧ Fr (fun b => b = 94 ∨ b = 97) (sk_uI d 94 0 0) s1.2 ∧ (∀ j, j ≠ 5 → s1.2.1 94 j = (sk_uI d 94 0 0).1 94 j) ∧ (∀ i, i < (as_tp A).length → s1.2.1 97 i = (as_tp A).getD i 0) ∧ ∀ i, i < k + 1 → s1.2.1 97 ((as_tp A).length + i) = (bts a ++ bts b ++ bts c ++ bts e ++ bts f).getD i 0) := by
        intro v hvv
        rw [jstep z.2 k v hk i2]
        refine ⟨_, rfl, rfl, uI_s _ _ _ _, (i3.tI (Or.inr rfl)).tI (Or.inl rfl), fun j hj => by rw [uI_k _ _ _ _ _ hj, uI_a _ _ _ 94 _ (by decide)]; exact i4 j hj, fun i hi => by rw [uI_a _ _ _ 97 _ (by decide), uI_k _ _ _ _ _ (by omega)]; exact i5 i hi, fun i hi => ?_⟩
        rw [uI_a _ _ _ 97 _ (by decide)]
        by_cases ci : i = k
        · subst ci; rw [uI_s, hv i hk, hvv]
        · rw [uI_k _ _ _ _ _ (by omega)]; exact i6 i (by omega)
      unfold fX11_feed_L24
      rw [i1, if_neg (show ¬ (20 : Int32) ≤ nI k from nI_ge (b := 20) hk (by omega))]
      have l4 : (4 : Int32) ≤ nI k ↔ 4 ≤ k := nI_leI (a := 4) (by omega) (by omega)
      have l8 : (8 : Int32) ≤ nI k ↔ 8 ≤ k := nI_leI (a := 8) (by omega) (by omega)
      have l12 : (12 : Int32) ≤ nI k ↔ 12 ≤ k := nI_leI (a := 12) (by omega) (by omega)
      have l16 : (16 : Int32) ≤ nI k ↔ 16 ≤ k := nI_leI (a := 16) (by omega) (by omega)
      simp only [l4, l8, l12, l16]
      by_cases c4 : 4 ≤ k
      · rw [if_pos c4]
        by_cases c8 : 8 ≤ k
        · rw [if_pos c8]
          by_cases c12 : 12 ≤ k
          · rw [if_pos c12]
            by_cases c16 : 16 ≤ k
            · rw [if_pos c16]; exact fin f (by rw [if_neg (by omega), if_neg (by omega), if_neg (by omega), if_neg (by omega)])
            · rw [if_neg c16]; exact fin e (by rw [if_neg (by omega), if_neg (by omega), if_neg (by omega), if_pos (by omega)])
          · rw [if_neg c12]; exact fin c (by rw [if_neg (by omega), if_neg (by omega), if_pos (by omega)])
        · rw [if_neg c8]; exact fin b (by rw [if_neg (by omega), if_pos (by omega)])
      · rw [if_neg c4]; exact fin a (by rw [if_pos (by omega)])
    · intro z ⟨i1, i2, i3, i4, i5, i6⟩
      unfold fX11_feed_L24
      rw [i1, if_pos (show (20 : Int32) ≤ nI 20 by decide), gi94 hS, Option.bind_some, i2]
      exact ⟨_, rfl, rfl, i2, i3, i4, i5, i6⟩
  · rw [if_neg (show ¬ nI ((as_tp A).length + 20) ≤ (900 : Int32) from nI_ge (a := 900) (by omega) (by omega)), if_neg q]
    exact ⟨_, rfl, h0, (mfr0 d 0).2.2.2.2⟩
