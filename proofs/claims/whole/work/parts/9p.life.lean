/-! life, on both sides -/
def lfA (A : AS) (f : FLT) : AS := ([], f, A.2.2)
def x_life (A : AS) (p : Int32) : Int32 × AS := if inN ((as_tp A).length + 1) p then (match gRead (lxT (fun j => (as_tp A).getD j 0) p.toNatClampNeg) with
  | .inl x => (-30 - x.1, lfA A x)
  | .inr D => (lf_lines D.1, aLM (lfA A (0, -1)) D.1 (D.2 <<< ((16 : Int32) &&& 31)))) else (-3, A)
theorem slm : ∀ s, s < 10 → sp (nI s <<< ((16 : Int32) &&& 31)) = nI s ∧ ∀ i, i < 16 → bt (nI s <<< ((16 : Int32) &&& 31)) i = false := by decide +kernel
theorem okM_s {L : LF} {s : Nat} (hs : s < 10) : okM L (nI s <<< ((16 : Int32) &&& 31)) := by
  obtain ⟨a, b⟩ := slm s hs
  exact ⟨fun i _ hi => ⟨b i (by omega), b (i + 8) (by omega)⟩, fun i hi hb => by rw [b i (by omega)] at hb; exact absurd hb (by decide), s, hs, a⟩
theorem lfA_ok {A : AS} (hA : okA A) (f : FLT) : okA (lfA A f) := by
  obtain ⟨h1, h2, h3, h4, h5, h6, h7, h8⟩ := hA
  exact ⟨h1, h2, h3, h4, by show ([] : List Int32).length ≤ 900; simp, fun c hc => absurd hc (by show c ∉ ([] : List Int32); simp), h7, h8⟩
theorem x_life_ok {A : AS} (hA : okA A) (p : Int32) : okA (x_life A p).2 := by
  unfold x_life
  split
  · next q =>
    obtain ⟨n, hn, rfl⟩ := inN_of q
    have h9 := hA.2.2.2.2.1
    obtain ⟨z, hT⟩ := lxT_z (c := fun j => (as_tp A).getD j 0) (n := n) (by omega)
    rw [nI_clamp (by omega)]
    cases g : gRead (lxT (fun j => (as_tp A).getD j 0) n) with
    | inl x => exact lfA_ok hA x
    | inr D =>
      obtain ⟨a, s, hs, es⟩ := read_ok hT g
      obtain ⟨h1, h2, h3, h4, h5, h6, h7, h8⟩ := lfA_ok hA (0, -1)
      dsimp only
      rw [es]
      exact ⟨a, okM_s hs, fun y hy => absurd hy (by show y ∉ ([] : List Int32); simp), by show ([] : List Int32).length ≤ 10; simp, h5, h6, h7, h8⟩
  · exact hA
theorem RC.rd {S : sk_S} {d e : sk_D} {A : AS} (h : RC S d A) (f : FLT) (fr : Fr (fun b => b = 1 ∨ (21 ≤ b ∧ b ≤ 39)) d e) (e10 : e.1 1 10 = 0) (e1 : e.1 21 1 = f.1) (e2 : e.1 21 2 = f.2) : RC S e (lfA A f) := by
  have fi : ∀ b, ¬ (b = 1 ∨ (21 ≤ b ∧ b ≤ 39)) → e.1 b = d.1 b := fun b hb => fr.i hb
  have fj : ∀ b, ¬ (b = 1 ∨ (21 ≤ b ∧ b ≤ 39)) → e.2 b = d.2 b := fun b hb => fr.j hb
  obtain ⟨⟨hS, hk, hc, hK⟩, hp, ht, hf, hr, hi, hw⟩ := h
  refine ⟨⟨hS, hk, hc.same (fun b _ _ _ => fi b (by omega)), hK.fr (fi 18 (by omega)) (fi 19 (by omega))⟩, ?_, ?_, ⟨e1, e2⟩, ?_, ?_, ?_⟩
  · show rcP e (as_m A) (as_ps A)
    unfold rcP; rw [fi 50 (by omega), fi 51 (by omega)]; exact hp
  · exact ⟨e10, fun i hi => absurd hi (by show ¬ i < ([] : List Int32).length; simp)⟩
  · intro t h4; exact (hr t h4).same (fi _ (by omega)) (fj _ (by omega))
  · intro i h2; exact (hi i h2).same h2 (fun b _ => fi b (by omega))
  · exact hw.same (fun b hb => fi b (by omega))
theorem c_life {S : sk_S} {d : sk_D} {A : AS} (h : RC S d A) (hA : okA A) (p : Int32) : ∃ d', fX10_life S d 1 p = some ((x_life A p).1, d') ∧ RC S d' (x_life A p).2 ∧ Fr cls d d' := by
  have hS := h.1.1
  have h9 := hA.2.2.2.2.1
  have c10 : d.1 1 10 = nI (as_tp A).length := h.2.2.1.1
  have ip := in_le (p := p) (n := (as_tp A).length + 1) (nI (as_tp A).length) (by rw [nI_toInt (by omega)]; omega)
  unfold fX10_life x_life
  by_cases q : inN ((as_tp A).length + 1) p
  · rw [if_neg (ip.1 q).1, gi1 hS, Option.bind_some, c10, if_pos (ip.1 q).2, if_pos q]
    obtain ⟨n, hn, rfl⟩ := inN_of q
    rw [nI_clamp (by omega), pi1 hS, Option.bind_some, gr1_1 hS, Option.bind_some, gr1_9 hS, Option.bind_some, if_pos (kd21 hS)]
    obtain ⟨z, hT⟩ := lxT_z (c := fun j => (as_tp A).getD j 0) (n := n) (by omega)
    have h256 : ∀ j, j < n → ∃ k, k < 256 ∧ (as_tp A).getD j 0 = nI k := fun j hj => hA.2.2.2.2.2.1 _ (by
      rw [List.getD_eq_getElem?_getD, List.getElem?_eq_getElem (by omega)]
      exact List.getElem_mem _)
    have hc : ∀ j, j < n → (sk_uI d 1 10 0).1 55 j = (as_tp A).getD j 0 := fun j hj => by rw [uI_a _ _ _ 55 _ (by decide)]; exact h.2.2.1.2 j (by omega)
    obtain ⟨d7, s1, s2, s3⟩ := c_scan (d := sk_uI d 1 10 0) hS (show n ≤ 900 by omega) h256 hT hc
    obtain ⟨d8, r1, r2, r3, r4⟩ := c_read hS hT (show n ≤ 900 by omega) s1 s2
    rw [r1, Option.bind_some, Option.bind_some, gi21 hS, Option.bind_some]
    have fr : Fr (fun b => b = 1 ∨ (21 ≤ b ∧ b ≤ 39)) d d8 := ((Fr.uI _ (Or.inl rfl)).trans (s3.mono (fun b hb => by unfold scn at hb; omega))).trans (r2.mono (fun b hb => by unfold rdr at hb; omega))
    have e10 : d8.1 1 10 = 0 := by rw [r2.i (b := 1) (by unfold rdr; omega), s3.i (b := 1) (by unfold scn; omega), uI_s]
    have fc : Fr cls d d8 := fr.mono (fun b hb => by unfold cls; omega)
    cases g : gRead (lxT (fun j => (as_tp A).getD j 0) n) with
    | inl x =>
      obtain ⟨x1, x2, x3⟩ := r3 x g
      rw [x1, if_neg x2, Option.bind_some, gi21 hS, Option.bind_some, x1]
      exact ⟨d8, rfl, h.rd x fr e10 x1 x3, fc⟩
    | inr D =>
      obtain ⟨x1, x2, x3, x4⟩ := r4 D g
      obtain ⟨o1, s, hs, es⟩ := read_ok hT g
      have R := h.rd (0, -1) fr e10 x1 x2
      obtain ⟨e, a1, a2, a3⟩ := c_begin R (lfA_ok hA (0, -1)) (D.2 <<< ((16 : Int32) &&& 31)) o1 (LA22 hS) (by omega) x3
      rw [x1, if_pos rfl]
      simp only [Option.bind_some, gr21_0 hS, gi22 hS, x4, if_pos (kd1 hS), a1, gr1_0 hS, gr2_0 hS, gi3 hS]
      have l : e.1 3 4 = lf_lines D.1 := a2.1.2.2.1.2.2.2.1
      rw [l]
      exact ⟨e, rfl, a2, fc.trans a3⟩
  · rw [if_neg q]
    by_cases h0 : p < 0
    · rw [if_pos h0]; exact ⟨d, rfl, h, Fr.refl _ _⟩
    · rw [if_neg h0, gi1 hS, Option.bind_some, c10, if_neg (ip.2 q h0)]
      exact ⟨d, rfl, h, Fr.refl _ _⟩
/-! the reference -/
theorem RM.rd {S : sk_S} {d e : sk_D} {A : AS} (h : RM S d A) (f : FLT) (fi : ∀ b, b ≠ 94 → b ≠ 98 → e.1 b = d.1 b) (fj : e.2 = d.2) (e5 : e.1 94 5 = 0) (e1 : e.1 94 13 = f.1) (e2 : e.1 94 14 = f.2) : RM S e (lfA A f) := by
  obtain ⟨⟨hS, hk, hm⟩, hp, ht, hf, hr, hi⟩ := h
  refine ⟨⟨hS, hk, by rw [fi 95 (by omega) (by omega)]; exact hm⟩, by rw [fi 95 (by omega) (by omega)]; exact hp, ⟨e5, fun i hi => absurd hi (by show ¬ i < ([] : List Int32).length; simp)⟩, ⟨e1, e2⟩, ?_, ?_⟩
  · intro t h4
    show mTr e t (as_tr A t)
    have := hr t h4
    unfold mTr at this ⊢
    rw [fi 113 (by omega) (by omega), fi 114 (by omega) (by omega), fj]
    exact this
  · intro i h2
    show mIm e i (as_im A i)
    have := hi i h2
    unfold mIm at this ⊢
    rw [fi 96 (by omega) (by omega), fi 95 (by omega) (by omega)]
    exact this
theorem MD.mL {f : Nat → Int32} {D : DFT} {W : List Int32} (h : MD f (lf_n D.1) D W) (hW : W.length ≤ 900) (hc : ∀ j, j < W.length → f (175 + j) = W.getD j 0) : mL f D.1 := by
  obtain ⟨⟨h0, h1, h2, h3⟩, hv, hz, hk, ⟨w0, w1⟩, hs, h7, hn, hk8⟩ := h
  have one : ∀ t, mLw f W t (lf_w D.1 t) → mW f t (lf_w D.1 t) := by
    intro t w
    refine ⟨w.1, fun ne => ?_⟩
    obtain ⟨fr, a1, a2, a3, a4⟩ := w.2 ne
    refine ⟨fr, a1, a2, by omega, fun j hj => ?_⟩
    rw [Nat.add_assoc, hc (fr + j) (by omega)]
    exact a4 j hj
  exact ⟨h0, h1, h2, h3, hv, hk, one 0 w0, one 1 w1⟩
theorem mood0 {m : Int32} (h : ∀ i, i < 16 → bt m i = false) : ∀ j, j < 8 → mood m j = 0 := by
  intro j hj
  unfold mood
  rw [h j (by omega), h (j + 8) (by omega), if_neg (by decide), if_neg (by decide)]
section
variable {S : sk_S} {T : TKS} {z : Nat} {B : Nat → Nat} {n : Nat} {c : Nat → Int32}
theorem mrf.w98 (d : sk_D) (k : Nat) (v : Int32) : mrf d (sk_uI d 98 k v) := ⟨fun b _ h2 => uI_a _ _ _ _ _ h2, rfl, fun j _ _ => by rw [uI_a _ _ _ 94 _ (by decide)]⟩
theorem m_plain98 (hS : Sh S) (d : sk_D) : ∃ e, fX11_plain S d 98 = some e ∧ (∀ b, b ≠ 98 → e.1 b = d.1 b) ∧ e.2 = d.2 ∧ ∀ j, j < 1075 → e.1 98 j = 0 := by
  have loop := it_for (body := fX11_plain_L2 S 98) (fun k y => y.1 = nI k ∧ (∀ b, b ≠ 98 → y.2.1 b = d.1 b) ∧ y.2.2 = d.2 ∧ ∀ j, j < k → y.2.1 98 j = 0) 1075
    (fun e => (∀ b, b ≠ 98 → e.1 b = d.1 b) ∧ e.2 = d.2 ∧ ∀ j, j < 1075 → e.1 98 j = 0) ?_ ?_ (s := ((0 : Int32), d)) ⟨rfl, fun b hb => rfl, rfl, fun j hj => absurd hj (by omega)⟩
  · obtain ⟨e, he, h⟩ := loop
    refine ⟨e, ?_, h⟩
    unfold fX11_plain
    rw [he]; rfl
  · intro k y hk ⟨i1, i2, i3, i4⟩
    left
    unfold fX11_plain_L2
    rw [i1, if_neg (show ¬ (1075 : Int32) ≤ nI k from nI_ge (b := 1075) hk (by omega)), si98 hS _ _ hk, Option.bind_some, nI_1]
    refine ⟨_, rfl, rfl, fun b hb => ?_, i3, fun j hj => ?_⟩
    · show (sk_uI y.2 98 _ _).1 b = _
      rw [uI_a _ _ _ _ _ hb]; exact i2 b hb
    · show (sk_uI y.2 98 k 0).1 98 j = 0
      by_cases q : j = k
      · rw [q, uI_s]
      · rw [uI_k _ _ _ _ _ q]; exact i4 j (by omega)
  · intro y ⟨i1, i2, i3, i4⟩
    refine ⟨y.2, ?_, i2, i3, i4⟩
    unfold fX11_plain_L2
    rw [i1, if_pos (show (1075 : Int32) ≤ nI 1075 from by decide)]
theorem m_copy98 (hS : Sh S) (d : sk_D) : ∃ e, sk_itr (fX11_life_L162 S 94) ((0 : Int32), d) = some (d.1 98 0, e) ∧ (∀ b, b ≠ 95 → e.1 b = d.1 b) ∧ e.2 = d.2 ∧ (∀ q, e.1 95 q = if q < 1075 then d.1 98 q else d.1 95 q) := by
  have loop := it_for (body := fX11_life_L162 S 94) (fun k y => y.1 = nI k ∧ (∀ b, b ≠ 95 → y.2.1 b = d.1 b) ∧ y.2.2 = d.2 ∧ ∀ q, y.2.1 95 q = if q < k then d.1 98 q else d.1 95 q) 1075
    (fun e => e.1 = d.1 98 0 ∧ (∀ b, b ≠ 95 → e.2.1 b = d.1 b) ∧ e.2.2 = d.2 ∧ ∀ q, e.2.1 95 q = if q < 1075 then d.1 98 q else d.1 95 q) ?_ ?_ (s := ((0 : Int32), d)) ⟨rfl, fun b hb => rfl, rfl, fun q => by rw [if_neg (by omega)]⟩
  · obtain ⟨e, he, e1, h⟩ := loop
    exact ⟨e.2, by rw [he, ← e1], h⟩
  · intro k y hk ⟨i1, i2, i3, i4⟩
    left
    unfold fX11_life_L162
    rw [i1, if_neg (show ¬ (1075 : Int32) ≤ nI k from nI_ge (b := 1075) hk (by omega)), gr94_1 hS, Option.bind_some, gr94_4 hS, Option.bind_some, li98 hS _ hk, Option.bind_some, si95 hS _ _ (show k < 3225 by omega), Option.bind_some, nI_1]
    refine ⟨_, rfl, rfl, fun b hb => ?_, i3, fun q => ?_⟩
    · show (sk_uI y.2 95 _ _).1 b = _
      rw [uI_a _ _ _ _ _ hb]; exact i2 b hb
    · show (sk_uI y.2 95 k (y.2.1 98 k)).1 95 q = _
      by_cases w : q = k
      · rw [w, uI_s, if_pos (by omega), i2 98 (by omega)]
      · rw [uI_k _ _ _ _ _ w, i4 q]
        by_cases w2 : q < k
        · rw [if_pos w2, if_pos (by omega)]
        · rw [if_neg w2, if_neg (by omega)]
  · intro y ⟨i1, i2, i3, i4⟩
    refine ⟨(y.2.1 95 0, y.2), ?_, by show y.2.1 95 0 = _; rw [i4, if_pos (by omega)], i2, i3, i4⟩
    unfold fX11_life_L162
    rw [i1, if_pos (show (1075 : Int32) ≤ nI 1075 from by decide), gr94_1 hS, Option.bind_some, show (0 : Int32) = nI 0 from rfl, li95 hS _ (show 0 < 3225 by omega), Option.bind_some]
/-- what is left at a fault -/
def lfF (d d' : sk_D) (f : FLT) : Prop := (∀ b, b ≠ 94 → b ≠ 98 → d'.1 b = d.1 b) ∧ d'.2 = d.2 ∧ d'.1 94 5 = d.1 94 5 ∧ d'.1 94 13 = f.1 ∧ d'.1 94 14 = f.2
theorem m_endF (hS : Sh S) {d e : sk_D} {f : FLT} (F : MFd e f) (x : mrf d e) : ∃ d', ((sk_gI S e 94 10 11).bind fun v40 => (sk_pI S e 94 10 13 v40).bind fun d42 => (sk_gI S d42 94 10 11).bind fun v44 => if v44 = 0 then (fX11_life_J142 S 94 94 (-1 : Int32) d42) else ((sk_gI S d42 94 10 12).bind fun v47 => fX11_life_J142 S 94 94 v47 d42)) = some (-30 - f.1, d') ∧ lfF d d' f := by
  rw [gi94 hS, Option.bind_some, F.1, pi94 hS, Option.bind_some, gi94 hS, Option.bind_some, uI_k _ _ _ _ _ (show 11 ≠ 13 by omega), F.1, if_neg F.2.1, gi94 hS, Option.bind_some, uI_k _ _ _ _ _ (show 12 ≠ 13 by omega), F.2.2]
  unfold fX11_life_J142
  rw [pi94 hS, Option.bind_some, gi94 hS, Option.bind_some, uI_k _ _ _ _ _ (show 11 ≠ 14 by omega), uI_k _ _ _ _ _ (show 11 ≠ 13 by omega), F.1, if_neg F.2.1, Option.bind_some]
  refine ⟨_, rfl, fun b h1 h2 => ?_, x.2.1, ?_, ?_, ?_⟩
  · rw [uI_a _ _ _ _ _ h1, uI_a _ _ _ _ _ h1]; exact x.1 b h1 h2
  · rw [uI_k _ _ _ _ _ (by omega), uI_k _ _ _ _ _ (by omega)]; exact x.2.2 5 (by omega) (by omega)
  · rw [uI_k _ _ _ _ _ (by omega), uI_s]
  · rw [uI_s]
theorem m_J74F (hS : Sh S) {d e : sk_D} {f : FLT} (F : MFd e f) (x : mrf d e) : ∃ d', fX11_life_J74 S 94 e = some (-30 - f.1, d') ∧ lfF d d' f := by
  unfold fX11_life_J74
  obtain ⟨v, t1⟩ := m_takesF hS F 0 40
  obtain ⟨d3, b1, b2, b3⟩ := m_endsF hS (F.w 3 v)
  rw [gr94_4 hS, Option.bind_some, if_pos (kd94 hS), t1, Option.bind_some, show (3 : Int32) = nI 3 from rfl, si98 hS _ _ (show 3 < 1075 by omega), Option.bind_some, if_pos (kd94 hS), b1, Option.bind_some, m_linesF hS b3, Option.bind_some]
  exact m_endF hS b3 ((x.trans (mrf.w98 _ _ _)).trans b2)
theorem m_J69F (hS : Sh S) {d e : sk_D} {i : Nat} (G : MGd T z B n c e i) (x : mrf d e) : ∃ d', fX11_life_J69 S 94 e = some (-30 - (tfl T i 2).1, d') ∧ lfF d d' (tfl T i 2) := by
  obtain ⟨d3, f1, f2, f3⟩ := m_failG hS G (y := 2) (by decide)
  unfold fX11_life_J69
  rw [if_pos (kd94 hS), f1, Option.bind_some]
  exact m_J74F hS f2 (x.trans f3.1)
theorem m_J74G (hS : Sh S) (hT : okT2 T z) (hN : NXT S T z B n c) {d e : sk_D} (h : MLx T z B n c e 2 0 dft0 []) (x : mrf d e) (t0 : T.1 0 = 0) (t1 : T.1 1 = 1) : ∃ r d', fX11_life_J74 S 94 e = some (r, d') ∧ (∀ f, gRead T = .inl f → r = -30 - f.1 ∧ lfF d d' f) ∧ ∀ D, gRead T = .inr D → r = lf_lines D.1 ∧ (∀ b, b ≠ 94 → b ≠ 98 → b ≠ 95 → d'.1 b = d.1 b) ∧ d'.2 = d.2 ∧ d'.1 94 5 = d.1 94 5 ∧ d'.1 94 13 = 0 ∧ d'.1 94 14 = -1 ∧ (∀ q, 1075 ≤ q → d'.1 95 q = d.1 95 q) ∧ mL (d'.1 95) D.1 ∧ d'.1 95 82 = D.2 ∧ ∀ k, 74 ≤ k → k < 174 → k ≠ 82 → d'.1 95 k = 0 := by
  obtain ⟨v, d1, a1, a2, a3, a4⟩ := MLx.takes hS hT hN h 0 40
  unfold fX11_life_J74
  rw [gr94_4 hS, Option.bind_some, if_pos (kd94 hS), a1, Option.bind_some, show (3 : Int32) = nI 3 from rfl, si98 hS _ _ (show 3 < 1075 by omega), Option.bind_some, if_pos (kd94 hS)]
  unfold gRead gFirst
  rw [if_pos t0, if_pos t1]
  cases g : tnu T 0 40 2 with
  | inl f =>
    have F := a3 f g
    obtain ⟨d3, b1, b2, b3⟩ := m_endsF hS (F.w 3 v)
    dsimp only
    rw [b1, Option.bind_some, m_linesF hS b3, Option.bind_some]
    obtain ⟨d', e1, e2⟩ := m_endF hS b3 (((x.trans a2).trans (mrf.w98 _ _ _)).trans b2)
    exact ⟨_, d', e1, fun f' ef => by rw [← Sum.inl.inj ef]; exact ⟨rfl, e2⟩, fun D eD => absurd eD (by simp)⟩
  | inr u =>
    obtain ⟨e1, G⟩ := a4 u g
    dsimp only
    rw [e1]
    have G2 : MLx T z B n c (sk_uI d1 98 3 u) 3 0 (((0, 0, u, 0), (fun _ _ => 0), fun _ => []), 0) [] := MLx.w G (k := 3) (by omega) (MD.room G.2.1 u)
    have LL : LM T z B n c d (some (sk_uI d1 98 3 u)) (.inr (3, (((0, 0, u, 0), (fun _ _ => 0), fun _ => []), 0))) := LM.good (W' := []) rfl rfl ((x.trans a2).trans (mrf.w98 _ _ _)) G2
    obtain ⟨d3, b1, b2, b3, b4⟩ := m_ends2 hS hT hN LL
    rw [Option.bind_some] at b1
    rw [b1, Option.bind_some]
    cases g2 : gEnd T (.inr (3, (((0, 0, u, 0), (fun _ _ => 0), fun _ => []), 0))) with
    | inl f =>
      have F := b3 f g2
      dsimp only
      rw [m_linesF hS F, Option.bind_some]
      obtain ⟨d', e1, e2⟩ := m_endF hS F b2
      exact ⟨_, d', e1, fun f' ef => by rw [← Sum.inl.inj ef]; exact ⟨rfl, e2⟩, fun D eD => absurd eD (by simp)⟩
    | inr y =>
      obtain ⟨W', G3⟩ := b4 y g2
      dsimp only
      obtain ⟨d4, c1, c2, c3, c4⟩ := m_lines2 hS hT hN 901 0 d3 y.1 y.2 W' (by omega) (by omega) G3
      rw [c1, Option.bind_some]
      cases g3 : gLines T 901 y.1 y.2 with
      | inl f =>
        obtain ⟨d', e1, e2⟩ := m_endF hS (c3 f g3) (b2.trans c2)
        exact ⟨_, d', e1, fun f' ef => by rw [← Sum.inl.inj ef]; exact ⟨rfl, e2⟩, fun D eD => absurd eD (by simp)⟩
      | inr D =>
        obtain ⟨z11, W2, m1, m2, m3⟩ := c4 D g3
        have xx := b2.trans c2
        obtain ⟨e, l1, l2, l3, l4⟩ := m_copy98 hS (sk_uI (sk_uI d4 94 13 0) 94 14 (-1))
        have k98 : (sk_uI (sk_uI d4 94 13 0) 94 14 (-1)).1 98 = d4.1 98 := by rw [uI_a _ _ _ 98 _ (by decide), uI_a _ _ _ 98 _ (by decide)]
        rw [k98] at l1 l4
        rw [gi94 hS, Option.bind_some, z11, pi94 hS, Option.bind_some, gi94 hS, Option.bind_some, uI_k _ _ _ _ _ (show 11 ≠ 13 by omega), z11, if_pos rfl]
        unfold fX11_life_J142
        rw [pi94 hS, Option.bind_some, gi94 hS, Option.bind_some, uI_k _ _ _ _ _ (show 11 ≠ 14 by omega), uI_k _ _ _ _ _ (show 11 ≠ 13 by omega), z11, if_pos rfl, l1, Option.bind_some]
        refine ⟨_, e, rfl, fun f' ef => absurd ef (by simp), fun D' eD => ?_⟩
        rw [← Sum.inr.inj eD]
        have low : ∀ k, k < 1075 → e.1 95 k = d4.1 98 k := fun k hk => by rw [l4, if_pos hk]
        refine ⟨m1.1.1, fun b h1 h2 h3 => ?_, by rw [l3]; exact xx.2.1, ?_, ?_, ?_, fun q hq => ?_, ?_, ?_, fun k h1 h2 h3 => ?_⟩
        · rw [l2 b h3, uI_a _ _ _ _ _ h1, uI_a _ _ _ _ _ h1]; exact xx.1 b h1 h2
        · rw [l2 94 (by omega), uI_k _ _ _ _ _ (by omega), uI_k _ _ _ _ _ (by omega)]; exact xx.2.2 5 (by omega) (by omega)
        · rw [l2 94 (by omega), uI_k _ _ _ _ _ (by omega), uI_s]
        · rw [l2 94 (by omega), uI_s]
        · rw [l4, if_neg (by omega), uI_a _ _ _ 95 _ (by decide), uI_a _ _ _ 95 _ (by decide), xx.1 95 (by omega) (by omega)]
        · have k := m1.mL m3 m2.2
          refine mL.low ?_ k low
          have hh := read_ok hT (E := D) (by unfold gRead gFirst; rw [if_pos t0, if_pos t1, g]; dsimp only; rw [g2]; exact g3)
          exact hh.1
        · rw [low 82 (by omega)]; exact m1.2.2.2.2.2.1
        · rw [low k (by omega)]; exact m1.2.2.2.2.2.2.1 k h1 h2 h3
end
theorem m_life {S : sk_S} {d : sk_D} {A : AS} (h : RM S d A) (hA : okA A) (p : Int32) : ∃ d', fX11_life S d 94 p = some ((x_life A p).1, d') ∧ RM S d' (x_life A p).2 ∧ Fr mdl d d' := by
  have hS := h.1.1
  have h0 := h.m0 0
  have h9 := hA.2.2.2.2.1
  have c5 : (sk_uI d 94 0 0).1 94 5 = nI (as_tp A).length := h0.2.2.1.1
  have ew := w_in (p := p) ((as_tp A).length + 1) (nI (as_tp A).length).toInt64 (by rw [Int32.toInt_toInt64, nI_toInt (by omega)]; omega)
  unfold fX11_life x_life
  rw [pi94 hS, Option.bind_some, gi94 hS, Option.bind_some, c5, f_within, Option.bind_some]
  by_cases q : inN ((as_tp A).length + 1) p
  · rw [decide_eq_true (ew.mpr q), if_pos rfl, if_pos q]
    obtain ⟨n, hn, rfl⟩ := inN_of q
    have hn9 : n ≤ 900 := by omega
    obtain ⟨z, hT⟩ := lxT_z (c := fun j => (as_tp A).getD j 0) (n := n) hn9
    rw [nI_clamp (by omega), pi94 hS, Option.bind_some, pi94 hS, Option.bind_some, pi94 hS, Option.bind_some, pi94 hS, Option.bind_some, gr94_4 hS, Option.bind_some]
    obtain ⟨d2, p1, p2, p3, p4⟩ := m_plain98 hS (sk_uI (sk_uI (sk_uI (sk_uI (sk_uI d 94 0 0) 94 8 (nI n)) 94 5 0) 94 7 0) 94 11 0)
    have a94 : ∀ k, d2.1 94 k = (sk_uI (sk_uI (sk_uI (sk_uI (sk_uI d 94 0 0) 94 8 (nI n)) 94 5 0) 94 7 0) 94 11 0).1 94 k := fun k => by rw [p2 94 (by omega)]
    have v8 : d2.1 94 8 = nI n := by rw [a94, uI_k _ _ _ _ _ (by omega), uI_k _ _ _ _ _ (by omega), uI_k _ _ _ _ _ (by omega), uI_s]
    have v5 : d2.1 94 5 = 0 := by rw [a94, uI_k _ _ _ _ _ (by omega), uI_k _ _ _ _ _ (by omega), uI_s]
    have v7 : d2.1 94 7 = nI 0 := by rw [a94, uI_k _ _ _ _ _ (by omega), uI_s]; rfl
    have v11 : d2.1 94 11 = 0 := by rw [a94, uI_s]
    have ob : ∀ b, b ≠ 94 → b ≠ 98 → d2.1 b = d.1 b := fun b h1 h2 => by rw [p2 b h2, uI_a _ _ _ _ _ h1, uI_a _ _ _ _ _ h1, uI_a _ _ _ _ _ h1, uI_a _ _ _ _ _ h1, uI_a _ _ _ _ _ h1]
    have tpe : TPE n (fun j => (as_tp A).getD j 0) d2 := ⟨v8, fun j hj => by rw [ob 97 (by omega) (by omega)]; exact h.2.2.1.2 j (by omega)⟩
    obtain ⟨d3, n1, n2, n3, n4, n5, n6⟩ := m_next2 hS hn9 tpe (Nat.zero_le n) v7
    have N := m_NXT (S := S) (c := fun j => (as_tp A).getD j 0) hS hn9 z
    have t3 := tpe.nf n2
    have G : MGd (lxT (fun j => (as_tp A).getD j 0) n) z (fun i => lxP (fun j => (as_tp A).getD j 0) n (i + 1)) n (fun j => (as_tp A).getD j 0) d3 0 := ⟨by rw [n2.2.2 11 (by omega) (by omega) (by omega) (by omega)]; exact v11, n3, n4, n5, Nat.zero_le _, hT.2.2.1, n6, t3.1, t3.2⟩
    have z98 : ∀ k, k < 1075 → d3.1 98 k = 0 := fun k hk => by rw [n2.1 98 (by omega)]; exact p4 k hk
    have M0 : MLx (lxT (fun j => (as_tp A).getD j 0) n) z (fun i => lxP (fun j => (as_tp A).getD j 0) n (i + 1)) n (fun j => (as_tp A).getD j 0) d3 0 0 dft0 [] := by
      refine ⟨G, ⟨⟨z98 0 (by omega), z98 1 (by omega), z98 2 (by omega), z98 3 (by omega)⟩, fun t j ht hj => absurd hj (Nat.not_lt_zero _), fun t j ht _ hj => z98 _ (by omega), fun j hj => absurd hj (Nat.not_lt_zero _), ⟨⟨z98 4 (by omega), fun a => absurd rfl a⟩, ⟨z98 5 (by omega), fun a => absurd rfl a⟩⟩, z98 82 (by omega), fun k _ hk _ => z98 k (by omega), by decide, by decide⟩, ⟨z98 174 (by omega), fun j hj => absurd hj (Nat.not_lt_zero _)⟩, by decide⟩
    have x3 : mrf d2 d3 := n2.l.1
    have fin : ∀ d' f, lfF d2 d' f → RM S d' (lfA A f) ∧ Fr mdl d d' := by
      intro d' f ⟨l1, l2, l3, l4, l5⟩
      have fj : d'.2 = d.2 := by rw [l2, p3]; rfl
      have fi : ∀ b, b ≠ 94 → b ≠ 98 → d'.1 b = d.1 b := fun b h1 h2 => by rw [l1 b h1 h2, ob b h1 h2]
      exact ⟨h.rd f fi fj (by rw [l3]; exact v5) l4 l5, fun b hb => by unfold mdl at hb; exact ⟨fi b (by omega) (by omega), by rw [fj]⟩⟩
    rw [p1, Option.bind_some, if_pos (kd94 hS), n1, Option.bind_some, if_pos (kd94 hS)]
    have ea := MLx.eats hS hT N M0 (a := 0) (r := 0) (by decide) (by decide)
    by_cases t0 : (lxT (fun j => (as_tp A).getD j 0) n).1 0 = 0
    · obtain ⟨d4, e1, e2, e3⟩ := ea.1 t0
      rw [e1, Option.bind_some, if_pos rfl, if_pos (kd94 hS)]
      have eb := MLx.eats hS hT N e2 (a := 1) (r := 1) (by decide) (by decide)
      by_cases t1 : (lxT (fun j => (as_tp A).getD j 0) n).1 1 = 1
      · obtain ⟨d5, f1, f2, f3⟩ := eb.1 t1
        rw [f1, Option.bind_some, if_pos rfl]
        obtain ⟨r, d6, g1, g2, g3⟩ := m_J74G hS hT N f2 ((x3.trans e3).trans f3) t0 t1
        rw [g1]
        cases g : gRead (lxT (fun j => (as_tp A).getD j 0) n) with
        | inl f =>
          obtain ⟨r1, r2⟩ := g2 f g
          obtain ⟨y1, y2⟩ := fin d6 f r2
          exact ⟨d6, by rw [r1], y1, y2⟩
        | inr D =>
          obtain ⟨r1, r2, r3, r4, r5, r6, r7, r8, r9, r10⟩ := g3 D g
          obtain ⟨o1, s, hs, es⟩ := read_ok hT g
          have fj : d6.2 = d.2 := by rw [r3, p3]; rfl
          have fi : ∀ b, b ≠ 94 → b ≠ 98 → b ≠ 95 → d6.1 b = d.1 b := fun b h1 h2 h3 => by rw [r2 b h1 h2 h3, ob b h1 h2]
          refine ⟨d6, by rw [r1], ⟨⟨hS, o1, r8⟩, ⟨⟨fun j hj => ?_, ?_⟩, ?_, fun i hi => absurd hi (by show ¬ i < ([] : List Int32).length; simp)⟩, ⟨by rw [r4, v5]; rfl, fun i hi => absurd hi (by show ¬ i < ([] : List Int32).length; simp)⟩, ⟨r5, r6⟩, ?_, ?_⟩, fun b hb => by unfold mdl at hb; exact ⟨fi b (by omega) (by omega) (by omega), by rw [fj]⟩⟩
          · show d6.1 95 (74 + j) = mood (D.2 <<< ((16 : Int32) &&& 31)) j
            rw [es, mood0 (slm s hs).2 j hj, r10 (74 + j) (by omega) (by omega) (by omega)]
          · show d6.1 95 82 = sp (D.2 <<< ((16 : Int32) &&& 31))
            rw [r9, es, (slm s hs).1]
          · show d6.1 95 83 = nI 0
            rw [r10 83 (by omega) (by omega) (by omega)]; rfl
          · intro t h4
            show mTr d6 t (as_tr A t)
            have := h.2.2.2.2.1 t h4
            unfold mTr at this ⊢
            rw [fi 113 (by omega) (by omega) (by omega), fi 114 (by omega) (by omega) (by omega), fj]
            exact this
          · intro k hk
            show mIm d6 k (as_im A k)
            have := h.2.2.2.2.2 k hk
            unfold mIm at this ⊢
            have g : ∀ w, d6.1 95 (1075 * (k + 1) + w) = d.1 95 (1075 * (k + 1) + w) := fun w => by rw [r7 _ (by omega), ob 95 (by omega) (by omega)]
            have g2 : ∀ w, d6.1 95 (1075 * (k + 1) + 74 + w) = d.1 95 (1075 * (k + 1) + 74 + w) := fun w => by rw [Nat.add_assoc]; exact g _
            rw [show (fun w => d6.1 95 (1075 * (k + 1) + w)) = (fun w => d.1 95 (1075 * (k + 1) + w)) from funext g, show (fun w => d6.1 95 (1075 * (k + 1) + 74 + w)) = (fun w => d.1 95 (1075 * (k + 1) + 74 + w)) from funext g2, fi 96 (by omega) (by omega) (by omega)]
            exact this
      · rw [eb.2 t1, Option.bind_some, if_neg (show ¬ (false, d4).1 = true from Bool.false_ne_true)]
        obtain ⟨d', y1, y2⟩ := m_J69F hS e2.1 (x3.trans e3)
        rw [y1, show gRead (lxT (fun j => (as_tp A).getD j 0) n) = .inl (tfl (lxT (fun j => (as_tp A).getD j 0) n) 1 2) by unfold gRead gFirst; rw [if_pos t0, if_neg t1]]
        exact ⟨d', rfl, fin d' _ y2⟩
    · rw [ea.2 t0, Option.bind_some, if_neg (show ¬ (false, d3).1 = true from Bool.false_ne_true)]
      obtain ⟨d', y1, y2⟩ := m_J69F hS G x3
      rw [y1, show gRead (lxT (fun j => (as_tp A).getD j 0) n) = .inl (tfl (lxT (fun j => (as_tp A).getD j 0) n) 0 2) by unfold gRead gFirst; rw [if_neg t0]]
      exact ⟨d', rfl, fin d' _ y2⟩
  · rw [decide_eq_false (fun a => q (ew.mp a)), if_neg (by decide), if_neg q]
    exact ⟨_, rfl, h0, (mfr0 d 0).2.2.2.2⟩
