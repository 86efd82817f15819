/-! the class's walk: cells, places, forgetting -/
theorem pow48 : ∀ e, e ≤ 8 → 1 ≤ 4 ^ e ∧ 4 ^ e ≤ 65536 := by decide
theorem WS.len {S : sk_S} {q c w m len : Nat} (h : WS S q c w m len) : 1 ≤ len ∧ len ≤ 65536 := by
  obtain ⟨e, he, rfl⟩ := h.2.2.2.2.2.2.2.2.2.2.2.2.2.2.1
  exact pow48 e he
theorem wAd.pos {S : sk_S} {a : Nat} (h : wAd S a) : a ≠ 0 := by unfold wAd at h; omega
theorem ws_q {S : sk_S} {q c w m len : Nat} (hS : Sh S) (h : WS S q c w m len) : sk_gR S 40 7 3 = some q ∧ sk_gR S 40 7 4 = some c ∧ sk_gR S 40 7 5 = some w ∧ sk_gR S 40 7 6 = some m := by
  obtain ⟨h3, h4, h5, h6, -, -, -, -, a1, a2, a3, a4, -⟩ := h
  refine ⟨?_, ?_, ?_, ?_⟩
  · unfold sk_gR; rw [h3, if_pos ⟨kd40 hS, a1.pos⟩]
  · unfold sk_gR; rw [h4, if_pos ⟨kd40 hS, a2.pos⟩]
  · unfold sk_gR; rw [h5, if_pos ⟨kd40 hS, a3.pos⟩]
  · unfold sk_gR; rw [h6, if_pos ⟨kd40 hS, a4.pos⟩]
theorem kl_al {S : sk_S} {a t len : Nat} (h : S.2.1 a = (t, len)) : sk_al S a t = some (nI len) := by unfold sk_al; rw [h]; rw [if_pos rfl]; rfl
theorem kl_lI {S : sk_S} {a t len : Nat} (h : S.2.1 a = (t, len)) (hl : len ≤ 65536) (d : sk_D) {i : Nat} (hi : i < len) : sk_lI S d a t (nI i) = some (d.1 a i) := by
  unfold sk_lI; rw [h, if_pos ⟨rfl, nI_in hi (by omega)⟩, nI_clamp (by omega)]
theorem kl_sI {S : sk_S} {a t len : Nat} (h : S.2.1 a = (t, len)) (hl : len ≤ 65536) (d : sk_D) (v : Int32) {i : Nat} (hi : i < len) : sk_sI S d a t (nI i) v = some (sk_uI d a i v) := by
  unfold sk_sI; rw [h, if_pos ⟨rfl, nI_in hi (by omega)⟩, nI_clamp (by omega)]
theorem kl_lJ {S : sk_S} {a len : Nat} (h : S.2.1 a = (21, len)) (hl : len ≤ 65536) (d : sk_D) {i : Nat} (hi : i < len) : sk_lJ S d a (nI i) = some (d.2 a i) := by
  unfold sk_lJ; rw [h, if_pos ⟨rfl, nI_in hi (by omega)⟩, nI_clamp (by omega)]
theorem kl_sJ {S : sk_S} {a len : Nat} (h : S.2.1 a = (21, len)) (hl : len ≤ 65536) (d : sk_D) (v : Int64) {i : Nat} (hi : i < len) : sk_sJ S d a (nI i) v = some (sk_uJ d a i v) := by
  unfold sk_sJ; rw [h, if_pos ⟨rfl, nI_in hi (by omega)⟩, nI_clamp (by omega)]
/-- the walk's cells and what it may change -/
def wkc (S : sk_S) (b : Nat) : Prop := (40 ≤ b ∧ b ≤ 44) ∨ 115 < b
theorem WS.ad {S : sk_S} {q c w m len : Nat} (h : WS S q c w m len) : wkc S q ∧ wkc S c ∧ wkc S w ∧ wkc S m ∧ q ≠ 40 ∧ c ≠ 40 ∧ w ≠ 40 ∧ m ≠ 40 ∧ q ≠ c ∧ w ≠ m := by
  obtain ⟨-, -, -, -, -, -, -, -, a1, a2, a3, a4, n1, n2, -⟩ := h
  unfold wAd at a1 a2 a3 a4
  unfold wkc
  omega
theorem c_spot {S : sk_S} {d : sk_D} {L : LF} {q c w m len : Nat} (hS : Sh S) (hk : okL L) (hw : WS S q c w m len) (hn : d.1 40 2 = nI (lf_n L)) (hl : 4 ^ lf_n L ≤ len) {s : Int32} (hz : zM L s) : fX8_spot S d 40 s = some (spt (lf_n L) s) := by
  obtain ⟨k, hk1, ek⟩ := spt_nI hk hz
  have h4 := pow4 hk
  have hl2 := hw.len
  unfold fX8_spot
  rw [f_dn, Option.bind_some, f_ln, Option.bind_some, gi40 hS, Option.bind_some, (ws_q hS hw).2.1, Option.bind_some, kl_al hw.2.2.2.2.2.1, Option.bind_some, hn]
  show (if nI len ≤ spt (lf_n L) s then some (0 : Int32) else some (spt (lf_n L) s)) = _
  rw [ek, if_neg (nI_ge (by omega) (by omega))]
theorem nds_len4 {L : LF} (hk : okL L) {Q : List TQ} (b1 : allS L Q) (b2 : nds Q) : Q.length ≤ 4 ^ lf_n L := by
  have h4 := pow4 hk
  refine fb_holes (4 ^ lf_n L) Q.length (fun i => (spt (lf_n L) (Q.getD i (0, 0, 0)).1).toNatClampNeg) ?_ ?_
  · intro i hi
    have e : Q.getD i (0, 0, 0) = Q[i] := by rw [List.getD_eq_getElem?_getD, List.getElem?_eq_getElem hi]; rfl
    obtain ⟨k, hk1, ek⟩ := spt_nI hk (b1 Q[i] (List.getElem_mem _)).1.z
    show (spt (lf_n L) (Q.getD i (0, 0, 0)).1).toNatClampNeg < 4 ^ lf_n L
    rw [e, ek, nI_clamp (by omega)]
    omega
  · intro i j hij hj he
    have e1 : Q.getD i (0, 0, 0) = Q[i] := by rw [List.getD_eq_getElem?_getD, List.getElem?_eq_getElem (by omega)]; rfl
    have e2 : Q.getD j (0, 0, 0) = Q[j] := by rw [List.getD_eq_getElem?_getD, List.getElem?_eq_getElem hj]; rfl
    have he2 : (spt (lf_n L) (Q.getD i (0, 0, 0)).1).toNatClampNeg = (spt (lf_n L) (Q.getD j (0, 0, 0)).1).toNatClampNeg := he
    rw [e1, e2] at he2
    have := b2 i j _ _ (List.getElem?_eq_getElem (by omega)) (List.getElem?_eq_getElem hj) (spt_injN hk (b1 _ (List.getElem_mem _)) (b1 _ (List.getElem_mem _)) he2)
    omega
theorem c_forget {S : sk_S} {d : sk_D} {L : LF} {q c w m len : Nat} (hS : Sh S) (hk : okL L) (hw : WS S q c w m len) (h : wkE d c len ∨ ∃ f, wkF d L f q c len) :
    ∃ d', fX8_forget S d 40 = some d' ∧ wkE d' c len ∧ Fr (wkc S) d d' := by
  obtain ⟨hq, hc, -, -⟩ := ws_q hS hw
  obtain ⟨wq, wc, ww, wm, n1, n2, n3, n4, n5, n6⟩ := hw.ad
  have hl2 := hw.len
  have kq := hw.2.2.2.2.1
  have kc := hw.2.2.2.2.2.1
  have w40 : wkc S 40 := Or.inl (by omega)
  unfold fX8_forget
  rcases h with ⟨h0, h1, hz⟩ | ⟨f, h1, hf, h16, h2, h4, h0, hQ, hX⟩
  · have e : sk_itr (fX8_forget_L2 S 40) ((0 : Int32), d) = some (sk_uI (sk_uI d 40 0 0) 40 1 (-1)) := by
      apply sk_itr_exit
      unfold fX8_forget_L2
      simp (disch := omega) only [Option.bind_some, ↓reduceIte, kd40 hS, gi40 hS, pi40 hS, h0, Int32.le_refl]
    rw [e]
    refine ⟨_, rfl, ⟨?_, uI_s _ _ _ _, ?_⟩, Fr.tI (Fr.tI (Fr.refl _ _) w40) w40⟩
    · rw [uI_k _ _ _ _ _ (by decide), uI_s]
    · intro i hi
      rw [uI_a _ _ _ _ _ n2, uI_a _ _ _ _ _ n2]
      exact hz i hi
  · obtain ⟨b1, b2, b3⟩ := bq_ok hk ⟨hf, h16⟩
    generalize bq L f = Q at h0 hQ hX b1 b2 b3
    have hlen : Q.length ≤ len := Nat.le_trans (nds_len4 hk b1 b2) h4
    have loop := it_for (body := fX8_forget_L2 S 40) (fun k s => s.1 = nI k ∧ Fr (fun b => b = c) d s.2 ∧ ∀ i, i < len → s.2.1 c i ≠ 0 → ∃ j x, k ≤ j ∧ Q[j]? = some x ∧ (spt (lf_n L) x.1).toNatClampNeg = i) Q.length
      (fun e => wkE e c len ∧ Fr (wkc S) d e) ?_ ?_ (s := ((0 : Int32), d)) ⟨rfl, Fr.refl _ _, fun i hi hne => ?_⟩
    · obtain ⟨e, he, e1, e2⟩ := loop
      exact ⟨e, by rw [he]; rfl, e1, e2⟩
    · intro k s hkk ⟨i1, i2, i3⟩
      left
      have e40 : s.2.1 40 = d.1 40 := i2.i (by omega)
      have eq : s.2.1 q = d.1 q := i2.i (by omega)
      obtain ⟨x, hx⟩ : ∃ x, Q[k]? = some x := ⟨_, List.getElem?_eq_getElem hkk⟩
      have okx := b1 x (List.mem_of_getElem? hx)
      have qx : d.1 q k = x.1 := (hQ k x hx).1
      obtain ⟨z, hz1, ez⟩ := spt_nI hk okx.1.z
      have sp := c_spot (d := s.2) hS hk hw (by rw [e40]; exact h2) h4 okx.1.z
      have c1 : ¬ Q.length ≤ k := by omega
      have c2 : ¬ len ≤ k := by omega
      unfold fX8_forget_L2
      rw [i1]
      simp (disch := omega) only [Option.bind_some, ↓reduceIte, nI_leI, nI_ltI, nI_eq, nI_1, kd40 hS, gi40 hS, pi40 hS, e40, h0, c1, hq, kl_al kq, c2, hc, kl_lI kq hl2.2, eq, qx, sp, ez, kl_sI kc hl2.2]
      refine ⟨_, rfl, rfl, i2.tI rfl, ?_⟩
      intro i hi hne
      by_cases ci : i = z
      · subst ci; rw [uI_s] at hne; exact absurd rfl hne
      · rw [uI_k _ _ _ _ _ ci] at hne
        obtain ⟨j, y, hj, hy, ey⟩ := i3 i hi hne
        refine ⟨j, y, ?_, hy, ey⟩
        rcases Nat.lt_or_ge k j with cj | cj
        · omega
        · have : j = k := by omega
          subst this
          rw [hx] at hy
          cases hy
          rw [ez, nI_clamp (by omega)] at ey
          omega
    · intro s ⟨i1, i2, i3⟩
      have e40 : s.2.1 40 = d.1 40 := i2.i (by omega)
      unfold fX8_forget_L2
      rw [i1]
      simp (disch := omega) only [Option.bind_some, ↓reduceIte, nI_leI, nI_ltI, nI_eq, nI_1, kd40 hS, gi40 hS, pi40 hS, e40, h0, Nat.le_refl]
      refine ⟨_, rfl, ⟨?_, uI_s _ _ _ _, ?_⟩, ((i2.mono (fun b hb => by rw [hb]; exact wc)).tI w40).tI w40⟩
      · rw [uI_k _ _ _ _ _ (by decide), uI_s]
      · intro i hi
        rw [uI_a _ _ _ _ _ n2, uI_a _ _ _ _ _ n2]
        by_cases z : s.2.1 c i = 0
        · exact z
        · obtain ⟨j, y, hj, hy, ey⟩ := i3 i hi z
          rw [List.getElem?_eq_none (by omega)] at hy
          cases hy
    · obtain ⟨x, hx, ex⟩ := hX i hi hne
      obtain ⟨j, hj, hj2⟩ := List.mem_iff_getElem.mp hx
      exact ⟨j, x, by omega, by rw [List.getElem?_eq_getElem hj, hj2], ex⟩
