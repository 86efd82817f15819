/-! rows, by the class -/
theorem CI.wP {S : sk_S} {d e : sk_D} {L : LF} {q c w m len : Nat} (h : CI S d L) (hw : WS S q c w m len) (f : Fr (fun b => b = w ∨ b = m) d e) : CI S e L := by
  obtain ⟨-, -, a3, a4, -⟩ := hw.ad
  exact h.wk (f.mono (fun b hb => by rcases hb with rfl | rfl; exact a3; exact a4))
section
variable {S : sk_S} {d : sk_D} {L : LF} {f : Int32} {q c w m len : Nat} {Q : List TQ} {K : Nat → Nat}
def adk (L : LF) (Q : List TQ) (k x j : Nat) : Nat := sN (fun mv => if (gq Q j).1 = mvt L (gq Q k).1 mv then x else 0) 16
theorem mvt_ex (hB : BI L f Q (16 * Q.length) K) {k mv : Nat} (hk : k < Q.length) (hm : mv < 16) : ¬ mvt L (gq Q k).1 mv < 0 → ∃ j0, j0 < Q.length ∧ (gq Q j0).1 = mvt L (gq Q k).1 mv := fun h => by
  obtain ⟨j, e⟩ := edg_ex hB hk hm h
  exact ⟨j, e.2.2.1, e.2.2.2.2⟩
theorem c_onL (h : WkH S d L q c w m len Q) (hF : (S.2.1 w).2 = len) (hci : CI S d L) (hB : BI L f Q (16 * Q.length) K) {k : Nat} (hk : k < Q.length) {g : Nat → Nat} (hv : wv d L Q m g) {x : Nat} (hx : x ≤ 4294967296) :
    ∃ d', sk_itr (fX8_goOneOn_L79 S 40 2 (nI k) (lN x)) ((0 : Int32), d) = some d' ∧ Fr (fun b => scr b ∨ b = m) d d' ∧ CI S d' L ∧ wv d' L Q m (fun j => g j + adk L Q k x j) := by
  have hS := h.1
  have hkL := h.2.1
  have hn := hkL.1
  have hw := h.2.2.1
  have hl := hw.len
  have hQl := h.2.2.2.2.2.2.2.2.2.2
  have hs := h.2.2.2.2.2.2.2.1
  obtain ⟨-, -, -, -, -, -, kw, kmm⟩ := hw.kn
  have fP : ∀ {e e' : sk_D}, Fr (fun b => scr b ∨ b = m) e e' → Fr (wP w m) e e' := fun f => f.mono (fun b hb => by rcases hb with hb | hb; exact Or.inl hb; exact Or.inr (Or.inr hb))
  by_cases x0 : x = 0
  · refine ⟨d, ?_, Fr.refl _ _, hci, fun j hj => ?_⟩
    · apply sk_itr_exit
      unfold fX8_goOneOn_L79
      rw [gi40 hS, Option.bind_some]
      dsimp only
      by_cases c0 : d.1 40 2 ≤ 0
      · rw [if_pos c0]
      · rw [if_neg c0, if_pos (by rw [x0]; rfl)]
    · dsimp only
      have : adk L Q k x j = 0 := by
        unfold adk
        rw [x0, sN_cong (g := fun _ => 0) (fun k _ => by split <;> rfl), sN_zero]
      rw [this, Nat.add_zero]
      exact hv j hj
  · have xn : ¬ lN x = 0 := fun a => x0 ((lN_0 (by omega)).mp a)
    have loop := it_for (body := fX8_goOneOn_L79 S 40 2 (nI k) (lN x)) (fun e s => s.1 = nI e ∧ Fr (fun b => scr b ∨ b = m) d s.2 ∧ CI S s.2 L ∧ wv s.2 L Q m (fun j => g j + sN (fun e => (if (gq Q j).1 = mvt L (gq Q k).1 e then x else 0) + (if (gq Q j).1 = mvt L (gq Q k).1 (8 + e) then x else 0)) e)) (lf_n L)
      (fun e => Fr (fun b => scr b ∨ b = m) d e ∧ CI S e L ∧ wv e L Q m (fun j => g j + adk L Q k x j)) ?_ ?_ (s := ((0 : Int32), d)) ⟨rfl, Fr.refl _ _, hci, hv⟩
    · exact loop
    · intro e s he ⟨i1, i2, i3, i4⟩
      left
      have h1 := h.fr (fP i2)
      have kq := hw.2.2.2.2.1
      obtain ⟨gr3, -, -, -⟩ := ws_q hS hw
      have q1 := (h1.2.2.2.2.2.2.1 k _ (gq_some hk)).1
      have em1 : mvt L (gq Q k).1 e = tdo L (gq Q k).1 e := by unfold mvt; rw [if_pos (by omega)]
      have em2 : mvt L (gq Q k).1 (8 + e) = tdr L (gq Q k).1 e := by unfold mvt; rw [if_neg (by omega), Nat.add_sub_cancel_left]
      obtain ⟨d1, a1, a2, a3⟩ := c_tdo i3 (gq Q k).1 (j := e) (by omega)
      have h2 := h1.fr (w := w) (m := m) (a3.mono (fun b hb => Or.inl hb))
      have v2 : wv d1 L Q m _ := fun j hj => by rw [a3.j kmm]; exact i4 j hj
      obtain ⟨d2, b1, b2, b3, b4⟩ := c_addW h2 hF (t := tdo L (gq Q k).1 e) (by rw [← em1]; exact mvt_ex hB hk (by omega)) v2 x
      have h3 := h2.fr (w := w) (m := m) (b2.mono (fun b hb => Or.inr (Or.inr hb)))
      have ci2 := a2.wP hw (b2.mono (fun b hb => Or.inr hb))
      have q3 := (h3.2.2.2.2.2.2.1 k _ (gq_some hk)).1
      obtain ⟨d3, c1, c2, c3, c4⟩ := c_addW h3 hF (t := tdr L (gq Q k).1 e) (by rw [← em2]; exact mvt_ex hB hk (by omega)) b4 x
      unfold fX8_goOneOn_L79
      rw [i1, gi40 hS, Option.bind_some, h1.2.2.2.1, if_neg (nI_ge he (by omega)), if_neg xn, gr3, Option.bind_some, kl_lI kq hl.2 _ (show k < len by omega), Option.bind_some, q1, if_pos (kd2 hS), a1, Option.bind_some, if_pos (kd40 hS), b1, Option.bind_some, Option.bind_some, kl_lI kq hl.2 _ (show k < len by omega), Option.bind_some, q3, if_pos (kd2 hS), c_tdr ci2 _ (by omega), Option.bind_some, if_pos (kd40 hS), c1, Option.bind_some, nI_1]
      refine ⟨_, rfl, rfl, ((i2.trans (a3.mono (fun b hb => Or.inl hb))).trans (b2.mono (fun b hb => Or.inr hb))).trans (c2.mono (fun b hb => Or.inr hb)), ci2.wP hw (c2.mono (fun b hb => Or.inr hb)), fun j hj => ?_⟩
      have := c4 j hj
      dsimp only at this ⊢
      rw [this, sN, em1, em2]
      congr 1
      omega
    · intro s ⟨i1, i2, i3, i4⟩
      have h1 := h.fr (fP i2)
      unfold fX8_goOneOn_L79
      rw [i1, gi40 hS, Option.bind_some, h1.2.2.2.1, if_pos (nI_le (Nat.le_refl _) (by omega))]
      refine ⟨_, rfl, i2, i3, fun j hj => ?_⟩
      have := i4 j hj
      dsimp only at this ⊢
      rw [this]
      unfold adk
      rw [sN_16 (fun mv => if (gq Q j).1 = mvt L (gq Q k).1 mv then x else 0) hn (fun e h1 h2 => by
        obtain ⟨m1, m2⟩ := mvt_big L (gq Q k).1 h1 h2
        exact ⟨if_neg (fun a => (hs.q hj).nn (by rw [a]; exact m1)), if_neg (fun a => (hs.q hj).nn (by rw [a]; exact m2))⟩)]
theorem c_zeroM (h : WkH S d L q c w m len Q) (hF : (S.2.1 w).2 = len) : ∃ d', sk_itr (fX8_goOneOn_L2 S 40) ((0 : Int32), d) = some d' ∧ Fr (fun b => b = m) d d' ∧ wv d' L Q m (fun _ => 0) := by
  have hS := h.1
  have hw := h.2.2.1
  have hl := hw.len
  have hQl := h.2.2.2.2.2.2.2.2.2.2
  have hkL := h.2.1
  have hs := h.2.2.2.2.2.2.2.1
  have kq := hw.2.2.2.2.1
  have km := (hw.kw hF).2
  obtain ⟨gr3, -, -, gr6⟩ := ws_q hS hw
  have loop := it_for (body := fX8_goOneOn_L2 S 40) (fun k s => s.1 = nI k ∧ Fr (fun b => b = m) d s.2 ∧ ∀ j, j < k → s.2.2 m (spj L Q j) = lN 0) Q.length (fun e => Fr (fun b => b = m) d e ∧ wv e L Q m (fun _ => 0)) ?_ ?_ (s := ((0 : Int32), d)) ⟨rfl, Fr.refl _ _, fun j hj => by omega⟩
  · exact loop
  · intro k s hk ⟨i1, i2, i3⟩
    left
    have h1 := h.fr (w := w) (m := m) (i2.mono (fun b hb => Or.inr (Or.inr hb)))
    obtain ⟨s1, s2⟩ := h1.spot hk
    have q1 := (h1.2.2.2.2.2.2.1 k _ (gq_some hk)).1
    unfold fX8_goOneOn_L2
    rw [i1, gi40 hS, Option.bind_some, h1.2.2.2.2.2.1, if_neg (nI_ge hk (by omega)), gr3, Option.bind_some, kl_al kq, Option.bind_some, if_neg (nI_ge (show k < len by omega) (by omega)), gr6, Option.bind_some, Option.bind_some, kl_lI kq hl.2 _ (show k < len by omega), Option.bind_some, q1, if_pos (kd40 hS), s1, Option.bind_some, kl_sJ km hl.2 _ _ s2, Option.bind_some, nI_1]
    refine ⟨_, rfl, rfl, i2.trans (Fr.uJ _ rfl), fun j hj => ?_⟩
    by_cases e : spj L Q j = spj L Q k
    · rw [e, uJ_s]; rfl
    · rw [uJ_k _ _ _ _ _ e]
      exact i3 j (by
        rcases Nat.lt_or_ge j k with w | w
        · exact w
        · exact absurd (by rw [show j = k by omega]) e)
  · intro s ⟨i1, i2, i3⟩
    have h1 := h.fr (w := w) (m := m) (i2.mono (fun b hb => Or.inr (Or.inr hb)))
    unfold fX8_goOneOn_L2
    rw [i1, gi40 hS, Option.bind_some, h1.2.2.2.2.2.1, if_pos (nI_le (Nat.le_refl _) (by omega))]
    exact ⟨_, rfl, i2, i3⟩
theorem WS.swap (h : WS S q c w m len) : WS (sk_uR (sk_uR S 40 5 m) 40 6 w) q c m w len := by
  obtain ⟨h1, h2, h3, h4, h5, h6, h7, h8, h9, h10, h11, h12, h13, h14, h15, h16, h17, h18, h19⟩ := h
  have em : (S.2.1 m).2 = (S.2.1 w).2 := by rw [h8]
  refine ⟨?_, ?_, ?_, ?_, h5, h6, ?_, ?_, h9, h10, h12, h11, h13, fun a => h14 a.symm, h15, h16, ?_, ?_, ?_⟩
  · simp [sk_uR]; exact h1
  · simp [sk_uR]; exact h2
  · simp [sk_uR]
  · simp [sk_uR]
  · show S.2.1 m = (21, (S.2.1 m).2)
    rw [em]; exact h8
  · show S.2.1 w = (21, (S.2.1 m).2)
    rw [em]; exact h7
  · show S.1.1 ≤ 115 + 2 * len + 2 * (S.2.1 m).2
    rw [em]; exact h17
  · show S.1.2 ≤ 2000000 + 3 * len + 3 * (S.2.1 m).2
    rw [em]; exact h18
  · show (S.2.1 m).2 = len ∨ 4 * (S.2.1 m).2 ≤ len
    rw [em]; exact h19
theorem c_goOneOn (h : WkH S d L q c w m len Q) (hF : (S.2.1 w).2 = len) (hci : CI S d L) (hB : BI L f Q (16 * Q.length) K) {i : Nat} (hi : i ≤ 8) (hv : wv d L Q w (cnt L Q i)) :
    ∃ S' d', fX8_goOneOn S d 40 2 = some (S', d') ∧ WkH S' d' L q c m w len Q ∧ (S'.2.1 m).2 = len ∧ CI S' d' L ∧ wv d' L Q m (cnt L Q (i + 1)) ∧ Fr (wP w m) d d' := by
  have hS := h.1
  have hw := h.2.2.1
  have hl := hw.len
  have hQl := h.2.2.2.2.2.2.2.2.2.2
  have kq := hw.2.2.2.2.1
  have kw := (hw.kw hF).1
  have wm := hw.2.2.2.2.2.2.2.2.2.2.2.2.2.1
  have hnd := h.2.2.2.2.2.2.2.2.1
  obtain ⟨-, -, -, -, -, -, kws, kmm⟩ := hw.kn
  obtain ⟨gr3, -, gr5, gr6⟩ := ws_q hS hw
  obtain ⟨d1, a1, a2, a3⟩ := c_zeroM h hF
  have fP : ∀ {e e' : sk_D}, Fr (fun b => scr b ∨ b = m) e e' → Fr (wP w m) e e' := fun f => f.mono (fun b hb => by rcases hb with hb | hb; exact Or.inl hb; exact Or.inr (Or.inr hb))
  have f0 : Fr (fun b => scr b ∨ b = m) d d1 := a2.mono (fun b hb => Or.inr hb)
  have loop := it_for (body := fX8_goOneOn_L43 S 40 2) (fun k s => s.1 = nI k ∧ Fr (fun b => scr b ∨ b = m) d s.2 ∧ CI S s.2 L ∧ wv s.2 L Q m (fun j => sN (fun k => sN (fun mv => if (gq Q j).1 = mvt L (gq Q k).1 mv then cnt L Q i k else 0) 16) k)) Q.length
    (fun e => Fr (fun b => scr b ∨ b = m) d e ∧ CI S e L ∧ wv e L Q m (cnt L Q (i + 1))) ?_ ?_ (s := ((0 : Int32), d1)) ⟨rfl, f0, hci.wP hw (a2.mono (fun b hb => Or.inr hb)), a3⟩
  · obtain ⟨d2, b1, b2, b3, b4⟩ := loop
    have wa : m ≠ 0 := hw.2.2.2.2.2.2.2.2.2.2.2.1.pos
    have wb : w ≠ 0 := hw.2.2.2.2.2.2.2.2.2.2.1.pos
    have p1 : sk_pR S 40 7 5 m = some (sk_uR S 40 5 m) := if_pos ⟨kd40 hS, wa⟩
    have p2 : sk_pR (sk_uR S 40 5 m) 40 7 6 w = some (sk_uR (sk_uR S 40 5 m) 40 6 w) := if_pos ⟨kd40 (hS.r40 _ _), wb⟩
    refine ⟨sk_uR (sk_uR S 40 5 m) 40 6 w, d2, ?_, ?_, (show (S.2.1 m).2 = (S.2.1 w).2 by rw [hw.2.2.2.2.2.2.2.1]).trans hF, b3.sh ((hS.r40 _ _).r40 _ _), b4, fP b2⟩
    · unfold fX8_goOneOn
      rw [a1, Option.bind_some, b1, Option.bind_some, gr5, Option.bind_some, gr6, Option.bind_some, p1, Option.bind_some, p2, Option.bind_some]
    · obtain ⟨x1, x2, x3, x4⟩ := h.fr (fP b2)
      exact ⟨(hS.r40 _ _).r40 _ _, x2, x3.swap, x4⟩
  · intro k s hk ⟨i1, i2, i3, i4⟩
    left
    have h1 := h.fr (fP i2)
    obtain ⟨s1, s2⟩ := h1.spot hk
    have q1 := (h1.2.2.2.2.2.2.1 k _ (gq_some hk)).1
    have vw : s.2.2 w (spj L Q k) = lN (cnt L Q i k) := by
      rw [i2.j (b := w) (fun a => by rcases a with a | a; exact kws a; exact wm a)]; exact hv k hk
    obtain ⟨d3, c1, c2, c3, c4⟩ := c_onL h1 hF i3 hB hk i4 (x := cnt L Q i k) (cnt_lt hnd hi hk)
    unfold fX8_goOneOn_L43
    rw [i1, gi40 hS, Option.bind_some, h1.2.2.2.2.2.1, if_neg (nI_ge hk (by omega)), gr3, Option.bind_some, kl_al kq, Option.bind_some, if_neg (nI_ge (show k < len by omega) (by omega)), gr5, Option.bind_some, Option.bind_some, kl_lI kq hl.2 _ (show k < len by omega), Option.bind_some, q1, if_pos (kd40 hS), s1, Option.bind_some, kl_lJ kw hl.2 _ s2, Option.bind_some, vw, c1, Option.bind_some, nI_1]
    exact ⟨_, rfl, rfl, i2.trans c2, c3, c4⟩
  · intro s ⟨i1, i2, i3, i4⟩
    have h1 := h.fr (fP i2)
    unfold fX8_goOneOn_L43
    rw [i1, gi40 hS, Option.bind_some, h1.2.2.2.2.2.1, if_pos (nI_le (Nat.le_refl _) (by omega))]
    exact ⟨_, rfl, i2, i3, i4⟩
theorem c_zeroW (h : WkH S d L q c w m len Q) (hF : (S.2.1 w).2 = len) : ∃ d', sk_itr (fX8_rowsTo_L13 40 S) ((0 : Int32), d) = some d' ∧ Fr (fun b => b = w) d d' ∧ wv d' L Q w (fun _ => 0) := by
  have hS := h.1
  have hw := h.2.2.1
  have hl := hw.len
  have hQl := h.2.2.2.2.2.2.2.2.2.2
  have kq := hw.2.2.2.2.1
  have kw := (hw.kw hF).1
  obtain ⟨gr3, -, gr5, -⟩ := ws_q hS hw
  have loop := it_for (body := fX8_rowsTo_L13 40 S) (fun k s => s.1 = nI k ∧ Fr (fun b => b = w) d s.2 ∧ ∀ j, j < k → s.2.2 w (spj L Q j) = lN 0) Q.length (fun e => Fr (fun b => b = w) d e ∧ wv e L Q w (fun _ => 0)) ?_ ?_ (s := ((0 : Int32), d)) ⟨rfl, Fr.refl _ _, fun j hj => by omega⟩
  · exact loop
  · intro k s hk ⟨i1, i2, i3⟩
    left
    have h1 := h.fr (w := w) (m := m) (i2.mono (fun b hb => Or.inr (Or.inl hb)))
    obtain ⟨s1, s2⟩ := h1.spot hk
    have q1 := (h1.2.2.2.2.2.2.1 k _ (gq_some hk)).1
    unfold fX8_rowsTo_L13
    rw [i1, gi40 hS, Option.bind_some, h1.2.2.2.2.2.1, if_neg (nI_ge hk (by omega)), gr3, Option.bind_some, kl_al kq, Option.bind_some, if_neg (nI_ge (show k < len by omega) (by omega)), gr5, Option.bind_some, Option.bind_some, kl_lI kq hl.2 _ (show k < len by omega), Option.bind_some, q1, if_pos (kd40 hS), s1, Option.bind_some, kl_sJ kw hl.2 _ _ s2, Option.bind_some, nI_1]
    refine ⟨_, rfl, rfl, i2.trans (Fr.uJ _ rfl), fun j hj => ?_⟩
    by_cases e : spj L Q j = spj L Q k
    · rw [e, uJ_s]; rfl
    · rw [uJ_k _ _ _ _ _ e]
      exact i3 j (by
        rcases Nat.lt_or_ge j k with w | w
        · exact w
        · exact absurd (by rw [show j = k by omega]) e)
  · intro s ⟨i1, i2, i3⟩
    have h1 := h.fr (w := w) (m := m) (i2.mono (fun b hb => Or.inr (Or.inl hb)))
    unfold fX8_rowsTo_L13
    rw [i1, gi40 hS, Option.bind_some, h1.2.2.2.2.2.1, if_pos (nI_le (Nat.le_refl _) (by omega))]
    exact ⟨_, rfl, i2, i3⟩
end
noncomputable def rsm (L : LF) (Q : List TQ) (set : Int32) (n : Nat) : Nat → Nat := sN (fun k => if (set &&& (sw (gq Q k).1 ^^^ (-1))) = 0 then cnt L Q n k else 0)
noncomputable def x_rows (A : AS) (set n : Int32) : Int64 := @ite _ (hAl (as_L A) set ∧ inN 9 n) (Classical.propDecidable _) (lN (rsm (as_L A) (bq (as_L A) (st16 (as_m A))) set n.toNatClampNeg (bq (as_L A) (st16 (as_m A))).length)) (-3)
theorem in9 {w : Int32} : (inN 9 w → ¬ w < 0 ∧ w ≤ 8) ∧ (¬ inN 9 w → w < 0 ∨ ¬ w ≤ 8) := by
  have e0 : (0 : Int32).toInt = 0 := rfl
  have e1 : (8 : Int32).toInt = 8 := rfl
  unfold inN
  rw [Int32.lt_iff_toInt_lt, Int32.le_iff_toInt_le]
  constructor
  · intro h; constructor <;> omega
  · intro h; omega
theorem RC.walk {S S2 : sk_S} {d e : sk_D} {A : AS} (h : RC S d A) (hci : CI S2 e (as_L A)) (hw : cWk S2 e (as_L A)) (f : Fr (fun b => scr b ∨ wkc S b) d e) : RC S2 e A := by
  have fi : ∀ b, ¬ (scr b ∨ wkc S b) → e.1 b = d.1 b := fun b hb => f.i hb
  have fj : ∀ b, ¬ (scr b ∨ wkc S b) → e.2 b = d.2 b := fun b hb => f.j hb
  unfold scr wkc at fi fj
  obtain ⟨-, hp, ht, hf, hr, hi, -⟩ := h
  refine ⟨hci, ?_, ?_, ?_, ?_, ?_, hw⟩
  · unfold rcP; rw [fi 50 (by omega), fi 51 (by omega)]; exact hp
  · unfold rcT; rw [fi 1 (by omega), fi 55 (by omega)]; exact ht
  · rw [fi 21 (by omega)]; exact hf
  · intro t h4; exact (hr t h4).same (fi _ (by omega)) (fj _ (by omega))
  · intro i h2; exact (hi i h2).same h2 (fun b _ => fi b (by omega))
theorem c_fitWays {S : sk_S} {d : sk_D} {A : AS} {q c w m len : Nat} {f : Int32} (h : RC S d A) (hw : WS S q c w m len) (hf : wkF d (as_L A) f q c len) :
    ∃ S' d' w' m', fX8_fitWays S d 40 = some (S', d') ∧ RC S' d' A ∧ WS S' q c w' m' len ∧ (S'.2.1 w').2 = len ∧ wkF d' (as_L A) f q c len ∧ Fr cls d d' := by
  have hS := h.1.1
  obtain ⟨gr3, gr4, gr5, gr6⟩ := ws_q hS hw
  obtain ⟨wq, wc, ww, wm, n1, n2, n3, n4, n5, n6⟩ := hw.ad
  have hl2 := hw.len
  have hw0 := hw
  obtain ⟨h1, h2, h3, h4, h5, h6, h7, h8, h9, h10, h11, h12, h13, h14, h15, h16, h17, h18, h19⟩ := hw
  unfold fX8_fitWays
  rw [gr5, Option.bind_some, kl_al h7, Option.bind_some, gr4, Option.bind_some, kl_al h6, Option.bind_some]
  by_cases c0 : len ≤ (S.2.1 w).2
  · rw [if_pos (nI_le c0 (by omega))]
    exact ⟨S, d, w, m, rfl, h, hw0, by omega, hf, Fr.refl _ _⟩
  · rw [if_neg (nI_ge (by omega) (by omega)), Option.bind_some, kl_al h6, Option.bind_some]
    have pr : ∀ (T : sk_S) (k r : Nat), Sh T → r ≠ 0 → sk_pR T 40 7 k r = some (sk_uR T 40 k r) := fun T k r hT hr => if_pos ⟨kd40 hT, hr⟩
    have bq : ¬ q = S.1.1 + 1 ∧ ¬ q = S.1.1 + 1 + 1 := by unfold wAd at h9; omega
    have bc : ¬ c = S.1.1 + 1 ∧ ¬ c = S.1.1 + 1 + 1 := by unfold wAd at h10; omega
    have a1 : Sh (sk_nS S 21 len len) := hS.mk h16 _ _ _
    have a2 : Sh (sk_uR (sk_nS S 21 len len) 40 5 (S.1.1 + 1)) := a1.r40 _ _
    have l2 : (sk_uR (sk_nS S 21 len len) 40 5 (S.1.1 + 1)).1.1 = S.1.1 + 1 := rfl
    have a3 : Sh (sk_nS (sk_uR (sk_nS S 21 len len) 40 5 (S.1.1 + 1)) 21 len len) := a2.mk (by omega) _ _ _
    have g4 : sk_gR (sk_uR (sk_nS S 21 len len) 40 5 (S.1.1 + 1)) 40 7 4 = some c := by
      have e : (sk_uR (sk_nS S 21 len len) 40 5 (S.1.1 + 1)).2.2 40 4 = c := by
        show (if 40 = 40 ∧ 4 = 5 then S.1.1 + 1 else if 40 = S.1.1 + 1 then 0 else S.2.2 40 4) = c
        rw [if_neg (by decide), if_neg (by omega)]; exact h2
      unfold sk_gR
      rw [e, if_pos ⟨kd40 a2, h10.pos⟩]
    have kc : (sk_uR (sk_nS S 21 len len) 40 5 (S.1.1 + 1)).2.1 c = (20, len) := by
      show (if c = S.1.1 + 1 then (21, len) else S.2.1 c) = _
      rw [if_neg bc.1]; exact h6
    rw [mk_eq S d 21 hl2.2, Option.bind_some]
    dsimp only
    rw [pr _ _ _ a1 (by omega), Option.bind_some, g4, Option.bind_some, kl_al kc, Option.bind_some, mk_eq _ _ 21 hl2.2, Option.bind_some]
    dsimp only
    rw [l2, pr _ _ _ a3 (by omega), Option.bind_some]
    obtain ⟨S2, e2⟩ : ∃ S2, S2 = sk_uR (sk_nS (sk_uR (sk_nS S 21 len len) 40 5 (S.1.1 + 1)) 21 len len) 40 6 (S.1.1 + 1 + 1) := ⟨_, rfl⟩
    obtain ⟨d2, e3⟩ : ∃ d2, d2 = sk_nD (sk_uR (sk_nS S 21 len len) 40 5 (S.1.1 + 1)) (sk_nD S d) := ⟨_, rfl⟩
    have hS2 : Sh S2 := by rw [e2]; exact a3.r40 _ _
    have ff : Fr (fun b => b = S.1.1 + 1 ∨ b = S.1.1 + 1 + 1) d d2 := by
      intro b hb
      rw [e3]
      refine ⟨?_, ?_⟩
      · rw [nD_i _ _ (by rw [l2]; omega), nD_i _ _ (by omega)]
      · rw [nD_j _ _ (by rw [l2]; omega), nD_j _ _ (by omega)]
    have fk : Fr (wkc S) d d2 := ff.mono (fun b hb => by unfold wkc; omega)
    have k2 : ∀ a, S2.2.1 a = if a = S.1.1 + 1 + 1 then (21, len) else if a = S.1.1 + 1 then (21, len) else S.2.1 a := fun a => by rw [e2]; rfl
    have r2 : ∀ k, S2.2.2 40 k = if 40 = 40 ∧ k = 6 then S.1.1 + 1 + 1 else if 40 = S.1.1 + 1 + 1 then 0 else if 40 = 40 ∧ k = 5 then S.1.1 + 1 else if 40 = S.1.1 + 1 then 0 else S.2.2 40 k := fun k => by rw [e2]; rfl
    have z1 : S2.1.1 = S.1.1 + 1 + 1 := by rw [e2]; rfl
    have z2 : S2.1.2 = S.1.2 + len + len := by rw [e2]; rfl
    have kw : S2.2.1 (S.1.1 + 1) = (21, len) := by rw [k2, if_neg (by omega), if_pos rfl]
    have km : S2.2.1 (S.1.1 + 1 + 1) = (21, len) := by rw [k2, if_pos rfl]
    have W2 : WS S2 q c (S.1.1 + 1) (S.1.1 + 1 + 1) len := by
      refine ⟨?_, ?_, ?_, ?_, ?_, ?_, by rw [kw], by rw [km, kw], ?_, ?_, ?_, ?_, h13, by omega, h15, by omega, ?_, ?_, Or.inl (by rw [kw])⟩
      · rw [r2, if_neg (by decide), if_neg (by omega), if_neg (by decide), if_neg (by omega)]; exact h1
      · rw [r2, if_neg (by decide), if_neg (by omega), if_neg (by decide), if_neg (by omega)]; exact h2
      · rw [r2, if_neg (by decide), if_neg (by omega), if_pos (by decide)]
      · rw [r2, if_pos (by decide)]
      · rw [k2, if_neg bq.2, if_neg bq.1]; exact h5
      · rw [k2, if_neg bc.2, if_neg bc.1]; exact h6
      · unfold wAd at h9 ⊢; omega
      · unfold wAd at h10 ⊢; omega
      · unfold wAd; omega
      · unfold wAd; omega
      · rw [kw, z1]; dsimp only; omega
      · rw [kw, z2]; dsimp only; omega
    have F2 : wkF d2 (as_L A) f q c len := by
      unfold wkF at hf ⊢
      rw [ff.i (b := 40) (by omega), ff.i (b := q) (by omega), ff.i (b := c) (by omega)]
      exact hf
    refine ⟨S2, d2, S.1.1 + 1, S.1.1 + 1 + 1, ?_, h.walk ((h.1.wk fk).sh hS2) ⟨q, c, _, _, len, W2, Or.inr ⟨f, F2⟩⟩ (fk.mono (fun b hb => Or.inr hb)), W2, by rw [kw], F2, fk.mono (fun b hb => by unfold wkc at hb; unfold cls; omega)⟩
    rw [e2, e3]
theorem wP_k {S : sk_S} {d e : sk_D} {q c w m len : Nat} (hw : WS S q c w m len) (f : Fr (wP w m) d e) : Fr (fun b => scr b ∨ wkc S b) d e := by
  obtain ⟨-, -, a3, a4, -⟩ := hw.ad
  exact f.mono (fun b hb => by rcases hb with hb | rfl | rfl; exact Or.inl hb; exact Or.inr a3; exact Or.inr a4)
theorem c_rowsTo {S : sk_S} {d : sk_D} {A : AS} (h : RC S d A) (hA : okA A) (set : Int32) {n : Nat} (hn : n ≤ 8) :
    ∃ S' d', fX8_rowsTo S d 40 2 (st16 (as_m A)) set (nI n) = some (lN (rsm (as_L A) (bq (as_L A) (st16 (as_m A))) set n (bq (as_L A) (st16 (as_m A))).length), S', d') ∧ RC S' d' A ∧ Fr cls d d' := by
  have hS := h.1.1
  have ok16 := ok_16 hA.2.1
  obtain ⟨S1, d1, q, c, w0, m0, len, g1, g2, g3, g4, g5⟩ := c_spreadA h hA
  obtain ⟨S2, d2, w, m, a1, a2, a3, hF, a4, g6⟩ := c_fitWays g2 g3 g4
  have a5 := g5.trans g6
  have hS2 := a2.1.1
  have hB := kq_BI hA.1 ok16
  have H := WkH.of hS2 hA.1 a3 a4
  have f0 : (gq (bq (as_L A) (st16 (as_m A))) 0).1 = st16 (as_m A) := by rw [hB.2.1]
  unfold fX8_rowsTo
  rw [if_pos (kd40 hS), g1, Option.bind_some]
  dsimp only
  rw [if_pos (kd40 g2.1.1), a1, Option.bind_some]
  generalize kq (as_L A) (st16 (as_m A)) = K at hB
  have W4 := a4
  obtain ⟨Q, eQ⟩ : ∃ Q, bq (as_L A) (st16 (as_m A)) = Q := ⟨_, rfl⟩
  rw [eQ] at hB H f0 ⊢
  have q0 : 0 < Q.length := hB.1
  have hl := a3.len
  obtain ⟨d3, b1, b2, b3⟩ := c_zeroW H hF
  have H3 := H.fr (w := w) (m := m) (b2.mono (fun b hb => Or.inr (Or.inl hb)))
  obtain ⟨s1, s2⟩ := H3.spot q0
  rw [f0] at s1
  obtain ⟨-, -, gr5, -⟩ := ws_q hS2 a3
  have f4 : Fr (fun b => b = w) d2 (sk_uJ d3 w (spj (as_L A) Q 0) 1) := b2.trans (Fr.uJ _ rfl)
  have H4 := H.fr (w := w) (m := m) (f4.mono (fun b hb => Or.inr (Or.inl hb)))
  have v4 : wv (sk_uJ d3 w (spj (as_L A) Q 0) 1) (as_L A) Q w (cnt (as_L A) Q 0) := by
    intro j hj
    by_cases e : j = 0
    · rw [e, uJ_s]; rfl
    · rw [uJ_k _ _ _ _ _ (fun a => e (gq_nds H.2.2.2.2.2.2.2.2.1 hj q0 (spj_inj hA.1 H.2.2.2.2.2.2.2.1 hj q0 a)))]
      show _ = lN (if j = 0 then 1 else 0)
      rw [if_neg e]
      exact b3 j hj
  have c4 := a2.1.wP a3 (f4.mono (fun b hb => Or.inl hb))
  dsimp only
  rw [b1, Option.bind_some, gr5, Option.bind_some, if_pos (kd40 hS2), s1, Option.bind_some, kl_sJ (a3.kw hF).1 hl.2 _ _ s2, Option.bind_some]
  have loop := it_for (body := fX8_rowsTo_L69 40 2 (nI n)) (fun k s => s.1 = nI k ∧ ∃ w' m', (w' = w ∧ m' = m ∨ w' = m ∧ m' = w) ∧ WkH s.2.1 s.2.2 (as_L A) q c w' m' len Q ∧ (s.2.1.2.1 w').2 = len ∧ CI s.2.1 s.2.2 (as_L A) ∧ wv s.2.2 (as_L A) Q w' (cnt (as_L A) Q k) ∧ Fr (wP w m) d2 s.2.2) n
    (fun e => ∃ w' m', (w' = w ∧ m' = m ∨ w' = m ∧ m' = w) ∧ WkH e.1 e.2 (as_L A) q c w' m' len Q ∧ (e.1.2.1 w').2 = len ∧ CI e.1 e.2 (as_L A) ∧ wv e.2 (as_L A) Q w' (cnt (as_L A) Q n) ∧ Fr (wP w m) d2 e.2) ?_ ?_ (s := ((0 : Int32), S2, sk_uJ d3 w (spj (as_L A) Q 0) 1)) ⟨rfl, w, m, Or.inl ⟨rfl, rfl⟩, H4, hF, c4, v4, f4.mono (fun b hb => Or.inr (Or.inl hb))⟩
  · obtain ⟨⟨S5, d5⟩, l1, w', m', l2, l3, lF, l4, l5, l6⟩ := loop
    dsimp only at l3 lF l4 l5 l6
    have hS5 := l3.1
    have hw5 := l3.2.2.1
    have kq := hw5.2.2.2.2.1
    have kw := (hw5.kw lF).1
    have hQl := l3.2.2.2.2.2.2.2.2.2.2
    obtain ⟨g3, -, g5, -⟩ := ws_q hS5 hw5
    have W5 : cWk S5 d5 (as_L A) := by
      obtain ⟨n1, n2, n3⟩ := wP_no a3
      refine ⟨q, c, w', m', len, hw5, Or.inr ⟨st16 (as_m A), ?_⟩⟩
      unfold wkF at W4 ⊢
      rw [l6.i n1, l6.i n2, l6.i n3]
      exact W4
    have r5 := a2.walk l4 W5 (wP_k a3 l6)
    rw [l1, Option.bind_some]
    have e := it_eq (body := fX8_rowsTo_L93 40 set S5 d5) (fun k => (lN (rsm (as_L A) Q set n k), nI k)) Q.length (lN (rsm (as_L A) Q set n Q.length), S5, d5) ?_ ?_
    · refine ⟨S5, d5, ?_, r5, a5.trans ((wP_k a3 l6).mono (fun b hb => ?_))⟩
      · rw [show ((0 : Int64), (0 : Int32)) = (lN (rsm (as_L A) Q set n 0), nI 0) from rfl, e]; rfl
      · unfold scr wkc at hb; unfold cls; omega
    · intro k hk
      obtain ⟨t1, t2⟩ := l3.spot hk
      have q1 := (l3.2.2.2.2.2.2.1 k _ (gq_some hk)).1
      unfold fX8_rowsTo_L93
      dsimp only
      rw [gi40 hS5, Option.bind_some, l3.2.2.2.2.2.1, if_neg (nI_ge hk (by omega)), g3, Option.bind_some, kl_al kq, Option.bind_some, if_neg (nI_ge (show k < len by omega) (by omega)), Option.bind_some, kl_lI kq hl.2 _ (show k < len by omega), Option.bind_some, q1, f_sw, Option.bind_some, nI_1]
      unfold rsm
      rw [sN, lNa]
      by_cases g : (set &&& (sw (gq Q k).1 ^^^ (-1))) = 0
      · rw [if_pos g, if_pos g, g5, Option.bind_some, Option.bind_some, kl_lI kq hl.2 _ (show k < len by omega), Option.bind_some, q1, if_pos (kd40 hS5), t1, Option.bind_some, kl_lJ kw hl.2 _ t2, Option.bind_some, l5 k hk]
      · rw [if_neg g, if_neg g, show lN 0 = 0 from rfl, Int64.add_zero]
    · unfold fX8_rowsTo_L93
      dsimp only
      rw [gi40 hS5, Option.bind_some, l3.2.2.2.2.2.1, if_pos (nI_le (Nat.le_refl _) (by omega))]
  · intro k s hk ⟨i1, w', m', i2, i3, iF, i4, i5, i6⟩
    left
    obtain ⟨S6, d6, e1, e2, eF, e3, e4, e5⟩ := c_goOneOn i3 iF i4 hB (show k ≤ 8 by omega) i5
    unfold fX8_rowsTo_L69
    rw [i1, if_neg (nI_ge hk (by omega)), if_pos (kd40 i3.1), e1, Option.bind_some, nI_1]
    refine ⟨_, rfl, rfl, m', w', ?_, e2, eF, e3, e4, i6.trans (e5.mono (fun b hb => ?_))⟩
    · rcases i2 with ⟨x, y⟩ | ⟨x, y⟩
      · exact Or.inr ⟨y, x⟩
      · exact Or.inl ⟨y, x⟩
    · rcases hb with hb | hb | hb
      · exact Or.inl hb
      · rcases i2 with ⟨x, y⟩ | ⟨x, y⟩
        · exact Or.inr (Or.inl (hb.trans x))
        · exact Or.inr (Or.inr (hb.trans x))
      · rcases i2 with ⟨x, y⟩ | ⟨x, y⟩
        · exact Or.inr (Or.inr (hb.trans y))
        · exact Or.inr (Or.inl (hb.trans y))
  · intro s ⟨i1, i2⟩
    unfold fX8_rowsTo_L69
    rw [i1, if_pos (nI_le (Nat.le_refl _) (by omega))]
    exact ⟨_, rfl, i2⟩
theorem c_rows {S : sk_S} {d : sk_D} {A : AS} (h : RC S d A) (hA : okA A) (set n : Int32) : ∃ S' d', fX10_rows S d 1 set n = some (x_rows A set n, S', d') ∧ RC S' d' A ∧ Fr cls d d' := by
  have hS := h.1.1
  have no : ¬ (hAl (as_L A) set ∧ inN 9 n) → ∃ S' d', (some ((-3 : Int64), S, d) : Option (Int64 × sk_S × sk_D)) = some (x_rows A set n, S', d') ∧ RC S' d' A ∧ Fr cls d d' := fun a => ⟨S, d, by unfold x_rows; rw [if_neg a], h, Fr.refl _ _⟩
  have ha := c_hasAll hS h.1.2.2.1 set
  unfold fX10_rows
  rw [gr1_0 hS, Option.bind_some, gr2_0 hS, Option.bind_some, if_pos (kd3 hS)]
  by_cases q : hAl (as_L A) set
  · rw [ha.1 q, Option.bind_some, if_pos rfl]
    by_cases qn : inN 9 n
    · obtain ⟨w1, w2⟩ := in9.1 qn
      obtain ⟨j, hj, rfl⟩ := inN_of qn
      obtain ⟨S2, d2, a1, a2, a3⟩ := c_rowsTo h hA set (n := j) (by omega)
      rw [if_neg w1, if_pos w2, gr1_2 hS, Option.bind_some, Option.bind_some, gr1_5 hS, Option.bind_some, gi50 hS, Option.bind_some, h.2.1.1, f_st, Option.bind_some, if_pos (kd40 hS), a1, Option.bind_some]
      refine ⟨S2, d2, ?_, a2, a3⟩
      unfold x_rows
      rw [if_pos ⟨q, qn⟩, nI_clamp (by omega)]
    · rcases in9.2 qn with w1 | w2
      · rw [if_pos w1]; exact no (fun a => qn a.2)
      · by_cases w1 : n < 0
        · rw [if_pos w1]; exact no (fun a => qn a.2)
        · rw [if_neg w1, if_neg w2]; exact no (fun a => qn a.2)
  · rw [ha.2 q, Option.bind_some, if_neg (by decide)]
    exact no (fun a => q a.1)
