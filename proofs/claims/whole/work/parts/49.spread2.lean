/-! the class's walk spreads -/
theorem rch_neg {Q : List TQ} {t b e : Int32} (h : t < 0) : rch Q t b e = Q := by unfold rch; rw [if_pos (Or.inl h)]
theorem mvt_big (L : LF) (s : Int32) {k : Nat} (h : lf_n L ≤ k) (hk : k < 8) : mvt L s k < 0 ∧ mvt L s (8 + k) < 0 := by
  constructor
  · unfold mvt tdo; rw [if_pos hk, if_pos (by omega)]; decide
  · unfold mvt tdr; rw [if_neg (by omega), if_pos (by omega)]; decide
theorem bst_8 (L : LF) (s : Int32) (Q : List TQ) : ∀ k, lf_n L + k ≤ 8 → bst L s (lf_n L + k) Q = bst L s (lf_n L) Q
  | 0, _ => rfl
  | k + 1, h => by rw [← Nat.add_assoc, bst, rch_neg (mvt_big L s (by omega) (by omega)).1]; exact bst_8 L s Q k (by omega)
theorem bst_16 (L : LF) (s : Int32) (Q : List TQ) : ∀ k, lf_n L + k ≤ 8 → bst L s (8 + lf_n L + k) Q = bst L s (8 + lf_n L) Q
  | 0, _ => rfl
  | k + 1, h => by
    rw [← Nat.add_assoc, bst, show 8 + lf_n L + k = 8 + (lf_n L + k) by omega, rch_neg (mvt_big L s (by omega) (by omega)).2, show 8 + (lf_n L + k) = 8 + lf_n L + k by omega]
    exact bst_16 L s Q k (by omega)
theorem dcd_ok {mv : Nat} (h : mv < 16) : ∃ e, e < 32 ∧ dcd mv = nI e := by
  unfold dcd
  split
  · exact ⟨mv, by omega, rfl⟩
  · exact ⟨mv + 2, by omega, rfl⟩
theorem rch_T {Q : List TQ} {t b e : Int32} (h : ∀ x, x ∈ Q → okT x) (hn : okT (t, b, e)) : ∀ x, x ∈ rch Q t b e → okT x := by
  intro x hx
  unfold rch at hx
  split at hx
  · exact h x hx
  · rw [List.mem_append] at hx
    rcases hx with hx | hx
    · exact h x hx
    · simp at hx; subst hx; exact hn
theorem bst_T {L : LF} {s : Int32} (hs : okS L s) {Q : List TQ} (h : ∀ x, x ∈ Q → okT x) : ∀ k, k ≤ 16 → ∀ x, x ∈ bst L s k Q → okT x
  | 0, _ => h
  | k + 1, hk => rch_T (bst_T hs h k (by omega)) ⟨hs.nI, dcd_ok (by omega)⟩
theorem qs_T {L : LF} (hk : okL L) {s : Int32} (hs : okS L s) : ∀ h x, x ∈ qs L s h → okT x
  | 0, x, hx => by
    simp [qs] at hx; subst hx
    exact ⟨⟨0, by omega, rfl⟩, 31, by omega, rfl⟩
  | h + 1, x, hx => by
    rw [qs] at hx
    cases hy : (qs L s h)[h]? with
    | none => rw [hy] at hx; exact qs_T hk hs h x hx
    | some y => rw [hy] at hx; exact bst_T ((qs_ok hk hs h).1 y (List.mem_of_getElem? hy)) (qs_T hk hs h) 16 (Nat.le_refl _) x hx
def wks (S : sk_S) (b : Nat) : Prop := scr b ∨ wkc S b
theorem CI.wk {S : sk_S} {d e : sk_D} {L : LF} (h : CI S d L) (f : Fr (wkc S) d e) : CI S e L := by
  obtain ⟨hS, hk, hc, hK⟩ := h
  have fi : ∀ b, ¬ wkc S b → e.1 b = d.1 b := fun b hb => f.i hb
  unfold wkc at fi
  exact ⟨hS, hk, hc.same (fun b h1 h2 _ => fi b (by omega)), hK.fr (fi 18 (by omega)) (fi 19 (by omega))⟩
theorem CI.sh {S S2 : sk_S} {d : sk_D} {L : LF} (h : CI S d L) (hS : Sh S2) : CI S2 d L := ⟨hS, h.2⟩
theorem wkQ.scr {S : sk_S} {d e : sk_D} {L : LF} {q c w m len : Nat} {Q : List TQ} (hw : WS S q c w m len) (h : wkQ d L q c len Q) (f : Fr scr d e) : wkQ e L q c len Q ∧ e.1 40 1 = d.1 40 1 := by
  obtain ⟨wq, wc, -, -, n1, n2, -⟩ := hw.ad
  have fi : ∀ b, wkc S b → e.1 b = d.1 b := fun b hb => f.i (by unfold wkc at hb; unfold CStubKeepLaw_law_r1379_07d26a.scr; omega)
  have f4 := fi 40 (Or.inl (by omega))
  unfold wkQ at h ⊢
  rw [f4, fi q wq, fi c wc]
  exact ⟨h, rfl⟩
theorem c_spread1 {S : sk_S} {d : sk_D} {L : LF} {q c w m len : Nat} (hci : CI S d L) (hw : WS S q c w m len) (hl : 4 ^ lf_n L ≤ len) {here : Int32} (hh : okS L here) {Q : List TQ} (hQ : wkQ d L q c len Q) (h1 : allS L Q) (h2 : nds Q) (h3 : ∀ x, x ∈ Q → okT x) :
    ∃ d', sk_itr (fX8_spread_L67 40 2 S here) ((0 : Int32), d) = some d' ∧ CI S d' L ∧ wkQ d' L q c len (bst L here 8 Q) ∧ Fr (wks S) d d' ∧ d'.1 40 1 = d.1 40 1 := by
  have hS := hci.1
  have hk := hci.2.1
  have hn := hk.1
  obtain ⟨wq, wc, -, -, n1, n2, -⟩ := hw.ad
  have w40 : wkc S 40 := Or.inl (by omega)
  have loop := it_for (body := fX8_spread_L67 40 2 S here) (fun k z => z.1 = nI k ∧ CI S z.2 L ∧ wkQ z.2 L q c len (bst L here k Q) ∧ Fr (wks S) d z.2 ∧ z.2.1 40 1 = d.1 40 1) (lf_n L)
    (fun e => CI S e L ∧ wkQ e L q c len (bst L here 8 Q) ∧ Fr (wks S) d e ∧ e.1 40 1 = d.1 40 1) ?_ ?_ (s := ((0 : Int32), d)) ⟨rfl, hci, hQ, Fr.refl _ _, rfl⟩
  · exact loop
  · intro k z hkn ⟨i1, i2, i3, i4, i5⟩
    left
    obtain ⟨d1, a1, a2, a3⟩ := c_tdo i2 here (j := k) (by omega)
    obtain ⟨b1, b2⟩ := wkQ.scr hw i3 a3
    have okb := bst_ok hk hh h1 h2 k (by omega)
    have em : mvt L here k = tdo L here k := by unfold mvt; rw [if_pos (by omega)]
    have ed : dcd k = nI k := by unfold dcd; rw [if_pos (by omega)]
    obtain ⟨d2, c1, c2, c3, c4⟩ := c_reach (e := nI k) (b := here) (t := tdo L here k) hS hk hw hl b1 okb.1 okb.2 (bst_T hh h3 k (by omega)) (fun h0 => by rw [← em] at h0 ⊢; exact hh.mv hk (by omega) h0) ⟨hh.nI, k, by omega, rfl⟩
    have fw : Fr (wkc S) d1 d2 := c3.mono (fun b hb => by rcases hb with rfl | rfl | rfl; exact w40; exact wq; exact wc)
    have hx : ¬ lf_n L ≤ k := by omega
    unfold fX8_spread_L67
    rw [i1]
    simp (disch := omega) only [Option.bind_some, ↓reduceIte, nI_leI, nI_ltI, nI_eq, nI_1, kd2 hS, gi2 hS, pi2 hS, gr2_0 hS, gr2_1 hS, gr2_2 hS, gr2_3 hS, kd40 hS, gi40 hS, pi40 hS, i3.1, hx, a1, c1]
    refine ⟨_, rfl, rfl, a2.wk fw, ?_, (i4.trans (a3.mono (fun b hb => Or.inl hb))).trans (fw.mono (fun b hb => Or.inr hb)), by rw [c4, b2, i5]⟩
    rw [bst, em, ed]
    exact c2
  · intro z ⟨i1, i2, i3, i4, i5⟩
    unfold fX8_spread_L67
    rw [i1]
    simp (disch := omega) only [Option.bind_some, ↓reduceIte, nI_leI, nI_ltI, nI_eq, nI_1, kd40 hS, gi40 hS, pi40 hS, i3.1, Nat.le_refl]
    refine ⟨_, rfl, i2, ?_, i4, i5⟩
    have := bst_8 L here Q (8 - lf_n L) (by omega)
    rw [show lf_n L + (8 - lf_n L) = 8 by omega] at this
    rw [this]
    exact i3
theorem c_spread2 {S : sk_S} {d : sk_D} {L : LF} {q c w m len : Nat} (hci : CI S d L) (hw : WS S q c w m len) (hl : 4 ^ lf_n L ≤ len) {here : Int32} (hh : okS L here) {Q : List TQ} (hQ : wkQ d L q c len (bst L here 8 Q)) (h1 : allS L Q) (h2 : nds Q) (h3 : ∀ x, x ∈ Q → okT x) :
    ∃ d', sk_itr (fX8_spread_L101 40 2 S here) ((0 : Int32), d) = some d' ∧ CI S d' L ∧ wkQ d' L q c len (bst L here 16 Q) ∧ Fr (wks S) d d' ∧ d'.1 40 1 = d.1 40 1 := by
  have hS := hci.1
  have hk := hci.2.1
  have hn := hk.1
  obtain ⟨wq, wc, -, -, n1, n2, -⟩ := hw.ad
  have w40 : wkc S 40 := Or.inl (by omega)
  have loop := it_for (body := fX8_spread_L101 40 2 S here) (fun k z => z.1 = nI k ∧ CI S z.2 L ∧ wkQ z.2 L q c len (bst L here (8 + k) Q) ∧ Fr (wks S) d z.2 ∧ z.2.1 40 1 = d.1 40 1) (lf_n L)
    (fun e => CI S e L ∧ wkQ e L q c len (bst L here 16 Q) ∧ Fr (wks S) d e ∧ e.1 40 1 = d.1 40 1) ?_ ?_ (s := ((0 : Int32), d)) ⟨rfl, hci, hQ, Fr.refl _ _, rfl⟩
  · exact loop
  · intro k z hkn ⟨i1, i2, i3, i4, i5⟩
    left
    have a1 := c_tdr i2 here (j := k) (by omega)
    have okb := bst_ok hk hh h1 h2 (8 + k) (by omega)
    have em : mvt L here (8 + k) = tdr L here k := by unfold mvt; rw [if_neg (by omega), Nat.add_sub_cancel_left]
    have ed : dcd (8 + k) = nI (10 + k) := by unfold dcd; rw [if_neg (by omega)]; congr 1; omega
    obtain ⟨d2, c1, c2, c3, c4⟩ := c_reach (e := nI (10 + k)) (b := here) (t := tdr L here k) hS hk hw hl i3 okb.1 okb.2 (bst_T hh h3 (8 + k) (by omega)) (fun h0 => by rw [← em] at h0 ⊢; exact hh.mv hk (by omega) h0) ⟨hh.nI, 10 + k, by omega, rfl⟩
    have fw : Fr (wkc S) z.2 d2 := c3.mono (fun b hb => by rcases hb with rfl | rfl | rfl; exact w40; exact wq; exact wc)
    have hx : ¬ lf_n L ≤ k := by omega
    unfold fX8_spread_L101
    rw [i1]
    simp (disch := omega) only [Option.bind_some, ↓reduceIte, nI_leI, nI_ltI, nI_eq, nI_1, kd2 hS, gi2 hS, pi2 hS, gr2_0 hS, gr2_1 hS, gr2_2 hS, gr2_3 hS, kd40 hS, gi40 hS, pi40 hS, i3.1, hx, a1, p10, c1]
    refine ⟨_, rfl, rfl, i2.wk fw, ?_, i4.trans (fw.mono (fun b hb => Or.inr hb)), by rw [c4, i5]⟩
    rw [← Nat.add_assoc, bst, em, ed]
    exact c2
  · intro z ⟨i1, i2, i3, i4, i5⟩
    unfold fX8_spread_L101
    rw [i1]
    simp (disch := omega) only [Option.bind_some, ↓reduceIte, nI_leI, nI_ltI, nI_eq, nI_1, kd40 hS, gi40 hS, pi40 hS, i3.1, Nat.le_refl]
    refine ⟨_, rfl, i2, ?_, i4, i5⟩
    have := bst_16 L here Q (8 - lf_n L) (by omega)
    rw [show 8 + lf_n L + (8 - lf_n L) = 16 by omega] at this
    rw [this]
    exact i3
theorem qs_some {L : LF} {s : Int32} {h : Nat} {x : TQ} (hx : (qs L s h)[h]? = some x) : qs L s (h + 1) = bst L x.1 16 (qs L s h) := by rw [qs, hx]
theorem c_spread {S : sk_S} {d : sk_D} {L : LF} (hci : CI S d L) (hwk : cWk S d L) {f : Int32} (hf : okS L f) :
    ∃ S' d' q c w m len, fX8_spread S d 40 2 f = some (S', d') ∧ CI S' d' L ∧ WS S' q c w m len ∧ wkF d' L f q c len ∧ Fr (wks S) d d' := by
  have hS := hci.1
  have hk := hci.2.1
  have hn := hk.1
  obtain ⟨q, c, w, m, len, hw, ho⟩ := hwk
  unfold fX8_spread
  rw [gi40 hS, Option.bind_some]
  by_cases same : f = d.1 40 1
  · rw [if_pos same]
    rcases ho with ⟨h0, h1, hz⟩ | ⟨g, hg⟩
    · exfalso
      rw [h1] at same
      obtain ⟨k, hk1, ek⟩ := hf.nI
      rw [ek, fa_eq, nI_toInt (by omega), show (-1 : Int32).toInt = -1 from rfl] at same
      omega
    · have : f = g := same.trans hg.1
      subst this
      exact ⟨S, d, q, c, w, m, len, rfl, hci, hw, hg, Fr.refl _ _⟩
  · rw [if_neg same, if_pos (kd40 hS)]
    obtain ⟨d1, a1, a2, a3⟩ := c_forget hS hk hw ho
    have ci1 := hci.wk a3
    obtain ⟨S2, d2, q2, c2, w2, m2, len2, b1, b2, b3, b4, b5, b6, b7, b8⟩ := c_fit (n := lf_n L) hS hn hw a2.2.2
    have ci2 : CI S2 d2 L := (ci1.wk b8).sh b2
    obtain ⟨wq, wc, -, -, n1, n2, -⟩ := b3.ad
    have w40 : wkc S 40 := Or.inl (by omega)
    have fw : ∀ {x y : sk_D}, Fr (wkc S2) x y → Fr (wkc S) x y := fun h => h.mono (fun b hb => hb)
    rw [a1, Option.bind_some, gr2_0 hS, Option.bind_some, gi3 hS, Option.bind_some, ci1.2.2.1.2.1, if_pos (kd40 hS), b1, Option.bind_some]
    dsimp only
    rw [pi40 b2, Option.bind_some, if_pos (kd40 b2)]
    have ci3 : CI S2 (sk_uI d2 40 1 f) L := ci2.wk (Fr.uI _ (Or.inl (by omega)))
    have e0 : wkQ (sk_uI d2 40 1 f) L q2 c2 len2 [] := by
      refine ⟨by rw [uI_k _ _ _ _ _ (by decide)]; exact b6, by rw [uI_k _ _ _ _ _ (by decide), b7, a2.1]; rfl, fun i x hx => by simp at hx, fun i hi hne => ?_⟩
      rw [uI_a _ _ _ _ _ n2] at hne
      exact absurd (b5 i hi) hne
    have hnil : allS L [] := fun x hx => by simp at hx
    have hnil2 : nds [] := fun i j x y hx => by simp at hx
    obtain ⟨d3, r1, r2, r3, r4⟩ := c_reach (t := f) (b := 0) (e := 31) b2 hk b3 b4 e0 hnil hnil2 (fun x hx => by simp at hx) (fun _ => hf) ⟨⟨0, by omega, rfl⟩, 31, by omega, rfl⟩
    have e1 : rch [] f 0 31 = qs L f 0 := by
      unfold rch
      rw [if_neg]
      · rfl
      · intro a
        rcases a with a | a
        · exact hf.1.pos a
        · simp at a
    rw [e1] at r2
    have f3 : Fr (wkc S) (sk_uI d2 40 1 f) d3 := r3.mono (fun b hb => by rcases hb with rfl | rfl | rfl; exact w40; exact wq; exact wc)
    have ci4 : CI S2 d3 L := ci3.wk (f3.mono (fun b hb => hb))
    have fr3 : Fr (wks S) d d3 := ((((a3.trans b8).tI w40).trans f3)).mono (fun b hb => Or.inr hb)
    rw [show (0 : Int32) = 0 from rfl, r1, Option.bind_some]
    have kq := b3.2.2.2.2.1
    have hl2 := b3.len
    obtain ⟨gq, -, -, -⟩ := ws_q b2 b3
    have loop := it_wf (body := fX8_spread_L39 40 2 S2) (fun z => ∃ h, h ≤ 65536 ∧ z.1 = nI h ∧ CI S2 z.2 L ∧ wkQ z.2 L q2 c2 len2 (qs L f h) ∧ Fr (wks S) d z.2 ∧ z.2.1 40 1 = f) (fun z => 65536 - z.1.toNatClampNeg)
      (fun e => e.1 = S2 ∧ CI S2 e.2 L ∧ wkF e.2 L f q2 c2 len2 ∧ Fr (wks S) d e.2) ?_ ((0 : Int32), d3) ⟨0, by omega, rfl, ci4, r2, fr3, by rw [r4, uI_s]⟩
    · obtain ⟨e, he, e1, e2, e3, e4⟩ := loop
      rw [he, Option.bind_some]
      refine ⟨S2, e.2, q2, c2, w2, m2, len2, ?_, e2, b3, e3, e4⟩
      rw [← e1]
    · intro z ⟨h, hh6, i1, i2, i3, i4, i5⟩
      obtain ⟨aQ, bQ⟩ := qs_ok hk hf h
      have tQ := qs_T hk hf h
      have lQ := nds_len aQ bQ
      have l4 := nds_len4 hk aQ bQ
      unfold fX8_spread_L39
      rw [i1, gi40 b2, Option.bind_some, i3.2.1]
      by_cases stop : (qs L f h).length ≤ h
      · right
        rw [if_pos (nI_le stop (by omega))]
        refine ⟨_, rfl, rfl, i2, ?_, i4⟩
        have eb := bq_at hk hf stop hh6
        rw [← eb] at i3
        exact ⟨i5, hf.1, hf.2, i3.1, b4, i3.2.1, i3.2.2.1, i3.2.2.2⟩
      · left
        have hlt : h < (qs L f h).length := by omega
        obtain ⟨x, hx⟩ : ∃ x, (qs L f h)[h]? = some x := ⟨_, List.getElem?_eq_getElem hlt⟩
        have okx := aQ x (List.mem_of_getElem? hx)
        rw [if_neg (nI_ge hlt (by omega)), gq, Option.bind_some, kl_al kq, Option.bind_some, if_neg (nI_ge (show h < len2 by omega) (by omega)), Option.bind_some, kl_lI kq hl2.2 _ (show h < len2 by omega), Option.bind_some, (i3.2.2.1 h x hx).1]
        obtain ⟨y2, s1, s2, s3, s4, s5⟩ := c_spread1 i2 b3 b4 okx i3 aQ bQ tQ
        obtain ⟨y3, t1, t2, t3, t4, t5⟩ := c_spread2 s2 b3 b4 okx s3 aQ bQ tQ
        rw [s1, Option.bind_some, t1, Option.bind_some]
        refine ⟨_, rfl, ⟨h + 1, by omega, nI_1 h, t2, ?_, (i4.trans (s4.mono (fun b hb => hb))).trans (t4.mono (fun b hb => hb)), by rw [t5, s5, i5]⟩, ?_⟩
        · rw [qs_some hx]; exact t3
        · show 65536 - (nI h + 1).toNatClampNeg < 65536 - (nI h).toNatClampNeg
          rw [nI_1, nI_clamp (by omega), nI_clamp (by omega)]
          omega
