/-! orders, by the class -/
theorem clr_ok : ∀ j, j < 256 → ∀ e, e < 8 → nI (clrB (nI j) e).toNatClampNeg = clrB (nI j) e ∧ (clrB (nI j) e).toNatClampNeg < 256 ∧ (bt (nI j) e = true → (clrB (nI j) e).toNatClampNeg < j) := by decide +kernel
theorem set_ok : ∀ j, j < 256 → ∀ e, e < 8 → nI (nI j ||| b1 e).toNatClampNeg = (nI j ||| b1 e) ∧ (nI j ||| b1 e).toNatClampNeg < 256 ∧ (bt (nI j) e = false → j < (nI j ||| b1 e).toNatClampNeg) := by decide +kernel
def COr (L : LF) (d : sk_D) (D : Int32) (bf : Nat → Int32) : Prop := d.1 45 2 = D ∧ ∀ e, e < lf_n L → d.1 46 e = bf e
theorem COr.fr {L : LF} {d e : sk_D} {D : Int32} {bf : Nat → Int32} (h : COr L d D bf) (f : Fr (fun b => b = 47) d e) : COr L e D bf := ⟨by rw [f.i (b := 45) (by omega)]; exact h.1, fun i hi => by rw [f.i (b := 46) (by omega)]; exact h.2 i hi⟩
def lowD (L : LF) (D : Int32) : Prop := ∀ i, lf_n L ≤ i → i < 32 → bt D i = false
theorem lowD.nI {L : LF} (hn : lf_n L ≤ 8) {D : Int32} (h : lowD L D) : ∃ j, j < 256 ∧ D = nI j := b_low (n := 8) (by omega) (fun i h1 h2 => h i (by omega) h2)
def cwv (bf : Nat → Int32) (D set : Int32) : Int32 := if (set &&& (D ^^^ (-1))) = 0 then nI (wc bf D (pn set) set) else 0
theorem pn_pos {j : Nat} (h1 : 1 ≤ j) (h2 : j < 256) : 0 < pn (nI j) := by
  rcases Nat.eq_zero_or_pos (pn (nI j)) with q | q
  · exfalso
    have z := fb_ct_zero.mp q
    have : nI j = 0 := (z_iff _).mpr (fun i hi => by
      rcases Nat.lt_or_ge i 8 with w | w
      · exact z i w
      · exact b_low2 (n := 8) h2 w hi)
    rw [show (0 : Int32) = nI 0 from rfl, nI_eq (by omega) (by omega)] at this
    omega
  · exact q
theorem c_totalIn {S : sk_S} {L : LF} (hS : Sh S) (hn : lf_n L ≤ 8) {D : Int32} {bf : Nat → Int32} (hD : lowD L D) {k : Nat} (hk : k < 255) {e : sk_D} (hc : COr L e D bf) (hp : ∀ i, i < k + 1 → e.1 47 i = cwv bf D (nI i)) (h0 : e.1 47 (k + 1) = 0) :
    ∃ e', sk_itr (fX3_total_L25 S 45 (nI (k + 1))) ((0 : Int32), e) = some e' ∧ Fr (fun b => b = 47) e e' ∧ (∀ i, i < k + 1 + 1 → e'.1 47 i = cwv bf D (nI i)) := by
  by_cases q : (nI (k + 1) &&& (D ^^^ (-1))) = 0
  · have qs := (z_sub _ _).mp q
    have pp := pn_pos (j := k + 1) (by omega) (by omega)
    have loop := it_for (body := fX3_total_L25 S 45 (nI (k + 1))) (fun j s => s.1 = nI j ∧ Fr (fun b => b = 47) e s.2 ∧ (∀ i, i < k + 1 → s.2.1 47 i = cwv bf D (nI i)) ∧ s.2.1 47 (k + 1) = nI (sN (fun j => if okc bf D (nI (k + 1)) j = true then wc bf D (pn (nI (k + 1)) - 1) (clrB (nI (k + 1)) j) else 0) j)) 8
      (fun e' => Fr (fun b => b = 47) e e' ∧ (∀ i, i < k + 1 → e'.1 47 i = cwv bf D (nI i)) ∧ e'.1 47 (k + 1) = nI (sN (fun j => if okc bf D (nI (k + 1)) j = true then wc bf D (pn (nI (k + 1)) - 1) (clrB (nI (k + 1)) j) else 0) 8)) ?_ ?_ (s := ((0 : Int32), e)) ⟨rfl, Fr.refl _ _, hp, h0⟩
    · obtain ⟨e', x1, x2, x3, x4⟩ := loop
      refine ⟨e', x1, x2, fun i hi => ?_⟩
      by_cases c : i = k + 1
      · rw [c, x4, ← wc_s, Nat.sub_add_cancel pp]
        unfold cwv
        rw [if_pos q]
      · exact x3 i (by omega)
    · intro j s hj ⟨i1, i2, i3, i4⟩
      left
      have hc' := hc.fr i2
      unfold fX3_total_L25
      rw [i1, if_neg (show ¬ (8 : Int32) ≤ nI j from nI_ge (b := 8) hj (by omega)), gi45 hS, Option.bind_some, hc'.1, if_pos q, nI_1]
      cases b : bt (nI (k + 1)) j with
      | false =>
        rw [if_pos ((clr_eq (nI (k + 1)) hj).mpr b)]
        refine ⟨_, rfl, rfl, i2, i3, ?_⟩
        rw [sN, if_neg (by unfold okc; rw [b]; simp), Nat.add_zero]
        exact i4
      | true =>
        have hjn : j < lf_n L := by
          rcases Nat.lt_or_ge j (lf_n L) with w | w
          · exact w
          · have := qs j (by omega) b; rw [hD j w (by omega)] at this; exact absurd this (by decide)
        obtain ⟨l1, l2, l3⟩ := clr_ok (k + 1) (by omega) j hj
        have l3' := l3 b
        have hok : okc bf D (nI (k + 1)) j = decide ((bf j &&& (clrB (nI (k + 1)) j ^^^ (-1))) = 0) := by unfold okc; rw [b, qs j (by omega) b]; simp
        rw [if_neg (fun a => by rw [(clr_eq (nI (k + 1)) hj).mp a] at b; exact absurd b (by decide)), gr45_0 hS, Option.bind_some, li46 hS _ hj, Option.bind_some, hc'.2 j hjn, show (nI (k + 1) &&& (((1 : Int32) <<< (nI j &&& 31)) ^^^ (-1))) = clrB (nI (k + 1)) j from rfl]
        by_cases c : (bf j &&& (clrB (nI (k + 1)) j ^^^ (-1))) = 0
        · rw [if_pos c, gr45_1 hS, Option.bind_some, li47 hS _ (show k + 1 < 256 by omega), Option.bind_some, Option.bind_some, ← l1, li47 hS _ l2, Option.bind_some, si47 hS _ _ (show k + 1 < 256 by omega), Option.bind_some]
          refine ⟨_, rfl, rfl, i2.trans (Fr.uI _ rfl), fun i hi => by rw [uI_k _ _ _ _ _ (by omega)]; exact i3 i hi, ?_⟩
          have e1 : s.2.1 47 (clrB (nI (k + 1)) j).toNatClampNeg = nI (wc bf D (pn (nI (k + 1)) - 1) (clrB (nI (k + 1)) j)) := by
            rw [i3 _ l3', l1]
            unfold cwv
            have hp1 := pn_clr hj b
            rw [if_pos, show pn (clrB (nI (k + 1)) j) = pn (nI (k + 1)) - 1 by omega]
            rw [z_sub]
            intro i hi a
            rw [bt_clrB _ (by omega) hi] at a
            simp only [Bool.and_eq_true] at a
            exact qs i hi a.1
          rw [uI_s, i4, e1, sN, if_pos (by rw [hok]; exact decide_eq_true c), nI_add]
        · rw [if_neg c]
          refine ⟨_, rfl, rfl, i2, i3, ?_⟩
          rw [sN, if_neg (by rw [hok, decide_eq_false c]; decide), Nat.add_zero]
          exact i4
    · intro s ⟨i1, i2, i3, i4⟩
      unfold fX3_total_L25
      rw [i1, if_pos (show (8 : Int32) ≤ nI 8 by decide)]
      exact ⟨_, rfl, i2, i3, i4⟩
  · refine ⟨e, ?_, Fr.refl _ _, fun i hi => ?_⟩
    · apply sk_itr_exit
      unfold fX3_total_L25
      rw [if_neg (show ¬ (8 : Int32) ≤ 0 by decide), gi45 hS, Option.bind_some, hc.1, if_neg q]
    · by_cases c : i = k + 1
      · rw [c, h0]; unfold cwv; rw [if_neg q]
      · exact hp i (by omega)
theorem c_total {S : sk_S} {L : LF} (hS : Sh S) (hn : lf_n L ≤ 8) {D : Int32} {bf : Nat → Int32} (hD : lowD L D) {d : sk_D} (hc : COr L d D bf) : ∃ d', fX3_total S d 45 = some (nI (tot bf D), d') ∧ Fr (fun b => b = 47) d d' := by
  obtain ⟨jd, hjd, ejd⟩ := hD.nI hn
  unfold fX3_total
  rw [gr45_1 hS, Option.bind_some, show (0 : Int32) = nI 0 from rfl, si47 hS _ _ (show 0 < 256 by omega), Option.bind_some]
  have loop := it_for (body := fX3_total_L9 S 45) (fun k s => s.1 = nI (k + 1) ∧ Fr (fun b => b = 47) d s.2 ∧ (∀ i, i < k + 1 → s.2.1 47 i = cwv bf D (nI i))) 255
    (fun e => e.1 = nI (tot bf D) ∧ Fr (fun b => b = 47) d e.2) ?_ ?_ (s := ((1 : Int32), sk_uI d 47 0 1)) ⟨rfl, Fr.uI _ rfl, fun i hi => ?_⟩
  · obtain ⟨e, he, e1, e2⟩ := loop
    exact ⟨e.2, by rw [he, ← e1]; rfl, e2⟩
  · intro k s hk ⟨i1, i2, i3⟩
    left
    unfold fX3_total_L9
    have f1 : Fr (fun b => b = 47) d (sk_uI s.2 47 (k + 1) 0) := i2.trans (Fr.uI _ rfl)
    obtain ⟨e', x1, x2, x3⟩ := c_totalIn hS hn hD hk (e := sk_uI s.2 47 (k + 1) 0) (hc.fr f1) (fun i hi => by rw [uI_k _ _ _ _ _ (by omega)]; exact i3 i hi) (uI_s _ _ _ _)
    rw [i1, if_neg (show ¬ (256 : Int32) ≤ nI (k + 1) from nI_ge (b := 256) (by omega) (by omega)), gr45_1 hS, Option.bind_some, si47 hS _ _ (show k + 1 < 256 by omega), Option.bind_some, x1, Option.bind_some, nI_1]
    exact ⟨_, rfl, rfl, f1.trans x2, x3⟩
  · intro s ⟨i1, i2, i3⟩
    have hc' := hc.fr i2
    have e255 : (D &&& 255) = nI jd := by
      rw [← ejd]
      apply b_ext
      intro i hi
      rw [b_and, b_255]
      rcases Nat.lt_or_ge i 8 with w | w
      · simp [w]
      · rw [hD i (by omega) hi]; simp
    unfold fX3_total_L9
    rw [i1, if_pos (show (256 : Int32) ≤ nI (255 + 1) by decide), gr45_1 hS, Option.bind_some, gi45 hS, Option.bind_some, hc'.1, e255, li47 hS _ hjd, Option.bind_some, i3 jd (by omega), ← ejd]
    refine ⟨_, rfl, ?_, i2⟩
    show cwv bf D D = _
    unfold cwv
    rw [if_pos ((z_sub _ _).mpr (fun i _ a => a))]
    rfl
  · rw [show i = 0 by omega, uI_s]
    unfold cwv
    rw [if_pos ((z_sub _ _).mpr (fun i _ a => by rw [show nI 0 = 0 from rfl, b_0] at a; exact absurd a (by decide)))]
    rfl
theorem c_firstBehind {S : sk_S} {L : LF} (hS : Sh S) (hn : lf_n L ≤ 8) {D : Int32} {bf : Nat → Int32} (hD : lowD L D) {d : sk_D} (hc : COr L d D bf) (so : Int32) : fX3_firstBehind S d 45 so = some (oI (fk (okd bf D so) 8)) := by
  unfold fX3_firstBehind
  have loop := it_for (body := fX3_firstBehind_L2 S d 45 so) (fun k s => s = nI k ∧ ∀ i, i < k → okd bf D so i = false) 8 (fun e => e = oI (fk (okd bf D so) 8)) ?_ ?_ (s := (0 : Int32)) ⟨rfl, fun i hi => by omega⟩
  · obtain ⟨e, he, e1⟩ := loop
    rw [he, e1]; rfl
  · intro k s hk ⟨i1, i2⟩
    have nx : okd bf D so k = false → ∀ i, i < k + 1 → okd bf D so i = false := fun a i hi => by
      rcases Nat.lt_or_ge i k with w | w
      · exact i2 i w
      · rw [show i = k by omega]; exact a
    have z : (((D &&& (so ^^^ (-1))) &&& ((1 : Int32) <<< (nI k &&& 31))) = 0) ↔ ¬ (bt D k = true ∧ bt so k = false) := by
      rw [z_iff]
      constructor
      · intro a ⟨b1, b2⟩
        have := a k (by omega)
        rw [b_and, b_and, b_not _ (by omega), b_one (by omega) (by omega), b1, b2] at this
        simp at this
      · intro a i hi
        rw [b_and, b_and, b_not _ hi, b_one (by omega) hi]
        by_cases c : i = k
        · subst c
          cases x : bt D i with
          | false => simp
          | true =>
            cases y : bt so i with
            | true => simp
            | false => exact absurd ⟨x, y⟩ a
        · simp [c]
    unfold fX3_firstBehind_L2
    rw [i1, if_neg (show ¬ (8 : Int32) ≤ nI k from nI_ge (b := 8) hk (by omega)), gi45 hS, Option.bind_some, hc.1, nI_1]
    by_cases q : bt D k = true ∧ bt so k = false
    · have kn : k < lf_n L := by
        rcases Nat.lt_or_ge k (lf_n L) with w | w
        · exact w
        · rw [hD k w (by omega)] at q; exact absurd q.1 (by decide)
      rw [if_neg (fun a => z.mp a q), gr45_0 hS, Option.bind_some, li46 hS _ hk, Option.bind_some, hc.2 k kn]
      by_cases c : (bf k &&& (so ^^^ (-1))) = 0
      · right
        rw [if_pos c]
        refine ⟨_, rfl, ?_⟩
        rw [fk_is hk (by unfold okd; rw [q.1, q.2, decide_eq_true c]; decide) i2]
        rfl
      · left
        rw [if_neg c]
        exact ⟨_, rfl, rfl, nx (by unfold okd; rw [decide_eq_false c, Bool.and_false])⟩
    · left
      rw [if_pos (z.mpr q)]
      refine ⟨_, rfl, rfl, nx ?_⟩
      unfold okd
      cases x : bt D k with
      | false => simp
      | true =>
        cases y : bt so k with
        | true => simp
        | false => exact absurd ⟨x, y⟩ q
  · intro s ⟨i1, i2⟩
    unfold fX3_firstBehind_L2
    rw [i1, if_pos (show (8 : Int32) ≤ nI 8 by decide)]
    refine ⟨_, rfl, ?_⟩
    rw [fk_no i2]
    rfl
theorem pc_pn {j : Nat} (hj : j < 256) : pc (nI j) = nI (pn (nI j)) := by
  unfold pc pn
  rw [pc_ct, fb_ct_succ, fb_ct_succ, b_low2 (n := 8) hj (by omega) (by omega), b_low2 (n := 8) hj (by omega) (by omega)]
  rfl
def x_firstAt (bf : Nat → Int32) (D p : Int32) : Int32 := if nI (pn D) ≤ p then -1 else if tot bf D = 0 then -1 else oI (fk (okd bf D (sos bf D p.toNatClampNeg)) 8)
theorem tot_0 {bf : Nat → Int32} {D : Int32} : nI (tot bf D) = 0 ↔ tot bf D = 0 := by
  have := UK_lt bf D D (pn_le D) 0
  rw [show (0 : Int32) = nI 0 from rfl, nI_eq (show tot bf D < _ from Nat.lt_trans this (by decide)) (by omega)]
theorem c_firstAt {S : sk_S} {L : LF} (hS : Sh S) (hn : lf_n L ≤ 8) {D : Int32} {bf : Nat → Int32} (hD : lowD L D) {d : sk_D} (hc : COr L d D bf) {p : Int32} (hp : ¬ p < 0) : ∃ d', fX3_firstAt S d 45 p = some (x_firstAt bf D p, d') ∧ Fr (fun b => b = 47) d d' := by
  obtain ⟨jd, hjd, ejd⟩ := hD.nI hn
  have h8 := pn_le D
  unfold fX3_firstAt x_firstAt
  rw [if_neg hp, gi45 hS, Option.bind_some, hc.1, ejd, f_bc jd (by omega), Option.bind_some, pc_pn hjd, ← ejd]
  by_cases q : nI (pn D) ≤ p
  · rw [if_pos q, if_pos q]
    exact ⟨d, rfl, Fr.refl _ _⟩
  · obtain ⟨i, hi, rfl⟩ : ∃ i, i < pn D ∧ p = nI i := inN_of (by
      unfold inN
      rw [Int32.le_iff_toInt_le, nI_toInt (by omega)] at q
      rw [Int32.lt_iff_toInt_lt] at hp
      have : (0 : Int32).toInt = 0 := rfl
      omega)
    obtain ⟨d1, a1, a2⟩ := c_total hS hn hD hc
    rw [if_neg q, if_neg q, if_pos (kd45 hS), a1, Option.bind_some]
    dsimp only
    by_cases t0 : tot bf D = 0
    · rw [if_pos (tot_0.mpr t0), if_pos t0]
      exact ⟨d1, rfl, a2⟩
    · rw [if_neg (fun a => t0 (tot_0.mp a)), if_neg t0, nI_clamp (by omega)]
      have tp : 0 < tot bf D := by omega
      have loop := it_for (body := fX3_firstAt_L31 S 45 (nI i) d1) (fun k s => s.1 = sos bf D k ∧ s.2.2 = nI k ∧ (0 < k → s.2.1 = oI (fk (okd bf D (sos bf D (k - 1))) 8))) (i + 1) (fun e => e = (oI (fk (okd bf D (sos bf D i)) 8), d1)) ?_ ?_ (s := ((0 : Int32), (-1 : Int32), (0 : Int32))) ⟨rfl, rfl, fun a => by omega⟩
      · obtain ⟨e, he, e1⟩ := loop
        exact ⟨d1, by rw [he, e1]; rfl, a2⟩
      · intro k s hk ⟨i1, i2, i3⟩
        left
        obtain ⟨j, j1, j2⟩ := sos_fk tp (i := k) (by omega)
        unfold fX3_firstAt_L31
        rw [i1, i2, if_neg (show ¬ nI i < nI k by rw [nI_ltI (by omega) (by omega)]; omega), if_neg (show ¬ (8 : Int32) ≤ nI k from nI_ge (b := 8) (by omega) (by omega)), if_pos (kd45 hS), c_firstBehind hS hn hD (hc.fr a2), Option.bind_some, j2, show oI (some j) = nI j from rfl, if_pos (by rw [show (0 : Int32) = nI 0 from rfl, nI_leI (by omega) (by omega)]; omega), nI_1]
        exact ⟨_, rfl, (sos_s j2).symm, rfl, fun _ => by rw [Nat.add_sub_cancel, j2]; rfl⟩
      · intro s ⟨i1, i2, i3⟩
        unfold fX3_firstAt_L31
        rw [i2, if_pos (show nI i < nI (i + 1) by rw [nI_ltI (by omega) (by omega)]; omega), i3 (by omega), Nat.add_sub_cancel]
        exact ⟨_, rfl, rfl⟩
