/-! the reference's deeds of a way -/
theorem f_told {S : sk_S} (d : sk_D) {mv : Nat} (h : mv < 16) : fX11_toldMove S d (nI mv) = some (dcd mv) := by
  unfold fX11_toldMove dcd
  by_cases c : mv < 8
  · rw [if_neg (show ¬ (8 : Int32) ≤ nI mv from nI_ge (b := 8) c (by omega)), if_pos c]
  · rw [if_pos (show (8 : Int32) ≤ nI mv from nI_le (a := 8) (by omega) (by omega)), if_neg c, show (2 : Int32) + nI mv = nI (2 + mv) from nI_add 2 mv, Nat.add_comm]
theorem m_moveAt {S : sk_S} {d : sk_D} {A : AS} (h : RM S d A) (hA : okA A) (b : Bool) (set : Int32) (hL : LY S d (as_L A) (st16 (as_m A)) (bq (as_L A) (st16 (as_m A))) (kq (as_L A) (st16 (as_m A))))
    (hF : FI d (as_L A) (bq (as_L A) (st16 (as_m A))) (fun i => gl b set (gq (bq (as_L A) (st16 (as_m A))) i).1)) (hx : ∀ k, k < (bq (as_L A) (st16 (as_m A))).length → lfx d (as_L A) (bq (as_L A) (st16 (as_m A))) k) {i : Nat} (hi : i < 2 ^ 31) :
    fX11_moveAt S d 94 (nI i) = some (wyd (as_L A) (st16 (as_m A)) b set i) := by
  have hS := h.1.1
  have hf := ok_16 hA.2.1
  have hB := kq_BI hA.1 hf
  unfold fX11_moveAt wyd dst
  rw [if_pos (kd94 hS), m_stand hS h.2.1.1.1, Option.bind_some, ← stnd_16]
  have eF : fgl (as_L A) (st16 (as_m A)) b set = lst (fun i => i < (bq (as_L A) (st16 (as_m A))).length ∧ gl b set (gq (bq (as_L A) (st16 (as_m A))) i).1) := rfl
  rw [eF]
  generalize bq (as_L A) (st16 (as_m A)) = Q at hL hF hx hB ⊢
  generalize kq (as_L A) (st16 (as_m A)) = K at hL hB ⊢
  have len := hL.2.2.2.2.2.2.2.1
  have hn := hL.2.2.2.2.2.2.1
  have h0 := hB.1
  have g0 := hB.2.1
  have e0 : st16 (as_m A) = (gq Q 0).1 := by rw [g0]
  rw [e0]
  rcases fg_cases Q (gl b set) with ⟨g, g1, g2, g3, g4⟩ | ⟨g1, g2⟩
  · obtain ⟨D, d1, d2, dd⟩ := anc_D hB g1
    have eD : lst (fun r => anc K g r = 0) = some D := lst_some d2 (fun k hk a => by have := dd k hk; omega)
    rw [g4, Option.bind_some, eD]
    dsimp only
    have vk : ∀ k, k ≤ D → vf d Q (anc K g k) = k ∧ anc K g k < Q.length ∧ d.1 104 (stN (gq Q (anc K g k)).1) = nI k := by
      intro k hk
      have a := vf_anc hL hF hx g1 g2 g3 (D := k) (fun k2 h2 => dd k2 (by omega))
      have al := anc_lt hB g1 k (fun k2 h2 => dd k2 (by omega))
      refine ⟨a, al.2, ?_⟩
      have := (hF _ al.2).1
      rw [a] at this
      exact this
    have inner : ∀ k, k < D → sk_itr (fX11_moveAt_L31 S d 94 (stnd (gq Q (anc K g (k + 1))).1)) (0 : Int32) = some (nI (K (anc K g k) % 16)) := by
      intro k hk
      obtain ⟨v1, v2, v3⟩ := vk (k + 1) (by omega)
      obtain ⟨u1, u2, u3⟩ := vk k (by omega)
      obtain ⟨pe, pl⟩ := par_edg hB (dd k hk) u2
      obtain ⟨hz, ez⟩ := stN_eq (gq Q (anc K g (k + 1))).1
      have body : ∀ mv, mv < 16 → fX11_moveAt_L31 S d 94 (stnd (gq Q (anc K g (k + 1))).1) (nI mv) = if nI (fbN d (as_L A) Q (anc K g (k + 1)) mv) = nI (k + 1) then some (.inr (nI mv)) else some (.inl (nI mv + 1)) := by
        intro mv hm
        unfold fX11_moveAt_L31
        rw [if_pos (kd94 hS), m_farBy hL hF v2 hm, Option.bind_some, gr94_23 hS, Option.bind_some, ez, li104 hS _ hz, Option.bind_some, v3]
      have fle : ∀ mv, fbN d (as_L A) Q (anc K g (k + 1)) mv ≤ FA := by
        intro mv
        by_cases c : ∃ j, edg (as_L A) Q (anc K g (k + 1)) mv j
        · obtain ⟨j, hj⟩ := c
          rw [fbN_e hn hj]; split <;> omega
        · rw [fbN_n (fun j e => c ⟨j, e⟩)]; exact Nat.le_refl _
      have e := it_eq (body := fX11_moveAt_L31 S d 94 (stnd (gq Q (anc K g (k + 1))).1)) (fun mv => nI mv) (K (anc K g k) % 16) (nI (K (anc K g k) % 16)) ?_ ?_
      · exact e
      · intro mv hm
        rw [body mv (by omega), if_neg, nI_1]
        intro a
        have l2 := fle mv
        rw [nI_eq (by unfold FA at l2; omega) (by omega)] at a
        by_cases c : ∃ j, edg (as_L A) Q (anc K g (k + 1)) mv j
        · obtain ⟨j, hj⟩ := c
          rw [fbN_e hn hj] at a
          have vj : vf d Q j < FA ∧ vf d Q j = k := by
            by_cases c2 : vf d Q j < FA
            · rw [if_pos c2] at a; exact ⟨c2, by omega⟩
            · rw [if_neg c2] at a; unfold FA at a; omega
          have pj := (hF j hj.2.2.1).2.2.2.2 vj.1
          rw [vj.2] at pj
          refine no_way hB hn g1 g3 k (fun k2 h2 => dd k2 (by omega)) j ?_ pj
          have hk1 := dd k hk
          rcases edg_k hB hn hj with z | z
          · omega
          · have ea : anc K g (k + 1) = K (anc K g k) / 16 := rfl
            rw [ea] at z
            rcases Nat.lt_or_ge j (anc K g k) with q | q
            · exact q
            · exfalso
              rcases Nat.lt_or_ge (anc K g k) j with q2 | q2
              · have := hB.2.2.2.1 (anc K g k) j hk1 q2 hj.2.2.1
                omega
              · have : j = anc K g k := by omega
                subst this
                omega
        · rw [fbN_n (fun j e => c ⟨j, e⟩)] at a
          unfold FA at a; omega
      · rw [body _ (by omega), if_pos]
        have pe2 : edg (as_L A) Q (anc K g (k + 1)) (K (anc K g k) % 16) (anc K g k) := pe
        rw [fbN_e hn pe2, u1, if_pos (by unfold FA; omega)]
    have thn : ∀ k, k < D → d.1 103 (16 * stN (gq Q (anc K g (k + 1))).1 + K (anc K g k) % 16) = stnd (gq Q (anc K g k)).1 := by
      intro k hk
      obtain ⟨v1, v2, v3⟩ := vk (k + 1) (by omega)
      obtain ⟨u1, u2, u3⟩ := vk k (by omega)
      obtain ⟨pe, pl⟩ := par_edg hB (dd k hk) u2
      have pe2 : edg (as_L A) Q (anc K g (k + 1)) (K (anc K g k) % 16) (anc K g k) := pe
      rw [hL.2.2.2.2.1 _ _ v2 (by omega)]
      unfold mvS
      rw [if_neg pe2.2.2.2.1, pe2.2.2.2.2]
    have Dl : D ≤ 65536 := by omega
    have loop := it_for (body := fX11_moveAt_L7 S d 94 (nI i)) (fun k z => z.1 = stnd (gq Q (anc K g (D - k))).1 ∧ z.2 = nI k ∧ k ≤ i) D
      (fun e => (i < D → e = .inr (nI (K (anc K g (D - 1 - i)) % 16))) ∧ (¬ i < D → e = .inl (-1))) ?_ ?_ (s := (stnd (gq Q 0).1, (0 : Int32))) ⟨by rw [Nat.sub_zero, d2], rfl, Nat.zero_le _⟩
    · obtain ⟨e, he, e1, e2⟩ := loop
      rw [he, Option.bind_some]
      by_cases c : i < D
      · rw [e1 c, if_pos c]
        dsimp only
        rw [f_told d (by omega), Option.bind_some]
      · rw [e2 c, if_neg c]
    · intro k z hk ⟨i1, i2, i3⟩
      have es : D - k = (D - k - 1) + 1 := by omega
      obtain ⟨v1, v2, v3⟩ := vk (D - k) (by omega)
      obtain ⟨hz, ez⟩ := stN_eq (gq Q (anc K g (D - k))).1
      have inn := inner (D - k - 1) (by omega)
      have tn := thn (D - k - 1) (by omega)
      rw [← es] at inn tn
      have l1 : sk_lI S d 104 20 (stnd (gq Q (anc K g (D - k))).1) = some (nI (D - k)) := by rw [ez, li104 hS _ hz, v3]
      unfold fX11_moveAt_L7
      rw [i1, i2, gr94_23 hS, Option.bind_some, l1, Option.bind_some, if_neg (nI_nle (by omega) (by omega)), Option.bind_some, l1, Option.bind_some, if_neg (show ¬ (268435456 : Int32) ≤ nI (D - k) from nI_ge (b := 268435456) (by omega) (by omega)), inn, Option.bind_some]
      by_cases c : k = i
      · right
        subst c
        rw [if_pos rfl]
        exact ⟨_, rfl, fun _ => by rw [show D - 1 - k = D - k - 1 by omega], fun a => absurd hk a⟩
      · left
        rw [if_neg (by rw [nI_eq (by omega) (by omega)]; exact c), gr94_22 hS, Option.bind_some, ez, p16, li103 hS _ (by omega), Option.bind_some, tn]
        exact ⟨_, rfl, by rw [show D - (k + 1) = D - k - 1 by omega], nI_1 k, by omega⟩
    · intro z ⟨i1, i2, i3⟩
      rw [Nat.sub_self] at i1
      obtain ⟨v1, v2, v3⟩ := vk 0 (by omega)
      obtain ⟨hz, ez⟩ := stN_eq (gq Q (anc K g 0)).1
      have l1 : sk_lI S d 104 20 (stnd (gq Q (anc K g 0)).1) = some (nI 0) := by rw [ez, li104 hS _ hz, v3]
      unfold fX11_moveAt_L7
      rw [i1, gr94_23 hS, Option.bind_some, l1, Option.bind_some, if_pos (by decide)]
      exact ⟨_, rfl, fun a => by omega, fun _ => rfl⟩
  · rw [g2]
    dsimp only
    have nf : ¬ vf d Q 0 < FA := by
      intro a
      obtain ⟨j, hj, gj⟩ := pth_goal _ _ ((hF 0 h0).2.2.2.2 a)
      exact g1 j hj gj
    have le := (hF 0 h0).2.1
    have v := (hF 0 h0).1
    rw [show vf d Q 0 = FA by omega] at v
    obtain ⟨hz, ez⟩ := stN_eq (gq Q 0).1
    have l1 : sk_lI S d 104 20 (stnd (gq Q 0).1) = some (nI FA) := by rw [ez, li104 hS _ hz, v]
    have e : sk_itr (fX11_moveAt_L7 S d 94 (nI i)) (stnd (gq Q 0).1, (0 : Int32)) = some (.inl (-1)) := by
      apply sk_itr_exit
      unfold fX11_moveAt_L7
      rw [gr94_23 hS, Option.bind_some, l1, Option.bind_some, if_neg (nI_nle (by unfold FA; omega) (by unfold FA; omega)), Option.bind_some, l1, Option.bind_some, if_pos (show (268435456 : Int32) ≤ nI FA from nI_le (a := 268435456) (by unfold FA; omega) (by unfold FA; omega))]
    rw [e]
    rfl
theorem dst_le {L : LF} (hk : okL L) {f : Int32} (hf : okS L f) {b : Bool} {set : Int32} {D : Nat} (hd : dst L f b set = some D) : D ≤ 65536 := by
  unfold dst at hd
  rcases fg_cases (bq L f) (gl b set) with ⟨g, g1, g2, g3, g4⟩ | ⟨g1, g2⟩
  · have e : fgl L f b set = some g := g4
    obtain ⟨D2, d1, d2, dd⟩ := anc_D (kq_BI hk hf) g1
    have b3 := (bq_ok hk hf).2.2
    have eD : lst (fun r => anc (kq L f) g r = 0) = some D2 := lst_some d2 (fun k hk a => by have := dd k hk; omega)
    rw [e, Option.bind_some, eD] at hd
    cases hd; omega
  · have e : fgl L f b set = none := g2
    rw [e] at hd; cases hd
theorem m_isSet {S : sk_S} {d : sk_D} {L : LF} (h : MI S d L) (set : Int32) : (hAl L set → fX11_isSet S d 94 set = some true) ∧ (¬ hAl L set → fX11_isSet S d 94 set = some false) := by
  obtain ⟨hS, hk, hm⟩ := h
  have hn := hk.1
  have e1 : ∀ n, n ≤ 8 → (1 : Int32) <<< (nI n &&& 31) = nI (2 ^ n) := by decide
  have p8 : (2 : Nat) ^ lf_n L ≤ 2 ^ 8 := Nat.pow_le_pow_right (by omega) hn
  unfold fX11_isSet
  rw [hAl_iff hk]
  constructor
  · intro a
    obtain ⟨k, hk2, rfl⟩ := b_low (n := lf_n L) (by omega) a
    rw [if_neg (nI_pos (by omega)), gr94_1 hS, Option.bind_some, l95_1 hS, Option.bind_some, hm.2.1, e1 _ hn, if_neg (nI_ge hk2 (by omega))]
  · intro a
    by_cases c : set < 0
    · rw [if_pos c]
    · rw [if_neg c, gr94_1 hS, Option.bind_some, l95_1 hS, Option.bind_some, hm.2.1, e1 _ hn]
      obtain ⟨k, hk2, rfl⟩ := nI_of c
      by_cases c2 : 2 ^ lf_n L ≤ k
      · rw [if_pos (nI_le c2 hk2)]
      · exact absurd (fun i h1 h2 => b_low2 (n := lf_n L) (by omega) h1 h2) a
theorem m_csoonest {S : sk_S} {d : sk_D} {A : AS} (h : RM S d A) (hA : okA A) (set : Int32) : ∃ d', fX11_soonest S d 94 set = some (x_soon A false set, d') ∧ RM S d' A ∧ Fr mdl d d' := by
  have hS := h.1.1
  have h0 := h.m0 0
  unfold fX11_soonest fX11_comes x_soon
  rw [pi94 hS, Option.bind_some, if_pos (kd94 hS), if_pos (kd94 hS)]
  by_cases q : hAl (as_L A) set
  · obtain ⟨d2, a1, a2, a3, -⟩ := m_laysFar h0 hA false set
    rw [(m_isSet h0.1 set).1 q, Option.bind_some, if_pos rfl, if_pos q, if_pos (kd94 hS), a1, Option.bind_some]
    refine ⟨d2, ?_, a2, (mfr0 d 0).2.2.2.2.trans a3⟩
    unfold fX11_toldFar toI
    have hf := ok_16 hA.2.1
    cases hd : dst (as_L A) (st16 (as_m A)) false set with
    | none => rw [if_pos rfl]; rfl
    | some D =>
      have hD := dst_le hA.1 hf hd
      dsimp only
      rw [if_neg (by rw [show (268435456 : Int32) = nI 268435456 from rfl, nI_eq (by omega) (by omega)]; omega)]
      rfl
  · rw [(m_isSet h0.1 set).2 q, Option.bind_some, if_neg (by decide), if_neg q]
    exact ⟨_, rfl, h0, (mfr0 d 0).2.2.2.2⟩
theorem m_cshown {S : sk_S} {d : sk_D} {A : AS} (h : RM S d A) (hA : okA A) (set : Int32) : ∃ d', fX11_shown S d 94 set = some (x_soon A true set, d') ∧ RM S d' A ∧ Fr mdl d d' := by
  have hS := h.1.1
  have h0 := h.m0 0
  unfold fX11_shown fX11_comes x_soon
  rw [pi94 hS, Option.bind_some, if_pos (kd94 hS), if_pos (kd94 hS)]
  by_cases q : hAl (as_L A) set
  · obtain ⟨d2, a1, a2, a3, -⟩ := m_laysFar h0 hA true set
    rw [(m_isSet h0.1 set).1 q, Option.bind_some, if_pos rfl, if_pos q, if_pos (kd94 hS), a1, Option.bind_some]
    refine ⟨d2, ?_, a2, (mfr0 d 0).2.2.2.2.trans a3⟩
    unfold fX11_toldFar toI
    have hf := ok_16 hA.2.1
    cases hd : dst (as_L A) (st16 (as_m A)) true set with
    | none => rw [if_pos rfl]; rfl
    | some D =>
      have hD := dst_le hA.1 hf hd
      dsimp only
      rw [if_neg (by rw [show (268435456 : Int32) = nI 268435456 from rfl, nI_eq (by omega) (by omega)]; omega)]
      rfl
  · rw [(m_isSet h0.1 set).2 q, Option.bind_some, if_neg (by decide), if_neg q]
    exact ⟨_, rfl, h0, (mfr0 d 0).2.2.2.2⟩
theorem m_way {S : sk_S} {d : sk_D} {A : AS} (h : RM S d A) (hA : okA A) (set i : Int32) : ∃ d', fX11_way S d 94 set i = some (x_way A false set i, d') ∧ RM S d' A ∧ Fr mdl d d' := by
  have hS := h.1.1
  have h0 := h.m0 0
  unfold fX11_way fX11_comesBy x_way
  rw [pi94 hS, Option.bind_some, if_pos (kd94 hS), if_pos (kd94 hS)]
  by_cases q : hAl (as_L A) set
  · rw [(m_isSet h0.1 set).1 q, Option.bind_some, if_pos rfl]
    by_cases i0 : 0 ≤ i
    · obtain ⟨d2, a1, a2, a3, a4, a5, a6⟩ := m_laysFar h0 hA false set
      obtain ⟨k, hk, rfl⟩ := nI_of (x := i) (by rw [Int32.not_lt]; exact i0)
      rw [if_pos i0, if_pos (show hAl (as_L A) set ∧ 0 ≤ nI k from ⟨q, i0⟩), if_pos (kd94 hS), a1, Option.bind_some]
      dsimp only
      rw [if_pos (kd94 hS), m_moveAt a2 hA false set a4 a5 a6 hk, Option.bind_some, nI_clamp hk]
      exact ⟨d2, rfl, a2, (mfr0 d 0).2.2.2.2.trans a3⟩
    · rw [if_neg i0, if_neg (fun a => i0 a.2)]
      exact ⟨_, rfl, h0, (mfr0 d 0).2.2.2.2⟩
  · rw [(m_isSet h0.1 set).2 q, Option.bind_some, if_neg (by decide), if_neg (fun a => q a.1)]
    exact ⟨_, rfl, h0, (mfr0 d 0).2.2.2.2⟩
theorem m_shownBy {S : sk_S} {d : sk_D} {A : AS} (h : RM S d A) (hA : okA A) (set i : Int32) : ∃ d', fX11_shownBy S d 94 set i = some (x_way A true set i, d') ∧ RM S d' A ∧ Fr mdl d d' := by
  have hS := h.1.1
  have h0 := h.m0 0
  unfold fX11_shownBy fX11_comesBy x_way
  rw [pi94 hS, Option.bind_some, if_pos (kd94 hS), if_pos (kd94 hS)]
  by_cases q : hAl (as_L A) set
  · rw [(m_isSet h0.1 set).1 q, Option.bind_some, if_pos rfl]
    by_cases i0 : 0 ≤ i
    · obtain ⟨d2, a1, a2, a3, a4, a5, a6⟩ := m_laysFar h0 hA true set
      obtain ⟨k, hk, rfl⟩ := nI_of (x := i) (by rw [Int32.not_lt]; exact i0)
      rw [if_pos i0, if_pos (show hAl (as_L A) set ∧ 0 ≤ nI k from ⟨q, i0⟩), if_pos (kd94 hS), a1, Option.bind_some]
      dsimp only
      rw [if_pos (kd94 hS), m_moveAt a2 hA true set a4 a5 a6 hk, Option.bind_some, nI_clamp hk]
      exact ⟨d2, rfl, a2, (mfr0 d 0).2.2.2.2.trans a3⟩
    · rw [if_neg i0, if_neg (fun a => i0 a.2)]
      exact ⟨_, rfl, h0, (mfr0 d 0).2.2.2.2⟩
  · rw [(m_isSet h0.1 set).2 q, Option.bind_some, if_neg (by decide), if_neg (fun a => q a.1)]
    exact ⟨_, rfl, h0, (mfr0 d 0).2.2.2.2⟩
