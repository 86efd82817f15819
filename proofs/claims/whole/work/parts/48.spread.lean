/-! the class's walk: room, reaching, spreading -/
theorem Sh.mk {S : sk_S} (hS : Sh S) (h : 115 ≤ S.1.1) (t len sl : Nat) : Sh (sk_nS S t len sl) := by
  refine ⟨fun a ha => ?_, fun a ha h4 k => ?_⟩
  · show (if a = S.1.1 + 1 then (t, len) else S.2.1 a) = _
    rw [if_neg (by omega)]; exact hS.1 a ha
  · show (if a = S.1.1 + 1 then 0 else S.2.2 a k) = _
    rw [if_neg (by omega)]; exact hS.2 a ha h4 k
theorem Sh.r40 {S : sk_S} (hS : Sh S) (k r : Nat) : Sh (sk_uR S 40 k r) := by
  refine ⟨hS.1, fun a ha h4 j => ?_⟩
  show (if a = 40 ∧ j = k then r else S.2.2 a j) = _
  rw [if_neg (by omega)]; exact hS.2 a ha h4 j
theorem sh4 : ∀ n, n ≤ 8 → (1 : Int32) <<< ((2 : Int32) * nI n &&& 31) = nI (4 ^ n) := by decide +kernel
theorem cl8 : ∀ n, n ≤ 8 → (if (0 : Int32) < (if nI n < (8 : Int32) then nI n else (8 : Int32)) then (if nI n < (8 : Int32) then nI n else (8 : Int32)) else (0 : Int32)) = nI n := by decide +kernel
theorem mk_eq (S : sk_S) (d : sk_D) (t : Nat) {n : Nat} (hn : n ≤ 65536) : sk_mk S d t (nI n) = some (S.1.1 + 1, sk_nS S t n n, sk_nD S d) := by
  unfold sk_mk
  rw [nI_clamp (by omega), if_pos ⟨nI_pos (by omega), by omega⟩]
theorem nD_i (S : sk_S) (d : sk_D) {b : Nat} (h : b ≠ S.1.1 + 1) : (sk_nD S d).1 b = d.1 b := by funext j; simp [sk_nD, h]
theorem nD_j (S : sk_S) (d : sk_D) {b : Nat} (h : b ≠ S.1.1 + 1) : (sk_nD S d).2 b = d.2 b := by funext j; simp [sk_nD, h]
theorem c_fit {S : sk_S} {d : sk_D} {q c w m len n : Nat} (hS : Sh S) (hn : n ≤ 8) (hw : WS S q c w m len) (hz : ∀ i, i < len → d.1 c i = 0) :
    ∃ S' d' q' c' w' m' len', fX8_fit S d 40 (nI n) = some (S', d') ∧ Sh S' ∧ WS S' q' c' w' m' len' ∧ 4 ^ n ≤ len' ∧ (∀ i, i < len' → d'.1 c' i = 0) ∧ d'.1 40 2 = nI n ∧ d'.1 40 0 = d.1 40 0 ∧ Fr (wkc S) d d' := by
  obtain ⟨hq, hc, -, -⟩ := ws_q hS hw
  obtain ⟨wq, wc, ww, wm, n1, n2, n3, n4, n5, n6⟩ := hw.ad
  have hl2 := hw.len
  have w40 : wkc S 40 := Or.inl (by omega)
  have p4 := pow48 n hn
  unfold fX8_fit
  rw [cl8 n hn, pi40 hS, Option.bind_some, gi40 hS, Option.bind_some, uI_s, hc, Option.bind_some, kl_al hw.2.2.2.2.2.1, Option.bind_some, sh4 n hn]
  by_cases c0 : 4 ^ n ≤ len
  · rw [if_pos (nI_le c0 (by omega))]
    refine ⟨S, _, q, c, w, m, len, rfl, hS, hw, c0, ?_, uI_s _ _ _ _, uI_k _ _ _ _ _ (by decide), Fr.uI _ w40⟩
    intro i hi
    rw [uI_a _ _ _ _ _ n2]; exact hz i hi
  · rw [if_neg (nI_ge (by omega) (by omega))]
    have hw0 := hw
    obtain ⟨-, -, -, -, -, -, -, -, -, -, -, -, -, -, ⟨e, he, hle⟩, s1, s2, s3, s4⟩ := hw
    have hne : len * 4 ≤ 4 ^ n := by
      have : e < n := by
        rcases Nat.lt_or_ge e n with a | a
        · exact a
        · exfalso; apply c0; rw [hle]; exact Nat.pow_le_pow_right (by omega) a
      rw [hle, ← Nat.pow_succ]
      exact Nat.pow_le_pow_right (by omega) this
    have a1 : Sh (sk_nS S 20 (4 ^ n) (4 ^ n)) := hS.mk s1 _ _ _
    have pr : ∀ (T : sk_S) (k r : Nat), Sh T → r ≠ 0 → sk_pR T 40 7 k r = some (sk_uR T 40 k r) := fun T k r hT hr => if_pos ⟨kd40 hT, hr⟩
    have a2 : Sh (sk_uR (sk_nS S 20 (4 ^ n) (4 ^ n)) 40 3 (S.1.1 + 1)) := a1.r40 _ _
    have l2 : (sk_uR (sk_nS S 20 (4 ^ n) (4 ^ n)) 40 3 (S.1.1 + 1)).1.1 = S.1.1 + 1 := rfl
    have a3 : Sh (sk_nS (sk_uR (sk_nS S 20 (4 ^ n) (4 ^ n)) 40 3 (S.1.1 + 1)) 20 (4 ^ n) (4 ^ n)) := a2.mk (by omega) _ _ _
    have w1 : ¬ w = S.1.1 + 1 ∧ ¬ w = S.1.1 + 1 + 1 := by have := hw0.2.2.2.2.2.2.2.2.2.2.1; unfold wAd at this; omega
    have m1 : ¬ m = S.1.1 + 1 ∧ ¬ m = S.1.1 + 1 + 1 := by have := hw0.2.2.2.2.2.2.2.2.2.2.2.1; unfold wAd at this; omega
    have kw := hw0.2.2.2.2.2.2.1
    have km := hw0.2.2.2.2.2.2.2.1
    have g5 := hw0.2.2.1
    have g6 := hw0.2.2.2.1
    have aw := hw0.2.2.2.2.2.2.2.2.2.2.1
    have am := hw0.2.2.2.2.2.2.2.2.2.2.2.1
    have ew : ((sk_uR (sk_nS (sk_uR (sk_nS S 20 (4 ^ n) (4 ^ n)) 40 3 (S.1.1 + 1)) 20 (4 ^ n) (4 ^ n)) 40 4 (S.1.1 + 1 + 1)).2.1 w) = S.2.1 w := by
      show (if w = S.1.1 + 1 + 1 then _ else if w = S.1.1 + 1 then _ else S.2.1 w) = _
      rw [if_neg w1.2, if_neg w1.1]
    have em : ((sk_uR (sk_nS (sk_uR (sk_nS S 20 (4 ^ n) (4 ^ n)) 40 3 (S.1.1 + 1)) 20 (4 ^ n) (4 ^ n)) 40 4 (S.1.1 + 1 + 1)).2.1 m) = S.2.1 m := by
      show (if m = S.1.1 + 1 + 1 then _ else if m = S.1.1 + 1 then _ else S.2.1 m) = _
      rw [if_neg m1.2, if_neg m1.1]
    rw [mk_eq S _ 20 p4.2, Option.bind_some]
    dsimp only
    rw [pr _ _ _ a1 (by omega), Option.bind_some, mk_eq _ _ 20 p4.2, Option.bind_some]
    dsimp only
    rw [l2, pr _ _ _ a3 (by omega), Option.bind_some]
    refine ⟨_, _, S.1.1 + 1, S.1.1 + 1 + 1, w, m, 4 ^ n, rfl, a3.r40 _ _, ?_, Nat.le_refl _, ?_, ?_, ?_, ?_⟩
    · refine ⟨?_, ?_, ?_, ?_, ?_, ?_, ?_, ?_, ?_, ?_, ?_, ?_, by omega, hw0.2.2.2.2.2.2.2.2.2.2.2.2.2.1, ⟨n, hn, rfl⟩, ?_, ?_, ?_, ?_⟩
      · simp [sk_uR, sk_nS, show ¬ S.1.1 = 38 by omega, show ¬ S.1.1 = 39 by omega]
      · simp [sk_uR, sk_nS, show ¬ S.1.1 = 38 by omega, show ¬ S.1.1 = 39 by omega]
      · simp [sk_uR, sk_nS, show ¬ S.1.1 = 38 by omega, show ¬ S.1.1 = 39 by omega]; exact g5
      · simp [sk_uR, sk_nS, show ¬ S.1.1 = 38 by omega, show ¬ S.1.1 = 39 by omega]; exact g6
      · simp [sk_uR, sk_nS]
      · simp [sk_uR, sk_nS]
      · rw [ew]; exact kw
      · rw [em, ew]; exact km
      · right; simp [sk_uR, sk_nS]; omega
      · right; simp [sk_uR, sk_nS]; omega
      · unfold wAd at aw ⊢; simp [sk_uR, sk_nS]; omega
      · unfold wAd at am ⊢; simp [sk_uR, sk_nS]; omega
      · simp [sk_uR, sk_nS]; omega
      · rw [ew]; simp [sk_uR, sk_nS]; omega
      · rw [ew]; simp [sk_uR, sk_nS]; omega
      · rw [ew]; omega
    · intro i hi
      simp [sk_nD, sk_uR, sk_nS]
    · rw [nD_i _ _ (by rw [l2]; omega), nD_i _ _ (by omega), uI_s]
    · rw [nD_i _ _ (by rw [l2]; omega), nD_i _ _ (by omega), uI_k _ _ _ _ _ (by decide)]
    · intro b hb
      unfold wkc at hb
      refine ⟨?_, ?_⟩
      · rw [nD_i _ _ (by rw [l2]; omega), nD_i _ _ (by omega), uI_a _ _ _ _ _ (by omega)]
      · rw [nD_j _ _ (by rw [l2]; omega), nD_j _ _ (by omega)]
        rfl
/-- a queue in the walk's cells -/
def wkQ (d : sk_D) (L : LF) (q c len : Nat) (Q : List TQ) : Prop := d.1 40 2 = nI (lf_n L) ∧ d.1 40 0 = nI Q.length ∧ (∀ i x, Q[i]? = some x → d.1 q i = x.1 ∧ d.1 c (spt (lf_n L) x.1).toNatClampNeg = 1 + x.2.2 + 32 * x.2.1) ∧ ∀ i, i < len → d.1 c i ≠ 0 → ∃ x, x ∈ Q ∧ (spt (lf_n L) x.1).toNatClampNeg = i
def okT (x : TQ) : Prop := (∃ b, b < 65536 ∧ x.2.1 = nI b) ∧ ∃ e, e < 32 ∧ x.2.2 = nI e
theorem okT.ne {x : TQ} (h : okT x) : (1 : Int32) + x.2.2 + 32 * x.2.1 ≠ 0 := by
  obtain ⟨⟨b, hb, eb⟩, e, he, ee⟩ := h
  rw [eb, ee, show (1 : Int32) = nI 1 from rfl, show (32 : Int32) = nI 32 from rfl, pk_mul, nI_add, nI_add]
  exact nI_ne0 (by omega) (by omega)
theorem c_reach {S : sk_S} {d : sk_D} {L : LF} {q c w m len : Nat} (hS : Sh S) (hk : okL L) (hw : WS S q c w m len) (hl : 4 ^ lf_n L ≤ len) {Q : List TQ} (hQ : wkQ d L q c len Q) (h1 : allS L Q) (h2 : nds Q) (h3 : ∀ x, x ∈ Q → okT x) {t b e : Int32} (ht : ¬ t < 0 → okS L t) (hbe : okT (t, b, e)) :
    ∃ d', fX8_reach S d 40 t b e = some d' ∧ wkQ d' L q c len (rch Q t b e) ∧ Fr (fun a => a = 40 ∨ a = q ∨ a = c) d d' ∧ d'.1 40 1 = d.1 40 1 := by
  obtain ⟨gq, gc, -, -⟩ := ws_q hS hw
  obtain ⟨wq, wc, ww, wm, n1, n2, n3, n4, n5, n6⟩ := hw.ad
  have hl2 := hw.len
  have kq := hw.2.2.2.2.1
  have kc := hw.2.2.2.2.2.1
  obtain ⟨q2, q0, qq, qx⟩ := hQ
  have okr := rch_ok (b := b) (e := e) h1 h2 ht
  have len4 := nds_len4 hk okr.1 okr.2
  unfold fX8_reach
  by_cases t0 : t < 0
  · rw [if_pos t0]
    have e1 : rch Q t b e = Q := by unfold rch; rw [if_pos (Or.inl t0)]
    rw [e1]
    exact ⟨d, rfl, ⟨q2, q0, qq, qx⟩, Fr.refl _ _, rfl⟩
  · rw [if_neg t0]
    have okt := ht t0
    obtain ⟨z, hz1, ez⟩ := spt_nI hk okt.1.z
    have sp := c_spot (d := d) hS hk hw q2 hl okt.1.z
    rw [ez] at sp
    simp (disch := omega) only [Option.bind_some, ↓reduceIte, gc, kd40 hS, gi40 hS, pi40 hS, sp, kl_lI kc hl2.2]
    by_cases c0 : d.1 c z = 0
    · have notin : ¬ (Q.any (fun x => x.1 == t)) = true := by
        intro a
        obtain ⟨x, hx, ex⟩ := (any_iff Q t).mp a
        obtain ⟨i, hi, hi2⟩ := List.mem_iff_getElem.mp hx
        have := (qq i x (by rw [List.getElem?_eq_getElem hi, hi2])).2
        rw [ex, ez, nI_clamp (by omega), c0] at this
        exact (h3 x hx).ne this.symm
      have e1 : rch Q t b e = Q ++ [(t, b, e)] := by
        unfold rch
        rw [if_neg (by intro a; rcases a with a | a; exact t0 a; exact notin a)]
      rw [e1, List.length_append] at len4
      simp at len4
      have c1 : ¬ len ≤ Q.length := by omega
      have u1 : ∀ (x : sk_D) (v : Int32), (sk_uI x c z v).1 40 = x.1 40 := fun x v => uI_a _ _ _ _ _ (by omega)
      have u2 : ∀ (x : sk_D) (v : Int32), (sk_uI x q Q.length v).1 40 = x.1 40 := fun x v => uI_a _ _ _ _ _ (by omega)
      simp (disch := omega) only [Option.bind_some, ↓reduceIte, nI_leI, nI_ltI, nI_eq, nI_1, c0, kd40 hS, gi40 hS, pi40 hS, q0, gq, kl_al kq, c1, gc, sp, kl_sI kc hl2.2, u1, kl_sI kq hl2.2, u2]
      refine ⟨_, rfl, ?_, Fr.tI (Fr.tI (Fr.tI (Fr.refl _ _) (Or.inr (Or.inr rfl))) (Or.inr (Or.inl rfl))) (Or.inl rfl), ?_⟩
      · rw [e1]
        refine ⟨?_, ?_, ?_, ?_⟩
        · rw [uI_k _ _ _ _ _ (by decide), u2, u1]; exact q2
        · rw [uI_s]; simp
        · intro i x hx
          rw [uI_a _ _ _ _ _ n1, uI_a _ _ _ _ _ n2, uI_a _ _ _ _ _ (Ne.symm n5)]
          rw [List.getElem?_append] at hx
          split at hx
          · next hi =>
            have old := qq i x hx
            have okx := h1 x (List.mem_of_getElem? hx)
            obtain ⟨z2, hz2, ez2⟩ := spt_nI hk okx.1.z
            refine ⟨?_, ?_⟩
            · rw [uI_k _ _ _ _ _ (by omega), uI_a _ _ _ _ _ n5]; exact old.1
            · rw [uI_k]
              · exact old.2
              · intro a
                have : x.1 = t := spt_injN hk okx okt (by rw [a, ez, nI_clamp (by omega)])
                exact notin ((any_iff Q t).mpr ⟨x, List.mem_of_getElem? hx, this⟩)
          · next hi =>
            rw [List.getElem?_singleton] at hx
            split at hx
            · next h0 =>
              cases hx
              have : i = Q.length := by omega
              subst this
              refine ⟨uI_s _ _ _ _, ?_⟩
              rw [ez, nI_clamp (by omega), uI_s]
            · cases hx
        · intro i hi hne
          rw [uI_a _ _ _ _ _ n2, uI_a _ _ _ _ _ (Ne.symm n5)] at hne
          by_cases ci : i = z
          · subst ci
            exact ⟨(t, b, e), by simp, by rw [ez, nI_clamp (by omega)]⟩
          · rw [uI_k _ _ _ _ _ ci] at hne
            obtain ⟨x, hx, ex⟩ := qx i hi hne
            exact ⟨x, by simp [hx], ex⟩
      · rw [uI_k _ _ _ _ _ (by decide), u2, u1]
    · rw [if_neg c0]
      obtain ⟨x, hx, ex⟩ := qx z (by omega) c0
      have : x.1 = t := spt_injN hk (h1 x hx) okt (by rw [ex, ez, nI_clamp (by omega)])
      have e1 : rch Q t b e = Q := by unfold rch; rw [if_pos (Or.inr ((any_iff Q t).mpr ⟨x, hx, this⟩))]
      rw [e1]
      exact ⟨d, rfl, ⟨q2, q0, qq, qx⟩, Fr.refl _ _, rfl⟩
