/-! the class scans the tape -/
theorem sub3 {a b : Nat} (h : b ≤ a) (ha : a ≤ 1000) : (nI a - nI b ≤ (3 : Int32)) ↔ a ≤ b + 3 := by
  have : nI a - nI b = nI (a - b) := by rw [show a = (a - b) + b by omega, ← nI_add, Int32.add_sub_cancel, Nat.add_sub_cancel]
  rw [this, show (3 : Int32) = nI 3 from rfl, nI_leI (by omega) (by omega)]
  omega
theorem sub6 {a b : Nat} (h : b ≤ a) (ha : a ≤ 1000) : ((6 : Int32) < nI a - nI b) ↔ b + 6 < a := by
  have : nI a - nI b = nI (a - b) := by rw [show a = (a - b) + b by omega, ← nI_add, Int32.add_sub_cancel, Nat.add_sub_cancel]
  rw [this, show (6 : Int32) = nI 6 from rfl, nI_ltI (by omega) (by omega)]
  omega
theorem d6 : ∀ k, k < 19 → nI (6 * k) / 6 = nI k := by decide +kernel
theorem fwk_sp {c : Nat → Int32} (Ws : List (List Int32)) (no : Int32) (q e : Nat) : ∀ f k, (fwk c Ws no q e f k = no ∧ ∀ j, k ≤ j → j < k + f → ¬ mtc c (Ws.getD j []) q e) ∨ ∃ j, k ≤ j ∧ j < k + f ∧ fwk c Ws no q e f k = nI j ∧ mtc c (Ws.getD j []) q e
  | 0, k => Or.inl ⟨rfl, fun j a b => by omega⟩
  | f + 1, k => by
    unfold fwk
    by_cases h : mtc c (Ws.getD k []) q e
    · rw [if_pos h]; exact Or.inr ⟨k, by omega, by omega, rfl, h⟩
    · rw [if_neg h]
      rcases fwk_sp Ws no q e f (k + 1) with ⟨a, b⟩ | ⟨j, a, b, r⟩
      · refine Or.inl ⟨a, fun j h1 h2 => ?_⟩
        by_cases e : j = k
        · rw [e]; exact h
        · exact b j (by omega) (by omega)
      · exact Or.inr ⟨j, by omega, by omega, r⟩
section
variable {S : sk_S} {d : sk_D} {c : Nat → Int32} {n : Nat}
theorem c_runEnd (hS : Sh S) (hn : n ≤ 900) (hc : ∀ j, j < n → d.1 55 j = c j) (lo hi : Int32) : ∀ f p, p ≤ n → n - p = f → fX5_runEnd S d 55 (nI n) (nI p) lo hi = some (nI (lR c n lo hi p)) := by
  intro f
  have un : ∀ p, fX5_runEnd S d 55 (nI n) (nI p) lo hi = sk_itr (fX5_runEnd_L3 S d 55 (nI n) lo hi) (nI p) := by
    intro p; unfold fX5_runEnd; cases sk_itr (fX5_runEnd_L3 S d 55 (nI n) lo hi) (nI p) <;> rfl
  induction f with
  | zero =>
    intro p hp e
    rw [un]
    apply sk_itr_exit
    unfold fX5_runEnd_L3
    rw [if_pos (by rw [nI_leI (by omega) (by omega)]; omega), lR_e (by omega)]
  | succ f ih =>
    intro p hp e
    have ih' := ih (p + 1) (by omega) (by omega)
    rw [un] at ih' ⊢
    have hl := li55 hS d (j := p) (by omega)
    rw [hc p (by omega)] at hl
    by_cases q1 : c p < lo
    · rw [lR_e (fun _ a => a.1 q1)]
      apply sk_itr_exit
      unfold fX5_runEnd_L3
      rw [if_neg (by rw [nI_leI (by omega) (by omega)]; omega), hl, Option.bind_some, if_pos q1]
    · by_cases q2 : hi < c p
      · rw [lR_e (fun _ a => a.2 q2)]
        apply sk_itr_exit
        unfold fX5_runEnd_L3
        rw [if_neg (by rw [nI_leI (by omega) (by omega)]; omega), hl, Option.bind_some, if_neg q1, Option.bind_some, if_pos q2]
      · rw [lR_s (by omega) ⟨q1, q2⟩, sk_itr_step (s1 := nI (p + 1)) ?_]
        · exact ih'
        · unfold fX5_runEnd_L3
          rw [if_neg (by rw [nI_leI (by omega) (by omega)]; omega), hl, Option.bind_some, if_neg q1, Option.bind_some, if_neg q2, nI_1]
theorem c_number2 (hS : Sh S) (hn : n ≤ 900) (hc : ∀ j, j < n → d.1 55 j = c j) {q e : Nat} (hq : q ≤ e) (he : e ≤ n) : fX5_numberAt S d 55 (nI q) (nI e) = some (nmb c q (e - q)) := by
  have key : ∀ f k, f + k = e - q → sk_itr (fX5_numberAt_L5 S d 55 (nI e)) (nmb c q k, nI (q + k)) = some (nmb c q (e - q)) := by
    intro f
    induction f with
    | zero =>
      intro k hk
      apply sk_itr_exit
      unfold fX5_numberAt_L5
      dsimp only
      rw [if_pos (by rw [nI_leI (by omega) (by omega)]; omega), show k = e - q by omega]
    | succ f ih =>
      intro k hk
      rw [← ih (k + 1) (by omega)]
      apply sk_itr_step
      have hl := li55 hS d (j := q + k) (by omega)
      rw [hc (q + k) (by omega)] at hl
      unfold fX5_numberAt_L5
      dsimp only
      rw [if_neg (by rw [nI_leI (by omega) (by omega)]; omega), hl, Option.bind_some, nI_1]
      rfl
  unfold fX5_numberAt
  have := key (e - q) 0 (by omega)
  rw [show ((0 : Int32), nI q) = (nmb c q 0, nI (q + 0)) from rfl, this]
  rfl
def pdc (c : Nat → Int32) (q e j : Nat) : Int32 := if e ≤ q + j then 32 else c (q + j)
theorem pad_mt {V : List Int32} {q e : Nat} (hq : q ≤ e) (h6 : e ≤ q + 6) (hV : V.length ≤ 6) (hV2 : ∀ j, j < V.length → V.getD j 32 ≠ 32) (hc : ∀ j, q ≤ j → j < e → c j ≠ 32) : (∀ j, j < 6 → V.getD j 32 = pdc c q e j) ↔ mtc c V q e := by
  have dflt : ∀ j, V.length ≤ j → V.getD j 32 = 32 := fun j hj => by rw [List.getD_eq_getElem?_getD, List.getElem?_eq_none hj]; rfl
  unfold pdc
  constructor
  · intro h
    have l1 : ¬ V.length < e - q := by
      intro a
      have := h V.length (by omega)
      rw [dflt _ (Nat.le_refl _), if_neg (by omega)] at this
      exact hc _ (by omega) (by omega) this.symm
    have l2 : ¬ e - q < V.length := by
      intro a
      have := h (e - q) (by omega)
      rw [if_pos (by omega)] at this
      exact hV2 _ a this
    refine ⟨by omega, fun j hj => ?_⟩
    have := h j (by omega)
    rw [if_neg (by omega)] at this
    exact this.symm
  · rintro ⟨h1, h2⟩ j hj
    by_cases a : j < V.length
    · rw [if_neg (by omega), h2 j a]
    · rw [if_pos (by omega), dflt j (by omega)]
theorem c_word1 (hS : Sh S) (hn : n ≤ 900) (hc : ∀ j, j < n → d.1 55 j = c j) {q e k : Nat} (hq : q ≤ e) (he : e ≤ n) (hk : k < 19) : ∀ f j fl, f + j = 6 → ∃ y, sk_itr (fX5_wordAt_L28 S d 55 (nI q) (nI e) (nI (6 * k))) (fl, nI j) = some y ∧ (y = 0 ↔ ¬ (fl ≠ 0 ∧ ∀ i, j ≤ i → i < 6 → (cwl.getD k []).getD i 32 = pdc c q e i)) := by
  intro f
  induction f with
  | zero =>
    intro j fl hj
    refine ⟨fl, sk_itr_exit ?_, ?_⟩
    · unfold fX5_wordAt_L28
      dsimp only
      rw [if_pos (by rw [show (6 : Int32) = nI 6 from rfl, nI_leI (by omega) (by omega)]; omega)]
    · constructor
      · intro a b; exact b.1 a
      · intro a
        apply Classical.byContradiction
        intro b
        exact a ⟨b, fun i h1 h2 => by omega⟩
  | succ f ih =>
    intro j fl hj
    have hj6 : j < 6 := by omega
    have ch := cw_ch k hk j hj6
    have g6 : ¬ (6 : Int32) ≤ nI j := by rw [show (6 : Int32) = nI 6 from rfl, nI_leI (by omega) (by omega)]; omega
    have body : fX5_wordAt_L28 S d 55 (nI q) (nI e) (nI (6 * k)) (fl, nI j) = fX5_wordAt_J54i28 (nI (6 * k)) fl (nI j) (pdc c q e j) := by
      unfold fX5_wordAt_L28 pdc
      dsimp only
      rw [if_neg g6, nI_add]
      by_cases a : e ≤ q + j
      · rw [if_pos (by rw [nI_leI (by omega) (by omega)]; omega), if_pos a]
      · have hl := li55 hS d (j := q + j) (by omega)
        rw [hc (q + j) (by omega)] at hl
        rw [if_neg (by rw [nI_leI (by omega) (by omega)]; omega), hl, Option.bind_some, if_neg a]
    unfold fX5_wordAt_J54i28 at body
    by_cases z0 : fl = 0
    · rw [if_pos z0, nI_1] at body
      obtain ⟨y, a1, a2⟩ := ih (j + 1) 0 (by omega)
      refine ⟨y, by rw [sk_itr_step body]; exact a1, ?_⟩
      rw [a2]
      constructor
      · intro _ b; exact b.1 z0
      · intro _ b; exact b.1 rfl
    · rw [if_neg z0, nI_add, ch, Option.bind_some] at body
      by_cases m : (cwl.getD k []).getD j 32 = pdc c q e j
      · rw [if_pos m, nI_1] at body
        obtain ⟨y, a1, a2⟩ := ih (j + 1) 1 (by omega)
        refine ⟨y, by rw [sk_itr_step body]; exact a1, ?_⟩
        rw [a2]
        constructor
        · intro h b; exact h ⟨by decide, fun i h1 h2 => b.2 i (by omega) h2⟩
        · intro h b
          refine h ⟨z0, fun i h1 h2 => ?_⟩
          by_cases ee : i = j
          · rw [ee]; exact m
          · exact b.2 i (by omega) h2
      · rw [if_neg m, nI_1] at body
        obtain ⟨y, a1, a2⟩ := ih (j + 1) 0 (by omega)
        refine ⟨y, by rw [sk_itr_step body]; exact a1, ?_⟩
        rw [a2]
        constructor
        · intro _ b; exact m (b.2 j (Nat.le_refl _) hj6)
        · intro _ b; exact b.1 rfl
theorem c_wordAt (hS : Sh S) (hn : n ≤ 900) (hc : ∀ j, j < n → d.1 55 j = c j) {q e : Nat} (hq : q < e) (he : e ≤ n) (hb : ∀ j, q ≤ j → j < e → c j ≠ 32) : fX5_wordAt S d 55 (nI q) (nI e) = some (fwk c cwl 201 q e 19 0) := by
  have key : ∀ f k, f + k = 19 → sk_itr (fX5_wordAt_L2 S d 55 (nI q) (nI e)) (nI (6 * k)) = some (fwk c cwl 201 q e f k) := by
    intro f
    induction f with
    | zero =>
      intro k hk
      apply sk_itr_exit
      unfold fX5_wordAt_L2
      rw [show nI (6 * k) + (6 : Int32) = nI (6 * k + 6) from nI_add _ 6, if_pos (by rw [show (114 : Int32) = nI 114 from rfl, nI_ltI (by omega) (by omega)]; omega)]
      rfl
    | succ f ih =>
      intro k hk
      have g : ¬ (114 : Int32) < nI (6 * k + 6) := by rw [show (114 : Int32) = nI 114 from rfl, nI_ltI (by omega) (by omega)]; omega
      obtain ⟨v1, v2, v3⟩ := cw_len k (by omega)
      by_cases q6 : q + 6 < e
      · have nom : ∀ f k, k + f ≤ 19 → fwk c cwl 201 q e f k = 201 := by
          intro f k hk
          rcases fwk_sp (c := c) cwl 201 q e f k with ⟨a, _⟩ | ⟨j, _, b, _, r⟩
          · exact a
          · have := (cw_len j (by omega)).1
            have := r.1
            omega
        rw [nom (f + 1) k (by omega)]
        apply sk_itr_exit
        unfold fX5_wordAt_L2
        rw [show nI (6 * k) + (6 : Int32) = nI (6 * k + 6) from nI_add _ 6, if_neg g, if_pos ((sub6 (by omega) (by omega)).mpr q6)]
      · obtain ⟨y, a1, a2⟩ := c_word1 hS hn hc (k := k) (Nat.le_of_lt hq) he (by omega) 6 0 1 rfl
        have mm := pad_mt (c := c) (V := cwl.getD k []) (q := q) (e := e) (by omega) (by omega) v1 v3 hb
        have a1' : sk_itr (fX5_wordAt_L28 S d 55 (nI q) (nI e) (nI (6 * k))) ((1 : Int32), (0 : Int32)) = some y := a1
        have yz : y = 0 ↔ ¬ mtc c (cwl.getD k []) q e := by
          rw [a2, ← mm]
          constructor
          · intro h b; exact h ⟨by decide, fun i _ hi => b i hi⟩
          · intro h b; exact h (fun i hi => b.2 i (Nat.zero_le _) hi)
        unfold fwk
        by_cases m : mtc c (cwl.getD k []) q e
        · rw [if_pos m]
          apply sk_itr_exit
          unfold fX5_wordAt_L2
          rw [show nI (6 * k) + (6 : Int32) = nI (6 * k + 6) from nI_add _ 6, if_neg g, if_neg (fun a => q6 ((sub6 (by omega) (by omega)).mp a)), a1', Option.bind_some, if_neg (fun a => yz.mp a m), d6 k (by omega)]
        · rw [if_neg m, ← ih (k + 1) (by omega)]
          apply sk_itr_step
          unfold fX5_wordAt_L2
          rw [show nI (6 * k) + (6 : Int32) = nI (6 * k + 6) from nI_add _ 6, if_neg g, if_neg (fun a => q6 ((sub6 (by omega) (by omega)).mp a)), a1', Option.bind_some, if_pos (yz.mpr m)]
          rfl
  unfold fX5_wordAt
  rw [show (0 : Int32) = nI (6 * 0) from rfl, key 19 0 rfl]
  rfl
def scn (b : Nat) : Prop := b = 21 ∨ (37 ≤ b ∧ b ≤ 39)
def WR (T : TKS) (d : sk_D) (k : Nat) : Prop := d.1 21 6 = nI k ∧ ∀ i, i < k → d.1 37 i = T.1 i ∧ d.1 38 i = T.2.1 i ∧ d.1 39 i = T.2.2 i
theorem c_add2 {T : TKS} (hS : Sh S) {k : Nat} (hk : k < 901) (h : WR T d k) : ∃ d', fX5_add S d 21 (T.1 k) (T.2.1 k) (T.2.2 k) = some d' ∧ WR T d' (k + 1) ∧ Fr scn d d' := by
  have g1 : ∀ a, (sk_uI d 37 k a).1 21 6 = nI k := fun a => by rw [uI_a _ _ _ 21 _ (by omega)]; exact h.1
  have g2 : ∀ a b, (sk_uI (sk_uI d 37 k a) 38 k b).1 21 6 = nI k := fun a b => by rw [uI_a _ _ _ 21 _ (by omega)]; exact g1 a
  have g3 : ∀ a b e, (sk_uI (sk_uI (sk_uI d 37 k a) 38 k b) 39 k e).1 21 6 = nI k := fun a b e => by rw [uI_a _ _ _ 21 _ (by omega)]; exact g2 a b
  unfold fX5_add
  rw [gi21 hS, Option.bind_some, gr21_3 hS, Option.bind_some, al37 hS, Option.bind_some, h.1, if_neg (by rw [nI_leI (by omega) (by omega)]; omega), Option.bind_some, Option.bind_some, si37 hS _ _ hk, Option.bind_some, gr21_4 hS, Option.bind_some, gi21 hS, Option.bind_some, g1, si38 hS _ _ hk, Option.bind_some, gr21_5 hS, Option.bind_some, gi21 hS, Option.bind_some, g2, si39 hS _ _ hk, Option.bind_some, gi21 hS, Option.bind_some, g3, pi21 hS, Option.bind_some]
  refine ⟨_, rfl, ⟨by rw [uI_s, nI_1], fun i hi => ?_⟩, (((Fr.uI (P := scn) _ (Or.inr (by omega))).trans (Fr.uI (P := scn) _ (Or.inr (by omega)))).trans (Fr.uI (P := scn) _ (Or.inr (by omega)))).trans (Fr.uI (P := scn) _ (Or.inl rfl))⟩
  refine ⟨?_, ?_, ?_⟩
  · rw [uI_a _ _ _ 37 _ (by omega), uI_a _ _ _ 37 _ (by omega), uI_a _ _ _ 37 _ (by omega)]
    by_cases e : i = k
    · rw [e, uI_s]
    · rw [uI_k _ _ _ _ _ e]; exact (h.2 i (by omega)).1
  · rw [uI_a _ _ _ 38 _ (by omega), uI_a _ _ _ 38 _ (by omega)]
    by_cases e : i = k
    · rw [e, uI_s]
    · rw [uI_k _ _ _ _ _ e, uI_a _ _ _ 38 _ (by omega)]; exact (h.2 i (by omega)).2.1
  · rw [uI_a _ _ _ 39 _ (by omega)]
    by_cases e : i = k
    · rw [e, uI_s]
    · rw [uI_k _ _ _ _ _ e, uI_a _ _ _ 39 _ (by omega), uI_a _ _ _ 39 _ (by omega)]; exact (h.2 i (by omega)).2.2
theorem i2c256 : ∀ k, k < 256 → ((nI k).toUInt32 % 65536).toInt32 = nI k := by decide +kernel
theorem c_scanL {z : Nat} (hS : Sh S) (hn : n ≤ 900) (h256 : ∀ j, j < n → ∃ k, k < 256 ∧ c j = nI k) (hT : okT2 (lxT c n) z) : ∀ f p k d, n - p = f → p ≤ n → k ≤ z → lxp c n p = lxp c n (lxP c n k) → WR (lxT c n) d k → (∀ j, j < n → d.1 55 j = c j) → ∃ d', sk_itr (fX5_scan_L7 S 21 55 (nI n)) (nI p, d) = some d' ∧ WR (lxT c n) d' z ∧ Fr scn d d' ∧ lxp c n n = lxp c n (lxP c n z) := by
  intro f
  induction f using Nat.strongRecOn with
  | ind f ih =>
    intro p k d hf hp hk hl hw hc
    by_cases e0 : p = n
    · subst e0
      have k202 : (lxT c p).1 k = 202 := by
        show (lxp c p (lxP c p k)).1.1 = 202
        rw [← hl]
        unfold lxp
        rw [lS_e (by omega)]
        exact (lxq_ok (Nat.le_refl p)).1.mpr rfl
      have kz : k = z := by
        rcases Nat.lt_or_ge k z with a | a
        · exact absurd k202 (hT.2.1 k a)
        · omega
      subst kz
      refine ⟨d, sk_itr_exit ?_, hw, Fr.refl _ _, hl⟩
      unfold fX5_scan_L7
      dsimp only
      rw [if_pos (by rw [nI_leI (by omega) (by omega)]; omega)]
    · have hpn : p < n := by omega
      have hlp := li55 hS d (j := p) (by omega)
      rw [hc p hpn] at hlp
      have gp : ¬ nI n ≤ nI p := by rw [nI_leI (by omega) (by omega)]; omega
      obtain ⟨x, hx, ex⟩ := h256 p hpn
      -- a step over a blank
      have blank : (c p = 10 ∨ c p = 32) → fX5_scan_L7 S 21 55 (nI n) (nI p, d) = some (.inl (nI (p + 1), d)) → ∃ d', sk_itr (fX5_scan_L7 S 21 55 (nI n)) (nI p, d) = some d' ∧ WR (lxT c n) d' z ∧ Fr scn d d' ∧ lxp c n n = lxp c n (lxP c n z) := by
        intro b body
        obtain ⟨d', a1, a2⟩ := ih (n - (p + 1)) (by omega) (p + 1) k d rfl (by omega) hk (by rw [← hl]; unfold lxp; rw [lS_s hpn b]) hw hc
        exact ⟨d', by rw [sk_itr_step body]; exact a1, a2⟩
      -- a step over a piece
      have piece : ¬ (c p = 10 ∨ c p = 32) → (∀ d1, fX5_add S d 21 (lxq c n p).1.1 (lxq c n p).1.2.1 (lxq c n p).1.2.2 = some d1 → fX5_scan_L7 S 21 55 (nI n) (nI p, d) = some (.inl (nI (lxq c n p).2, d1))) → ∃ d', sk_itr (fX5_scan_L7 S 21 55 (nI n)) (nI p, d) = some d' ∧ WR (lxT c n) d' z ∧ Fr scn d d' ∧ lxp c n n = lxp c n (lxP c n z) := by
        intro b body
        have lq : lxp c n p = lxq c n p := by unfold lxp; rw [lS_e (fun _ => b)]
        obtain ⟨o1, o2, o3, o4⟩ := lxq_ok (c := c) hp
        have tk : lxq c n p = lxp c n (lxP c n k) := by rw [← lq]; exact hl
        have kz : k < z := by
          rcases Nat.lt_or_ge k z with a | a
          · exact a
          · have e : k = z := by omega
            have : (lxT c n).1 k = 202 := by rw [e]; exact hT.1
            have : (lxq c n p).1.1 = 202 := by rw [tk]; exact this
            exact absurd (o1.mp this) e0
        have hz := hT.2.2.1
        obtain ⟨d1, a1, a2, a3⟩ := c_add2 hS (by omega) hw
        have bd := body d1 (by rw [tk]; exact a1)
        have p2 := o2 hpn
        obtain ⟨d', b1, b2, b3, b4⟩ := ih (n - (lxq c n p).2) (by omega) (lxq c n p).2 (k + 1) d1 rfl o3 (by omega) (by rw [tk]; rfl) a2 (fun j hj => by rw [a3.i (b := 55) (by unfold scn; omega)]; exact hc j hj)
        exact ⟨d', by rw [sk_itr_step bd]; exact b1, b2, a3.trans b3, b4⟩
      have re : ∀ a : Nat, nI a - (1 : Int32) + 1 = nI a := fun a => Int32.sub_add_cancel _ _
      by_cases h1 : ¬ c p < 97 ∧ ¬ 122 < c p
      · have nb : ¬ (c p = 10 ∨ c p = 32) := fun a => h1.1 (by rcases a with a | a <;> rw [a] <;> decide)
        obtain ⟨r1, r2, r3, r4⟩ := lR_ok (c := c) (lo := 97) (hi := 122) (show p ≤ n from hp)
        have r5 : p < lR c n 97 122 p := by
          have := (lR_ok (c := c) (lo := 97) (hi := 122) (show p + 1 ≤ n from hpn)).1
          rw [lR_s hpn h1]; omega
        have q : lxq c n p = ((fwk c cwl 201 p (lR c n 97 122 p) 19 0, nI p, 0), lR c n 97 122 p) := by unfold lxq; rw [if_neg (by omega), if_pos h1]
        refine piece nb (fun d1 hd => ?_)
        rw [q] at hd ⊢
        dsimp only at hd ⊢
        unfold fX5_scan_L7
        dsimp only
        rw [if_neg gp, hlp, Option.bind_some, if_neg h1.1, if_neg h1.2, c_runEnd hS hn hc 97 122 _ p hp rfl, Option.bind_some, c_wordAt hS hn hc r5 r2 (fun j a b e => by
          have := (r3 j a b).1
          rw [e] at this
          exact this (by decide)), Option.bind_some, if_pos (kd21 hS), hd, Option.bind_some, re]
      · have j64 : fX5_scan_L7 S 21 55 (nI n) (nI p, d) = fX5_scan_J64i7 S 21 55 (nI n) (nI p) (c p) d := by
          unfold fX5_scan_L7
          dsimp only
          rw [if_neg gp, hlp, Option.bind_some]
          by_cases a : c p < 97
          · rw [if_pos a]
          · rw [if_neg a, if_pos (Classical.byContradiction (fun b => h1 ⟨a, b⟩))]
        by_cases h2 : ¬ c p < 48 ∧ ¬ 57 < c p
        · have nb : ¬ (c p = 10 ∨ c p = 32) := fun a => h2.1 (by rcases a with a | a <;> rw [a] <;> decide)
          obtain ⟨r1, r2, r3, r4⟩ := lR_ok (c := c) (lo := 48) (hi := 57) (show p ≤ n from hp)
          have q : lxq c n p = ((if lR c n 48 57 p ≤ p + 3 then 200 else 203, nI p, nmb c p (lR c n 48 57 p - p)), lR c n 48 57 p) := by unfold lxq; rw [if_neg (by omega), if_neg h1, if_pos h2]
          refine piece nb (fun d1 hd => ?_)
          rw [q] at hd ⊢
          dsimp only at hd ⊢
          rw [j64]
          unfold fX5_scan_J64i7
          rw [if_neg h2.1, if_neg h2.2, c_runEnd hS hn hc 48 57 _ p hp rfl, Option.bind_some]
          unfold fX5_scan_J108i7
          rw [c_number2 hS hn hc r1 r2, Option.bind_some, if_pos (kd21 hS), re]
          by_cases a : lR c n 48 57 p ≤ p + 3
          · rw [if_pos a] at hd
            rw [if_pos ((sub3 r1 (by omega)).mpr a), hd, Option.bind_some]
          · rw [if_neg a] at hd
            rw [if_neg (fun b => a ((sub3 r1 (by omega)).mp b)), Option.bind_some, if_pos (kd21 hS), hd, Option.bind_some]
        · have j127 : fX5_scan_L7 S 21 55 (nI n) (nI p, d) = fX5_scan_J127i7 S 21 (nI p) (c p) d := by
            rw [j64]
            unfold fX5_scan_J64i7
            by_cases a : c p < 48
            · rw [if_pos a]
            · rw [if_neg a, if_pos (Classical.byContradiction (fun b => h2 ⟨a, b⟩))]
          unfold fX5_scan_J127i7 at j127
          by_cases b1 : c p = 10
          · rw [if_pos b1, nI_1] at j127
            exact blank (Or.inl b1) j127
          · by_cases b2 : c p = 32
            · rw [if_neg b1, if_pos b2, nI_1] at j127
              exact blank (Or.inr b2) j127
            · have q : lxq c n p = ((if c p ∈ sgl then c p else 203, nI p, 0), p + 1) := by unfold lxq; rw [if_neg (by omega), if_neg h1, if_neg h2]
              refine piece (fun a => a.elim b1 b2) (fun d1 hd => ?_)
              rw [q] at hd ⊢
              dsimp only at hd ⊢
              have ic : ((c p).toUInt32 % 65536).toInt32 = c p := by rw [ex]; exact i2c256 x hx
              rw [j127, if_neg b1, if_neg b2, ic]
              unfold fX5_scan_J161i7
              rw [if_pos (kd21 hS), nI_1]
              by_cases m : c p ∈ sgl
              · rw [if_pos m] at hd
                rw [if_pos ((sg_ix _).mpr m), hd, Option.bind_some]
              · rw [if_neg m] at hd
                rw [if_neg (fun a => m ((sg_ix _).mp a)), hd, Option.bind_some, if_pos (kd21 hS)]
theorem c_scan {z : Nat} (hS : Sh S) (hn : n ≤ 900) (h256 : ∀ j, j < n → ∃ k, k < 256 ∧ c j = nI k) (hT : okT2 (lxT c n) z) (hc : ∀ j, j < n → d.1 55 j = c j) : ∃ d7, fX5_scan S d 21 55 (nI n) = some d7 ∧ TOK (lxT c n) z d7 ∧ Fr scn d d7 := by
  have w0 : WR (lxT c n) (sk_uI d 21 6 0) 0 := ⟨uI_s _ _ _ _, fun i hi => by omega⟩
  obtain ⟨d1, a1, a2, a3, a4⟩ := c_scanL hS hn h256 hT (n - 0) 0 0 (sk_uI d 21 6 0) rfl (Nat.zero_le _) (Nat.zero_le _) rfl w0 (fun j hj => by rw [uI_a _ _ _ 55 _ (by omega)]; exact hc j hj)
  have hz := hT.2.2.1
  obtain ⟨d2, b1, b2, b3⟩ := c_add2 hS (by omega) a2
  have e : lxp c n (lxP c n z) = ((202, nI n, 0), n) := by
    rw [← a4]
    unfold lxp
    rw [lS_e (by omega)]
    unfold lxq
    rw [if_pos (Nat.le_refl n)]
  have e1 : (lxT c n).1 z = 202 := by show (lxp c n (lxP c n z)).1.1 = 202; rw [e]
  have e2 : (lxT c n).2.1 z = nI n := by show (lxp c n (lxP c n z)).1.2.1 = nI n; rw [e]
  have e3 : (lxT c n).2.2 z = 0 := by show (lxp c n (lxP c n z)).1.2.2 = 0; rw [e]
  rw [e1, e2, e3] at b1
  unfold fX5_scan
  rw [pi21 hS, Option.bind_some]
  have a1' : sk_itr (fX5_scan_L7 S 21 55 (nI n)) ((0 : Int32), sk_uI d 21 6 0) = some d1 := a1
  rw [a1', Option.bind_some, if_pos (kd21 hS), b1, Option.bind_some]
  exact ⟨d2, rfl, ⟨b2.1, fun i hi => b2.2 i (by omega)⟩, ((Fr.uI (P := scn) _ (Or.inl rfl)).trans a3).trans b3⟩
end
