/-! the reference takes the next piece -/
theorem nf.refl (d : sk_D) : nf d d := ⟨fun _ _ => rfl, rfl, fun _ _ _ _ _ => rfl⟩
theorem nf.trans {d e f : sk_D} (h : nf d e) (g : nf e f) : nf d f := ⟨fun b hb => (g.1 b hb).trans (h.1 b hb), g.2.1.trans h.2.1, fun k a b c x => (g.2.2 k a b c x).trans (h.2.2 k a b c x)⟩
theorem nf.u (d : sk_D) {k : Nat} (hk : k = 6 ∨ k = 7 ∨ k = 9 ∨ k = 10) (v : Int32) : nf d (sk_uI d 94 k v) := ⟨fun b hb => uI_a _ _ _ _ _ hb, rfl, fun j a b c x => uI_k _ _ _ _ _ (by omega)⟩
def TPE (n : Nat) (c : Nat → Int32) (d : sk_D) : Prop := d.1 94 8 = nI n ∧ ∀ j, j < n → d.1 97 j = c j
theorem TPE.nf {n : Nat} {c : Nat → Int32} {d e : sk_D} (h : TPE n c d) (x : nf d e) : TPE n c e := ⟨by rw [x.2.2 8 (by omega) (by omega) (by omega) (by omega)]; exact h.1, fun j hj => by rw [x.1 97 (by omega)]; exact h.2 j hj⟩
theorem mt_one {c : Nat → Int32} {V U : List Int32} {q e : Nat} (h : mtc c V q e) (g : mtc c U q e) : V = U := by
  have hl : V.length = U.length := by have := h.1; have := g.1; omega
  apply List.ext_getElem hl
  intro j h1 h2
  have a := h.2 j h1
  have b := g.2 j h2
  rw [List.getD_eq_getElem?_getD, List.getElem?_eq_getElem h1, Option.getD_some] at a
  rw [List.getD_eq_getElem?_getD, List.getElem?_eq_getElem h2, Option.getD_some] at b
  rw [← a, ← b]
theorem wl_1 : ∀ j, j < 19 → ∀ k, k < 19 → cwl.getD j [] = mwl.getD k [] → rho (nI j) = nI k := by decide +kernel
theorem wl_2 : ∀ j, j < 19 → ∃ k, k < 19 ∧ cwl.getD j [] = mwl.getD k [] := by decide +kernel
theorem wl_3 : ∀ k, k < 19 → ∃ j, j < 19 ∧ cwl.getD j [] = mwl.getD k [] := by decide +kernel
theorem wl_rho (c : Nat → Int32) (q e : Nat) : fwk c mwl 22 q e 19 0 = rho (fwk c cwl 201 q e 19 0) := by
  rcases fwk_sp (c := c) cwl 201 q e 19 0 with ⟨a, b⟩ | ⟨j, _, a, b, m⟩
  · rcases fwk_sp (c := c) mwl 22 q e 19 0 with ⟨a', b'⟩ | ⟨k, _, a', b', m'⟩
    · rw [a, a']; decide +kernel
    · obtain ⟨j, h1, h2⟩ := wl_3 k (by omega)
      exact absurd (by rw [h2]; exact m') (b j (by omega) (by omega))
  · rcases fwk_sp (c := c) mwl 22 q e 19 0 with ⟨a', b'⟩ | ⟨k, _, a', b', m'⟩
    · obtain ⟨k, h1, h2⟩ := wl_2 j (by omega)
      exact absurd (by rw [← h2]; exact m) (b' k (by omega) (by omega))
    · rw [b, b', wl_1 j (by omega) k (by omega) (mt_one m m')]
def sgk (x : Int32) : Nat → Int32
  | 0 => 25
  | j + 1 => if x = sgl.getD j 0 then 30 + nI j else sgk x j
theorem sgk_in : ∀ x ∈ sgl, sgk x 12 = rho x := by decide +kernel
theorem sg_mem : ∀ j, j < 12 → sgl.getD j 0 ∈ sgl := by decide +kernel
theorem sgk_out {x : Int32} (h : x ∉ sgl) : ∀ j, j ≤ 12 → sgk x j = 25
  | 0, _ => rfl
  | j + 1, hj => by
    unfold sgk
    rw [if_neg (fun e => h (by rw [e]; exact sg_mem j (by omega)))]
    exact sgk_out h j (by omega)
theorem sgk_rho (x : Int32) : sgk x 12 = rho (if x ∈ sgl then x else 203) := by
  by_cases h : x ∈ sgl
  · rw [if_pos h]; exact sgk_in x h
  · rw [if_neg h, sgk_out h 12 (Nat.le_refl _)]; decide +kernel
section
variable {S : sk_S} {n : Nat} {c : Nat → Int32}
theorem m_see {d : sk_D} (hS : Sh S) (hn : n ≤ 900) (h : TPE n c d) {p : Nat} (hp : p ≤ n) : fX11_see S d 94 (nI p) = some (if n ≤ p then -1 else c p) := by
  unfold fX11_see
  rw [gi94 hS, Option.bind_some, h.1]
  by_cases a : n ≤ p
  · rw [if_pos (by rw [nI_leI (by omega) (by omega)]; omega), if_pos a]
  · rw [if_neg (by rw [nI_leI (by omega) (by omega)]; omega), gr94_3 hS, Option.bind_some, li97 hS d (j := p) (by omega), Option.bind_some, h.2 p (by omega), if_neg a]
theorem m_small (d : sk_D) (x : Int32) : fX11_isSmall S d x = some (decide (¬ x < 97 ∧ ¬ 122 < x)) := by
  unfold fX11_isSmall
  by_cases a : x < 97
  · rw [if_pos a, decide_eq_false (fun b => b.1 a)]
  · by_cases b : 122 < x
    · rw [if_neg a, if_pos b, decide_eq_false (fun e => e.2 b)]
    · rw [if_neg a, if_neg b, decide_eq_true ⟨a, b⟩]
theorem m_digit (d : sk_D) (x : Int32) : fX11_isDigit S d x = some (decide (¬ x < 48 ∧ ¬ 57 < x)) := by
  unfold fX11_isDigit
  by_cases a : x < 48
  · rw [if_pos a, decide_eq_false (fun b => b.1 a)]
  · by_cases b : 57 < x
    · rw [if_neg a, if_pos b, decide_eq_false (fun e => e.2 b)]
    · rw [if_neg a, if_neg b, decide_eq_true ⟨a, b⟩]
theorem m_skip (hS : Sh S) (hn : n ≤ 900) : ∀ f p d, n - p = f → p ≤ n → TPE n c d → d.1 94 6 = nI p → ∃ d', sk_itr (fX11_next_L8 S 94) d = some d' ∧ nf d d' ∧ d'.1 94 6 = nI (lS c n p) := by
  intro f
  induction f with
  | zero =>
    intro p d hf hp ht h6
    have se := m_see hS hn ht hp
    rw [if_pos (by omega)] at se
    refine ⟨d, sk_itr_exit ?_, nf.refl d, by rw [lS_e (by omega)]; exact h6⟩
    unfold fX11_next_L8
    rw [gi94 hS, Option.bind_some, if_pos (kd94 hS), h6, se, Option.bind_some, if_neg (by decide), Option.bind_some, if_pos (kd94 hS), se, Option.bind_some, if_neg (by decide)]
  | succ f ih =>
    intro p d hf hp ht h6
    have se := m_see hS hn ht hp
    rw [if_neg (by omega)] at se
    have step : (c p = 10 ∨ c p = 32) → fX11_next_L8 S 94 d = some (.inl (sk_uI d 94 6 (nI (p + 1)))) → ∃ d', sk_itr (fX11_next_L8 S 94) d = some d' ∧ nf d d' ∧ d'.1 94 6 = nI (lS c n p) := by
      intro b body
      have x := nf.u d (Or.inl rfl) (nI (p + 1))
      obtain ⟨d', a1, a2, a3⟩ := ih (p + 1) (sk_uI d 94 6 (nI (p + 1))) (by omega) (by omega) (ht.nf x) (uI_s _ _ _ _)
      exact ⟨d', by rw [sk_itr_step body]; exact a1, x.trans a2, by rw [lS_s (by omega) b]; exact a3⟩
    by_cases b1 : c p = 10
    · refine step (Or.inl b1) ?_
      unfold fX11_next_L8
      rw [gi94 hS, Option.bind_some, if_pos (kd94 hS), h6, se, Option.bind_some, if_pos b1, Option.bind_some, pi94 hS, Option.bind_some, nI_1]
    · by_cases b2 : c p = 32
      · refine step (Or.inr b2) ?_
        unfold fX11_next_L8
        rw [gi94 hS, Option.bind_some, if_pos (kd94 hS), h6, se, Option.bind_some, if_neg b1, Option.bind_some, if_pos (kd94 hS), se, Option.bind_some, if_pos b2, Option.bind_some, pi94 hS, Option.bind_some, nI_1]
      · refine ⟨d, sk_itr_exit ?_, nf.refl d, by rw [lS_e (fun _ a => a.elim b1 b2)]; exact h6⟩
        unfold fX11_next_L8
        rw [gi94 hS, Option.bind_some, if_pos (kd94 hS), h6, se, Option.bind_some, if_neg b1, Option.bind_some, if_pos (kd94 hS), se, Option.bind_some, if_neg b2]
theorem m_word (hS : Sh S) (hn : n ≤ 900) {q : Nat} : ∀ f p d, n - p = f → p ≤ n → TPE n c d → d.1 94 7 = nI p → d.1 94 6 = nI q → ∃ d', sk_itr (fX11_next_L89 S 94) d = some d' ∧ nf d d' ∧ d'.1 94 7 = nI (lR c n 97 122 p) ∧ d'.1 94 6 = nI q := by
  intro f
  induction f with
  | zero =>
    intro p d hf hp ht h7 h6
    have se := m_see hS hn ht hp
    rw [if_pos (by omega)] at se
    refine ⟨d, sk_itr_exit ?_, nf.refl d, by rw [lR_e (by omega)]; exact h7, h6⟩
    unfold fX11_next_L89
    rw [gi94 hS, Option.bind_some, if_pos (kd94 hS), h7, se, Option.bind_some, m_small, Option.bind_some, if_neg (by decide)]
  | succ f ih =>
    intro p d hf hp ht h7 h6
    have se := m_see hS hn ht hp
    rw [if_neg (by omega)] at se
    by_cases b : ¬ c p < 97 ∧ ¬ 122 < c p
    · have x := nf.u d (Or.inr (Or.inl rfl)) (nI (p + 1))
      obtain ⟨d', a1, a2, a3, a4⟩ := ih (p + 1) (sk_uI d 94 7 (nI (p + 1))) (by omega) (by omega) (ht.nf x) (uI_s _ _ _ _) (by rw [uI_k _ _ _ _ _ (by omega)]; exact h6)
      have body : fX11_next_L89 S 94 d = some (.inl (sk_uI d 94 7 (nI (p + 1)))) := by
        unfold fX11_next_L89
        rw [gi94 hS, Option.bind_some, if_pos (kd94 hS), h7, se, Option.bind_some, m_small, Option.bind_some, decide_eq_true b, if_pos rfl, Option.bind_some, pi94 hS, Option.bind_some, nI_1]
      exact ⟨d', by rw [sk_itr_step body]; exact a1, x.trans a2, by rw [lR_s (by omega) b]; exact a3, a4⟩
    · refine ⟨d, sk_itr_exit ?_, nf.refl d, by rw [lR_e (fun _ => b)]; exact h7, h6⟩
      unfold fX11_next_L89
      rw [gi94 hS, Option.bind_some, if_pos (kd94 hS), h7, se, Option.bind_some, m_small, Option.bind_some, decide_eq_false b, if_neg Bool.false_ne_true]
theorem m_numb (hS : Sh S) (hn : n ≤ 900) {q : Nat} : ∀ f p d, n - p = f → p ≤ n → q ≤ p → TPE n c d → d.1 94 7 = nI p → d.1 94 6 = nI q → d.1 94 10 = nmb c q (min (p - q) 3) → ∃ d', sk_itr (fX11_next_L146 S 94) d = some d' ∧ nf d d' ∧ d'.1 94 7 = nI (lR c n 48 57 p) ∧ d'.1 94 6 = nI q ∧ d'.1 94 10 = nmb c q (min (lR c n 48 57 p - q) 3) := by
  intro f
  induction f with
  | zero =>
    intro p d hf hp hq ht h7 h6 h10
    have se := m_see hS hn ht hp
    rw [if_pos (by omega)] at se
    refine ⟨d, sk_itr_exit ?_, nf.refl d, by rw [lR_e (by omega)]; exact h7, h6, by rw [lR_e (by omega)]; exact h10⟩
    unfold fX11_next_L146
    rw [gi94 hS, Option.bind_some, if_pos (kd94 hS), h7, se, Option.bind_some, m_digit, Option.bind_some, if_neg (by decide)]
  | succ f ih =>
    intro p d hf hp hq ht h7 h6 h10
    have se := m_see hS hn ht hp
    rw [if_neg (by omega)] at se
    have sb : nI p - nI q = nI (p - q) := by
      have : nI (p - q + q) - nI q = nI (p - q) := by rw [← nI_add, Int32.add_sub_cancel]
      rw [show p - q + q = p by omega] at this
      exact this
    by_cases b : ¬ c p < 48 ∧ ¬ 57 < c p
    · rw [lR_s (by omega) b]
      by_cases t : q + 3 ≤ p
      · have x := nf.u d (Or.inr (Or.inl rfl)) (nI (p + 1))
        obtain ⟨d', a1, a2, a3⟩ := ih (p + 1) (sk_uI d 94 7 (nI (p + 1))) (by omega) (by omega) (by omega) (ht.nf x) (uI_s _ _ _ _) (by rw [uI_k _ _ _ _ _ (by omega)]; exact h6) (by rw [uI_k _ _ _ _ _ (by omega), h10, Nat.min_eq_right (by omega), Nat.min_eq_right (by omega)])
        have body : fX11_next_L146 S 94 d = some (.inl (sk_uI d 94 7 (nI (p + 1)))) := by
          unfold fX11_next_L146
          rw [gi94 hS, Option.bind_some, if_pos (kd94 hS), h7, se, Option.bind_some, m_digit, Option.bind_some, decide_eq_true b, if_pos rfl, Option.bind_some, gi94 hS, Option.bind_some, h6, sb, if_pos (by rw [show (3 : Int32) = nI 3 from rfl, nI_leI (by omega) (by omega)]; omega), Option.bind_some, pi94 hS, Option.bind_some, nI_1]
        exact ⟨d', by rw [sk_itr_step body]; exact a1, x.trans a2, a3⟩
      · have e10 : (10 : Int32) * nmb c q (p - q) + c p - 48 = nmb c q (p - q + 1) := by
          show _ = nmb c q (p - q) * 10 + c (q + (p - q)) - 48
          rw [Int32.mul_comm, show q + (p - q) = p by omega]
        rw [Nat.min_eq_left (by omega)] at h10
        have x := (nf.u d (Or.inr (Or.inr (Or.inr rfl))) (nmb c q (p - q + 1))).trans (nf.u _ (Or.inr (Or.inl rfl)) (nI (p + 1)))
        obtain ⟨d', a1, a2, a3⟩ := ih (p + 1) (sk_uI (sk_uI d 94 10 (nmb c q (p - q + 1))) 94 7 (nI (p + 1))) (by omega) (by omega) (by omega) (ht.nf x) (uI_s _ _ _ _) (by rw [uI_k _ _ _ _ _ (by omega), uI_k _ _ _ _ _ (by omega)]; exact h6) (by rw [uI_k _ _ _ _ _ (by omega), uI_s, Nat.min_eq_left (by omega), show p + 1 - q = p - q + 1 by omega])
        have c7 : (sk_uI d 94 10 (nmb c q (p - q + 1))).1 94 7 = nI p := by rw [uI_k _ _ _ _ _ (by omega)]; exact h7
        have body : fX11_next_L146 S 94 d = some (.inl (sk_uI (sk_uI d 94 10 (nmb c q (p - q + 1))) 94 7 (nI (p + 1)))) := by
          unfold fX11_next_L146
          rw [gi94 hS, Option.bind_some, if_pos (kd94 hS), h7, se, Option.bind_some, m_digit, Option.bind_some, decide_eq_true b, if_pos rfl, Option.bind_some, gi94 hS, Option.bind_some, h6, sb, if_neg (by rw [show (3 : Int32) = nI 3 from rfl, nI_leI (by omega) (by omega)]; omega), gi94 hS, Option.bind_some, Option.bind_some, if_pos (kd94 hS), se, Option.bind_some, h10, e10, pi94 hS, Option.bind_some, gi94 hS, Option.bind_some, c7, pi94 hS, Option.bind_some, nI_1]
        exact ⟨d', by rw [sk_itr_step body]; exact a1, x.trans a2, a3⟩
    · refine ⟨d, sk_itr_exit ?_, nf.refl d, by rw [lR_e (fun _ => b)]; exact h7, h6, by rw [lR_e (fun _ => b)]; exact h10⟩
      unfold fX11_next_L146
      rw [gi94 hS, Option.bind_some, if_pos (kd94 hS), h7, se, Option.bind_some, m_digit, Option.bind_some, decide_eq_false b, if_neg Bool.false_ne_true]
theorem m_sign (hS : Sh S) (hn : n ≤ 900) {q : Nat} (hq : q < n) : ∀ f j d, f + j = 12 → TPE n c d → d.1 94 6 = nI q → d.1 94 9 = sgk (c q) j → ∃ d', sk_itr (fX11_next_L254 S 94) (nI j, d) = some d' ∧ nf d d' ∧ d'.1 94 6 = nI q ∧ d'.1 94 7 = d.1 94 7 ∧ d'.1 94 9 = sgk (c q) 12 := by
  intro f
  induction f with
  | zero =>
    intro j d hf ht h6 h9
    have e : j = 12 := by omega
    refine ⟨d, sk_itr_exit ?_, nf.refl d, h6, rfl, by rw [← e]; exact h9⟩
    unfold fX11_next_L254
    rw [if_pos (show (12 : Int32) ≤ nI j by rw [e]; decide)]
  | succ f ih =>
    intro j d hf ht h6 h9
    have se := m_see hS hn ht (Nat.le_of_lt hq)
    rw [if_neg (by omega)] at se
    have g : ¬ (12 : Int32) ≤ nI j := by rw [show (12 : Int32) = nI 12 from rfl, nI_leI (by omega) (by omega)]; omega
    by_cases b : c q = sgl.getD j 0
    · have x := nf.u d (Or.inr (Or.inr (Or.inl rfl))) (30 + nI j)
      obtain ⟨d', a1, a2, a3, a4, a5⟩ := ih (j + 1) (sk_uI d 94 9 (30 + nI j)) (by omega) (ht.nf x) (by rw [uI_k _ _ _ _ _ (by omega)]; exact h6) (by rw [uI_s]; unfold sgk; rw [if_pos b])
      have body : fX11_next_L254 S 94 (nI j, d) = some (.inl (nI (j + 1), sk_uI d 94 9 (30 + nI j))) := by
        unfold fX11_next_L254
        dsimp only
        rw [if_neg g, gi94 hS, Option.bind_some, if_pos (kd94 hS), h6, se, Option.bind_some, sg_ch j (by omega), Option.bind_some, if_pos b, pi94 hS, Option.bind_some, nI_1]
      exact ⟨d', by rw [sk_itr_step body]; exact a1, x.trans a2, a3, by rw [a4, uI_k _ _ _ _ _ (by omega)], a5⟩
    · obtain ⟨d', a1, a2⟩ := ih (j + 1) d (by omega) ht h6 (by rw [h9]; show _ = (if _ then _ else _); rw [if_neg b])
      have body : fX11_next_L254 S 94 (nI j, d) = some (.inl (nI (j + 1), d)) := by
        unfold fX11_next_L254
        dsimp only
        rw [if_neg g, gi94 hS, Option.bind_some, if_pos (kd94 hS), h6, se, Option.bind_some, sg_ch j (by omega), Option.bind_some, if_neg b, nI_1]
      exact ⟨d', by rw [sk_itr_step body]; exact a1, a2⟩
theorem m_key (hS : Sh S) (hn : n ≤ 900) {d : sk_D} (ht : TPE n c d) {q e : Nat} (hq : q ≤ e) (he : e ≤ n) (h6 : d.1 94 6 = nI q) (h7 : d.1 94 7 = nI e) : fX11_keyAt S d 94 = some (fwk c mwl 22 q e 19 0) := by
  have inner : ∀ k, k < 19 → ∀ f j, f + j = (mwl.getD k []).length → q + j ≤ e → (∀ i, i < j → c (q + i) = (mwl.getD k []).getD i 32) → ∃ y, sk_itr (fX11_keyAt_L15 S d 94 (nI (mst k))) (nI j) = some (nI y) ∧ y ≤ (mwl.getD k []).length ∧ q + y ≤ e ∧ (∀ i, i < y → c (q + i) = (mwl.getD k []).getD i 32) ∧ (y = (mwl.getD k []).length ∨ q + y = e ∨ c (q + y) ≠ (mwl.getD k []).getD y 32) := by
    intro k hk f
    obtain ⟨m1, m2, m3, m4⟩ := mw_ch k hk
    induction f with
    | zero =>
      intro j hj hqj hm
      refine ⟨j, sk_itr_exit ?_, by omega, hqj, hm, Or.inl (by omega)⟩
      have := m1 j (by omega)
      unfold fX11_keyAt_L15
      rw [nI_add, this, Option.bind_some, if_pos (by rw [List.getD_eq_getElem?_getD, List.getElem?_eq_none (by omega)]; rfl)]
    | succ f ih =>
      intro j hj hqj hm
      have ch := m1 j (by omega)
      have n32 := m4 j (by omega)
      by_cases a : q + j = e
      · refine ⟨j, sk_itr_exit ?_, by omega, hqj, hm, Or.inr (Or.inl a)⟩
        unfold fX11_keyAt_L15
        rw [nI_add, ch, Option.bind_some, if_neg n32, gi94 hS, Option.bind_some, gi94 hS, Option.bind_some, h6, h7, nI_add, if_pos (by rw [nI_leI (by omega) (by omega)]; omega)]
      · have hl := li97 hS d (j := q + j) (by omega)
        rw [ht.2 (q + j) (by omega)] at hl
        by_cases b : c (q + j) = (mwl.getD k []).getD j 32
        · obtain ⟨y, r1, r2⟩ := ih (j + 1) (by omega) (by omega) (fun i hi => by
            by_cases ee : i = j
            · rw [ee]; exact b
            · exact hm i (by omega))
          have body : fX11_keyAt_L15 S d 94 (nI (mst k)) (nI j) = some (.inl (nI (j + 1))) := by
            unfold fX11_keyAt_L15
            rw [nI_add, ch, Option.bind_some, if_neg n32, gi94 hS, Option.bind_some, gi94 hS, Option.bind_some, h6, h7, nI_add, if_neg (by rw [nI_leI (by omega) (by omega)]; omega), gr94_3 hS, Option.bind_some, Option.bind_some, nI_add, hl, Option.bind_some, Option.bind_some, if_pos b, nI_1]
          exact ⟨y, by rw [sk_itr_step body]; exact r1, r2⟩
        · refine ⟨j, sk_itr_exit ?_, by omega, hqj, hm, Or.inr (Or.inr b)⟩
          unfold fX11_keyAt_L15
          rw [nI_add, ch, Option.bind_some, if_neg n32, gi94 hS, Option.bind_some, gi94 hS, Option.bind_some, h6, h7, nI_add, if_neg (by rw [nI_leI (by omega) (by omega)]; omega), gr94_3 hS, Option.bind_some, Option.bind_some, nI_add, hl, Option.bind_some, Option.bind_some, if_neg b]
  have find : ∀ k, k < 19 → ∀ f j, f + j = (mwl.getD k []).length → sk_itr fX11_keyAt_L97 (nI (mst k + j)) = some (nI (mst k + (mwl.getD k []).length)) := by
    intro k hk f
    obtain ⟨m1, m2, m3, m4⟩ := mw_ch k hk
    induction f with
    | zero =>
      intro j hj
      have ch := m1 j (by omega)
      apply sk_itr_exit
      unfold fX11_keyAt_L97
      rw [ch, Option.bind_some, if_pos (by rw [List.getD_eq_getElem?_getD, List.getElem?_eq_none (by omega)]; rfl), show j = (mwl.getD k []).length by omega]
    | succ f ih =>
      intro j hj
      have ch := m1 j (by omega)
      rw [← ih (j + 1) (by omega)]
      apply sk_itr_step
      unfold fX11_keyAt_L97
      rw [ch, Option.bind_some, if_neg (m4 j (by omega)), nI_1]
      rfl
  have key : ∀ f k, f + k = 19 → sk_itr (fX11_keyAt_L4 S d 94) (nI k, nI (mst k)) = some (fwk c mwl 22 q e f k) := by
    intro f
    induction f with
    | zero =>
      intro k hk
      have e19 : k = 19 := by omega
      subst e19
      apply sk_itr_exit
      unfold fX11_keyAt_L4
      rw [if_pos (by decide)]
      rfl
    | succ f ih =>
      intro k hk
      obtain ⟨m1, m2, m3, m4⟩ := mw_ch k (by omega)
      obtain ⟨y, r1, r2, r3, r4, r5⟩ := inner k (by omega) (mwl.getD k []).length 0 rfl (by omega) (fun i hi => by omega)
      have r1' : sk_itr (fX11_keyAt_L15 S d 94 (nI (mst k))) (0 : Int32) = some (nI y) := r1
      have ch := m1 y r2
      have g : ¬ (101 : Int32) ≤ nI (mst k) := by rw [show (101 : Int32) = nI 101 from rfl, nI_leI (by omega) (by omega)]; omega
      have y32 : (mwl.getD k []).getD y 32 = 32 ↔ y = (mwl.getD k []).length := by
        constructor
        · intro a
          rcases Nat.lt_or_ge y (mwl.getD k []).length with b | b
          · exact absurd a (m4 y b)
          · omega
        · intro a; rw [List.getD_eq_getElem?_getD, List.getElem?_eq_none (by omega)]; rfl
      have j97 : fX11_keyAt_J97i4 (nI k) (nI (mst k)) = some (.inl (nI (k + 1), nI (mst (k + 1)))) := by
        unfold fX11_keyAt_J97i4
        have := find k (by omega) (mwl.getD k []).length 0 rfl
        rw [Nat.add_zero] at this
        rw [this, Option.bind_some, nI_1, nI_1, m2]
      unfold fwk
      by_cases m : mtc c (mwl.getD k []) q e
      · have yl : y = (mwl.getD k []).length := by
          rcases r5 with a | a | a
          · exact a
          · have := m.1; omega
          · rcases Nat.lt_or_ge y (mwl.getD k []).length with b | b
            · exact absurd (m.2 y b) a
            · omega
        rw [if_pos m]
        apply sk_itr_exit
        unfold fX11_keyAt_L4
        dsimp only
        rw [if_neg g, r1', Option.bind_some, nI_add, ch, Option.bind_some, if_pos (y32.mpr yl), gi94 hS, Option.bind_some, gi94 hS, Option.bind_some, h6, h7, nI_add, if_pos (by have := m.1; rw [show q + y = e by omega])]
      · rw [if_neg m, ← ih (k + 1) (by omega)]
        apply sk_itr_step
        unfold fX11_keyAt_L4
        dsimp only
        rw [if_neg g, r1', Option.bind_some, nI_add, ch, Option.bind_some]
        by_cases yl : y = (mwl.getD k []).length
        · rw [if_pos (y32.mpr yl), gi94 hS, Option.bind_some, gi94 hS, Option.bind_some, h6, h7, nI_add, if_neg (fun a => m ⟨by rw [nI_eq (by omega) (by omega)] at a; omega, fun i hi => r4 i (by omega)⟩), j97]
        · rw [if_neg (fun a => yl (y32.mp a)), j97]
  unfold fX11_keyAt
  have := key 19 0 rfl
  rw [show ((0 : Int32), (1 : Int32)) = (nI 0, nI (mst 0)) from rfl, this]
  rfl
/-- from a place to behind the next piece -/
theorem m_next2 (hS : Sh S) (hn : n ≤ 900) {d : sk_D} (ht : TPE n c d) {p : Nat} (hp : p ≤ n) (h7 : d.1 94 7 = nI p) : ∃ d', fX11_next S d 94 = some d' ∧ nf d d' ∧ d'.1 94 9 = rho (lxp c n p).1.1 ∧ d'.1 94 6 = (lxp c n p).1.2.1 ∧ ((lxp c n p).1.1 = 200 → d'.1 94 10 = (lxp c n p).1.2.2) ∧ d'.1 94 7 = nI (lxp c n p).2 := by
  have x0 := nf.u d (Or.inl rfl) (nI p)
  obtain ⟨d1, a1, a2, a3⟩ := m_skip hS hn _ p (sk_uI d 94 6 (nI p)) rfl hp (ht.nf x0) (uI_s _ _ _ _)
  obtain ⟨s1, s2, s3⟩ := lS_ok (c := c) hp
  have x1 := (x0.trans a2).trans (nf.u d1 (Or.inr (Or.inl rfl)) (nI (lS c n p)))
  have t1 := ht.nf x1
  have c6 : (sk_uI d1 94 7 (nI (lS c n p))).1 94 6 = nI (lS c n p) := by rw [uI_k _ _ _ _ _ (by omega)]; exact a3
  have c7 : (sk_uI d1 94 7 (nI (lS c n p))).1 94 7 = nI (lS c n p) := uI_s _ _ _ _
  have se := m_see hS hn t1 s2
  unfold fX11_next lxp lxq
  rw [gi94 hS, Option.bind_some, h7, pi94 hS, Option.bind_some, a1, Option.bind_some, gi94 hS, Option.bind_some, a3, pi94 hS, Option.bind_some, gi94 hS, Option.bind_some, c6, gi94 hS, Option.bind_some, t1.1]
  generalize hq : lS c n p = q at *
  generalize hd : sk_uI d1 94 7 (nI q) = d2 at *
  by_cases h0 : n ≤ q
  · rw [if_neg (by rw [nI_ltI (by omega) (by omega)]; omega), if_pos h0, pi94 hS, Option.bind_some]
    refine ⟨_, rfl, x1.trans (nf.u d2 (Or.inr (Or.inr (Or.inl rfl))) 24), by rw [uI_s]; exact (show (24 : Int32) = rho 202 by decide +kernel), by rw [uI_k _ _ _ _ _ (by omega)]; exact c6, fun a => absurd a (show ¬ (202 : Int32) = 200 by decide), by rw [uI_k _ _ _ _ _ (by omega)]; exact c7⟩
  · rw [if_neg h0] at se
    rw [if_pos (by rw [nI_ltI (by omega) (by omega)]; omega), if_neg h0, Option.bind_some, if_pos (kd94 hS), se, Option.bind_some, m_small, Option.bind_some]
    by_cases h1 : ¬ c q < 97 ∧ ¬ 122 < c q
    · obtain ⟨d3, b1, b2, b3, b4⟩ := m_word hS hn _ q d2 rfl s2 t1 c7 c6
      obtain ⟨r1, r2, r3, r4⟩ := lR_ok (c := c) (lo := 97) (hi := 122) s2
      rw [decide_eq_true h1, if_pos rfl, b1, Option.bind_some, if_pos (kd94 hS), m_key hS hn (t1.nf b2) r1 r2 b4 b3, Option.bind_some, pi94 hS, Option.bind_some, if_pos h1]
      have k200 : fwk c cwl 201 q (lR c n 97 122 q) 19 0 ≠ 200 := by
        rcases fwk_ne (c := c) cwl 201 q (lR c n 97 122 q) 19 0 with r | ⟨j, _, b, r, _⟩
        · rw [r]; decide
        · rw [r]; intro x; rw [show (200 : Int32) = nI 200 from rfl, nI_eq (by omega) (by omega)] at x; omega
      exact ⟨_, rfl, (x1.trans b2).trans (nf.u d3 (Or.inr (Or.inr (Or.inl rfl))) _), by rw [uI_s]; exact wl_rho c q _, by rw [uI_k _ _ _ _ _ (by omega)]; exact b4, fun a => absurd a k200, by rw [uI_k _ _ _ _ _ (by omega)]; exact b3⟩
    · rw [decide_eq_false h1, if_neg Bool.false_ne_true, Option.bind_some, if_pos (kd94 hS), se, Option.bind_some, m_digit, Option.bind_some, if_neg h1]
      by_cases h2 : ¬ c q < 48 ∧ ¬ 57 < c q
      · have x2 := nf.u d2 (Or.inr (Or.inr (Or.inr rfl))) 0
        obtain ⟨d3, b1, b2, b3, b4, b5⟩ := m_numb hS hn (q := q) _ q (sk_uI d2 94 10 0) rfl s2 (Nat.le_refl q) (t1.nf x2) (by rw [uI_k _ _ _ _ _ (by omega)]; exact c7) (by rw [uI_k _ _ _ _ _ (by omega)]; exact c6) (by rw [uI_s, Nat.sub_self]; rfl)
        obtain ⟨r1, r2, r3, r4⟩ := lR_ok (c := c) (lo := 48) (hi := 57) s2
        rw [decide_eq_true h2, if_pos rfl, pi94 hS, Option.bind_some, b1, Option.bind_some, gi94 hS, Option.bind_some, gi94 hS, Option.bind_some, b3, b4, if_pos h2]
        by_cases a : lR c n 48 57 q ≤ q + 3
        · rw [if_pos ((sub3 r1 (by omega)).mpr a), pi94 hS, Option.bind_some, if_pos a]
          exact ⟨_, rfl, ((x1.trans x2).trans b2).trans (nf.u d3 (Or.inr (Or.inr (Or.inl rfl))) _), by rw [uI_s]; exact (show (23 : Int32) = rho 200 by decide +kernel), by rw [uI_k _ _ _ _ _ (by omega)]; exact b4, fun _ => by rw [uI_k _ _ _ _ _ (by omega), b5, Nat.min_eq_left (by omega)], by rw [uI_k _ _ _ _ _ (by omega)]; exact b3⟩
        · rw [if_neg (fun b => a ((sub3 r1 (by omega)).mp b)), pi94 hS, Option.bind_some, if_neg a]
          exact ⟨_, rfl, ((x1.trans x2).trans b2).trans (nf.u d3 (Or.inr (Or.inr (Or.inl rfl))) _), by rw [uI_s]; exact (show (25 : Int32) = rho 203 by decide +kernel), by rw [uI_k _ _ _ _ _ (by omega)]; exact b4, fun b => absurd b (show ¬ (203 : Int32) = 200 by decide), by rw [uI_k _ _ _ _ _ (by omega)]; exact b3⟩
      · have x2 := (nf.u d2 (Or.inr (Or.inl rfl)) (nI (q + 1))).trans (nf.u _ (Or.inr (Or.inr (Or.inl rfl))) 25)
        obtain ⟨d3, b1, b2, b3, b4, b5⟩ := m_sign hS hn (q := q) (by omega) 12 0 (sk_uI (sk_uI d2 94 7 (nI (q + 1))) 94 9 25) rfl (t1.nf x2) (by rw [uI_k _ _ _ _ _ (by omega), uI_k _ _ _ _ _ (by omega)]; exact c6) (uI_s _ _ _ _)
        have b1' : sk_itr (fX11_next_L254 S 94) ((0 : Int32), sk_uI (sk_uI d2 94 7 (nI (q + 1))) 94 9 25) = some d3 := b1
        rw [decide_eq_false h2, if_neg Bool.false_ne_true, gi94 hS, Option.bind_some, c7, pi94 hS, Option.bind_some, nI_1, pi94 hS, Option.bind_some, b1', Option.bind_some, if_neg h2]
        refine ⟨_, rfl, (x1.trans x2).trans b2, by rw [b5]; exact sgk_rho _, b3, fun a => ?_, by rw [b4, uI_k _ _ _ _ _ (by omega), uI_s]⟩
        dsimp only at a
        split at a
        · next m => exact absurd a (sgl_ne _ m).2
        · exact absurd a (by decide)
theorem m_NXT (hS : Sh S) (hn : n ≤ 900) (z : Nat) : NXT S (lxT c n) z (fun i => lxP c n (i + 1)) n c := by
  intro d i _ hb
  obtain ⟨d', a1, a2, a3, a4, a5, a6⟩ := m_next2 hS hn (c := c) ⟨hb.2.1, hb.2.2⟩ (lxP_le (i + 1)) hb.1
  have t := TPE.nf (c := c) (n := n) ⟨hb.2.1, hb.2.2⟩ a2
  exact ⟨d', a1, a2, a3, a4, a5, a6, t.1, t.2⟩
end
