/-! loops -/
theorem it_wf {σ ε : Type} {body : σ → Option (σ ⊕ ε)} (I : σ → Prop) (μ : σ → Nat) (Q : ε → Prop)
    (hs : ∀ s, I s → (∃ s1, body s = some (.inl s1) ∧ I s1 ∧ μ s1 < μ s) ∨ (∃ e, body s = some (.inr e) ∧ Q e)) :
    ∀ s, I s → ∃ e, sk_itr body s = some e ∧ Q e := by
  have key : ∀ n s, μ s < n → I s → ∃ e, sk_itr body s = some e ∧ Q e := by
    intro n
    induction n with
    | zero => intro s h; omega
    | succ n ih =>
      intro s hn hI
      rcases hs s hI with ⟨s1, h1, h2, h3⟩ | ⟨e, h1, h2⟩
      · obtain ⟨e, he, hq⟩ := ih s1 (by omega) h2
        exact ⟨e, by rw [sk_itr_step h1]; exact he, hq⟩
      · exact ⟨e, sk_itr_exit h1, h2⟩
  exact fun s h => key (μ s + 1) s (by omega) h
theorem it_for {σ ε : Type} {body : σ → Option (σ ⊕ ε)} (I : Nat → σ → Prop) (n : Nat) (Q : ε → Prop)
    (hs : ∀ k s, k < n → I k s → (∃ s1, body s = some (.inl s1) ∧ I (k + 1) s1) ∨ (∃ e, body s = some (.inr e) ∧ Q e))
    (he : ∀ s, I n s → ∃ e, body s = some (.inr e) ∧ Q e) {s : σ} (h0 : I 0 s) : ∃ e, sk_itr body s = some e ∧ Q e := by
  have key : ∀ j k s, k + j = n → I k s → ∃ e, sk_itr body s = some e ∧ Q e := by
    intro j
    induction j with
    | zero =>
      intro k s hk hI
      have : k = n := by omega
      subst this
      obtain ⟨e, h1, h2⟩ := he s hI
      exact ⟨e, sk_itr_exit h1, h2⟩
    | succ j ih =>
      intro k s hk hI
      rcases hs k s (by omega) hI with ⟨s1, h1, h2⟩ | ⟨e, h1, h2⟩
      · obtain ⟨e, he, hq⟩ := ih (k + 1) s1 (by omega) h2
        exact ⟨e, by rw [sk_itr_step h1]; exact he, hq⟩
      · exact ⟨e, sk_itr_exit h1, h2⟩
  exact key n 0 s (by omega) h0
theorem it_eq {σ ε : Type} {body : σ → Option (σ ⊕ ε)} (st : Nat → σ) (n : Nat) (e : ε) (hs : ∀ k, k < n → body (st k) = some (.inl (st (k + 1)))) (he : body (st n) = some (.inr e)) : sk_itr body (st 0) = some e := by
  obtain ⟨e1, h1, h2⟩ := it_for (body := body) (fun k s => s = st k) n (fun x => x = e) (fun k s hk h => Or.inl ⟨st (k + 1), by rw [h]; exact hs k hk, rfl⟩) (fun s h => ⟨e, by rw [h]; exact he, rfl⟩) rfl
  rw [h1, h2]
/-- a loop that counts up from a to n, with an early end at the first place where it stops -/
theorem it_eqx {σ ε : Type} {body : σ → Option (σ ⊕ ε)} (st : Nat → σ) (ex : Nat → Option ε) (n : Nat) (e : ε)
    (hs : ∀ k, k < n → ex k = none → body (st k) = some (.inl (st (k + 1)))) (hx : ∀ k x, k < n → ex k = some x → body (st k) = some (.inr x)) (he : body (st n) = some (.inr e)) :
    sk_itr body (st 0) = some (((List.range n).findSome? ex).getD e) := by
  have key : ∀ j k, k + j = n → sk_itr body (st k) = some (((List.range' k j).findSome? ex).getD e) := by
    intro j
    induction j with
    | zero =>
      intro k hk
      have : k = n := by omega
      subst this
      exact sk_itr_exit he
    | succ j ih =>
      intro k hk
      rw [List.range'_succ, List.findSome?_cons]
      cases hx2 : ex k with
      | none => rw [sk_itr_step (hs k (by omega) hx2)]; exact ih (k + 1) (by omega)
      | some x => exact sk_itr_exit (hx k x (by omega) hx2)
  rw [List.range_eq_range']
  exact key n 0 (by omega)
/-! sums of ints -/
def s3 (f : Nat → Int32) : Nat → Int32
  | 0 => 0
  | n + 1 => s3 f n + f n
def s6 (f : Nat → Int64) : Nat → Int64
  | 0 => 0
  | n + 1 => s6 f n + f n
theorem s3_cong {f g : Nat → Int32} : ∀ {n : Nat}, (∀ k, k < n → f k = g k) → s3 f n = s3 g n
  | 0, _ => rfl
  | n + 1, h => by rw [s3, s3, s3_cong (fun k hk => h k (by omega)), h n (by omega)]
theorem s6_cong {f g : Nat → Int64} : ∀ {n : Nat}, (∀ k, k < n → f k = g k) → s6 f n = s6 g n
  | 0, _ => rfl
  | n + 1, h => by rw [s6, s6, s6_cong (fun k hk => h k (by omega)), h n (by omega)]
/-- sets, gathered place by place -/
def gs (p : Nat → Bool) : Nat → Int32
  | 0 => 0
  | n + 1 => if p n = true then gs p n ||| ((1 : Int32) <<< (nI n &&& 31)) else gs p n
theorem gs_cong {p q : Nat → Bool} : ∀ {n : Nat}, (∀ k, k < n → p k = q k) → gs p n = gs q n
  | 0, _ => rfl
  | n + 1, h => by rw [gs, gs, gs_cong (fun k hk => h k (by omega)), h n (by omega)]
theorem b_1 (i : Nat) : bt 1 i = decide (i = 0) := by
  rcases Nat.lt_or_ge i 32 with h | h
  · exact (by decide +kernel : ∀ i, i < 32 → bt 1 i = decide (i = 0)) i h
  · rw [b_big h, decide_eq_false (by omega)]
theorem b_256 (i : Nat) : bt 256 i = decide (i = 8) := by
  rcases Nat.lt_or_ge i 32 with h | h
  · exact (by decide +kernel : ∀ i, i < 32 → bt 256 i = decide (i = 8)) i h
  · rw [b_big h, decide_eq_false (by omega)]
theorem b_3 (i : Nat) : bt 3 i = decide (i < 2) := by
  rcases Nat.lt_or_ge i 32 with h | h
  · exact (by decide +kernel : ∀ i, i < 32 → bt 3 i = decide (i < 2)) i h
  · rw [b_big h, decide_eq_false (by omega)]
theorem b_2 (i : Nat) : bt 2 i = decide (i = 1) := by
  rcases Nat.lt_or_ge i 32 with h | h
  · exact (by decide +kernel : ∀ i, i < 32 → bt 2 i = decide (i = 1)) i h
  · rw [b_big h, decide_eq_false (by omega)]
theorem b_not (x : Int32) {i : Nat} (hi : i < 32) : bt (x ^^^ (-1)) i = !bt x i := by
  rw [b_xor, b_m1 i hi]
  cases bt x i <;> rfl
theorem b_one {n i : Nat} (hn : n < 32) (hi : i < 32) : bt ((1 : Int32) <<< (nI n &&& 31)) i = decide (i = n) := by
  rw [b_shl n hn _ hi, b_1]
  by_cases h : i = n
  · subst h; simp
  · by_cases h2 : n ≤ i
    · simp [h]; omega
    · simp [h, h2]
theorem b_256s {n i : Nat} (hn : n < 24) (hi : i < 32) : bt ((256 : Int32) <<< (nI n &&& 31)) i = decide (i = n + 8) := by
  rw [b_shl n (by omega) _ hi, b_256]
  by_cases h : i = n + 8
  · subst h; simp
  · by_cases h2 : n ≤ i
    · simp [h]; omega
    · simp [h, h2]
theorem gs_bt (p : Nat → Bool) : ∀ n, n ≤ 32 → ∀ i, i < 32 → bt (gs p n) i = (decide (i < n) && p i)
  | 0, _, i, _ => by simp [gs, b_0]
  | n + 1, hn, i, hi => by
    rw [gs]
    have ih := gs_bt p n (by omega) i hi
    split
    · next h =>
      rw [b_or, ih, b_one (by omega) hi]
      by_cases h1 : i = n
      · subst h1; simp [h]
      · simp [h1]
        by_cases h2 : i < n
        · simp [h2, show i < n + 1 by omega]
        · simp [h2, show ¬ i < n + 1 by omega]
    · next h =>
      rw [ih]
      by_cases h1 : i = n
      · subst h1; simp [h]
      · by_cases h2 : i < n
        · simp [h2, show i < n + 1 by omega]
        · simp [h2, show ¬ i < n + 1 by omega]
theorem z_and1 (x : Int32) : (x &&& 1 = 1 ↔ bt x 0 = true) ∧ (x &&& 1 = 0 ↔ bt x 0 = false) := by
  have e : x &&& 1 = if bt x 0 = true then 1 else 0 := by
    apply b_ext
    intro i hi
    rw [b_and, b_1]
    by_cases h : i = 0
    · subst h
      cases h2 : bt x 0
      · simp [b_0]
      · simp [b_1]
    · cases h2 : bt x 0
      · simp [h, b_0]
      · simp [h, b_1]
  rw [e]
  cases bt x 0
  · exact ⟨by decide, by decide⟩
  · exact ⟨by decide, by decide⟩
/-- the test of one bit -/
theorem t_1 (x : Int32) {n : Nat} (hn : n < 32) : ((x >>> (nI n &&& 31)) &&& 1 = 1) ↔ bt x n = true := by
  rw [(z_and1 _).1, b_sshr n hn x (by omega)]
  simp [hn]
theorem t_0 (x : Int32) {n : Nat} (hn : n < 32) : ((x >>> (nI n &&& 31)) &&& 1 = 0) ↔ bt x n = false := by
  rw [(z_and1 _).2, b_sshr n hn x (by omega)]
  simp [hn]
theorem z_iff (x : Int32) : x = 0 ↔ ∀ i, i < 32 → bt x i = false := by
  constructor
  · intro h i _; rw [h, b_0]
  · intro h; exact b_ext (fun i hi => by rw [h i hi, b_0])
theorem z_sub (x y : Int32) : x &&& (y ^^^ (-1)) = 0 ↔ ∀ i, i < 32 → bt x i = true → bt y i = true := by
  rw [z_iff]
  constructor
  · intro h i hi hx
    have := h i hi
    rw [b_and, b_not y hi, hx] at this
    simpa using this
  · intro h i hi
    rw [b_and, b_not y hi]
    cases hx : bt x i
    · rfl
    · rw [h i hi hx]; rfl
theorem b_nI (n i : Nat) (hi : i < 32) : bt (nI n) i = n.testBit i := by
  show (BitVec.ofNat 32 n).getLsbD i = _
  rw [BitVec.getLsbD_ofNat]
  simp [hi]
/-- a set of low bits is a small number -/
theorem b_low {x : Int32} {n : Nat} (hn : n ≤ 31) (h : ∀ i, n ≤ i → i < 32 → bt x i = false) : ∃ j, j < 2 ^ n ∧ x = nI j := by
  refine ⟨x.toBitVec.toNat, ?_, ?_⟩
  · apply Nat.lt_pow_two_of_testBit
    intro i hi
    by_cases h2 : i < 32
    · exact h i hi h2
    · exact BitVec.getLsbD_of_ge _ _ (by omega)
  · apply b_ext
    intro i hi
    rw [b_nI _ _ hi]
    rfl
theorem b_low2 {j n i : Nat} (h : j < 2 ^ n) (hi : n ≤ i) (hi2 : i < 32) : bt (nI j) i = false := by
  rw [b_nI _ _ hi2]
  exact Nat.testBit_lt_two_pow (Nat.lt_of_lt_of_le h (Nat.pow_le_pow_right (by omega) hi))
theorem lg_lt {n : Nat} {x y : Int32} (hx : x < y) : x ≤ y := (fa_of_lt hx).1
/-- memory behind a change -/
theorem uI_s (d : sk_D) (a k : Nat) (v : Int32) : (sk_uI d a k v).1 a k = v := by simp [sk_uI]
theorem uI_k (d : sk_D) (a k j : Nat) (v : Int32) (h : j ≠ k) : (sk_uI d a k v).1 a j = d.1 a j := by simp [sk_uI, h]
theorem uI_a (d : sk_D) (a k b : Nat) (v : Int32) (h : b ≠ a) : (sk_uI d a k v).1 b = d.1 b := by funext j; simp [sk_uI, h]
theorem uI_J (d : sk_D) (a k : Nat) (v : Int32) : (sk_uI d a k v).2 = d.2 := rfl
theorem uJ_s (d : sk_D) (a k : Nat) (v : Int64) : (sk_uJ d a k v).2 a k = v := by simp [sk_uJ]
theorem uJ_k (d : sk_D) (a k j : Nat) (v : Int64) (h : j ≠ k) : (sk_uJ d a k v).2 a j = d.2 a j := by simp [sk_uJ, h]
theorem uJ_a (d : sk_D) (a k b : Nat) (v : Int64) (h : b ≠ a) : (sk_uJ d a k v).2 b = d.2 b := by funext j; simp [sk_uJ, h]
theorem uJ_I (d : sk_D) (a k : Nat) (v : Int64) : (sk_uJ d a k v).1 = d.1 := rfl
def Fr (P : Nat → Prop) (d e : sk_D) : Prop := ∀ b, ¬ P b → e.1 b = d.1 b ∧ e.2 b = d.2 b
theorem Fr.refl (P : Nat → Prop) (d : sk_D) : Fr P d d := fun _ _ => ⟨rfl, rfl⟩
theorem Fr.trans {P : Nat → Prop} {d e f : sk_D} (h : Fr P d e) (h2 : Fr P e f) : Fr P d f := fun b hb => ⟨(h2 b hb).1.trans (h b hb).1, (h2 b hb).2.trans (h b hb).2⟩
theorem Fr.mono {P Q : Nat → Prop} {d e : sk_D} (h : Fr P d e) (hq : ∀ b, P b → Q b) : Fr Q d e := fun b hb => h b (fun hp => hb (hq b hp))
theorem Fr.uI {P : Nat → Prop} {a k : Nat} {v : Int32} (d : sk_D) (h : P a) : Fr P d (sk_uI d a k v) := fun b hb => ⟨uI_a d a k b v (fun e => hb (e ▸ h)), rfl⟩
theorem Fr.uJ {P : Nat → Prop} {a k : Nat} {v : Int64} (d : sk_D) (h : P a) : Fr P d (sk_uJ d a k v) := fun b hb => ⟨rfl, uJ_a d a k b v (fun e => hb (e ▸ h))⟩
theorem Fr.i {P : Nat → Prop} {d e : sk_D} (h : Fr P d e) {b : Nat} (hb : ¬ P b) : e.1 b = d.1 b := (h b hb).1
theorem Fr.j {P : Nat → Prop} {d e : sk_D} (h : Fr P d e) {b : Nat} (hb : ¬ P b) : e.2 b = d.2 b := (h b hb).2
