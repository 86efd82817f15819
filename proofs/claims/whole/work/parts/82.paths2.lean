/-! orders: counting paths of sets upwards and downwards -/
def sN (f : Nat → Nat) : Nat → Nat
  | 0 => 0
  | n + 1 => sN f n + f n
theorem sN_cong {f g : Nat → Nat} : ∀ {n : Nat}, (∀ k, k < n → f k = g k) → sN f n = sN g n
  | 0, _ => rfl
  | n + 1, h => by rw [sN, sN, sN_cong (fun k hk => h k (by omega)), h n (by omega)]
theorem sN_add (f g : Nat → Nat) : ∀ n, sN (fun k => f k + g k) n = sN f n + sN g n
  | 0 => rfl
  | n + 1 => by show sN (fun k => f k + g k) n + (f n + g n) = (sN f n + f n) + (sN g n + g n); rw [sN_add f g n]; omega
theorem sN_zero : ∀ n, sN (fun _ => 0) n = 0
  | 0 => rfl
  | n + 1 => by show sN (fun _ => 0) n + 0 = 0; rw [sN_zero n]
theorem sN_le {f : Nat → Nat} {c : Nat} : ∀ {n : Nat}, (∀ k, k < n → f k ≤ c) → sN f n ≤ n * c
  | 0, _ => by rw [Nat.zero_mul]; exact Nat.le_refl _
  | n + 1, h => by
    have a := sN_le (f := f) (c := c) (n := n) (fun k hk => h k (by omega))
    have b := h n (by omega)
    rw [Nat.succ_mul]
    show sN f n + f n ≤ _
    omega
theorem sN_ge (f : Nat → Nat) : ∀ {n k : Nat}, k < n → f k ≤ sN f n
  | 0, k, h => by omega
  | n + 1, k, h => by
    show f k ≤ sN f n + f n
    rcases Nat.lt_or_ge k n with q | q
    · have := sN_ge f q; omega
    · rw [show k = n by omega]; omega
theorem sN_ex {f : Nat → Nat} : ∀ {n : Nat}, 0 < sN f n → ∃ k, k < n ∧ 0 < f k
  | 0, h => absurd h (Nat.lt_irrefl _)
  | n + 1, h => by
    have h' : 0 < sN f n + f n := h
    rcases Nat.eq_zero_or_pos (f n) with q | q
    · obtain ⟨k, k1, k2⟩ := sN_ex (f := f) (n := n) (by omega)
      exact ⟨k, by omega, k2⟩
    · exact ⟨n, by omega, q⟩
def okd (bf : Nat → Int32) (D A : Int32) (j : Nat) : Bool := bt D j && !bt A j && decide ((bf j &&& (A ^^^ (-1))) = 0)
def UU (bf : Nat → Int32) (D : Int32) (f : Int32 → Nat) (A : Int32) : Nat := sN (fun j => if okd bf D A j = true then f (A ||| b1 j) else 0) 8
def UK (bf : Nat → Int32) (D : Int32) : Nat → (Int32 → Nat) → Int32 → Nat
  | 0, f => f
  | k + 1, f => UU bf D (UK bf D k f)
theorem UK_comm (bf : Nat → Int32) (D : Int32) (f : Int32 → Nat) : ∀ k, UK bf D k (UU bf D f) = UU bf D (UK bf D k f)
  | 0 => rfl
  | k + 1 => by show UU bf D (UK bf D k (UU bf D f)) = UU bf D (UU bf D (UK bf D k f)); rw [UK_comm bf D f k]
theorem UU_add (bf : Nat → Int32) (D : Int32) (f g : Int32 → Nat) : UU bf D (fun A => f A + g A) = fun A => UU bf D f A + UU bf D g A := by
  funext A
  unfold UU
  rw [← sN_add]
  apply sN_cong
  intro k _
  by_cases h : okd bf D A k = true
  · rw [if_pos h, if_pos h, if_pos h]
  · rw [if_neg h, if_neg h, if_neg h]
theorem UU_zero (bf : Nat → Int32) (D : Int32) : UU bf D (fun _ => 0) = fun _ => 0 := by
  funext A
  unfold UU
  rw [sN_cong (g := fun _ => 0) (fun k _ => by split <;> rfl), sN_zero]
theorem UK_add (bf : Nat → Int32) (D : Int32) (f g : Int32 → Nat) : ∀ k, UK bf D k (fun A => f A + g A) = fun A => UK bf D k f A + UK bf D k g A
  | 0 => rfl
  | k + 1 => by show UU bf D (UK bf D k (fun A => f A + g A)) = _; rw [UK_add bf D f g k, UU_add]; rfl
theorem UK_zero (bf : Nat → Int32) (D : Int32) : ∀ k, UK bf D k (fun _ => 0) = fun _ => 0
  | 0 => rfl
  | k + 1 => by show UU bf D (UK bf D k (fun _ => 0)) = _; rw [UK_zero bf D k, UU_zero]
theorem UK_sum (bf : Nat → Int32) (D : Int32) (f : Nat → Int32 → Nat) (k : Nat) : ∀ m, UK bf D k (fun A => sN (fun j => f j A) m) = fun A => sN (fun j => UK bf D k (f j) A) m
  | 0 => UK_zero bf D k
  | m + 1 => by
    show UK bf D k (fun A => sN (fun j => f j A) m + f m A) = fun A => sN (fun j => UK bf D k (f j) A) m + UK bf D k (f m) A
    rw [UK_add bf D (fun A => sN (fun j => f j A) m) (f m) k, UK_sum bf D f k m]
def dl (B A : Int32) : Nat := if A = B then 1 else 0
def clrB (B : Int32) (j : Nat) : Int32 := B &&& (b1 j ^^^ (-1))
theorem bt_b1x {n i : Nat} (hn : n < 32) (hi : i < 32) : bt (b1 n) i = decide (i = n) := b_one hn hi
theorem bt_set (x : Int32) {j i : Nat} (hj : j < 32) (hi : i < 32) : bt (x ||| b1 j) i = (bt x i || decide (i = j)) := by rw [b_or, bt_b1x hj hi]
theorem bt_clrB (x : Int32) {j i : Nat} (hj : j < 32) (hi : i < 32) : bt (clrB x j) i = (bt x i && !decide (i = j)) := by unfold clrB; rw [b_and, b_not _ hi, bt_b1x hj hi]
def okc (bf : Nat → Int32) (D B : Int32) (j : Nat) : Bool := bt B j && bt D j && decide ((bf j &&& (clrB B j ^^^ (-1))) = 0)
theorem set_iff {A B : Int32} {j : Nat} (hj : j < 32) : (bt A j = false ∧ A ||| b1 j = B) ↔ (bt B j = true ∧ A = clrB B j) := by
  constructor
  · intro ⟨h1, h2⟩
    subst h2
    refine ⟨by rw [bt_set _ hj hj]; simp, ?_⟩
    apply b_ext
    intro i hi
    rw [bt_clrB _ hj hi, bt_set _ hj hi]
    by_cases c : i = j
    · subst c; rw [h1]; simp
    · simp [c]
  · intro ⟨h1, h2⟩
    subst h2
    refine ⟨by rw [bt_clrB _ hj hj]; simp, ?_⟩
    apply b_ext
    intro i hi
    rw [bt_set _ hj hi, bt_clrB _ hj hi]
    by_cases c : i = j
    · subst c; rw [h1]; simp
    · simp [c]
theorem UU_dl (bf : Nat → Int32) (D B : Int32) : UU bf D (dl B) = fun A => sN (fun j => (if okc bf D B j = true then dl (clrB B j) else fun _ => 0) A) 8 := by
  funext A
  unfold UU
  apply sN_cong
  intro j hj
  have key := set_iff (A := A) (B := B) (j := j) (by omega)
  by_cases q : bt A j = false ∧ A ||| b1 j = B
  · obtain ⟨k1, k2⟩ := key.mp q
    have e : okd bf D A j = okc bf D B j := by unfold okd okc; rw [q.1, k1, ← k2]; simp
    rw [e]
    by_cases c : okc bf D B j = true
    · rw [if_pos c, if_pos c]; unfold dl; rw [if_pos q.2, if_pos k2]
    · rw [if_neg c, if_neg c]
  · have z1 : (if okd bf D A j = true then dl B (A ||| b1 j) else 0) = 0 := by
      by_cases c : okd bf D A j = true
      · rw [if_pos c]
        unfold dl
        rw [if_neg]
        intro a
        unfold okd at c
        simp only [Bool.and_eq_true, Bool.not_eq_true'] at c
        exact q ⟨c.1.2, a⟩
      · rw [if_neg c]
    have z2 : (if okc bf D B j = true then dl (clrB B j) else fun _ => 0) A = 0 := by
      by_cases c : okc bf D B j = true
      · rw [if_pos c]
        unfold dl
        rw [if_neg]
        intro a
        unfold okc at c
        simp only [Bool.and_eq_true] at c
        exact q (key.mpr ⟨c.1.1, a⟩)
      · rw [if_neg c]
    rw [z1, z2]
def wc (bf : Nat → Int32) (D : Int32) (k : Nat) (B : Int32) : Nat := UK bf D k (dl B) 0
theorem wc_s (bf : Nat → Int32) (D : Int32) (k : Nat) (B : Int32) : wc bf D (k + 1) B = sN (fun j => if okc bf D B j = true then wc bf D k (clrB B j) else 0) 8 := by
  show UU bf D (UK bf D k (dl B)) 0 = _
  rw [← UK_comm, UU_dl, UK_sum]
  apply sN_cong
  intro j _
  by_cases c : okc bf D B j = true
  · rw [if_pos c, if_pos c]; rfl
  · rw [if_neg c, if_neg c, UK_zero]
def pn (x : Int32) : Nat := fb_ct (fun i => bt x i) 8
theorem pn_set {x : Int32} {j : Nat} (hj : j < 8) (h : bt x j = false) : pn (x ||| b1 j) = pn x + 1 := by
  have e : pn (x ||| b1 j) = fb_ct (fun k => if k = j then true else bt x k) 8 := by
    unfold pn
    apply fb_ct_cong
    intro k hk
    rw [bt_set _ (by omega) (by omega)]
    by_cases c : k = j
    · simp [c]
    · simp [c]
  have := fb_ct_upd (fun i => bt x i) true (i := j) (n := 8) hj
  rw [h] at this
  rw [e]
  unfold pn
  simpa using this
theorem pn_clr {x : Int32} {j : Nat} (hj : j < 8) (h : bt x j = true) : pn (clrB x j) + 1 = pn x := by
  have e : clrB x j ||| b1 j = x := by
    apply b_ext
    intro i hi
    rw [bt_set _ (by omega) hi, bt_clrB _ (by omega) hi]
    by_cases c : i = j
    · subst c; rw [h]; simp
    · simp [c]
  have := pn_set (x := clrB x j) hj (by rw [bt_clrB _ (by omega) (by omega)]; simp)
  rw [e] at this
  exact this.symm
theorem pn_le (x : Int32) : pn x ≤ 8 := fb_ct_le _ 8
theorem pn_mono {x y : Int32} (h : ∀ i, i < 32 → bt x i = true → bt y i = true) : pn x ≤ pn y := fb_ct_sub (fun k hk a => h k (by omega) a)
theorem pn_0 : pn 0 = 0 := by decide
theorem UK_le (bf : Nat → Int32) (D B : Int32) : ∀ k A, UK bf D k (dl B) A ≤ 8 ^ k
  | 0, A => by show dl B A ≤ 1; unfold dl; split <;> omega
  | k + 1, A => by
    have : UU bf D (UK bf D k (dl B)) A ≤ 8 * 8 ^ k := sN_le (fun j _ => by
      split
      · exact UK_le bf D B k _
      · exact Nat.zero_le _)
    rw [Nat.pow_succ, Nat.mul_comm]
    exact this
theorem UK_lt (bf : Nat → Int32) (D B : Int32) {k : Nat} (hk : k ≤ 8) (A : Int32) : UK bf D k (dl B) A < 16777217 := by
  have := UK_le bf D B k A
  have h2 : 8 ^ k ≤ 8 ^ 8 := Nat.pow_le_pow_right (by omega) hk
  have : (8 : Nat) ^ 8 = 16777216 := by decide
  omega
theorem UK_cp (bf : Nat → Int32) {D : Int32} : ∀ k A so, 0 < UK bf D k (dl D) A → (∀ i, i < 32 → bt A i = true → bt so i = true) → (∀ i, i < 32 → bt so i = true → bt D i = true) → 0 < UK bf D (pn D - pn so) (dl D) so
  | 0, A, so, h, h1, h2 => by
    have e : A = D := by
      have h' : 0 < dl D A := h
      unfold dl at h'
      split at h'
      · assumption
      · omega
    subst e
    have : so = A := b_ext (fun i hi => by
      cases c : bt so i with
      | true => rw [h2 i hi c]
      | false =>
        cases c2 : bt A i with
        | true => rw [h1 i hi c2] at c; exact absurd c (by decide)
        | false => rfl)
    subst this
    rw [Nat.sub_self]
    show 0 < dl so so
    unfold dl
    rw [if_pos rfl]; omega
  | k + 1, A, so, h, h1, h2 => by
    obtain ⟨j, hj, hp⟩ := sN_ex (show 0 < UU bf D (UK bf D k (dl D)) A from h)
    split at hp
    · next c =>
      unfold okd at c
      simp only [Bool.and_eq_true, Bool.not_eq_true', decide_eq_true_eq] at c
      obtain ⟨⟨c1, c2⟩, c3⟩ := c
      have in1 : ∀ i, i < 32 → bt (A ||| b1 j) i = true → bt (so ||| b1 j) i = true := by
        intro i hi a
        rw [bt_set _ (by omega) hi] at a ⊢
        simp only [Bool.or_eq_true, decide_eq_true_eq] at a ⊢
        rcases a with a | a
        · exact Or.inl (h1 i hi a)
        · exact Or.inr a
      have in2 : ∀ i, i < 32 → bt (so ||| b1 j) i = true → bt D i = true := by
        intro i hi a
        rw [bt_set _ (by omega) hi] at a
        simp only [Bool.or_eq_true, decide_eq_true_eq] at a
        rcases a with a | a
        · exact h2 i hi a
        · rw [a]; exact c1
      have ih := UK_cp bf k (A ||| b1 j) (so ||| b1 j) hp in1 in2
      cases b : bt so j with
      | true =>
        have : so ||| b1 j = so := b_ext (fun i hi => by
          rw [bt_set _ (by omega) hi]
          by_cases c : i = j
          · subst c; rw [b]; simp
          · simp [c])
        rw [this] at ih
        exact ih
      | false =>
        have e1 := pn_set hj b
        have e2 := pn_mono in2
        rw [show pn D - pn so = (pn D - pn (so ||| b1 j)) + 1 by omega]
        have ok : okd bf D so j = true := by
          unfold okd
          simp only [Bool.and_eq_true, Bool.not_eq_true', decide_eq_true_eq]
          refine ⟨⟨c1, b⟩, (z_sub _ _).mpr (fun i hi a => h1 i hi ((z_sub _ _).mp c3 i hi a))⟩
        have g2 := sN_ge (fun i => if okd bf D so i = true then UK bf D (pn D - pn (so ||| b1 j)) (dl D) (so ||| b1 i) else 0) hj
        rw [if_pos ok] at g2
        exact Nat.lt_of_lt_of_le ih g2
    · omega
def tot (bf : Nat → Int32) (D : Int32) : Nat := UK bf D (pn D) (dl D) 0
def sos (bf : Nat → Int32) (D : Int32) : Nat → Int32
  | 0 => 0
  | i + 1 => match fk (okd bf D (sos bf D i)) 8 with
    | some j => sos bf D i ||| b1 j
    | none => sos bf D i
theorem sos_s {bf : Nat → Int32} {D : Int32} {i j : Nat} (h : fk (okd bf D (sos bf D i)) 8 = some j) : sos bf D (i + 1) = sos bf D i ||| b1 j := by
  show (match fk (okd bf D (sos bf D i)) 8 with | some j => sos bf D i ||| b1 j | none => sos bf D i) = _
  rw [h]
theorem tot_cp {bf : Nat → Int32} {D : Int32} (h : 0 < tot bf D) {so : Int32} (h2 : ∀ i, i < 32 → bt so i = true → bt D i = true) : 0 < UK bf D (pn D - pn so) (dl D) so :=
  UK_cp bf (pn D) 0 so h (fun i _ a => by rw [b_0] at a; exact absurd a (by decide)) h2
theorem okd_of {bf : Nat → Int32} {D A : Int32} {j : Nat} (h : okd bf D A j = true) : bt D j = true ∧ bt A j = false ∧ (bf j &&& (A ^^^ (-1))) = 0 := by
  unfold okd at h
  simp only [Bool.and_eq_true, Bool.not_eq_true', decide_eq_true_eq] at h
  exact ⟨h.1.1, h.1.2, h.2⟩
theorem sos_ok {bf : Nat → Int32} {D : Int32} (h : 0 < tot bf D) : ∀ i, i ≤ pn D → (∀ e, e < 32 → bt (sos bf D i) e = true → bt D e = true) ∧ pn (sos bf D i) = i
  | 0, _ => ⟨fun e _ a => by rw [show sos bf D 0 = 0 from rfl, b_0] at a; exact absurd a (by decide), pn_0⟩
  | i + 1, hi => by
    obtain ⟨h1, h2⟩ := sos_ok h i (by omega)
    have g := tot_cp h h1
    rw [h2, show pn D - i = (pn D - i - 1) + 1 by omega] at g
    obtain ⟨j, hj, hp⟩ := sN_ex (show 0 < UU bf D (UK bf D (pn D - i - 1) (dl D)) (sos bf D i) from g)
    have c : okd bf D (sos bf D i) j = true := by
      split at hp
      · assumption
      · omega
    cases o : fk (okd bf D (sos bf D i)) 8 with
    | none => rw [fk_none o j hj] at c; exact absurd c (by decide)
    | some q =>
      obtain ⟨o1, o2, -⟩ := fk_some o
      obtain ⟨q1, q2, q3⟩ := okd_of o2
      rw [sos_s o]
      refine ⟨fun e he a => ?_, by rw [pn_set o1 q2, h2]⟩
      rw [bt_set _ (by omega) he] at a
      simp only [Bool.or_eq_true, decide_eq_true_eq] at a
      rcases a with a | a
      · exact h1 e he a
      · rw [a]; exact q1
theorem sos_fk {bf : Nat → Int32} {D : Int32} (h : 0 < tot bf D) {i : Nat} (hi : i < pn D) : ∃ j, j < 8 ∧ fk (okd bf D (sos bf D i)) 8 = some j := by
  obtain ⟨h1, h2⟩ := sos_ok h i (by omega)
  have g := tot_cp h h1
  rw [h2, show pn D - i = (pn D - i - 1) + 1 by omega] at g
  obtain ⟨j, hj, hp⟩ := sN_ex (show 0 < UU bf D (UK bf D (pn D - i - 1) (dl D)) (sos bf D i) from g)
  have c : okd bf D (sos bf D i) j = true := by
    split at hp
    · assumption
    · omega
  cases o : fk (okd bf D (sos bf D i)) 8 with
  | none => rw [fk_none o j hj] at c; exact absurd c (by decide)
  | some q => exact ⟨q, (fk_some o).1, rfl⟩
