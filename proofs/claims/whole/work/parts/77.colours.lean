/-! linings: the search, plain and with colours in order -/
def ucf (c : Nat → Int32) (j : Nat) (v : Int32) : Nat → Int32 := fun e => if e = j then v else c e
theorem ucf_s (c : Nat → Int32) (j : Nat) (v : Int32) : ucf c j v j = v := if_pos rfl
theorem ucf_o (c : Nat → Int32) {j e : Nat} (v : Int32) (h : e ≠ j) : ucf c j v e = c e := if_neg h
def cnl (L : LF) (c : Nat → Int32) (j : Nat) (v : Int32) : Prop := ∀ e, e < j → c e = v → bt (lf_v L 6 j) e = false
def tr {α : Type} (g : Nat → Option α) : Nat → Option α
  | 0 => none
  | k + 1 => match tr g k with
    | some x => some x
    | none => g k
theorem tr_some {α : Type} {g : Nat → Option α} {x : α} : ∀ {k}, tr g k = some x → ∀ m, tr g (k + m) = some x
  | k, h, 0 => h
  | k, h, m + 1 => by rw [← Nat.add_assoc]; show (match tr g (k + m) with | some x => some x | none => g (k + m)) = some x; rw [tr_some h m]
theorem tr_none {α : Type} {g : Nat → Option α} : ∀ {k}, tr g k = none → ∀ i, i < k → g i = none
  | 0, _, i, hi => by omega
  | k + 1, h, i, hi => by
    have e : (match tr g k with | some x => some x | none => g k) = none := h
    cases t : tr g k with
    | some x => rw [t] at e; exact absurd e (by simp)
    | none =>
      rw [t] at e
      rcases Nat.lt_or_ge i k with q | q
      · exact tr_none t i q
      · rw [show i = k by omega]; exact e
theorem tr_no {α : Type} {g : Nat → Option α} : ∀ {k}, (∀ i, i < k → g i = none) → tr g k = none
  | 0, _ => rfl
  | k + 1, h => by
    show (match tr g k with | some x => some x | none => g k) = none
    rw [tr_no (fun i hi => h i (by omega))]; exact h k (by omega)
theorem tr_s {α : Type} {g : Nat → Option α} {k : Nat} (h : tr g k = none) : tr g (k + 1) = g k := by
  show (match tr g k with | some x => some x | none => g k) = g k
  rw [h]
theorem tr_cong {α : Type} {g g2 : Nat → Option α} : ∀ {k}, (∀ i, i < k → g i = g2 i) → tr g k = tr g2 k
  | 0, _ => rfl
  | k + 1, h => by
    show (match tr g k with | some x => some x | none => g k) = (match tr g2 k with | some x => some x | none => g2 k)
    rw [tr_cong (fun i hi => h i (by omega)), h k (by omega)]
theorem tr_mem {α : Type} {g : Nat → Option α} {x : α} : ∀ {k}, tr g k = some x → ∃ i, i < k ∧ g i = some x
  | 0, h => absurd h (by simp [tr])
  | k + 1, h => by
    cases t : tr g k with
    | some y =>
      have e : tr g (k + 1) = some y := tr_some t 1
      rw [e] at h
      obtain ⟨i, h1, h2⟩ := tr_mem t
      exact ⟨i, by omega, by rw [h2]; exact h⟩
    | none => rw [tr_s t] at h; exact ⟨k, by omega, h⟩
noncomputable def sr (L : LF) (D : Int32) (k : Nat) : Nat → Nat → (Nat → Int32) → Option (Nat → Int32)
  | 0, _, c => some c
  | r + 1, j, c => if bt D j = true then tr (fun col => @ite _ (cnl L c j (nI col)) (Classical.propDecidable _) (sr L D k r (j + 1) (ucf c j (nI col))) none) k else sr L D k r (j + 1) (ucf c j (-1))
noncomputable def sq (L : LF) (D : Int32) (k : Nat) : Nat → Nat → Nat → (Nat → Int32) → Option (Nat → Int32)
  | 0, _, _, c => some c
  | r + 1, j, u, c => if bt D j = true then tr (fun col => @ite _ (cnl L c j (nI col)) (Classical.propDecidable _) (sq L D k r (j + 1) (max u (col + 1)) (ucf c j (nI col))) none) (min (u + 1) k) else sq L D k r (j + 1) u (ucf c j (-1))
/-- it can be ended -/
def cen (L : LF) (D : Int32) (k r j : Nat) (c f : Nat → Int32) : Prop := (∀ e, e < j → f e = c e) ∧ ∀ i, j ≤ i → i < j + r → (bt D i = true → ∃ col, col < k ∧ f i = nI col ∧ cnl L f i (nI col)) ∧ (bt D i = false → f i = -1)
theorem cnl_cong {L : LF} {c f : Nat → Int32} {j : Nat} {v : Int32} (h : ∀ e, e < j → f e = c e) : cnl L f j v ↔ cnl L c j v :=
  ⟨fun a e he hv => a e he (by rw [h e he]; exact hv), fun a e he hv => a e he (by rw [← h e he]; exact hv)⟩
theorem sr_cen (L : LF) (D : Int32) (k : Nat) : ∀ r j c, ((sr L D k r j c).isSome = true ↔ ∃ f, cen L D k r j c f)
  | 0, j, c => ⟨fun _ => ⟨c, fun e _ => rfl, fun i h1 h2 => by omega⟩, fun _ => rfl⟩
  | r + 1, j, c => by
    rw [show sr L D k (r + 1) j c = if bt D j = true then tr (fun col => @ite _ (cnl L c j (nI col)) (Classical.propDecidable _) (sr L D k r (j + 1) (ucf c j (nI col))) none) k else sr L D k r (j + 1) (ucf c j (-1)) from rfl]
    have ext : ∀ {v f}, cen L D k r (j + 1) (ucf c j v) f → (∀ e, e < j → f e = c e) ∧ f j = v := by
      intro v f ⟨h1, h2⟩
      exact ⟨fun e he => by rw [h1 e (by omega), ucf_o _ _ (by omega)], by rw [h1 j (by omega), ucf_s]⟩
    by_cases b : bt D j = true
    · rw [if_pos b]
      constructor
      · intro h
        obtain ⟨x, hx⟩ := Option.isSome_iff_exists.mp h
        obtain ⟨col, hc, hg⟩ := tr_mem hx
        split at hg
        · next q =>
          obtain ⟨f, hf⟩ := (sr_cen L D k r (j + 1) _).mp (by rw [hg]; rfl)
          obtain ⟨x1, x2⟩ := ext hf
          refine ⟨f, x1, fun i h1 h2 => ?_⟩
          by_cases ij : i = j
          · subst ij
            exact ⟨fun _ => ⟨col, hc, x2, (cnl_cong x1).mpr q⟩, fun a => by rw [b] at a; exact absurd a (by decide)⟩
          · exact hf.2 i (by omega) (by omega)
        · exact absurd hg (by simp)
      · intro ⟨f, f1, f2⟩
        obtain ⟨col, hc, e1, e2⟩ := (f2 j (by omega) (by omega)).1 b
        have q : cnl L c j (nI col) := (cnl_cong f1).mp e2
        cases t : tr (fun col => @ite _ (cnl L c j (nI col)) (Classical.propDecidable _) (sr L D k r (j + 1) (ucf c j (nI col))) none) k with
        | some x => rfl
        | none =>
          have := tr_none t col hc
          rw [if_pos q] at this
          have g : (sr L D k r (j + 1) (ucf c j (nI col))).isSome = true := (sr_cen L D k r (j + 1) _).mpr ⟨f, fun e he => ?_, fun i h1 h2 => f2 i (by omega) (by omega)⟩
          · rw [this] at g; exact absurd g (by decide)
          · by_cases ej : e = j
            · rw [ej, ucf_s]; exact e1
            · rw [ucf_o _ _ ej]; exact f1 e (by omega)
    · rw [if_neg b]
      have b' : bt D j = false := by cases q : bt D j <;> simp_all
      rw [sr_cen L D k r (j + 1) _]
      constructor
      · intro ⟨f, hf⟩
        obtain ⟨x1, x2⟩ := ext hf
        refine ⟨f, x1, fun i h1 h2 => ?_⟩
        by_cases ij : i = j
        · subst ij
          exact ⟨fun a => absurd a b, fun _ => x2⟩
        · exact hf.2 i (by omega) (by omega)
      · intro ⟨f, f1, f2⟩
        refine ⟨f, fun e he => ?_, fun i h1 h2 => f2 i (by omega) (by omega)⟩
        by_cases ej : e = j
        · rw [ej, ucf_s]; exact (f2 j (by omega) (by omega)).2 b'
        · rw [ucf_o _ _ ej]; exact f1 e (by omega)
