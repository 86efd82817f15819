theorem mo_itrC {σ ε : Type} {body : σ → Option (σ ⊕ ε)} {n : Nat × Nat} {ν : ε → Nat × Nat} (h : ∀ s, sk_Mo n (Sum.elim (fun _ => n) ν) (body s)) (s0 : σ) : sk_Mo n ν (sk_itr body s0) := mo_itr (μ := fun _ => n) h s0
theorem mo_bindQ {α β : Type} {n : Nat × Nat} {pr : α → Nat × Nat} {q : β → Nat × Nat} {o : Option β} {k : β → Option α} (hA : sk_Mo n q o) (h : ∀ v, sk_Mo (q v) pr (k v)) : sk_Mo n pr (o.bind k) := fun a e => by
  obtain ⟨v, h1, h2⟩ := sk_ob e
  have a1 := hA v h1
  have a2 := h v a h2
  omega
theorem mo_bindM {α β γ : Type} {n : Nat × Nat} {pr : α → Nat × Nat} {ν : β → Nat × Nat} {o : Option (β ⊕ γ)} {k : β ⊕ γ → Option α} (hA : sk_Mo n (Sum.elim ν (fun _ => n)) o) (h1 : ∀ v, sk_Mo (ν v) pr (k (.inl v))) (h2 : ∀ v, sk_Mo n pr (k (.inr v))) : sk_Mo n pr (o.bind k) := fun a e => by
  obtain ⟨v, h3, h4⟩ := sk_ob e
  have a1 := hA v h3
  cases v with
  | inl v =>
    have a2 := h1 v a h4
    simp only [Sum.elim_inl] at a1
    omega
  | inr v => exact h2 v a h4
theorem mo_step {σ ε : Type} {body : σ → Option (σ ⊕ ε)} {μ : σ → Nat × Nat} {ν : ε → Nat × Nat} (h : ∀ s, sk_Mo (μ s) (Sum.elim μ ν) (body s)) {s : σ} {e : ε} {o : σ ⊕ ε} (hi : sk_itr body s = some e) (hb : body s = some o) : (Sum.elim μ ν o).1 ≤ (ν e).1 ∧ (Sum.elim μ ν o).2 ≤ (ν e).2 := by
  cases o with
  | inl s1 =>
    rw [sk_itr_step hb] at hi
    exact mo_itr h s1 e hi
  | inr e1 =>
    rw [sk_itr_exit hb] at hi
    cases hi
    exact ⟨Nat.le_refl _, Nat.le_refl _⟩
theorem sk_eq_le {S S2 : sk_S} (e : S2.1 = S.1) : S.1.1 ≤ S2.1.1 ∧ S.1.2 ≤ S2.1.2 := by rw [e]; exact ⟨Nat.le_refl _, Nat.le_refl _⟩
theorem sk_ss_le {S S2 : sk_S} (e : S = S2) : S.1.1 ≤ S2.1.1 ∧ S.1.2 ≤ S2.1.2 := by rw [e]; exact ⟨Nat.le_refl _, Nat.le_refl _⟩
