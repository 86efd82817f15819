/-! rows: the order of the queue, and shortest first ways -/
def gq (Q : List TQ) (i : Nat) : TQ := Q.getD i (0, 0, 0)
def BI (L : LF) (f : Int32) (Q : List TQ) (T : Nat) (K : Nat → Nat) : Prop := 0 < Q.length ∧ gq Q 0 = (f, 0, 31) ∧
  (∀ i, 1 ≤ i → i < Q.length → K i < T ∧ K i / 16 < i ∧ gq Q i = (mvt L (gq Q (K i / 16)).1 (K i % 16), (gq Q (K i / 16)).1, dcd (K i % 16)) ∧ ¬ (gq Q i).1 < 0) ∧
  (∀ i j, 1 ≤ i → i < j → j < Q.length → K i < K j) ∧
  ∀ c, c < T → c / 16 < Q.length → ¬ mvt L (gq Q (c / 16)).1 (c % 16) < 0 → ∃ i, i < Q.length ∧ (gq Q i).1 = mvt L (gq Q (c / 16)).1 (c % 16) ∧ (i = 0 ∨ K i ≤ c)
theorem gq_app {Q : List TQ} {x : TQ} {i : Nat} (h : i < Q.length) : gq (Q ++ [x]) i = gq Q i := by
  unfold gq; rw [List.getD_eq_getElem?_getD, List.getElem?_append_left h, ← List.getD_eq_getElem?_getD]
theorem gq_last (Q : List TQ) (x : TQ) : gq (Q ++ [x]) Q.length = x := by
  unfold gq; rw [List.getD_eq_getElem?_getD, List.getElem?_append_right (Nat.le_refl _)]; simp
theorem gq_some {Q : List TQ} {i : Nat} (h : i < Q.length) : Q[i]? = some (gq Q i) := by
  unfold gq; rw [List.getD_eq_getElem?_getD, List.getElem?_eq_getElem h]; rfl
theorem BI_step {L : LF} {f : Int32} {Q : List TQ} {T : Nat} {K : Nat → Nat} (h : BI L f Q T K) (hT : T / 16 < Q.length) : ∃ K', BI L f (rch Q (mvt L (gq Q (T / 16)).1 (T % 16)) (gq Q (T / 16)).1 (dcd (T % 16))) (T + 1) K' := by
  obtain ⟨h0, h1, h2, h3, h4⟩ := h
  by_cases c : mvt L (gq Q (T / 16)).1 (T % 16) < 0 ∨ (Q.any (fun x => x.1 == mvt L (gq Q (T / 16)).1 (T % 16))) = true
  · have e : rch Q (mvt L (gq Q (T / 16)).1 (T % 16)) (gq Q (T / 16)).1 (dcd (T % 16)) = Q := by unfold rch; rw [if_pos c]
    rw [e]
    refine ⟨K, h0, h1, fun i hi hl => ?_, h3, fun c2 hc hl hn => ?_⟩
    · obtain ⟨a, b⟩ := h2 i hi hl
      exact ⟨by omega, b⟩
    · by_cases ce : c2 = T
      · subst ce
        rcases c with c | c
        · exact absurd c hn
        · obtain ⟨x, hx, ex⟩ := (any_iff Q _).mp c
          obtain ⟨i, hi, hi2⟩ := List.mem_iff_getElem.mp hx
          have eg : gq Q i = x := by unfold gq; rw [List.getD_eq_getElem?_getD, List.getElem?_eq_getElem hi, hi2]; rfl
          refine ⟨i, hi, by rw [eg, ex], ?_⟩
          rcases Nat.eq_zero_or_pos i with z | z
          · left; exact z
          · right; have := (h2 i z hi).1; omega
      · exact h4 c2 (by omega) hl hn
  · have e : rch Q (mvt L (gq Q (T / 16)).1 (T % 16)) (gq Q (T / 16)).1 (dcd (T % 16)) = Q ++ [(mvt L (gq Q (T / 16)).1 (T % 16), (gq Q (T / 16)).1, dcd (T % 16))] := by unfold rch; rw [if_neg c]
    have c1 : ¬ mvt L (gq Q (T / 16)).1 (T % 16) < 0 := fun a => c (Or.inl a)
    rw [e]
    have ll : (Q ++ [(mvt L (gq Q (T / 16)).1 (T % 16), (gq Q (T / 16)).1, dcd (T % 16))]).length = Q.length + 1 := by simp
    have kT : (fun i => if i = Q.length then T else K i) Q.length = T := if_pos rfl
    have kO : ∀ i, i ≠ Q.length → (fun i => if i = Q.length then T else K i) i = K i := fun i h => if_neg h
    refine ⟨fun i => if i = Q.length then T else K i, by omega, by rw [gq_app h0]; exact h1, fun i hi hl => ?_, fun i j hi hij hj => ?_, fun c2 hc hl hn => ?_⟩
    · rw [ll] at hl
      by_cases ci : i = Q.length
      · subst ci
        rw [kT]
        refine ⟨by omega, hT, ?_, ?_⟩
        · rw [gq_last, gq_app hT]
        · rw [gq_last]; exact c1
      · rw [kO i ci]
        obtain ⟨a1, a2, a3, a4⟩ := h2 i hi (by omega)
        refine ⟨by omega, a2, ?_, ?_⟩
        · rw [gq_app (by omega), gq_app (by omega)]; exact a3
        · rw [gq_app (by omega)]; exact a4
    · rw [ll] at hj
      show (if i = Q.length then T else K i) < (if j = Q.length then T else K j)
      rw [if_neg (by omega)]
      by_cases cj : j = Q.length
      · rw [if_pos cj]; exact (h2 i hi (by omega)).1
      · rw [if_neg cj]; exact h3 i j hi hij (by omega)
    · by_cases cl : c2 / 16 = Q.length
      · exfalso; omega
      · rw [ll] at hl
        rw [gq_app (by omega)] at hn ⊢
        by_cases ce : c2 = T
        · subst ce
          exact ⟨Q.length, by omega, by rw [gq_last], Or.inr (by rw [kT]; omega)⟩
        · obtain ⟨i, hi, ei, oi⟩ := h4 c2 (by omega) (by omega) hn
          refine ⟨i, by omega, by rw [gq_app hi]; exact ei, ?_⟩
          rcases oi with z | z
          · left; exact z
          · right; rw [kO i (by omega)]; exact z
theorem bst_gq (L : LF) (s : Int32) (Q : List TQ) (k : Nat) {i : Nat} (hi : i < Q.length) : gq (bst L s k Q) i = gq Q i := by
  unfold gq; rw [List.getD_eq_getElem?_getD, (bst_len L s Q k).2 i hi, ← List.getD_eq_getElem?_getD]
theorem BI_bst {L : LF} {f : Int32} {Q : List TQ} {h : Nat} (hh : h < Q.length) : ∀ k, k ≤ 16 → (∃ K, BI L f Q (16 * h) K) → ∃ K, BI L f (bst L (gq Q h).1 k Q) (16 * h + k) K
  | 0, _, hK => hK
  | k + 1, hk, hK => by
    obtain ⟨K, hK2⟩ := BI_bst hh k (by omega) hK
    have ll := (bst_len L (gq Q h).1 Q k).1
    have e1 : (16 * h + k) / 16 = h := by omega
    have e2 : (16 * h + k) % 16 = k := by omega
    have := BI_step hK2 (by rw [e1]; omega)
    rw [e1, e2, bst_gq _ _ _ _ hh] at this
    rw [← Nat.add_assoc, bst]
    exact this
theorem BI_qs (L : LF) (f : Int32) : ∀ h, (∀ e, e < h → e < (qs L f e).length) → ∃ K, BI L f (qs L f h) (16 * h) K
  | 0, _ => ⟨fun _ => 0, by simp [qs], rfl, fun i hi hl => by simp [qs] at hl; omega, fun i j hi hij hj => by simp [qs] at hj; omega, fun c hc => by omega⟩
  | h + 1, hh => by
    have hl := hh h (by omega)
    have ih := BI_qs L f h (fun e he => hh e (by omega))
    have := BI_bst hl 16 (Nat.le_refl _) ih
    rw [qs_some (gq_some hl)]
    rw [show 16 * (h + 1) = 16 * h + 16 by omega]
    exact this
theorem bq_BI {L : LF} (hk : okL L) {f : Int32} (hf : okS L f) : ∃ K, BI L f (bq L f) (16 * (bq L f).length) K := by
  -- the first h at which the queue is worked off
  have ex : ∃ h, (qs L f h).length ≤ h := ⟨65536, nds_len (qs_ok hk hf 65536).1 (qs_ok hk hf 65536).2⟩
  obtain ⟨h, h1, h2⟩ := pk_least (fun h => (qs L f h).length ≤ h) ex
  have h6 : h ≤ 65536 := by
    rcases Nat.lt_or_ge 65536 h with a | a
    · exact absurd (nds_len (qs_ok hk hf 65536).1 (qs_ok hk hf 65536).2) (h2 65536 a)
    · exact a
  have e := bq_at hk hf h1 h6
  obtain ⟨K, hK⟩ := BI_qs L f h (fun e he => by have := h2 e he; omega)
  have hl : (qs L f h).length = h := by
    rcases Nat.eq_zero_or_pos h with z | z
    · exfalso
      have := hK.1
      omega
    · have a := h2 (h - 1) (by omega)
      have b := (qs_step L f (h - 1)).1
      rw [show h - 1 + 1 = h by omega] at b
      omega
  rw [e, hl]
  exact ⟨K, hK⟩
/-- an edge of the rows -/
def edg (L : LF) (Q : List TQ) (i mv j : Nat) : Prop := i < Q.length ∧ mv < 16 ∧ j < Q.length ∧ ¬ mvt L (gq Q i).1 mv < 0 ∧ (gq Q j).1 = mvt L (gq Q i).1 mv
def pth (L : LF) (Q : List TQ) (G : Nat → Prop) : Nat → Nat → Prop
  | i, 0 => G i ∧ i < Q.length
  | i, n + 1 => ∃ mv j, edg L Q i mv j ∧ pth L Q G j n
def par (K : Nat → Nat) (i : Nat) : Nat := K i / 16
/-- r steps back -/
def anc (K : Nat → Nat) (g : Nat) : Nat → Nat
  | 0 => g
  | r + 1 => par K (anc K g r)
section
variable {L : LF} {f : Int32} {Q : List TQ} {K : Nat → Nat}
theorem edg_k (h : BI L f Q (16 * Q.length) K) (hn : nds Q) {i mv j : Nat} (e : edg L Q i mv j) : j = 0 ∨ K j ≤ 16 * i + mv := by
  obtain ⟨e1, e2, e3, e4, e5⟩ := e
  have q1 : (16 * i + mv) / 16 = i := by omega
  have q2 : (16 * i + mv) % 16 = mv := by omega
  obtain ⟨j2, a1, a2, a3⟩ := h.2.2.2.2 (16 * i + mv) (by omega) (by omega) (by rw [q1, q2]; exact e4)
  rw [q1, q2, ← e5] at a2
  have := hn j2 j _ _ (gq_some a1) (gq_some e3) a2
  subst this
  exact a3
theorem edg_ex (h : BI L f Q (16 * Q.length) K) {i mv : Nat} (hi : i < Q.length) (hm : mv < 16) (hv : ¬ mvt L (gq Q i).1 mv < 0) : ∃ j, edg L Q i mv j := by
  have q1 : (16 * i + mv) / 16 = i := by omega
  have q2 : (16 * i + mv) % 16 = mv := by omega
  obtain ⟨j2, a1, a2, a3⟩ := h.2.2.2.2 (16 * i + mv) (by omega) (by omega) (by rw [q1, q2]; exact hv)
  rw [q1, q2] at a2
  exact ⟨j2, hi, hm, a1, hv, a2⟩
theorem par_edg (h : BI L f Q (16 * Q.length) K) {i : Nat} (h1 : 1 ≤ i) (h2 : i < Q.length) : edg L Q (par K i) (K i % 16) i ∧ par K i < i := by
  obtain ⟨a1, a2, a3, a4⟩ := h.2.2.1 i h1 h2
  have e : (gq Q i).1 = mvt L (gq Q (par K i)).1 (K i % 16) := by rw [a3]; rfl
  exact ⟨⟨by unfold par; omega, by omega, h2, by rw [← e]; exact a4, e⟩, a2⟩
/-- no way of r moves to a goal begins ahead of the r-th one before the first goal -/
theorem no_way (h : BI L f Q (16 * Q.length) K) (hn : nds Q) {G : Nat → Prop} {g : Nat} (hg : g < Q.length) (hfirst : ∀ i, i < g → ¬ G i) : ∀ r, (∀ k, k < r → 1 ≤ anc K g k) → ∀ i, i < anc K g r → ¬ pth L Q G i r
  | 0, _, i, hi, hp => hfirst i hi hp.1
  | r + 1, hr, i, hi, hp => by
    obtain ⟨mv, j, he, hj⟩ := hp
    have h1 := hr r (by omega)
    have hlt : anc K g r < Q.length := by
      have : ∀ k, k ≤ r → anc K g k < Q.length := by
        intro k
        induction k with
        | zero => intro _; exact hg
        | succ k ih =>
          intro hk
          have a := (par_edg h (hr k (by omega)) (ih (by omega))).2
          have b := ih (by omega)
          show par K (anc K g k) < Q.length
          omega
      exact this r (Nat.le_refl _)
    refine no_way h hn hg hfirst r (fun k hk => hr k (by omega)) j ?_ hj
    have hi2 : i < par K (anc K g r) := hi
    rcases edg_k h hn he with z | z
    · omega
    · have hm := he.2.1
      unfold par at hi2
      rcases Nat.lt_or_ge j (anc K g r) with a | a
      · exact a
      · exfalso
        rcases Nat.lt_or_ge (anc K g r) j with b | b
        · have := h.2.2.2.1 (anc K g r) j h1 b he.2.2.1
          omega
        · have : j = anc K g r := by omega
          subst this
          omega
theorem anc_lt (h : BI L f Q (16 * Q.length) K) {g : Nat} (hg : g < Q.length) : ∀ r, (∀ k, k < r → 1 ≤ anc K g k) → anc K g r + r ≤ g ∧ anc K g r < Q.length
  | 0, _ => ⟨Nat.le_refl _, hg⟩
  | r + 1, hr => by
    obtain ⟨a, b⟩ := anc_lt h hg r (fun k hk => hr k (by omega))
    have c := (par_edg h (hr r (by omega)) b).2
    show par K (anc K g r) + (r + 1) ≤ g ∧ par K (anc K g r) < Q.length
    omega
/-- how many steps back to the first -/
theorem anc_D (h : BI L f Q (16 * Q.length) K) {g : Nat} (hg : g < Q.length) : ∃ D, D ≤ g ∧ anc K g D = 0 ∧ ∀ k, k < D → 1 ≤ anc K g k := by
  have ex : ∃ r, anc K g r = 0 := by
    refine Classical.byContradiction (fun no => ?_)
    have all : ∀ k, 1 ≤ anc K g k := fun k => by
      rcases Nat.eq_zero_or_pos (anc K g k) with z | z
      · exact absurd ⟨k, z⟩ no
      · exact z
    have := (anc_lt h hg (g + 1) (fun k _ => all k)).1
    omega
  obtain ⟨D, d1, d2⟩ := pk_least (fun r => anc K g r = 0) ex
  have d3 : ∀ k, k < D → 1 ≤ anc K g k := fun k hk => Nat.pos_of_ne_zero (d2 k hk)
  have := (anc_lt h hg D d3).1
  exact ⟨D, by omega, d1, d3⟩
theorem anc_pth (h : BI L f Q (16 * Q.length) K) {G : Nat → Prop} {g : Nat} (hg : g < Q.length) (hG : G g) : ∀ r, (∀ k, k < r → 1 ≤ anc K g k) → pth L Q G (anc K g r) r
  | 0, _ => ⟨hG, hg⟩
  | r + 1, hr => by
    have ih := anc_pth h hg hG r (fun k hk => hr k (by omega))
    have hlt := (anc_lt h hg r (fun k hk => hr k (by omega))).2
    exact ⟨_, _, (par_edg h (hr r (by omega)) hlt).1, ih⟩
/-- no shorter way from there: a way of r moves from the t-th one before the first goal has r at least t -/
theorem anc_min (h : BI L f Q (16 * Q.length) K) (hn : nds Q) {G : Nat → Prop} {g : Nat} (hg : g < Q.length) (hfirst : ∀ i, i < g → ¬ G i) {t : Nat} (ht : ∀ k, k < t → 1 ≤ anc K g k) {r : Nat} (hp : pth L Q G (anc K g t) r) : t ≤ r := by
  rcases Nat.lt_or_ge r t with a | a
  · exfalso
    have dec : ∀ k, k ≤ t - r → anc K g (r + k) + k ≤ anc K g r := by
      intro k
      induction k with
      | zero => intro _; exact Nat.le_refl _
      | succ k ih =>
        intro hk
        have b := ih (by omega)
        have hlt := (anc_lt h hg (r + k) (fun k2 hk2 => ht k2 (by omega))).2
        have c := (par_edg h (ht (r + k) (by omega)) hlt).2
        have : anc K g (r + (k + 1)) = par K (anc K g (r + k)) := rfl
        omega
    have b := dec (t - r) (Nat.le_refl _)
    rw [show r + (t - r) = t by omega] at b
    exact no_way h hn hg hfirst r (fun k hk => ht k (by omega)) (anc K g t) (by omega) hp
  · exact a
end
