/-! rows: how many ways of so many deeds come to each -/
def cnt (L : LF) (Q : List TQ) : Nat → Nat → Nat
  | 0, j => if j = 0 then 1 else 0
  | i + 1, j => sN (fun k => sN (fun mv => if (gq Q j).1 = mvt L (gq Q k).1 mv then cnt L Q i k else 0) 16) Q.length
theorem sN_comm (f : Nat → Nat → Nat) (m : Nat) : ∀ n, sN (fun j => sN (fun k => f j k) m) n = sN (fun k => sN (fun j => f j k) n) m
  | 0 => (sN_zero m).symm
  | n + 1 => by
    show sN (fun j => sN (fun k => f j k) m) n + sN (fun k => f n k) m = sN (fun k => sN (fun j => f j k) n + f n k) m
    rw [sN_comm f m n, sN_add]
theorem sN_mono {f g : Nat → Nat} : ∀ {n : Nat}, (∀ k, k < n → f k ≤ g k) → sN f n ≤ sN g n
  | 0, _ => Nat.le_refl _
  | n + 1, h => Nat.add_le_add (sN_mono (fun k hk => h k (by omega))) (h n (by omega))
theorem sN_const (c : Nat) : ∀ n, sN (fun _ => c) n = n * c
  | 0 => by rw [Nat.zero_mul]; rfl
  | n + 1 => by rw [Nat.succ_mul]; show sN (fun _ => c) n + c = _; rw [sN_const c n]
theorem sN_mul (c : Nat) (f : Nat → Nat) : ∀ n, sN (fun k => c * f k) n = c * sN f n
  | 0 => rfl
  | n + 1 => by show sN (fun k => c * f k) n + c * f n = c * (sN f n + f n); rw [sN_mul c f n, Nat.mul_add]
theorem sN_inj {p : Nat → Prop} (dp : ∀ j, Decidable (p j)) (c : Nat) : ∀ n, (∀ j j', j < n → j' < n → p j → p j' → j = j') → sN (fun j => @ite _ (p j) (dp j) c 0) n ≤ c
  | 0, _ => Nat.zero_le _
  | n + 1, h => by
    have ih := sN_inj dp c n (fun j j' a b => h j j' (by omega) (by omega))
    show sN (fun j => @ite _ (p j) (dp j) c 0) n + @ite _ (p n) (dp n) c 0 ≤ c
    by_cases q : p n
    · rw [if_pos q, sN_cong (g := fun _ => 0) (fun k hk => if_neg (fun a => by have := h k n (by omega) (by omega) a q; omega)), sN_zero, Nat.zero_add]
      exact Nat.le_refl _
    · rw [if_neg q]; exact ih
theorem gq_nds {Q : List TQ} (h : nds Q) {i j : Nat} (hi : i < Q.length) (hj : j < Q.length) (e : (gq Q i).1 = (gq Q j).1) : i = j := h i j _ _ (gq_some hi) (gq_some hj) e
theorem cnt_sum {L : LF} {Q : List TQ} (h : nds Q) : ∀ i, sN (cnt L Q i) Q.length ≤ 16 ^ i
  | 0 => sN_inj (p := fun j => j = 0) (fun j => inferInstance) 1 Q.length (fun j j' _ _ a b => by omega)
  | i + 1 => by
    show sN (fun j => sN (fun k => sN (fun mv => if (gq Q j).1 = mvt L (gq Q k).1 mv then cnt L Q i k else 0) 16) Q.length) Q.length ≤ _
    rw [sN_comm]
    have : sN (fun k => sN (fun j => sN (fun mv => if (gq Q j).1 = mvt L (gq Q k).1 mv then cnt L Q i k else 0) 16) Q.length) Q.length ≤ sN (fun k => 16 * cnt L Q i k) Q.length := by
      apply sN_mono
      intro k hk
      rw [sN_comm]
      have : sN (fun mv => sN (fun j => if (gq Q j).1 = mvt L (gq Q k).1 mv then cnt L Q i k else 0) Q.length) 16 ≤ sN (fun _ => cnt L Q i k) 16 := by
        apply sN_mono
        intro mv _
        exact sN_inj (p := fun j => (gq Q j).1 = mvt L (gq Q k).1 mv) (fun j => inferInstance) _ Q.length (fun j j' a b e1 e2 => gq_nds h a b (by rw [e1, e2]))
      rw [sN_const] at this
      exact this
    rw [sN_mul] at this
    rw [Nat.pow_succ, Nat.mul_comm]
    exact Nat.le_trans this (Nat.mul_le_mul_left _ (cnt_sum h i))
theorem cnt_lt {L : LF} {Q : List TQ} (h : nds Q) {i j : Nat} (hi : i ≤ 8) (hj : j < Q.length) : cnt L Q i j ≤ 4294967296 :=
  Nat.le_trans (sN_ge (cnt L Q i) hj) (Nat.le_trans (cnt_sum h i) (Nat.le_trans (Nat.pow_le_pow_right (by decide) hi) (by decide)))
theorem sN_split (f : Nat → Nat) (a : Nat) : ∀ b, sN f (a + b) = sN f a + sN (fun k => f (a + k)) b
  | 0 => rfl
  | b + 1 => by show sN f (a + b) + f (a + b) = _; rw [sN_split f a b]; show _ = sN f a + (sN (fun k => f (a + k)) b + f (a + b)); omega
theorem sN_16 (g : Nat → Nat) {n : Nat} (hn : n ≤ 8) (h : ∀ e, n ≤ e → e < 8 → g e = 0 ∧ g (8 + e) = 0) : sN (fun e => g e + g (8 + e)) n = sN g 16 := by
  have a := sN_ext g (n := n) (8 - n) (fun k h1 h2 => (h k h1 (by omega)).1)
  have b := sN_ext (fun e => g (8 + e)) (n := n) (8 - n) (fun k h1 h2 => (h k h1 (by omega)).2)
  rw [show n + (8 - n) = 8 by omega] at a b
  have c := sN_split g 8 8
  rw [sN_add, show (16 : Nat) = 8 + 8 from rfl, c, a, b]
theorem okS.nn {L : LF} {s : Int32} (h : okS L s) : ¬ s < 0 := by
  obtain ⟨k, hk, rfl⟩ := h.nI
  exact nI_pos (by omega)
theorem allS.q {L : LF} {Q : List TQ} (h : allS L Q) {j : Nat} (hj : j < Q.length) : okS L (gq Q j).1 := h _ (List.mem_of_getElem? (gq_some hj))
def spj (L : LF) (Q : List TQ) (j : Nat) : Nat := (spt (lf_n L) (gq Q j).1).toNatClampNeg
section
variable {S : sk_S} {d : sk_D} {L : LF} {f : Int32} {q c w m len : Nat} {Q : List TQ} {K : Nat → Nat}
theorem spj_ok (hk : okL L) (h : allS L Q) {j : Nat} (hj : j < Q.length) : spj L Q j < 4 ^ lf_n L ∧ spt (lf_n L) (gq Q j).1 = nI (spj L Q j) := by
  have p := pow4 hk
  obtain ⟨k, hk1, ek⟩ := spt_nI hk (h.q hj).1.z
  have : spj L Q j = k := by unfold spj; rw [ek, nI_clamp (by omega)]
  rw [this]
  exact ⟨hk1, ek⟩
theorem spj_inj (hk : okL L) (h : allS L Q) {i j : Nat} (hi : i < Q.length) (hj : j < Q.length) (e : spj L Q i = spj L Q j) : (gq Q i).1 = (gq Q j).1 := spt_injN hk (h.q hi) (h.q hj) e
def wv (d : sk_D) (L : LF) (Q : List TQ) (a : Nat) (g : Nat → Nat) : Prop := ∀ j, j < Q.length → d.2 a (spj L Q j) = lN (g j)
theorem WkH.spot (h : WkH S d L q c w m len Q) {j : Nat} (hj : j < Q.length) : fX8_spot S d 40 (gq Q j).1 = some (nI (spj L Q j)) ∧ spj L Q j < len := by
  obtain ⟨h1, h2, h3, h4, h5, h6, h7, h8, h9, h10, h11⟩ := h
  obtain ⟨a, b⟩ := spj_ok h2 h8 hj
  rw [c_spot h1 h2 h3 h4 h5 (h8.q hj).1.z, b]
  exact ⟨rfl, by omega⟩
def wP (w m b : Nat) : Prop := scr b ∨ b = w ∨ b = m
theorem WS.kn (h : WS S q c w m len) : q ≠ w ∧ q ≠ m ∧ c ≠ w ∧ c ≠ m ∧ ¬ scr q ∧ ¬ scr c ∧ ¬ scr w ∧ ¬ scr m := by
  have h5 := h.2.2.2.2.1
  have h6 := h.2.2.2.2.2.1
  have h7 := h.2.2.2.2.2.2.1
  have h8 := h.2.2.2.2.2.2.2.1
  obtain ⟨a1, a2, a3, a4, -⟩ := h.ad
  unfold wkc at a1 a2 a3 a4
  unfold scr
  refine ⟨fun e => ?_, fun e => ?_, fun e => ?_, fun e => ?_, by omega, by omega, by omega, by omega⟩
  · rw [e, h7] at h5; exact absurd (show (21 : Nat) = 20 from congrArg Prod.fst h5) (by decide)
  · rw [e, h8] at h5; exact absurd (show (21 : Nat) = 20 from congrArg Prod.fst h5) (by decide)
  · rw [e, h7] at h6; exact absurd (show (21 : Nat) = 20 from congrArg Prod.fst h6) (by decide)
  · rw [e, h8] at h6; exact absurd (show (21 : Nat) = 20 from congrArg Prod.fst h6) (by decide)
theorem wP_no (h : WS S q c w m len) : ¬ wP w m 40 ∧ ¬ wP w m q ∧ ¬ wP w m c := by
  obtain ⟨k1, k2, k3, k4, k5, k6, -⟩ := h.kn
  obtain ⟨-, -, -, -, n1, n2, n3, n4, -⟩ := h.ad
  refine ⟨fun a => ?_, fun a => ?_, fun a => ?_⟩
  · rcases a with a | a | a
    · unfold scr at a; omega
    · exact n3 a.symm
    · exact n4 a.symm
  · rcases a with a | a | a
    · exact k5 a
    · exact k1 a
    · exact k2 a
  · rcases a with a | a | a
    · exact k6 a
    · exact k3 a
    · exact k4 a
theorem WkH.fr {e : sk_D} (h : WkH S d L q c w m len Q) (f : Fr (wP w m) d e) : WkH S e L q c w m len Q := by
  obtain ⟨h1, h2, h3, h4, h5, h6, h7, h8⟩ := h
  obtain ⟨n1, n2, n3⟩ := wP_no h3
  refine ⟨h1, h2, h3, ?_, h5, ?_, ?_, h8⟩
  · rw [f.i n1]; exact h4
  · rw [f.i n1]; exact h6
  · rw [f.i n2, f.i n3]; exact h7
theorem WS.kw (h : WS S q c w m len) (hF : (S.2.1 w).2 = len) : S.2.1 w = (21, len) ∧ S.2.1 m = (21, len) := by
  have h7 := h.2.2.2.2.2.2.1
  have h8 := h.2.2.2.2.2.2.2.1
  rw [hF] at h7 h8
  exact ⟨h7, h8⟩
theorem c_addW (h : WkH S d L q c w m len Q) (hF : (S.2.1 w).2 = len) {t : Int32} (ht : ¬ t < 0 → ∃ j0, j0 < Q.length ∧ (gq Q j0).1 = t) {g : Nat → Nat} (hv : wv d L Q m g) (x : Nat) : ∃ d', fX8_addWays S d 40 t (lN x) = some d' ∧ Fr (fun b => b = m) d d' ∧ d'.1 = d.1 ∧ wv d' L Q m (fun j => g j + if (gq Q j).1 = t then x else 0) := by
  have hS := h.1
  have hk := h.2.1
  have hw := h.2.2.1
  have hl := hw.len
  have km := (hw.kw hF).2
  have hs := h.2.2.2.2.2.2.2.1
  unfold fX8_addWays
  by_cases t0 : t < 0
  · rw [if_pos t0]
    refine ⟨d, rfl, Fr.refl _ _, rfl, fun j hj => ?_⟩
    dsimp only
    rw [if_neg (fun e => (hs.q hj).nn (by rw [e]; exact t0)), Nat.add_zero]
    exact hv j hj
  · obtain ⟨j0, hj0, e0⟩ := ht t0
    obtain ⟨s1, s2⟩ := h.spot hj0
    rw [if_neg t0, (ws_q hS hw).2.2.2, Option.bind_some, if_pos (kd40 hS), ← e0, s1, Option.bind_some, kl_lJ km hl.2 _ s2, Option.bind_some, kl_sJ km hl.2 _ _ s2, Option.bind_some]
    refine ⟨_, rfl, Fr.uJ _ rfl, rfl, fun j hj => ?_⟩
    dsimp only
    by_cases e : (gq Q j).1 = (gq Q j0).1
    · have ej : spj L Q j = spj L Q j0 := by unfold spj; rw [e]
      rw [if_pos e, ej, uJ_s, ← ej, hv j hj, lNa]
    · rw [if_neg e, uJ_k _ _ _ _ _ (fun a => e (spj_inj hk hs hj hj0 a)), Nat.add_zero]
      exact hv j hj
end
