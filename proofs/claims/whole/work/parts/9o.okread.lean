/-! what is read is a life -/
theorem rn_app2 (g : Nat → Int32) (lim : Nat) : ∀ w v st, rn g lim (w ++ v) st = (rn g lim w st).bind (rn g lim v)
  | [], v, st => rfl
  | c :: w, v, st => by
    show (rs g lim st c).bind (rn g lim (w ++ v)) = ((rs g lim st c).bind (rn g lim w)).bind (rn g lim v)
    cases rs g lim st c with
    | none => rfl
    | some s => exact rn_app2 g lim w v s
def DPT (sl : Bool) (k : Nat) (P : Int32 → Prop) (w : List Int32) : Prop := (∀ g st, st.length + k ≤ 64 → ∃ v, P v ∧ rn g 64 w st = some (v :: st)) ∧ (sl = false → ∀ c ∈ w, c ≠ (-6 : Int32))
def DX (z : Nat) (sl : Bool) (k : Nat) (P : Int32 → Prop) (X : Nat → PR) : Prop := ∀ i, i ≤ z → ∀ y, X i = .inr y → DPT sl k P y.2
def bit01 (v : Int32) : Prop := v = 0 ∨ v = 1
def any01 (_ : Int32) : Prop := True
def isop (c : Int32) : Prop := c = -7 ∨ c = -8 ∨ c = -9 ∨ c = -10 ∨ c = -11 ∨ c = -12 ∨ c = -13 ∨ c = -14
theorem rs_bo {c : Int32} (h : isop c) (g : Nat → Int32) (a b : Int32) (st : List Int32) : rs g 64 (b :: a :: st) c = some (bo c a b :: st) := by
  unfold rs
  rcases h with h | h | h | h | h | h | h | h <;> subst h <;> rw [if_neg (by decide), if_neg (by decide), if_neg (by decide), if_pos (by decide)]
theorem isop6 {c : Int32} (h : isop c) : c ≠ -6 := by rcases h with h | h | h | h | h | h | h | h <;> subst h <;> decide
theorem DPT.m {sl : Bool} {k k' : Nat} {P : Int32 → Prop} {w : List Int32} (h : DPT sl k P w) (hk : k ≤ k') : DPT sl k' P w := ⟨fun g st hs => h.1 g st (by omega), h.2⟩
theorem DPT.bin {sl : Bool} {k : Nat} {P Q : Int32 → Prop} {w v : List Int32} {c : Int32} (hw : DPT sl (k + 1) P w) (hv : DPT sl k P v) (hc : isop c) (hP : ∀ a b, P a → P b → Q (bo c a b)) : DPT sl (k + 1) Q (w ++ v ++ [c]) := by
  refine ⟨fun g st hs => ?_, fun e x hx => ?_⟩
  · obtain ⟨a, p1, r1⟩ := hw.1 g st hs
    obtain ⟨b, p2, r2⟩ := hv.1 g (a :: st) (by simp only [List.length_cons]; omega)
    refine ⟨bo c a b, hP a b p1 p2, ?_⟩
    rw [rn_app2, rn_app2, r1, Option.bind_some, r2, Option.bind_some]
    show (rs g 64 (b :: a :: st) c).bind (rn g 64 []) = _
    rw [rs_bo hc]
    rfl
  · rw [List.mem_append, List.mem_append, List.mem_singleton] at hx
    rcases hx with (hx | hx) | hx
    · exact hw.2 e x hx
    · exact hv.2 e x hx
    · rw [hx]; exact isop6 hc
section
variable {T : TKS} {z : Nat} {sl : Bool}
theorem chn_DP {X : Nat → PR} (hT : okT2 T z) (hl : LENP z T X) {op : Int32 → Int32} (h2 : op 202 = 0) {k : Nat} {P : Int32 → Prop} (hX : DX z sl k P X) (ho : ∀ t, op t ≠ 0 → isop (op t) ∧ ∀ a b, P a → P b → P (bo (op t) a b)) : ∀ f i w, i ≤ z → DPT sl (k + 1) P w → ∀ y, chn T X op f i w = .inr y → DPT sl (k + 1) P y.2
  | 0, i, w, hi, hw, y, e => by rw [← Sum.inr.inj e]; exact hw
  | f + 1, i, w, hi, hw, y, e => by
    unfold chn at e
    split at e
    · rw [← Sum.inr.inj e]; exact hw
    · next q =>
      have hz := op_lt hT hi h2 q
      cases x : X (i + 1) with
      | inl u => rw [x] at e; exact absurd e (by simp)
      | inr u =>
        rw [x] at e
        have a := hX (i + 1) (by omega) u x
        obtain ⟨o1, o2⟩ := ho _ q
        exact chn_DP hT hl h2 hX ho f u.1 (w ++ u.2 ++ [op (T.1 i)]) (hl (i + 1) (by omega) u x).2.2 (hw.bin a o1 o2) y e
theorem chain_DP {X : Nat → PR} (hT : okT2 T z) (hl : LENP z T X) {op : Int32 → Int32} (h2 : op 202 = 0) {k : Nat} {P : Int32 → Prop} (hX : DX z sl k P X) (ho : ∀ t, op t ≠ 0 → isop (op t) ∧ ∀ a b, P a → P b → P (bo (op t) a b)) : DX z sl (k + 1) P (chain T X op) := by
  intro i hi y e
  unfold chain at e
  cases x : X i with
  | inl u => rw [x] at e; exact absurd e (by simp)
  | inr u => rw [x] at e; exact chn_DP hT hl h2 hX ho 901 u.1 u.2 (hl i hi u x).2.2 ((hX i hi u x).m (by omega)) y e
theorem o_plus (t : Int32) (h : oPlus t ≠ 0) : isop (oPlus t) ∧ ∀ a b, any01 a → any01 b → any01 (bo (oPlus t) a b) := by
  refine ⟨?_, fun _ _ _ _ => trivial⟩
  unfold oPlus at h ⊢
  split
  · exact Or.inl rfl
  · split
    · exact Or.inr (Or.inl rfl)
    · next a b => rw [if_neg a, if_neg b] at h; exact absurd rfl h
theorem o_star (t : Int32) (h : oStar t ≠ 0) : isop (oStar t) ∧ ∀ a b, any01 a → any01 b → any01 (bo (oStar t) a b) := by
  refine ⟨?_, fun _ _ _ _ => trivial⟩
  unfold oStar at h ⊢
  split
  · exact Or.inr (Or.inr (Or.inl rfl))
  · next a => rw [if_neg a] at h; exact absurd rfl h
theorem o_and (t : Int32) (h : oAnd t ≠ 0) : isop (oAnd t) ∧ ∀ a b, bit01 a → bit01 b → bit01 (bo (oAnd t) a b) := by
  unfold oAnd at h ⊢
  split
  · refine ⟨by unfold isop; decide, fun a b ha hb => ?_⟩
    rcases ha with ha | ha <;> rcases hb with hb | hb <;> subst ha <;> subst hb <;> unfold bit01 <;> decide
  · next a => rw [if_neg a] at h; exact absurd rfl h
theorem o_or (t : Int32) (h : oOr t ≠ 0) : isop (oOr t) ∧ ∀ a b, bit01 a → bit01 b → bit01 (bo (oOr t) a b) := by
  unfold oOr at h ⊢
  split
  · refine ⟨by unfold isop; decide, fun a b ha hb => ?_⟩
    rcases ha with ha | ha <;> rcases hb with hb | hb <;> subst ha <;> subst hb <;> unfold bit01 <;> decide
  · next a => rw [if_neg a] at h; exact absurd rfl h
theorem o_cmp (t : Int32) (h : oCmp t ≠ 0) : isop (oCmp t) ∧ ∀ a b, any01 a → any01 b → bit01 (bo (oCmp t) a b) := by
  unfold oCmp at h ⊢
  split
  · refine ⟨by unfold isop; decide, fun a b _ _ => ?_⟩
    unfold bo bit01
    rw [if_neg (by decide), if_neg (by decide), if_neg (by decide), if_neg (by decide), if_pos rfl]
    split
    · exact Or.inr rfl
    · exact Or.inl rfl
  · split
    · refine ⟨by unfold isop; decide, fun a b _ _ => ?_⟩
      unfold bo bit01
      rw [if_neg (by decide), if_neg (by decide), if_neg (by decide), if_pos rfl]
      split
      · exact Or.inl rfl
      · exact Or.inr rfl
    · split
      · refine ⟨by unfold isop; decide, fun a b _ _ => ?_⟩
        unfold bo bit01
        rw [if_neg (by decide), if_neg (by decide), if_pos rfl]
        split
        · exact Or.inl rfl
        · exact Or.inr rfl
      · next a b c => rw [if_neg a, if_neg b, if_neg c] at h; exact absurd rfl h
theorem close_DP {k : Nat} {P : Int32 → Prop} {a : Int32} {r : PR} (h : ∀ y, r = .inr y → DPT sl k P y.2) : ∀ y, closeB T a r = .inr y → DPT sl k P y.2 := by
  intro y e
  unfold closeB at e
  cases r with
  | inl v => exact absurd e (by simp)
  | inr v =>
    dsimp only at e
    split at e
    · rw [← Sum.inr.inj e]; exact h v rfl
    · exact absurd e (by simp)
theorem atom_DP (hT : okT2 T z) {k : Nat} (hk : 1 ≤ k) {o : Option (Nat → PR)} (ho : ∀ s, o = some s → DX z sl k any01 s) : DX z sl k any01 (gAtom T sl o) := by
  intro i hi y e
  unfold gAtom at e
  split at e
  · next c =>
    obtain ⟨v, hv, ev⟩ := hT.2.2.2 i hi c
    rw [← Sum.inr.inj e, ev]
    refine ⟨fun g st hs => ⟨nI v, trivial, ?_⟩, fun _ x hx => ?_⟩
    · show (rs g 64 st (nI v)).bind (rn g 64 []) = _
      unfold rs
      rw [if_pos (by rw [← Int32.not_lt]; exact nI_pos (by omega)), if_pos ⟨by rw [show (1000 : Int32) = nI 1000 from rfl, nI_ltI (by omega) (by omega)]; omega, by omega⟩]
      rfl
    · rw [List.mem_singleton] at hx
      rw [hx]
      intro a
      exact nI_pos (show v < 2147483648 by omega) (by rw [a]; decide)
  · split at e
    · next c =>
      have hz := tk_lt hT hi (by rw [c]; decide)
      cases o with
      | none => exact absurd e (by simp)
      | some s => exact close_DP (fun v hv => ho s rfl (i + 1) (by omega) v hv) y e
    · split at e
      · exact absurd e (by simp)
      · next c =>
        rw [← Sum.inr.inj e]
        have vals : (stp sl (T.1 i) = -1 ∨ stp sl (T.1 i) = -2 ∨ stp sl (T.1 i) = -3 ∨ stp sl (T.1 i) = -4 ∨ stp sl (T.1 i) = -5) ∨ (sl = true ∧ stp sl (T.1 i) = -6) := by
          revert c
          unfold stp
          repeat' split
          all_goals first | (intro _; exact Or.inr ⟨by assumption, rfl⟩) | (intro _; left; decide) | (intro a; exact absurd rfl a)
        refine ⟨fun g st hs => ⟨g ((-1 : Int32) - stp sl (T.1 i)).toNatClampNeg, trivial, ?_⟩, fun e x hx => ?_⟩
        · show (rs g 64 st (stp sl (T.1 i))).bind (rn g 64 []) = _
          have n0 : ¬ 0 ≤ stp sl (T.1 i) := by rcases vals with (v | v | v | v | v) | ⟨_, v⟩ <;> rw [v] <;> decide
          have n6 : (-6 : Int32) ≤ stp sl (T.1 i) := by rcases vals with (v | v | v | v | v) | ⟨_, v⟩ <;> rw [v] <;> decide
          unfold rs
          rw [if_neg n0, if_pos n6, if_pos (by omega)]
          rfl
        · rw [List.mem_singleton] at hx
          rw [hx]
          rcases vals with (v | v | v | v | v) | ⟨s, _⟩
          · rw [v]; decide
          · rw [v]; decide
          · rw [v]; decide
          · rw [v]; decide
          · rw [v]; decide
          · rw [e] at s; exact absurd s (by decide)
theorem sum_DP (hT : okT2 T z) : ∀ r, DX z sl (2 * r + 3) any01 (gSum T sl r)
  | 0 => chain_DP hT (chain_len hT (atom_len hT sl (fun s e => absurd e (by simp))) (by decide)) (by decide) (chain_DP hT (atom_len hT sl (fun s e => absurd e (by simp))) (by decide) (atom_DP hT (Nat.le_refl 1) (fun s e => absurd e (by simp))) o_star) o_plus
  | r + 1 => chain_DP hT (chain_len hT (atom_len hT sl (fun s e => by obtain rfl := Option.some.inj e; exact sum_len hT sl r)) (by decide)) (by decide) (chain_DP hT (atom_len hT sl (fun s e => by obtain rfl := Option.some.inj e; exact sum_len hT sl r)) (by decide) (atom_DP (k := 2 * r + 3) hT (by omega) (fun s e => by obtain rfl := Option.some.inj e; exact sum_DP hT r)) o_star) o_plus
theorem comp_DP {s : Nat → PR} (hT : okT2 T z) (hl : LENP z T s) {k : Nat} (hs : DX z sl k any01 s) : DX z sl (k + 1) bit01 (gComp T s) := by
  intro i hi y e
  unfold gComp at e
  cases x : s i with
  | inl u => rw [x] at e; exact absurd e (by simp)
  | inr u =>
    rw [x] at e
    have l := (hl i hi u x).2.2
    dsimp only at e
    split at e
    · exact absurd e (by simp)
    · next c =>
      have hz := op_lt hT l (by decide) c
      cases x2 : s (u.1 + 1) with
      | inl v => rw [x2] at e; exact absurd e (by simp)
      | inr v =>
        rw [x2] at e
        rw [← Sum.inr.inj e]
        obtain ⟨o1, o2⟩ := o_cmp _ c
        exact ((hs i hi u x).m (by omega)).bin (hs (u.1 + 1) (by omega) v x2) o1 o2
theorem not_DP {k : Nat} (hk : 0 < k) {w : List Int32} (h : DPT sl k bit01 w) : DPT sl k bit01 (w ++ [-15]) := by
  refine ⟨fun g st hs => ?_, fun e x hx => ?_⟩
  · obtain ⟨v, p, r⟩ := h.1 g st hs
    refine ⟨1 - v, by rcases p with p | p <;> subst p <;> unfold bit01 <;> decide, ?_⟩
    rw [rn_app2, r, Option.bind_some]
    show (rs g 64 (v :: st) (-15)).bind (rn g 64 []) = _
    unfold rs
    rw [if_neg (by decide), if_neg (by decide), if_pos rfl]
    rfl
  · rw [List.mem_append, List.mem_singleton] at hx
    rcases hx with hx | hx
    · exact h.2 e x hx
    · rw [hx]; decide
theorem unit_DP {s : Nat → PR} (hT : okT2 T z) (hl : LENP z T s) {k : Nat} (hs : DX z sl (k + 1) any01 s) {o : Option (Nat → PR)} (ho : ∀ u, o = some u → DX z sl k bit01 u ∧ LENP z T u) : DX z sl (k + 2) bit01 (gUnitB T s o) := by
  intro i hi y e
  unfold gUnitB at e
  split at e
  · next c =>
    have hz := tk_lt hT hi (by rw [c]; decide)
    cases o with
    | none => exact absurd e (by simp)
    | some u =>
      dsimp only at e
      cases x : u (i + 1) with
      | inl v => rw [x] at e; exact absurd e (by simp)
      | inr v =>
        rw [x] at e
        rw [← Sum.inr.inj e]
        exact not_DP (by omega) (((ho u rfl).1 (i + 1) (by omega) v x).m (by omega))
  · split at e
    · next c =>
      have hz := tk_lt hT hi (by rw [c]; decide)
      cases o with
      | none => exact absurd e (by simp)
      | some u =>
        obtain ⟨o1, o2⟩ := ho u rfl
        exact close_DP (fun v hv => chain_DP hT (chain_len hT o2 (by decide)) (by decide) (chain_DP hT o2 (by decide) o1 o_and) o_or (i + 1) (by omega) v hv) y e
    · exact comp_DP hT hl hs i hi y e
theorem gUnit_DP (hT : okT2 T z) : ∀ r, DX z sl (2 * r + 4) bit01 (gUnit T sl r)
  | 0 => unit_DP (k := 2) hT (sum_len hT sl 0) (sum_DP hT 0) (fun u e => absurd e (by simp))
  | r + 1 => unit_DP (k := 2 * r + 4) hT (sum_len hT sl (r + 1)) (sum_DP hT (r + 1)) (fun u e => by obtain rfl := Option.some.inj e; exact ⟨gUnit_DP hT r, gUnit_len hT sl r⟩)
theorem truth_ok (hT : okT2 T z) {t : Nat} {i : Nat} (hi : i ≤ z) {y : Nat × List Int32} (e : gTruth T (decide (t = 1)) 6 i = .inr y) : okW t y.2 ∧ y.1 ≤ z := by
  have h := chain_DP hT (chain_len hT (gUnit_len hT (decide (t = 1)) 6) (by decide)) (by decide) (chain_DP hT (gUnit_len hT (decide (t = 1)) 6) (by decide) (gUnit_DP (sl := decide (t = 1)) hT 6) o_and) o_or i hi y e
  have l := truth_len hT (decide (t = 1)) 6 i hi y e
  have hz := hT.2.2.1
  refine ⟨⟨by omega, fun _ g => ?_, fun t0 => h.2 (by rw [t0]; rfl)⟩, l.2.2⟩
  obtain ⟨v, p, r⟩ := h.1 g [] (by simp)
  exact ⟨v, p, r⟩
theorem tnu_v {lo hi : Nat} (hT : okT2 T z) {i : Nat} (hi' : i ≤ z) (h1 : lo ≤ 1000) (h2 : hi ≤ 1000) {u : Int32} (h : tnu T (nI lo) (nI hi) i = .inr u) : (∃ v, lo ≤ v ∧ v ≤ hi ∧ u = nI v) ∧ i < z := by
  obtain ⟨a1, a2, a3, a4, a5⟩ := tnu_lt hT hi' h
  obtain ⟨v, hv, ev⟩ := hT.2.2.2 i hi' a2
  rw [← a3, ev] at a4 a5
  rw [nI_ltI (by omega) (by omega)] at a4
  rw [nI_leI (by omega) (by omega)] at a5
  exact ⟨⟨v, by omega, a5, by rw [← a3, ev]⟩, a1⟩
theorem okL.sv {L : LF} (h : okL L) {t j : Nat} (ht : t < 7) {x : Int32} (f0 : t = 0 → ∃ z, 1 ≤ z ∧ z ≤ 9 ∧ x = nI z) (f1 : t = 1 → ∃ z, z ≤ 9 ∧ x = nI z) (f2 : t = 2 → ∃ z, z ≤ 10 ∧ x = nI z) (f3 : t = 3 → ∃ z, z ≤ 10 ∧ x = nI z) (f4 : t = 4 → ∃ z, z ≤ 9 ∧ x = nI z) (f5 : t = 5 → ∀ e, e < 32 → bt x e = true → e < j) (f6 : t = 6 → ∀ e, e < 32 → bt x e = true → e < lf_n L) : okL (sV L t j x) := by
  obtain ⟨h1, h2, h3, h4, h5, h6, h7⟩ := h
  have w : ∀ t' j' (Q : Int32 → Prop), Q (lf_v L t' j') → (t' = t → j' = j → Q x) → Q (lf_v (sV L t j x) t' j') := by
    intro t' j' Q a b
    show Q (if t' = t ∧ j' = j then x else L.2.1 t' j')
    by_cases e : t' = t ∧ j' = j
    · rw [if_pos e]; exact b e.1 e.2
    · rw [if_neg e]; exact a
  refine ⟨h1, h2, h3, fun j' hj' => ?_, fun j' hj' => w 7 j' (fun v => ∃ z, z ≤ 9 ∧ v = nI z) (h5 j' hj') (fun a _ => by omega), h6, h7⟩
  obtain ⟨a0, a1, a2, a3, a4, a5, a6⟩ := h4 j' hj'
  exact ⟨w 0 j' (fun v => ∃ z, 1 ≤ z ∧ z ≤ 9 ∧ v = nI z) a0 (fun a _ => f0 a.symm), w 1 j' (fun v => ∃ z, z ≤ 9 ∧ v = nI z) a1 (fun a _ => f1 a.symm), w 2 j' (fun v => ∃ z, z ≤ 10 ∧ v = nI z) a2 (fun a _ => f2 a.symm), w 3 j' (fun v => ∃ z, z ≤ 10 ∧ v = nI z) a3 (fun a _ => f3 a.symm), w 4 j' (fun v => ∃ z, z ≤ 9 ∧ v = nI z) a4 (fun a _ => f4 a.symm), w 5 j' (fun v => ∀ e, e < 32 → bt v e = true → e < j') a5 (fun a b => by rw [b]; exact f5 a.symm), w 6 j' (fun v => ∀ e, e < 32 → bt v e = true → e < lf_n L) a6 (fun a _ => f6 a.symm)⟩
theorem flags_ok (hT : okT2 T z) {j : Nat} (hj8 : j < 8) : ∀ f i L, i ≤ z → okL L → j < lf_n L → ∀ y, gFlags T j f i L = .inr y → okL y.2 ∧ y.1 ≤ z
  | 0, i, L, hi, h, hj, y, e => by rw [← Sum.inr.inj e]; exact ⟨h, hi⟩
  | f + 1, i, L, hi, h, hj, y, e => by
    unfold gFlags at e
    by_cases k11 : T.1 i = 11
    · have hz := tk_lt hT hi (by rw [k11]; decide)
      rw [if_pos k11] at e
      cases g : tnu T 0 (nI j - 1) (i + 1) with
      | inl u => rw [g] at e; exact absurd e (by simp)
      | inr u =>
        rw [g] at e
        obtain ⟨a, ha, ea⟩ := tnu_n hT (by omega) (by omega) g
        have l := (tnu_lt hT (by omega) g).1
        refine flags_ok hT hj8 f (i + 2) (sV L 5 j (lf_v L 5 j ||| ((1 : Int32) <<< (u &&& 31)))) (by omega) (h.sv (by omega) (fun a => by omega) (fun a => by omega) (fun a => by omega) (fun a => by omega) (fun a => by omega) (fun _ e he hb => ?_) (fun a => by omega)) hj y e
        rw [ea, b_or] at hb
        have b2 : bt ((1 : Int32) <<< (nI a &&& 31)) e = decide (e = a) := bt_b1x (n := a) (by omega) he
        rw [b2] at hb
        by_cases q : e = a
        · omega
        · rw [decide_eq_false q, Bool.or_false] at hb
          exact (h.2.2.2.1 j hj).2.2.2.2.2.1 e he hb
    · rw [if_neg k11] at e
      split at e
      · rw [← Sum.inr.inj e]; exact ⟨h, hi⟩
      · next k0 =>
        have hz := tk_lt hT hi (fun a => k0 (by rw [a]; rfl))
        cases g : tnu T 0 (fhi (T.1 i)) (i + 1) with
        | inl u => rw [g] at e; exact absurd e (by simp)
        | inr u =>
          rw [g] at e
          have l := (tnu_lt hT (by omega) g).1
          refine flags_ok hT hj8 f (i + 2) (sV L (ftt (T.1 i)) j u) (by omega) ?_ hj y e
          by_cases k4 : T.1 i = 4
          · rw [k4] at g ⊢
            obtain ⟨⟨v, _, v2, v3⟩, _⟩ := tnu_v (lo := 0) (hi := 9) hT (by omega) (by omega) (by omega) g
            exact h.sv (t := 1) (by omega) (fun a => by omega) (fun _ => ⟨v, v2, v3⟩) (fun a => by omega) (fun a => by omega) (fun a => by omega) (fun a => by omega) (fun a => by omega)
          · by_cases k8 : T.1 i = 8
            · rw [k8] at g ⊢
              obtain ⟨⟨v, _, v2, v3⟩, _⟩ := tnu_v (lo := 0) (hi := 10) hT (by omega) (by omega) (by omega) g
              exact h.sv (t := 2) (by omega) (fun a => by omega) (fun a => by omega) (fun _ => ⟨v, v2, v3⟩) (fun a => by omega) (fun a => by omega) (fun a => by omega) (fun a => by omega)
            · by_cases k9 : T.1 i = 9
              · rw [k9] at g ⊢
                obtain ⟨⟨v, _, v2, v3⟩, _⟩ := tnu_v (lo := 0) (hi := 10) hT (by omega) (by omega) (by omega) g
                exact h.sv (t := 3) (by omega) (fun a => by omega) (fun a => by omega) (fun a => by omega) (fun _ => ⟨v, v2, v3⟩) (fun a => by omega) (fun a => by omega) (fun a => by omega)
              · by_cases k10 : T.1 i = 10
                · rw [k10] at g ⊢
                  obtain ⟨⟨v, _, v2, v3⟩, _⟩ := tnu_v (lo := 0) (hi := 9) hT (by omega) (by omega) (by omega) g
                  exact h.sv (t := 4) (by omega) (fun a => by omega) (fun a => by omega) (fun a => by omega) (fun a => by omega) (fun _ => ⟨v, v2, v3⟩) (fun a => by omega) (fun a => by omega)
                · exact absurd (by unfold ftt; rw [if_neg k4, if_neg k8, if_neg k9, if_neg k10]) k0
theorem bt0 (e : Nat) : bt 0 e = false := b_0 e
theorem addD_ok {L : LF} (h : okL L) (h8 : lf_n L < 8) {v : Nat} (v1 : 1 ≤ v) (v2 : v ≤ 9) : okL (addD L (nI v)) := by
  obtain ⟨h1, h2, h3, h4, h5, h6, h7⟩ := h
  have nw : ∀ t, t < 7 → lf_v (addD L (nI v)) t (lf_n L) = (if t = 0 then nI v else if t = 2 then 5 else if t = 4 then 1 else 0) := fun t ht => if_pos ⟨rfl, ht⟩
  have od : ∀ t j, j ≠ lf_n L → lf_v (addD L (nI v)) t j = lf_v L t j := fun t j hj => if_neg (fun a => hj a.1)
  refine ⟨by show lf_n L + 1 ≤ 8; omega, h2, h3, fun j hj => ?_, fun j hj => ?_, h6, h7⟩
  · have hj' : j < lf_n L + 1 := hj
    by_cases e : j = lf_n L
    · subst e
      rw [nw 0 (by omega), nw 1 (by omega), nw 2 (by omega), nw 3 (by omega), nw 4 (by omega), nw 5 (by omega), nw 6 (by omega)]
      refine ⟨⟨v, v1, v2, rfl⟩, ⟨0, by omega, rfl⟩, ⟨5, by omega, rfl⟩, ⟨0, by omega, rfl⟩, ⟨1, by omega, rfl⟩, fun e _ hb => ?_, fun e _ hb => ?_⟩
      · have : bt 0 e = true := hb
        rw [bt0] at this; exact absurd this (by decide)
      · have : bt 0 e = true := hb
        rw [bt0] at this; exact absurd this (by decide)
    · rw [od 0 j e, od 1 j e, od 2 j e, od 3 j e, od 4 j e, od 5 j e, od 6 j e]
      obtain ⟨a0, a1, a2, a3, a4, a5, a6⟩ := h4 j (by omega)
      exact ⟨a0, a1, a2, a3, a4, a5, fun e he hb => by have := a6 e he hb; show e < lf_n L + 1; omega⟩
  · show ∃ z, z ≤ 9 ∧ (if j = lf_n L ∧ 7 < 7 then _ else L.2.1 7 j) = nI z
    rw [if_neg (fun a => by omega)]; exact h5 j hj
theorem line_ok (hT : okT2 T z) {i : Nat} (hi : i ≤ z) {D : DFT} (h : okL D.1 ∧ ∃ s, s < 10 ∧ D.2 = nI s) {y : Nat × DFT} (e : gLine T i D = .inr y) : (okL y.2.1 ∧ ∃ s, s < 10 ∧ y.2.2 = nI s) ∧ y.1 ≤ z := by
  obtain ⟨hL, hs⟩ := h
  have ws : ∀ (r : FLT ⊕ (Nat × LF)), (∀ u, r = .inr u → okL u.2 ∧ u.1 ≤ z) → wSl r D.2 = .inr y → (okL y.2.1 ∧ ∃ s, s < 10 ∧ y.2.2 = nI s) ∧ y.1 ≤ z := by
    intro r hr er
    unfold wSl at er
    cases r with
    | inl x => exact absurd er (by simp)
    | inr u =>
      obtain ⟨a, b⟩ := hr u rfl
      rw [← Sum.inr.inj er]
      exact ⟨⟨a, hs⟩, b⟩
  have law : ∀ t, t < 2 → T.1 i ≠ 202 → ∀ u, gLaw T t i D.1 = .inr u → okL u.2 ∧ u.1 ≤ z := by
    intro t ht k u eu
    have hz := tk_lt hT hi k
    unfold gLaw at eu
    split at eu
    · next c =>
      have hz2 := tk_lt hT (show i + 1 ≤ z by omega) (by rw [c]; decide)
      cases g : gTruth T (decide (t = 1)) 6 (i + 2) with
      | inl x => rw [g] at eu; exact absurd eu (by simp)
      | inr x =>
        rw [g] at eu
        rw [← Sum.inr.inj eu]
        obtain ⟨a, b⟩ := truth_ok (t := t) hT (by omega) g
        refine ⟨?_, b⟩
        obtain ⟨h1, h2, h3, h4, h5, h6, h7⟩ := hL
        refine ⟨h1, h2, h3, h4, h5, ?_, ?_⟩
        · show okW 0 (if 0 = t then x.2 else D.1.2.2 0)
          by_cases q : 0 = t
          · rw [if_pos q]; subst q; exact a
          · rw [if_neg q]; exact h6
        · show okW 1 (if 1 = t then x.2 else D.1.2.2 1)
          by_cases q : 1 = t
          · rw [if_pos q]; subst q; exact a
          · rw [if_neg q]; exact h7
    · exact absurd eu (by simp)
  unfold gLine at e
  by_cases k2 : T.1 i = 2
  · rw [if_pos k2] at e
    refine ws _ (fun u eu => ?_) e
    have hz := tk_lt hT hi (by rw [k2]; decide)
    unfold gDoing at eu
    split at eu
    · exact absurd eu (by simp)
    · next n8 =>
      split at eu
      · next c =>
        have hz2 := tk_lt hT (show i + 1 ≤ z by omega) (by rw [c]; decide)
        cases g : tnu T 1 9 (i + 2) with
        | inl x => rw [g] at eu; exact absurd eu (by simp)
        | inr x =>
          rw [g] at eu
          obtain ⟨⟨v, v1, v2, v3⟩, l⟩ := tnu_v (lo := 1) (hi := 9) hT (by omega) (by omega) (by omega) g
          refine flags_ok hT (by omega) 901 (i + 3) (addD D.1 x) (by omega) ?_ (by show lf_n D.1 < lf_n D.1 + 1; omega) u eu
          rw [v3]
          exact addD_ok hL (by omega) v1 v2
      · exact absurd eu (by simp)
  rw [if_neg k2] at e
  by_cases k12 : T.1 i = 12
  · rw [if_pos k12] at e
    refine ws _ (fun u eu => ?_) e
    have hz := tk_lt hT hi (by rw [k12]; decide)
    unfold gDoor at eu
    split at eu
    · exact absurd eu (by simp)
    · next n8 =>
      cases g : tnu T 0 9 (i + 1) with
      | inl x => rw [g] at eu; exact absurd eu (by simp)
      | inr x =>
        rw [g] at eu
        rw [← Sum.inr.inj eu]
        obtain ⟨⟨v, _, v2, v3⟩, l⟩ := tnu_v (lo := 0) (hi := 9) hT (by omega) (by omega) (by omega) g
        refine ⟨?_, by dsimp only; omega⟩
        obtain ⟨h1, h2, h3, h4, h5, h6, h7⟩ := hL
        have od : ∀ t j, t ≠ 7 → lf_v (addK D.1 x) t j = lf_v D.1 t j := fun t j hj => if_neg (fun a => hj a.1)
        refine ⟨h1, by show lf_k D.1 + 1 ≤ 8; omega, h3, fun j hj => ?_, fun j hj => ?_, h6, h7⟩
        · have := h4 j hj
          dsimp only
          rw [od 0 j (by omega), od 1 j (by omega), od 2 j (by omega), od 3 j (by omega), od 4 j (by omega), od 5 j (by omega), od 6 j (by omega)]
          exact this
        · have hj' : j < lf_k D.1 + 1 := hj
          show ∃ z, z ≤ 9 ∧ (if 7 = 7 ∧ j = lf_k D.1 then x else D.1.2.1 7 j) = nI z
          by_cases q : j = lf_k D.1
          · rw [if_pos ⟨rfl, q⟩]; exact ⟨v, v2, v3⟩
          · rw [if_neg (fun a => q a.2)]; exact h5 j (by omega)
  rw [if_neg k12] at e
  by_cases k13 : T.1 i = 13
  · rw [if_pos k13] at e
    refine ws _ (fun u eu => ?_) e
    have hz := tk_lt hT hi (by rw [k13]; decide)
    have n8 := hL.1
    unfold gClash at eu
    cases g : tnu T 0 (nI (lf_n D.1) - 1) (i + 1) with
    | inl x => rw [g] at eu; exact absurd eu (by simp)
    | inr x =>
      rw [g] at eu
      dsimp only at eu
      obtain ⟨a, ha, ea⟩ := tnu_n hT (by omega) n8 g
      have l := (tnu_lt hT (by omega) g).1
      split at eu
      · exact absurd eu (by simp)
      · cases g2 : tnu T 0 (nI (lf_n D.1) - 1) (i + 2) with
        | inl x => rw [g2] at eu; exact absurd eu (by simp)
        | inr x2 =>
          rw [g2] at eu
          obtain ⟨b, hb, eb⟩ := tnu_n hT (by omega) n8 g2
          have l2 := (tnu_lt hT (by omega) g2).1
          rw [← Sum.inr.inj eu, ea, eb, nI_clamp (by omega), nI_clamp (by omega)]
          refine ⟨?_, by dsimp only; omega⟩
          have six : ∀ (L : LF) (p q : Nat), okL L → lf_n L = lf_n D.1 → p < lf_n D.1 → q < lf_n D.1 → okL (sV L 6 p (lf_v L 6 p ||| b1 q)) := by
            intro L p q hK hn hp hq
            refine hK.sv (by omega) (fun a => by omega) (fun a => by omega) (fun a => by omega) (fun a => by omega) (fun a => by omega) (fun a => by omega) (fun _ e he hb => ?_)
            rw [b_or, bt_b1x (by omega) he] at hb
            by_cases c : e = q
            · omega
            · rw [decide_eq_false c, Bool.or_false] at hb
              exact (hK.2.2.2.1 p (by omega)).2.2.2.2.2.2 e he hb
          exact six _ b a (six D.1 a b hL rfl ha hb) rfl hb ha
  rw [if_neg k13] at e
  by_cases k7 : T.1 i = 7
  · rw [if_pos k7] at e
    have hz := tk_lt hT hi (by rw [k7]; decide)
    cases g : tnu T 0 9 (i + 1) with
    | inl x => rw [g] at e; exact absurd e (by simp)
    | inr x =>
      rw [g] at e
      rw [← Sum.inr.inj e]
      obtain ⟨⟨v, _, v2, v3⟩, l⟩ := tnu_v (lo := 0) (hi := 9) hT (by omega) (by omega) (by omega) g
      exact ⟨⟨hL, v, by omega, v3⟩, by dsimp only; omega⟩
  rw [if_neg k7] at e
  by_cases k14 : T.1 i = 14
  · rw [if_pos k14] at e
    exact ws _ (law 0 (by omega) (by rw [k14]; decide)) e
  rw [if_neg k14] at e
  by_cases k15 : T.1 i = 15
  · rw [if_pos k15] at e
    exact ws _ (law 1 (by omega) (by rw [k15]; decide)) e
  rw [if_neg k15] at e
  exact absurd e (by simp)
theorem end_ok (hT : okT2 T z) {r : LR} (h : ∀ y, r = .inr y → (okL y.2.1 ∧ ∃ s, s < 10 ∧ y.2.2 = nI s) ∧ y.1 ≤ z) {y : Nat × DFT} (e : gEnd T r = .inr y) : (okL y.2.1 ∧ ∃ s, s < 10 ∧ y.2.2 = nI s) ∧ y.1 ≤ z := by
  unfold gEnd at e
  cases r with
  | inl x => exact absurd e (by simp)
  | inr v =>
    obtain ⟨a, b⟩ := h v rfl
    dsimp only at e
    split at e
    · next c =>
      have := tk_lt hT b (by rw [c]; decide)
      rw [← Sum.inr.inj e]
      exact ⟨a, by dsimp only; omega⟩
    · exact absurd e (by simp)
theorem lines_ok (hT : okT2 T z) : ∀ f i D, i ≤ z → (okL D.1 ∧ ∃ s, s < 10 ∧ D.2 = nI s) → ∀ E, gLines T f i D = .inr E → okL E.1 ∧ ∃ s, s < 10 ∧ E.2 = nI s
  | 0, i, D, hi, h, E, e => by rw [← Sum.inr.inj e]; exact h
  | f + 1, i, D, hi, h, E, e => by
    unfold gLines at e
    split at e
    · rw [← Sum.inr.inj e]; exact h
    · cases g : gEnd T (gLine T i D) with
      | inl x => rw [g] at e; exact absurd e (by simp)
      | inr v =>
        rw [g] at e
        obtain ⟨a, b⟩ := end_ok hT (fun y ey => line_ok hT hi h ey) g
        exact lines_ok hT f v.1 v.2 b a E e
theorem read_ok (hT : okT2 T z) {E : DFT} (e : gRead T = .inr E) : okL E.1 ∧ ∃ s, s < 10 ∧ E.2 = nI s := by
  unfold gRead at e
  cases g : gFirst T with
  | inl x => rw [g] at e; exact absurd e (by simp)
  | inr v =>
    rw [g] at e
    unfold gFirst at g
    split at g
    · next c0 =>
      have z0 := tk_lt hT (Nat.zero_le _) (by rw [c0]; decide)
      split at g
      · next c1 =>
        have z1 := tk_lt hT (show 1 ≤ z by omega) (by rw [c1]; decide)
        cases t : tnu T 0 40 2 with
        | inl x => rw [t] at g; exact absurd g (by simp)
        | inr u =>
          rw [t] at g
          obtain ⟨⟨r, _, r2, r3⟩, l⟩ := tnu_v (lo := 0) (hi := 40) hT (by omega) (by omega) (by omega) t
          have w0 : ∀ t, okW t [] := fun t => ⟨by simp, fun a => absurd rfl a, fun _ c hc => by simp at hc⟩
          obtain ⟨a, b⟩ := end_ok hT (fun y ey => by
            rw [← Sum.inr.inj ey]
            exact ⟨⟨⟨by show 0 ≤ 8; omega, by show 0 ≤ 8; omega, ⟨r, r2, r3⟩, fun j hj => absurd hj (by show ¬ j < 0; omega), fun j hj => absurd hj (by show ¬ j < 0; omega), w0 0, w0 1⟩, 0, by omega, rfl⟩, by dsimp only; omega⟩) g
          exact lines_ok hT 901 v.1 v.2 b a E e
      · exact absurd g (by simp)
    · exact absurd g (by simp)
end
