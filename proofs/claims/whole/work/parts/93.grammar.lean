/-! the grammar of a life's laws, over tokens: kind, place, value by number -/
abbrev TKS : Type := (Nat → Int32) × (Nat → Int32) × (Nat → Int32)
abbrev FLT : Type := Int32 × Int32
abbrev PR : Type := FLT ⊕ (Nat × List Int32)
def tfl (T : TKS) (i : Nat) (y : Int32) : FLT := (if T.1 i = 203 then 1 else y, T.2.1 i)
def okT2 (T : TKS) (z : Nat) : Prop := T.1 z = 202 ∧ (∀ i, i < z → T.1 i ≠ 202) ∧ z ≤ 900 ∧ ∀ i, i ≤ z → T.1 i = 200 → ∃ v, v ≤ 999 ∧ T.2.2 i = nI v
def chn (T : TKS) (X : Nat → PR) (op : Int32 → Int32) : Nat → Nat → List Int32 → PR
  | 0, i, w => .inr (i, w)
  | f + 1, i, w => if op (T.1 i) = 0 then .inr (i, w) else match X (i + 1) with
    | .inl x => .inl x
    | .inr y => chn T X op f y.1 (w ++ y.2 ++ [op (T.1 i)])
def chain (T : TKS) (X : Nat → PR) (op : Int32 → Int32) (i : Nat) : PR := match X i with
  | .inl x => .inl x
  | .inr y => chn T X op 901 y.1 y.2
def oPlus (k : Int32) : Int32 := if k = 43 then -7 else if k = 45 then -8 else 0
def oStar (k : Int32) : Int32 := if k = 42 then -9 else 0
def oAnd (k : Int32) : Int32 := if k = 17 then -13 else 0
def oOr (k : Int32) : Int32 := if k = 16 then -14 else 0
def oCmp (k : Int32) : Int32 := if k = 61 then -10 else if k = 60 then -11 else if k = 62 then -12 else 0
def stp (sl : Bool) (k : Int32) : Int32 := if k = 2 then -1 else if k = 3 then -2 else if k = 4 then -3 else if k = 5 then -4 else if k = 6 then -5 else if k = 7 then (if sl = true then -6 else 0) else 0
def closeB (T : TKS) (k : Int32) (r : PR) : PR := match r with
  | .inl x => .inl x
  | .inr y => if T.1 y.1 = k then .inr (y.1 + 1, y.2) else .inl (tfl T y.1 2)
def gAtom (T : TKS) (sl : Bool) (o : Option (Nat → PR)) (i : Nat) : PR :=
  if T.1 i = 200 then .inr (i + 1, [T.2.2 i]) else if T.1 i = 40 then (match o with
    | none => .inl (tfl T i 4)
    | some s => closeB T 41 (s (i + 1)))
  else if stp sl (T.1 i) = 0 then .inl (tfl T i 2) else .inr (i + 1, [stp sl (T.1 i)])
def gSum (T : TKS) (sl : Bool) : Nat → Nat → PR
  | 0 => chain T (chain T (gAtom T sl none) oStar) oPlus
  | r + 1 => chain T (chain T (gAtom T sl (some (gSum T sl r))) oStar) oPlus
def gComp (T : TKS) (s : Nat → PR) (i : Nat) : PR := match s i with
  | .inl x => .inl x
  | .inr y => if oCmp (T.1 y.1) = 0 then .inl (tfl T y.1 2) else match s (y.1 + 1) with
    | .inl x => .inl x
    | .inr u => .inr (u.1, y.2 ++ u.2 ++ [oCmp (T.1 y.1)])
def gUnitB (T : TKS) (s : Nat → PR) (o : Option (Nat → PR)) (i : Nat) : PR :=
  if T.1 i = 18 then (match o with
    | none => .inl (tfl T i 4)
    | some u => match u (i + 1) with
      | .inl x => .inl x
      | .inr y => .inr (y.1, y.2 ++ [-15]))
  else if T.1 i = 91 then (match o with
    | none => .inl (tfl T i 4)
    | some u => closeB T 93 (chain T (chain T u oAnd) oOr (i + 1)))
  else gComp T s i
def gUnit (T : TKS) (sl : Bool) : Nat → Nat → PR
  | 0 => gUnitB T (gSum T sl 0) none
  | r + 1 => gUnitB T (gSum T sl (r + 1)) (some (gUnit T sl r))
def gTruth (T : TKS) (sl : Bool) (r : Nat) : Nat → PR := chain T (chain T (gUnit T sl r) oAnd) oOr
/-! what is read grows no faster than the place -/
def LENP (z : Nat) (T : TKS) (X : Nat → PR) : Prop := ∀ i, i ≤ z → ∀ y, X i = .inr y → i + y.2.length ≤ y.1 ∧ i < y.1 ∧ y.1 ≤ z
section
variable {T : TKS} {z : Nat}
theorem tk_lt (h : okT2 T z) {i : Nat} (hi : i ≤ z) (hk : T.1 i ≠ 202) : i < z := by
  rcases Nat.lt_or_ge i z with q | q
  · exact q
  · rw [show i = z by omega] at hk; exact absurd h.1 hk
theorem op_lt (h : okT2 T z) {i : Nat} (hi : i ≤ z) {op : Int32 → Int32} (h2 : op 202 = 0) (hk : op (T.1 i) ≠ 0) : i < z := tk_lt h hi (fun e => hk (by rw [e]; exact h2))
theorem chn_len (h : okT2 T z) {X : Nat → PR} (hX : LENP z T X) {op : Int32 → Int32} (h2 : op 202 = 0) : ∀ f i w b, i ≤ z → b + w.length ≤ i → b < i → ∀ y, chn T X op f i w = .inr y → b + y.2.length ≤ y.1 ∧ b < y.1 ∧ y.1 ≤ z
  | 0, i, w, b, hi, hb, hb2, y, e => by
    obtain rfl := Sum.inr.inj e
    exact ⟨hb, hb2, hi⟩
  | f + 1, i, w, b, hi, hb, hb2, y, e => by
    unfold chn at e
    split at e
    · obtain rfl := Sum.inr.inj e
      exact ⟨hb, hb2, hi⟩
    · next c =>
      have hz := op_lt h hi h2 c
      cases x : X (i + 1) with
      | inl v => rw [x] at e; exact absurd e (by simp)
      | inr v =>
        rw [x] at e
        obtain ⟨a1, a2, a3⟩ := hX (i + 1) (by omega) v x
        exact chn_len h hX h2 f v.1 _ b a3 (by simp only [List.length_append, List.length_cons, List.length_nil]; omega) (by omega) y e
theorem chain_len (h : okT2 T z) {X : Nat → PR} (hX : LENP z T X) {op : Int32 → Int32} (h2 : op 202 = 0) : LENP z T (chain T X op) := by
  intro i hi y e
  unfold chain at e
  cases x : X i with
  | inl v => rw [x] at e; exact absurd e (by simp)
  | inr v =>
    rw [x] at e
    obtain ⟨a1, a2, a3⟩ := hX i hi v x
    exact chn_len h hX h2 901 v.1 v.2 i a3 a1 a2 y e
theorem close_len (h : okT2 T z) {k : Int32} (hk : k ≠ 202) {r : PR} {i : Nat} (hr : ∀ y, r = .inr y → i + y.2.length ≤ y.1 ∧ i < y.1 ∧ y.1 ≤ z) : ∀ y, closeB T k r = .inr y → i + y.2.length ≤ y.1 ∧ i < y.1 ∧ y.1 ≤ z := by
  intro y e
  unfold closeB at e
  cases r with
  | inl v => exact absurd e (by simp)
  | inr v =>
    obtain ⟨a1, a2, a3⟩ := hr v rfl
    dsimp only at e
    split at e
    · next c =>
      obtain rfl := Sum.inr.inj e
      have := tk_lt h a3 (by rw [c]; exact hk)
      exact ⟨by dsimp only; omega, by dsimp only; omega, by dsimp only; omega⟩
    · exact absurd e (by simp)
theorem stp_202 (sl : Bool) : stp sl 202 = 0 := by cases sl <;> rfl
theorem atom_len (h : okT2 T z) (sl : Bool) {o : Option (Nat → PR)} (ho : ∀ s, o = some s → LENP z T s) : LENP z T (gAtom T sl o) := by
  intro i hi y e
  unfold gAtom at e
  split at e
  · next c =>
    obtain rfl := Sum.inr.inj e
    have := tk_lt h hi (by rw [c]; decide)
    exact ⟨by simp, by simp, by dsimp only; omega⟩
  · split at e
    · next c =>
      have hz := tk_lt h hi (by rw [c]; decide)
      cases o with
      | none => exact absurd e (by simp)
      | some s =>
        dsimp only at e
        have := close_len h (i := i) (by decide) (fun v hv => by
          obtain ⟨a1, a2, a3⟩ := ho s rfl (i + 1) (by omega) v hv
          exact ⟨by omega, by omega, a3⟩) y e
        exact this
    · split at e
      · exact absurd e (by simp)
      · next c =>
        obtain rfl := Sum.inr.inj e
        have := tk_lt h hi (fun a => c (by rw [a]; exact stp_202 sl))
        exact ⟨by simp, by simp, by dsimp only; omega⟩
theorem sum_len (h : okT2 T z) (sl : Bool) : ∀ r, LENP z T (gSum T sl r)
  | 0 => chain_len h (chain_len h (atom_len h sl (fun s e => absurd e (by simp))) (by decide)) (by decide)
  | r + 1 => chain_len h (chain_len h (atom_len h sl (fun s e => by obtain rfl := Option.some.inj e; exact sum_len h sl r)) (by decide)) (by decide)
theorem comp_len (h : okT2 T z) {s : Nat → PR} (hs : LENP z T s) : LENP z T (gComp T s) := by
  intro i hi y e
  unfold gComp at e
  cases x : s i with
  | inl v => rw [x] at e; exact absurd e (by simp)
  | inr v =>
    rw [x] at e
    obtain ⟨a1, a2, a3⟩ := hs i hi v x
    dsimp only at e
    split at e
    · exact absurd e (by simp)
    · next c =>
      have hz := op_lt h a3 (by decide) c
      cases x2 : s (v.1 + 1) with
      | inl u => rw [x2] at e; exact absurd e (by simp)
      | inr u =>
        rw [x2] at e
        obtain ⟨b1, b2, b3⟩ := hs (v.1 + 1) (by omega) u x2
        obtain rfl := Sum.inr.inj e
        exact ⟨by simp only [List.length_append, List.length_cons, List.length_nil]; omega, by dsimp only; omega, b3⟩
theorem unit_len (h : okT2 T z) {s : Nat → PR} (hs : LENP z T s) {o : Option (Nat → PR)} (ho : ∀ u, o = some u → LENP z T u) : LENP z T (gUnitB T s o) := by
  intro i hi y e
  unfold gUnitB at e
  split at e
  · next c =>
    have hz := tk_lt h hi (by rw [c]; decide)
    cases o with
    | none => exact absurd e (by simp)
    | some u =>
      dsimp only at e
      cases x : u (i + 1) with
      | inl v => rw [x] at e; exact absurd e (by simp)
      | inr v =>
        rw [x] at e
        obtain ⟨a1, a2, a3⟩ := ho u rfl (i + 1) (by omega) v x
        obtain rfl := Sum.inr.inj e
        exact ⟨by simp only [List.length_append, List.length_cons, List.length_nil]; omega, by dsimp only; omega, a3⟩
  · split at e
    · next c =>
      have hz := tk_lt h hi (by rw [c]; decide)
      cases o with
      | none => exact absurd e (by simp)
      | some u =>
        dsimp only at e
        exact close_len h (i := i) (by decide) (fun v hv => by
          obtain ⟨a1, a2, a3⟩ := chain_len h (chain_len h (ho u rfl) (op := oAnd) (by decide)) (op := oOr) (by decide) (i + 1) (by omega) v hv
          exact ⟨by omega, by omega, a3⟩) y e
    · exact comp_len h hs i hi y e
theorem gUnit_len (h : okT2 T z) (sl : Bool) : ∀ r, LENP z T (gUnit T sl r)
  | 0 => unit_len h (sum_len h sl 0) (fun u e => absurd e (by simp))
  | r + 1 => unit_len h (sum_len h sl (r + 1)) (fun u e => by obtain rfl := Option.some.inj e; exact gUnit_len h sl r)
theorem truth_len (h : okT2 T z) (sl : Bool) (r : Nat) : LENP z T (gTruth T sl r) := chain_len h (chain_len h (gUnit_len h sl r) (by decide)) (by decide)
end
