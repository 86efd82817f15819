/-! a life's lines, over tokens -/
abbrev DFT : Type := LF × Int32
abbrev LR : Type := FLT ⊕ (Nat × DFT)
def sV (L : LF) (t j : Nat) (x : Int32) : LF := (L.1, (fun t' j' => if t' = t ∧ j' = j then x else L.2.1 t' j'), L.2.2)
def sWl (L : LF) (t : Nat) (w : List Int32) : LF := (L.1, L.2.1, fun t' => if t' = t then w else L.2.2 t')
def addD (L : LF) (u : Int32) : LF := ((lf_n L + 1, L.1.2), (fun t j => if j = lf_n L ∧ t < 7 then (if t = 0 then u else if t = 2 then 5 else if t = 4 then 1 else 0) else L.2.1 t j), L.2.2)
def addK (L : LF) (u : Int32) : LF := ((lf_n L, lf_k L + 1, L.1.2.2), (fun t j => if t = 7 ∧ j = lf_k L then u else L.2.1 t j), L.2.2)
def ftt (k : Int32) : Nat := if k = 4 then 1 else if k = 8 then 2 else if k = 9 then 3 else if k = 10 then 4 else 0
def fhi (k : Int32) : Int32 := if k = 4 then 9 else if k = 10 then 9 else 10
def gFlags (T : TKS) (j : Nat) : Nat → Nat → LF → FLT ⊕ (Nat × LF)
  | 0, i, L => .inr (i, L)
  | f + 1, i, L => if T.1 i = 11 then (match tnu T 0 (nI j - 1) (i + 1) with
      | .inl x => .inl x
      | .inr u => gFlags T j f (i + 2) (sV L 5 j (lf_v L 5 j ||| ((1 : Int32) <<< (u &&& 31)))))
    else if ftt (T.1 i) = 0 then .inr (i, L) else (match tnu T 0 (fhi (T.1 i)) (i + 1) with
      | .inl x => .inl x
      | .inr u => gFlags T j f (i + 2) (sV L (ftt (T.1 i)) j u))
def gDoing (T : TKS) (i : Nat) (L : LF) : FLT ⊕ (Nat × LF) :=
  if 8 ≤ lf_n L then .inl (tfl T i 4) else if T.1 (i + 1) = 3 then (match tnu T 1 9 (i + 2) with
    | .inl x => .inl x
    | .inr u => gFlags T (lf_n L) 901 (i + 3) (addD L u))
  else .inl (tfl T (i + 1) 2)
def gDoor (T : TKS) (i : Nat) (L : LF) : FLT ⊕ (Nat × LF) :=
  if 8 ≤ lf_k L then .inl (tfl T i 4) else match tnu T 0 9 (i + 1) with
    | .inl x => .inl x
    | .inr u => .inr (i + 2, addK L u)
def clsh (L : LF) (a b : Nat) : LF := sV (sV L 6 a (lf_v L 6 a ||| b1 b)) 6 b (lf_v (sV L 6 a (lf_v L 6 a ||| b1 b)) 6 b ||| b1 a)
def gClash (T : TKS) (i : Nat) (L : LF) : FLT ⊕ (Nat × LF) := match tnu T 0 (nI (lf_n L) - 1) (i + 1) with
  | .inl x => .inl x
  | .inr u => if T.1 (i + 2) = 200 ∧ T.2.2 (i + 2) = u then .inl (tfl T (i + 2) 3) else match tnu T 0 (nI (lf_n L) - 1) (i + 2) with
    | .inl x => .inl x
    | .inr v => .inr (i + 3, clsh L u.toNatClampNeg v.toNatClampNeg)
def gLaw (T : TKS) (t : Nat) (i : Nat) (L : LF) : FLT ⊕ (Nat × LF) :=
  if T.1 (i + 1) = 58 then (match gTruth T (decide (t = 1)) 6 (i + 2) with
    | .inl x => .inl x
    | .inr y => .inr (y.1, sWl L t y.2))
  else .inl (tfl T (i + 1) 2)
def wSl (r : FLT ⊕ (Nat × LF)) (s : Int32) : LR := match r with
  | .inl x => .inl x
  | .inr y => .inr (y.1, (y.2, s))
def gLine (T : TKS) (i : Nat) (D : DFT) : LR :=
  if T.1 i = 2 then wSl (gDoing T i D.1) D.2 else if T.1 i = 12 then wSl (gDoor T i D.1) D.2 else if T.1 i = 13 then wSl (gClash T i D.1) D.2
  else if T.1 i = 7 then (match tnu T 0 9 (i + 1) with
    | .inl x => .inl x
    | .inr u => .inr (i + 2, (D.1, u)))
  else if T.1 i = 14 then wSl (gLaw T 0 i D.1) D.2 else if T.1 i = 15 then wSl (gLaw T 1 i D.1) D.2 else .inl (tfl T i 2)
def addL (D : DFT) : DFT := (((lf_n D.1, lf_k D.1, lf_room D.1, lf_lines D.1 + 1), D.1.2), D.2)
def gEnd (T : TKS) (r : LR) : LR := match r with
  | .inl x => .inl x
  | .inr y => if T.1 y.1 = 59 then .inr (y.1 + 1, addL y.2) else .inl (tfl T y.1 2)
def gLines (T : TKS) : Nat → Nat → DFT → FLT ⊕ DFT
  | 0, _, D => .inr D
  | f + 1, i, D => if T.1 i = 202 then .inr D else match gEnd T (gLine T i D) with
    | .inl x => .inl x
    | .inr y => gLines T f y.1 y.2
def dft0 : DFT := (((0, 0, 0, 0), (fun _ _ => 0), fun _ => []), 0)
def gFirst (T : TKS) : LR := if T.1 0 = 0 then (if T.1 1 = 1 then (match tnu T 0 40 2 with
    | .inl x => .inl x
    | .inr u => gEnd T (.inr (3, (((0, 0, u, 0), (fun _ _ => 0), fun _ => []), 0))))
  else .inl (tfl T 1 2)) else .inl (tfl T 0 2)
def gRead (T : TKS) : FLT ⊕ DFT := match gFirst T with
  | .inl x => .inl x
  | .inr y => gLines T 901 y.1 y.2
/-! what is read is sound as far as the place goes -/
def okd2 (i : Nat) (L : LF) : Prop := lf_n L ≤ 8 ∧ lf_k L ≤ 8 ∧ (lf_w L 0).length ≤ i ∧ (lf_w L 1).length ≤ i
theorem tnu_lt {T : TKS} {z i : Nat} (hT : okT2 T z) (hi : i ≤ z) {lo hi' u : Int32} (h : tnu T lo hi' i = .inr u) : i < z ∧ T.1 i = 200 ∧ T.2.2 i = u ∧ ¬ u < lo ∧ u ≤ hi' := by
  unfold tnu at h
  split at h
  · next c =>
    split at h
    · exact absurd h (by simp)
    · next q =>
      have e := Sum.inr.inj h
      refine ⟨tk_lt hT hi (by rw [c]; decide), c, e, fun a => q (Or.inl (by rw [e]; exact a)), ?_⟩
      apply Classical.byContradiction
      intro b
      exact q (Or.inr (by rw [e]; exact b))
  · exact absurd h (by simp)
/-! the class's draft -/
def rdr (b : Nat) : Prop := 21 ≤ b ∧ b ≤ 36
def CG (T : TKS) (z : Nat) (d : sk_D) (i : Nat) (D : DFT) : Prop := Gdx T z d i ∧ cL d 22 D.1 ∧ d.1 22 3 = D.2 ∧ okd2 i D.1
theorem f21_r {d e : sk_D} (x : Fr f21 d e) : Fr rdr d e := x.mono (fun b hb => by unfold f21 at hb; unfold rdr; omega)
theorem cL.u21 {d e : sk_D} {L : LF} (h : cL d 22 L) (x : Fr f21 d e) : cL e 22 L ∧ e.1 22 3 = d.1 22 3 := by
  unfold f21 at x
  exact ⟨h.same (fun b h1 h2 _ => x.i (by omega)), by rw [x.i (b := 22) (by omega)]⟩
theorem cL.v {d : sk_D} {a : Nat} {L : LF} (h : cL d a L) {t j : Nat} (ht : t < 7) (x : Int32) : cL (sk_uI d (a + 1 + t) j x) a (sV L t j x) := by
  obtain ⟨h0, h1, h2, h4, hv, hdo, hw0, hw1⟩ := h
  have na : ∀ b, b ≠ a + 1 + t → (sk_uI d (a + 1 + t) j x).1 b = d.1 b := fun b hb => uI_a _ _ _ _ _ hb
  refine ⟨by rw [na a (by omega)]; exact h0, by rw [na a (by omega)]; exact h1, by rw [na a (by omega)]; exact h2, by rw [na a (by omega)]; exact h4, fun t' j' ht' hj' => ?_, fun j' hj' => ?_, ?_, ?_⟩
  · show _ = (if t' = t ∧ j' = j then x else L.2.1 t' j')
    by_cases e : t' = t
    · subst e
      by_cases e2 : j' = j
      · subst e2; rw [uI_s, if_pos ⟨rfl, rfl⟩]
      · rw [uI_k _ _ _ _ _ e2, if_neg (fun a => e2 a.2)]; exact hv t' j' ht' hj'
    · rw [na _ (by omega), if_neg (fun a => e a.1)]; exact hv t' j' ht' hj'
  · show _ = (if 7 = t ∧ j' = j then x else L.2.1 7 j')
    rw [na _ (by omega), if_neg (fun a => by omega)]; exact hdo j' hj'
  · unfold cW; rw [na _ (by omega), na _ (by omega)]; exact hw0
  · unfold cW; rw [na _ (by omega), na _ (by omega)]; exact hw1
theorem Gdx.r {d e : sk_D} {T : TKS} {z i : Nat} (h : Gdx T z d i) (x : Fr (fun b => 22 ≤ b ∧ b ≤ 36) d e) : Gdx T z e i := h.fr (x.mono (fun b hb => by omega))
theorem okd2.m {i i' : Nat} {L : LF} (h : okd2 i L) (hi : i ≤ i') : okd2 i' L := ⟨h.1, h.2.1, by have := h.2.2.1; omega, by have := h.2.2.2; omega⟩
section
variable {S : sk_S} {d : sk_D} {T : TKS} {z i : Nat} {D : DFT}
theorem CG.u (h : CG T z d i D) {d' : sk_D} {i' : Nat} (hi : i ≤ i') (g : Gdx T z d' i') (x : Fr f21 d d') : CG T z d' i' D := by
  obtain ⟨a, b⟩ := h.2.1.u21 x
  exact ⟨g, a, by rw [b]; exact h.2.2.1, h.2.2.2.m hi⟩
theorem CG.next (hS : Sh S) (h : CG T z d i D) (hi : i < z) : ∃ d', fX5_next S d 21 = some d' ∧ CG T z d' (i + 1) D ∧ Fr f21 d d' := by
  obtain ⟨n1, n2⟩ := c_nextG hS h.1 hi
  have fr : Fr f21 d (sk_uI d 21 7 (nI (i + 1))) := Fr.uI _ rfl
  exact ⟨_, n1, h.u (by omega) n2 fr, fr⟩
theorem CG.num (hS : Sh S) (hT : okT2 T z) (h : CG T z d i D) (lo hi : Int32) : ∃ v d', fX5_number S d 21 lo hi = some (v, d') ∧ Fr f21 d d' ∧ (∀ x, tnu T lo hi i = .inl x → Fdx d' x ∧ v = lo) ∧ (∀ u, tnu T lo hi i = .inr u → v = u ∧ CG T z d' (i + 1) D) := by
  obtain ⟨v, d', a1, a2, a3, a4⟩ := c_numG hS h.1 hT lo hi
  exact ⟨v, d', a1, a2, a3, fun u e => ⟨(a4 u e).1, h.u (by omega) (a4 u e).2.2 a2⟩⟩
theorem CG.fail (hS : Sh S) (h : CG T z d i D) {y : Int32} (hy : y ≠ 0) : ∃ d', fX5_fail S d 21 y = some d' ∧ Fdx d' (tfl T i y) ∧ Fr f21 d d' := c_failG hS h.1 hy
theorem CG.exp (hS : Sh S) (hT : okT2 T z) (h : CG T z d i D) {k : Int32} (hk : k ≠ 202) : ∃ d', fX5_expect S d 21 k = some d' ∧ Fr f21 d d' ∧ (T.1 i = k → CG T z d' (i + 1) D) ∧ (T.1 i ≠ k → Fdx d' (tfl T i 2)) := by
  obtain ⟨d', a1, a2, a3, a4⟩ := c_expG hS h.1 hT hk
  exact ⟨d', a1, a2, fun e => h.u (by omega) (a3 e).2 a2, a4⟩
/-- behind a line, before its end -/
def WG (T : TKS) (z : Nat) (d : sk_D) (i : Nat) (D : DFT) : Prop := CG T z d i D ∨ (T.1 i ≠ 59 ∧ Fdx d (tfl T i 2))
def LC (T : TKS) (z : Nat) (fn : sk_D → Option sk_D) (d : sk_D) (X : LR) : Prop := ∃ d', fn d = some d' ∧ Fr rdr d d' ∧ (∀ x, X = .inl x → Fdx d' x) ∧ ∀ y, X = .inr y → WG T z d' y.1 y.2
theorem Fdx.r {e : sk_D} {f : FLT} (h : Fdx d f) (x : Fr (fun b => 22 ≤ b ∧ b ≤ 36) d e) : Fdx e f := h.fr (x.i (by omega))
theorem lines_r {d : sk_D} (v : Int32) : Fr (fun b => 22 ≤ b ∧ b ≤ 36) d (sk_uI d 22 4 v) := Fr.uI _ (by omega)
theorem in_r {d e : sk_D} (x : Fr (fun b => 22 ≤ b ∧ b ≤ 36) d e) : Fr rdr d e := x.mono (fun b hb => by unfold rdr; omega)
theorem c_endLine (hS : Sh S) (hT : okT2 T z) {y : Nat × DFT} (h : WG T z d y.1 y.2) : ∃ d', fX5_endLine S d 21 = some d' ∧ Fr rdr d d' ∧ (∀ x, gEnd T (.inr y) = .inl x → Fdx d' x) ∧ ∀ y', gEnd T (.inr y) = .inr y' → CG T z d' y'.1 y'.2 := by
  unfold fX5_endLine gEnd
  rw [if_pos (kd21 hS)]
  dsimp only
  rcases h with h | ⟨h1, h2⟩
  · obtain ⟨d1, a1, a2, a3, a4⟩ := h.exp hS hT (k := 59) (by decide)
    rw [a1, Option.bind_some, gr21_0 hS, Option.bind_some, gi22 hS, Option.bind_some, pi22 hS, Option.bind_some]
    refine ⟨_, rfl, (f21_r a2).trans (in_r (lines_r _)), fun x e => ?_, fun y' e => ?_⟩
    · by_cases q : T.1 y.1 = 59
      · rw [if_pos q] at e; exact absurd e (by simp)
      · rw [if_neg q] at e
        rw [← Sum.inl.inj e]
        exact (a4 q).r (lines_r _)
    · by_cases q : T.1 y.1 = 59
      · rw [if_pos q] at e
        rw [← Sum.inr.inj e]
        obtain ⟨g, c, s, o⟩ := a3 q
        refine ⟨g.r (lines_r _), ?_, by rw [uI_k _ _ _ _ _ (by omega)]; exact s, o⟩
        obtain ⟨h0, h1, h2, h4, hv, hdo, hw0, hw1⟩ := c
        refine ⟨by rw [uI_k _ _ _ _ _ (by omega)]; exact h0, by rw [uI_k _ _ _ _ _ (by omega)]; exact h1, by rw [uI_k _ _ _ _ _ (by omega)]; exact h2, by rw [uI_s, h4]; rfl, fun t j ht hj => ?_, fun j hj => ?_, ?_, ?_⟩
        · rw [uI_a _ _ _ _ _ (by omega)]; exact hv t j ht hj
        · rw [uI_a _ _ _ _ _ (by omega)]; exact hdo j hj
        · unfold cW; rw [uI_a _ _ _ _ _ (by omega), uI_a _ _ _ _ _ (by omega)]; exact hw0
        · unfold cW; rw [uI_a _ _ _ _ _ (by omega), uI_a _ _ _ _ _ (by omega)]; exact hw1
      · rw [if_neg q] at e; exact absurd e (by simp)
  · rw [c_expF hS h2 (by decide), Option.bind_some, gr21_0 hS, Option.bind_some, gi22 hS, Option.bind_some, pi22 hS, Option.bind_some, if_neg h1]
    refine ⟨_, rfl, in_r (lines_r _), fun x e => ?_, fun y' e => absurd e (by simp)⟩
    rw [← Sum.inl.inj e]
    exact h2.r (lines_r _)
theorem c_endLineF (hS : Sh S) {f : FLT} (h : Fdx d f) : ∃ d', fX5_endLine S d 21 = some d' ∧ Fr rdr d d' ∧ Fdx d' f := by
  unfold fX5_endLine
  rw [if_pos (kd21 hS), c_expF hS h (by decide), Option.bind_some, gr21_0 hS, Option.bind_some, gi22 hS, Option.bind_some, pi22 hS, Option.bind_some]
  exact ⟨_, rfl, in_r (lines_r _), h.r (lines_r _)⟩
end
