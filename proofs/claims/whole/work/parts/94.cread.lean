/-! the class reads: states of its reader -/
def TOK (T : TKS) (z : Nat) (d : sk_D) : Prop := d.1 21 6 = nI (z + 1) ∧ ∀ i, i ≤ z → d.1 37 i = T.1 i ∧ d.1 38 i = T.2.1 i ∧ d.1 39 i = T.2.2 i
def Gdx (T : TKS) (z : Nat) (d : sk_D) (i : Nat) : Prop := TOK T z d ∧ d.1 21 1 = 0 ∧ d.1 21 7 = nI i ∧ i ≤ z ∧ z ≤ 900 ∧ d.1 21 2 = -1
def Fdx (d : sk_D) (f : FLT) : Prop := d.1 21 1 = f.1 ∧ f.1 ≠ 0 ∧ d.1 21 2 = f.2
def f21 (b : Nat) : Prop := b = 21
section
variable {S : sk_S} {d : sk_D} {T : TKS} {z i : Nat} {f : FLT}
theorem TOK.fr {e : sk_D} (h : TOK T z d) (x : Fr (fun b => b < 37 ∧ b ≠ 21) d e) : TOK T z e := by
  refine ⟨by rw [x.i (b := 21) (by omega)]; exact h.1, fun i hi => ?_⟩
  rw [x.i (b := 37) (by omega), x.i (b := 38) (by omega), x.i (b := 39) (by omega)]
  exact h.2 i hi
theorem TOK.u (h : TOK T z d) {k : Nat} (hk : k ≠ 6) (v : Int32) : TOK T z (sk_uI d 21 k v) := by
  refine ⟨by rw [uI_k _ _ _ _ _ (fun a => hk a.symm)]; exact h.1, fun i hi => ?_⟩
  rw [uI_a _ _ _ 37 _ (by omega), uI_a _ _ _ 38 _ (by omega), uI_a _ _ _ 39 _ (by omega)]
  exact h.2 i hi
theorem Gdx.fr {e : sk_D} (h : Gdx T z d i) (x : Fr (fun b => b < 37 ∧ b ≠ 21) d e) : Gdx T z e i := ⟨h.1.fr x, by rw [x.i (b := 21) (by omega)]; exact h.2.1, by rw [x.i (b := 21) (by omega)]; exact h.2.2.1, h.2.2.2.1, h.2.2.2.2.1, by rw [x.i (b := 21) (by omega)]; exact h.2.2.2.2.2⟩
theorem Fdx.fr {e : sk_D} (h : Fdx d f) (x : e.1 21 = d.1 21) : Fdx e f := by unfold Fdx; rw [x]; exact h
theorem c_kindG (hS : Sh S) (h : Gdx T z d i) : fX5_kind S d 21 = some (T.1 i) := by
  obtain ⟨⟨h6, ht⟩, h1, h7, hi, hz⟩ := h
  unfold fX5_kind
  rw [gi21 hS, Option.bind_some, h1, if_pos rfl, gi21 hS, Option.bind_some, gi21 hS, Option.bind_some, h7, h6, if_pos ((nI_ltI (by omega) (by omega)).mpr (by omega)), gr21_3 hS, Option.bind_some, Option.bind_some, li37 hS _ (show i < 901 by omega), Option.bind_some, (ht i hi).1]
theorem c_kindF (hS : Sh S) (h : Fdx d f) : fX5_kind S d 21 = some 203 := by
  unfold fX5_kind
  rw [gi21 hS, Option.bind_some, h.1, if_neg h.2.1]
theorem c_nextG (hS : Sh S) (h : Gdx T z d i) (hi : i < z) : fX5_next S d 21 = some (sk_uI d 21 7 (nI (i + 1))) ∧ Gdx T z (sk_uI d 21 7 (nI (i + 1))) (i + 1) := by
  obtain ⟨ht, h1, h7, -, hz, hp⟩ := h
  refine ⟨?_, ht.u (by omega) _, by rw [uI_k _ _ _ _ _ (by omega)]; exact h1, uI_s _ _ _ _, by omega, hz, by rw [uI_k _ _ _ _ _ (by omega)]; exact hp⟩
  unfold fX5_next
  rw [gi21 hS, Option.bind_some, gi21 hS, Option.bind_some, h7, ht.1, nI_pred, if_neg (nI_ge hi (by omega)), Option.bind_some, pi21 hS, Option.bind_some, nI_1]
theorem c_failG (hS : Sh S) (h : Gdx T z d i) {y : Int32} (hy : y ≠ 0) : ∃ d', fX5_fail S d 21 y = some d' ∧ Fdx d' (tfl T i y) ∧ Fr f21 d d' := by
  obtain ⟨⟨h6, ht⟩, h1, h7, hi, hz⟩ := h
  have fr : ∀ v, Fr f21 d (sk_uI (sk_uI d 21 1 v) 21 2 (T.2.1 i)) := fun v => (Fr.uI (P := f21) _ rfl).trans (Fr.uI (P := f21) _ rfl)
  have c7 : ∀ v, (sk_uI d 21 1 v).1 21 7 = nI i := fun v => by rw [uI_k _ _ _ _ _ (by omega)]; exact h7
  have c8 : ∀ v, (sk_uI d 21 1 v).1 38 i = T.2.1 i := fun v => by rw [uI_a _ _ _ 38 _ (by omega)]; exact (ht i hi).2.1
  unfold fX5_fail tfl
  rw [gi21 hS, Option.bind_some, h1, if_pos rfl, gi21 hS, Option.bind_some, gi21 hS, Option.bind_some, h7, h6, if_neg (nI_ge (by omega) (by omega)), gr21_3 hS, Option.bind_some, Option.bind_some, li37 hS _ (show i < 901 by omega), Option.bind_some, (ht i hi).1]
  by_cases q : T.1 i = 203
  · rw [if_pos q, if_pos q, pi21 hS, Option.bind_some, gr21_4 hS, Option.bind_some, gi21 hS, Option.bind_some, c7, li38 hS _ (show i < 901 by omega), Option.bind_some, c8, pi21 hS, Option.bind_some]
    exact ⟨_, rfl, ⟨by rw [uI_k _ _ _ _ _ (by omega), uI_s], by show (1 : Int32) ≠ 0; decide, uI_s _ _ _ _⟩, fr 1⟩
  · rw [if_neg q, if_neg q, pi21 hS, Option.bind_some, gr21_4 hS, Option.bind_some, gi21 hS, Option.bind_some, c7, li38 hS _ (show i < 901 by omega), Option.bind_some, c8, pi21 hS, Option.bind_some]
    exact ⟨_, rfl, ⟨by rw [uI_k _ _ _ _ _ (by omega), uI_s], hy, uI_s _ _ _ _⟩, fr y⟩
theorem c_failF (hS : Sh S) (h : Fdx d f) (y : Int32) : fX5_fail S d 21 y = some d := by
  unfold fX5_fail
  rw [gi21 hS, Option.bind_some, h.1, if_neg h.2.1]
theorem c_expF (hS : Sh S) (h : Fdx d f) {k : Int32} (hk : k ≠ 203) : fX5_expect S d 21 k = some d := by
  unfold fX5_expect
  rw [if_pos (kd21 hS), c_kindF hS h, Option.bind_some, if_neg (fun a => hk a.symm), if_pos (kd21 hS), c_failF hS h]
  rfl
theorem c_expG (hS : Sh S) (h : Gdx T z d i) (hT : okT2 T z) {k : Int32} (hk : k ≠ 202) : ∃ d', fX5_expect S d 21 k = some d' ∧ Fr f21 d d' ∧ (T.1 i = k → d' = sk_uI d 21 7 (nI (i + 1)) ∧ Gdx T z d' (i + 1)) ∧ (T.1 i ≠ k → Fdx d' (tfl T i 2)) := by
  unfold fX5_expect
  rw [if_pos (kd21 hS), c_kindG hS h, Option.bind_some]
  by_cases q : T.1 i = k
  · obtain ⟨n1, n2⟩ := c_nextG hS h (tk_lt hT h.2.2.2.1 (by rw [q]; exact hk))
    rw [if_pos q, if_pos (kd21 hS), n1]
    exact ⟨_, rfl, Fr.uI _ rfl, fun _ => ⟨rfl, n2⟩, fun a => absurd q a⟩
  · obtain ⟨d', a1, a2, a3⟩ := c_failG hS h (y := 2) (by decide)
    rw [if_neg q, if_pos (kd21 hS), a1]
    exact ⟨d', rfl, a3, fun a => absurd a q, fun _ => a2⟩
def tnu (T : TKS) (lo hi : Int32) (i : Nat) : FLT ⊕ Int32 := if T.1 i = 200 then (if T.2.2 i < lo ∨ ¬ T.2.2 i ≤ hi then .inl (tfl T i 3) else .inr (T.2.2 i)) else .inl (tfl T i 2)
theorem c_numF (hS : Sh S) (h : Fdx d f) (lo hi : Int32) : fX5_number S d 21 lo hi = some (lo, d) := by
  unfold fX5_number
  rw [if_pos (kd21 hS), c_kindF hS h, Option.bind_some, if_neg (by decide), if_pos (kd21 hS), c_failF hS h]
  rfl
theorem c_numG (hS : Sh S) (h : Gdx T z d i) (hT : okT2 T z) (lo hi : Int32) : ∃ v d', fX5_number S d 21 lo hi = some (v, d') ∧ Fr f21 d d' ∧ (∀ x, tnu T lo hi i = .inl x → Fdx d' x ∧ v = lo) ∧ (∀ u, tnu T lo hi i = .inr u → v = u ∧ d' = sk_uI d 21 7 (nI (i + 1)) ∧ Gdx T z d' (i + 1)) := by
  have hz := h.2.2.2.2
  have hi' := h.2.2.2.1
  unfold fX5_number tnu
  rw [if_pos (kd21 hS), c_kindG hS h, Option.bind_some]
  by_cases q : T.1 i = 200
  · rw [if_pos q, if_pos q, gr21_5 hS, Option.bind_some, gi21 hS, Option.bind_some, h.2.2.1, li39 hS _ (show i < 901 by omega), Option.bind_some, (h.1.2 i hi').2.2]
    have bad : (T.2.2 i < lo ∨ ¬ T.2.2 i ≤ hi) → ∃ v d', fX5_number_J37 S 21 lo d = some (v, d') ∧ Fr f21 d d' ∧ (∀ x, (if T.2.2 i < lo ∨ ¬ T.2.2 i ≤ hi then Sum.inl (tfl T i 3) else Sum.inr (T.2.2 i) : FLT ⊕ Int32) = .inl x → Fdx d' x ∧ v = lo) ∧ (∀ u, (if T.2.2 i < lo ∨ ¬ T.2.2 i ≤ hi then Sum.inl (tfl T i 3) else Sum.inr (T.2.2 i) : FLT ⊕ Int32) = .inr u → v = u ∧ d' = sk_uI d 21 7 (nI (i + 1)) ∧ Gdx T z d' (i + 1)) := by
      intro b
      obtain ⟨d', a1, a2, a3⟩ := c_failG hS h (y := 3) (by decide)
      unfold fX5_number_J37
      rw [if_pos (kd21 hS), a1, if_pos b]
      exact ⟨lo, d', rfl, a3, fun x e => ⟨by rw [← Sum.inl.inj e]; exact a2, rfl⟩, fun u e => absurd e (by simp)⟩
    by_cases q1 : T.2.2 i < lo
    · rw [if_pos q1]; exact bad (Or.inl q1)
    · rw [if_neg q1]
      by_cases q2 : T.2.2 i ≤ hi
      · obtain ⟨n1, n2⟩ := c_nextG hS h (tk_lt hT hi' (by rw [q]; decide))
        rw [if_pos q2, if_pos (kd21 hS), n1, if_neg (fun a => by rcases a with a | a; exact q1 a; exact a q2)]
        exact ⟨_, _, rfl, Fr.uI _ rfl, fun x e => absurd e (by simp), fun u e => ⟨Sum.inr.inj e, rfl, n2⟩⟩
      · rw [if_neg q2]; exact bad (Or.inr q2)
  · obtain ⟨d', a1, a2, a3⟩ := c_failG hS h (y := 2) (by decide)
    rw [if_neg q, if_neg q, if_pos (kd21 hS), a1]
    exact ⟨lo, d', rfl, a3, fun x e => ⟨by rw [← Sum.inl.inj e]; exact a2, rfl⟩, fun u e => absurd e (by simp)⟩
end
def LA1 (S : sk_S) (a : Nat) : Prop := S.2.1 a = (1, 0) ∧ sk_gR S a 1 0 = some (a + 1) ∧ S.2.1 (a + 1) = (20, 900) ∧ 22 ≤ a ∧ a + 1 ≤ 36
def lwf (a b : Nat) : Prop := b = a ∨ b = a + 1
def rdf (a b : Nat) : Prop := b = 21 ∨ b = a ∨ b = a + 1
theorem c_step {S : sk_S} {d : sk_D} {a : Nat} (hS : Sh S) (hl : LA1 S a) {w : List Int32} (hw : cW d a w) (hn : w.length < 900) (v : Int32) : ∃ d', fX1_step S d a v = some d' ∧ cW d' a (w ++ [v]) ∧ Fr (lwf a) d d' := by
  obtain ⟨k1, k2, k3, -, -⟩ := hl
  unfold fX1_step
  have g : ∀ e : sk_D, sk_gI S e a 1 2 = some (e.1 a 2) := fun e => if_pos k1
  have c9 : (sk_uI d (a + 1) w.length v).1 a 2 = nI w.length := by rw [uI_a _ _ _ a _ (by omega)]; exact hw.1
  rw [g, Option.bind_some, hw.1, if_neg (show ¬ (900 : Int32) ≤ nI w.length from nI_ge (b := 900) hn (by omega)), k2, Option.bind_some, Option.bind_some, kl_sI k3 (by omega) _ _ hn, Option.bind_some, g, Option.bind_some, c9, show sk_pI S (sk_uI d (a + 1) w.length v) a 1 2 (nI w.length + 1) = some (sk_uI (sk_uI d (a + 1) w.length v) a 2 (nI w.length + 1)) from if_pos k1, Option.bind_some]
  refine ⟨_, rfl, ⟨by rw [uI_s, nI_1, List.length_append]; rfl, fun j hj => ?_⟩, (Fr.uI (P := lwf a) _ (Or.inr rfl)).trans (Fr.uI (P := lwf a) _ (Or.inl rfl))⟩
  rw [uI_a _ _ _ (a + 1) _ (by omega)]
  by_cases q : j = w.length
  · rw [q, uI_s, List.getD_eq_getElem?_getD, List.getElem?_append_right (Nat.le_refl _), Nat.sub_self]; rfl
  · have : j < w.length := by rw [List.length_append] at hj; simp at hj; omega
    rw [uI_k _ _ _ _ _ q, hw.2 j this, List.getD_eq_getElem?_getD, List.getD_eq_getElem?_getD, List.getElem?_append_left this]
theorem c_stepF {S : sk_S} {d : sk_D} {a : Nat} (hl : LA1 S a) {c : Nat} (hc : c ≤ 900) (h : d.1 a 2 = nI c) (v : Int32) : ∃ d' c', fX1_step S d a v = some d' ∧ c' ≤ 900 ∧ d'.1 a 2 = nI c' ∧ Fr (lwf a) d d' := by
  obtain ⟨k1, k2, k3, -, -⟩ := hl
  unfold fX1_step
  have g : ∀ e : sk_D, sk_gI S e a 1 2 = some (e.1 a 2) := fun e => if_pos k1
  rw [g, Option.bind_some, h]
  by_cases q : c = 900
  · rw [if_pos (by rw [q]; decide)]
    exact ⟨d, c, rfl, hc, h, Fr.refl _ _⟩
  · have c9 : (sk_uI d (a + 1) c v).1 a 2 = nI c := by rw [uI_a _ _ _ a _ (by omega)]; exact h
    rw [if_neg (show ¬ (900 : Int32) ≤ nI c from nI_ge (b := 900) (by omega) (by omega)), k2, Option.bind_some, Option.bind_some, kl_sI k3 (by omega) _ _ (show c < 900 by omega), Option.bind_some, g, Option.bind_some, c9, show sk_pI S (sk_uI d (a + 1) c v) a 1 2 (nI c + 1) = some (sk_uI (sk_uI d (a + 1) c v) a 2 (nI c + 1)) from if_pos k1, Option.bind_some]
    exact ⟨_, c + 1, rfl, by omega, by rw [uI_s, nI_1], (Fr.uI (P := lwf a) _ (Or.inr rfl)).trans (Fr.uI (P := lwf a) _ (Or.inl rfl))⟩
/-! contracts of what reads a part of a law -/
def GS (T : TKS) (z a : Nat) (sl : Bool) (d : sk_D) (i : Nat) (w : List Int32) : Prop := Gdx T z d i ∧ cW d a w ∧ w.length ≤ i ∧ d.1 21 8 = sk_b sl
def FS (a : Nat) (d : sk_D) (f : FLT) : Prop := Fdx d f ∧ ∃ c, c ≤ 900 ∧ d.1 a 2 = nI c
def CC (T : TKS) (z a : Nat) (sl : Bool) (fn : sk_D → Option sk_D) (X : Nat → PR) : Prop :=
  (∀ d f, FS a d f → ∃ d', fn d = some d' ∧ FS a d' f ∧ Fr (rdf a) d d') ∧
  (∀ d i w, GS T z a sl d i w → ∃ d', fn d = some d' ∧ Fr (rdf a) d d' ∧ (∀ x, X i = .inl x → FS a d' x) ∧ ∀ y, X i = .inr y → GS T z a sl d' y.1 (w ++ y.2))
theorem cW.f21 {d e : sk_D} {a : Nat} {w : List Int32} (h : cW d a w) (ha : 22 ≤ a) (x : Fr f21 d e) : cW e a w := by
  unfold CStubKeepLaw_law_r1379_07d26a.f21 at x
  unfold cW
  rw [x.i (b := a) (by omega), x.i (b := a + 1) (by omega)]
  exact h
theorem fr_rdf {d e : sk_D} (a : Nat) (x : Fr f21 d e) : Fr (rdf a) d e := x.mono (fun b hb => Or.inl hb)
theorem fl_rdf {d e : sk_D} {a : Nat} (x : Fr (lwf a) d e) : Fr (rdf a) d e := x.mono (fun b hb => Or.inr hb)
theorem GS.next {S : sk_S} {d : sk_D} {T : TKS} {z a i : Nat} {sl : Bool} {w : List Int32} (hS : Sh S) (ha : LA1 S a) (h : GS T z a sl d i w) (hi : i < z) : ∃ d', fX5_next S d 21 = some d' ∧ GS T z a sl d' (i + 1) w ∧ Fr (rdf a) d d' := by
  obtain ⟨n1, n2⟩ := c_nextG hS h.1 hi
  have fr : Fr f21 d (sk_uI d 21 7 (nI (i + 1))) := Fr.uI _ rfl
  exact ⟨_, n1, ⟨n2, h.2.1.f21 ha.2.2.2.1 fr, by have := h.2.2.1; omega, by rw [uI_k _ _ _ _ _ (by omega)]; exact h.2.2.2⟩, fr_rdf a fr⟩
theorem GS.fail {S : sk_S} {d : sk_D} {T : TKS} {z a i : Nat} {sl : Bool} {w : List Int32} (hS : Sh S) (ha : LA1 S a) (h : GS T z a sl d i w) {y : Int32} (hy : y ≠ 0) : ∃ d', fX5_fail S d 21 y = some d' ∧ FS a d' (tfl T i y) ∧ Fr (rdf a) d d' := by
  obtain ⟨d', a1, a2, a3⟩ := c_failG hS h.1 hy
  have hz := h.1.2.2.2
  exact ⟨d', a1, ⟨a2, w.length, by have := h.2.2.1; omega, (h.2.1.f21 ha.2.2.2.1 a3).1⟩, fr_rdf a a3⟩
theorem GS.step {S : sk_S} {d : sk_D} {T : TKS} {z a i : Nat} {sl : Bool} {w : List Int32} (hS : Sh S) (ha : LA1 S a) (h : GS T z a sl d i w) (hw : w.length < i) (v : Int32) : ∃ d', fX1_step S d a v = some d' ∧ GS T z a sl d' i (w ++ [v]) ∧ Fr (rdf a) d d' := by
  have hz := h.1.2.2.2
  obtain ⟨d', a1, a2, a3⟩ := c_step hS ha h.2.1 (by omega) v
  have h2 := ha.2.2.2
  exact ⟨d', a1, ⟨h.1.fr (a3.mono (fun b hb => by unfold lwf at hb; omega)), a2, by rw [List.length_append]; simp; omega, by rw [a3.i (b := 21) (by unfold lwf; omega)]; exact h.2.2.2⟩, fl_rdf a3⟩
theorem FS.step {S : sk_S} {d : sk_D} {a : Nat} {f : FLT} (ha : LA1 S a) (h : FS a d f) (v : Int32) : ∃ d', fX1_step S d a v = some d' ∧ FS a d' f ∧ Fr (rdf a) d d' := by
  obtain ⟨h1, c, hc, e⟩ := h
  have h2 := ha.2.2.2
  obtain ⟨d', c', a1, a2, a3, a4⟩ := c_stepF ha hc e v
  exact ⟨d', a1, ⟨h1.fr (a4.i (by unfold lwf; omega)), c', a2, a3⟩, fl_rdf a4⟩
theorem chn_app (T : TKS) (X : Nat → PR) (op : Int32 → Int32) (a : List Int32) : ∀ f i w, chn T X op f i (a ++ w) = match chn T X op f i w with
    | .inl x => .inl x
    | .inr y => .inr (y.1, a ++ y.2)
  | 0, i, w => rfl
  | f + 1, i, w => by
    unfold chn
    by_cases c : op (T.1 i) = 0
    · rw [if_pos c, if_pos c]
    · rw [if_neg c, if_neg c]
      cases x : X (i + 1) with
      | inl v => rfl
      | inr v =>
        dsimp only
        rw [← chn_app T X op a f v.1 (w ++ v.2 ++ [op (T.1 i)])]
        simp only [List.append_assoc]
/-- a loop over parts with signs between them -/
theorem chain_L {T : TKS} {z a : Nat} {sl : Bool} (hT : okT2 T z) {X : Nat → PR} (hX : LENP z T X) {op : Int32 → Int32} (h2 : op 202 = 0) {body : Int32 × sk_D → Option ((Int32 × sk_D) ⊕ sk_D)}
    (b1 : ∀ n d f, n ≤ 901 → FS a d f → body (nI n, d) = some (.inr d))
    (b2 : ∀ n d i w, n < 900 → GS T z a sl d i w → op (T.1 i) = 0 → body (nI n, d) = some (.inr d))
    (b4 : ∀ d, body (nI 900, d) = some (.inr d))
    (b3 : ∀ n d i w, n < 900 → GS T z a sl d i w → op (T.1 i) ≠ 0 → ∃ d', body (nI n, d) = some (.inl (nI (n + 1), d')) ∧ Fr (rdf a) d d' ∧ (∀ x, X (i + 1) = .inl x → FS a d' x) ∧ ∀ y, X (i + 1) = .inr y → GS T z a sl d' y.1 (w ++ y.2 ++ [op (T.1 i)])) :
    ∀ f n d i w, f + n = 901 → n ≤ i → GS T z a sl d i w → ∃ d', sk_itr body (nI n, d) = some d' ∧ Fr (rdf a) d d' ∧ (∀ x, chn T X op f i w = .inl x → FS a d' x) ∧ ∀ y, chn T X op f i w = .inr y → GS T z a sl d' y.1 y.2
  | 0, n, d, i, w, hf, hn, h => by have := h.1.2.2.2; omega
  | f + 1, n, d, i, w, hf, hn, h => by
    have hz := h.1.2.2.2
    unfold chn
    by_cases c : op (T.1 i) = 0
    · have e : sk_itr body (nI n, d) = some d := by
        apply sk_itr_exit
        by_cases q : n < 900
        · exact b2 n d i w q h c
        · rw [show n = 900 by omega]; exact b4 d
      rw [if_pos c]
      refine ⟨d, e, Fr.refl _ _, fun x a => absurd a (by simp), fun y a => ?_⟩
      rw [← Sum.inr.inj a]; exact h
    · have hiz := op_lt hT hz.1 h2 c
      obtain ⟨d1, a1, a2, a3, a4⟩ := b3 n d i w (by omega) h c
      rw [if_neg c, sk_itr_step a1]
      cases x : X (i + 1) with
      | inl v =>
        have F := a3 v x
        refine ⟨d1, sk_itr_exit (b1 (n + 1) d1 v (by omega) F), a2, fun x a => ?_, fun y a => absurd a (by simp)⟩
        rw [← Sum.inl.inj a]; exact F
      | inr v =>
        have G := a4 v x
        have l := hX (i + 1) (by omega) v x
        obtain ⟨d2, c1, c2, c3⟩ := chain_L hT hX h2 b1 b2 b4 b3 f (n + 1) d1 v.1 _ (by omega) (by omega) G
        exact ⟨d2, c1, a2.trans c2, c3⟩
theorem chain_C {T : TKS} {z a : Nat} {sl : Bool} (hT : okT2 T z) {X : Nat → PR} (hX : LENP z T X) {op : Int32 → Int32} (h2 : op 202 = 0) {fn0 fn : sk_D → Option sk_D} {body : Int32 × sk_D → Option ((Int32 × sk_D) ⊕ sk_D)} (h0 : CC T z a sl fn0 X)
    (hfn : ∀ d, fn d = (fn0 d).bind fun d3 => (sk_itr body ((0 : Int32), d3)).bind fun x1 => some x1)
    (b1 : ∀ n d f, n ≤ 901 → FS a d f → body (nI n, d) = some (.inr d))
    (b2 : ∀ n d i w, n < 900 → GS T z a sl d i w → op (T.1 i) = 0 → body (nI n, d) = some (.inr d))
    (b4 : ∀ d, body (nI 900, d) = some (.inr d))
    (b3 : ∀ n d i w, n < 900 → GS T z a sl d i w → op (T.1 i) ≠ 0 → ∃ d', body (nI n, d) = some (.inl (nI (n + 1), d')) ∧ Fr (rdf a) d d' ∧ (∀ x, X (i + 1) = .inl x → FS a d' x) ∧ ∀ y, X (i + 1) = .inr y → GS T z a sl d' y.1 (w ++ y.2 ++ [op (T.1 i)])) : CC T z a sl fn (chain T X op) := by
  refine ⟨fun d f h => ?_, fun d i w h => ?_⟩
  · obtain ⟨d1, a1, a2, a3⟩ := h0.1 d f h
    refine ⟨d1, ?_, a2, a3⟩
    rw [hfn, a1, Option.bind_some, show (0 : Int32) = nI 0 from rfl, sk_itr_exit (b1 0 d1 f (by omega) a2)]
    rfl
  · obtain ⟨d1, a1, a2, a3, a4⟩ := h0.2 d i w h
    unfold chain
    cases x : X i with
    | inl v =>
      have F := a3 v x
      refine ⟨d1, ?_, a2, fun x a => by rw [← Sum.inl.inj a]; exact F, fun y a => absurd a (by simp)⟩
      rw [hfn, a1, Option.bind_some, show (0 : Int32) = nI 0 from rfl, sk_itr_exit (b1 0 d1 v (by omega) F)]
      rfl
    | inr v =>
      have G := a4 v x
      obtain ⟨d2, c1, c2, c3, c4⟩ := chain_L hT hX h2 b1 b2 b4 b3 901 0 d1 v.1 (w ++ v.2) (by omega) (by omega) G
      have app := chn_app T X op w 901 v.1 v.2
      dsimp only
      refine ⟨d2, ?_, a2.trans c2, fun x a => c3 x ?_, fun y a => ?_⟩
      · rw [hfn, a1, Option.bind_some, show (0 : Int32) = nI 0 from rfl, c1]
        rfl
      · rw [app, a]
      · exact c4 (y.1, w ++ y.2) (by rw [app, a])
