/-! the reference lays how far it is -/
def FA : Nat := 268435456
theorem sub_and (X set : Int32) : (X &&& set) = set ↔ (set &&& (X ^^^ (-1))) = 0 := by
  rw [z_sub]
  constructor
  · intro h i hi hs
    have := congrArg (fun x => bt x i) h
    simp only [b_and, hs, Bool.and_true] at this
    exact this
  · intro h
    apply b_ext
    intro i hi
    rw [b_and]
    cases hs : bt set i
    · simp
    · rw [h i hi hs]; rfl
theorem m_hasAll {S : sk_S} {d : sk_D} {L : LF} (h : MI S d L) {s : Int32} (hz : zM L s) (set : Int32) (b : Bool) : (gl b set s → fX11_hasAll S d 94 (stnd s) set b = some true) ∧ (¬ gl b set s → fX11_hasAll S d 94 (stnd s) set b = some false) := by
  obtain ⟨hS, hk, hm⟩ := h
  unfold fX11_hasAll gl
  cases b with
  | true =>
    simp only [↓reduceIte, kd94 hS, m_shown hS hk hm hz, Option.bind_some]
    exact ⟨fun a => if_pos ((sub_and _ _).mpr a), fun a => if_neg (fun c => a ((sub_and _ _).mp c))⟩
  | false =>
    simp only [↓reduceIte, Bool.false_eq_true, kd94 hS, m_done hS hk hm hz, Option.bind_some]
    exact ⟨fun a => if_pos ((sub_and _ _).mpr a), fun a => if_neg (fun c => a ((sub_and _ _).mp c))⟩
section
variable {S : sk_S} {L : LF} {f : Int32} {Q : List TQ} {K : Nat → Nat} {G : Nat → Prop}
def vf (d : sk_D) (Q : List TQ) (i : Nat) : Nat := (d.1 104 (stN (gq Q i).1)).toNatClampNeg
/-- how far by a move -/
noncomputable def fbN (d : sk_D) (L : LF) (Q : List TQ) (i mv : Nat) : Nat := @ite _ (∃ j, edg L Q i mv j ∧ vf d Q j < FA) (Classical.propDecidable _) ((lst (fun n => ∃ j, edg L Q i mv j ∧ n = vf d Q j + 1)).getD 0) FA
theorem edg_uni (hn : nds Q) {i mv j k : Nat} (h1 : edg L Q i mv j) (h2 : edg L Q i mv k) : j = k :=
  hn j k _ _ (gq_some h1.2.2.1) (gq_some h2.2.2.1) (h1.2.2.2.2.trans h2.2.2.2.2.symm)
theorem fbN_e (hn : nds Q) {d : sk_D} {i mv j : Nat} (h : edg L Q i mv j) : fbN d L Q i mv = if vf d Q j < FA then vf d Q j + 1 else FA := by
  unfold fbN
  by_cases c : vf d Q j < FA
  · rw [if_pos ⟨j, h, c⟩, if_pos c, lst_some (n := vf d Q j + 1) ⟨j, h, rfl⟩ (fun k hk ⟨j2, e2, e3⟩ => by rw [edg_uni hn e2 h] at e3; omega)]
    rfl
  · rw [if_neg (fun ⟨j2, e2, e3⟩ => c (by rw [edg_uni hn h e2]; exact e3)), if_neg c]
theorem fbN_n {d : sk_D} {i mv : Nat} (h : ∀ j, ¬ edg L Q i mv j) : fbN d L Q i mv = FA := by
  unfold fbN; rw [if_neg (fun ⟨j, e, _⟩ => h j e)]
/-- what holds of the distances laid so far -/
def FI (d : sk_D) (L : LF) (Q : List TQ) (G : Nat → Prop) : Prop := ∀ i, i < Q.length → d.1 104 (stN (gq Q i).1) = nI (vf d Q i) ∧ vf d Q i ≤ FA ∧ (G i → vf d Q i = 0) ∧ (¬ G i → 1 ≤ vf d Q i) ∧ (vf d Q i < FA → pth L Q G i (vf d Q i))
/-- the stands are laid -/
def LY (S : sk_S) (d : sk_D) (L : LF) (f : Int32) (Q : List TQ) (K : Nat → Nat) : Prop := Sh S ∧ okL L ∧ d.1 94 25 = nI Q.length ∧ (∀ i, i < Q.length → d.1 102 i = stnd (gq Q i).1) ∧ (∀ i mv, i < Q.length → mv < 16 → d.1 103 (16 * stN (gq Q i).1 + mv) = mvS L (gq Q i).1 mv) ∧ allS L Q ∧ nds Q ∧ Q.length ≤ 65536 ∧ BI L f Q (16 * Q.length) K
theorem LY.same {d e : sk_D} (h : LY S d L f Q K) (f1 : Fr (fun b => b = 104) d e) : LY S e L f Q K := by
  obtain ⟨a1, a2, a3, a4, a5, a6⟩ := h
  refine ⟨a1, a2, by rw [f1.i (b := 94) (by omega)]; exact a3, fun i hi => by rw [f1.i (b := 102) (by omega)]; exact a4 i hi, fun i mv hi hm => by rw [f1.i (b := 103) (by omega)]; exact a5 i mv hi hm, a6⟩
theorem m_farBy {d : sk_D} (h : LY S d L f Q K) (hF : FI d L Q G) {i mv : Nat} (hi : i < Q.length) (hm : mv < 16) : fX11_farBy S d 94 (stnd (gq Q i).1) (nI mv) = some (nI (fbN d L Q i mv)) := by
  obtain ⟨hS, hk, a3, a4, a5, a6, a7, a8, a9⟩ := h
  obtain ⟨hz, ez⟩ := stN_eq (gq Q i).1
  have okx := a6 _ (List.mem_of_getElem? (gq_some hi))
  unfold fX11_farBy
  rw [gr94_22 hS, Option.bind_some, ez, p16, li103 hS _ (by omega), Option.bind_some, a5 i mv hi hm]
  unfold mvS
  by_cases c : mvt L (gq Q i).1 mv < 0
  · rw [if_pos c, if_pos rfl, fbN_n (fun j e => e.2.2.2.1 c)]; rfl
  · obtain ⟨j, e⟩ := edg_ex a9 hi hm c
    have ej := e.2.2.2.2
    obtain ⟨hz2, ez2⟩ := stN_eq (gq Q j).1
    obtain ⟨f1, f2, -⟩ := hF j e.2.2.1
    rw [if_neg c, ← ej, ez2, if_neg (by rw [fa_eq, nI_toInt (by omega), show (-1 : Int32).toInt = -1 from rfl]; omega), gr94_23 hS, Option.bind_some, li104 hS _ hz2, Option.bind_some, f1, fbN_e a7 e]
    by_cases c2 : vf d Q j < FA
    · rw [if_neg (by rw [show (268435456 : Int32) = nI 268435456 from rfl, nI_eq (by unfold FA at f2; omega) (by omega)]; unfold FA at c2; omega), if_pos c2, Option.bind_some, li104 hS _ hz2, Option.bind_some, f1, nI_1]
    · have : vf d Q j = 268435456 := by unfold FA at c2 f2; omega
      rw [if_neg c2, this, if_pos (by rfl)]; rfl
theorem vf_same {d e : sk_D} (h : e.1 104 = d.1 104) (i : Nat) : vf e Q i = vf d Q i := by unfold vf; rw [h]
theorem fbN_same {d e : sk_D} (h : ∀ i, i < Q.length → vf e Q i = vf d Q i) {i mv : Nat} (hn : nds Q) : fbN e L Q i mv = fbN d L Q i mv := by
  by_cases c : ∃ j, edg L Q i mv j
  · obtain ⟨j, hj⟩ := c
    rw [fbN_e hn hj, fbN_e hn hj, h j hj.2.2.1]
  · rw [fbN_n (fun j e => c ⟨j, e⟩), fbN_n (fun j e => c ⟨j, e⟩)]
/-- one distance mended -/
theorem FI_set {d : sk_D} (h : LY S d L f Q K) (hF : FI d L Q G) {k mv : Nat} (hk : k < Q.length) (hm : mv < 16) (hlt : fbN d L Q k mv < vf d Q k) :
    FI (sk_uI d 104 (stN (gq Q k).1) (nI (fbN d L Q k mv))) L Q G ∧ (∀ i, i < Q.length → vf (sk_uI d 104 (stN (gq Q k).1) (nI (fbN d L Q k mv))) Q i = if i = k then fbN d L Q k mv else vf d Q i) := by
  obtain ⟨hS, hkL, a3, a4, a5, a6, a7, a8, a9⟩ := h
  obtain ⟨k1, k2, k3, k4, k5⟩ := hF k hk
  have fle : fbN d L Q k mv < FA := by omega
  have hv : ∀ i, i < Q.length → vf (sk_uI d 104 (stN (gq Q k).1) (nI (fbN d L Q k mv))) Q i = if i = k then fbN d L Q k mv else vf d Q i := by
    intro i hi
    unfold vf
    by_cases c : i = k
    · subst c; rw [uI_s, if_pos rfl, nI_clamp (by unfold FA at fle; omega)]
    · rw [if_neg c, uI_k]
      intro a
      have e := stN_inj (a6 _ (List.mem_of_getElem? (gq_some hi))) (a6 _ (List.mem_of_getElem? (gq_some hk))) a
      exact c (a7 i k _ _ (gq_some hi) (gq_some hk) e)
  have hedge : ∃ j, edg L Q k mv j ∧ vf d Q j < FA := by
    refine Classical.byContradiction (fun no => ?_)
    have : fbN d L Q k mv = FA := by unfold fbN; rw [if_neg no]
    omega
  obtain ⟨j, ej, vj⟩ := hedge
  have fe := fbN_e (d := d) a7 ej
  rw [if_pos vj] at fe
  refine ⟨fun i hi => ?_, hv⟩
  rw [hv i hi]
  by_cases c : i = k
  · subst c
    rw [if_pos rfl]
    refine ⟨uI_s _ _ _ _, by omega, fun g => ?_, fun _ => by omega, fun _ => ?_⟩
    · have := k3 g; omega
    · rw [fe]; exact ⟨mv, j, ej, (hF j ej.2.2.1).2.2.2.2 vj⟩
  · rw [if_neg c]
    obtain ⟨i1, i2, i3, i4, i5⟩ := hF i hi
    refine ⟨?_, i2, i3, i4, i5⟩
    rw [uI_k]
    · exact i1
    · intro a
      have e := stN_inj (a6 _ (List.mem_of_getElem? (gq_some hi))) (a6 _ (List.mem_of_getElem? (gq_some hk))) a
      exact c (a7 i k _ _ (gq_some hi) (gq_some hk) e)
def smv (d : sk_D) (Q : List TQ) : Nat := fb_sm (fun i => vf d Q i) Q.length
theorem smv_lt {d e : sk_D} {k x : Nat} (hk : k < Q.length) (h : ∀ i, i < Q.length → vf e Q i = if i = k then x else vf d Q i) (hx : x < vf d Q k) : smv e Q < smv d Q := by
  have e1 : smv e Q = fb_sm (fun i => if i = k then x else vf d Q i) Q.length := fb_sm_cong (fun i hi => h i hi)
  have e2 := fb_sm_upd (fun i => vf d Q i) x (i := k) (n := Q.length) hk
  unfold smv at e1 ⊢
  omega
theorem smv_eq {d e : sk_D} (h : ∀ i, i < Q.length → vf e Q i = vf d Q i) : smv e Q = smv d Q := fb_sm_cong h
/-- locally mended: no move makes it nearer -/
def lfx (d : sk_D) (L : LF) (Q : List TQ) (k : Nat) : Prop := vf d Q k = 0 ∨ ∀ mv, mv < 16 → vf d Q k ≤ fbN d L Q k mv
theorem m_far77 {d : sk_D} (h : LY S d L f Q K) (hF : FI d L Q G) {k : Nat} (hk : k < Q.length) {mo : Int32} (hmo : mo = 0 ∨ mo = 1) :
    ∃ e, sk_itr (fX11_laysFar_L77 S 94 (nI k)) (mo, (0 : Int32), d) = some e ∧ FI e.2 L Q G ∧ Fr (fun b => b = 104) d e.2 ∧ ((e.1 = mo ∧ (∀ i, i < Q.length → vf e.2 Q i = vf d Q i) ∧ lfx d L Q k) ∨ (e.1 = 1 ∧ smv e.2 Q < smv d Q)) := by
  obtain ⟨hz, ez⟩ := stN_eq (gq Q k).1
  have hS := h.1
  have len := h.2.2.2.2.2.2.2.1
  have hn := h.2.2.2.2.2.2.1
  have loop := it_for (body := fX11_laysFar_L77 S 94 (nI k)) (fun mv z => z.2.1 = nI mv ∧ FI z.2.2 L Q G ∧ Fr (fun b => b = 104) d z.2.2 ∧ ((z.1 = mo ∧ (∀ i, i < Q.length → vf z.2.2 Q i = vf d Q i) ∧ ∀ j, j < mv → vf d Q k ≤ fbN d L Q k j) ∨ (z.1 = 1 ∧ smv z.2.2 Q < smv d Q))) 16
    (fun e => FI e.2 L Q G ∧ Fr (fun b => b = 104) d e.2 ∧ ((e.1 = mo ∧ (∀ i, i < Q.length → vf e.2 Q i = vf d Q i) ∧ lfx d L Q k) ∨ (e.1 = 1 ∧ smv e.2 Q < smv d Q))) ?_ ?_ (s := (mo, (0 : Int32), d)) ⟨rfl, hF, Fr.refl _ _, Or.inl ⟨rfl, fun i _ => rfl, fun j hj => by omega⟩⟩
  · exact loop
  · intro mv z hm ⟨i1, i2, i3, i4⟩
    have hL := h.same i3
    obtain ⟨f1, f2, f3, f4, f5⟩ := i2 k hk
    have gk := hL.2.2.2.1 k hk
    have fb := m_farBy hL i2 hk hm
    unfold fX11_laysFar_L77
    rw [i1, if_neg (show ¬ (16 : Int32) ≤ nI mv from nI_ge (b := 16) hm (by omega))]
    simp only [gr94_23 hS, gr94_21 hS, Option.bind_some, li102 hS z.2.2 (show k < 65536 by omega), gk, kd94 hS, ↓reduceIte, fb]
    rw [ez]
    simp only [li104 hS z.2.2 hz, si104 hS z.2.2 _ hz, Option.bind_some, f1]
    by_cases v0 : vf z.2.2 Q k = 0
    · right
      rw [v0, if_pos (by decide)]
      refine ⟨_, rfl, i2, i3, ?_⟩
      rcases i4 with ⟨a, b, c⟩ | a
      · exact Or.inl ⟨a, b, Or.inl (by rw [← b k hk]; exact v0)⟩
      · exact Or.inr a
    · left
      rw [if_neg (nI_nle (by omega) (by unfold FA at f2; omega))]
      by_cases lt : fbN z.2.2 L Q k mv < vf z.2.2 Q k
      · rw [if_pos (nI_lt lt (by unfold FA at f2; omega))]
        obtain ⟨g1, g2⟩ := FI_set hL i2 hk hm lt
        have sl := smv_lt hk g2 lt
        refine ⟨_, rfl, nI_1 mv, g1, i3.tI rfl, Or.inr ⟨rfl, ?_⟩⟩
        rcases i4 with ⟨a, b, c⟩ | ⟨a, b⟩
        · rw [smv_eq b] at sl; exact sl
        · exact Nat.lt_trans sl b
      · rw [if_neg (nI_nlt (by omega) (by
          have : fbN z.2.2 L Q k mv ≤ FA := by
            by_cases c : ∃ j, edg L Q k mv j
            · obtain ⟨j, hj⟩ := c
              rw [fbN_e hn hj]; split <;> omega
            · rw [fbN_n (fun j e => c ⟨j, e⟩)]; exact Nat.le_refl _
          unfold FA at this; omega))]
        refine ⟨_, rfl, nI_1 mv, i2, i3, ?_⟩
        rcases i4 with ⟨a, b, c⟩ | a
        · refine Or.inl ⟨a, b, fun j hj => ?_⟩
          by_cases cj : j = mv
          · subst cj
            rw [fbN_same b hn, b k hk] at lt
            omega
          · exact c j (by omega)
        · exact Or.inr a
  · intro z ⟨i1, i2, i3, i4⟩
    unfold fX11_laysFar_L77
    rw [i1]
    refine ⟨_, rfl, i2, i3, ?_⟩
    rcases i4 with ⟨a, b, c⟩ | a
    · exact Or.inl ⟨a, b, Or.inr c⟩
    · exact Or.inr a
end
