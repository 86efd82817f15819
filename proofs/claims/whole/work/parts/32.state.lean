/-! rows: all that can be by doing and dropping, in the order in which it comes -/
abbrev TQ : Type := Int32 × Int32 × Int32
def mvt (L : LF) (s : Int32) (mv : Nat) : Int32 := if mv < 8 then tdo L s mv else tdr L s (mv - 8)
def dcd (mv : Nat) : Int32 := if mv < 8 then nI mv else nI (mv + 2)
def rch (Q : List TQ) (t b e : Int32) : List TQ := if t < 0 ∨ (Q.any (fun x => x.1 == t)) = true then Q else Q ++ [(t, b, e)]
def bst (L : LF) (s : Int32) : Nat → List TQ → List TQ
  | 0, Q => Q
  | k + 1, Q => rch (bst L s k Q) (mvt L s k) s (dcd k)
def qs (L : LF) (s : Int32) : Nat → List TQ
  | 0 => [(s, 0, 31)]
  | h + 1 => match (qs L s h)[h]? with
    | some x => bst L x.1 16 (qs L s h)
    | none => qs L s h
theorem bq_ex (L : LF) (s : Int32) : ∃ Q : List TQ, Q = qs L s 65536 := ⟨_, rfl⟩
noncomputable def bq (L : LF) (s : Int32) : List TQ := Classical.choose (bq_ex L s)
theorem bq_eq (L : LF) (s : Int32) : bq L s = qs L s 65536 := Classical.choose_spec (bq_ex L s)
def spt (n : Nat) (s : Int32) : Int32 := dn s ||| (ln s <<< (nI n &&& 31))
/-! the state: tape, fault, life, moment, past, trays, images -/
abbrev AS : Type := (List Int32) × (Int32 × Int32) × LF × Int32 × List Int32 × (Nat → Option (Int32 × List Int64)) × (Nat → Option (LF × Int32))
def as_tp (A : AS) : List Int32 := A.1
def as_fk (A : AS) : Int32 := A.2.1.1
def as_fp (A : AS) : Int32 := A.2.1.2
def as_L (A : AS) : LF := A.2.2.1
def as_m (A : AS) : Int32 := A.2.2.2.1
def as_ps (A : AS) : List Int32 := A.2.2.2.2.1
def as_tr (A : AS) : Nat → Option (Int32 × List Int64) := A.2.2.2.2.2.1
def as_im (A : AS) : Nat → Option (LF × Int32) := A.2.2.2.2.2.2
def okA (A : AS) : Prop := okL (as_L A) ∧ okM (as_L A) (as_m A) ∧ (∀ x, x ∈ as_ps A → okM (as_L A) x) ∧ (as_ps A).length ≤ 10 ∧ (as_tp A).length ≤ 900 ∧ (∀ c, c ∈ as_tp A → ∃ k, k < 256 ∧ c = nI k) ∧
  (∀ t x, as_tr A t = some x → x.2.length ≤ 40 ∧ ∃ z, z < 4 ∧ x.1 = nI z) ∧ (∀ i x, as_im A i = some x → okL x.1 ∧ okM x.1 x.2)
/-- another moment, with what was behind it -/
def push (ps : List Int32) (m : Int32) : List Int32 := (if ps.length = 10 then ps.tail else ps) ++ [m]
def goto (A : AS) (m : Int32) : AS := (A.1, A.2.1, A.2.2.1, m, push (as_ps A) (as_m A), A.2.2.2.2.2)
def wAd (S : sk_S) (a : Nat) : Prop := (41 ≤ a ∧ a ≤ 44) ∨ (115 < a ∧ a ≤ S.1.1)
def WS (S : sk_S) (q c w m len : Nat) : Prop := S.2.2 40 3 = q ∧ S.2.2 40 4 = c ∧ S.2.2 40 5 = w ∧ S.2.2 40 6 = m ∧ S.2.1 q = (20, len) ∧ S.2.1 c = (20, len) ∧ S.2.1 w = (21, (S.2.1 w).2) ∧ S.2.1 m = (21, (S.2.1 w).2) ∧
  wAd S q ∧ wAd S c ∧ wAd S w ∧ wAd S m ∧ q ≠ c ∧ w ≠ m ∧ (∃ e, e ≤ 8 ∧ len = 4 ^ e) ∧ 115 ≤ S.1.1 ∧ S.1.1 ≤ 115 + 2 * len + 2 * (S.2.1 w).2 ∧ S.1.2 ≤ 2000000 + 3 * len + 3 * (S.2.1 w).2 ∧ ((S.2.1 w).2 = len ∨ 4 * (S.2.1 w).2 ≤ len)
def wkE (d : sk_D) (c len : Nat) : Prop := d.1 40 0 = 0 ∧ d.1 40 1 = -1 ∧ ∀ i, i < len → d.1 c i = 0
def wkF (d : sk_D) (L : LF) (f : Int32) (q c len : Nat) : Prop := d.1 40 1 = f ∧ okM L f ∧ (∀ i, 16 ≤ i → i < 32 → bt f i = false) ∧ d.1 40 2 = nI (lf_n L) ∧ 4 ^ lf_n L ≤ len ∧ d.1 40 0 = nI (bq L f).length ∧
  (∀ i x, (bq L f)[i]? = some x → d.1 q i = x.1 ∧ d.1 c (spt (lf_n L) x.1).toNatClampNeg = 1 + x.2.2 + 32 * x.2.1) ∧ ∀ i, i < len → d.1 c i ≠ 0 → ∃ x, x ∈ bq L f ∧ (spt (lf_n L) x.1).toNatClampNeg = i
def cWk (S : sk_S) (d : sk_D) (L : LF) : Prop := ∃ q c w m len, WS S q c w m len ∧ (wkE d c len ∨ ∃ f, wkF d L f q c len)
/-! the class's cells -/
def rcP (d : sk_D) (m : Int32) (ps : List Int32) : Prop := d.1 50 1 = m ∧ d.1 50 2 = nI ps.length ∧ ∀ i, i < ps.length → d.1 51 i = ps.getD i 0
def rcT (d : sk_D) (tp : List Int32) : Prop := d.1 1 10 = nI tp.length ∧ ∀ i, i < tp.length → d.1 55 i = tp.getD i 0
def cTr (d : sk_D) (a : Nat) (o : Option (Int32 × List Int64)) : Prop := match o with
  | none => d.1 a 3 = 0
  | some x => d.1 a 3 = 1 ∧ d.1 a 1 = x.1 ∧ d.1 a 2 = nI x.2.length ∧ ∀ i, i < x.2.length → d.2 (a + 1) i = x.2.getD i 0
def rcR (d : sk_D) (tr : Nat → Option (Int32 × List Int64)) : Prop := ∀ t, t < 4 → cTr d (56 + 2 * t) (tr t)
def cIm (d : sk_D) (i : Nat) (o : Option (LF × Int32)) : Prop := match o with
  | none => d.1 54 i = -1
  | some x => d.1 54 i = x.2 ∧ cL d (64 + 15 * i) x.1
def rcI (d : sk_D) (im : Nat → Option (LF × Int32)) : Prop := ∀ i, i < 2 → cIm d i (im i)
def RC (S : sk_S) (d : sk_D) (A : AS) : Prop := CI S d (as_L A) ∧ rcP d (as_m A) (as_ps A) ∧ rcT d (as_tp A) ∧ (d.1 21 1 = as_fk A ∧ d.1 21 2 = as_fp A) ∧ rcR d (as_tr A) ∧ rcI d (as_im A) ∧ cWk S d (as_L A)
/-! the reference's cells -/
def mM (f : Nat → Int32) (m : Int32) : Prop := (∀ j, j < 8 → f j = mood m j) ∧ f 8 = sp m
def rmP (f : Nat → Int32) (m : Int32) (ps : List Int32) : Prop := mM (fun k => f (74 + k)) m ∧ f 83 = nI ps.length ∧ ∀ i, i < ps.length → mM (fun k => f (84 + 9 * i + k)) (ps.getD i 0)
def rmT (d : sk_D) (tp : List Int32) : Prop := d.1 94 5 = nI tp.length ∧ ∀ i, i < tp.length → d.1 97 i = tp.getD i 0
def mTr (d : sk_D) (t : Nat) (o : Option (Int32 × List Int64)) : Prop := match o with
  | none => d.1 113 t = -1
  | some x => d.1 113 t = x.1 ∧ d.1 114 t = nI x.2.length ∧ ∀ i, i < x.2.length → d.2 115 (40 * t + i) = x.2.getD i 0
def rmR (d : sk_D) (tr : Nat → Option (Int32 × List Int64)) : Prop := ∀ t, t < 4 → mTr d t (tr t)
def mIm (d : sk_D) (i : Nat) (o : Option (LF × Int32)) : Prop := match o with
  | none => d.1 96 i = 0
  | some x => d.1 96 i = 1 ∧ mL (fun k => d.1 95 (1075 * (i + 1) + k)) x.1 ∧ mM (fun k => d.1 95 (1075 * (i + 1) + 74 + k)) x.2
def rmI (d : sk_D) (im : Nat → Option (LF × Int32)) : Prop := ∀ i, i < 2 → mIm d i (im i)
def RM (S : sk_S) (d : sk_D) (A : AS) : Prop := MI S d (as_L A) ∧ rmP (d.1 95) (as_m A) (as_ps A) ∧ rmT d (as_tp A) ∧ (d.1 94 13 = as_fk A ∧ d.1 94 14 = as_fp A) ∧ rmR d (as_tr A) ∧ rmI d (as_im A)
def cls (b : Nat) : Prop := b ≤ 93 ∨ 115 < b
def mdl (b : Nat) : Prop := 94 ≤ b ∧ b ≤ 115
/-! both stay where the other side works -/
theorem cL.same {d e : sk_D} {a : Nat} {L : LF} (h : cL d a L) (f : ∀ b, a ≤ b → b ≤ a + 13 → (b ≠ a + 11) → e.1 b = d.1 b) : cL e a L := by
  obtain ⟨h0, h1, h2, h4, hv, hdo, ⟨hw0, hw0'⟩, ⟨hw1, hw1'⟩⟩ := h
  refine ⟨?_, ?_, ?_, ?_, ?_, ?_, ⟨?_, ?_⟩, ⟨?_, ?_⟩⟩
  · rw [f a (by omega) (by omega) (by omega)]; exact h0
  · rw [f a (by omega) (by omega) (by omega)]; exact h1
  · rw [f a (by omega) (by omega) (by omega)]; exact h2
  · rw [f a (by omega) (by omega) (by omega)]; exact h4
  · intro t j ht hj; rw [f (a + 1 + t) (by omega) (by omega) (by omega)]; exact hv t j ht hj
  · intro j hj; rw [f (a + 8) (by omega) (by omega) (by omega)]; exact hdo j hj
  · rw [f (a + 9) (by omega) (by omega) (by omega)]; exact hw0
  · intro j hj; rw [f (a + 9 + 1) (by omega) (by omega) (by omega)]; exact hw0' j hj
  · rw [f (a + 12) (by omega) (by omega) (by omega)]; exact hw1
  · intro j hj; rw [f (a + 12 + 1) (by omega) (by omega) (by omega)]; exact hw1' j hj
theorem wAd.cls {S : sk_S} {a : Nat} (h : wAd S a) : (40 ≤ a ∧ a ≤ 44) ∨ 115 < a := by unfold wAd at h; omega
theorem cWk.same {S : sk_S} {d e : sk_D} {L : LF} (h : cWk S d L) (f : ∀ b, (40 ≤ b ∧ b ≤ 44) ∨ 115 < b → e.1 b = d.1 b) : cWk S e L := by
  obtain ⟨q, c, w, m, len, hw, ho⟩ := h
  have hq : e.1 q = d.1 q := f q hw.2.2.2.2.2.2.2.2.1.cls
  have hc : e.1 c = d.1 c := f c hw.2.2.2.2.2.2.2.2.2.1.cls
  have h4 : e.1 40 = d.1 40 := f 40 (by omega)
  refine ⟨q, c, w, m, len, hw, ?_⟩
  unfold wkE wkF at ho ⊢
  rw [h4, hq, hc]
  exact ho
theorem cTr.same {d e : sk_D} {a : Nat} {o : Option (Int32 × List Int64)} (h : cTr d a o) (f1 : e.1 a = d.1 a) (f2 : e.2 (a + 1) = d.2 (a + 1)) : cTr e a o := by
  unfold cTr at h ⊢
  cases o with
  | none => rw [f1]; exact h
  | some x => simp only [f1, f2]; exact h
theorem cIm.same {d e : sk_D} {i : Nat} (hi : i < 2) {o : Option (LF × Int32)} (h : cIm d i o) (f : ∀ b, (b = 54 ∨ (64 ≤ b ∧ b ≤ 93)) → e.1 b = d.1 b) : cIm e i o := by
  unfold cIm at h ⊢
  cases o with
  | none => rw [f 54 (by omega)]; exact h
  | some x => exact ⟨by rw [f 54 (by omega)]; exact h.1, h.2.same (fun b h1 h2 _ => f b (by omega))⟩
theorem RC.same {S : sk_S} {d e : sk_D} {A : AS} (h : RC S d A) (f : Fr mdl d e) : RC S e A := by
  have fi : ∀ b, ¬ mdl b → e.1 b = d.1 b := fun b hb => f.i hb
  have fj : ∀ b, ¬ mdl b → e.2 b = d.2 b := fun b hb => f.j hb
  unfold mdl at fi fj
  obtain ⟨⟨hS, hk, hc, hK⟩, hp, ht, hf, hr, hi, hw⟩ := h
  refine ⟨⟨hS, hk, hc.same (fun b _ _ _ => fi b (by omega)), hK.fr (fi 18 (by omega)) (fi 19 (by omega))⟩, ?_, ?_, ?_, ?_, ?_, ?_⟩
  · unfold rcP; rw [fi 50 (by omega), fi 51 (by omega)]; exact hp
  · unfold rcT; rw [fi 1 (by omega), fi 55 (by omega)]; exact ht
  · rw [fi 21 (by omega)]; exact hf
  · intro t h4; exact (hr t h4).same (fi _ (by omega)) (fj _ (by omega))
  · intro i h2; exact (hi i h2).same h2 (fun b _ => fi b (by omega))
  · exact hw.same (fun b hb => fi b (by omega))
theorem RM.same {S S2 : sk_S} {d e : sk_D} {A : AS} (h : RM S d A) (hS : Sh S2) (f : Fr cls d e) : RM S2 e A := by
  have fi : ∀ b, ¬ cls b → e.1 b = d.1 b := fun b hb => f.i hb
  have fj : ∀ b, ¬ cls b → e.2 b = d.2 b := fun b hb => f.j hb
  unfold cls at fi fj
  obtain ⟨⟨_, hk, hm⟩, hp, ht, hf, hr, hi⟩ := h
  refine ⟨⟨hS, hk, by rw [fi 95 (by omega)]; exact hm⟩, by rw [fi 95 (by omega)]; exact hp, ?_, ?_, ?_, ?_⟩
  · unfold rmT; rw [fi 94 (by omega), fi 97 (by omega)]; exact ht
  · rw [fi 94 (by omega)]; exact hf
  · intro t h4
    have := hr t h4
    unfold mTr at this ⊢
    rw [fi 113 (by omega), fi 114 (by omega), fj 115 (by omega)]
    exact this
  · intro i h2
    have := hi i h2
    unfold mIm at this ⊢
    rw [fi 96 (by omega), fi 95 (by omega)]
    exact this
