/-! both constructors -/
def rX (a k : Nat) : Nat := if a = 40 then (if k = 3 then 41 else if k = 4 then 42 else if k = 5 then 43 else if k = 6 then 44 else 0) else rT a k
def mkS (n sl : Nat) (D : List (Nat × Nat)) : sk_S := ((n, sl), fun a => if a ≤ n then kT a else (99, 0), fun a k => if (a, k) ∈ D then rX a k else 0)
def fnd (E : List (Nat × Nat × Int32)) (a k : Nat) : Int32 := match E with
  | [] => 0
  | e :: E => if a = e.1 ∧ k = e.2.1 then e.2.2 else fnd E a k
def mkD (E : List (Nat × Nat × Int32)) : sk_D := (fnd E, fun _ _ => 0)
def bdD (n : Nat) (D : List (Nat × Nat)) (E : List (Nat × Nat × Int32)) : Prop := (∀ e ∈ D, e.1 ≤ n) ∧ ∀ e ∈ E, e.1 ≤ n
theorem bdD.up {n n' : Nat} {D : List (Nat × Nat)} {E : List (Nat × Nat × Int32)} (h : bdD n D E) (hn : n ≤ n') : bdD n' D E := ⟨fun e he => Nat.le_trans (h.1 e he) hn, fun e he => Nat.le_trans (h.2 e he) hn⟩
theorem bdD.r {n : Nat} {D : List (Nat × Nat)} {E : List (Nat × Nat × Int32)} (h : bdD n D E) (a k : Nat) (ha : a ≤ n) : bdD n ((a, k) :: D) E := ⟨fun e he => by
  rcases List.mem_cons.mp he with rfl | he
  · exact ha
  · exact h.1 e he, h.2⟩
theorem bdD.i {n : Nat} {D : List (Nat × Nat)} {E : List (Nat × Nat × Int32)} (h : bdD n D E) (a k : Nat) (v : Int32) (ha : a ≤ n) : bdD n D ((a, k, v) :: E) := ⟨h.1, fun e he => by
  rcases List.mem_cons.mp he with rfl | he
  · exact ha
  · exact h.2 e he⟩
theorem fnd_0 {n : Nat} : ∀ {E : List (Nat × Nat × Int32)}, (∀ e ∈ E, e.1 ≤ n) → ∀ k, fnd E (n + 1) k = 0
  | [], _, k => rfl
  | e :: E, h, k => by
    have h1 := h e List.mem_cons_self
    show (if n + 1 = e.1 ∧ k = e.2.1 then e.2.2 else fnd E (n + 1) k) = 0
    rw [if_neg (fun a => by omega)]
    exact fnd_0 (fun x hx => h x (List.mem_cons_of_mem _ hx)) k
theorem bs {α β : Type} {o : Option α} {f : α → Option β} {v : α} {x : Option β} (h : o = some v) (h2 : f v = x) : o.bind f = x := by rw [h, Option.bind_some]; exact h2
section
variable {n n' sl sl' : Nat} {D : List (Nat × Nat)} {E : List (Nat × Nat × Int32)}
theorem i_nS (b : bdD n D E) (hn : n + 1 = n') {t l s : Nat} (hk : kT n' = (t, l)) (hs : sl + s = sl') : sk_nS (mkS n sl D) t l s = mkS n' sl' D := by
  subst hn
  subst hs
  refine Prod.ext rfl (Prod.ext (funext fun a => ?_) (funext fun c => funext fun j => ?_))
  · show (if a = n + 1 then (t, l) else if a ≤ n then kT a else (99, 0)) = if a ≤ n + 1 then kT a else (99, 0)
    by_cases e : a = n + 1
    · rw [if_pos e, if_pos (by omega), e, hk]
    · rw [if_neg e]
      by_cases e2 : a ≤ n
      · rw [if_pos e2, if_pos (by omega)]
      · rw [if_neg e2, if_neg (by omega)]
  · show (if c = n + 1 then 0 else if (c, j) ∈ D then rX c j else 0) = if (c, j) ∈ D then rX c j else 0
    by_cases e : c = n + 1
    · rw [if_pos e, if_neg (fun a => by have : c ≤ n := b.1 (c, j) a; omega)]
    · rw [if_neg e]
theorem i_nD (b : bdD n D E) : sk_nD (mkS n sl D) (mkD E) = mkD E := by
  refine Prod.ext (funext fun c => funext fun j => ?_) (funext fun c => funext fun j => ?_)
  · show (if c = n + 1 then 0 else fnd E c j) = fnd E c j
    by_cases e : c = n + 1
    · rw [if_pos e, e, fnd_0 b.2]
    · rw [if_neg e]
  · show (if c = n + 1 then 0 else (0 : Int64)) = 0
    split <;> rfl
theorem i_mk (b : bdD n D E) (hn : n + 1 = n') {t m : Nat} {N : Int32} (hk : kT n' = (t, m)) (h1 : ¬ N < 0) (h2 : N.toNatClampNeg = m) (h3 : m ≤ 67108864) (hs : sl + m = sl') : sk_mk (mkS n sl D) (mkD E) t N = some (n', mkS n' sl' D, mkD E) := by
  unfold sk_mk
  rw [h2, if_pos ⟨h1, h3⟩, i_nS b hn hk hs, i_nD b]
  subst hn
  rfl
theorem i_kd {a : Nat} (hn : a ≤ n) : (mkS n sl D).2.1 a = kT a := if_pos hn
theorem i_pR {a c k r : Nat} (hn : a ≤ n) (ha : kT a = (c, 0)) (hr : r ≠ 0) (hx : rX a k = r) : sk_pR (mkS n sl D) a c k r = some (mkS n sl ((a, k) :: D)) := by
  unfold sk_pR
  rw [i_kd hn, if_pos ⟨ha, hr⟩]
  refine congrArg some (Prod.ext rfl (Prod.ext rfl (funext fun b => funext fun j => ?_)))
  show (if b = a ∧ j = k then r else if (b, j) ∈ D then rX b j else 0) = if (b, j) ∈ (a, k) :: D then rX b j else 0
  by_cases e : b = a ∧ j = k
  · rw [if_pos e, e.1, e.2, if_pos List.mem_cons_self, hx]
  · rw [if_neg e]
    by_cases e2 : (b, j) ∈ D
    · rw [if_pos e2, if_pos (List.mem_cons_of_mem _ e2)]
    · rw [if_neg e2, if_neg (fun h => by
        rcases List.mem_cons.mp h with h | h
        · exact e ⟨congrArg Prod.fst h, congrArg Prod.snd h⟩
        · exact e2 h)]
theorem i_uI (E : List (Nat × Nat × Int32)) (a k : Nat) (v : Int32) : sk_uI (mkD E) a k v = mkD ((a, k, v) :: E) := rfl
theorem i_pI {a c k : Nat} {v : Int32} (hn : a ≤ n) (ha : kT a = (c, 0)) : sk_pI (mkS n sl D) (mkD E) a c k v = some (mkD ((a, k, v) :: E)) := by
  unfold sk_pI
  rw [i_kd hn, if_pos ha, i_uI]
theorem i_gR {a c k r : Nat} (hn : a ≤ n) (ha : kT a = (c, 0)) (hm : (a, k) ∈ D) (hx : rX a k = r) (hr : r ≠ 0) : sk_gR (mkS n sl D) a c k = some r := by
  unfold sk_gR
  have e : (mkS n sl D).2.2 a k = r := (if_pos hm).trans hx
  rw [i_kd hn, e, if_pos ⟨ha, hr⟩]
theorem i_sI {a i len : Nat} {I v : Int32} (hn : a ≤ n) (ha : kT a = (20, len)) (h1 : ¬ (I < 0 ∨ len ≤ I.toNatClampNeg)) (h2 : I.toNatClampNeg = i) : sk_sI (mkS n sl D) (mkD E) a 20 I v = some (mkD ((a, i, v) :: E)) := by
  unfold sk_sI
  rw [i_kd hn, ha, if_pos ⟨rfl, h1⟩, h2, i_uI]
theorem i_uR {a k r : Nat} (hx : rX a k = r) : sk_uR (mkS n sl D) a k r = mkS n sl ((a, k) :: D) := by
  refine Prod.ext rfl (Prod.ext rfl (funext fun b => funext fun j => ?_))
  show (if b = a ∧ j = k then r else if (b, j) ∈ D then rX b j else 0) = if (b, j) ∈ (a, k) :: D then rX b j else 0
  by_cases e : b = a ∧ j = k
  · rw [if_pos e, e.1, e.2, if_pos List.mem_cons_self, hx]
  · rw [if_neg e]
    by_cases e2 : (b, j) ∈ D
    · rw [if_pos e2, if_pos (List.mem_cons_of_mem _ e2)]
    · rw [if_neg e2, if_neg (fun h => by
        rcases List.mem_cons.mp h with h | h
        · exact e ⟨congrArg Prod.fst h, congrArg Prod.snd h⟩
        · exact e2 h)]
theorem i_sR24 {a i r : Nat} {I : Int32} (hn : a ≤ n) (ha : kT a = (24, 4)) (h1 : ¬ (I < 0 ∨ 4 ≤ I.toNatClampNeg)) (h2 : I.toNatClampNeg = i) (hr : r ≤ n) (hk : kT r = (6, 0)) (hx : rX a i = r) : sk_sR24 (mkS n sl D) a I r = some (mkS n sl ((a, i) :: D)) := by
  unfold sk_sR24
  rw [i_kd hn, i_kd hr, ha, if_pos ⟨rfl, h1, hk⟩, h2, i_uR hx]
theorem i_sR25 {a i r : Nat} {I : Int32} (hn : a ≤ n) (ha : kT a = (25, 2)) (h1 : ¬ (I < 0 ∨ 2 ≤ I.toNatClampNeg)) (h2 : I.toNatClampNeg = i) (hr : r ≤ n) (hk : kT r = (2, 0)) (hx : rX a i = r) : sk_sR25 (mkS n sl D) a I r = some (mkS n sl ((a, i) :: D)) := by
  unfold sk_sR25
  rw [i_kd hn, i_kd hr, ha, if_pos ⟨rfl, h1, hk⟩, h2, i_uR hx]
end
section
variable {D : List (Nat × Nat)} {E : List (Nat × Nat × Int32)}
theorem i_X1_12 (b0 : bdD 11 D E) : fX1_init (sk_nS (mkS 11 94 D) 1 0 (sk_N 1)) (sk_nD (mkS 11 94 D) (mkD E)) 12 = some (mkS 14 1061 ((12, 1) :: (12, 0) :: D), mkD ((12, 2, 0) :: E)) ∧ bdD 14 ((12, 1) :: (12, 0) :: D) ((12, 2, 0) :: E) := by
  have b1 := b0.up (n' := 12) (by decide)
  have b2 := b1.up (n' := 13) (by decide)
  have b3 := b2.r 12 0 (by decide)
  have b4 := b3.up (n' := 14) (by decide)
  have b5 := b4.r 12 1 (by decide)
  have b6 := b5.i 12 2 (0) (by decide)
  refine ⟨?_, b6⟩
  rw [i_nS b0 (n' := 12) (sl' := 97) rfl (by decide) rfl, i_nD b0]
  unfold fX1_init
  refine bs (i_mk b1 (n' := 13) (sl' := 997) (m := 900) rfl (by decide) (by decide +kernel) (by decide +kernel) (by decide) rfl) ?_
  refine bs (i_pR (a := 12) (k := 0) (r := 13) (by decide) (by decide) (by decide) (by decide)) ?_
  refine bs (i_mk b3 (n' := 14) (sl' := 1061) (m := 64) rfl (by decide) (by decide +kernel) (by decide +kernel) (by decide) rfl) ?_
  refine bs (i_pR (a := 12) (k := 1) (r := 14) (by decide) (by decide) (by decide) (by decide)) ?_
  refine bs (i_pI (a := 12) (k := 2) (v := 0) (by decide) (by decide)) ?_
  rfl
theorem i_X1_15 (b0 : bdD 14 D E) : fX1_init (sk_nS (mkS 14 1061 D) 1 0 (sk_N 1)) (sk_nD (mkS 14 1061 D) (mkD E)) 15 = some (mkS 17 2028 ((15, 1) :: (15, 0) :: D), mkD ((15, 2, 0) :: E)) ∧ bdD 17 ((15, 1) :: (15, 0) :: D) ((15, 2, 0) :: E) := by
  have b1 := b0.up (n' := 15) (by decide)
  have b2 := b1.up (n' := 16) (by decide)
  have b3 := b2.r 15 0 (by decide)
  have b4 := b3.up (n' := 17) (by decide)
  have b5 := b4.r 15 1 (by decide)
  have b6 := b5.i 15 2 (0) (by decide)
  refine ⟨?_, b6⟩
  rw [i_nS b0 (n' := 15) (sl' := 1064) rfl (by decide) rfl, i_nD b0]
  unfold fX1_init
  refine bs (i_mk b1 (n' := 16) (sl' := 1964) (m := 900) rfl (by decide) (by decide +kernel) (by decide +kernel) (by decide) rfl) ?_
  refine bs (i_pR (a := 15) (k := 0) (r := 16) (by decide) (by decide) (by decide) (by decide)) ?_
  refine bs (i_mk b3 (n' := 17) (sl' := 2028) (m := 64) rfl (by decide) (by decide +kernel) (by decide +kernel) (by decide) rfl) ?_
  refine bs (i_pR (a := 15) (k := 1) (r := 17) (by decide) (by decide) (by decide) (by decide)) ?_
  refine bs (i_pI (a := 15) (k := 2) (v := 0) (by decide) (by decide)) ?_
  rfl
theorem i_X2_3 (b0 : bdD 2 D E) : fX2_init (sk_nS (mkS 2 15 D) 2 0 (sk_N 2)) (sk_nD (mkS 2 15 D) (mkD E)) 3 = some (mkS 17 2028 ((3, 14) :: (15, 1) :: (15, 0) :: (3, 13) :: (12, 1) :: (12, 0) :: (3, 12) :: (3, 11) :: (3, 10) :: (3, 9) :: (3, 8) :: (3, 7) :: (3, 6) :: (3, 5) :: D), mkD ((15, 2, 0) :: (12, 2, 0) :: (3, 4, 0) :: (3, 3, 0) :: (3, 2, 0) :: (3, 1, 0) :: (3, 0, 0) :: E)) ∧ bdD 17 ((3, 14) :: (15, 1) :: (15, 0) :: (3, 13) :: (12, 1) :: (12, 0) :: (3, 12) :: (3, 11) :: (3, 10) :: (3, 9) :: (3, 8) :: (3, 7) :: (3, 6) :: (3, 5) :: D) ((15, 2, 0) :: (12, 2, 0) :: (3, 4, 0) :: (3, 3, 0) :: (3, 2, 0) :: (3, 1, 0) :: (3, 0, 0) :: E) := by
  have b1 := b0.up (n' := 3) (by decide)
  have b2 := b1.i 3 0 (0) (by decide)
  have b3 := b2.i 3 1 (0) (by decide)
  have b4 := b3.i 3 2 (0) (by decide)
  have b5 := b4.i 3 3 (0) (by decide)
  have b6 := b5.i 3 4 (0) (by decide)
  have b7 := b6.up (n' := 4) (by decide)
  have b8 := b7.r 3 5 (by decide)
  have b9 := b8.up (n' := 5) (by decide)
  have b10 := b9.r 3 6 (by decide)
  have b11 := b10.up (n' := 6) (by decide)
  have b12 := b11.r 3 7 (by decide)
  have b13 := b12.up (n' := 7) (by decide)
  have b14 := b13.r 3 8 (by decide)
  have b15 := b14.up (n' := 8) (by decide)
  have b16 := b15.r 3 9 (by decide)
  have b17 := b16.up (n' := 9) (by decide)
  have b18 := b17.r 3 10 (by decide)
  have b19 := b18.up (n' := 10) (by decide)
  have b20 := b19.r 3 11 (by decide)
  have b21 := b20.up (n' := 11) (by decide)
  have b22 := b21.r 3 12 (by decide)
  obtain ⟨c22, b23⟩ := i_X1_12 b22
  have b24 := b23.r 3 13 (by decide)
  obtain ⟨c24, b25⟩ := i_X1_15 b24
  have b26 := b25.r 3 14 (by decide)
  refine ⟨?_, b26⟩
  rw [i_nS b0 (n' := 3) (sl' := 30) rfl (by decide) rfl, i_nD b0]
  unfold fX2_init
  refine bs (i_pI (a := 3) (k := 0) (v := 0) (by decide) (by decide)) ?_
  refine bs (i_pI (a := 3) (k := 1) (v := 0) (by decide) (by decide)) ?_
  refine bs (i_pI (a := 3) (k := 2) (v := 0) (by decide) (by decide)) ?_
  refine bs (i_pI (a := 3) (k := 3) (v := 0) (by decide) (by decide)) ?_
  refine bs (i_pI (a := 3) (k := 4) (v := 0) (by decide) (by decide)) ?_
  refine bs (i_mk b6 (n' := 4) (sl' := 38) (m := 8) rfl (by decide) (by decide +kernel) (by decide +kernel) (by decide) rfl) ?_
  refine bs (i_pR (a := 3) (k := 5) (r := 4) (by decide) (by decide) (by decide) (by decide)) ?_
  refine bs (i_mk b8 (n' := 5) (sl' := 46) (m := 8) rfl (by decide) (by decide +kernel) (by decide +kernel) (by decide) rfl) ?_
  refine bs (i_pR (a := 3) (k := 6) (r := 5) (by decide) (by decide) (by decide) (by decide)) ?_
  refine bs (i_mk b10 (n' := 6) (sl' := 54) (m := 8) rfl (by decide) (by decide +kernel) (by decide +kernel) (by decide) rfl) ?_
  refine bs (i_pR (a := 3) (k := 7) (r := 6) (by decide) (by decide) (by decide) (by decide)) ?_
  refine bs (i_mk b12 (n' := 7) (sl' := 62) (m := 8) rfl (by decide) (by decide +kernel) (by decide +kernel) (by decide) rfl) ?_
  refine bs (i_pR (a := 3) (k := 8) (r := 7) (by decide) (by decide) (by decide) (by decide)) ?_
  refine bs (i_mk b14 (n' := 8) (sl' := 70) (m := 8) rfl (by decide) (by decide +kernel) (by decide +kernel) (by decide) rfl) ?_
  refine bs (i_pR (a := 3) (k := 9) (r := 8) (by decide) (by decide) (by decide) (by decide)) ?_
  refine bs (i_mk b16 (n' := 9) (sl' := 78) (m := 8) rfl (by decide) (by decide +kernel) (by decide +kernel) (by decide) rfl) ?_
  refine bs (i_pR (a := 3) (k := 10) (r := 9) (by decide) (by decide) (by decide) (by decide)) ?_
  refine bs (i_mk b18 (n' := 10) (sl' := 86) (m := 8) rfl (by decide) (by decide +kernel) (by decide +kernel) (by decide) rfl) ?_
  refine bs (i_pR (a := 3) (k := 11) (r := 10) (by decide) (by decide) (by decide) (by decide)) ?_
  refine bs (i_mk b20 (n' := 11) (sl' := 94) (m := 8) rfl (by decide) (by decide +kernel) (by decide +kernel) (by decide) rfl) ?_
  refine bs (i_pR (a := 3) (k := 12) (r := 11) (by decide) (by decide) (by decide) (by decide)) ?_
  refine bs c22 ?_
  refine bs (i_pR (a := 3) (k := 13) (r := 12) (by decide) (by decide) (by decide) (by decide)) ?_
  refine bs c24 ?_
  refine bs (i_pR (a := 3) (k := 14) (r := 15) (by decide) (by decide) (by decide) (by decide)) ?_
  rfl
theorem i_X9_2 (b0 : bdD 1 D E) : fX9_init (sk_nS (mkS 1 11 D) 8 0 (sk_N 8)) (sk_nD (mkS 1 11 D) (mkD E)) 2 = some (mkS 20 6130 ((2, 3) :: (2, 2) :: (2, 1) :: (2, 0) :: (3, 14) :: (15, 1) :: (15, 0) :: (3, 13) :: (12, 1) :: (12, 0) :: (3, 12) :: (3, 11) :: (3, 10) :: (3, 9) :: (3, 8) :: (3, 7) :: (3, 6) :: (3, 5) :: D), mkD ((15, 2, 0) :: (12, 2, 0) :: (3, 4, 0) :: (3, 3, 0) :: (3, 2, 0) :: (3, 1, 0) :: (3, 0, 0) :: E)) ∧ bdD 20 ((2, 3) :: (2, 2) :: (2, 1) :: (2, 0) :: (3, 14) :: (15, 1) :: (15, 0) :: (3, 13) :: (12, 1) :: (12, 0) :: (3, 12) :: (3, 11) :: (3, 10) :: (3, 9) :: (3, 8) :: (3, 7) :: (3, 6) :: (3, 5) :: D) ((15, 2, 0) :: (12, 2, 0) :: (3, 4, 0) :: (3, 3, 0) :: (3, 2, 0) :: (3, 1, 0) :: (3, 0, 0) :: E) := by
  have b1 := b0.up (n' := 2) (by decide)
  obtain ⟨c1, b2⟩ := i_X2_3 b1
  have b3 := b2.r 2 0 (by decide)
  have b4 := b3.up (n' := 18) (by decide)
  have b5 := b4.r 2 1 (by decide)
  have b6 := b5.up (n' := 19) (by decide)
  have b7 := b6.r 2 2 (by decide)
  have b8 := b7.up (n' := 20) (by decide)
  have b9 := b8.r 2 3 (by decide)
  refine ⟨?_, b9⟩
  rw [i_nS b0 (n' := 2) (sl' := 15) rfl (by decide) rfl, i_nD b0]
  unfold fX9_init
  refine bs c1 ?_
  refine bs (i_pR (a := 2) (k := 0) (r := 3) (by decide) (by decide) (by decide) (by decide)) ?_
  refine bs (i_mk b3 (n' := 18) (sl' := 4076) (m := 2048) rfl (by decide) (by decide +kernel) (by decide +kernel) (by decide) rfl) ?_
  refine bs (i_pR (a := 2) (k := 1) (r := 18) (by decide) (by decide) (by decide) (by decide)) ?_
  refine bs (i_mk b5 (n' := 19) (sl' := 6124) (m := 2048) rfl (by decide) (by decide +kernel) (by decide +kernel) (by decide) rfl) ?_
  refine bs (i_pR (a := 2) (k := 2) (r := 19) (by decide) (by decide) (by decide) (by decide)) ?_
  refine bs (i_mk b7 (n' := 20) (sl' := 6130) (m := 6) rfl (by decide) (by decide +kernel) (by decide +kernel) (by decide) rfl) ?_
  refine bs (i_pR (a := 2) (k := 3) (r := 20) (by decide) (by decide) (by decide) (by decide)) ?_
  rfl
theorem i_X1_31 (b0 : bdD 30 D E) : fX1_init (sk_nS (mkS 30 6218 D) 1 0 (sk_N 1)) (sk_nD (mkS 30 6218 D) (mkD E)) 31 = some (mkS 33 7185 ((31, 1) :: (31, 0) :: D), mkD ((31, 2, 0) :: E)) ∧ bdD 33 ((31, 1) :: (31, 0) :: D) ((31, 2, 0) :: E) := by
  have b1 := b0.up (n' := 31) (by decide)
  have b2 := b1.up (n' := 32) (by decide)
  have b3 := b2.r 31 0 (by decide)
  have b4 := b3.up (n' := 33) (by decide)
  have b5 := b4.r 31 1 (by decide)
  have b6 := b5.i 31 2 (0) (by decide)
  refine ⟨?_, b6⟩
  rw [i_nS b0 (n' := 31) (sl' := 6221) rfl (by decide) rfl, i_nD b0]
  unfold fX1_init
  refine bs (i_mk b1 (n' := 32) (sl' := 7121) (m := 900) rfl (by decide) (by decide +kernel) (by decide +kernel) (by decide) rfl) ?_
  refine bs (i_pR (a := 31) (k := 0) (r := 32) (by decide) (by decide) (by decide) (by decide)) ?_
  refine bs (i_mk b3 (n' := 33) (sl' := 7185) (m := 64) rfl (by decide) (by decide +kernel) (by decide +kernel) (by decide) rfl) ?_
  refine bs (i_pR (a := 31) (k := 1) (r := 33) (by decide) (by decide) (by decide) (by decide)) ?_
  refine bs (i_pI (a := 31) (k := 2) (v := 0) (by decide) (by decide)) ?_
  rfl
theorem i_X1_34 (b0 : bdD 33 D E) : fX1_init (sk_nS (mkS 33 7185 D) 1 0 (sk_N 1)) (sk_nD (mkS 33 7185 D) (mkD E)) 34 = some (mkS 36 8152 ((34, 1) :: (34, 0) :: D), mkD ((34, 2, 0) :: E)) ∧ bdD 36 ((34, 1) :: (34, 0) :: D) ((34, 2, 0) :: E) := by
  have b1 := b0.up (n' := 34) (by decide)
  have b2 := b1.up (n' := 35) (by decide)
  have b3 := b2.r 34 0 (by decide)
  have b4 := b3.up (n' := 36) (by decide)
  have b5 := b4.r 34 1 (by decide)
  have b6 := b5.i 34 2 (0) (by decide)
  refine ⟨?_, b6⟩
  rw [i_nS b0 (n' := 34) (sl' := 7188) rfl (by decide) rfl, i_nD b0]
  unfold fX1_init
  refine bs (i_mk b1 (n' := 35) (sl' := 8088) (m := 900) rfl (by decide) (by decide +kernel) (by decide +kernel) (by decide) rfl) ?_
  refine bs (i_pR (a := 34) (k := 0) (r := 35) (by decide) (by decide) (by decide) (by decide)) ?_
  refine bs (i_mk b3 (n' := 36) (sl' := 8152) (m := 64) rfl (by decide) (by decide +kernel) (by decide +kernel) (by decide) rfl) ?_
  refine bs (i_pR (a := 34) (k := 1) (r := 36) (by decide) (by decide) (by decide) (by decide)) ?_
  refine bs (i_pI (a := 34) (k := 2) (v := 0) (by decide) (by decide)) ?_
  rfl
theorem i_X2_22 (b0 : bdD 21 D E) : fX2_init (sk_nS (mkS 21 6139 D) 2 0 (sk_N 2)) (sk_nD (mkS 21 6139 D) (mkD E)) 22 = some (mkS 36 8152 ((22, 14) :: (34, 1) :: (34, 0) :: (22, 13) :: (31, 1) :: (31, 0) :: (22, 12) :: (22, 11) :: (22, 10) :: (22, 9) :: (22, 8) :: (22, 7) :: (22, 6) :: (22, 5) :: D), mkD ((34, 2, 0) :: (31, 2, 0) :: (22, 4, 0) :: (22, 3, 0) :: (22, 2, 0) :: (22, 1, 0) :: (22, 0, 0) :: E)) ∧ bdD 36 ((22, 14) :: (34, 1) :: (34, 0) :: (22, 13) :: (31, 1) :: (31, 0) :: (22, 12) :: (22, 11) :: (22, 10) :: (22, 9) :: (22, 8) :: (22, 7) :: (22, 6) :: (22, 5) :: D) ((34, 2, 0) :: (31, 2, 0) :: (22, 4, 0) :: (22, 3, 0) :: (22, 2, 0) :: (22, 1, 0) :: (22, 0, 0) :: E) := by
  have b1 := b0.up (n' := 22) (by decide)
  have b2 := b1.i 22 0 (0) (by decide)
  have b3 := b2.i 22 1 (0) (by decide)
  have b4 := b3.i 22 2 (0) (by decide)
  have b5 := b4.i 22 3 (0) (by decide)
  have b6 := b5.i 22 4 (0) (by decide)
  have b7 := b6.up (n' := 23) (by decide)
  have b8 := b7.r 22 5 (by decide)
  have b9 := b8.up (n' := 24) (by decide)
  have b10 := b9.r 22 6 (by decide)
  have b11 := b10.up (n' := 25) (by decide)
  have b12 := b11.r 22 7 (by decide)
  have b13 := b12.up (n' := 26) (by decide)
  have b14 := b13.r 22 8 (by decide)
  have b15 := b14.up (n' := 27) (by decide)
  have b16 := b15.r 22 9 (by decide)
  have b17 := b16.up (n' := 28) (by decide)
  have b18 := b17.r 22 10 (by decide)
  have b19 := b18.up (n' := 29) (by decide)
  have b20 := b19.r 22 11 (by decide)
  have b21 := b20.up (n' := 30) (by decide)
  have b22 := b21.r 22 12 (by decide)
  obtain ⟨c22, b23⟩ := i_X1_31 b22
  have b24 := b23.r 22 13 (by decide)
  obtain ⟨c24, b25⟩ := i_X1_34 b24
  have b26 := b25.r 22 14 (by decide)
  refine ⟨?_, b26⟩
  rw [i_nS b0 (n' := 22) (sl' := 6154) rfl (by decide) rfl, i_nD b0]
  unfold fX2_init
  refine bs (i_pI (a := 22) (k := 0) (v := 0) (by decide) (by decide)) ?_
  refine bs (i_pI (a := 22) (k := 1) (v := 0) (by decide) (by decide)) ?_
  refine bs (i_pI (a := 22) (k := 2) (v := 0) (by decide) (by decide)) ?_
  refine bs (i_pI (a := 22) (k := 3) (v := 0) (by decide) (by decide)) ?_
  refine bs (i_pI (a := 22) (k := 4) (v := 0) (by decide) (by decide)) ?_
  refine bs (i_mk b6 (n' := 23) (sl' := 6162) (m := 8) rfl (by decide) (by decide +kernel) (by decide +kernel) (by decide) rfl) ?_
  refine bs (i_pR (a := 22) (k := 5) (r := 23) (by decide) (by decide) (by decide) (by decide)) ?_
  refine bs (i_mk b8 (n' := 24) (sl' := 6170) (m := 8) rfl (by decide) (by decide +kernel) (by decide +kernel) (by decide) rfl) ?_
  refine bs (i_pR (a := 22) (k := 6) (r := 24) (by decide) (by decide) (by decide) (by decide)) ?_
  refine bs (i_mk b10 (n' := 25) (sl' := 6178) (m := 8) rfl (by decide) (by decide +kernel) (by decide +kernel) (by decide) rfl) ?_
  refine bs (i_pR (a := 22) (k := 7) (r := 25) (by decide) (by decide) (by decide) (by decide)) ?_
  refine bs (i_mk b12 (n' := 26) (sl' := 6186) (m := 8) rfl (by decide) (by decide +kernel) (by decide +kernel) (by decide) rfl) ?_
  refine bs (i_pR (a := 22) (k := 8) (r := 26) (by decide) (by decide) (by decide) (by decide)) ?_
  refine bs (i_mk b14 (n' := 27) (sl' := 6194) (m := 8) rfl (by decide) (by decide +kernel) (by decide +kernel) (by decide) rfl) ?_
  refine bs (i_pR (a := 22) (k := 9) (r := 27) (by decide) (by decide) (by decide) (by decide)) ?_
  refine bs (i_mk b16 (n' := 28) (sl' := 6202) (m := 8) rfl (by decide) (by decide +kernel) (by decide +kernel) (by decide) rfl) ?_
  refine bs (i_pR (a := 22) (k := 10) (r := 28) (by decide) (by decide) (by decide) (by decide)) ?_
  refine bs (i_mk b18 (n' := 29) (sl' := 6210) (m := 8) rfl (by decide) (by decide +kernel) (by decide +kernel) (by decide) rfl) ?_
  refine bs (i_pR (a := 22) (k := 11) (r := 29) (by decide) (by decide) (by decide) (by decide)) ?_
  refine bs (i_mk b20 (n' := 30) (sl' := 6218) (m := 8) rfl (by decide) (by decide +kernel) (by decide +kernel) (by decide) rfl) ?_
  refine bs (i_pR (a := 22) (k := 12) (r := 30) (by decide) (by decide) (by decide) (by decide)) ?_
  refine bs c22 ?_
  refine bs (i_pR (a := 22) (k := 13) (r := 31) (by decide) (by decide) (by decide) (by decide)) ?_
  refine bs c24 ?_
  refine bs (i_pR (a := 22) (k := 14) (r := 34) (by decide) (by decide) (by decide) (by decide)) ?_
  rfl
theorem i_X5_21 (b0 : bdD 20 D E) : fX5_init (sk_nS (mkS 20 6130 D) 5 0 (sk_N 5)) (sk_nD (mkS 20 6130 D) (mkD E)) 21 = some (mkS 39 10855 ((21, 5) :: (21, 4) :: (21, 3) :: (21, 0) :: (22, 14) :: (34, 1) :: (34, 0) :: (22, 13) :: (31, 1) :: (31, 0) :: (22, 12) :: (22, 11) :: (22, 10) :: (22, 9) :: (22, 8) :: (22, 7) :: (22, 6) :: (22, 5) :: D), mkD ((21, 8, 0) :: (21, 7, 0) :: (21, 6, 0) :: (21, 2, -1) :: (21, 1, 0) :: (34, 2, 0) :: (31, 2, 0) :: (22, 4, 0) :: (22, 3, 0) :: (22, 2, 0) :: (22, 1, 0) :: (22, 0, 0) :: E)) ∧ bdD 39 ((21, 5) :: (21, 4) :: (21, 3) :: (21, 0) :: (22, 14) :: (34, 1) :: (34, 0) :: (22, 13) :: (31, 1) :: (31, 0) :: (22, 12) :: (22, 11) :: (22, 10) :: (22, 9) :: (22, 8) :: (22, 7) :: (22, 6) :: (22, 5) :: D) ((21, 8, 0) :: (21, 7, 0) :: (21, 6, 0) :: (21, 2, -1) :: (21, 1, 0) :: (34, 2, 0) :: (31, 2, 0) :: (22, 4, 0) :: (22, 3, 0) :: (22, 2, 0) :: (22, 1, 0) :: (22, 0, 0) :: E) := by
  have b1 := b0.up (n' := 21) (by decide)
  obtain ⟨c1, b2⟩ := i_X2_22 b1
  have b3 := b2.r 21 0 (by decide)
  have b4 := b3.i 21 1 (0) (by decide)
  have b5 := b4.i 21 2 (-1) (by decide)
  have b6 := b5.up (n' := 37) (by decide)
  have b7 := b6.r 21 3 (by decide)
  have b8 := b7.up (n' := 38) (by decide)
  have b9 := b8.r 21 4 (by decide)
  have b10 := b9.up (n' := 39) (by decide)
  have b11 := b10.r 21 5 (by decide)
  have b12 := b11.i 21 6 (0) (by decide)
  have b13 := b12.i 21 7 (0) (by decide)
  have b14 := b13.i 21 8 (0) (by decide)
  refine ⟨?_, b14⟩
  rw [i_nS b0 (n' := 21) (sl' := 6139) rfl (by decide) rfl, i_nD b0]
  unfold fX5_init
  refine bs c1 ?_
  refine bs (i_pR (a := 21) (k := 0) (r := 22) (by decide) (by decide) (by decide) (by decide)) ?_
  refine bs (i_pI (a := 21) (k := 1) (v := 0) (by decide) (by decide)) ?_
  refine bs (i_pI (a := 21) (k := 2) (v := -1) (by decide) (by decide)) ?_
  refine bs (i_mk b5 (n' := 37) (sl' := 9053) (m := 901) rfl (by decide) (by decide +kernel) (by decide +kernel) (by decide) rfl) ?_
  refine bs (i_pR (a := 21) (k := 3) (r := 37) (by decide) (by decide) (by decide) (by decide)) ?_
  refine bs (i_mk b7 (n' := 38) (sl' := 9954) (m := 901) rfl (by decide) (by decide +kernel) (by decide +kernel) (by decide) rfl) ?_
  refine bs (i_pR (a := 21) (k := 4) (r := 38) (by decide) (by decide) (by decide) (by decide)) ?_
  refine bs (i_mk b9 (n' := 39) (sl' := 10855) (m := 901) rfl (by decide) (by decide +kernel) (by decide +kernel) (by decide) rfl) ?_
  refine bs (i_pR (a := 21) (k := 5) (r := 39) (by decide) (by decide) (by decide) (by decide)) ?_
  refine bs (i_pI (a := 21) (k := 6) (v := 0) (by decide) (by decide)) ?_
  refine bs (i_pI (a := 21) (k := 7) (v := 0) (by decide) (by decide)) ?_
  refine bs (i_pI (a := 21) (k := 8) (v := 0) (by decide) (by decide)) ?_
  rfl
theorem i_X8_40 (b0 : bdD 39 D E) : fX8_init (sk_nS (mkS 39 10855 D) 7 0 (sk_N 7)) (sk_nD (mkS 39 10855 D) (mkD E)) 40 = some (mkS 44 10866 ((40, 6) :: (40, 5) :: (40, 4) :: (40, 3) :: D), mkD ((40, 2, 0) :: (40, 1, -1) :: (40, 0, 0) :: E)) ∧ bdD 44 ((40, 6) :: (40, 5) :: (40, 4) :: (40, 3) :: D) ((40, 2, 0) :: (40, 1, -1) :: (40, 0, 0) :: E) := by
  have b1 := b0.up (n' := 40) (by decide)
  have b2 := b1.i 40 0 (0) (by decide)
  have b3 := b2.i 40 1 (-1) (by decide)
  have b4 := b3.i 40 2 (0) (by decide)
  have b5 := b4.up (n' := 41) (by decide)
  have b6 := b5.r 40 3 (by decide)
  have b7 := b6.up (n' := 42) (by decide)
  have b8 := b7.r 40 4 (by decide)
  have b9 := b8.up (n' := 43) (by decide)
  have b10 := b9.r 40 5 (by decide)
  have b11 := b10.up (n' := 44) (by decide)
  have b12 := b11.r 40 6 (by decide)
  refine ⟨?_, b12⟩
  rw [i_nS b0 (n' := 40) (sl' := 10862) rfl (by decide) rfl, i_nD b0]
  unfold fX8_init
  refine bs (i_pI (a := 40) (k := 0) (v := 0) (by decide) (by decide)) ?_
  refine bs (i_pI (a := 40) (k := 1) (v := -1) (by decide) (by decide)) ?_
  refine bs (i_pI (a := 40) (k := 2) (v := 0) (by decide) (by decide)) ?_
  refine bs (i_mk b4 (n' := 41) (sl' := 10863) (m := 1) rfl (by decide) (by decide +kernel) (by decide +kernel) (by decide) rfl) ?_
  refine bs (i_pR (a := 40) (k := 3) (r := 41) (by decide) (by decide) (by decide) (by decide)) ?_
  refine bs (i_mk b6 (n' := 42) (sl' := 10864) (m := 1) rfl (by decide) (by decide +kernel) (by decide +kernel) (by decide) rfl) ?_
  refine bs (i_pR (a := 40) (k := 4) (r := 42) (by decide) (by decide) (by decide) (by decide)) ?_
  refine bs (i_mk b8 (n' := 43) (sl' := 10865) (m := 1) rfl (by decide) (by decide +kernel) (by decide +kernel) (by decide) rfl) ?_
  refine bs (i_pR (a := 40) (k := 5) (r := 43) (by decide) (by decide) (by decide) (by decide)) ?_
  refine bs (i_mk b10 (n' := 44) (sl' := 10866) (m := 1) rfl (by decide) (by decide +kernel) (by decide +kernel) (by decide) rfl) ?_
  refine bs (i_pR (a := 40) (k := 6) (r := 44) (by decide) (by decide) (by decide) (by decide)) ?_
  rfl
theorem i_X3_45 (b0 : bdD 44 D E) : fX3_init (sk_nS (mkS 44 10866 D) 3 0 (sk_N 3)) (sk_nD (mkS 44 10866 D) (mkD E)) 45 = some (mkS 47 11133 ((45, 1) :: (45, 0) :: D), mkD ((45, 2, 0) :: E)) ∧ bdD 47 ((45, 1) :: (45, 0) :: D) ((45, 2, 0) :: E) := by
  have b1 := b0.up (n' := 45) (by decide)
  have b2 := b1.up (n' := 46) (by decide)
  have b3 := b2.r 45 0 (by decide)
  have b4 := b3.up (n' := 47) (by decide)
  have b5 := b4.r 45 1 (by decide)
  have b6 := b5.i 45 2 (0) (by decide)
  refine ⟨?_, b6⟩
  rw [i_nS b0 (n' := 45) (sl' := 10869) rfl (by decide) rfl, i_nD b0]
  unfold fX3_init
  refine bs (i_mk b1 (n' := 46) (sl' := 10877) (m := 8) rfl (by decide) (by decide +kernel) (by decide +kernel) (by decide) rfl) ?_
  refine bs (i_pR (a := 45) (k := 0) (r := 46) (by decide) (by decide) (by decide) (by decide)) ?_
  refine bs (i_mk b3 (n' := 47) (sl' := 11133) (m := 256) rfl (by decide) (by decide +kernel) (by decide +kernel) (by decide) rfl) ?_
  refine bs (i_pR (a := 45) (k := 1) (r := 47) (by decide) (by decide) (by decide) (by decide)) ?_
  refine bs (i_pI (a := 45) (k := 2) (v := 0) (by decide) (by decide)) ?_
  rfl
theorem i_X0_48 (b0 : bdD 47 D E) : fX0_init (sk_nS (mkS 47 11133 D) 0 0 (sk_N 0)) (sk_nD (mkS 47 11133 D) (mkD E)) 48 = some (mkS 49 11142 ((48, 0) :: D), mkD (E)) ∧ bdD 49 ((48, 0) :: D) (E) := by
  have b1 := b0.up (n' := 48) (by decide)
  have b2 := b1.up (n' := 49) (by decide)
  have b3 := b2.r 48 0 (by decide)
  refine ⟨?_, b3⟩
  rw [i_nS b0 (n' := 48) (sl' := 11134) rfl (by decide) rfl, i_nD b0]
  unfold fX0_init
  refine bs (i_mk b1 (n' := 49) (sl' := 11142) (m := 8) rfl (by decide) (by decide +kernel) (by decide +kernel) (by decide) rfl) ?_
  refine bs (i_pR (a := 48) (k := 0) (r := 49) (by decide) (by decide) (by decide) (by decide)) ?_
  rfl
theorem i_X4_50 (b0 : bdD 49 D E) : fX4_init (sk_nS (mkS 49 11142 D) 4 0 (sk_N 4)) (sk_nD (mkS 49 11142 D) (mkD E)) 50 = some (mkS 51 11155 ((50, 0) :: D), mkD ((50, 2, 0) :: (50, 1, 0) :: E)) ∧ bdD 51 ((50, 0) :: D) ((50, 2, 0) :: (50, 1, 0) :: E) := by
  have b1 := b0.up (n' := 50) (by decide)
  have b2 := b1.up (n' := 51) (by decide)
  have b3 := b2.r 50 0 (by decide)
  have b4 := b3.i 50 1 (0) (by decide)
  have b5 := b4.i 50 2 (0) (by decide)
  refine ⟨?_, b5⟩
  rw [i_nS b0 (n' := 50) (sl' := 11145) rfl (by decide) rfl, i_nD b0]
  unfold fX4_init
  refine bs (i_mk b1 (n' := 51) (sl' := 11155) (m := 10) rfl (by decide) (by decide +kernel) (by decide +kernel) (by decide) rfl) ?_
  refine bs (i_pR (a := 50) (k := 0) (r := 51) (by decide) (by decide) (by decide) (by decide)) ?_
  refine bs (i_pI (a := 50) (k := 1) (v := 0) (by decide) (by decide)) ?_
  refine bs (i_pI (a := 50) (k := 2) (v := 0) (by decide) (by decide)) ?_
  rfl
theorem i_X6_56 (b0 : bdD 55 D E) : fX6_init (sk_nS (mkS 55 12063 D) 6 0 (sk_N 6)) (sk_nD (mkS 55 12063 D) (mkD E)) 56 = some (mkS 57 12107 ((56, 0) :: D), mkD ((56, 3, 0) :: (56, 2, 0) :: (56, 1, 0) :: E)) ∧ bdD 57 ((56, 0) :: D) ((56, 3, 0) :: (56, 2, 0) :: (56, 1, 0) :: E) := by
  have b1 := b0.up (n' := 56) (by decide)
  have b2 := b1.up (n' := 57) (by decide)
  have b3 := b2.r 56 0 (by decide)
  have b4 := b3.i 56 1 (0) (by decide)
  have b5 := b4.i 56 2 (0) (by decide)
  have b6 := b5.i 56 3 (0) (by decide)
  refine ⟨?_, b6⟩
  rw [i_nS b0 (n' := 56) (sl' := 12067) rfl (by decide) rfl, i_nD b0]
  unfold fX6_init
  refine bs (i_mk b1 (n' := 57) (sl' := 12107) (m := 40) rfl (by decide) (by decide +kernel) (by decide +kernel) (by decide) rfl) ?_
  refine bs (i_pR (a := 56) (k := 0) (r := 57) (by decide) (by decide) (by decide) (by decide)) ?_
  refine bs (i_pI (a := 56) (k := 1) (v := 0) (by decide) (by decide)) ?_
  refine bs (i_pI (a := 56) (k := 2) (v := 0) (by decide) (by decide)) ?_
  refine bs (i_pI (a := 56) (k := 3) (v := 0) (by decide) (by decide)) ?_
  rfl
theorem i_X10_init_L109_0 (b0 : bdD 55 D E) (h1_6 : (1, 6) ∈ D) : fX10_init_L109 1 ((0 : Int32), mkS 55 12063 D, mkD E) = some (.inl ((1 : Int32), mkS 57 12107 ((52, 0) :: (56, 0) :: D), mkD ((56, 3, 0) :: (56, 2, 0) :: (56, 1, 0) :: E))) ∧ bdD 57 ((52, 0) :: (56, 0) :: D) ((56, 3, 0) :: (56, 2, 0) :: (56, 1, 0) :: E) := by
  obtain ⟨c0, b1⟩ := i_X6_56 b0
  have b2 := b1.r 52 0 (by decide)
  refine ⟨?_, b2⟩
  unfold fX10_init_L109
  rw [if_neg (show ¬ (4 : Int32) ≤ ((0 : Int32), mkS 55 12063 D, mkD E).1 from (by decide +kernel : ¬ (4 : Int32) ≤ (0 : Int32)))]
  refine bs (i_gR (a := 1) (k := 6) (r := 52) (by decide) (by decide) h1_6 (by decide) (by decide)) ?_
  refine bs c0 ?_
  refine bs (i_sR24 (a := 52) (i := 0) (I := (0 : Int32)) (r := 56) (by decide) (by decide) (by decide +kernel) (by decide +kernel) (by decide) (by decide) (by decide)) ?_
  show some (Sum.inl ((0 : Int32) + 1, _, _)) = _
  rw [show (0 : Int32) + 1 = 1 from by decide +kernel]
theorem i_X6_58 (b0 : bdD 57 D E) : fX6_init (sk_nS (mkS 57 12107 D) 6 0 (sk_N 6)) (sk_nD (mkS 57 12107 D) (mkD E)) 58 = some (mkS 59 12151 ((58, 0) :: D), mkD ((58, 3, 0) :: (58, 2, 0) :: (58, 1, 0) :: E)) ∧ bdD 59 ((58, 0) :: D) ((58, 3, 0) :: (58, 2, 0) :: (58, 1, 0) :: E) := by
  have b1 := b0.up (n' := 58) (by decide)
  have b2 := b1.up (n' := 59) (by decide)
  have b3 := b2.r 58 0 (by decide)
  have b4 := b3.i 58 1 (0) (by decide)
  have b5 := b4.i 58 2 (0) (by decide)
  have b6 := b5.i 58 3 (0) (by decide)
  refine ⟨?_, b6⟩
  rw [i_nS b0 (n' := 58) (sl' := 12111) rfl (by decide) rfl, i_nD b0]
  unfold fX6_init
  refine bs (i_mk b1 (n' := 59) (sl' := 12151) (m := 40) rfl (by decide) (by decide +kernel) (by decide +kernel) (by decide) rfl) ?_
  refine bs (i_pR (a := 58) (k := 0) (r := 59) (by decide) (by decide) (by decide) (by decide)) ?_
  refine bs (i_pI (a := 58) (k := 1) (v := 0) (by decide) (by decide)) ?_
  refine bs (i_pI (a := 58) (k := 2) (v := 0) (by decide) (by decide)) ?_
  refine bs (i_pI (a := 58) (k := 3) (v := 0) (by decide) (by decide)) ?_
  rfl
theorem i_X10_init_L109_1 (b0 : bdD 57 D E) (h1_6 : (1, 6) ∈ D) : fX10_init_L109 1 ((1 : Int32), mkS 57 12107 D, mkD E) = some (.inl ((2 : Int32), mkS 59 12151 ((52, 1) :: (58, 0) :: D), mkD ((58, 3, 0) :: (58, 2, 0) :: (58, 1, 0) :: E))) ∧ bdD 59 ((52, 1) :: (58, 0) :: D) ((58, 3, 0) :: (58, 2, 0) :: (58, 1, 0) :: E) := by
  obtain ⟨c0, b1⟩ := i_X6_58 b0
  have b2 := b1.r 52 1 (by decide)
  refine ⟨?_, b2⟩
  unfold fX10_init_L109
  rw [if_neg (show ¬ (4 : Int32) ≤ ((1 : Int32), mkS 57 12107 D, mkD E).1 from (by decide +kernel : ¬ (4 : Int32) ≤ (1 : Int32)))]
  refine bs (i_gR (a := 1) (k := 6) (r := 52) (by decide) (by decide) h1_6 (by decide) (by decide)) ?_
  refine bs c0 ?_
  refine bs (i_sR24 (a := 52) (i := 1) (I := (1 : Int32)) (r := 58) (by decide) (by decide) (by decide +kernel) (by decide +kernel) (by decide) (by decide) (by decide)) ?_
  show some (Sum.inl ((1 : Int32) + 1, _, _)) = _
  rw [show (1 : Int32) + 1 = 2 from by decide +kernel]
theorem i_X6_60 (b0 : bdD 59 D E) : fX6_init (sk_nS (mkS 59 12151 D) 6 0 (sk_N 6)) (sk_nD (mkS 59 12151 D) (mkD E)) 60 = some (mkS 61 12195 ((60, 0) :: D), mkD ((60, 3, 0) :: (60, 2, 0) :: (60, 1, 0) :: E)) ∧ bdD 61 ((60, 0) :: D) ((60, 3, 0) :: (60, 2, 0) :: (60, 1, 0) :: E) := by
  have b1 := b0.up (n' := 60) (by decide)
  have b2 := b1.up (n' := 61) (by decide)
  have b3 := b2.r 60 0 (by decide)
  have b4 := b3.i 60 1 (0) (by decide)
  have b5 := b4.i 60 2 (0) (by decide)
  have b6 := b5.i 60 3 (0) (by decide)
  refine ⟨?_, b6⟩
  rw [i_nS b0 (n' := 60) (sl' := 12155) rfl (by decide) rfl, i_nD b0]
  unfold fX6_init
  refine bs (i_mk b1 (n' := 61) (sl' := 12195) (m := 40) rfl (by decide) (by decide +kernel) (by decide +kernel) (by decide) rfl) ?_
  refine bs (i_pR (a := 60) (k := 0) (r := 61) (by decide) (by decide) (by decide) (by decide)) ?_
  refine bs (i_pI (a := 60) (k := 1) (v := 0) (by decide) (by decide)) ?_
  refine bs (i_pI (a := 60) (k := 2) (v := 0) (by decide) (by decide)) ?_
  refine bs (i_pI (a := 60) (k := 3) (v := 0) (by decide) (by decide)) ?_
  rfl
theorem i_X10_init_L109_2 (b0 : bdD 59 D E) (h1_6 : (1, 6) ∈ D) : fX10_init_L109 1 ((2 : Int32), mkS 59 12151 D, mkD E) = some (.inl ((3 : Int32), mkS 61 12195 ((52, 2) :: (60, 0) :: D), mkD ((60, 3, 0) :: (60, 2, 0) :: (60, 1, 0) :: E))) ∧ bdD 61 ((52, 2) :: (60, 0) :: D) ((60, 3, 0) :: (60, 2, 0) :: (60, 1, 0) :: E) := by
  obtain ⟨c0, b1⟩ := i_X6_60 b0
  have b2 := b1.r 52 2 (by decide)
  refine ⟨?_, b2⟩
  unfold fX10_init_L109
  rw [if_neg (show ¬ (4 : Int32) ≤ ((2 : Int32), mkS 59 12151 D, mkD E).1 from (by decide +kernel : ¬ (4 : Int32) ≤ (2 : Int32)))]
  refine bs (i_gR (a := 1) (k := 6) (r := 52) (by decide) (by decide) h1_6 (by decide) (by decide)) ?_
  refine bs c0 ?_
  refine bs (i_sR24 (a := 52) (i := 2) (I := (2 : Int32)) (r := 60) (by decide) (by decide) (by decide +kernel) (by decide +kernel) (by decide) (by decide) (by decide)) ?_
  show some (Sum.inl ((2 : Int32) + 1, _, _)) = _
  rw [show (2 : Int32) + 1 = 3 from by decide +kernel]
theorem i_X6_62 (b0 : bdD 61 D E) : fX6_init (sk_nS (mkS 61 12195 D) 6 0 (sk_N 6)) (sk_nD (mkS 61 12195 D) (mkD E)) 62 = some (mkS 63 12239 ((62, 0) :: D), mkD ((62, 3, 0) :: (62, 2, 0) :: (62, 1, 0) :: E)) ∧ bdD 63 ((62, 0) :: D) ((62, 3, 0) :: (62, 2, 0) :: (62, 1, 0) :: E) := by
  have b1 := b0.up (n' := 62) (by decide)
  have b2 := b1.up (n' := 63) (by decide)
  have b3 := b2.r 62 0 (by decide)
  have b4 := b3.i 62 1 (0) (by decide)
  have b5 := b4.i 62 2 (0) (by decide)
  have b6 := b5.i 62 3 (0) (by decide)
  refine ⟨?_, b6⟩
  rw [i_nS b0 (n' := 62) (sl' := 12199) rfl (by decide) rfl, i_nD b0]
  unfold fX6_init
  refine bs (i_mk b1 (n' := 63) (sl' := 12239) (m := 40) rfl (by decide) (by decide +kernel) (by decide +kernel) (by decide) rfl) ?_
  refine bs (i_pR (a := 62) (k := 0) (r := 63) (by decide) (by decide) (by decide) (by decide)) ?_
  refine bs (i_pI (a := 62) (k := 1) (v := 0) (by decide) (by decide)) ?_
  refine bs (i_pI (a := 62) (k := 2) (v := 0) (by decide) (by decide)) ?_
  refine bs (i_pI (a := 62) (k := 3) (v := 0) (by decide) (by decide)) ?_
  rfl
theorem i_X10_init_L109_3 (b0 : bdD 61 D E) (h1_6 : (1, 6) ∈ D) : fX10_init_L109 1 ((3 : Int32), mkS 61 12195 D, mkD E) = some (.inl ((4 : Int32), mkS 63 12239 ((52, 3) :: (62, 0) :: D), mkD ((62, 3, 0) :: (62, 2, 0) :: (62, 1, 0) :: E))) ∧ bdD 63 ((52, 3) :: (62, 0) :: D) ((62, 3, 0) :: (62, 2, 0) :: (62, 1, 0) :: E) := by
  obtain ⟨c0, b1⟩ := i_X6_62 b0
  have b2 := b1.r 52 3 (by decide)
  refine ⟨?_, b2⟩
  unfold fX10_init_L109
  rw [if_neg (show ¬ (4 : Int32) ≤ ((3 : Int32), mkS 61 12195 D, mkD E).1 from (by decide +kernel : ¬ (4 : Int32) ≤ (3 : Int32)))]
  refine bs (i_gR (a := 1) (k := 6) (r := 52) (by decide) (by decide) h1_6 (by decide) (by decide)) ?_
  refine bs c0 ?_
  refine bs (i_sR24 (a := 52) (i := 3) (I := (3 : Int32)) (r := 62) (by decide) (by decide) (by decide +kernel) (by decide +kernel) (by decide) (by decide) (by decide)) ?_
  show some (Sum.inl ((3 : Int32) + 1, _, _)) = _
  rw [show (3 : Int32) + 1 = 4 from by decide +kernel]
theorem i_X1_73 (b0 : bdD 72 D E) : fX1_init (sk_nS (mkS 72 12318 D) 1 0 (sk_N 1)) (sk_nD (mkS 72 12318 D) (mkD E)) 73 = some (mkS 75 13285 ((73, 1) :: (73, 0) :: D), mkD ((73, 2, 0) :: E)) ∧ bdD 75 ((73, 1) :: (73, 0) :: D) ((73, 2, 0) :: E) := by
  have b1 := b0.up (n' := 73) (by decide)
  have b2 := b1.up (n' := 74) (by decide)
  have b3 := b2.r 73 0 (by decide)
  have b4 := b3.up (n' := 75) (by decide)
  have b5 := b4.r 73 1 (by decide)
  have b6 := b5.i 73 2 (0) (by decide)
  refine ⟨?_, b6⟩
  rw [i_nS b0 (n' := 73) (sl' := 12321) rfl (by decide) rfl, i_nD b0]
  unfold fX1_init
  refine bs (i_mk b1 (n' := 74) (sl' := 13221) (m := 900) rfl (by decide) (by decide +kernel) (by decide +kernel) (by decide) rfl) ?_
  refine bs (i_pR (a := 73) (k := 0) (r := 74) (by decide) (by decide) (by decide) (by decide)) ?_
  refine bs (i_mk b3 (n' := 75) (sl' := 13285) (m := 64) rfl (by decide) (by decide +kernel) (by decide +kernel) (by decide) rfl) ?_
  refine bs (i_pR (a := 73) (k := 1) (r := 75) (by decide) (by decide) (by decide) (by decide)) ?_
  refine bs (i_pI (a := 73) (k := 2) (v := 0) (by decide) (by decide)) ?_
  rfl
theorem i_X1_76 (b0 : bdD 75 D E) : fX1_init (sk_nS (mkS 75 13285 D) 1 0 (sk_N 1)) (sk_nD (mkS 75 13285 D) (mkD E)) 76 = some (mkS 78 14252 ((76, 1) :: (76, 0) :: D), mkD ((76, 2, 0) :: E)) ∧ bdD 78 ((76, 1) :: (76, 0) :: D) ((76, 2, 0) :: E) := by
  have b1 := b0.up (n' := 76) (by decide)
  have b2 := b1.up (n' := 77) (by decide)
  have b3 := b2.r 76 0 (by decide)
  have b4 := b3.up (n' := 78) (by decide)
  have b5 := b4.r 76 1 (by decide)
  have b6 := b5.i 76 2 (0) (by decide)
  refine ⟨?_, b6⟩
  rw [i_nS b0 (n' := 76) (sl' := 13288) rfl (by decide) rfl, i_nD b0]
  unfold fX1_init
  refine bs (i_mk b1 (n' := 77) (sl' := 14188) (m := 900) rfl (by decide) (by decide +kernel) (by decide +kernel) (by decide) rfl) ?_
  refine bs (i_pR (a := 76) (k := 0) (r := 77) (by decide) (by decide) (by decide) (by decide)) ?_
  refine bs (i_mk b3 (n' := 78) (sl' := 14252) (m := 64) rfl (by decide) (by decide +kernel) (by decide +kernel) (by decide) rfl) ?_
  refine bs (i_pR (a := 76) (k := 1) (r := 78) (by decide) (by decide) (by decide) (by decide)) ?_
  refine bs (i_pI (a := 76) (k := 2) (v := 0) (by decide) (by decide)) ?_
  rfl
theorem i_X2_64 (b0 : bdD 63 D E) : fX2_init (sk_nS (mkS 63 12239 D) 2 0 (sk_N 2)) (sk_nD (mkS 63 12239 D) (mkD E)) 64 = some (mkS 78 14252 ((64, 14) :: (76, 1) :: (76, 0) :: (64, 13) :: (73, 1) :: (73, 0) :: (64, 12) :: (64, 11) :: (64, 10) :: (64, 9) :: (64, 8) :: (64, 7) :: (64, 6) :: (64, 5) :: D), mkD ((76, 2, 0) :: (73, 2, 0) :: (64, 4, 0) :: (64, 3, 0) :: (64, 2, 0) :: (64, 1, 0) :: (64, 0, 0) :: E)) ∧ bdD 78 ((64, 14) :: (76, 1) :: (76, 0) :: (64, 13) :: (73, 1) :: (73, 0) :: (64, 12) :: (64, 11) :: (64, 10) :: (64, 9) :: (64, 8) :: (64, 7) :: (64, 6) :: (64, 5) :: D) ((76, 2, 0) :: (73, 2, 0) :: (64, 4, 0) :: (64, 3, 0) :: (64, 2, 0) :: (64, 1, 0) :: (64, 0, 0) :: E) := by
  have b1 := b0.up (n' := 64) (by decide)
  have b2 := b1.i 64 0 (0) (by decide)
  have b3 := b2.i 64 1 (0) (by decide)
  have b4 := b3.i 64 2 (0) (by decide)
  have b5 := b4.i 64 3 (0) (by decide)
  have b6 := b5.i 64 4 (0) (by decide)
  have b7 := b6.up (n' := 65) (by decide)
  have b8 := b7.r 64 5 (by decide)
  have b9 := b8.up (n' := 66) (by decide)
  have b10 := b9.r 64 6 (by decide)
  have b11 := b10.up (n' := 67) (by decide)
  have b12 := b11.r 64 7 (by decide)
  have b13 := b12.up (n' := 68) (by decide)
  have b14 := b13.r 64 8 (by decide)
  have b15 := b14.up (n' := 69) (by decide)
  have b16 := b15.r 64 9 (by decide)
  have b17 := b16.up (n' := 70) (by decide)
  have b18 := b17.r 64 10 (by decide)
  have b19 := b18.up (n' := 71) (by decide)
  have b20 := b19.r 64 11 (by decide)
  have b21 := b20.up (n' := 72) (by decide)
  have b22 := b21.r 64 12 (by decide)
  obtain ⟨c22, b23⟩ := i_X1_73 b22
  have b24 := b23.r 64 13 (by decide)
  obtain ⟨c24, b25⟩ := i_X1_76 b24
  have b26 := b25.r 64 14 (by decide)
  refine ⟨?_, b26⟩
  rw [i_nS b0 (n' := 64) (sl' := 12254) rfl (by decide) rfl, i_nD b0]
  unfold fX2_init
  refine bs (i_pI (a := 64) (k := 0) (v := 0) (by decide) (by decide)) ?_
  refine bs (i_pI (a := 64) (k := 1) (v := 0) (by decide) (by decide)) ?_
  refine bs (i_pI (a := 64) (k := 2) (v := 0) (by decide) (by decide)) ?_
  refine bs (i_pI (a := 64) (k := 3) (v := 0) (by decide) (by decide)) ?_
  refine bs (i_pI (a := 64) (k := 4) (v := 0) (by decide) (by decide)) ?_
  refine bs (i_mk b6 (n' := 65) (sl' := 12262) (m := 8) rfl (by decide) (by decide +kernel) (by decide +kernel) (by decide) rfl) ?_
  refine bs (i_pR (a := 64) (k := 5) (r := 65) (by decide) (by decide) (by decide) (by decide)) ?_
  refine bs (i_mk b8 (n' := 66) (sl' := 12270) (m := 8) rfl (by decide) (by decide +kernel) (by decide +kernel) (by decide) rfl) ?_
  refine bs (i_pR (a := 64) (k := 6) (r := 66) (by decide) (by decide) (by decide) (by decide)) ?_
  refine bs (i_mk b10 (n' := 67) (sl' := 12278) (m := 8) rfl (by decide) (by decide +kernel) (by decide +kernel) (by decide) rfl) ?_
  refine bs (i_pR (a := 64) (k := 7) (r := 67) (by decide) (by decide) (by decide) (by decide)) ?_
  refine bs (i_mk b12 (n' := 68) (sl' := 12286) (m := 8) rfl (by decide) (by decide +kernel) (by decide +kernel) (by decide) rfl) ?_
  refine bs (i_pR (a := 64) (k := 8) (r := 68) (by decide) (by decide) (by decide) (by decide)) ?_
  refine bs (i_mk b14 (n' := 69) (sl' := 12294) (m := 8) rfl (by decide) (by decide +kernel) (by decide +kernel) (by decide) rfl) ?_
  refine bs (i_pR (a := 64) (k := 9) (r := 69) (by decide) (by decide) (by decide) (by decide)) ?_
  refine bs (i_mk b16 (n' := 70) (sl' := 12302) (m := 8) rfl (by decide) (by decide +kernel) (by decide +kernel) (by decide) rfl) ?_
  refine bs (i_pR (a := 64) (k := 10) (r := 70) (by decide) (by decide) (by decide) (by decide)) ?_
  refine bs (i_mk b18 (n' := 71) (sl' := 12310) (m := 8) rfl (by decide) (by decide +kernel) (by decide +kernel) (by decide) rfl) ?_
  refine bs (i_pR (a := 64) (k := 11) (r := 71) (by decide) (by decide) (by decide) (by decide)) ?_
  refine bs (i_mk b20 (n' := 72) (sl' := 12318) (m := 8) rfl (by decide) (by decide +kernel) (by decide +kernel) (by decide) rfl) ?_
  refine bs (i_pR (a := 64) (k := 12) (r := 72) (by decide) (by decide) (by decide) (by decide)) ?_
  refine bs c22 ?_
  refine bs (i_pR (a := 64) (k := 13) (r := 73) (by decide) (by decide) (by decide) (by decide)) ?_
  refine bs c24 ?_
  refine bs (i_pR (a := 64) (k := 14) (r := 76) (by decide) (by decide) (by decide) (by decide)) ?_
  rfl
theorem i_X10_init_L135_0 (b0 : bdD 63 D E) (h1_7 : (1, 7) ∈ D) (h1_8 : (1, 8) ∈ D) : fX10_init_L135 1 ((0 : Int32), mkS 63 12239 D, mkD E) = some (.inl ((1 : Int32), mkS 78 14252 ((53, 0) :: (64, 14) :: (76, 1) :: (76, 0) :: (64, 13) :: (73, 1) :: (73, 0) :: (64, 12) :: (64, 11) :: (64, 10) :: (64, 9) :: (64, 8) :: (64, 7) :: (64, 6) :: (64, 5) :: D), mkD ((54, 0, -1) :: (76, 2, 0) :: (73, 2, 0) :: (64, 4, 0) :: (64, 3, 0) :: (64, 2, 0) :: (64, 1, 0) :: (64, 0, 0) :: E))) ∧ bdD 78 ((53, 0) :: (64, 14) :: (76, 1) :: (76, 0) :: (64, 13) :: (73, 1) :: (73, 0) :: (64, 12) :: (64, 11) :: (64, 10) :: (64, 9) :: (64, 8) :: (64, 7) :: (64, 6) :: (64, 5) :: D) ((54, 0, -1) :: (76, 2, 0) :: (73, 2, 0) :: (64, 4, 0) :: (64, 3, 0) :: (64, 2, 0) :: (64, 1, 0) :: (64, 0, 0) :: E) := by
  obtain ⟨c0, b1⟩ := i_X2_64 b0
  have b2 := b1.r 53 0 (by decide)
  have b3 := b2.i 54 0 (-1) (by decide)
  refine ⟨?_, b3⟩
  unfold fX10_init_L135
  rw [if_neg (show ¬ (2 : Int32) ≤ ((0 : Int32), mkS 63 12239 D, mkD E).1 from (by decide +kernel : ¬ (2 : Int32) ≤ (0 : Int32)))]
  refine bs (i_gR (a := 1) (k := 7) (r := 53) (by decide) (by decide) h1_7 (by decide) (by decide)) ?_
  refine bs c0 ?_
  refine bs (i_sR25 (a := 53) (i := 0) (I := (0 : Int32)) (r := 64) (by decide) (by decide) (by decide +kernel) (by decide +kernel) (by decide) (by decide) (by decide)) ?_
  refine bs (i_gR (a := 1) (k := 8) (r := 54) (by decide) (by decide) (List.mem_cons_of_mem _ (List.mem_cons_of_mem _ (List.mem_cons_of_mem _ (List.mem_cons_of_mem _ (List.mem_cons_of_mem _ (List.mem_cons_of_mem _ (List.mem_cons_of_mem _ (List.mem_cons_of_mem _ (List.mem_cons_of_mem _ (List.mem_cons_of_mem _ (List.mem_cons_of_mem _ (List.mem_cons_of_mem _ (List.mem_cons_of_mem _ (List.mem_cons_of_mem _ (List.mem_cons_of_mem _ h1_8))))))))))))))) (by decide) (by decide)) ?_
  refine bs (i_sI (a := 54) (i := 0) (I := (0 : Int32)) (len := 2) (v := -1) (by decide) (by decide) (by decide +kernel) (by decide +kernel)) ?_
  show some (Sum.inl ((0 : Int32) + 1, _, _)) = _
  rw [show (0 : Int32) + 1 = 1 from by decide +kernel]
theorem i_X1_88 (b0 : bdD 87 D E) : fX1_init (sk_nS (mkS 87 14331 D) 1 0 (sk_N 1)) (sk_nD (mkS 87 14331 D) (mkD E)) 88 = some (mkS 90 15298 ((88, 1) :: (88, 0) :: D), mkD ((88, 2, 0) :: E)) ∧ bdD 90 ((88, 1) :: (88, 0) :: D) ((88, 2, 0) :: E) := by
  have b1 := b0.up (n' := 88) (by decide)
  have b2 := b1.up (n' := 89) (by decide)
  have b3 := b2.r 88 0 (by decide)
  have b4 := b3.up (n' := 90) (by decide)
  have b5 := b4.r 88 1 (by decide)
  have b6 := b5.i 88 2 (0) (by decide)
  refine ⟨?_, b6⟩
  rw [i_nS b0 (n' := 88) (sl' := 14334) rfl (by decide) rfl, i_nD b0]
  unfold fX1_init
  refine bs (i_mk b1 (n' := 89) (sl' := 15234) (m := 900) rfl (by decide) (by decide +kernel) (by decide +kernel) (by decide) rfl) ?_
  refine bs (i_pR (a := 88) (k := 0) (r := 89) (by decide) (by decide) (by decide) (by decide)) ?_
  refine bs (i_mk b3 (n' := 90) (sl' := 15298) (m := 64) rfl (by decide) (by decide +kernel) (by decide +kernel) (by decide) rfl) ?_
  refine bs (i_pR (a := 88) (k := 1) (r := 90) (by decide) (by decide) (by decide) (by decide)) ?_
  refine bs (i_pI (a := 88) (k := 2) (v := 0) (by decide) (by decide)) ?_
  rfl
theorem i_X1_91 (b0 : bdD 90 D E) : fX1_init (sk_nS (mkS 90 15298 D) 1 0 (sk_N 1)) (sk_nD (mkS 90 15298 D) (mkD E)) 91 = some (mkS 93 16265 ((91, 1) :: (91, 0) :: D), mkD ((91, 2, 0) :: E)) ∧ bdD 93 ((91, 1) :: (91, 0) :: D) ((91, 2, 0) :: E) := by
  have b1 := b0.up (n' := 91) (by decide)
  have b2 := b1.up (n' := 92) (by decide)
  have b3 := b2.r 91 0 (by decide)
  have b4 := b3.up (n' := 93) (by decide)
  have b5 := b4.r 91 1 (by decide)
  have b6 := b5.i 91 2 (0) (by decide)
  refine ⟨?_, b6⟩
  rw [i_nS b0 (n' := 91) (sl' := 15301) rfl (by decide) rfl, i_nD b0]
  unfold fX1_init
  refine bs (i_mk b1 (n' := 92) (sl' := 16201) (m := 900) rfl (by decide) (by decide +kernel) (by decide +kernel) (by decide) rfl) ?_
  refine bs (i_pR (a := 91) (k := 0) (r := 92) (by decide) (by decide) (by decide) (by decide)) ?_
  refine bs (i_mk b3 (n' := 93) (sl' := 16265) (m := 64) rfl (by decide) (by decide +kernel) (by decide +kernel) (by decide) rfl) ?_
  refine bs (i_pR (a := 91) (k := 1) (r := 93) (by decide) (by decide) (by decide) (by decide)) ?_
  refine bs (i_pI (a := 91) (k := 2) (v := 0) (by decide) (by decide)) ?_
  rfl
theorem i_X2_79 (b0 : bdD 78 D E) : fX2_init (sk_nS (mkS 78 14252 D) 2 0 (sk_N 2)) (sk_nD (mkS 78 14252 D) (mkD E)) 79 = some (mkS 93 16265 ((79, 14) :: (91, 1) :: (91, 0) :: (79, 13) :: (88, 1) :: (88, 0) :: (79, 12) :: (79, 11) :: (79, 10) :: (79, 9) :: (79, 8) :: (79, 7) :: (79, 6) :: (79, 5) :: D), mkD ((91, 2, 0) :: (88, 2, 0) :: (79, 4, 0) :: (79, 3, 0) :: (79, 2, 0) :: (79, 1, 0) :: (79, 0, 0) :: E)) ∧ bdD 93 ((79, 14) :: (91, 1) :: (91, 0) :: (79, 13) :: (88, 1) :: (88, 0) :: (79, 12) :: (79, 11) :: (79, 10) :: (79, 9) :: (79, 8) :: (79, 7) :: (79, 6) :: (79, 5) :: D) ((91, 2, 0) :: (88, 2, 0) :: (79, 4, 0) :: (79, 3, 0) :: (79, 2, 0) :: (79, 1, 0) :: (79, 0, 0) :: E) := by
  have b1 := b0.up (n' := 79) (by decide)
  have b2 := b1.i 79 0 (0) (by decide)
  have b3 := b2.i 79 1 (0) (by decide)
  have b4 := b3.i 79 2 (0) (by decide)
  have b5 := b4.i 79 3 (0) (by decide)
  have b6 := b5.i 79 4 (0) (by decide)
  have b7 := b6.up (n' := 80) (by decide)
  have b8 := b7.r 79 5 (by decide)
  have b9 := b8.up (n' := 81) (by decide)
  have b10 := b9.r 79 6 (by decide)
  have b11 := b10.up (n' := 82) (by decide)
  have b12 := b11.r 79 7 (by decide)
  have b13 := b12.up (n' := 83) (by decide)
  have b14 := b13.r 79 8 (by decide)
  have b15 := b14.up (n' := 84) (by decide)
  have b16 := b15.r 79 9 (by decide)
  have b17 := b16.up (n' := 85) (by decide)
  have b18 := b17.r 79 10 (by decide)
  have b19 := b18.up (n' := 86) (by decide)
  have b20 := b19.r 79 11 (by decide)
  have b21 := b20.up (n' := 87) (by decide)
  have b22 := b21.r 79 12 (by decide)
  obtain ⟨c22, b23⟩ := i_X1_88 b22
  have b24 := b23.r 79 13 (by decide)
  obtain ⟨c24, b25⟩ := i_X1_91 b24
  have b26 := b25.r 79 14 (by decide)
  refine ⟨?_, b26⟩
  rw [i_nS b0 (n' := 79) (sl' := 14267) rfl (by decide) rfl, i_nD b0]
  unfold fX2_init
  refine bs (i_pI (a := 79) (k := 0) (v := 0) (by decide) (by decide)) ?_
  refine bs (i_pI (a := 79) (k := 1) (v := 0) (by decide) (by decide)) ?_
  refine bs (i_pI (a := 79) (k := 2) (v := 0) (by decide) (by decide)) ?_
  refine bs (i_pI (a := 79) (k := 3) (v := 0) (by decide) (by decide)) ?_
  refine bs (i_pI (a := 79) (k := 4) (v := 0) (by decide) (by decide)) ?_
  refine bs (i_mk b6 (n' := 80) (sl' := 14275) (m := 8) rfl (by decide) (by decide +kernel) (by decide +kernel) (by decide) rfl) ?_
  refine bs (i_pR (a := 79) (k := 5) (r := 80) (by decide) (by decide) (by decide) (by decide)) ?_
  refine bs (i_mk b8 (n' := 81) (sl' := 14283) (m := 8) rfl (by decide) (by decide +kernel) (by decide +kernel) (by decide) rfl) ?_
  refine bs (i_pR (a := 79) (k := 6) (r := 81) (by decide) (by decide) (by decide) (by decide)) ?_
  refine bs (i_mk b10 (n' := 82) (sl' := 14291) (m := 8) rfl (by decide) (by decide +kernel) (by decide +kernel) (by decide) rfl) ?_
  refine bs (i_pR (a := 79) (k := 7) (r := 82) (by decide) (by decide) (by decide) (by decide)) ?_
  refine bs (i_mk b12 (n' := 83) (sl' := 14299) (m := 8) rfl (by decide) (by decide +kernel) (by decide +kernel) (by decide) rfl) ?_
  refine bs (i_pR (a := 79) (k := 8) (r := 83) (by decide) (by decide) (by decide) (by decide)) ?_
  refine bs (i_mk b14 (n' := 84) (sl' := 14307) (m := 8) rfl (by decide) (by decide +kernel) (by decide +kernel) (by decide) rfl) ?_
  refine bs (i_pR (a := 79) (k := 9) (r := 84) (by decide) (by decide) (by decide) (by decide)) ?_
  refine bs (i_mk b16 (n' := 85) (sl' := 14315) (m := 8) rfl (by decide) (by decide +kernel) (by decide +kernel) (by decide) rfl) ?_
  refine bs (i_pR (a := 79) (k := 10) (r := 85) (by decide) (by decide) (by decide) (by decide)) ?_
  refine bs (i_mk b18 (n' := 86) (sl' := 14323) (m := 8) rfl (by decide) (by decide +kernel) (by decide +kernel) (by decide) rfl) ?_
  refine bs (i_pR (a := 79) (k := 11) (r := 86) (by decide) (by decide) (by decide) (by decide)) ?_
  refine bs (i_mk b20 (n' := 87) (sl' := 14331) (m := 8) rfl (by decide) (by decide +kernel) (by decide +kernel) (by decide) rfl) ?_
  refine bs (i_pR (a := 79) (k := 12) (r := 87) (by decide) (by decide) (by decide) (by decide)) ?_
  refine bs c22 ?_
  refine bs (i_pR (a := 79) (k := 13) (r := 88) (by decide) (by decide) (by decide) (by decide)) ?_
  refine bs c24 ?_
  refine bs (i_pR (a := 79) (k := 14) (r := 91) (by decide) (by decide) (by decide) (by decide)) ?_
  rfl
theorem i_X10_init_L135_1 (b0 : bdD 78 D E) (h1_7 : (1, 7) ∈ D) (h1_8 : (1, 8) ∈ D) : fX10_init_L135 1 ((1 : Int32), mkS 78 14252 D, mkD E) = some (.inl ((2 : Int32), mkS 93 16265 ((53, 1) :: (79, 14) :: (91, 1) :: (91, 0) :: (79, 13) :: (88, 1) :: (88, 0) :: (79, 12) :: (79, 11) :: (79, 10) :: (79, 9) :: (79, 8) :: (79, 7) :: (79, 6) :: (79, 5) :: D), mkD ((54, 1, -1) :: (91, 2, 0) :: (88, 2, 0) :: (79, 4, 0) :: (79, 3, 0) :: (79, 2, 0) :: (79, 1, 0) :: (79, 0, 0) :: E))) ∧ bdD 93 ((53, 1) :: (79, 14) :: (91, 1) :: (91, 0) :: (79, 13) :: (88, 1) :: (88, 0) :: (79, 12) :: (79, 11) :: (79, 10) :: (79, 9) :: (79, 8) :: (79, 7) :: (79, 6) :: (79, 5) :: D) ((54, 1, -1) :: (91, 2, 0) :: (88, 2, 0) :: (79, 4, 0) :: (79, 3, 0) :: (79, 2, 0) :: (79, 1, 0) :: (79, 0, 0) :: E) := by
  obtain ⟨c0, b1⟩ := i_X2_79 b0
  have b2 := b1.r 53 1 (by decide)
  have b3 := b2.i 54 1 (-1) (by decide)
  refine ⟨?_, b3⟩
  unfold fX10_init_L135
  rw [if_neg (show ¬ (2 : Int32) ≤ ((1 : Int32), mkS 78 14252 D, mkD E).1 from (by decide +kernel : ¬ (2 : Int32) ≤ (1 : Int32)))]
  refine bs (i_gR (a := 1) (k := 7) (r := 53) (by decide) (by decide) h1_7 (by decide) (by decide)) ?_
  refine bs c0 ?_
  refine bs (i_sR25 (a := 53) (i := 1) (I := (1 : Int32)) (r := 79) (by decide) (by decide) (by decide +kernel) (by decide +kernel) (by decide) (by decide) (by decide)) ?_
  refine bs (i_gR (a := 1) (k := 8) (r := 54) (by decide) (by decide) (List.mem_cons_of_mem _ (List.mem_cons_of_mem _ (List.mem_cons_of_mem _ (List.mem_cons_of_mem _ (List.mem_cons_of_mem _ (List.mem_cons_of_mem _ (List.mem_cons_of_mem _ (List.mem_cons_of_mem _ (List.mem_cons_of_mem _ (List.mem_cons_of_mem _ (List.mem_cons_of_mem _ (List.mem_cons_of_mem _ (List.mem_cons_of_mem _ (List.mem_cons_of_mem _ (List.mem_cons_of_mem _ h1_8))))))))))))))) (by decide) (by decide)) ?_
  refine bs (i_sI (a := 54) (i := 1) (I := (1 : Int32)) (len := 2) (v := -1) (by decide) (by decide) (by decide +kernel) (by decide +kernel)) ?_
  show some (Sum.inl ((1 : Int32) + 1, _, _)) = _
  rw [show (1 : Int32) + 1 = 2 from by decide +kernel]
theorem i_X10_1 (b0 : bdD 0 D E) : fX10_init (sk_nS (mkS 0 0 D) 9 0 (sk_N 9)) (sk_nD (mkS 0 0 D) (mkD E)) 1 = some (mkS 93 16265 ((53, 1) :: (79, 14) :: (91, 1) :: (91, 0) :: (79, 13) :: (88, 1) :: (88, 0) :: (79, 12) :: (79, 11) :: (79, 10) :: (79, 9) :: (79, 8) :: (79, 7) :: (79, 6) :: (79, 5) :: (53, 0) :: (64, 14) :: (76, 1) :: (76, 0) :: (64, 13) :: (73, 1) :: (73, 0) :: (64, 12) :: (64, 11) :: (64, 10) :: (64, 9) :: (64, 8) :: (64, 7) :: (64, 6) :: (64, 5) :: (52, 3) :: (62, 0) :: (52, 2) :: (60, 0) :: (52, 1) :: (58, 0) :: (52, 0) :: (56, 0) :: (1, 9) :: (1, 8) :: (1, 7) :: (1, 6) :: (1, 5) :: (50, 0) :: (1, 4) :: (48, 0) :: (1, 3) :: (45, 1) :: (45, 0) :: (1, 2) :: (40, 6) :: (40, 5) :: (40, 4) :: (40, 3) :: (1, 1) :: (21, 5) :: (21, 4) :: (21, 3) :: (21, 0) :: (22, 14) :: (34, 1) :: (34, 0) :: (22, 13) :: (31, 1) :: (31, 0) :: (22, 12) :: (22, 11) :: (22, 10) :: (22, 9) :: (22, 8) :: (22, 7) :: (22, 6) :: (22, 5) :: (1, 0) :: (2, 3) :: (2, 2) :: (2, 1) :: (2, 0) :: (3, 14) :: (15, 1) :: (15, 0) :: (3, 13) :: (12, 1) :: (12, 0) :: (3, 12) :: (3, 11) :: (3, 10) :: (3, 9) :: (3, 8) :: (3, 7) :: (3, 6) :: (3, 5) :: D), mkD ((54, 1, -1) :: (91, 2, 0) :: (88, 2, 0) :: (79, 4, 0) :: (79, 3, 0) :: (79, 2, 0) :: (79, 1, 0) :: (79, 0, 0) :: (54, 0, -1) :: (76, 2, 0) :: (73, 2, 0) :: (64, 4, 0) :: (64, 3, 0) :: (64, 2, 0) :: (64, 1, 0) :: (64, 0, 0) :: (62, 3, 0) :: (62, 2, 0) :: (62, 1, 0) :: (60, 3, 0) :: (60, 2, 0) :: (60, 1, 0) :: (58, 3, 0) :: (58, 2, 0) :: (58, 1, 0) :: (56, 3, 0) :: (56, 2, 0) :: (56, 1, 0) :: (1, 10, 0) :: (50, 2, 0) :: (50, 1, 0) :: (45, 2, 0) :: (40, 2, 0) :: (40, 1, -1) :: (40, 0, 0) :: (21, 8, 0) :: (21, 7, 0) :: (21, 6, 0) :: (21, 2, -1) :: (21, 1, 0) :: (34, 2, 0) :: (31, 2, 0) :: (22, 4, 0) :: (22, 3, 0) :: (22, 2, 0) :: (22, 1, 0) :: (22, 0, 0) :: (15, 2, 0) :: (12, 2, 0) :: (3, 4, 0) :: (3, 3, 0) :: (3, 2, 0) :: (3, 1, 0) :: (3, 0, 0) :: E)) ∧ bdD 93 ((53, 1) :: (79, 14) :: (91, 1) :: (91, 0) :: (79, 13) :: (88, 1) :: (88, 0) :: (79, 12) :: (79, 11) :: (79, 10) :: (79, 9) :: (79, 8) :: (79, 7) :: (79, 6) :: (79, 5) :: (53, 0) :: (64, 14) :: (76, 1) :: (76, 0) :: (64, 13) :: (73, 1) :: (73, 0) :: (64, 12) :: (64, 11) :: (64, 10) :: (64, 9) :: (64, 8) :: (64, 7) :: (64, 6) :: (64, 5) :: (52, 3) :: (62, 0) :: (52, 2) :: (60, 0) :: (52, 1) :: (58, 0) :: (52, 0) :: (56, 0) :: (1, 9) :: (1, 8) :: (1, 7) :: (1, 6) :: (1, 5) :: (50, 0) :: (1, 4) :: (48, 0) :: (1, 3) :: (45, 1) :: (45, 0) :: (1, 2) :: (40, 6) :: (40, 5) :: (40, 4) :: (40, 3) :: (1, 1) :: (21, 5) :: (21, 4) :: (21, 3) :: (21, 0) :: (22, 14) :: (34, 1) :: (34, 0) :: (22, 13) :: (31, 1) :: (31, 0) :: (22, 12) :: (22, 11) :: (22, 10) :: (22, 9) :: (22, 8) :: (22, 7) :: (22, 6) :: (22, 5) :: (1, 0) :: (2, 3) :: (2, 2) :: (2, 1) :: (2, 0) :: (3, 14) :: (15, 1) :: (15, 0) :: (3, 13) :: (12, 1) :: (12, 0) :: (3, 12) :: (3, 11) :: (3, 10) :: (3, 9) :: (3, 8) :: (3, 7) :: (3, 6) :: (3, 5) :: D) ((54, 1, -1) :: (91, 2, 0) :: (88, 2, 0) :: (79, 4, 0) :: (79, 3, 0) :: (79, 2, 0) :: (79, 1, 0) :: (79, 0, 0) :: (54, 0, -1) :: (76, 2, 0) :: (73, 2, 0) :: (64, 4, 0) :: (64, 3, 0) :: (64, 2, 0) :: (64, 1, 0) :: (64, 0, 0) :: (62, 3, 0) :: (62, 2, 0) :: (62, 1, 0) :: (60, 3, 0) :: (60, 2, 0) :: (60, 1, 0) :: (58, 3, 0) :: (58, 2, 0) :: (58, 1, 0) :: (56, 3, 0) :: (56, 2, 0) :: (56, 1, 0) :: (1, 10, 0) :: (50, 2, 0) :: (50, 1, 0) :: (45, 2, 0) :: (40, 2, 0) :: (40, 1, -1) :: (40, 0, 0) :: (21, 8, 0) :: (21, 7, 0) :: (21, 6, 0) :: (21, 2, -1) :: (21, 1, 0) :: (34, 2, 0) :: (31, 2, 0) :: (22, 4, 0) :: (22, 3, 0) :: (22, 2, 0) :: (22, 1, 0) :: (22, 0, 0) :: (15, 2, 0) :: (12, 2, 0) :: (3, 4, 0) :: (3, 3, 0) :: (3, 2, 0) :: (3, 1, 0) :: (3, 0, 0) :: E) := by
  have b1 := b0.up (n' := 1) (by decide)
  obtain ⟨c1, b2⟩ := i_X9_2 b1
  have b3 := b2.r 1 0 (by decide)
  obtain ⟨c3, b4⟩ := i_X5_21 b3
  have b5 := b4.r 1 1 (by decide)
  obtain ⟨c5, b6⟩ := i_X8_40 b5
  have b7 := b6.r 1 2 (by decide)
  obtain ⟨c7, b8⟩ := i_X3_45 b7
  have b9 := b8.r 1 3 (by decide)
  obtain ⟨c9, b10⟩ := i_X0_48 b9
  have b11 := b10.r 1 4 (by decide)
  obtain ⟨c11, b12⟩ := i_X4_50 b11
  have b13 := b12.r 1 5 (by decide)
  have b14 := b13.up (n' := 52) (by decide)
  have b15 := b14.r 1 6 (by decide)
  have b16 := b15.up (n' := 53) (by decide)
  have b17 := b16.r 1 7 (by decide)
  have b18 := b17.up (n' := 54) (by decide)
  have b19 := b18.r 1 8 (by decide)
  have b20 := b19.up (n' := 55) (by decide)
  have b21 := b20.r 1 9 (by decide)
  have b22 := b21.i 1 10 (0) (by decide)
  obtain ⟨c22, b23⟩ := i_X10_init_L109_0 b22 (List.mem_cons_of_mem _ (List.mem_cons_of_mem _ (List.mem_cons_of_mem _ List.mem_cons_self)))
  obtain ⟨c23, b24⟩ := i_X10_init_L109_1 b23 (List.mem_cons_of_mem _ (List.mem_cons_of_mem _ (List.mem_cons_of_mem _ (List.mem_cons_of_mem _ (List.mem_cons_of_mem _ List.mem_cons_self)))))
  obtain ⟨c24, b25⟩ := i_X10_init_L109_2 b24 (List.mem_cons_of_mem _ (List.mem_cons_of_mem _ (List.mem_cons_of_mem _ (List.mem_cons_of_mem _ (List.mem_cons_of_mem _ (List.mem_cons_of_mem _ (List.mem_cons_of_mem _ List.mem_cons_self)))))))
  obtain ⟨c25, b26⟩ := i_X10_init_L109_3 b25 (List.mem_cons_of_mem _ (List.mem_cons_of_mem _ (List.mem_cons_of_mem _ (List.mem_cons_of_mem _ (List.mem_cons_of_mem _ (List.mem_cons_of_mem _ (List.mem_cons_of_mem _ (List.mem_cons_of_mem _ (List.mem_cons_of_mem _ List.mem_cons_self)))))))))
  obtain ⟨c26, b27⟩ := i_X10_init_L135_0 b26 (List.mem_cons_of_mem _ (List.mem_cons_of_mem _ (List.mem_cons_of_mem _ (List.mem_cons_of_mem _ (List.mem_cons_of_mem _ (List.mem_cons_of_mem _ (List.mem_cons_of_mem _ (List.mem_cons_of_mem _ (List.mem_cons_of_mem _ (List.mem_cons_of_mem _ List.mem_cons_self)))))))))) (List.mem_cons_of_mem _ (List.mem_cons_of_mem _ (List.mem_cons_of_mem _ (List.mem_cons_of_mem _ (List.mem_cons_of_mem _ (List.mem_cons_of_mem _ (List.mem_cons_of_mem _ (List.mem_cons_of_mem _ (List.mem_cons_of_mem _ List.mem_cons_self)))))))))
  obtain ⟨c27, b28⟩ := i_X10_init_L135_1 b27 (List.mem_cons_of_mem _ (List.mem_cons_of_mem _ (List.mem_cons_of_mem _ (List.mem_cons_of_mem _ (List.mem_cons_of_mem _ (List.mem_cons_of_mem _ (List.mem_cons_of_mem _ (List.mem_cons_of_mem _ (List.mem_cons_of_mem _ (List.mem_cons_of_mem _ (List.mem_cons_of_mem _ (List.mem_cons_of_mem _ (List.mem_cons_of_mem _ (List.mem_cons_of_mem _ (List.mem_cons_of_mem _ (List.mem_cons_of_mem _ (List.mem_cons_of_mem _ (List.mem_cons_of_mem _ (List.mem_cons_of_mem _ (List.mem_cons_of_mem _ (List.mem_cons_of_mem _ (List.mem_cons_of_mem _ (List.mem_cons_of_mem _ (List.mem_cons_of_mem _ (List.mem_cons_of_mem _ List.mem_cons_self))))))))))))))))))))))))) (List.mem_cons_of_mem _ (List.mem_cons_of_mem _ (List.mem_cons_of_mem _ (List.mem_cons_of_mem _ (List.mem_cons_of_mem _ (List.mem_cons_of_mem _ (List.mem_cons_of_mem _ (List.mem_cons_of_mem _ (List.mem_cons_of_mem _ (List.mem_cons_of_mem _ (List.mem_cons_of_mem _ (List.mem_cons_of_mem _ (List.mem_cons_of_mem _ (List.mem_cons_of_mem _ (List.mem_cons_of_mem _ (List.mem_cons_of_mem _ (List.mem_cons_of_mem _ (List.mem_cons_of_mem _ (List.mem_cons_of_mem _ (List.mem_cons_of_mem _ (List.mem_cons_of_mem _ (List.mem_cons_of_mem _ (List.mem_cons_of_mem _ (List.mem_cons_of_mem _ List.mem_cons_self))))))))))))))))))))))))
  refine ⟨?_, b28⟩
  rw [i_nS b0 (n' := 1) (sl' := 11) rfl (by decide) rfl, i_nD b0]
  unfold fX10_init
  refine bs c1 ?_
  refine bs (i_pR (a := 1) (k := 0) (r := 2) (by decide) (by decide) (by decide) (by decide)) ?_
  refine bs c3 ?_
  refine bs (i_pR (a := 1) (k := 1) (r := 21) (by decide) (by decide) (by decide) (by decide)) ?_
  refine bs c5 ?_
  refine bs (i_pR (a := 1) (k := 2) (r := 40) (by decide) (by decide) (by decide) (by decide)) ?_
  refine bs c7 ?_
  refine bs (i_pR (a := 1) (k := 3) (r := 45) (by decide) (by decide) (by decide) (by decide)) ?_
  refine bs c9 ?_
  refine bs (i_pR (a := 1) (k := 4) (r := 48) (by decide) (by decide) (by decide) (by decide)) ?_
  refine bs c11 ?_
  refine bs (i_pR (a := 1) (k := 5) (r := 50) (by decide) (by decide) (by decide) (by decide)) ?_
  refine bs (i_mk b13 (n' := 52) (sl' := 11159) (m := 4) rfl (by decide) (by decide +kernel) (by decide +kernel) (by decide) rfl) ?_
  refine bs (i_pR (a := 1) (k := 6) (r := 52) (by decide) (by decide) (by decide) (by decide)) ?_
  refine bs (i_mk b15 (n' := 53) (sl' := 11161) (m := 2) rfl (by decide) (by decide +kernel) (by decide +kernel) (by decide) rfl) ?_
  refine bs (i_pR (a := 1) (k := 7) (r := 53) (by decide) (by decide) (by decide) (by decide)) ?_
  refine bs (i_mk b17 (n' := 54) (sl' := 11163) (m := 2) rfl (by decide) (by decide +kernel) (by decide +kernel) (by decide) rfl) ?_
  refine bs (i_pR (a := 1) (k := 8) (r := 54) (by decide) (by decide) (by decide) (by decide)) ?_
  refine bs (i_mk b19 (n' := 55) (sl' := 12063) (m := 900) rfl (by decide) (by decide +kernel) (by decide +kernel) (by decide) rfl) ?_
  refine bs (i_pR (a := 1) (k := 9) (r := 55) (by decide) (by decide) (by decide) (by decide)) ?_
  refine bs (i_pI (a := 1) (k := 10) (v := 0) (by decide) (by decide)) ?_
  refine bs ((sk_itr_step c22).trans ((sk_itr_step c23).trans ((sk_itr_step c24).trans ((sk_itr_step c25).trans (sk_itr_exit (e := (mkS 63 12239 _, mkD _)) (by unfold fX10_init_L109; rw [if_pos (by decide +kernel : (4 : Int32) ≤ (4 : Int32))])))))) ?_
  refine bs ((sk_itr_step c26).trans ((sk_itr_step c27).trans (sk_itr_exit (e := (mkS 93 16265 _, mkD _)) (by unfold fX10_init_L135; rw [if_pos (by decide +kernel : (2 : Int32) ≤ (2 : Int32))])))) ?_
  rfl
theorem i_X11_94 (b0 : bdD 93 D E) : fX11_init (sk_nS (mkS 93 16265 D) 10 0 (sk_N 10)) (sk_nD (mkS 93 16265 D) (mkD E)) 94 = (fX11_plain (mkS 115 1399131 ((94, 36) :: (94, 35) :: (94, 34) :: (94, 33) :: (94, 31) :: (94, 30) :: (94, 29) :: (94, 28) :: (94, 27) :: (94, 26) :: (94, 24) :: (94, 23) :: (94, 22) :: (94, 21) :: (94, 18) :: (94, 17) :: (94, 16) :: (94, 4) :: (94, 3) :: (94, 2) :: (94, 1) :: D)) (mkD ((113, 3, -1) :: (113, 2, -1) :: (113, 1, -1) :: (113, 0, -1) :: (94, 14, -1) :: E)) 95).bind fun d162 => some (mkS 115 1399131 ((94, 36) :: (94, 35) :: (94, 34) :: (94, 33) :: (94, 31) :: (94, 30) :: (94, 29) :: (94, 28) :: (94, 27) :: (94, 26) :: (94, 24) :: (94, 23) :: (94, 22) :: (94, 21) :: (94, 18) :: (94, 17) :: (94, 16) :: (94, 4) :: (94, 3) :: (94, 2) :: (94, 1) :: D), d162) := by
  have b1 := b0.up (n' := 94) (by decide)
  have b2 := b1.up (n' := 95) (by decide)
  have b3 := b2.r 94 1 (by decide)
  have b4 := b3.up (n' := 96) (by decide)
  have b5 := b4.r 94 2 (by decide)
  have b6 := b5.up (n' := 97) (by decide)
  have b7 := b6.r 94 3 (by decide)
  have b8 := b7.up (n' := 98) (by decide)
  have b9 := b8.r 94 4 (by decide)
  have b10 := b9.i 94 14 (-1) (by decide)
  have b11 := b10.up (n' := 99) (by decide)
  have b12 := b11.r 94 16 (by decide)
  have b13 := b12.up (n' := 100) (by decide)
  have b14 := b13.r 94 17 (by decide)
  have b15 := b14.up (n' := 101) (by decide)
  have b16 := b15.r 94 18 (by decide)
  have b17 := b16.up (n' := 102) (by decide)
  have b18 := b17.r 94 21 (by decide)
  have b19 := b18.up (n' := 103) (by decide)
  have b20 := b19.r 94 22 (by decide)
  have b21 := b20.up (n' := 104) (by decide)
  have b22 := b21.r 94 23 (by decide)
  have b23 := b22.up (n' := 105) (by decide)
  have b24 := b23.r 94 24 (by decide)
  have b25 := b24.up (n' := 106) (by decide)
  have b26 := b25.r 94 26 (by decide)
  have b27 := b26.up (n' := 107) (by decide)
  have b28 := b27.r 94 27 (by decide)
  have b29 := b28.up (n' := 108) (by decide)
  have b30 := b29.r 94 28 (by decide)
  have b31 := b30.up (n' := 109) (by decide)
  have b32 := b31.r 94 29 (by decide)
  have b33 := b32.up (n' := 110) (by decide)
  have b34 := b33.r 94 30 (by decide)
  have b35 := b34.up (n' := 111) (by decide)
  have b36 := b35.r 94 31 (by decide)
  have b37 := b36.up (n' := 112) (by decide)
  have b38 := b37.r 94 33 (by decide)
  have b39 := b38.up (n' := 113) (by decide)
  have b40 := b39.i 113 0 (-1) (by decide)
  have b41 := b40.i 113 1 (-1) (by decide)
  have b42 := b41.i 113 2 (-1) (by decide)
  have b43 := b42.i 113 3 (-1) (by decide)
  have b44 := b43.r 94 34 (by decide)
  have b45 := b44.up (n' := 114) (by decide)
  have b46 := b45.r 94 35 (by decide)
  have b47 := b46.up (n' := 115) (by decide)
  have b48 := b47.r 94 36 (by decide)
  rw [i_nS b0 (n' := 94) (sl' := 16302) rfl (by decide) rfl, i_nD b0]
  unfold fX11_init
  refine bs (i_mk b1 (n' := 95) (sl' := 19527) (m := 3225) rfl (by decide) (by decide +kernel) (by decide +kernel) (by decide) rfl) ?_
  refine bs (i_pR (a := 94) (k := 1) (r := 95) (by decide) (by decide) (by decide) (by decide)) ?_
  refine bs (i_mk b3 (n' := 96) (sl' := 19529) (m := 2) rfl (by decide) (by decide +kernel) (by decide +kernel) (by decide) rfl) ?_
  refine bs (i_pR (a := 94) (k := 2) (r := 96) (by decide) (by decide) (by decide) (by decide)) ?_
  refine bs (i_mk b5 (n' := 97) (sl' := 20429) (m := 900) rfl (by decide) (by decide +kernel) (by decide +kernel) (by decide) rfl) ?_
  refine bs (i_pR (a := 94) (k := 3) (r := 97) (by decide) (by decide) (by decide) (by decide)) ?_
  refine bs (i_mk b7 (n' := 98) (sl' := 21504) (m := 1075) rfl (by decide) (by decide +kernel) (by decide +kernel) (by decide) rfl) ?_
  refine bs (i_pR (a := 94) (k := 4) (r := 98) (by decide) (by decide) (by decide) (by decide)) ?_
  refine bs (i_pI (a := 94) (k := 14) (v := -1) (by decide) (by decide)) ?_
  refine bs (i_mk b10 (n' := 99) (sl' := 22404) (m := 900) rfl (by decide) (by decide +kernel) (by decide +kernel) (by decide) rfl) ?_
  refine bs (i_pR (a := 94) (k := 16) (r := 99) (by decide) (by decide) (by decide) (by decide)) ?_
  refine bs (i_mk b12 (n' := 100) (sl' := 22410) (m := 6) rfl (by decide) (by decide +kernel) (by decide +kernel) (by decide) rfl) ?_
  refine bs (i_pR (a := 94) (k := 17) (r := 100) (by decide) (by decide) (by decide) (by decide)) ?_
  refine bs (i_mk b14 (n' := 101) (sl' := 22419) (m := 9) rfl (by decide) (by decide +kernel) (by decide +kernel) (by decide) rfl) ?_
  refine bs (i_pR (a := 94) (k := 18) (r := 101) (by decide) (by decide) (by decide) (by decide)) ?_
  refine bs (i_mk b16 (n' := 102) (sl' := 87955) (m := 65536) rfl (by decide) (by decide +kernel) (by decide +kernel) (by decide) rfl) ?_
  refine bs (i_pR (a := 94) (k := 21) (r := 102) (by decide) (by decide) (by decide) (by decide)) ?_
  refine bs (i_mk b18 (n' := 103) (sl' := 1136531) (m := 1048576) rfl (by decide) (by decide +kernel) (by decide +kernel) (by decide) rfl) ?_
  refine bs (i_pR (a := 94) (k := 22) (r := 103) (by decide) (by decide) (by decide) (by decide)) ?_
  refine bs (i_mk b20 (n' := 104) (sl' := 1202067) (m := 65536) rfl (by decide) (by decide +kernel) (by decide +kernel) (by decide) rfl) ?_
  refine bs (i_pR (a := 94) (k := 23) (r := 104) (by decide) (by decide) (by decide) (by decide)) ?_
  refine bs (i_mk b22 (n' := 105) (sl' := 1267603) (m := 65536) rfl (by decide) (by decide +kernel) (by decide +kernel) (by decide) rfl) ?_
  refine bs (i_pR (a := 94) (k := 24) (r := 105) (by decide) (by decide) (by decide) (by decide)) ?_
  refine bs (i_mk b24 (n' := 106) (sl' := 1333139) (m := 65536) rfl (by decide) (by decide +kernel) (by decide +kernel) (by decide) rfl) ?_
  refine bs (i_pR (a := 94) (k := 26) (r := 106) (by decide) (by decide) (by decide) (by decide)) ?_
  refine bs (i_mk b26 (n' := 107) (sl' := 1398675) (m := 65536) rfl (by decide) (by decide +kernel) (by decide +kernel) (by decide) rfl) ?_
  refine bs (i_pR (a := 94) (k := 27) (r := 107) (by decide) (by decide) (by decide) (by decide)) ?_
  refine bs (i_mk b28 (n' := 108) (sl' := 1398683) (m := 8) rfl (by decide) (by decide +kernel) (by decide +kernel) (by decide) rfl) ?_
  refine bs (i_pR (a := 94) (k := 28) (r := 108) (by decide) (by decide) (by decide) (by decide)) ?_
  refine bs (i_mk b30 (n' := 109) (sl' := 1398939) (m := 256) rfl (by decide) (by decide +kernel) (by decide +kernel) (by decide) rfl) ?_
  refine bs (i_pR (a := 94) (k := 29) (r := 109) (by decide) (by decide) (by decide) (by decide)) ?_
  refine bs (i_mk b32 (n' := 110) (sl' := 1398947) (m := 8) rfl (by decide) (by decide +kernel) (by decide +kernel) (by decide) rfl) ?_
  refine bs (i_pR (a := 94) (k := 30) (r := 110) (by decide) (by decide) (by decide) (by decide)) ?_
  refine bs (i_mk b34 (n' := 111) (sl' := 1398955) (m := 8) rfl (by decide) (by decide +kernel) (by decide +kernel) (by decide) rfl) ?_
  refine bs (i_pR (a := 94) (k := 31) (r := 111) (by decide) (by decide) (by decide) (by decide)) ?_
  refine bs (i_mk b36 (n' := 112) (sl' := 1398963) (m := 8) rfl (by decide) (by decide +kernel) (by decide +kernel) (by decide) rfl) ?_
  refine bs (i_pR (a := 94) (k := 33) (r := 112) (by decide) (by decide) (by decide) (by decide)) ?_
  refine bs (i_mk b38 (n' := 113) (sl' := 1398967) (m := 4) rfl (by decide) (by decide +kernel) (by decide +kernel) (by decide) rfl) ?_
  refine bs (i_sI (a := 113) (i := 0) (I := (0 : Int32)) (len := 4) (v := -1) (by decide) (by decide) (by decide +kernel) (by decide +kernel)) ?_
  refine bs (i_sI (a := 113) (i := 1) (I := (1 : Int32)) (len := 4) (v := -1) (by decide) (by decide) (by decide +kernel) (by decide +kernel)) ?_
  refine bs (i_sI (a := 113) (i := 2) (I := (2 : Int32)) (len := 4) (v := -1) (by decide) (by decide) (by decide +kernel) (by decide +kernel)) ?_
  refine bs (i_sI (a := 113) (i := 3) (I := (3 : Int32)) (len := 4) (v := -1) (by decide) (by decide) (by decide +kernel) (by decide +kernel)) ?_
  refine bs (i_pR (a := 94) (k := 34) (r := 113) (by decide) (by decide) (by decide) (by decide)) ?_
  refine bs (i_mk b44 (n' := 114) (sl' := 1398971) (m := 4) rfl (by decide) (by decide +kernel) (by decide +kernel) (by decide) rfl) ?_
  refine bs (i_pR (a := 94) (k := 35) (r := 114) (by decide) (by decide) (by decide) (by decide)) ?_
  refine bs (i_mk b46 (n' := 115) (sl' := 1399131) (m := 160) rfl (by decide) (by decide +kernel) (by decide +kernel) (by decide) rfl) ?_
  refine bs (i_pR (a := 94) (k := 36) (r := 115) (by decide) (by decide) (by decide) (by decide)) ?_
  refine bs (i_gR (a := 94) (k := 1) (r := 95) (by decide) (by decide) (List.mem_cons_of_mem _ (List.mem_cons_of_mem _ (List.mem_cons_of_mem _ (List.mem_cons_of_mem _ (List.mem_cons_of_mem _ (List.mem_cons_of_mem _ (List.mem_cons_of_mem _ (List.mem_cons_of_mem _ (List.mem_cons_of_mem _ (List.mem_cons_of_mem _ (List.mem_cons_of_mem _ (List.mem_cons_of_mem _ (List.mem_cons_of_mem _ (List.mem_cons_of_mem _ (List.mem_cons_of_mem _ (List.mem_cons_of_mem _ (List.mem_cons_of_mem _ (List.mem_cons_of_mem _ (List.mem_cons_of_mem _ (List.mem_cons_of_mem _ List.mem_cons_self)))))))))))))))))))) (by decide) (by decide)) ?_
  rfl
end
def DDl : List (Nat × Nat) := (94, 36) :: (94, 35) :: (94, 34) :: (94, 33) :: (94, 31) :: (94, 30) :: (94, 29) :: (94, 28) :: (94, 27) :: (94, 26) :: (94, 24) :: (94, 23) :: (94, 22) :: (94, 21) :: (94, 18) :: (94, 17) :: (94, 16) :: (94, 4) :: (94, 3) :: (94, 2) :: (94, 1) :: (53, 1) :: (79, 14) :: (91, 1) :: (91, 0) :: (79, 13) :: (88, 1) :: (88, 0) :: (79, 12) :: (79, 11) :: (79, 10) :: (79, 9) :: (79, 8) :: (79, 7) :: (79, 6) :: (79, 5) :: (53, 0) :: (64, 14) :: (76, 1) :: (76, 0) :: (64, 13) :: (73, 1) :: (73, 0) :: (64, 12) :: (64, 11) :: (64, 10) :: (64, 9) :: (64, 8) :: (64, 7) :: (64, 6) :: (64, 5) :: (52, 3) :: (62, 0) :: (52, 2) :: (60, 0) :: (52, 1) :: (58, 0) :: (52, 0) :: (56, 0) :: (1, 9) :: (1, 8) :: (1, 7) :: (1, 6) :: (1, 5) :: (50, 0) :: (1, 4) :: (48, 0) :: (1, 3) :: (45, 1) :: (45, 0) :: (1, 2) :: (40, 6) :: (40, 5) :: (40, 4) :: (40, 3) :: (1, 1) :: (21, 5) :: (21, 4) :: (21, 3) :: (21, 0) :: (22, 14) :: (34, 1) :: (34, 0) :: (22, 13) :: (31, 1) :: (31, 0) :: (22, 12) :: (22, 11) :: (22, 10) :: (22, 9) :: (22, 8) :: (22, 7) :: (22, 6) :: (22, 5) :: (1, 0) :: (2, 3) :: (2, 2) :: (2, 1) :: (2, 0) :: (3, 14) :: (15, 1) :: (15, 0) :: (3, 13) :: (12, 1) :: (12, 0) :: (3, 12) :: (3, 11) :: (3, 10) :: (3, 9) :: (3, 8) :: (3, 7) :: (3, 6) :: (3, 5) :: []
def EEl : List (Nat × Nat × Int32) := (113, 3, -1) :: (113, 2, -1) :: (113, 1, -1) :: (113, 0, -1) :: (94, 14, -1) :: (54, 1, -1) :: (91, 2, 0) :: (88, 2, 0) :: (79, 4, 0) :: (79, 3, 0) :: (79, 2, 0) :: (79, 1, 0) :: (79, 0, 0) :: (54, 0, -1) :: (76, 2, 0) :: (73, 2, 0) :: (64, 4, 0) :: (64, 3, 0) :: (64, 2, 0) :: (64, 1, 0) :: (64, 0, 0) :: (62, 3, 0) :: (62, 2, 0) :: (62, 1, 0) :: (60, 3, 0) :: (60, 2, 0) :: (60, 1, 0) :: (58, 3, 0) :: (58, 2, 0) :: (58, 1, 0) :: (56, 3, 0) :: (56, 2, 0) :: (56, 1, 0) :: (1, 10, 0) :: (50, 2, 0) :: (50, 1, 0) :: (45, 2, 0) :: (40, 2, 0) :: (40, 1, -1) :: (40, 0, 0) :: (21, 8, 0) :: (21, 7, 0) :: (21, 6, 0) :: (21, 2, -1) :: (21, 1, 0) :: (34, 2, 0) :: (31, 2, 0) :: (22, 4, 0) :: (22, 3, 0) :: (22, 2, 0) :: (22, 1, 0) :: (22, 0, 0) :: (15, 2, 0) :: (12, 2, 0) :: (3, 4, 0) :: (3, 3, 0) :: (3, 2, 0) :: (3, 1, 0) :: (3, 0, 0) :: []
abbrev sSz : Nat := 1399131
abbrev sS1 : Nat := 16265
def DD1 : List (Nat × Nat) := (53, 1) :: (79, 14) :: (91, 1) :: (91, 0) :: (79, 13) :: (88, 1) :: (88, 0) :: (79, 12) :: (79, 11) :: (79, 10) :: (79, 9) :: (79, 8) :: (79, 7) :: (79, 6) :: (79, 5) :: (53, 0) :: (64, 14) :: (76, 1) :: (76, 0) :: (64, 13) :: (73, 1) :: (73, 0) :: (64, 12) :: (64, 11) :: (64, 10) :: (64, 9) :: (64, 8) :: (64, 7) :: (64, 6) :: (64, 5) :: (52, 3) :: (62, 0) :: (52, 2) :: (60, 0) :: (52, 1) :: (58, 0) :: (52, 0) :: (56, 0) :: (1, 9) :: (1, 8) :: (1, 7) :: (1, 6) :: (1, 5) :: (50, 0) :: (1, 4) :: (48, 0) :: (1, 3) :: (45, 1) :: (45, 0) :: (1, 2) :: (40, 6) :: (40, 5) :: (40, 4) :: (40, 3) :: (1, 1) :: (21, 5) :: (21, 4) :: (21, 3) :: (21, 0) :: (22, 14) :: (34, 1) :: (34, 0) :: (22, 13) :: (31, 1) :: (31, 0) :: (22, 12) :: (22, 11) :: (22, 10) :: (22, 9) :: (22, 8) :: (22, 7) :: (22, 6) :: (22, 5) :: (1, 0) :: (2, 3) :: (2, 2) :: (2, 1) :: (2, 0) :: (3, 14) :: (15, 1) :: (15, 0) :: (3, 13) :: (12, 1) :: (12, 0) :: (3, 12) :: (3, 11) :: (3, 10) :: (3, 9) :: (3, 8) :: (3, 7) :: (3, 6) :: (3, 5) :: []
def EE1 : List (Nat × Nat × Int32) := (54, 1, -1) :: (91, 2, 0) :: (88, 2, 0) :: (79, 4, 0) :: (79, 3, 0) :: (79, 2, 0) :: (79, 1, 0) :: (79, 0, 0) :: (54, 0, -1) :: (76, 2, 0) :: (73, 2, 0) :: (64, 4, 0) :: (64, 3, 0) :: (64, 2, 0) :: (64, 1, 0) :: (64, 0, 0) :: (62, 3, 0) :: (62, 2, 0) :: (62, 1, 0) :: (60, 3, 0) :: (60, 2, 0) :: (60, 1, 0) :: (58, 3, 0) :: (58, 2, 0) :: (58, 1, 0) :: (56, 3, 0) :: (56, 2, 0) :: (56, 1, 0) :: (1, 10, 0) :: (50, 2, 0) :: (50, 1, 0) :: (45, 2, 0) :: (40, 2, 0) :: (40, 1, -1) :: (40, 0, 0) :: (21, 8, 0) :: (21, 7, 0) :: (21, 6, 0) :: (21, 2, -1) :: (21, 1, 0) :: (34, 2, 0) :: (31, 2, 0) :: (22, 4, 0) :: (22, 3, 0) :: (22, 2, 0) :: (22, 1, 0) :: (22, 0, 0) :: (15, 2, 0) :: (12, 2, 0) :: (3, 4, 0) :: (3, 3, 0) :: (3, 2, 0) :: (3, 1, 0) :: (3, 0, 0) :: []
def SS0 : sk_S := ((0, 0), fun _ => (99, 0), fun _ _ => 0)
def dd0 : sk_D := (fun _ _ => 0, fun _ _ => 0)
theorem SS0_eq : SS0 = mkS 0 0 [] := by
  refine Prod.ext rfl (Prod.ext (funext fun a => ?_) rfl)
  show (99, 0) = if a ≤ 0 then kT a else (99, 0)
  by_cases e : a ≤ 0
  · rw [if_pos e, show a = 0 by omega]; rfl
  · rw [if_neg e]
theorem dd0_eq : dd0 = mkD [] := rfl
theorem bd0 : bdD 0 [] [] := ⟨fun e he => absurd he (by simp), fun e he => absurd he (by simp)⟩
theorem i_one : fX10_init (sk_nS SS0 9 0 (sk_N 9)) (sk_nD SS0 dd0) 1 = some (mkS 93 sS1 DD1, mkD EE1) ∧ bdD 93 DD1 EE1 := by
  rw [SS0_eq, dd0_eq]
  exact i_X10_1 bd0
theorem DD_ok : ∀ a, a < 116 → ∀ k, k < 40 → (rX a k = 0 ∨ (a, k) ∈ DDl) := by decide +kernel
theorem rL_len : ∀ a, a ≤ 115 → (rL.getD a []).length ≤ 40 := by decide +kernel
theorem i_Sh : Sh (mkS 115 sSz DDl) := by
  refine ⟨fun a ha => if_pos ha, fun a ha h40 k => ?_⟩
  show (if (a, k) ∈ DDl then rX a k else 0) = rT a k
  have e : rX a k = rT a k := if_neg h40
  by_cases m : (a, k) ∈ DDl
  · rw [if_pos m, e]
  · rw [if_neg m, ← e]
    by_cases hk : k < 40
    · exact ((DD_ok a (by omega) k hk).resolve_right m).symm
    · rw [e]
      unfold rT
      have := rL_len a ha
      rw [List.getD_eq_getElem?_getD, List.getElem?_eq_none (by omega)]
      rfl
theorem m_plain95 {S : sk_S} (hS : Sh S) (d : sk_D) : ∃ e, fX11_plain S d 95 = some e ∧ (∀ b, b ≠ 95 → e.1 b = d.1 b) ∧ e.2 = d.2 ∧ ∀ j, j < 1075 → e.1 95 j = 0 := by
  have loop := it_for (body := fX11_plain_L2 S 95) (fun k y => y.1 = nI k ∧ (∀ b, b ≠ 95 → y.2.1 b = d.1 b) ∧ y.2.2 = d.2 ∧ ∀ j, j < k → y.2.1 95 j = 0) 1075
    (fun e => (∀ b, b ≠ 95 → e.1 b = d.1 b) ∧ e.2 = d.2 ∧ ∀ j, j < 1075 → e.1 95 j = 0) ?_ ?_ (s := ((0 : Int32), d)) ⟨rfl, fun b hb => rfl, rfl, fun j hj => absurd hj (by omega)⟩
  · obtain ⟨e, he, h⟩ := loop
    refine ⟨e, ?_, h⟩
    unfold fX11_plain
    rw [he]; rfl
  · intro k y hk ⟨i1, i2, i3, i4⟩
    left
    unfold fX11_plain_L2
    rw [i1, if_neg (show ¬ (1075 : Int32) ≤ nI k from nI_ge (b := 1075) hk (by omega)), si95 hS _ _ (show k < 3225 by omega), Option.bind_some, nI_1]
    refine ⟨_, rfl, rfl, fun b hb => ?_, i3, fun j hj => ?_⟩
    · show (sk_uI y.2 95 _ _).1 b = _
      rw [uI_a _ _ _ _ _ hb]; exact i2 b hb
    · show (sk_uI y.2 95 k 0).1 95 j = 0
      by_cases q : j = k
      · rw [q, uI_s]
      · rw [uI_k _ _ _ _ _ q]; exact i4 j (by omega)
  · intro y ⟨i1, i2, i3, i4⟩
    refine ⟨y.2, ?_, i2, i3, i4⟩
    unfold fX11_plain_L2
    rw [i1, if_pos (show (1075 : Int32) ≤ nI 1075 from by decide)]
def LL0 : LF := ((0, 0, 0, 0), (fun _ _ => 0), fun _ => [])
def AA0 : AS := ([], (0, -1), LL0, 0, [], fun _ => none, fun _ => none)
theorem LL0_ok : okL LL0 := by
  have w0 : ∀ t, okW t [] := fun t => ⟨by simp, fun a => absurd rfl a, fun _ c hc => by simp at hc⟩
  exact ⟨by decide, by decide, ⟨0, by decide, rfl⟩, fun j hj => absurd hj (Nat.not_lt_zero _), fun j hj => absurd hj (Nat.not_lt_zero _), w0 0, w0 1⟩
theorem sp_zero : sp 0 = nI 0 := by decide +kernel
theorem AA0_ok : okA AA0 := by
  refine ⟨LL0_ok, ⟨fun i _ _ => ⟨bt0 i, bt0 (i + 8)⟩, fun i _ hb => ?_, 0, by decide, sp_zero⟩, fun x hx => absurd hx (by show x ∉ ([] : List Int32); simp), by show ([] : List Int32).length ≤ 10; simp, by show ([] : List Int32).length ≤ 900; simp, fun x hx => absurd hx (by show x ∉ ([] : List Int32); simp), fun t x hx => absurd hx (by show ¬ none = some x; simp), fun t x hx => absurd hx (by show ¬ none = some x; simp)⟩
  have : bt 0 i = true := hb
  rw [bt0] at this; exact absurd this (by decide)
theorem i_two : ∃ d, fX11_init (sk_nS (mkS 93 sS1 DD1) 10 0 (sk_N 10)) (sk_nD (mkS 93 sS1 DD1) (mkD EE1)) 94 = some (mkS 115 sSz DDl, d) ∧ RC (mkS 115 sSz DDl) d AA0 ∧ RM (mkS 115 sSz DDl) d AA0 := by
  have e := i_X11_94 i_one.2
  obtain ⟨d, p1, p2, p3, p4⟩ := m_plain95 i_Sh (mkD EEl)
  have e2 : fX11_init (sk_nS (mkS 93 sS1 DD1) 10 0 (sk_N 10)) (sk_nD (mkS 93 sS1 DD1) (mkD EE1)) 94 = (fX11_plain (mkS 115 sSz DDl) (mkD EEl) 95).bind fun d162 => some (mkS 115 sSz DDl, d162) := e
  have v : ∀ a, a ≠ 95 → ∀ k, d.1 a k = fnd EEl a k := fun a ha k => by rw [p2 a ha]; rfl
  have z2 : ∀ a k, d.2 a k = 0 := fun a k => by rw [p3]; rfl
  have kk : ∀ a k, fnd EEl a k = d.1 a k ∨ a = 95 := fun a k => by
    by_cases h : a = 95
    · exact Or.inr h
    · exact Or.inl (v a h k).symm
  refine ⟨d, by rw [e2, p1, Option.bind_some], ⟨⟨i_Sh, LL0_ok, ⟨?_, ?_, ?_, ?_, fun t j _ hj => absurd hj (Nat.not_lt_zero _), fun j hj => absurd hj (Nat.not_lt_zero _), ⟨?_, fun j hj => absurd hj (Nat.not_lt_zero _)⟩, ⟨?_, fun j hj => absurd hj (Nat.not_lt_zero _)⟩⟩, ⟨fun j l hj => absurd hj (Nat.not_lt_zero _), fun j l s hj => absurd hj (Nat.not_lt_zero _)⟩⟩, ⟨?_, ?_, fun i hi => absurd hi (Nat.not_lt_zero _)⟩, ⟨?_, fun i hi => absurd hi (Nat.not_lt_zero _)⟩, ⟨?_, ?_⟩, fun t ht => ?_, fun i hi => ?_, 41, 42, 43, 44, 1, ⟨by decide +kernel, by decide +kernel, by decide +kernel, by decide +kernel, by decide +kernel, by decide +kernel, by decide +kernel, by decide +kernel, Or.inl (by decide), Or.inl (by decide), Or.inl (by decide), Or.inl (by decide), by decide, by decide, ⟨0, by decide, by decide⟩, by decide, by decide +kernel, by decide +kernel, Or.inl (by decide +kernel)⟩, Or.inl ⟨?_, ?_, fun i hi => ?_⟩⟩, ⟨⟨i_Sh, LL0_ok, ⟨p4 0 (by omega), p4 1 (by omega), p4 2 (by omega), p4 3 (by omega), fun t j _ hj => absurd hj (Nat.not_lt_zero _), fun j hj => absurd hj (Nat.not_lt_zero _), ⟨p4 4 (by omega), fun a => absurd rfl a⟩, ⟨p4 5 (by omega), fun a => absurd rfl a⟩⟩⟩, ⟨⟨fun j hj => ?_, ?_⟩, p4 83 (by omega), fun i hi => absurd hi (Nat.not_lt_zero _)⟩, ⟨?_, fun i hi => absurd hi (Nat.not_lt_zero _)⟩, ⟨?_, ?_⟩, fun t ht => ?_, fun i hi => ?_⟩⟩
  · rw [v 3 (by decide)]; decide +kernel
  · rw [v 3 (by decide)]; decide +kernel
  · rw [v 3 (by decide)]; decide +kernel
  · rw [v 3 (by decide)]; decide +kernel
  · rw [v _ (by decide)]; decide +kernel
  · rw [v _ (by decide)]; decide +kernel
  · rw [v 50 (by decide)]; decide +kernel
  · rw [v 50 (by decide)]; decide +kernel
  · rw [v 1 (by decide)]; decide +kernel
  · rw [v 21 (by decide)]; decide +kernel
  · rw [v 21 (by decide)]; decide +kernel
  · show d.1 (56 + 2 * t) 3 = 0
    rw [v _ (by omega)]
    revert t
    decide +kernel
  · show d.1 54 i = -1
    rw [v 54 (by decide)]
    revert i
    decide +kernel
  · rw [v 40 (by decide)]; decide +kernel
  · rw [v 40 (by decide)]; decide +kernel
  · rw [v 42 (by decide), show i = 0 by omega]; decide +kernel
  · show d.1 95 (74 + j) = mood 0 j
    rw [p4 _ (by omega), mood0 (fun i _ => bt0 i) j hj]
  · show d.1 95 (74 + 8) = sp 0
    rw [p4 _ (by omega)]; decide +kernel
  · rw [v 94 (by decide)]; decide +kernel
  · rw [v 94 (by decide)]; decide +kernel
  · rw [v 94 (by decide)]; decide +kernel
  · show d.1 113 t = -1
    rw [v 113 (by decide)]
    revert t
    decide +kernel
  · show d.1 96 i = 0
    rw [v 96 (by decide)]
    revert i
    decide +kernel

