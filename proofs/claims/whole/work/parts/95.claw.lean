/-! the class reads a law -/
section
variable {S : sk_S} {T : TKS} {z a : Nat} {sl : Bool}
theorem GS.exp {d : sk_D} {i : Nat} {w : List Int32} (hS : Sh S) (hT : okT2 T z) (ha : LA1 S a) (h : GS T z a sl d i w) {k : Int32} (hk : k ≠ 202) : ∃ d', fX5_expect S d 21 k = some d' ∧ Fr (rdf a) d d' ∧ (T.1 i = k → GS T z a sl d' (i + 1) w) ∧ (T.1 i ≠ k → FS a d' (tfl T i 2)) := by
  obtain ⟨d', a1, a2, a3, a4⟩ := c_expG hS h.1 hT hk
  have cw := h.2.1.f21 ha.2.2.2.1 a2
  have hz := h.1.2.2.2
  refine ⟨d', a1, fr_rdf a a2, fun e => ?_, fun e => ⟨a4 e, w.length, by have := h.2.2.1; omega, cw.1⟩⟩
  obtain ⟨e1, e2⟩ := a3 e
  exact ⟨e2, cw, by have := h.2.2.1; omega, by rw [e1, uI_k _ _ _ _ _ (by omega)]; exact h.2.2.2⟩
theorem close_C (hS : Sh S) (hT : okT2 T z) (ha : LA1 S a) {fn : sk_D → Option sk_D} {X : Nat → PR} (h0 : CC T z a sl fn X) {k : Int32} (hk : k ≠ 202) (hk2 : k ≠ 203) {d : sk_D} {i : Nat} {w : List Int32} (h : GS T z a sl d i w) :
    ∃ d', ((fn d).bind fun d8 => if S.2.1 21 = (5, 0) then ((fX5_expect S d8 21 k).bind fun d12 => some d12) else none) = some d' ∧ Fr (rdf a) d d' ∧ (∀ x, closeB T k (X i) = .inl x → FS a d' x) ∧ ∀ y, closeB T k (X i) = .inr y → GS T z a sl d' y.1 (w ++ y.2) := by
  obtain ⟨d1, a1, a2, a3, a4⟩ := h0.2 d i w h
  unfold closeB
  rw [a1, Option.bind_some, if_pos (kd21 hS)]
  cases x : X i with
  | inl v =>
    have F := a3 v x
    rw [c_expF hS F.1 hk2]
    exact ⟨d1, rfl, a2, fun x a => by rw [← Sum.inl.inj a]; exact F, fun y a => absurd a (by simp)⟩
  | inr v =>
    obtain ⟨d2, b1, b2, b3, b4⟩ := (a4 v x).exp hS hT ha hk
    rw [b1]
    dsimp only
    by_cases q : T.1 v.1 = k
    · rw [if_pos q]
      exact ⟨d2, rfl, a2.trans b2, fun x a => absurd a (by simp), fun y a => by rw [← Sum.inr.inj a]; exact b3 q⟩
    · rw [if_neg q]
      exact ⟨d2, rfl, a2.trans b2, fun x a => by rw [← Sum.inl.inj a]; exact b4 q, fun y a => absurd a (by simp)⟩
def st0 (k : Int32) : Int32 := if k = 2 then -1 else if k = 3 then -2 else if k = 4 then -3 else if k = 5 then -4 else if k = 6 then -5 else if k = 7 then -6 else 0
theorem f_stepOf (S : sk_S) (d : sk_D) (k : Int32) : fX5_stepOf S d k = some (st0 k) := by
  unfold fX5_stepOf st0
  repeat' split
  all_goals rfl
theorem st0_stp (sl : Bool) (k : Int32) : stp sl k = if st0 k = -6 ∧ sl = false then 0 else st0 k := by
  unfold stp st0
  cases sl <;> (repeat' split) <;> simp_all
theorem c_atom (hS : Sh S) (hT : okT2 T z) (ha : LA1 S a) {r f : Nat} (hr : r ≤ 6) {o : Option (Nat → PR)} (ho : (r = 0 ∧ o = none) ∨ (∃ X, o = some X ∧ 1 ≤ r ∧ CC T z a sl (fun d => gX5 S f 4 d 21 a (nI (6 - r + 1))) X)) : CC T z a sl (fun d => gX5 S (f + 2) 6 d 21 a (nI (6 - r))) (gAtom T sl o) := by
  refine ⟨fun d x h => ?_, fun d i w h => ?_⟩
  · refine ⟨d, ?_, h, Fr.refl _ _⟩
    show fX5_atom_o (gX5 S (f + 1)) S d 21 a (nI (6 - r)) = some d
    unfold fX5_atom_o fX5_atom_J64
    rw [if_pos (kd21 hS), c_kindF hS h.1, Option.bind_some, if_neg (by decide), if_pos (kd21 hS), Option.bind_some, if_neg (by decide), if_pos (kd21 hS), Option.bind_some, f_stepOf, Option.bind_some, if_pos (by decide), if_pos (kd21 hS), c_failF hS h.1]
    rfl
  · have hz := h.1.2.2.2
    have hl := h.2.2.1
    show ∃ d', fX5_atom_o (gX5 S (f + 1)) S d 21 a (nI (6 - r)) = some d' ∧ _
    unfold fX5_atom_o gAtom
    rw [if_pos (kd21 hS), c_kindG hS h.1, Option.bind_some]
    by_cases k200 : T.1 i = 200
    · obtain ⟨v, hv, ev⟩ := hT.2.2.2 i hz.1 k200
      obtain ⟨u, d1, a1, a2, -, a4⟩ := c_numG hS h.1 hT 0 999
      have tn : tnu T 0 999 i = .inr (T.2.2 i) := by
        unfold tnu
        rw [if_pos k200, if_neg]
        rw [ev]
        intro q
        rcases q with q | q
        · exact nI_pos (by omega) q
        · exact q ((nI_leI (b := 999) (by omega) (by omega)).mpr (by omega))
      obtain ⟨e1, e2, e3⟩ := a4 _ tn
      have G1 : GS T z a sl d1 (i + 1) w := ⟨e3, h.2.1.f21 ha.2.2.2.1 a2, by omega, by rw [e2, uI_k _ _ _ _ _ (by omega)]; exact h.2.2.2⟩
      obtain ⟨d2, b1, b2, b3⟩ := G1.step hS ha (by omega) u
      rw [if_pos k200, if_pos k200, if_pos (kd21 hS), a1, Option.bind_some, if_pos ha.1, b1]
      refine ⟨d2, rfl, (fr_rdf a a2).trans b3, fun x a => absurd a (by simp), fun y a => ?_⟩
      rw [← Sum.inr.inj a, ← e1]
      exact b2
    · rw [if_neg k200, if_neg k200, if_pos (kd21 hS), Option.bind_some]
      by_cases k40 : T.1 i = 40
      · have hiz := tk_lt hT hz.1 (by rw [k40]; decide)
        rw [if_pos k40, if_pos k40, if_pos (kd21 hS)]
        show ∃ d', ((fX5_bracketed_o (gX5 S f) S d 21 a (nI (6 - r))).bind fun d38 => some d38) = some d' ∧ _
        unfold fX5_bracketed_o
        rcases ho with ⟨r0, rfl⟩ | ⟨X, rfl, r1, hX⟩
        · obtain ⟨d1, a1, a2, a3⟩ := h.fail hS ha (y := 4) (by decide)
          rw [if_neg (show ¬ nI (6 - r) < (6 : Int32) by rw [r0]; decide), if_pos (kd21 hS), a1]
          exact ⟨d1, rfl, a3, fun x a => by rw [← Sum.inl.inj a]; exact a2, fun y a => absurd a (by simp)⟩
        · obtain ⟨d1, a1, a2, a3⟩ := h.next hS ha hiz
          obtain ⟨d2, b1, b2, b3, b4⟩ := close_C hS hT ha hX (k := 41) (by decide) (by decide) a2
          rw [if_pos (show nI (6 - r) < (6 : Int32) from (nI_ltI (b := 6) (by omega) (by omega)).mpr (by omega)), if_pos (kd21 hS), a1, Option.bind_some, if_pos (kd21 hS), nI_1, b1]
          exact ⟨d2, rfl, a3.trans b2, b3, b4⟩
      · rw [if_neg k40, if_neg k40, if_pos (kd21 hS), Option.bind_some, f_stepOf, Option.bind_some, st0_stp]
        have bad : ∃ d', fX5_atom_J64 S 21 d = some d' ∧ Fr (rdf a) d d' ∧ FS a d' (tfl T i 2) := by
          obtain ⟨d1, a1, a2, a3⟩ := h.fail hS ha (y := 2) (by decide)
          unfold fX5_atom_J64
          rw [if_pos (kd21 hS), a1]
          exact ⟨d1, rfl, a3, a2⟩
        have good : st0 (T.1 i) ≠ 0 → ∃ d', fX5_atom_J70 S 21 a (st0 (T.1 i)) d = some d' ∧ Fr (rdf a) d d' ∧ GS T z a sl d' (i + 1) (w ++ [st0 (T.1 i)]) := by
          intro s0
          have hiz := tk_lt hT hz.1 (fun e => s0 (by rw [e]; decide))
          have h2 := ha.2.2.2
          obtain ⟨d1, a1, a2, a3⟩ := c_step hS ha h.2.1 (by omega) (st0 (T.1 i))
          have G1 : Gdx T z d1 i := h.1.fr (a3.mono (fun b hb => by unfold lwf at hb; omega))
          obtain ⟨n1, n2⟩ := c_nextG hS G1 hiz
          have fr : Fr f21 d1 (sk_uI d1 21 7 (nI (i + 1))) := Fr.uI _ rfl
          unfold fX5_atom_J70
          rw [if_pos ha.1, a1, Option.bind_some, if_pos (kd21 hS), n1]
          exact ⟨_, rfl, (fl_rdf a3).trans (fr_rdf a fr), n2, a2.f21 ha.2.2.2.1 fr, by rw [List.length_append]; simp; omega, by rw [uI_k _ _ _ _ _ (by omega), a3.i (b := 21) (by unfold lwf; omega)]; exact h.2.2.2⟩
        by_cases s0 : st0 (T.1 i) = 0
        · obtain ⟨d1, a1, a2, a3⟩ := bad
          rw [if_pos s0, a1, if_neg (show ¬ (st0 (T.1 i) = -6 ∧ sl = false) from fun q => by rw [s0] at q; exact absurd q.1 (by decide)), if_pos s0]
          exact ⟨d1, rfl, a2, fun x a => by rw [← Sum.inl.inj a]; exact a3, fun y a => absurd a (by simp)⟩
        · obtain ⟨d2, b1, b2, b3⟩ := good s0
          rw [if_neg s0]
          by_cases s6 : st0 (T.1 i) = -6
          · rw [if_pos s6, gi21 hS, Option.bind_some, h.2.2.2]
            cases sl with
            | true =>
              rw [if_neg (show ¬ sk_b true = 0 by decide), b1, if_neg (show ¬ (st0 (T.1 i) = -6 ∧ true = false) from fun q => absurd q.2 (by decide)), if_neg s0]
              exact ⟨d2, rfl, b2, fun x a => absurd a (by simp), fun y a => by rw [← Sum.inr.inj a]; exact b3⟩
            | false =>
              obtain ⟨d1, a1, a2, a3⟩ := bad
              rw [if_pos (show sk_b false = 0 by decide), a1, if_pos (show st0 (T.1 i) = -6 ∧ false = false from ⟨s6, rfl⟩), if_pos rfl]
              exact ⟨d1, rfl, a2, fun x a => by rw [← Sum.inl.inj a]; exact a3, fun y a => absurd a (by simp)⟩
          · rw [if_neg s6, b1, if_neg (show ¬ (st0 (T.1 i) = -6 ∧ sl = false) from fun q => s6 q.1), if_neg s0]
            exact ⟨d2, rfl, b2, fun x a => absurd a (by simp), fun y a => by rw [← Sum.inr.inj a]; exact b3⟩
/-- one more part, with its sign behind it -/
theorem more_C (hS : Sh S) (hT : okT2 T z) (ha : LA1 S a) {fn : sk_D → Option sk_D} {X : Nat → PR} (h0 : CC T z a sl fn X) (hX : LENP z T X) (v : Int32) {d : sk_D} {i : Nat} {w : List Int32} (h : GS T z a sl d i w) (hi : i < z) :
    ∃ d1 d2 d3, fX5_next S d 21 = some d1 ∧ fn d1 = some d2 ∧ fX1_step S d2 a v = some d3 ∧ Fr (rdf a) d d3 ∧ (∀ x, X (i + 1) = .inl x → FS a d3 x) ∧ ∀ y, X (i + 1) = .inr y → GS T z a sl d3 y.1 (w ++ y.2 ++ [v]) := by
  obtain ⟨d1, a1, a2, a3⟩ := h.next hS ha hi
  obtain ⟨d2, b1, b2, b3, b4⟩ := h0.2 d1 (i + 1) w a2
  cases x : X (i + 1) with
  | inl u =>
    obtain ⟨d3, c1, c2, c3⟩ := (b3 u x).step ha v
    exact ⟨d1, d2, d3, a1, b1, c1, (a3.trans b2).trans c3, fun x a => by rw [← Sum.inl.inj a]; exact c2, fun y a => absurd a (by simp)⟩
  | inr u =>
    have l := hX (i + 1) (by omega) u x
    obtain ⟨d3, c1, c2, c3⟩ := (b4 u x).step hS ha (by rw [List.length_append]; have := h.2.2.1; omega) v
    exact ⟨d1, d2, d3, a1, b1, c1, (a3.trans b2).trans c3, fun x a => absurd a (by simp), fun y a => by rw [← Sum.inr.inj a]; exact c2⟩
end
