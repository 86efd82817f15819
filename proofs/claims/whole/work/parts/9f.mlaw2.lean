/-! the reference reads a law: the parts in their order -/
section
variable {S : sk_S} {T : TKS} {z : Nat} {B : Nat → Nat} {n : Nat} {c : Nat → Int32} {sl : Bool}
theorem m_gSum (hS : Sh S) (hT : okT2 T z) (hN : NXT S T z B n c) : ∀ r f, r ≤ 6 → 3 * r + 3 ≤ f → MC T z B n c sl (fun d => gX11r S f 3 d 94 (nI (6 - r))) (gSum T sl r)
  | 0, f + 3, hr, hf => m_readSum hS hT hN (m_readTerm hS hT hN (m_readAtom (r := 0) hS hT hN hr (Or.inl ⟨rfl, rfl⟩)) (atom_len hT sl (fun s e => absurd e (by simp)))) (chain_len hT (atom_len hT sl (fun s e => absurd e (by simp))) (by decide))
  | r + 1, f + 3, hr, hf => by
    have ih := m_gSum hS hT hN r f (by omega) (by omega)
    have e : 6 - r = 6 - (r + 1) + 1 := by omega
    rw [e] at ih
    have ln : LENP z T (gAtom T sl (some (gSum T sl r))) := atom_len hT sl (fun s e => by obtain rfl := Option.some.inj e; exact sum_len hT sl r)
    exact m_readSum hS hT hN (m_readTerm hS hT hN (m_readAtom (r := r + 1) hS hT hN hr (Or.inr ⟨_, rfl, by omega, ih⟩)) ln) (chain_len hT ln (by decide))
  | 0, 0, hr, hf => by omega
  | 0, 1, hr, hf => by omega
  | 0, 2, hr, hf => by omega
  | r + 1, 0, hr, hf => by omega
  | r + 1, 1, hr, hf => by omega
  | r + 1, 2, hr, hf => by omega
theorem m_J151F (hS : Sh S) {f : Nat} {dp v : Int32} {X : Nat → PR} (hs : MC T z B n c sl (fun d => gX11r S f 3 d 94 dp) X) {d : sk_D} {x : FLT} (h : MFd d x) : ∃ d', fX11_readUnit_J151 (gX11r S f) S 94 dp v d = some d' ∧ MFd d' x ∧ mlf d d' := by
  obtain ⟨d1, a1, a2, a3⟩ := hs.1 d x h
  dsimp only at a1
  unfold fX11_readUnit_J151
  rw [if_pos (kd94 hS), a1, Option.bind_some, if_pos (kd94 hS), m_codesF hS a2]
  exact ⟨d1, rfl, a2, a3⟩
theorem m_J111F (hS : Sh S) {f : Nat} {dp v : Int32} {X : Nat → PR} (hs : MC T z B n c sl (fun d => gX11r S f 3 d 94 dp) X) {d : sk_D} {x : FLT} (h : MFd d x) : ∃ d', fX11_readUnit_J111 (gX11r S f) S 94 dp v d = some d' ∧ MFd d' x ∧ mlf d d' := by
  obtain ⟨d1, a1, a2, a3⟩ := m_J151F (v := v) hS hs h
  unfold fX11_readUnit_J111
  rw [if_pos (kd94 hS), m_isF hS h, Option.bind_some, if_neg (by decide), if_pos (kd94 hS), m_isF hS h, Option.bind_some, if_neg (by decide), if_pos (kd94 hS), m_isF hS h, Option.bind_some, if_neg (by decide), if_pos (kd94 hS), m_failF hS h, Option.bind_some, a1]
  exact ⟨d1, rfl, a2, a3⟩
theorem m_readUnit (hS : Sh S) (hT : okT2 T z) (hN : NXT S T z B n c) {r f : Nat} (hr : r ≤ 6) {s : Nat → PR} (hs : MC T z B n c sl (fun d => gX11r S f 3 d 94 (nI (6 - r))) s) (hl : LENP z T s) {o : Option (Nat → PR)}
    (ho : (r = 0 ∧ o = none) ∨ (∃ X, o = some X ∧ 1 ≤ r ∧ LENP z T X ∧ MC T z B n c sl (fun d => gX11r S f 2 d 94 (nI (6 - r + 1))) X ∧ MC T z B n c sl (fun d => gX11r S f 0 d 94 (nI (6 - r + 1))) (chain T (chain T X oAnd) oOr))) : MC T z B n c sl (fun d => gX11r S (f + 1) 2 d 94 (nI (6 - r))) (gUnitB T s o) := by
  refine ⟨fun d x h => ?_, fun d i W h => ?_⟩
  · obtain ⟨d1, a1, a2, a3⟩ := hs.1 d x h
    obtain ⟨d2, b1, b2, b3⟩ := m_J111F (v := 3005) hS hs a2
    refine ⟨d2, ?_, b2, a3.trans b3⟩
    show fX11_readUnit_o (gX11r S f) S d 94 (nI (6 - r)) = some d2
    unfold fX11_readUnit_o
    dsimp only at a1
    rw [if_pos (kd94 hS), m_isF hS h, Option.bind_some, if_neg (by decide), if_pos (kd94 hS), m_isF hS h, Option.bind_some, if_neg (by decide), if_pos (kd94 hS), a1, Option.bind_some, if_pos (kd94 hS), m_isF hS a2, Option.bind_some, if_neg (by decide), if_pos (kd94 hS), m_isF hS a2, Option.bind_some, if_neg (by decide), b1]
  · have hz := h.1.2.2.2.2
    show ∃ d', fX11_readUnit_o (gX11r S f) S d 94 (nI (6 - r)) = some d' ∧ _
    unfold fX11_readUnit_o gUnitB
    rw [if_pos (kd94 hS), m_isG hS h.1 (a := 18) (r := 18) (by decide), Option.bind_some]
    by_cases k18 : T.1 i = 18
    · have hiz := tk_lt hT hz.1 (by rw [k18]; decide)
      rw [decide_eq_true k18, if_pos rfl, if_pos (kd94 hS), if_pos k18]
      rcases ho with ⟨r0, rfl⟩ | ⟨X, rfl, r1, ln, h2, h3⟩
      · obtain ⟨d1, a1, a2, a3⟩ := m_goes0 hS h
        rw [r0, a1, Option.bind_some, if_neg (show ¬ (false, d1).1 = true from Bool.false_ne_true)]
        exact ⟨d1, rfl, a3, fun x a => by rw [← Sum.inl.inj a]; exact a2, fun y a => absurd a (by simp)⟩
      · obtain ⟨d1, a1, a2, a3⟩ := m_goes hS hN h hiz r1 hr
        obtain ⟨d2, d3, b1, b2, b3, b4, b5⟩ := more_M hS h2 ln 3006 h.2.2.1 a2
        rw [a1, Option.bind_some, if_pos rfl, if_pos (kd94 hS), nI_1, b1, Option.bind_some, if_pos (kd94 hS), b2]
        dsimp only
        refine ⟨d3, rfl, a3.trans b3, fun x a => ?_, fun y a => ?_⟩
        · cases x2 : X (i + 1) with
          | inl u => rw [x2] at a; rw [← Sum.inl.inj a]; exact b4 u x2
          | inr u => rw [x2] at a; exact absurd a (by simp)
        · cases x2 : X (i + 1) with
          | inl u => rw [x2] at a; exact absurd a (by simp)
          | inr u =>
            rw [x2] at a
            rw [← Sum.inr.inj a]
            have := b5 u x2
            simp only [List.map_append, List.map_cons, List.map_nil, List.append_assoc] at this ⊢
            exact this
    · rw [decide_eq_false k18, if_neg Bool.false_ne_true, if_neg k18, if_pos (kd94 hS), m_isG hS h.1 (a := 91) (r := 37) (by decide), Option.bind_some]
      by_cases k91 : T.1 i = 91
      · have hiz := tk_lt hT hz.1 (by rw [k91]; decide)
        rw [decide_eq_true k91, if_pos rfl, if_pos (kd94 hS), if_pos k91]
        rcases ho with ⟨r0, rfl⟩ | ⟨X, rfl, r1, ln, h2, h3⟩
        · obtain ⟨d1, a1, a2, a3⟩ := m_goes0 hS h
          rw [r0, a1, Option.bind_some, if_neg (show ¬ (false, d1).1 = true from Bool.false_ne_true)]
          exact ⟨d1, rfl, a3, fun x a => by rw [← Sum.inl.inj a]; exact a2, fun y a => absurd a (by simp)⟩
        · obtain ⟨d1, a1, a2, a3⟩ := m_goes hS hN h hiz r1 hr
          obtain ⟨d2, b1, b2, b3, b4⟩ := close_M hS hT hN h3 (k := 93) (r := 38) (by decide) (by decide) a2
          rw [a1, Option.bind_some, if_pos rfl, if_pos (kd94 hS), nI_1, b1]
          exact ⟨d2, rfl, a3.trans b2, b3, b4⟩
      · obtain ⟨d1, a1, a2, a3, a4⟩ := hs.2 d i W h
        dsimp only at a1
        rw [decide_eq_false k91, if_neg Bool.false_ne_true, if_neg k91, if_pos (kd94 hS), a1, Option.bind_some, if_pos (kd94 hS)]
        unfold gComp
        cases x : s i with
        | inl v =>
          have F := a3 v x
          obtain ⟨d2, b1, b2, b3⟩ := m_J111F (v := 3005) hS hs F
          rw [m_isF hS F, Option.bind_some, if_neg (by decide), if_pos (kd94 hS), m_isF hS F, Option.bind_some, if_neg (by decide), b1]
          exact ⟨d2, rfl, a2.trans b3, fun x a => by rw [← Sum.inl.inj a]; exact b2, fun y a => absurd a (by simp)⟩
        | inr v =>
          have G := a4 v x
          have l1 := hl i hz.1 v x
          dsimp only
          have i39 := m_isG hS G.1 (a := 61) (r := 39) (by decide)
          have i40 := m_isG hS G.1 (a := 60) (r := 40) (by decide)
          have i41 := m_isG hS G.1 (a := 62) (r := 41) (by decide)
          by_cases q : oCmp (T.1 v.1) = 0
          · have n61 : ¬ T.1 v.1 = 61 := fun e => by rw [e] at q; exact absurd q (by decide)
            have n60 : ¬ T.1 v.1 = 60 := fun e => by rw [e] at q; exact absurd q (by decide)
            have n62 : ¬ T.1 v.1 = 62 := fun e => by rw [e] at q; exact absurd q (by decide)
            obtain ⟨d2, b1, b2, b3⟩ := G.fail hS (y := 2) (by decide)
            obtain ⟨d3, c1, c2, c3⟩ := m_J151F (v := 3005) hS hs b2
            rw [if_pos q, i39, Option.bind_some, decide_eq_false n61, if_neg Bool.false_ne_true, if_pos (kd94 hS), i40, Option.bind_some, decide_eq_false n60, if_neg Bool.false_ne_true]
            unfold fX11_readUnit_J111
            rw [if_pos (kd94 hS), i39, Option.bind_some, decide_eq_false n61, if_neg Bool.false_ne_true, if_pos (kd94 hS), i40, Option.bind_some, decide_eq_false n60, if_neg Bool.false_ne_true, if_pos (kd94 hS), i41, Option.bind_some, decide_eq_false n62, if_neg Bool.false_ne_true, if_pos (kd94 hS), b1, Option.bind_some, c1]
            exact ⟨d3, rfl, (a2.trans b3).trans c3, fun x a => by rw [← Sum.inl.inj a]; exact c2, fun y a => absurd a (by simp)⟩
          · have e : T.1 v.1 = 61 ∨ T.1 v.1 = 60 ∨ T.1 v.1 = 62 := by
              apply Classical.byContradiction
              intro w
              exact q (by unfold oCmp; rw [if_neg (fun a => w (Or.inl a)), if_neg (fun a => w (Or.inr (Or.inl a))), if_neg (fun a => w (Or.inr (Or.inr a)))])
            obtain ⟨e1, g1, g2, g3⟩ := G.next hN (op_lt hT l1.2.2 (by decide) q)
            obtain ⟨e2, e3, b1, b2, b3, b4, b5⟩ := more_M hS hs hl (cod (oCmp (T.1 v.1))) G.2.2.1 g2
            have j139 : ∀ w : Int32, w = cod (oCmp (T.1 v.1)) → fX11_readUnit_J139 (gX11r S f) S 94 (nI (6 - r)) w d1 = some e3 := by
              intro w hw
              unfold fX11_readUnit_J139 fX11_readUnit_J151
              rw [hw, if_pos (kd94 hS), g1, Option.bind_some, if_pos (kd94 hS), b1, Option.bind_some, if_pos (kd94 hS), b2]
              rfl
            have j111 : ∀ w : Int32, w = cod (oCmp (T.1 v.1)) → fX11_readUnit_J111 (gX11r S f) S 94 (nI (6 - r)) w d1 = some e3 := by
              intro w hw
              unfold fX11_readUnit_J111
              rw [if_pos (kd94 hS), i39, Option.bind_some]
              rcases e with e | e | e
              · rw [decide_eq_true e, if_pos rfl]; exact j139 w hw
              · rw [decide_eq_false (by rw [e]; decide), if_neg Bool.false_ne_true, if_pos (kd94 hS), i40, Option.bind_some, decide_eq_true e, if_pos rfl]; exact j139 w hw
              · rw [decide_eq_false (by rw [e]; decide), if_neg Bool.false_ne_true, if_pos (kd94 hS), i40, Option.bind_some, decide_eq_false (by rw [e]; decide), if_neg Bool.false_ne_true, if_pos (kd94 hS), i41, Option.bind_some, decide_eq_true e, if_pos rfl]; exact j139 w hw
            have fin : ∃ d', (some e3 : Option sk_D) = some d' ∧ mlf d d' ∧ (∀ x, (match s (v.1 + 1) with | .inl x => .inl x | .inr u => .inr (u.1, v.2 ++ u.2 ++ [oCmp (T.1 v.1)]) : PR) = .inl x → MFd d' x) ∧ ∀ y, (match s (v.1 + 1) with | .inl x => .inl x | .inr u => .inr (u.1, v.2 ++ u.2 ++ [oCmp (T.1 v.1)]) : PR) = .inr y → MGS T z B n c sl d' y.1 (W ++ y.2.map cod) := by
              refine ⟨e3, rfl, (a2.trans g3).trans b3, fun x a => ?_, fun y a => ?_⟩
              · cases x2 : s (v.1 + 1) with
                | inl u => rw [x2] at a; rw [← Sum.inl.inj a]; exact b4 u x2
                | inr u => rw [x2] at a; exact absurd a (by simp)
              · cases x2 : s (v.1 + 1) with
                | inl u => rw [x2] at a; exact absurd a (by simp)
                | inr u =>
                  rw [x2] at a
                  rw [← Sum.inr.inj a]
                  have := b5 u x2
                  simp only [List.map_append, List.map_cons, List.map_nil, List.append_assoc] at this ⊢
                  exact this
            rw [if_neg q, i39, Option.bind_some]
            rcases e with e | e | e
            · rw [decide_eq_true e, if_pos rfl, j111 3003 (by rw [e]; decide)]; exact fin
            · rw [decide_eq_false (by rw [e]; decide), if_neg Bool.false_ne_true, if_pos (kd94 hS), i40, Option.bind_some, decide_eq_true e, if_pos rfl, j111 3004 (by rw [e]; decide)]; exact fin
            · rw [decide_eq_false (by rw [e]; decide), if_neg Bool.false_ne_true, if_pos (kd94 hS), i40, Option.bind_some, decide_eq_false (by rw [e]; decide), if_neg Bool.false_ne_true, j111 3005 (by rw [e]; decide)]; exact fin
theorem m_gUnit (hS : Sh S) (hT : okT2 T z) (hN : NXT S T z B n c) : ∀ r f, r ≤ 6 → 4 * r + 5 ≤ f → MC T z B n c sl (fun d => gX11r S f 2 d 94 (nI (6 - r))) (gUnit T sl r)
  | 0, f + 1, hr, hf => m_readUnit (r := 0) hS hT hN hr (m_gSum hS hT hN 0 f (by omega) (by omega)) (sum_len hT sl 0) (Or.inl ⟨rfl, rfl⟩)
  | r + 1, f + 3, hr, hf => by
    have i2 := m_gUnit hS hT hN r (f + 2) (by omega) (by omega)
    have i0 := m_gUnit hS hT hN r f (by omega) (by omega)
    have e : 6 - r = 6 - (r + 1) + 1 := by omega
    rw [e] at i2 i0
    have ln := gUnit_len hT sl r
    have h0 := m_readTruth hS hT hN (m_readBoth hS hT hN i0 ln) (chain_len hT ln (by decide))
    exact m_readUnit (r := r + 1) hS hT hN hr (m_gSum hS hT hN (r + 1) (f + 2) (by omega) (by omega)) (sum_len hT sl (r + 1)) (Or.inr ⟨_, rfl, by omega, ln, i2, h0⟩)
  | 0, 0, hr, hf => by omega
  | r + 1, 0, hr, hf => by omega
  | r + 1, 1, hr, hf => by omega
  | r + 1, 2, hr, hf => by omega
theorem m_gTruth (hS : Sh S) (hT : okT2 T z) (hN : NXT S T z B n c) : MC T z B n c sl (fun d => fX11_readTruth S d 94 0) (gTruth T sl 6) := by
  have h := m_gUnit (sl := sl) hS hT hN 6 98 (by omega) (by omega)
  exact m_readTruth hS hT hN (m_readBoth hS hT hN h (gUnit_len hT sl 6)) (chain_len hT (gUnit_len hT sl 6) (by decide))
end
