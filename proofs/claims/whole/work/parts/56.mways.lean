/-! the reference comes to a set -/
section
variable {S : sk_S} {L : LF} {f : Int32} {Q : List TQ} {K : Nat → Nat} {G : Nat → Prop}
theorem m_far69 {d : sk_D} (h : LY S d L f Q K) (hF : FI d L Q G) :
    ∃ e, sk_itr (fX11_laysFar_L69 S 94) ((0 : Int32), nI Q.length - (1 : Int32), d) = some e ∧ FI e.2 L Q G ∧ Fr (fun b => b = 104) d e.2 ∧ ((e.1 = 0 ∧ (∀ i, i < Q.length → vf e.2 Q i = vf d Q i) ∧ ∀ k, k < Q.length → lfx d L Q k) ∨ (e.1 = 1 ∧ smv e.2 Q < smv d Q)) := by
  have hn := h.2.2.2.2.2.2.1
  have len := h.2.2.2.2.2.2.2.1
  have loop := it_for (body := fX11_laysFar_L69 S 94) (fun t z => z.2.1 = nI (Q.length - t) - (1 : Int32) ∧ (z.1 = 0 ∨ z.1 = 1) ∧ FI z.2.2 L Q G ∧ Fr (fun b => b = 104) d z.2.2 ∧ ((z.1 = 0 ∧ (∀ i, i < Q.length → vf z.2.2 Q i = vf d Q i) ∧ ∀ k, Q.length - t ≤ k → k < Q.length → lfx d L Q k) ∨ (z.1 = 1 ∧ smv z.2.2 Q < smv d Q))) Q.length
    (fun e => FI e.2 L Q G ∧ Fr (fun b => b = 104) d e.2 ∧ ((e.1 = 0 ∧ (∀ i, i < Q.length → vf e.2 Q i = vf d Q i) ∧ ∀ k, k < Q.length → lfx d L Q k) ∨ (e.1 = 1 ∧ smv e.2 Q < smv d Q))) ?_ ?_ (s := ((0 : Int32), nI Q.length - (1 : Int32), d)) ⟨rfl, Or.inl rfl, hF, Fr.refl _ _, Or.inl ⟨rfl, fun i _ => rfl, fun k h1 h2 => by omega⟩⟩
  · exact loop
  · intro t z ht ⟨i1, i2, i3, i4, i5⟩
    left
    have e1 : nI (Q.length - t) - (1 : Int32) = nI (Q.length - t - 1) := by rw [show (1 : Int32) = nI 1 from rfl, pk_sub (by omega)]
    obtain ⟨y, y1, y2, y3, y4⟩ := m_far77 (h.same i4) i3 (k := Q.length - t - 1) (by omega) i2
    unfold fX11_laysFar_L69
    rw [i1, e1, if_neg (nI_pos (by omega)), y1, Option.bind_some]
    refine ⟨_, rfl, by rw [show Q.length - (t + 1) = Q.length - t - 1 by omega], ?_, y2, i4.trans y3, ?_⟩
    · rcases y4 with ⟨a, b, c⟩ | ⟨a, b⟩
      · rw [a]; exact i2
      · exact Or.inr a
    · rcases i5 with ⟨a, b, c⟩ | ⟨a, b⟩
      · rcases y4 with ⟨a2, b2, c2⟩ | ⟨a2, b2⟩
        · left
          refine ⟨a2.trans a, fun i hi => (b2 i hi).trans (b i hi), fun k h1 h2 => ?_⟩
          by_cases ck : k = Q.length - t - 1
          · subst ck
            unfold lfx at c2 ⊢
            rw [b _ h2] at c2
            rcases c2 with c2 | c2
            · exact Or.inl c2
            · right
              intro mv hm
              have := c2 mv hm
              rw [fbN_same b hn] at this
              exact this
          · exact c k (by omega) h2
        · right
          refine ⟨a2, ?_⟩
          rw [smv_eq b] at b2
          exact b2
      · right
        rcases y4 with ⟨a2, b2, c2⟩ | ⟨a2, b2⟩
        · exact ⟨a2.trans a, by show smv y.2 Q < _; rw [smv_eq b2]; exact b⟩
        · exact ⟨a2, Nat.lt_trans b2 b⟩
  · intro z ⟨i1, i2, i3, i4, i5⟩
    unfold fX11_laysFar_L69
    rw [i1, Nat.sub_self, if_pos (by decide)]
    refine ⟨_, rfl, i3, i4, ?_⟩
    rcases i5 with ⟨a, b, c⟩ | a
    · exact Or.inl ⟨a, b, fun k hk => c k (by omega) hk⟩
    · exact Or.inr a
theorem m_far55 {d : sk_D} (h : LY S d L f Q K) (hF : FI d L Q G) :
    ∃ e, sk_itr (fX11_laysFar_L55 S 94) ((1 : Int32), d) = some e ∧ FI e L Q G ∧ Fr (fun b => b = 104) d e ∧ ∀ k, k < Q.length → lfx e L Q k := by
  have hS := h.1
  have hn := h.2.2.2.2.2.2.1
  refine it_wf (body := fX11_laysFar_L55 S 94) (fun z => FI z.2 L Q G ∧ Fr (fun b => b = 104) d z.2 ∧ (z.1 = 0 ∨ z.1 = 1) ∧ (z.1 = 0 → ∀ k, k < Q.length → lfx z.2 L Q k)) (fun z => 2 * smv z.2 Q + z.1.toNatClampNeg) (fun e => FI e L Q G ∧ Fr (fun b => b = 104) d e ∧ ∀ k, k < Q.length → lfx e L Q k) ?_ ((1 : Int32), d) ⟨hF, Fr.refl _ _, Or.inr rfl, fun a => absurd (show (1 : Int32) = 0 from a) (by decide)⟩
  intro z ⟨i1, i2, i3, i4⟩
  unfold fX11_laysFar_L55
  rcases i3 with c | c
  · right
    rw [if_pos c]
    exact ⟨_, rfl, i1, i2, i4 c⟩
  · left
    obtain ⟨y, y1, y2, y3, y4⟩ := m_far69 (h.same i2) i1
    rw [if_neg (by rw [c]; decide), gi94 hS, Option.bind_some, (h.same i2).2.2.1, y1, Option.bind_some]
    refine ⟨_, rfl, ⟨y2, i2.trans y3, ?_, ?_⟩, ?_⟩
    · rcases y4 with ⟨a, b, e⟩ | ⟨a, b⟩
      · exact Or.inl a
      · exact Or.inr a
    · intro a
      rcases y4 with ⟨a2, b, e⟩ | ⟨a2, b⟩
      · intro k hk
        have := e k hk
        unfold lfx at this ⊢
        show vf y.2 Q k = 0 ∨ _
        rw [b k hk]
        rcases this with q | q
        · exact Or.inl q
        · right; intro mv hm; rw [fbN_same b hn]; exact q mv hm
      · have a1 : y.1 = 0 := a
        rw [a2] at a1; exact absurd a1 (by decide)
    · have z1 : z.1.toNatClampNeg = 1 := by rw [c]; rfl
      rcases y4 with ⟨a, b, e⟩ | ⟨a, b⟩
      · show 2 * smv y.2 Q + y.1.toNatClampNeg < 2 * smv z.2 Q + z.1.toNatClampNeg
        rw [smv_eq b, a, z1]
        show 2 * smv z.2 Q + 0 < _
        omega
      · show 2 * smv y.2 Q + y.1.toNatClampNeg < 2 * smv z.2 Q + z.1.toNatClampNeg
        rw [a, z1]
        show 2 * smv y.2 Q + 1 < _
        omega
/-- at the end it is the least -/
theorem far_le {d : sk_D} (h : LY S d L f Q K) (hF : FI d L Q G) (hx : ∀ k, k < Q.length → lfx d L Q k) : ∀ n i, pth L Q G i n → vf d Q i ≤ n
  | 0, i, hp => by have := (hF i hp.2).2.2.1 hp.1; omega
  | n + 1, i, hp => by
    obtain ⟨mv, j, he, hj⟩ := hp
    have ih := far_le h hF hx n j hj
    rcases hx i he.1 with c | c
    · omega
    · have := c mv he.2.1
      rw [fbN_e h.2.2.2.2.2.2.1 he] at this
      by_cases c2 : vf d Q j < FA
      · rw [if_pos c2] at this; omega
      · rw [if_neg c2] at this
        omega
theorem pth_goal : ∀ n i, pth L Q G i n → ∃ j, j < Q.length ∧ G j
  | 0, i, hp => ⟨i, hp.2, hp.1⟩
  | n + 1, i, hp => by obtain ⟨mv, j, he, hj⟩ := hp; exact pth_goal n j hj
theorem vf_anc {d : sk_D} (h : LY S d L f Q K) (hF : FI d L Q G) (hx : ∀ k, k < Q.length → lfx d L Q k) {g D : Nat} (hg : g < Q.length) (hG : G g) (hfirst : ∀ i, i < g → ¬ G i) (hD2 : ∀ k, k < D → 1 ≤ anc K g k) : vf d Q (anc K g D) = D := by
  have hB := h.2.2.2.2.2.2.2.2
  have len := h.2.2.2.2.2.2.2.1
  have hn := h.2.2.2.2.2.2.1
  have a := far_le h hF hx D _ (anc_pth hB hg hG D hD2)
  have al := anc_lt hB hg D hD2
  have b := (hF _ al.2).2.2.2.2 (by unfold FA; omega)
  have c := anc_min hB hn hg hfirst hD2 b
  omega
end
theorem m_far6 {S : sk_S} {d : sk_D} {L : LF} {f : Int32} {Q : List TQ} {K : Nat → Nat} (hM : MI S d L) (h : LY S d L f Q K) (b : Bool) (set : Int32) : ∃ e, sk_itr (fX11_laysFar_L6 S 94 set b) ((0 : Int32), d) = some e ∧ FI e L Q (fun i => gl b set (gq Q i).1) ∧ Fr (fun a => a = 104) d e := by
  have hS := h.1
  have len := h.2.2.2.2.2.2.2.1
  have hn := h.2.2.2.2.2.2.1
  have hA := h.2.2.2.2.2.1
  have loop := it_for (body := fX11_laysFar_L6 S 94 set b) (fun k z => z.1 = nI k ∧ Fr (fun a => a = 104) d z.2 ∧ ∀ i, i < k → (gl b set (gq Q i).1 → z.2.1 104 (stN (gq Q i).1) = 0) ∧ (¬ gl b set (gq Q i).1 → z.2.1 104 (stN (gq Q i).1) = 268435456)) Q.length
    (fun e => Fr (fun a => a = 104) d e ∧ ∀ i, i < Q.length → (gl b set (gq Q i).1 → e.1 104 (stN (gq Q i).1) = 0) ∧ (¬ gl b set (gq Q i).1 → e.1 104 (stN (gq Q i).1) = 268435456)) ?_ ?_ (s := ((0 : Int32), d)) ⟨rfl, Fr.refl _ _, fun i hi => by omega⟩
  · obtain ⟨e, he, e1, e2⟩ := loop
    refine ⟨e, he, ?_, e1⟩
    intro i hi
    obtain ⟨a1, a2⟩ := e2 i hi
    by_cases c : gl b set (gq Q i).1
    · have v : vf e Q i = 0 := by unfold vf; rw [a1 c]; rfl
      rw [v]
      exact ⟨a1 c, by unfold FA; omega, fun _ => rfl, fun a => absurd c a, fun _ => ⟨c, hi⟩⟩
    · have v : vf e Q i = FA := by unfold vf; rw [a2 c]; rfl
      rw [v]
      exact ⟨a2 c, Nat.le_refl _, fun a => absurd a c, fun _ => by unfold FA; omega, fun a => absurd a (Nat.lt_irrefl _)⟩
  · intro k z hk ⟨i1, i2, i3⟩
    left
    have hL := h.same i2
    have gk := hL.2.2.2.1 k hk
    have okx := hA _ (List.mem_of_getElem? (gq_some hk))
    obtain ⟨hz, ez⟩ := stN_eq (gq Q k).1
    have hM2 : MI S z.2 L := hM.fr (i2.i (by omega))
    have ha := m_hasAll hM2 okx.1.z set b
    have keep : ∀ v : Int32, ∀ i, i < k → (gl b set (gq Q i).1 → (sk_uI z.2 104 (stN (gq Q k).1) v).1 104 (stN (gq Q i).1) = 0) ∧ (¬ gl b set (gq Q i).1 → (sk_uI z.2 104 (stN (gq Q k).1) v).1 104 (stN (gq Q i).1) = 268435456) := by
      intro v i hi
      rw [uI_k]
      · exact i3 i hi
      · intro a
        have e := stN_inj (hA _ (List.mem_of_getElem? (gq_some (show i < Q.length by omega)))) okx a
        have := hn i k _ _ (gq_some (by omega)) (gq_some hk) e
        omega
    unfold fX11_laysFar_L6
    rw [i1, gi94 hS, Option.bind_some, hL.2.2.1, if_neg (nI_ge hk (by omega)), gr94_23 hS, Option.bind_some, gr94_21 hS, Option.bind_some, li102 hS _ (by omega), Option.bind_some, gk, Option.bind_some, li102 hS _ (by omega), Option.bind_some, gk, if_pos (kd94 hS)]
    by_cases c : gl b set (gq Q k).1
    · rw [ha.1 c, Option.bind_some, if_pos rfl, ez, si104 hS _ _ hz, Option.bind_some]
      refine ⟨_, rfl, nI_1 k, i2.tI rfl, fun i hi => ?_⟩
      by_cases ci : i = k
      · subst ci; exact ⟨fun _ => uI_s _ _ _ _, fun a => absurd c a⟩
      · exact keep 0 i (by omega)
    · rw [ha.2 c, Option.bind_some, if_neg (by decide), ez, si104 hS _ _ hz, Option.bind_some]
      refine ⟨_, rfl, nI_1 k, i2.tI rfl, fun i hi => ?_⟩
      by_cases ci : i = k
      · subst ci; exact ⟨fun a => absurd a c, fun _ => uI_s _ _ _ _⟩
      · exact keep _ i (by omega)
  · intro z ⟨i1, i2, i3⟩
    have hL := h.same i2
    unfold fX11_laysFar_L6
    rw [i1, gi94 hS, Option.bind_some, hL.2.2.1, if_pos (nI_le (Nat.le_refl _) (by omega))]
    exact ⟨_, rfl, i2, i3⟩
theorem m_laysFar {S : sk_S} {d : sk_D} {A : AS} (h : RM S d A) (hA : okA A) (b : Bool) (set : Int32) :
    ∃ d', fX11_laysFar S d 94 set b = some (match dst (as_L A) (st16 (as_m A)) b set with | some D => nI D | none => 268435456, d') ∧ RM S d' A ∧ Fr mdl d d' ∧ LY S d' (as_L A) (st16 (as_m A)) (bq (as_L A) (st16 (as_m A))) (kq (as_L A) (st16 (as_m A))) ∧
      FI d' (as_L A) (bq (as_L A) (st16 (as_m A))) (fun i => gl b set (gq (bq (as_L A) (st16 (as_m A))) i).1) ∧ ∀ k, k < (bq (as_L A) (st16 (as_m A))).length → lfx d' (as_L A) (bq (as_L A) (st16 (as_m A))) k := by
  have hS := h.1.1
  have hf := ok_16 hA.2.1
  have hB := kq_BI hA.1 hf
  obtain ⟨d1, a1, a2, a3, a4, a5, a6⟩ := m_lays h hA
  obtain ⟨b1, b2, b3⟩ := bq_ok hA.1 hf
  have ly : LY S d1 (as_L A) (st16 (as_m A)) (bq (as_L A) (st16 (as_m A))) (kq (as_L A) (st16 (as_m A))) :=
    ⟨hS, hA.1, a2.1, fun i hi => a2.2.1 i _ (gq_some hi), fun i mv hi hm => a3 i _ hi (gq_some hi) mv hm, b1, b2, b3, hB⟩
  obtain ⟨d2, e1, e2, e3⟩ := m_far6 a4.1 ly b set
  obtain ⟨d3, r1, r2, r3, r4⟩ := m_far55 (ly.same e3) e2
  have f13 : Fr (fun a => a = 104) d1 d3 := e3.trans r3
  have rm3 : RM S d3 A := a4.bf hA.2.2.2.1 (f13.mono (fun b hb => by unfold bfm; omega)) (fun j _ => by rw [f13.i (b := 94) (by omega)])
  have ly3 := ly.same f13
  obtain ⟨hz, ez⟩ := stN_eq (st16 (as_m A))
  have h0 := hB.1
  have g0 := hB.2.1
  have v0 := (r2 0 h0).1
  rw [g0] at v0
  dsimp only at v0
  refine ⟨d3, ?_, rm3, (mfr.bf a5 a6).1.2.2.2.2.trans (f13.mono (fun b hb => by unfold mdl; omega)), ly3, r2, r4⟩
  unfold fX11_laysFar
  rw [if_pos (kd94 hS), a1, Option.bind_some, e1, Option.bind_some, r1, Option.bind_some, gr94_23 hS, Option.bind_some, if_pos (kd94 hS), m_stand hS rm3.2.1.1.1, Option.bind_some, ← stnd_16, ez, li104 hS _ hz, Option.bind_some, v0]
  congr 2
  unfold dst
  rcases fg_cases (bq (as_L A) (st16 (as_m A))) (gl b set) with ⟨g, g1, g2, g3, g4⟩ | ⟨g1, g2⟩
  · have e : fgl (as_L A) (st16 (as_m A)) b set = some g := g4
    obtain ⟨D, d1, d2, dd⟩ := anc_D hB g1
    have eD : lst (fun r => anc (kq (as_L A) (st16 (as_m A))) g r = 0) = some D := lst_some d2 (fun k hk a => by have := dd k hk; omega)
    rw [e, Option.bind_some, eD]
    have := vf_anc ly3 r2 r4 g1 g2 g3 dd
    rw [d2] at this
    rw [this]
  · have e : fgl (as_L A) (st16 (as_m A)) b set = none := g2
    rw [e]
    have : ¬ vf d3 (bq (as_L A) (st16 (as_m A))) 0 < FA := by
      intro a
      obtain ⟨j, hj, gj⟩ := pth_goal _ _ ((r2 0 h0).2.2.2.2 a)
      exact g1 j hj gj
    have le := (r2 0 h0).2.1
    have : vf d3 (bq (as_L A) (st16 (as_m A))) 0 = FA := by omega
    rw [this]
    rfl
