/-! the class: coming to a set -/
def hAl (L : LF) (set : Int32) : Prop := (set &&& ((-1 : Int32) <<< (nI (lf_n L) &&& 31))) = 0
theorem hAl_iff {L : LF} (hk : okL L) (set : Int32) : hAl L set ↔ ∀ i, lf_n L ≤ i → i < 32 → bt set i = false := by
  have hn := hk.1
  unfold hAl
  rw [z_iff]
  constructor
  · intro h i h1 h2
    have := h i h2
    rw [b_and, b_shl (lf_n L) (by omega) _ h2, b_m1 _ (by omega)] at this
    simpa [h1] using this
  · intro h i hi
    rw [b_and, b_shl (lf_n L) (by omega) _ hi]
    by_cases c : lf_n L ≤ i
    · rw [h i c hi]; rfl
    · simp [c]
theorem c_hasAll {S : sk_S} {d : sk_D} {L : LF} (hS : Sh S) (hc : cL d 3 L) (set : Int32) : (hAl L set → fX2_hasAll S d 3 set = some true) ∧ (¬ hAl L set → fX2_hasAll S d 3 set = some false) := by
  unfold fX2_hasAll hAl
  rw [gi3 hS, Option.bind_some, hc.2.1]
  exact ⟨fun h => if_pos h, fun h => if_neg h⟩
noncomputable def x_soon (A : AS) (b : Bool) (set : Int32) : Int32 := @ite _ (hAl (as_L A) set) (Classical.propDecidable _) (toI (dst (as_L A) (st16 (as_m A)) b set)) (-3)
noncomputable def x_way (A : AS) (b : Bool) (set i : Int32) : Int32 := @ite _ (hAl (as_L A) set ∧ 0 ≤ i) (Classical.propDecidable _) (wyd (as_L A) (st16 (as_m A)) b set i.toNatClampNeg) (-3)
noncomputable def gst (L : LF) (f : Int32) (b : Bool) (set : Int32) : Int32 := match fgl L f b set with
  | some g => (gq (bq L f) g).1
  | none => -1
/-- the first goal of a queue -/
theorem fg_cases (Q : List TQ) (P : Int32 → Prop) : (∃ g, g < Q.length ∧ P (gq Q g).1 ∧ (∀ i, i < g → ¬ P (gq Q i).1) ∧ lst (fun i => i < Q.length ∧ P (gq Q i).1) = some g) ∨ ((∀ i, i < Q.length → ¬ P (gq Q i).1) ∧ lst (fun i => i < Q.length ∧ P (gq Q i).1) = none) := by
  by_cases h : ∃ g, g < Q.length ∧ P (gq Q g).1
  · left
    obtain ⟨g, h1, h2⟩ := pk_least (fun i => i < Q.length ∧ P (gq Q i).1) h
    exact ⟨g, h1.1, h1.2, fun i hi a => h2 i hi ⟨by omega, a⟩, lst_some h1 h2⟩
  · right
    exact ⟨fun i hi a => h ⟨i, hi, a⟩, lst_none (fun n a => h ⟨n, a⟩)⟩
theorem c_toDone {S : sk_S} {d : sk_D} {L : LF} {f : Int32} {q c w m len : Nat} (h : WkH S d L q c w m len (bq L f)) (set : Int32) : (sk_itr (fX8_toDone_L9 40 set S d) (0 : Int32)) = some (gst L f false set, S, d) := by
  have hS := h.1
  have hw := h.2.2.1
  have hl2 := hw.len
  have h0 := h.2.2.2.2.2.1
  have qq := h.2.2.2.2.2.2.1
  have hl := h.2.2.2.2.2.2.2.2.2.2
  have kq' := hw.2.2.2.2.1
  obtain ⟨gq', -, -, -⟩ := ws_q hS hw
  unfold gst fgl
  generalize bq L f = Q at h0 qq hl ⊢
  have step : ∀ k, k < Q.length → ¬ gl false set (gq Q k).1 → fX8_toDone_L9 40 set S d (nI k) = some (.inl (nI (k + 1))) := by
    intro k hk hg
    unfold fX8_toDone_L9
    rw [gi40 hS, Option.bind_some, h0, if_neg (nI_ge hk (by omega)), gq', Option.bind_some, kl_al kq', Option.bind_some, if_neg (nI_ge (show k < len by omega) (by omega)), Option.bind_some, kl_lI kq' hl2.2 _ (show k < len by omega), Option.bind_some, (qq k _ (gq_some hk)).1, f_dn, Option.bind_some, if_neg (show ¬ (set &&& (dn (gq Q k).1 ^^^ (-1))) = 0 from hg), nI_1]
  rcases fg_cases Q (gl false set) with ⟨g, g1, g2, g3, g4⟩ | ⟨g1, g2⟩
  · rw [g4]
    have e := it_eq (body := fX8_toDone_L9 40 set S d) (fun k => nI k) g ((gq Q g).1, S, d) (fun k hk => step k (by omega) (g3 k hk)) ?_
    · exact e
    · unfold fX8_toDone_L9
      rw [gi40 hS, Option.bind_some, h0, if_neg (nI_ge g1 (by omega)), gq', Option.bind_some, kl_al kq', Option.bind_some, if_neg (nI_ge (show g < len by omega) (by omega)), Option.bind_some, kl_lI kq' hl2.2 _ (show g < len by omega), Option.bind_some, (qq g _ (gq_some g1)).1, f_dn, Option.bind_some, if_pos (show (set &&& (dn (gq Q g).1 ^^^ (-1))) = 0 from g2), Option.bind_some, kl_lI kq' hl2.2 _ (show g < len by omega), Option.bind_some, (qq g _ (gq_some g1)).1]
  · rw [g2]
    have e := it_eq (body := fX8_toDone_L9 40 set S d) (fun k => nI k) Q.length (-1, S, d) (fun k hk => step k hk (g1 k hk)) ?_
    · exact e
    · unfold fX8_toDone_L9
      rw [gi40 hS, Option.bind_some, h0, if_pos (nI_le (Nat.le_refl _) (by omega))]
theorem c_toShown {S : sk_S} {d : sk_D} {L : LF} {f : Int32} {q c w m len : Nat} (h : WkH S d L q c w m len (bq L f)) (set : Int32) : (sk_itr (fX8_toShown_L9 40 set S d) (0 : Int32)) = some (gst L f true set, S, d) := by
  have hS := h.1
  have hw := h.2.2.1
  have hl2 := hw.len
  have h0 := h.2.2.2.2.2.1
  have qq := h.2.2.2.2.2.2.1
  have hl := h.2.2.2.2.2.2.2.2.2.2
  have kq' := hw.2.2.2.2.1
  obtain ⟨gq', -, -, -⟩ := ws_q hS hw
  unfold gst fgl
  generalize bq L f = Q at h0 qq hl ⊢
  have step : ∀ k, k < Q.length → ¬ gl true set (gq Q k).1 → fX8_toShown_L9 40 set S d (nI k) = some (.inl (nI (k + 1))) := by
    intro k hk hg
    unfold fX8_toShown_L9
    rw [gi40 hS, Option.bind_some, h0, if_neg (nI_ge hk (by omega)), gq', Option.bind_some, kl_al kq', Option.bind_some, if_neg (nI_ge (show k < len by omega) (by omega)), Option.bind_some, kl_lI kq' hl2.2 _ (show k < len by omega), Option.bind_some, (qq k _ (gq_some hk)).1, f_sw, Option.bind_some, if_neg (show ¬ (set &&& (sw (gq Q k).1 ^^^ (-1))) = 0 from hg), nI_1]
  rcases fg_cases Q (gl true set) with ⟨g, g1, g2, g3, g4⟩ | ⟨g1, g2⟩
  · rw [g4]
    have e := it_eq (body := fX8_toShown_L9 40 set S d) (fun k => nI k) g ((gq Q g).1, S, d) (fun k hk => step k (by omega) (g3 k hk)) ?_
    · exact e
    · unfold fX8_toShown_L9
      rw [gi40 hS, Option.bind_some, h0, if_neg (nI_ge g1 (by omega)), gq', Option.bind_some, kl_al kq', Option.bind_some, if_neg (nI_ge (show g < len by omega) (by omega)), Option.bind_some, kl_lI kq' hl2.2 _ (show g < len by omega), Option.bind_some, (qq g _ (gq_some g1)).1, f_sw, Option.bind_some, if_pos (show (set &&& (sw (gq Q g).1 ^^^ (-1))) = 0 from g2), Option.bind_some, kl_lI kq' hl2.2 _ (show g < len by omega), Option.bind_some, (qq g _ (gq_some g1)).1]
  · rw [g2]
    have e := it_eq (body := fX8_toShown_L9 40 set S d) (fun k => nI k) Q.length (-1, S, d) (fun k hk => step k hk (g1 k hk)) ?_
    · exact e
    · unfold fX8_toShown_L9
      rw [gi40 hS, Option.bind_some, h0, if_pos (nI_le (Nat.le_refl _) (by omega))]
/-- the length and the deeds of what was found -/
theorem c_found {S : sk_S} {d : sk_D} {L : LF} {f : Int32} {q c w m len : Nat} (h : WkH S d L q c w m len (bq L f)) (hf : okS L f) (b : Bool) (set : Int32) : fX8_length S d 40 (gst L f b set) = some (toI (dst L f b set)) ∧ (∀ i, i < 2 ^ 31 → fX8_deedAt S d 40 (gst L f b set) (nI i) = some (wyd L f b set i)) ∧ (gst L f b set < 0 ↔ dst L f b set = none) ∧ ∀ D, dst L f b set = some D → D ≤ 65536 := by
  have hk := h.2.1
  have hB := kq_BI hk hf
  have hl2 := h.2.2.1.len
  have hl := h.2.2.2.2.2.2.2.2.2.2
  have hA := h.2.2.2.2.2.2.2.1
  unfold gst wyd dst
  rcases fg_cases (bq L f) (gl b set) with ⟨g, g1, g2, g3, g4⟩ | ⟨g1, g2⟩
  · have e : fgl L f b set = some g := g4
    obtain ⟨D, d1, d2, d3⟩ := anc_D hB g1
    have eD : lst (fun r => anc (kq L f) g r = 0) = some D := lst_some d2 (fun k hk a => by have := d3 k hk; omega)
    rw [e, Option.bind_some, eD]
    dsimp only
    refine ⟨c_length h hB g1 d2 d3, fun i hi => c_deedAt h hB g1 d2 d3 hi, ?_, fun D2 h2 => ?_⟩
    · constructor
      · intro a; exact absurd a (hA _ (List.mem_of_getElem? (gq_some g1))).1.pos
      · intro a; cases a
    · cases h2; omega
  · have e : fgl L f b set = none := g2
    rw [e]
    dsimp only
    refine ⟨c_lengthN h, fun i hi => c_deedAtN h (nI i), ?_, fun D2 h2 => by cases h2⟩
    exact ⟨fun _ => rfl, fun _ => by decide⟩
theorem c_soonest {S : sk_S} {d : sk_D} {A : AS} (h : RC S d A) (hA : okA A) (set : Int32) : ∃ S' d', fX10_soonest S d 1 set = some (x_soon A false set, S', d') ∧ RC S' d' A ∧ Fr cls d d' := by
  have hS := h.1.1
  unfold fX10_soonest x_soon fX8_toDone
  rw [gr1_0 hS, Option.bind_some, gr2_0 hS, Option.bind_some, if_pos (kd3 hS)]
  by_cases q : hAl (as_L A) set
  · obtain ⟨S2, d2, q', c, w, m, len, a1, a2, a3, a4, a5⟩ := c_spreadA h hA
    have hH := WkH.of a2.1.1 hA.1 a3 a4
    rw [(c_hasAll hS h.1.2.2.1 set).1 q, Option.bind_some, if_pos rfl, if_pos q, gr1_2 hS, Option.bind_some, Option.bind_some, Option.bind_some, gr1_5 hS, Option.bind_some, gi50 hS, Option.bind_some, h.2.1.1, f_st, Option.bind_some, if_pos (kd40 hS), if_pos (kd40 hS), a1, Option.bind_some]
    dsimp only
    rw [c_toDone hH set, Option.bind_some, Option.bind_some]
    dsimp only
    rw [if_pos (kd40 a2.1.1), (c_found hH (ok_16 hA.2.1) false set).1, Option.bind_some]
    exact ⟨S2, d2, rfl, a2, a5⟩
  · rw [(c_hasAll hS h.1.2.2.1 set).2 q, Option.bind_some, if_neg (by decide), if_neg q]
    exact ⟨S, d, rfl, h, Fr.refl _ _⟩
theorem c_shown {S : sk_S} {d : sk_D} {A : AS} (h : RC S d A) (hA : okA A) (set : Int32) : ∃ S' d', fX10_shown S d 1 set = some (x_soon A true set, S', d') ∧ RC S' d' A ∧ Fr cls d d' := by
  have hS := h.1.1
  unfold fX10_shown x_soon fX8_toShown
  rw [gr1_0 hS, Option.bind_some, gr2_0 hS, Option.bind_some, if_pos (kd3 hS)]
  by_cases q : hAl (as_L A) set
  · obtain ⟨S2, d2, q', c, w, m, len, a1, a2, a3, a4, a5⟩ := c_spreadA h hA
    have hH := WkH.of a2.1.1 hA.1 a3 a4
    rw [(c_hasAll hS h.1.2.2.1 set).1 q, Option.bind_some, if_pos rfl, if_pos q, gr1_2 hS, Option.bind_some, Option.bind_some, Option.bind_some, gr1_5 hS, Option.bind_some, gi50 hS, Option.bind_some, h.2.1.1, f_st, Option.bind_some, if_pos (kd40 hS), if_pos (kd40 hS), a1, Option.bind_some]
    dsimp only
    rw [c_toShown hH set, Option.bind_some, Option.bind_some]
    dsimp only
    rw [if_pos (kd40 a2.1.1), (c_found hH (ok_16 hA.2.1) true set).1, Option.bind_some]
    exact ⟨S2, d2, rfl, a2, a5⟩
  · rw [(c_hasAll hS h.1.2.2.1 set).2 q, Option.bind_some, if_neg (by decide), if_neg q]
    exact ⟨S, d, rfl, h, Fr.refl _ _⟩
theorem c_way {S : sk_S} {d : sk_D} {A : AS} (h : RC S d A) (hA : okA A) (set i : Int32) : ∃ S' d', fX10_way S d 1 set i = some (x_way A false set i, S', d') ∧ RC S' d' A ∧ Fr cls d d' := by
  have hS := h.1.1
  unfold fX10_way x_way fX8_toDone
  rw [gr1_0 hS, Option.bind_some, gr2_0 hS, Option.bind_some, if_pos (kd3 hS)]
  by_cases q : hAl (as_L A) set
  · rw [(c_hasAll hS h.1.2.2.1 set).1 q, Option.bind_some, if_pos rfl]
    by_cases i0 : 0 ≤ i
    · obtain ⟨S2, d2, q', c, w, m, len, a1, a2, a3, a4, a5⟩ := c_spreadA h hA
      have hH := WkH.of a2.1.1 hA.1 a3 a4
      obtain ⟨k, hk, rfl⟩ := nI_of (x := i) (by rw [Int32.not_lt]; exact i0)
      rw [if_pos i0, if_pos ⟨q, i0⟩, gr1_2 hS, Option.bind_some, Option.bind_some, Option.bind_some, gr1_5 hS, Option.bind_some, gi50 hS, Option.bind_some, h.2.1.1, f_st, Option.bind_some, if_pos (kd40 hS), if_pos (kd40 hS), a1, Option.bind_some]
      dsimp only
      rw [c_toDone hH set, Option.bind_some, Option.bind_some]
      dsimp only
      rw [if_pos (kd40 a2.1.1), (c_found hH (ok_16 hA.2.1) false set).2.1 k hk, Option.bind_some, nI_clamp hk]
      exact ⟨S2, d2, rfl, a2, a5⟩
    · rw [if_neg i0, if_neg (fun a => i0 a.2)]
      exact ⟨S, d, rfl, h, Fr.refl _ _⟩
  · rw [(c_hasAll hS h.1.2.2.1 set).2 q, Option.bind_some, if_neg (by decide), if_neg (fun a => q a.1)]
    exact ⟨S, d, rfl, h, Fr.refl _ _⟩
theorem c_shownBy {S : sk_S} {d : sk_D} {A : AS} (h : RC S d A) (hA : okA A) (set i : Int32) : ∃ S' d', fX10_shownBy S d 1 set i = some (x_way A true set i, S', d') ∧ RC S' d' A ∧ Fr cls d d' := by
  have hS := h.1.1
  unfold fX10_shownBy x_way fX8_toShown
  rw [gr1_0 hS, Option.bind_some, gr2_0 hS, Option.bind_some, if_pos (kd3 hS)]
  by_cases q : hAl (as_L A) set
  · rw [(c_hasAll hS h.1.2.2.1 set).1 q, Option.bind_some, if_pos rfl]
    by_cases i0 : 0 ≤ i
    · obtain ⟨S2, d2, q', c, w, m, len, a1, a2, a3, a4, a5⟩ := c_spreadA h hA
      have hH := WkH.of a2.1.1 hA.1 a3 a4
      obtain ⟨k, hk, rfl⟩ := nI_of (x := i) (by rw [Int32.not_lt]; exact i0)
      rw [if_pos i0, if_pos ⟨q, i0⟩, gr1_2 hS, Option.bind_some, Option.bind_some, Option.bind_some, gr1_5 hS, Option.bind_some, gi50 hS, Option.bind_some, h.2.1.1, f_st, Option.bind_some, if_pos (kd40 hS), if_pos (kd40 hS), a1, Option.bind_some]
      dsimp only
      rw [c_toShown hH set, Option.bind_some, Option.bind_some]
      dsimp only
      rw [if_pos (kd40 a2.1.1), (c_found hH (ok_16 hA.2.1) true set).2.1 k hk, Option.bind_some, nI_clamp hk]
      exact ⟨S2, d2, rfl, a2, a5⟩
    · rw [if_neg i0, if_neg (fun a => i0 a.2)]
      exact ⟨S, d, rfl, h, Fr.refl _ _⟩
  · rw [(c_hasAll hS h.1.2.2.1 set).2 q, Option.bind_some, if_neg (by decide), if_neg (fun a => q a.1)]
    exact ⟨S, d, rfl, h, Fr.refl _ _⟩
