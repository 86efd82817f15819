/-! deeds laid into a tray -/
def wr (f : Nat → Int64) (l : List Int64) : Nat → List Int64
  | 0 => l
  | k + 1 => (wr f l k).set k (f k)
theorem wr_len (f : Nat → Int64) (l : List Int64) : ∀ k, (wr f l k).length = l.length
  | 0 => rfl
  | k + 1 => by rw [show wr f l (k + 1) = (wr f l k).set k (f k) from rfl, List.length_set, wr_len f l k]
def aW (A : AS) (j : Nat) (s : Int32) (l : List Int64) : AS := aTR A (updT (as_tr A) j (some (s, l)))
theorem aW_0 {A : AS} {j : Nat} {x : Int32 × List Int64} (hx : as_tr A j = some x) : aW A j x.1 x.2 = A := by
  have e : updT (as_tr A) j (some (x.1, x.2)) = as_tr A := by
    funext i
    unfold updT
    split
    · next c => rw [c, hx]
    · rfl
  unfold aW
  rw [e]
  rfl
theorem aW_w (A : AS) (j : Nat) (s s2 : Int32) (l l2 : List Int64) : aW (aW A j s l) j s2 l2 = aW A j s2 l2 := by
  have e : updT (updT (as_tr A) j (some (s, l))) j (some (s2, l2)) = updT (as_tr A) j (some (s2, l2)) := by
    funext i
    unfold updT
    split <;> rfl
  show aTR A (updT (updT (as_tr A) j (some (s, l))) j (some (s2, l2))) = _
  rw [e]
  rfl
theorem aW_ok {A : AS} (hA : okA A) {j : Nat} {s : Int32} {l : List Int64} (hl : l.length ≤ 40) (hs : ∃ z, z < 4 ∧ s = nI z) : okA (aW A j s l) := by
  obtain ⟨h1, h2, h3, h4, h5, h6, h7, h8⟩ := hA
  refine ⟨h1, h2, h3, h4, h5, h6, fun t x hx => ?_, h8⟩
  have e : as_tr (aW A j s l) t = updT (as_tr A) j (some (s, l)) t := rfl
  rw [e] at hx
  unfold updT at hx
  split at hx
  · obtain rfl := Option.some.inj hx
    exact ⟨hl, hs⟩
  · exact h7 t x hx
theorem ctv_dcd (s : Int32) {k : Nat} (hk : k < 16) : ctv s (dcd k).toInt64 = (dcd k).toInt64 := by
  have e := (by decide : ∀ k, k < 16 → (dcd k).toInt64.toInt32.toInt8.toInt32.toInt64 = (dcd k).toInt64 ∧ (dcd k).toInt64.toInt32.toInt16.toInt32.toInt64 = (dcd k).toInt64 ∧ (dcd k).toInt64.toInt32.toInt64 = (dcd k).toInt64) k hk
  unfold ctv
  split
  · exact e.1
  · split
    · exact e.2.1
    · split
      · exact e.2.2
      · rfl
theorem wyd_dcd {L : LF} {f : Int32} {b : Bool} {set : Int32} {D i : Nat} (hd : dst L f b set = some D) (hi : i < D) : ∃ k, k < 16 ∧ wyd L f b set i = dcd k := by
  unfold wyd
  rw [hd]
  cases g : fgl L f b set with
  | none => unfold dst at hd; rw [g] at hd; exact absurd hd (by simp)
  | some y => dsimp only; rw [if_pos hi]; exact ⟨_, Nat.mod_lt _ (by omega), rfl⟩
noncomputable def wf (A : AS) (set : Int32) (i : Nat) : Int64 := (wyd (as_L A) (st16 (as_m A)) true set i).toInt64
noncomputable def x_lists (A : AS) (t set : Int32) : Int32 × AS := if ¬ x_noTray A t = 0 then (x_noTray A t, A) else @ite _ (hAl (as_L A) set) (Classical.propDecidable _)
  (match as_tr A t.toNatClampNeg, dst (as_L A) (st16 (as_m A)) true set with
    | some x, some D => (nI (min x.2.length D), aW A t.toNatClampNeg x.1 (wr (wf A set) x.2 (min x.2.length D)))
    | _, _ => (-5, A)) (-3, A)
theorem c_listsL {S : sk_S} {d : sk_D} {A : AS} {q c w m len : Nat} (h : RC S d A) (hA : okA A) (hH : WkH S d (as_L A) q c w m len (bq (as_L A) (st16 (as_m A)))) {j : Nat} (hj : j < 4) {x : Int32 × List Int64} (hx : as_tr A j = some x) {set : Int32} {D : Nat} (hd : dst (as_L A) (st16 (as_m A)) true set = some D) :
    ∃ d', sk_itr (fX10_lists_L87 1 (nI j) S (gst (as_L A) (st16 (as_m A)) true set) (nI D) (nI x.2.length)) ((0 : Int32), d) = some (nI (min x.2.length D), S, d') ∧ RC S d' (aW A j x.1 (wr (wf A set) x.2 (min x.2.length D))) ∧ Fr cls d d' := by
  have hS := h.1.1
  have hl := hA.len j x hx
  have hD : D ≤ 65536 := dst_le hA.1 (ok_16 hA.2.1) hd
  have hf := ok_16 hA.2.1
  have em : (if nI x.2.length < nI D then nI x.2.length else nI D) = nI (min x.2.length D) := by
    by_cases q : x.2.length < D
    · rw [if_pos ((nI_ltI (by omega) (by omega)).mpr q), Nat.min_eq_left (by omega)]
    · rw [if_neg (fun a => q ((nI_ltI (by omega) (by omega)).mp a)), Nat.min_eq_right (by omega)]
  have loop := it_for (body := fX10_lists_L87 1 (nI j) S (gst (as_L A) (st16 (as_m A)) true set) (nI D) (nI x.2.length)) (fun i s => s.1 = nI i ∧ RC S s.2 (aW A j x.1 (wr (wf A set) x.2 i)) ∧ s.2.1 = d.1 ∧ Fr cls d s.2) (min x.2.length D)
    (fun e => e.1 = nI (min x.2.length D) ∧ e.2.1 = S ∧ RC S e.2.2 (aW A j x.1 (wr (wf A set) x.2 (min x.2.length D))) ∧ Fr cls d e.2.2) ?_ ?_ (s := ((0 : Int32), d)) ⟨rfl, by rw [show wr (wf A set) x.2 0 = x.2 from rfl, aW_0 hx]; exact h, rfl, Fr.refl _ _⟩
  · obtain ⟨e, he, e1, e2, e3, e4⟩ := loop
    exact ⟨e.2.2, by rw [he, ← e1, ← e2], e3, e4⟩
  · intro i s hi ⟨i1, i2, i3, i4⟩
    left
    have hH2 : WkH S s.2 (as_L A) q c w m len (bq (as_L A) (st16 (as_m A))) := by
      unfold WkH at hH ⊢
      rw [i3]; exact hH
    have ht : cTr s.2 (56 + 2 * j) (some (x.1, wr (wf A set) x.2 i)) := by
      have := i2.2.2.2.2.1 j hj
      rw [show as_tr (aW A j x.1 (wr (wf A set) x.2 i)) j = some (x.1, wr (wf A set) x.2 i) from if_pos rfl] at this
      exact this
    obtain ⟨k, hk, ek⟩ := wyd_dcd hd (show i < D by omega)
    have e1 := c_put (d := s.2) hS hj (i := i) (by omega) (wf A set i)
    have ew : wf A set i = (dcd k).toInt64 := by unfold wf; rw [ek]
    rw [ht.2.1, ew, ctv_dcd _ hk, ← ew] at e1
    have f : Fr (fun b => b = 56 + 2 * j ∨ b = 57 + 2 * j) s.2 (sk_uJ s.2 (57 + 2 * j) i (wf A set i)) := Fr.uJ _ (Or.inr rfl)
    have r := RC.tray (o := some (x.1, wr (wf A set) x.2 (i + 1))) hj i2 f ⟨ht.1, ht.2.1, by rw [wr_len, ← wr_len (wf A set) x.2 i]; exact ht.2.2.1, fun i2 hi2 => ?_⟩
    · have r2 : RC S (sk_uJ s.2 (57 + 2 * j) i (wf A set i)) (aW (aW A j x.1 (wr (wf A set) x.2 i)) j x.1 (wr (wf A set) x.2 (i + 1))) := r
      rw [aW_w] at r2
      unfold fX10_lists_L87
      rw [i1, em, if_neg (nI_ge hi (by omega)), gr1_6 hS, Option.bind_some, lr52 hS hj, Option.bind_some, rT52 j hj, gr1_2 hS, Option.bind_some, if_pos (kd40 hS), (c_found hH2 hf true set).2.1 i (by omega), Option.bind_some, if_pos (tkd hS hj)]
      rw [show (wyd (as_L A) (st16 (as_m A)) true set i).toInt64 = wf A set i from rfl, e1, Option.bind_some, nI_1]
      exact ⟨_, rfl, rfl, r2, i3, i4.trans (f.mono (fun b hb => by unfold cls; omega))⟩
    · have l1 := wr_len (wf A set) x.2 i
      rw [show wr (wf A set) x.2 (i + 1) = (wr (wf A set) x.2 i).set i (wf A set i) from rfl, getD_set _ _ _ (by omega), show 56 + 2 * j + 1 = 57 + 2 * j by omega]
      by_cases c : i2 = i
      · subst c; rw [uJ_s, if_pos rfl]
      · rw [uJ_k _ _ _ _ _ c, if_neg c, show 57 + 2 * j = 56 + 2 * j + 1 by omega]
        have : i2 < (wr (wf A set) x.2 (i + 1)).length := hi2
        rw [wr_len] at this
        exact ht.2.2.2 i2 (by show i2 < (wr (wf A set) x.2 i).length; omega)
  · intro s ⟨i1, i2, i3, i4⟩
    unfold fX10_lists_L87
    rw [i1, em, if_pos (nI_le (Nat.le_refl _) (by omega))]
    exact ⟨_, rfl, rfl, rfl, i2, i4⟩
theorem c_lists {S : sk_S} {d : sk_D} {A : AS} (h : RC S d A) (hA : okA A) (t set : Int32) : ∃ S' d', fX10_lists S d 1 t set = some ((x_lists A t set).1, S', d') ∧ RC S' d' (x_lists A t set).2 ∧ Fr cls d d' := by
  have hS := h.1.1
  unfold fX10_lists x_lists fX8_toShown
  rw [if_pos (kd1 hS), c_noTray h, Option.bind_some]
  by_cases q : x_noTray A t = 0
  · rw [if_pos q, if_neg (show ¬ ¬ x_noTray A t = 0 from fun a => a q)]
    obtain ⟨j, x, hj, rfl, hx⟩ := x_noTray_0 q
    rw [nI_clamp (by omega), hx, gr1_0 hS, Option.bind_some, gr2_0 hS, Option.bind_some, if_pos (kd3 hS)]
    by_cases q2 : hAl (as_L A) set
    · obtain ⟨S2, d2, q', c, w, m, len, a1, a2, a3, a4, a5⟩ := c_spreadA h hA
      have hH := WkH.of a2.1.1 hA.1 a3 a4
      have cf := c_found hH (ok_16 hA.2.1) true set
      rw [(c_hasAll hS h.1.2.2.1 set).1 q2, Option.bind_some, if_pos rfl, if_pos q2, gr1_2 hS, Option.bind_some, Option.bind_some, gr1_5 hS, Option.bind_some, gi50 hS, Option.bind_some, h.2.1.1, f_st, Option.bind_some, if_pos (kd40 hS), if_pos (kd40 hS), a1, Option.bind_some]
      dsimp only
      rw [c_toShown hH set, Option.bind_some, Option.bind_some]
      dsimp only
      cases hd : dst (as_L A) (st16 (as_m A)) true set with
      | none =>
        rw [if_neg (by rw [Int32.not_le]; exact cf.2.2.1.mpr hd)]
        exact ⟨S2, d2, rfl, a2, a5⟩
      | some D =>
        have hS2 := a2.1.1
        have hl := cf.1
        have ht := a2.2.2.2.2.1 j hj
        rw [hx] at ht
        rw [hd] at hl
        obtain ⟨d3, b1, b2, b3⟩ := c_listsL a2 hA hH hj hx hd
        rw [if_pos (by rw [← Int32.not_lt]; exact fun a => by rw [cf.2.2.1.mp a] at hd; exact absurd hd (by simp)), gr1_2 hS2, Option.bind_some, if_pos (kd40 hS2), hl, Option.bind_some, gr1_6 hS2, Option.bind_some, lr52 hS2 hj, Option.bind_some, rT52 j hj, tgi hS2 hj, Option.bind_some, ht.2.2.1, show toI (some D) = nI D from rfl, b1]
        exact ⟨S2, d3, rfl, b2, a5.trans b3⟩
    · rw [(c_hasAll hS h.1.2.2.1 set).2 q2, Option.bind_some, if_neg (by decide), if_neg q2]
      exact ⟨S, d, rfl, h, Fr.refl _ _⟩
  · rw [if_neg q, if_pos q]
    exact ⟨S, d, rfl, h, Fr.refl _ _⟩
theorem m_listsL {S : sk_S} {d : sk_D} {A : AS} (h : RM S d A) (hA : okA A) {set : Int32} (hL : LY S d (as_L A) (st16 (as_m A)) (bq (as_L A) (st16 (as_m A))) (kq (as_L A) (st16 (as_m A))))
    (hF : FI d (as_L A) (bq (as_L A) (st16 (as_m A))) (fun i => gl true set (gq (bq (as_L A) (st16 (as_m A))) i).1)) (hx2 : ∀ k, k < (bq (as_L A) (st16 (as_m A))).length → lfx d (as_L A) (bq (as_L A) (st16 (as_m A))) k)
    {j : Nat} (hj : j < 4) {x : Int32 × List Int64} (hx : as_tr A j = some x) {D : Nat} (hd : dst (as_L A) (st16 (as_m A)) true set = some D) {n : Nat} (hn : n = min x.2.length D) :
    ∃ d', fX11_lists_J69 S 94 (nI j) (nI n) d = some (nI n, d') ∧ RM S d' (aW A j x.1 (wr (wf A set) x.2 n)) ∧ Fr mdl d d' := by
  have hS := h.1.1
  have hl := hA.len j x hx
  have hz := (hA.2.2.2.2.2.2.1 j x hx).2
  unfold fX11_lists_J69
  have loop := it_for (body := fX11_lists_L74 S 94 (nI j) (nI n)) (fun i s => s.1 = nI i ∧ RM S s.2 (aW A j x.1 (wr (wf A set) x.2 i)) ∧ s.2.1 = d.1 ∧ Fr mdl d s.2) n
    (fun e => e.1 = nI n ∧ RM S e.2 (aW A j x.1 (wr (wf A set) x.2 n)) ∧ Fr mdl d e.2) ?_ ?_ (s := ((0 : Int32), d)) ⟨rfl, by rw [show wr (wf A set) x.2 0 = x.2 from rfl, aW_0 hx]; exact h, rfl, Fr.refl _ _⟩
  · obtain ⟨e, he, e1, e2, e3⟩ := loop
    exact ⟨e.2, by rw [he, ← e1]; rfl, e2, e3⟩
  · intro i s hi ⟨i1, i2, i3, i4⟩
    left
    have l1 := wr_len (wf A set) x.2 i
    have okA2 : okA (aW A j x.1 (wr (wf A set) x.2 i)) := aW_ok hA (by omega) hz
    have es : s.2 = (d.1, s.2.2) := by rw [← i3]
    have ht : mTr s.2 j (some (x.1, wr (wf A set) x.2 i)) := by
      have := i2.2.2.2.2.1 j hj
      rw [show as_tr (aW A j x.1 (wr (wf A set) x.2 i)) j = some (x.1, wr (wf A set) x.2 i) from if_pos rfl] at this
      exact this
    have mm : fX11_moveAt S s.2 94 (nI i) = some (wyd (as_L A) (st16 (as_m A)) true set i) :=
      m_moveAt (A := aW A j x.1 (wr (wf A set) x.2 i)) i2 okA2 true set (by rw [es]; exact hL) (by rw [es]; exact hF) (by rw [es]; exact hx2) (by omega)
    have r := RM.tray (o := some (x.1, wr (wf A set) x.2 (i + 1))) hj (okA2.len j) okA2.len i2 (e := sk_uJ s.2 115 (40 * j + i) (wf A set i)) (fun _ _ _ _ => rfl) (fun _ _ => rfl) (fun _ _ => rfl) (fun _ _ => rfl) (fun b hb => uJ_a _ _ _ _ _ hb) (fun q hq => uJ_k _ _ _ _ _ (by omega)) ⟨ht.1, by rw [wr_len, ← l1]; exact ht.2.1, fun i2 hi2 => ?_⟩
    · have r2 : RM S (sk_uJ s.2 115 (40 * j + i) (wf A set i)) (aW (aW A j x.1 (wr (wf A set) x.2 i)) j x.1 (wr (wf A set) x.2 (i + 1))) := r.1
      rw [aW_w] at r2
      unfold fX11_lists_L74
      rw [i1, if_neg (nI_ge hi (by omega)), gr94_36 hS, Option.bind_some, if_pos (kd94 hS), mm, Option.bind_some, p40, sj115 hS _ _ (show 40 * j + i < 160 by omega), Option.bind_some, nI_1]
      exact ⟨_, rfl, rfl, r2, i3, i4.trans r.2⟩
    · rw [show wr (wf A set) x.2 (i + 1) = (wr (wf A set) x.2 i).set i (wf A set i) from rfl, getD_set _ _ _ (by omega)]
      by_cases c : i2 = i
      · subst c; rw [uJ_s, if_pos rfl]
      · rw [uJ_k _ _ _ _ _ (by omega), if_neg c]
        have : i2 < (wr (wf A set) x.2 (i + 1)).length := hi2
        rw [wr_len] at this
        exact ht.2.2 i2 (by show i2 < (wr (wf A set) x.2 i).length; omega)
  · intro s ⟨i1, i2, i3, i4⟩
    unfold fX11_lists_L74
    rw [i1, if_pos (nI_le (Nat.le_refl _) (by omega))]
    exact ⟨_, rfl, rfl, i2, i4⟩
theorem m_lists {S : sk_S} {d : sk_D} {A : AS} (h : RM S d A) (hA : okA A) (t set : Int32) : ∃ d', fX11_lists S d 94 t set = some ((x_lists A t set).1, d') ∧ RM S d' (x_lists A t set).2 ∧ Fr mdl d d' := by
  have hS := h.1.1
  have h0 := h.m0 0
  unfold fX11_lists x_lists
  rw [pi94 hS, Option.bind_some, if_pos (kd94 hS), m_noTray h0 hA, Option.bind_some]
  by_cases q : x_noTray A t = 0
  · rw [if_pos q, if_neg (show ¬ ¬ x_noTray A t = 0 from fun a => a q), if_pos (kd94 hS)]
    obtain ⟨j, x, hj, rfl, hx⟩ := x_noTray_0 q
    have hl := hA.len j x hx
    rw [nI_clamp (by omega), hx]
    by_cases q2 : hAl (as_L A) set
    · obtain ⟨d2, a1, a2, a3, a4, a5, a6⟩ := m_laysFar h0 hA true set
      have ht := a2.2.2.2.2.1 j hj
      rw [hx] at ht
      rw [(m_isSet h0.1 set).1 q2, Option.bind_some, if_pos rfl, if_pos q2, if_pos (kd94 hS), a1, Option.bind_some]
      cases hd : dst (as_L A) (st16 (as_m A)) true set with
      | none =>
        dsimp only
        rw [if_pos rfl]
        exact ⟨d2, rfl, a2, (mfr0 d 0).2.2.2.2.trans a3⟩
      | some D =>
        have hD := dst_le hA.1 (ok_16 hA.2.1) hd
        dsimp only
        rw [if_neg (by rw [show (268435456 : Int32) = nI 268435456 from rfl, nI_eq (by omega) (by omega)]; omega), gr94_35 hS, Option.bind_some, li114 hS _ hj, Option.bind_some, ht.2.1]
        by_cases c : x.2.length ≤ D
        · obtain ⟨d3, b1, b2, b3⟩ := m_listsL a2 hA a4 a5 a6 hj hx hd (n := x.2.length) (by rw [Nat.min_eq_left c])
          rw [if_pos ((nI_leI (by omega) (by omega)).mpr c), Option.bind_some, li114 hS _ hj, Option.bind_some, ht.2.1, b1, Nat.min_eq_left c]
          exact ⟨d3, rfl, b2, ((mfr0 d 0).2.2.2.2.trans a3).trans b3⟩
        · obtain ⟨d3, b1, b2, b3⟩ := m_listsL a2 hA a4 a5 a6 hj hx hd (n := D) (by rw [Nat.min_eq_right (by omega)])
          rw [if_neg (fun a => c ((nI_leI (by omega) (by omega)).mp a)), b1, Nat.min_eq_right (by omega)]
          exact ⟨d3, rfl, b2, ((mfr0 d 0).2.2.2.2.trans a3).trans b3⟩
    · rw [(m_isSet h0.1 set).2 q2, Option.bind_some, if_neg (by decide), if_neg q2]
      exact ⟨_, rfl, h0, (mfr0 d 0).2.2.2.2⟩
  · rw [if_neg q, if_pos q]
    exact ⟨_, rfl, h0, (mfr0 d 0).2.2.2.2⟩
