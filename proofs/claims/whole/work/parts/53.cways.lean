/-! the class's ways -/
def gl (b : Bool) (set s : Int32) : Prop := (set &&& ((if b = true then sw s else dn s) ^^^ (-1))) = 0
theorem gl_dec (b : Bool) (set s : Int32) : gl b set s ∨ ¬ gl b set s := Classical.em _
noncomputable def lst (P : Nat → Prop) : Option Nat := @dite _ (∃ n, P n) (Classical.propDecidable _) (fun h => some (Classical.choose (pk_least P h))) (fun _ => none)
theorem lst_some {P : Nat → Prop} {n : Nat} (h1 : P n) (h2 : ∀ k, k < n → ¬ P k) : lst P = some n := by
  unfold lst
  have ex : ∃ n, P n := ⟨n, h1⟩
  rw [dif_pos ex]
  obtain ⟨a, b⟩ := Classical.choose_spec (pk_least P ex)
  congr 1
  rcases Nat.lt_trichotomy (Classical.choose (pk_least P ex)) n with c | c | c
  · exact absurd a (h2 _ c)
  · exact c
  · exact absurd h1 (b n c)
theorem lst_none {P : Nat → Prop} (h : ∀ n, ¬ P n) : lst P = none := by
  unfold lst
  rw [dif_neg (fun ⟨n, hn⟩ => h n hn)]
/-- the queue, its keys, the first goal, how many steps -/
noncomputable def kq (L : LF) (f : Int32) : Nat → Nat := @dite _ (∃ K, BI L f (bq L f) (16 * (bq L f).length) K) (Classical.propDecidable _) (fun h => Classical.choose h) (fun _ _ => 0)
theorem kq_BI {L : LF} (hk : okL L) {f : Int32} (hf : okS L f) : BI L f (bq L f) (16 * (bq L f).length) (kq L f) := by
  have h := bq_BI hk hf
  unfold kq
  rw [dif_pos h]
  exact Classical.choose_spec h
noncomputable def fgl (L : LF) (f : Int32) (b : Bool) (set : Int32) : Option Nat := lst (fun i => i < (bq L f).length ∧ gl b set (gq (bq L f) i).1)
noncomputable def dst (L : LF) (f : Int32) (b : Bool) (set : Int32) : Option Nat := (fgl L f b set).bind fun g => lst (fun r => anc (kq L f) g r = 0)
/-- the i-th deed -/
noncomputable def wyd (L : LF) (f : Int32) (b : Bool) (set : Int32) (i : Nat) : Int32 := match fgl L f b set, dst L f b set with
  | some g, some D => if i < D then dcd (kq L f (anc (kq L f) g (D - 1 - i)) % 16) else -1
  | _, _ => -1
noncomputable def toI (o : Option Nat) : Int32 := match o with
  | some n => nI n
  | none => -1
theorem came_d {x : TQ} (h : okT x) : ((1 + x.2.2 + 32 * x.2.1) - (1 : Int32)) &&& (31 : Int32) = x.2.2 ∧ ((1 + x.2.2 + 32 * x.2.1) - (1 : Int32)) >>> ((5 : Int32) &&& 31) = x.2.1 := by
  obtain ⟨⟨b, hb, eb⟩, e, he, ee⟩ := h
  have e1 : (1 + x.2.2 + 32 * x.2.1) - (1 : Int32) = nI (e + 32 * b) := by
    rw [eb, ee, show (1 : Int32) = nI 1 from rfl, show (32 : Int32) = nI 32 from rfl, pk_mul, nI_add, nI_add, pk_sub (by omega)]
    congr 1; omega
  rw [e1]
  refine ⟨?_, ?_⟩
  · rw [pk_andN (by omega) 5 (by decide), ee]
    congr 1; omega
  · rw [pk_shrN (by omega) _ 5 (by decide), eb]
    congr 1; omega
theorem bq_T {L : LF} (hk : okL L) {s : Int32} (hs : okS L s) : ∀ x, x ∈ bq L s → okT x := by rw [bq_eq]; exact qs_T hk hs 65536
theorem dcd_31 {mv : Nat} (h : mv < 16) : ¬ dcd mv = 31 := by
  unfold dcd
  split
  · rw [show (31 : Int32) = nI 31 from rfl, nI_eq (by omega) (by omega)]; omega
  · rw [show (31 : Int32) = nI 31 from rfl, nI_eq (by omega) (by omega)]; omega
section
variable {S : sk_S} {d : sk_D} {L : LF} {f : Int32} {q c w m len : Nat} {Q : List TQ} {K : Nat → Nat}
/-- a walk that holds a queue -/
def WkH (S : sk_S) (d : sk_D) (L : LF) (q c w m len : Nat) (Q : List TQ) : Prop := Sh S ∧ okL L ∧ WS S q c w m len ∧ d.1 40 2 = nI (lf_n L) ∧ 4 ^ lf_n L ≤ len ∧ d.1 40 0 = nI Q.length ∧ (∀ i x, Q[i]? = some x → d.1 q i = x.1 ∧ d.1 c (spt (lf_n L) x.1).toNatClampNeg = 1 + x.2.2 + 32 * x.2.1) ∧ allS L Q ∧ nds Q ∧ (∀ x, x ∈ Q → okT x) ∧ Q.length ≤ len
theorem WkH.of (hS : Sh S) (hk : okL L) (hw : WS S q c w m len) (h : wkF d L f q c len) : WkH S d L q c w m len (bq L f) := by
  obtain ⟨h1, h2, h3, h4, h5, h6, h7, h8⟩ := h
  obtain ⟨b1, b2, b3⟩ := bq_ok hk ⟨h2, h3⟩
  exact ⟨hS, hk, hw, h4, h5, h6, h7, b1, b2, bq_T hk ⟨h2, h3⟩, Nat.le_trans (nds_len4 hk b1 b2) h5⟩
theorem c_came (h : WkH S d L q c w m len Q) {i : Nat} (hi : i < Q.length) : fX8_deedTo S d 40 (gq Q i).1 = some (gq Q i).2.2 ∧ fX8_stateBefore S d 40 (gq Q i).1 = some (gq Q i).2.1 := by
  obtain ⟨hS, hk, hw, h2, h4, h0, hq, hA, hN, hT, hl⟩ := h
  have okx := hA (gq Q i) (List.mem_of_getElem? (gq_some hi))
  have kc := hw.2.2.2.2.2.1
  have hl2 := hw.len
  obtain ⟨gq', gc, -, -⟩ := ws_q hS hw
  obtain ⟨z, hz, ez⟩ := spt_nI hk okx.1.z
  have sp := c_spot (d := d) hS hk hw h2 h4 okx.1.z
  have cm := (hq i _ (gq_some hi)).2
  rw [ez, nI_clamp (by have := pow4 hk; omega)] at cm
  have cd := came_d (hT _ (List.mem_of_getElem? (gq_some hi)))
  unfold fX8_deedTo fX8_stateBefore
  have l1 : sk_lI S d c 20 (nI z) = some (1 + (gq Q i).2.2 + 32 * (gq Q i).2.1) := by rw [kl_lI kc hl2.2 _ (by omega), cm]
  constructor
  · rw [gc, Option.bind_some, if_pos (kd40 hS), sp, Option.bind_some, ez, l1, Option.bind_some, cd.1]
  · rw [gc, Option.bind_some, if_pos (kd40 hS), sp, Option.bind_some, ez, l1, Option.bind_some, cd.2]
theorem c_length (h : WkH S d L q c w m len Q) (hB : BI L f Q (16 * Q.length) K) {g D : Nat} (hg : g < Q.length) (hD : anc K g D = 0) (hD2 : ∀ k, k < D → 1 ≤ anc K g k) : fX8_length S d 40 (gq Q g).1 = some (nI D) := by
  have hS := h.1
  have hw := h.2.2.1
  have hl2 := hw.len
  have hQ := h.2.2.2.2.2.2.2.2.2.2
  have hA := h.2.2.2.2.2.2.2.1
  have kq' := hw.2.2.2.2.1
  obtain ⟨gq', -, -, -⟩ := ws_q hS hw
  have al := fun r (hr : ∀ k, k < r → 1 ≤ anc K g k) => anc_lt hB hg r hr
  have Dg := (al D hD2).1
  unfold fX8_length
  have e := it_eq (body := fX8_length_L4 S d 40) (fun k => ((gq Q (anc K g k)).1, nI k)) D (nI D) ?_ ?_
  · rw [show ((gq Q g).1, (0 : Int32)) = ((gq Q (anc K g 0)).1, nI 0) from rfl, e]; rfl
  · intro k hk
    have hr : ∀ k2, k2 < k → 1 ≤ anc K g k2 := fun k2 hk2 => hD2 k2 (by omega)
    have hlt := (al k hr).2
    have okx := hA _ (List.mem_of_getElem? (gq_some hlt))
    obtain ⟨a1, a2, a3, a4⟩ := hB.2.2.1 (anc K g k) (hD2 k hk) hlt
    have e2 : (gq Q (anc K g k)).2.2 = dcd (K (anc K g k) % 16) := by rw [a3]
    have e3 : (gq Q (anc K g k)).2.1 = (gq Q (anc K g (k + 1))).1 := by rw [a3]; rfl
    obtain ⟨c1, c2⟩ := c_came h hlt
    unfold fX8_length_L4
    dsimp only
    rw [gq', Option.bind_some, kl_al kq', Option.bind_some, if_neg (nI_ge (show k < len by omega) (by omega)), if_neg okx.1.pos, if_pos (kd40 hS), c1, Option.bind_some, e2, if_neg (dcd_31 (by omega)), if_pos (kd40 hS), c2, Option.bind_some, e3, nI_1]
  · have hlt := (al D hD2).2
    have okx := hA _ (List.mem_of_getElem? (gq_some hlt))
    obtain ⟨c1, c2⟩ := c_came h hlt
    unfold fX8_length_L4
    dsimp only
    rw [gq', Option.bind_some, kl_al kq', Option.bind_some, if_neg (nI_ge (show D < len by omega) (by omega)), if_neg okx.1.pos, if_pos (kd40 hS), c1, Option.bind_some, hD, hB.2.1, if_pos rfl]
theorem c_lengthN (h : WkH S d L q c w m len Q) : fX8_length S d 40 (-1) = some (-1) := by
  have hS := h.1
  have hw := h.2.2.1
  have hl2 := hw.len
  have kq' := hw.2.2.2.2.1
  obtain ⟨gq', -, -, -⟩ := ws_q hS hw
  unfold fX8_length
  rw [sk_itr_exit (e := (-1 : Int32))]
  · rfl
  · unfold fX8_length_L4
    dsimp only
    rw [gq', Option.bind_some, kl_al kq', Option.bind_some, show (0 : Int32) = nI 0 from rfl, if_neg (nI_ge (show 0 < len by omega) (by omega)), if_pos (by decide)]
theorem c_deedAt (h : WkH S d L q c w m len Q) (hB : BI L f Q (16 * Q.length) K) {g D : Nat} (hg : g < Q.length) (hD : anc K g D = 0) (hD2 : ∀ k, k < D → 1 ≤ anc K g k) {i : Nat} (hi : i < 2 ^ 31) : fX8_deedAt S d 40 (gq Q g).1 (nI i) = some (if i < D then dcd (K (anc K g (D - 1 - i)) % 16) else -1) := by
  have hS := h.1
  have hl2 := h.2.2.1.len
  have hQ := h.2.2.2.2.2.2.2.2.2.2
  have al := fun r (hr : ∀ k, k < r → 1 ≤ anc K g k) => anc_lt hB hg r hr
  have Dg := (al D hD2).1
  unfold fX8_deedAt
  rw [if_pos (kd40 hS), c_length h hB hg hD hD2, Option.bind_some, if_neg (nI_pos hi)]
  by_cases c0 : i < D
  · have e1 : nI D - (1 : Int32) = nI (D - 1) := by rw [show (1 : Int32) = nI 1 from rfl, pk_sub (by omega)]
    rw [e1, if_pos (nI_le (by omega) (by omega)), if_pos c0]
    have e := it_eq (body := fX8_deedAt_L25 S d 40 (nI i)) (fun k => ((gq Q (anc K g k)).1, nI (D - 1 - k))) (D - 1 - i) (gq Q (anc K g (D - 1 - i))).1 ?_ ?_
    · rw [show ((gq Q g).1, nI (D - 1)) = ((gq Q (anc K g 0)).1, nI (D - 1 - 0)) from rfl, e, Option.bind_some, if_pos (kd40 hS)]
      have hlt := (al (D - 1 - i) (fun k2 hk2 => hD2 k2 (by omega))).2
      obtain ⟨a1, a2, a3, a4⟩ := hB.2.2.1 (anc K g (D - 1 - i)) (hD2 _ (by omega)) hlt
      rw [(c_came h hlt).1, Option.bind_some, a3]
    · intro k hk
      have hlt := (al k (fun k2 hk2 => hD2 k2 (by omega))).2
      obtain ⟨a1, a2, a3, a4⟩ := hB.2.2.1 (anc K g k) (hD2 k (by omega)) hlt
      have e3 : (gq Q (anc K g k)).2.1 = (gq Q (anc K g (k + 1))).1 := by rw [a3]; rfl
      have e4 : nI (D - 1 - k) - (1 : Int32) = nI (D - 1 - (k + 1)) := by
        rw [show (1 : Int32) = nI 1 from rfl, pk_sub (by omega)]; congr 1
      unfold fX8_deedAt_L25
      dsimp only
      rw [if_neg (nI_ge (show i < D - 1 - k by omega) (by omega)), if_pos (kd40 hS), (c_came h hlt).2, Option.bind_some, e3, e4]
    · unfold fX8_deedAt_L25
      dsimp only
      rw [if_pos (nI_le (by omega) (by omega))]
  · rw [if_neg c0, if_neg]
    rw [fa_le, nI_toInt hi, show (1 : Int32) = nI 1 from rfl, pk_sub_toInt (by omega) (by omega)]
    omega
theorem c_deedAtN (h : WkH S d L q c w m len Q) (i : Int32) : fX8_deedAt S d 40 (-1) i = some (-1) := by
  have hS := h.1
  unfold fX8_deedAt
  rw [if_pos (kd40 hS), c_lengthN h, Option.bind_some]
  by_cases c0 : i < 0
  · rw [if_pos c0]
  · rw [if_neg c0, if_neg]
    rw [fa_lt, show (0 : Int32).toInt = 0 from rfl] at c0
    rw [fa_le, show ((-1 : Int32) - 1).toInt = -2 from rfl]
    omega
end
