/-! slips, by the reference -/
def stf (L : LF) (m : Int32) (z : Nat) (v : Int64) : Bool := if vN v % 2 = 1 then passes L (vN v / 2) (ln m) (nI z) else !passes L (vN v / 2) (ln m) (nI z)
theorem bt_sbs (L : LF) (m : Int32) (v : Int64) {z : Nat} (hz : z < 10) : bt (sbs L m v) z = stf L m z v := by
  unfold sbs stf
  split
  · rw [bt_spB _ _ _ (by omega) 10 (Nat.le_refl _), decide_eq_true hz, Bool.true_and]
  · rw [b_not _ (by omega), bt_spB _ _ _ (by omega) 10 (Nat.le_refl _), decide_eq_true hz, Bool.true_and]
theorem b_1023 {i : Nat} (hi : i < 32) : bt (1023 : Int32) i = decide (i < 10) := (by decide : ∀ i, i < 32 → bt (1023 : Int32) i = decide (i < 10)) i hi
def sta (L : LF) (m : Int32) (l : List Int64) (z : Nat) : Nat → Bool
  | 0 => true
  | i + 1 => sta L m l z i && stf L m z (l.getD i 0)
theorem bt_sb (L : LF) (m : Int32) (l : List Int64) {z : Nat} (hz : z < 32) : ∀ k, bt (sb L m l k) z = (decide (z < 10) && sta L m l z k)
  | 0 => by rw [show sb L m l 0 = 1023 from rfl, b_1023 hz, show sta L m l z 0 = true from rfl, Bool.and_true]
  | k + 1 => by
    rw [show sb L m l (k + 1) = sb L m l k &&& sbs L m (l.getD k 0) from rfl, b_and, bt_sb L m l hz k, show sta L m l z (k + 1) = (sta L m l z k && stf L m z (l.getD k 0)) from rfl]
    by_cases c : z < 10
    · rw [bt_sbs L m _ c, decide_eq_true c, Bool.true_and, Bool.true_and]
    · rw [decide_eq_false c, Bool.false_and, Bool.false_and, Bool.false_and]
def so (L : LF) (m : Int32) (l : List Int64) : Nat → Int32
  | 0 => 0
  | z + 1 => so L m l z ||| (if sta L m l z l.length = true then (1 : Int32) <<< (nI z &&& 31) else 0)
theorem bt_so (L : LF) (m : Int32) (l : List Int64) {i : Nat} (hi : i < 32) : ∀ k, k ≤ 10 → bt (so L m l k) i = (decide (i < k) && sta L m l i l.length)
  | 0, _ => by rw [show so L m l 0 = 0 from rfl, b_0]; simp
  | k + 1, hk => by
    rw [show so L m l (k + 1) = so L m l k ||| (if sta L m l k l.length = true then (1 : Int32) <<< (nI k &&& 31) else 0) from rfl, b_or, bt_so L m l hi k (by omega)]
    by_cases c : i = k
    · subst c
      cases p : sta L m l i l.length with
      | true => rw [if_pos rfl, b_one hi hi]; simp
      | false => rw [if_neg (by decide), b_0]; simp
    · have e : decide (i < k + 1) = decide (i < k) := by
        by_cases r : i < k
        · rw [decide_eq_true r, decide_eq_true (by omega)]
        · rw [decide_eq_false r, decide_eq_false (by omega)]
      rw [e]
      split
      · rw [b_one (by omega) hi, decide_eq_false c, Bool.or_false]
      · rw [b_0, Bool.or_false]
theorem so_sb (L : LF) (m : Int32) (l : List Int64) : so L m l 10 = sb L m l l.length := b_ext (fun i hi => by rw [bt_so L m l hi 10 (Nat.le_refl _), bt_sb L m l hi])
theorem m_slip1 {S : sk_S} {d : sk_D} {A : AS} (h : RM S d A) (hA : okA A) {j : Nat} (hj : j < 4) {x : Int32 × List Int64} (hx : as_tr A j = some x) (hg : ∀ i, i < x.2.length → gdb (as_L A) (as_m A) (x.2.getD i 0) = true) {z : Nat} (hz : z < 10) :
    ∃ d', sk_itr (fX11_slipsOf_L16 S 94 (nI j) (nI z)) ((1 : Int32), (0 : Int32), d) = some ((if sta (as_L A) (as_m A) x.2 z x.2.length = true then 1 else 0), d') ∧ Fr CStubKeepLaw_law_r1379_07d26a.scm d d' := by
  have hS := h.1.1
  have hn := hA.1.1
  have hl := hA.len j x hx
  have n1 : ∀ k, k < 2 → (nI k = 1 ↔ k = 1) := by decide
  have loop := it_for (body := fX11_slipsOf_L16 S 94 (nI j) (nI z)) (fun i s => s.1 = (if sta (as_L A) (as_m A) x.2 z i = true then 1 else 0) ∧ s.2.1 = nI i ∧ Fr CStubKeepLaw_law_r1379_07d26a.scm d s.2.2) x.2.length
    (fun e => e.1 = (if sta (as_L A) (as_m A) x.2 z x.2.length = true then 1 else 0) ∧ Fr CStubKeepLaw_law_r1379_07d26a.scm d e.2) ?_ ?_ (s := ((1 : Int32), (0 : Int32), d)) ⟨rfl, rfl, Fr.refl _ _⟩
  · obtain ⟨e, he, e1, e2⟩ := loop
    exact ⟨e.2, by rw [he, ← e1], e2⟩
  · intro i s hi ⟨i1, i2, i3⟩
    left
    have r := RM.scm h hA.2.2.2.1 i3
    have ht := r.2.2.2.2.1 j hj
    rw [hx] at ht
    obtain ⟨a, ha, ea, -⟩ := gdb_of hA.1 (hg i hi)
    obtain ⟨d1, a1, a2⟩ := m_passes r.1 hA.2.1.z (show a / 2 < lf_n (as_L A) by omega) (nI z)
    have e : sta (as_L A) (as_m A) x.2 z (i + 1) = (sta (as_L A) (as_m A) x.2 z i && stf (as_L A) (as_m A) z (lN a)) := by rw [← ea]; rfl
    unfold stf at e
    rw [vN_l (by omega)] at e
    unfold fX11_slipsOf_L16
    rw [i1, i2, gr94_35 hS, Option.bind_some, li114 hS _ hj, Option.bind_some, ht.2.1, if_neg (nI_ge hi (by omega)), gr94_36 hS, Option.bind_some, show (40 : Int32) = nI 40 from rfl, pk_mul, nI_add, lj115 hS _ (show 40 * j + i < 160 by omega), Option.bind_some, ht.2.2 i hi, ea, if_pos (kd94 hS), m_stand hS r.2.1.1.1, Option.bind_some, if_pos (kd94 hS), (lN_half (a := a) (by omega)).2, (lN_half (a := a) (by omega)).1, a1, Option.bind_some, nI_1]
    dsimp only
    rw [e]
    by_cases c : a % 2 = 1
    · rw [if_pos ((n1 _ (by omega)).mpr c), if_pos c]
      cases passes (as_L A) (a / 2) (ln (as_m A)) (nI z) <;> cases sta (as_L A) (as_m A) x.2 z i <;> exact ⟨_, rfl, rfl, rfl, i3.trans a2⟩
    · rw [if_neg (fun q => c ((n1 _ (by omega)).mp q)), if_neg c]
      cases passes (as_L A) (a / 2) (ln (as_m A)) (nI z) <;> cases sta (as_L A) (as_m A) x.2 z i <;> exact ⟨_, rfl, rfl, rfl, i3.trans a2⟩
  · intro s ⟨i1, i2, i3⟩
    have r := RM.scm h hA.2.2.2.1 i3
    have ht := r.2.2.2.2.1 j hj
    rw [hx] at ht
    unfold fX11_slipsOf_L16
    rw [i1, i2, gr94_35 hS, Option.bind_some, li114 hS _ hj, Option.bind_some, ht.2.1, if_pos (nI_le (Nat.le_refl _) (by omega))]
    exact ⟨_, rfl, rfl, i3⟩
theorem m_slipsOf {S : sk_S} {d : sk_D} {A : AS} (h : RM S d A) (hA : okA A) {j : Nat} (hj : j < 4) {x : Int32 × List Int64} (hx : as_tr A j = some x) (hg : ∀ i, i < x.2.length → gdb (as_L A) (as_m A) (x.2.getD i 0) = true) :
    ∃ d', fX11_slipsOf S d 94 (nI j) = some (sb (as_L A) (as_m A) x.2 x.2.length, d') ∧ Fr CStubKeepLaw_law_r1379_07d26a.scm d d' := by
  have hS := h.1.1
  unfold fX11_slipsOf
  rw [← so_sb]
  have loop := it_for (body := fX11_slipsOf_L4 S 94 (nI j)) (fun z s => s.1 = so (as_L A) (as_m A) x.2 z ∧ s.2.1 = nI z ∧ Fr CStubKeepLaw_law_r1379_07d26a.scm d s.2.2) 10
    (fun e => e.1 = so (as_L A) (as_m A) x.2 10 ∧ Fr CStubKeepLaw_law_r1379_07d26a.scm d e.2) ?_ ?_ (s := ((0 : Int32), (0 : Int32), d)) ⟨rfl, rfl, Fr.refl _ _⟩
  · obtain ⟨e, he, e1, e2⟩ := loop
    exact ⟨e.2, by rw [he, ← e1]; rfl, e2⟩
  · intro z s hz ⟨i1, i2, i3⟩
    left
    have r := RM.scm h hA.2.2.2.1 i3
    obtain ⟨d1, a1, a2⟩ := m_slip1 r hA hj hx hg hz
    have e : so (as_L A) (as_m A) x.2 (z + 1) = so (as_L A) (as_m A) x.2 z ||| (if sta (as_L A) (as_m A) x.2 z x.2.length = true then (1 : Int32) <<< (nI z &&& 31) else 0) := rfl
    unfold fX11_slipsOf_L4
    rw [i1, i2, if_neg (show ¬ (10 : Int32) ≤ nI z from nI_ge (b := 10) hz (by omega)), a1, Option.bind_some, nI_1]
    dsimp only
    rw [e]
    cases sta (as_L A) (as_m A) x.2 z x.2.length with
    | true => exact ⟨_, rfl, rfl, rfl, i3.trans a2⟩
    | false => exact ⟨_, rfl, rfl, rfl, i3.trans a2⟩
  · intro s ⟨i1, i2, i3⟩
    unfold fX11_slipsOf_L4
    rw [i1, i2, if_pos (show (10 : Int32) ≤ nI 10 by decide)]
    exact ⟨_, rfl, rfl, i3⟩
theorem scm_mdl {d e : sk_D} (h : Fr CStubKeepLaw_law_r1379_07d26a.scm d e) : Fr mdl d e := (mfr.scm h).2.2.2.2
theorem m_slips {S : sk_S} {d : sk_D} {A : AS} (h : RM S d A) (hA : okA A) (t : Int32) : ∃ d', fX11_slips S d 94 t = some (x_slips A t, d') ∧ RM S d' A ∧ Fr mdl d d' := by
  have hS := h.1.1
  have h0 := h.m0 0
  unfold fX11_slips x_slips
  rw [pi94 hS, Option.bind_some, if_pos (kd94 hS), m_noSlips h0 hA, Option.bind_some]
  by_cases q : x_noP A t = 0
  · rw [if_pos q, if_neg (show ¬ ¬ x_noP A t = 0 from fun a => a q)]
    obtain ⟨j, x, hj, rfl, hx, hl, hg⟩ := x_noP_0 q
    obtain ⟨d1, a1, a2⟩ := m_slipsOf h0 hA hj hx hg
    rw [nI_clamp (by omega), hx, if_pos (kd94 hS), a1]
    exact ⟨d1, rfl, RM.scm h0 hA.2.2.2.1 a2, (mfr0 d 0).2.2.2.2.trans (scm_mdl a2)⟩
  · rw [if_neg q, if_pos q]
    exact ⟨_, rfl, h0, (mfr0 d 0).2.2.2.2⟩
