/-! forcing in the reference -/
def MA (S : sk_S) (d : sk_D) (L : LF) (m : Int32) : Prop := MI S d L ∧ okM L m ∧ d.1 95 82 = sp m
theorem MA.fr {S : sk_S} {d e : sk_D} {L : LF} {m : Int32} (h : MA S d L m) (f : Fr scm d e) : MA S e L m := ⟨h.1.fr (scm95 f), h.2.1, by rw [scm95 f]; exact h.2.2⟩
theorem sp_mvt {L : LF} (hk : okL L) (m : Int32) {mv : Nat} (hm : mv < 16) (h0 : ¬ mvt L m mv < 0) : sp (mvt L m mv) = sp m := by
  have hn := hk.1
  obtain ⟨n1, n2, n3, n4⟩ := neg_lit
  unfold mvt at h0 ⊢
  by_cases c : mv < 8
  · rw [if_pos c] at h0 ⊢
    unfold tdo at h0 ⊢
    by_cases q1 : ¬ mv < lf_n L
    · rw [if_pos q1] at h0; exact absurd n1 h0
    · rw [if_neg q1] at h0 ⊢
      by_cases q2 : bt m mv = true
      · rw [if_pos q2] at h0; exact absurd n2 h0
      · rw [if_neg q2] at h0 ⊢
        by_cases q3 : ¬ (lf_v L 5 mv &&& (dn m ^^^ (-1))) = 0
        · rw [if_pos q3] at h0; exact absurd n3 h0
        · rw [if_neg q3]
          exact sp_dto L m c
  · rw [if_neg c] at h0 ⊢
    unfold tdr at h0 ⊢
    by_cases q1 : ¬ mv - 8 < lf_n L
    · rw [if_pos q1] at h0; exact absurd n1 h0
    · rw [if_neg q1] at h0 ⊢
      by_cases q2 : bt m (mv - 8 + 8) = false
      · rw [if_pos q2] at h0; exact absurd n2 h0
      · rw [if_neg q2]; exact sp_drop m (by omega)
def MFf (S : sk_S) (L : LF) (set : Int32) (t fuel : Nat) : Prop := ∀ (d : sk_D) (m : Int32), MA S d L m → ∃ r d', gX11f S fuel 0 d 94 (stnd m) set (nI t) 0 = some (r, d') ∧ (r = true ↔ ff L set t m) ∧ Fr scm d d'
def MFo (S : sk_S) (L : LF) (set : Int32) (t fuel : Nat) : Prop := ∀ (d : sk_D) (m : Int32), MA S d L m → ∃ r d', gX11f S fuel 2 d 94 (stnd m) set (nI t) 0 = some (r, d') ∧ (r = true ↔ ocP (ff L set t) L set m) ∧ Fr scm d d'
def MFb (S : sk_S) (L : LF) (set : Int32) (t fuel : Nat) : Prop := ∀ (d : sk_D) (m : Int32) (mv : Nat), mv < 16 → MA S d L m → ∃ r d', gX11f S fuel 1 d 94 (stnd m) (nI mv) set (nI (t + 1)) = some (r, d') ∧ (r = true ↔ ¬ mvt L m mv < 0 ∧ ocP (ff L set t) L set (mvt L m mv)) ∧ Fr scm d d'
theorem stnd_ne (m : Int32) : ¬ stnd m = -1 := by
  obtain ⟨hz, ez⟩ := stN_eq m
  rw [ez, fa_eq, nI_toInt (by omega), show (-1 : Int32).toInt = -1 from rfl]; omega
theorem m_by {S : sk_S} {L : LF} {set : Int32} {t fuel : Nat} (hO : MFo S L set t fuel) : MFb S L set t (fuel + 1) := by
  intro d m mv hm hMA
  have hS := hMA.1.1
  have hk := hMA.1.2.1
  obtain ⟨d1, a1, a2⟩ := m_moved hMA.1 hMA.2.1 hm
  show ∃ r d', fX11_forcesBy_o (gX11f S fuel) S d 94 (stnd m) (nI mv) set (nI (t + 1)) = some (r, d') ∧ _
  unfold fX11_forcesBy_o
  rw [if_pos (kd94 hS), a1, Option.bind_some]
  dsimp only
  unfold mvS
  by_cases c : mvt L m mv < 0
  · rw [if_pos c, if_pos rfl]
    exact ⟨false, d1, rfl, ⟨fun h => absurd h (by decide), fun h => absurd c h.1⟩, a2⟩
  · have h1 : MA S d1 L (mvt L m mv) := ⟨(hMA.fr a2).1, hMA.2.1.mvs hk hm c, by rw [sp_mvt hk m hm c]; exact (hMA.fr a2).2.2⟩
    obtain ⟨r, d2, b1, b2, b3⟩ := hO d1 (mvt L m mv) h1
    rw [if_neg c, if_neg (stnd_ne _), if_pos (kd94 hS), show nI (t + 1) - (1 : Int32) = nI t from nI_pred t, b1, Option.bind_some]
    dsimp only
    cases r with
    | true => rw [if_pos rfl]; exact ⟨true, d2, rfl, ⟨fun _ => ⟨c, b2.mp rfl⟩, fun _ => rfl⟩, a2.trans b3⟩
    | false => rw [if_neg (by decide)]; exact ⟨false, d2, rfl, ⟨fun h => absurd h (by decide), fun h => b2.mpr h.2⟩, a2.trans b3⟩
theorem m_cant {S : sk_S} {L : LF} {set : Int32} {t fuel : Nat} (ht : t < 8) (hF : MFf S L set t fuel) : MFo S L set t (fuel + 1) := by
  intro d m hMA
  have hS := hMA.1.1
  have hk := hMA.1.2.1
  have hn := hk.1
  have ha := m_hasAll hMA.1 hMA.2.1.z set true
  show ∃ r d', fX11_officerCant_o (gX11f S fuel) S d 94 (stnd m) set (nI t) = some (r, d') ∧ _
  unfold fX11_officerCant_o
  rw [if_pos (kd94 hS)]
  by_cases c : shw set m
  · rw [ha.1 c, Option.bind_some, if_pos rfl]
    exact ⟨true, d, rfl, ⟨fun _ => Or.inl c, fun _ => rfl⟩, Fr.refl _ _⟩
  · rw [ha.2 c, Option.bind_some, if_neg (by decide)]
    by_cases t0 : t = 0
    · subst t0
      rw [if_pos (by rfl)]
      refine ⟨false, d, rfl, ⟨fun h => absurd h (by decide), fun h => ?_⟩, Fr.refl _ _⟩
      rcases h with h | h
      · exact absurd h c
      · exact absurd h.2 c
    · rw [if_neg (nI_ne0 (by omega) (by omega))]
      have loop := it_for (body := fX11_officerCant_L21 (gX11f S fuel) S 94 (stnd m) set (nI t)) (fun j z => z.1 = nI j ∧ Fr scm d z.2 ∧ ∀ i, i < j → ¬ aso L m i = 0 → ff L set t (pb m (aso L m i))) (lf_n L)
        (fun e => (∃ y, e = .inr y ∧ Fr scm d y ∧ ∀ i, i < lf_n L → ¬ aso L m i = 0 → ff L set t (pb m (aso L m i))) ∨ (∃ y, e = .inl (false, y) ∧ Fr scm d y ∧ ¬ ocP (ff L set t) L set m)) ?_ ?_ (s := ((0 : Int32), d)) ⟨rfl, Fr.refl _ _, fun i hi => by omega⟩
      · obtain ⟨e, he, e1⟩ := loop
        rw [he, Option.bind_some]
        rcases e1 with ⟨y, ey, y1, y2⟩ | ⟨y, ey, y1, y2⟩
        · rw [ey]
          dsimp only
          obtain ⟨r, d2, b1, b2, b3⟩ := hF y m (hMA.fr y1)
          rw [if_pos (kd94 hS), b1, Option.bind_some]
          refine ⟨r, d2, rfl, ⟨fun h => Or.inr ⟨y2, b2.mp h⟩, fun h => ?_⟩, y1.trans b3⟩
          rcases h with h | h
          · exact absurd h c
          · exact b2.mpr h.2
        · rw [ey]
          exact ⟨false, y, rfl, ⟨fun h => absurd h (by decide), fun h => absurd h y2⟩, y1⟩
      · intro j z hj ⟨i1, i2, i3⟩
        have hz := hMA.fr i2
        obtain ⟨d1, a1, a2⟩ := m_asked hz.1 hz.2.1.z hj hz.2.2
        unfold fX11_officerCant_L21
        rw [i1, gr94_1 hS, Option.bind_some, l95_1 hS, Option.bind_some, hz.1.2.2.2.1, if_neg (nI_ge hj (by omega)), if_pos (kd94 hS), a1, Option.bind_some]
        dsimp only
        by_cases cz : aso L m j = 0
        · left
          rw [if_pos cz]
          refine ⟨_, rfl, nI_1 j, i2.trans a2, fun i hi h2 => ?_⟩
          by_cases ci : i = j
          · subst ci; exact absurd cz h2
          · exact i3 i (by omega) h2
        · have h8 := aso_8 L hk m hj
          have h1 : MA S d1 L (pb m (aso L m j)) := ⟨(hz.fr a2).1, ok_ask hk hMA.2.1 hj, by rw [sp_pb _ _ h8]; exact (hz.fr a2).2.2⟩
          obtain ⟨r, d2, b1, b2, b3⟩ := hF d1 _ h1
          rw [if_neg cz, m_opened S d1 m _ h8, Option.bind_some, if_pos (kd94 hS), b1, Option.bind_some]
          dsimp only
          cases r with
          | true =>
            left
            rw [if_pos rfl]
            refine ⟨_, rfl, nI_1 j, (i2.trans a2).trans b3, fun i hi h2 => ?_⟩
            by_cases ci : i = j
            · subst ci; exact b2.mp rfl
            · exact i3 i (by omega) h2
          | false =>
            right
            rw [if_neg (by decide)]
            refine ⟨_, rfl, Or.inr ⟨d2, rfl, (i2.trans a2).trans b3, fun h => ?_⟩⟩
            rcases h with h | h
            · exact absurd h c
            · exact absurd (b2.mpr (h.1 j hj cz)) (by decide)
      · intro z ⟨i1, i2, i3⟩
        have hz := hMA.fr i2
        unfold fX11_officerCant_L21
        rw [i1, gr94_1 hS, Option.bind_some, l95_1 hS, Option.bind_some, hz.1.2.2.2.1, if_pos (nI_le (Nat.le_refl _) (by omega))]
        exact ⟨_, rfl, Or.inl ⟨z.2, rfl, i2, i3⟩⟩
theorem m_from0 {S : sk_S} {L : LF} {set : Int32} {fuel : Nat} : MFf S L set 0 (fuel + 1) := by
  intro d m hMA
  have hS := hMA.1.1
  have ha := m_hasAll hMA.1 hMA.2.1.z set true
  show ∃ r d', fX11_forcesFrom_o (gX11f S fuel) S d 94 (stnd m) set (nI 0) = some (r, d') ∧ _
  unfold fX11_forcesFrom_o
  rw [if_pos (kd94 hS)]
  by_cases c : shw set m
  · rw [ha.1 c, Option.bind_some, if_pos rfl]
    exact ⟨true, d, rfl, ⟨fun _ => c, fun _ => rfl⟩, Fr.refl _ _⟩
  · have e : sk_itr (fX11_forcesFrom_L15 (gX11f S fuel) S 94 (stnd m) set (nI 0)) ((0 : Int32), d) = some (.inr d) := by
      apply sk_itr_exit
      unfold fX11_forcesFrom_L15
      rw [if_neg (show ¬ (16 : Int32) ≤ 0 by decide), if_pos (by decide)]
    rw [ha.2 c, Option.bind_some, if_neg (by decide), e, Option.bind_some]
    dsimp only
    rw [if_pos (by decide)]
    exact ⟨false, d, rfl, ⟨fun h => absurd h (by decide), fun h => absurd h c⟩, Fr.refl _ _⟩
theorem m_from {S : sk_S} {L : LF} {set : Int32} {t fuel : Nat} (ht : t < 8) (hO : MFo S L set t fuel) (hB : MFb S L set t fuel) : MFf S L set (t + 1) (fuel + 1) := by
  intro d m hMA
  have hS := hMA.1.1
  have hk := hMA.1.2.1
  have ha := m_hasAll hMA.1 hMA.2.1.z set true
  have nle : ¬ nI (t + 1) ≤ 0 := nI_nle (by omega) (by omega)
  show ∃ r d', fX11_forcesFrom_o (gX11f S fuel) S d 94 (stnd m) set (nI (t + 1)) = some (r, d') ∧ _
  unfold fX11_forcesFrom_o
  rw [if_pos (kd94 hS)]
  by_cases c : shw set m
  · rw [ha.1 c, Option.bind_some, if_pos rfl]
    exact ⟨true, d, rfl, ⟨fun _ => Or.inl c, fun _ => rfl⟩, Fr.refl _ _⟩
  · rw [ha.2 c, Option.bind_some, if_neg (by decide)]
    have loop := it_for (body := fX11_forcesFrom_L15 (gX11f S fuel) S 94 (stnd m) set (nI (t + 1))) (fun k z => z.1 = nI k ∧ Fr scm d z.2 ∧ ∀ i, i < k → ¬ (¬ mvt L m i < 0 ∧ ocP (ff L set t) L set (mvt L m i))) 16
      (fun e => (∃ y, e = .inr y ∧ Fr scm d y ∧ ∀ i, i < 16 → ¬ (¬ mvt L m i < 0 ∧ ocP (ff L set t) L set (mvt L m i))) ∨ (∃ y, e = .inl (true, y) ∧ Fr scm d y ∧ ff L set (t + 1) m)) ?_ ?_ (s := ((0 : Int32), d)) ⟨rfl, Fr.refl _ _, fun i hi => by omega⟩
    · obtain ⟨e, he, e1⟩ := loop
      rw [he, Option.bind_some]
      rcases e1 with ⟨y, ey, y1, y2⟩ | ⟨y, ey, y1, y2⟩
      · rw [ey]
        dsimp only
        obtain ⟨r, d2, b1, b2, b3⟩ := hO y m (hMA.fr y1)
        rw [if_neg nle, if_pos (kd94 hS), show nI (t + 1) - (1 : Int32) = nI t from nI_pred t, b1, Option.bind_some]
        dsimp only
        cases r with
        | true => rw [if_pos rfl]; exact ⟨true, d2, rfl, ⟨fun _ => Or.inr (Or.inr (b2.mp rfl)), fun _ => rfl⟩, y1.trans b3⟩
        | false =>
          rw [if_neg (by decide)]
          refine ⟨false, d2, rfl, ⟨fun h => absurd h (by decide), fun h => ?_⟩, y1.trans b3⟩
          rcases h with h | ⟨mv, hm, h0, h⟩ | h
          · exact absurd h c
          · exact absurd ⟨h0, h⟩ (y2 mv hm)
          · exact b2.mpr h
      · rw [ey]
        exact ⟨true, y, rfl, ⟨fun _ => y2, fun _ => rfl⟩, y1⟩
    · intro k z hkk ⟨i1, i2, i3⟩
      obtain ⟨r, d2, b1, b2, b3⟩ := hB z.2 m k hkk (hMA.fr i2)
      unfold fX11_forcesFrom_L15
      rw [i1, if_neg (show ¬ (16 : Int32) ≤ nI k from nI_ge (b := 16) hkk (by omega)), if_neg nle, if_pos (kd94 hS), b1, Option.bind_some]
      dsimp only
      cases r with
      | true =>
        right
        rw [if_pos rfl]
        have o := b2.mp rfl
        exact ⟨_, rfl, Or.inr ⟨d2, rfl, i2.trans b3, Or.inr (Or.inl ⟨k, hkk, o.1, o.2⟩)⟩⟩
      | false =>
        left
        rw [if_neg (by decide)]
        refine ⟨_, rfl, nI_1 k, i2.trans b3, fun i hi a => ?_⟩
        by_cases ci : i = k
        · subst ci; exact absurd (b2.mpr a) (by decide)
        · exact i3 i (by omega) a
    · intro z ⟨i1, i2, i3⟩
      unfold fX11_forcesFrom_L15
      rw [i1, if_pos (show (16 : Int32) ≤ nI 16 by decide)]
      exact ⟨_, rfl, Or.inl ⟨z.2, rfl, i2, i3⟩⟩
theorem mF_all {S : sk_S} {L : LF} {set : Int32} : ∀ t, t ≤ 7 → ∀ fuel, 3 * t + 1 ≤ fuel → MFf S L set t fuel ∧ MFo S L set t (fuel + 1) ∧ MFb S L set t (fuel + 2)
  | 0, _, fuel, hf => by
    obtain ⟨n, rfl⟩ : ∃ n, fuel = n + 1 := ⟨fuel - 1, by omega⟩
    have a : MFf S L set 0 (n + 1) := m_from0
    have b := m_cant (by omega) a
    exact ⟨a, b, m_by b⟩
  | t + 1, ht, fuel, hf => by
    obtain ⟨n, rfl⟩ : ∃ n, fuel = n + 3 := ⟨fuel - 3, by omega⟩
    obtain ⟨k, rfl⟩ : ∃ k, n = k + 1 := ⟨n - 1, by omega⟩
    obtain ⟨a1, a2, a3⟩ := mF_all (S := S) (L := L) (set := set) t (by omega) (k + 1) (by omega)
    obtain ⟨b1, b2, b3⟩ := mF_all (S := S) (L := L) (set := set) t (by omega) (k + 1 + 1) (by omega)
    have c : MFf S L set (t + 1) (k + 1 + 3) := m_from (by omega) b2 a3
    have o := m_cant (by omega) c
    exact ⟨c, o, m_by o⟩
