/-! lowest terms, on both sides -/
def eu : Nat → Nat → Nat → Option Nat
  | 0, _, _ => none
  | n + 1, a, b => if b = 0 then some a else eu n b (a % b)
theorem eu_gcd : ∀ n a b g, eu n a b = some g → g = Nat.gcd a b
  | 0, a, b, g, h => absurd h (by simp [eu])
  | n + 1, a, b, g, h => by
    unfold eu at h
    split at h
    · next c => rw [c, Nat.gcd_zero_right]; exact (Option.some.inj h).symm
    · rw [eu_gcd n _ _ _ h, Nat.gcd_comm b, ← Nat.gcd_rec, Nat.gcd_comm]
theorem eu_mono : ∀ n m a b g, eu n a b = some g → n ≤ m → eu m a b = some g
  | 0, m, a, b, g, h, _ => absurd h (by simp [eu])
  | n + 1, 0, a, b, g, h, hm => by omega
  | n + 1, m + 1, a, b, g, h, hm => by
    unfold eu at h ⊢
    split at h
    · next c => rw [if_pos c]; exact h
    · next c => rw [if_neg c]; exact eu_mono n m _ _ _ h (by omega)
def Gp : Nat → Nat × Nat
  | 0 => (1, 2)
  | k + 1 => ((Gp k).2, (Gp k).1 + (Gp k).2)
theorem Gp_ok : ∀ k a b, b < a → b < (Gp k).1 → ∃ g, eu (k + 1) a b = some g
  | 0, a, b, h, hb => by
    have hb : b < 1 := hb
    have : b = 0 := by omega
    exact ⟨a, by rw [this]; rfl⟩
  | 1, a, b, h, hb => by
    have hb : b < 2 := hb
    by_cases c : b = 0
    · exact ⟨a, by rw [c]; rfl⟩
    · refine ⟨b, ?_⟩
      have : b = 1 := by omega
      subst this
      show (if (1 : Nat) = 0 then some a else eu 1 1 (a % 1)) = some 1
      rw [if_neg (by decide), Nat.mod_one]
      rfl
  | k + 2, a, b, h, hb => by
    have e : (Gp (k + 2)).1 = (Gp k).1 + (Gp (k + 1)).1 := rfl
    by_cases c : b = 0
    · exact ⟨a, by rw [c]; rfl⟩
    · have l1 : a % b < b := Nat.mod_lt _ (by omega)
      show ∃ g, (if b = 0 then some a else eu (k + 2) b (a % b)) = some g
      rw [if_neg c]
      by_cases q : a % b < (Gp (k + 1)).1
      · exact Gp_ok (k + 1) b (a % b) l1 q
      · show ∃ g, (if a % b = 0 then some b else eu (k + 1) (a % b) (b % (a % b))) = some g
        by_cases c2 : a % b = 0
        · exact ⟨b, by rw [if_pos c2]⟩
        · rw [if_neg c2]
          have l2 : b % (a % b) < a % b := Nat.mod_lt _ (by omega)
          have l3 : b % (a % b) ≤ b - (a % b) := by
            rw [Nat.mod_eq_sub_mod (by omega)]
            exact Nat.mod_le _ _
          exact Gp_ok k (a % b) (b % (a % b)) l2 (by omega)
theorem Gp_85 : 80000000000000001 < (Gp 85).1 := by decide +kernel
theorem eu_all {a b : Nat} (hb : b ≤ 80000000000000000) : eu 87 a b = some (Nat.gcd a b) := by
  by_cases c : b = 0
  · rw [c, Nat.gcd_zero_right]; rfl
  · have l1 : a % b < b := Nat.mod_lt _ (by omega)
    have := Gp_85
    obtain ⟨g, hg⟩ := Gp_ok 85 b (a % b) l1 (by omega)
    have e : eu 87 a b = some g := by
      show (if b = 0 then some a else eu 86 b (a % b)) = some g
      rw [if_neg c]; exact hg
    rw [e, eu_gcd _ _ _ _ e]
theorem lN_inj {a b : Nat} (ha : a < 2 ^ 63) (hb : b < 2 ^ 63) : lN a = lN b ↔ a = b := by
  constructor
  · intro h
    have := congrArg Int64.toInt h
    unfold lN at this
    rw [Int64.toInt_ofNat_of_lt ha, Int64.toInt_ofNat_of_lt hb] at this
    omega
  · intro h; rw [h]
theorem lN_0 {a : Nat} (ha : a < 2 ^ 63) : lN a = 0 ↔ a = 0 := lN_inj (b := 0) ha (by decide)
theorem lN_mod {a b : Nat} (ha : a < 2 ^ 63) (hb : b < 2 ^ 63) : lN a - lN a / lN b * lN b = lN (a % b) := by
  unfold lN
  rw [← Int64.ofNat_div ha hb, ← Int64.ofNat_mul]
  have e : a = a % b + a / b * b := by rw [Nat.mul_comm]; exact (Nat.mod_add_div a b).symm
  have e2 : Int64.ofNat a = Int64.ofNat (a % b) + Int64.ofNat (a / b * b) := by rw [← Int64.ofNat_add, ← e]
  rw [e2, Int64.add_sub_cancel]
theorem c_euL : ∀ n a b g i, eu n a b = some g → a < 2 ^ 63 → b < 2 ^ 63 → i + n ≤ 200 → sk_itr fX9_lowest_L10 (lN a, lN b, nI i) = some (lN g)
  | 0, a, b, g, i, h, _, _, _ => absurd h (by simp [eu])
  | n + 1, a, b, g, i, h, ha, hb, hi => by
    unfold eu at h
    have t : ¬ (200 : Int32) ≤ nI i := nI_ge (b := 200) (by omega) (by omega)
    split at h
    · next c =>
      apply sk_itr_exit
      unfold fX9_lowest_L10
      rw [if_neg t, if_pos ((lN_0 hb).mpr c), Option.some.inj h]
    · next c =>
      have c' : ¬ lN b = 0 := fun a => c ((lN_0 hb).mp a)
      rw [sk_itr_step (s1 := (lN b, lN (a % b), nI (i + 1))) (by
        unfold fX9_lowest_L10
        dsimp only
        rw [if_neg t, if_neg c', if_pos c', lN_mod ha hb, nI_1])]
      have := Nat.mod_lt a (show 0 < b by omega)
      exact c_euL n b (a % b) g (i + 1) h hb (by omega) (by omega)
theorem m_euG (S : sk_S) (d : sk_D) : ∀ n fuel a b g, eu n a b = some g → n ≤ fuel → a < 2 ^ 63 → b < 2 ^ 63 → gX11c S fuel 0 d (lN a) (lN b) = some (lN g)
  | 0, fuel, a, b, g, h, _, _, _ => absurd h (by simp [eu])
  | n + 1, 0, a, b, g, h, hf, _, _ => by omega
  | n + 1, fuel + 1, a, b, g, h, hf, ha, hb => by
    unfold eu at h
    show fX11_common_o (gX11c S fuel) S d (lN a) (lN b) = some (lN g)
    unfold fX11_common_o
    split at h
    · next c => rw [if_pos ((lN_0 hb).mpr c), Option.some.inj h]
    · next c =>
      have c' : ¬ lN b = 0 := fun a => c ((lN_0 hb).mp a)
      have := Nat.mod_lt a (show 0 < b by omega)
      rw [if_neg c', if_pos c', lN_mod ha hb, m_euG S d n fuel b (a % b) g h (by omega) hb (by omega)]
      rfl
def wh : Nat := 10000000000000000
noncomputable def x_low (p : Nat) (w : Int32) : Int64 := if w = 0 then lN p / lN (Nat.gcd wh p) else lN wh / lN (Nat.gcd wh p)
theorem gcd_ok (p : Nat) : 0 < Nat.gcd wh p ∧ Nat.gcd wh p ≤ wh := ⟨Nat.gcd_pos_of_pos_left _ (by decide), Nat.le_of_dvd (by decide) (Nat.gcd_dvd_left _ _)⟩
theorem c_lowest (S : sk_S) (d : sk_D) {p : Nat} (hp : p ≤ 80000000000000000) (w : Int32) : fX9_lowest S d (lN p) w = some (x_low p w) := by
  obtain ⟨g1, g2⟩ := gcd_ok p
  have g2 : Nat.gcd wh p ≤ 10000000000000000 := g2
  have e := c_euL 87 wh p (Nat.gcd wh p) 0 (eu_all hp) (by decide) (by omega) (by omega)
  unfold fX9_lowest x_low
  rw [show ((10000000000000000 : Int64), lN p, (0 : Int32)) = (lN wh, lN p, nI 0) from rfl, e, Option.bind_some]
  have n0 : ¬ lN (Nat.gcd wh p) = 0 := fun a => by rw [lN_0 (by omega)] at a; omega
  have n1 : ¬ lN (Nat.gcd wh p) < 1 := by
    rw [Int64.lt_iff_toInt_lt]
    unfold lN
    rw [Int64.toInt_ofNat_of_lt (by omega)]
    have : (1 : Int64).toInt = 1 := rfl
    omega
  rw [if_neg n1]
  by_cases q : w = 0
  · rw [if_pos q, if_pos q, if_pos n0]
  · rw [if_neg q, if_neg q, if_pos n0]; rfl
theorem m_part {S : sk_S} {d : sk_D} {p : Nat} (hp : p ≤ 80000000000000000) (w : Int32) : fX11_part S d (lN p) w = some (x_low p w) := by
  obtain ⟨g1, g2⟩ := gcd_ok p
  have g2 : Nat.gcd wh p ≤ 10000000000000000 := g2
  have e := m_euG S d 87 100 p wh (Nat.gcd wh p) (by rw [Nat.gcd_comm wh p]; exact eu_all (by decide)) (by omega) (by omega) (by decide)
  have n0 : ¬ lN (Nat.gcd wh p) = 0 := fun a => by rw [lN_0 (by omega)] at a; omega
  have j : ∀ v, fX11_part_J11 S d (lN p) v = some (v / lN (Nat.gcd wh p)) := by
    intro v
    unfold fX11_part_J11 fX11_common
    rw [show (10000000000000000 : Int64) = lN wh from rfl, e, Option.bind_some, if_pos n0]
  unfold fX11_part x_low
  rw [j, j]
  by_cases q : w = 0
  · rw [if_pos q, if_pos q]
  · rw [if_neg q, if_neg q]; rfl
