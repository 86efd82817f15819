/-! the shape of the memory behind both constructors -/
def kL : List (Nat × Nat) := [(99, 0), (9, 0), (8, 0), (2, 0), (20, 8), (20, 8), (20, 8), (20, 8), (20, 8), (20, 8), (20, 8), (20, 8), (1, 0), (20, 900), (20, 64), (1, 0), (20, 900), (20, 64), (22, 2048), (20, 2048), (20, 6), (5, 0), (2, 0), (20, 8), (20, 8), (20, 8), (20, 8), (20, 8), (20, 8), (20, 8), (20, 8), (1, 0), (20, 900), (20, 64), (1, 0), (20, 900), (20, 64), (20, 901), (20, 901), (20, 901), (7, 0), (20, 1), (20, 1), (21, 1), (21, 1), (3, 0), (20, 8), (20, 256), (0, 0), (20, 8), (4, 0), (20, 10), (24, 4), (25, 2), (20, 2), (20, 900), (6, 0), (21, 40), (6, 0), (21, 40), (6, 0), (21, 40), (6, 0), (21, 40), (2, 0), (20, 8), (20, 8), (20, 8), (20, 8), (20, 8), (20, 8), (20, 8), (20, 8), (1, 0), (20, 900), (20, 64), (1, 0), (20, 900), (20, 64), (2, 0), (20, 8), (20, 8), (20, 8), (20, 8), (20, 8), (20, 8), (20, 8), (20, 8), (1, 0), (20, 900), (20, 64), (1, 0), (20, 900), (20, 64), (10, 0), (20, 3225), (23, 2), (20, 900), (20, 1075), (20, 900), (20, 6), (20, 9), (20, 65536), (20, 1048576), (20, 65536), (23, 65536), (21, 65536), (21, 65536), (20, 8), (20, 256), (20, 8), (20, 8), (20, 8), (20, 4), (20, 4), (21, 160)]
def kT (a : Nat) : Nat × Nat := kL.getD a (99, 0)
def rL : List (List Nat) := [[], [2, 21, 40, 45, 48, 50, 52, 53, 54, 55], [3, 18, 19, 20], [0, 0, 0, 0, 0, 4, 5, 6, 7, 8, 9, 10, 11, 12, 15], [], [], [], [], [], [], [], [], [13, 14], [], [], [16, 17], [], [], [], [], [], [22, 0, 0, 37, 38, 39], [0, 0, 0, 0, 0, 23, 24, 25, 26, 27, 28, 29, 30, 31, 34], [], [], [], [], [], [], [], [], [32, 33], [], [], [35, 36], [], [], [], [], [], [], [], [], [], [], [46, 47], [], [], [49], [], [51], [], [56, 58, 60, 62], [64, 79], [], [], [57], [], [59], [], [61], [], [63], [], [0, 0, 0, 0, 0, 65, 66, 67, 68, 69, 70, 71, 72, 73, 76], [], [], [], [], [], [], [], [], [74, 75], [], [], [77, 78], [], [], [0, 0, 0, 0, 0, 80, 81, 82, 83, 84, 85, 86, 87, 88, 91], [], [], [], [], [], [], [], [], [89, 90], [], [], [92, 93], [], [], [0, 95, 96, 97, 98, 0, 0, 0, 0, 0, 0, 0, 0, 0, 0, 0, 99, 100, 101, 0, 0, 102, 103, 104, 105, 0, 106, 107, 108, 109, 110, 111, 0, 112, 113, 114, 115], [], [], [], [], [], [], [], [], [], [], [], [], [], [], [], [], [], [], [], [], []]
def rT (a k : Nat) : Nat := (rL.getD a []).getD k 0
def Sh (S : sk_S) : Prop := (∀ a, a ≤ 115 → S.2.1 a = kT a) ∧ ∀ a, a ≤ 115 → a ≠ 40 → ∀ k, S.2.2 a k = rT a k
theorem kd1 {S : sk_S} (h : Sh S) : S.2.1 1 = (9, 0) := h.1 1 (by decide)
theorem gi1 {S : sk_S} (h : Sh S) (d : sk_D) (k : Nat) : sk_gI S d 1 9 k = some (d.1 1 k) := if_pos (kd1 h)
theorem pi1 {S : sk_S} (h : Sh S) (d : sk_D) (k : Nat) (v : Int32) : sk_pI S d 1 9 k v = some (sk_uI d 1 k v) := if_pos (kd1 h)
theorem gr1_0 {S : sk_S} (h : Sh S) : sk_gR S 1 9 0 = some 2 := by unfold sk_gR; rw [kd1 h, h.2 1 (by decide) (by decide)]; rfl
theorem gr1_1 {S : sk_S} (h : Sh S) : sk_gR S 1 9 1 = some 21 := by unfold sk_gR; rw [kd1 h, h.2 1 (by decide) (by decide)]; rfl
theorem gr1_2 {S : sk_S} (h : Sh S) : sk_gR S 1 9 2 = some 40 := by unfold sk_gR; rw [kd1 h, h.2 1 (by decide) (by decide)]; rfl
theorem gr1_3 {S : sk_S} (h : Sh S) : sk_gR S 1 9 3 = some 45 := by unfold sk_gR; rw [kd1 h, h.2 1 (by decide) (by decide)]; rfl
theorem gr1_4 {S : sk_S} (h : Sh S) : sk_gR S 1 9 4 = some 48 := by unfold sk_gR; rw [kd1 h, h.2 1 (by decide) (by decide)]; rfl
theorem gr1_5 {S : sk_S} (h : Sh S) : sk_gR S 1 9 5 = some 50 := by unfold sk_gR; rw [kd1 h, h.2 1 (by decide) (by decide)]; rfl
theorem gr1_6 {S : sk_S} (h : Sh S) : sk_gR S 1 9 6 = some 52 := by unfold sk_gR; rw [kd1 h, h.2 1 (by decide) (by decide)]; rfl
theorem gr1_7 {S : sk_S} (h : Sh S) : sk_gR S 1 9 7 = some 53 := by unfold sk_gR; rw [kd1 h, h.2 1 (by decide) (by decide)]; rfl
theorem gr1_8 {S : sk_S} (h : Sh S) : sk_gR S 1 9 8 = some 54 := by unfold sk_gR; rw [kd1 h, h.2 1 (by decide) (by decide)]; rfl
theorem gr1_9 {S : sk_S} (h : Sh S) : sk_gR S 1 9 9 = some 55 := by unfold sk_gR; rw [kd1 h, h.2 1 (by decide) (by decide)]; rfl
theorem kd2 {S : sk_S} (h : Sh S) : S.2.1 2 = (8, 0) := h.1 2 (by decide)
theorem gi2 {S : sk_S} (h : Sh S) (d : sk_D) (k : Nat) : sk_gI S d 2 8 k = some (d.1 2 k) := if_pos (kd2 h)
theorem pi2 {S : sk_S} (h : Sh S) (d : sk_D) (k : Nat) (v : Int32) : sk_pI S d 2 8 k v = some (sk_uI d 2 k v) := if_pos (kd2 h)
theorem gr2_0 {S : sk_S} (h : Sh S) : sk_gR S 2 8 0 = some 3 := by unfold sk_gR; rw [kd2 h, h.2 2 (by decide) (by decide)]; rfl
theorem gr2_1 {S : sk_S} (h : Sh S) : sk_gR S 2 8 1 = some 18 := by unfold sk_gR; rw [kd2 h, h.2 2 (by decide) (by decide)]; rfl
theorem gr2_2 {S : sk_S} (h : Sh S) : sk_gR S 2 8 2 = some 19 := by unfold sk_gR; rw [kd2 h, h.2 2 (by decide) (by decide)]; rfl
theorem gr2_3 {S : sk_S} (h : Sh S) : sk_gR S 2 8 3 = some 20 := by unfold sk_gR; rw [kd2 h, h.2 2 (by decide) (by decide)]; rfl
theorem kd3 {S : sk_S} (h : Sh S) : S.2.1 3 = (2, 0) := h.1 3 (by decide)
theorem gi3 {S : sk_S} (h : Sh S) (d : sk_D) (k : Nat) : sk_gI S d 3 2 k = some (d.1 3 k) := if_pos (kd3 h)
theorem pi3 {S : sk_S} (h : Sh S) (d : sk_D) (k : Nat) (v : Int32) : sk_pI S d 3 2 k v = some (sk_uI d 3 k v) := if_pos (kd3 h)
theorem gr3_5 {S : sk_S} (h : Sh S) : sk_gR S 3 2 5 = some 4 := by unfold sk_gR; rw [kd3 h, h.2 3 (by decide) (by decide)]; rfl
theorem gr3_6 {S : sk_S} (h : Sh S) : sk_gR S 3 2 6 = some 5 := by unfold sk_gR; rw [kd3 h, h.2 3 (by decide) (by decide)]; rfl
theorem gr3_7 {S : sk_S} (h : Sh S) : sk_gR S 3 2 7 = some 6 := by unfold sk_gR; rw [kd3 h, h.2 3 (by decide) (by decide)]; rfl
theorem gr3_8 {S : sk_S} (h : Sh S) : sk_gR S 3 2 8 = some 7 := by unfold sk_gR; rw [kd3 h, h.2 3 (by decide) (by decide)]; rfl
theorem gr3_9 {S : sk_S} (h : Sh S) : sk_gR S 3 2 9 = some 8 := by unfold sk_gR; rw [kd3 h, h.2 3 (by decide) (by decide)]; rfl
theorem gr3_10 {S : sk_S} (h : Sh S) : sk_gR S 3 2 10 = some 9 := by unfold sk_gR; rw [kd3 h, h.2 3 (by decide) (by decide)]; rfl
theorem gr3_11 {S : sk_S} (h : Sh S) : sk_gR S 3 2 11 = some 10 := by unfold sk_gR; rw [kd3 h, h.2 3 (by decide) (by decide)]; rfl
theorem gr3_12 {S : sk_S} (h : Sh S) : sk_gR S 3 2 12 = some 11 := by unfold sk_gR; rw [kd3 h, h.2 3 (by decide) (by decide)]; rfl
theorem gr3_13 {S : sk_S} (h : Sh S) : sk_gR S 3 2 13 = some 12 := by unfold sk_gR; rw [kd3 h, h.2 3 (by decide) (by decide)]; rfl
theorem gr3_14 {S : sk_S} (h : Sh S) : sk_gR S 3 2 14 = some 15 := by unfold sk_gR; rw [kd3 h, h.2 3 (by decide) (by decide)]; rfl
theorem kd4 {S : sk_S} (h : Sh S) : S.2.1 4 = (20, 8) := h.1 4 (by decide)
theorem al4 {S : sk_S} (h : Sh S) : sk_al S 4 20 = some (nI 8) := by unfold sk_al; rw [kd4 h]; rfl
theorem li4 {S : sk_S} (h : Sh S) (d : sk_D) {j : Nat} (hj : j < 8) : sk_lI S d 4 20 (nI j) = some (d.1 4 j) := by unfold sk_lI; rw [kd4 h, if_pos ⟨rfl, nI_in hj (by decide)⟩, nI_clamp (Nat.lt_trans hj (by decide))]
theorem si4 {S : sk_S} (h : Sh S) (d : sk_D) (v : Int32) {j : Nat} (hj : j < 8) : sk_sI S d 4 20 (nI j) v = some (sk_uI d 4 j v) := by unfold sk_sI; rw [kd4 h, if_pos ⟨rfl, nI_in hj (by decide)⟩, nI_clamp (Nat.lt_trans hj (by decide))]
theorem kd5 {S : sk_S} (h : Sh S) : S.2.1 5 = (20, 8) := h.1 5 (by decide)
theorem al5 {S : sk_S} (h : Sh S) : sk_al S 5 20 = some (nI 8) := by unfold sk_al; rw [kd5 h]; rfl
theorem li5 {S : sk_S} (h : Sh S) (d : sk_D) {j : Nat} (hj : j < 8) : sk_lI S d 5 20 (nI j) = some (d.1 5 j) := by unfold sk_lI; rw [kd5 h, if_pos ⟨rfl, nI_in hj (by decide)⟩, nI_clamp (Nat.lt_trans hj (by decide))]
theorem si5 {S : sk_S} (h : Sh S) (d : sk_D) (v : Int32) {j : Nat} (hj : j < 8) : sk_sI S d 5 20 (nI j) v = some (sk_uI d 5 j v) := by unfold sk_sI; rw [kd5 h, if_pos ⟨rfl, nI_in hj (by decide)⟩, nI_clamp (Nat.lt_trans hj (by decide))]
theorem kd6 {S : sk_S} (h : Sh S) : S.2.1 6 = (20, 8) := h.1 6 (by decide)
theorem al6 {S : sk_S} (h : Sh S) : sk_al S 6 20 = some (nI 8) := by unfold sk_al; rw [kd6 h]; rfl
theorem li6 {S : sk_S} (h : Sh S) (d : sk_D) {j : Nat} (hj : j < 8) : sk_lI S d 6 20 (nI j) = some (d.1 6 j) := by unfold sk_lI; rw [kd6 h, if_pos ⟨rfl, nI_in hj (by decide)⟩, nI_clamp (Nat.lt_trans hj (by decide))]
theorem si6 {S : sk_S} (h : Sh S) (d : sk_D) (v : Int32) {j : Nat} (hj : j < 8) : sk_sI S d 6 20 (nI j) v = some (sk_uI d 6 j v) := by unfold sk_sI; rw [kd6 h, if_pos ⟨rfl, nI_in hj (by decide)⟩, nI_clamp (Nat.lt_trans hj (by decide))]
theorem kd7 {S : sk_S} (h : Sh S) : S.2.1 7 = (20, 8) := h.1 7 (by decide)
theorem al7 {S : sk_S} (h : Sh S) : sk_al S 7 20 = some (nI 8) := by unfold sk_al; rw [kd7 h]; rfl
theorem li7 {S : sk_S} (h : Sh S) (d : sk_D) {j : Nat} (hj : j < 8) : sk_lI S d 7 20 (nI j) = some (d.1 7 j) := by unfold sk_lI; rw [kd7 h, if_pos ⟨rfl, nI_in hj (by decide)⟩, nI_clamp (Nat.lt_trans hj (by decide))]
theorem si7 {S : sk_S} (h : Sh S) (d : sk_D) (v : Int32) {j : Nat} (hj : j < 8) : sk_sI S d 7 20 (nI j) v = some (sk_uI d 7 j v) := by unfold sk_sI; rw [kd7 h, if_pos ⟨rfl, nI_in hj (by decide)⟩, nI_clamp (Nat.lt_trans hj (by decide))]
theorem kd8 {S : sk_S} (h : Sh S) : S.2.1 8 = (20, 8) := h.1 8 (by decide)
theorem al8 {S : sk_S} (h : Sh S) : sk_al S 8 20 = some (nI 8) := by unfold sk_al; rw [kd8 h]; rfl
theorem li8 {S : sk_S} (h : Sh S) (d : sk_D) {j : Nat} (hj : j < 8) : sk_lI S d 8 20 (nI j) = some (d.1 8 j) := by unfold sk_lI; rw [kd8 h, if_pos ⟨rfl, nI_in hj (by decide)⟩, nI_clamp (Nat.lt_trans hj (by decide))]
theorem si8 {S : sk_S} (h : Sh S) (d : sk_D) (v : Int32) {j : Nat} (hj : j < 8) : sk_sI S d 8 20 (nI j) v = some (sk_uI d 8 j v) := by unfold sk_sI; rw [kd8 h, if_pos ⟨rfl, nI_in hj (by decide)⟩, nI_clamp (Nat.lt_trans hj (by decide))]
theorem kd9 {S : sk_S} (h : Sh S) : S.2.1 9 = (20, 8) := h.1 9 (by decide)
theorem al9 {S : sk_S} (h : Sh S) : sk_al S 9 20 = some (nI 8) := by unfold sk_al; rw [kd9 h]; rfl
theorem li9 {S : sk_S} (h : Sh S) (d : sk_D) {j : Nat} (hj : j < 8) : sk_lI S d 9 20 (nI j) = some (d.1 9 j) := by unfold sk_lI; rw [kd9 h, if_pos ⟨rfl, nI_in hj (by decide)⟩, nI_clamp (Nat.lt_trans hj (by decide))]
theorem si9 {S : sk_S} (h : Sh S) (d : sk_D) (v : Int32) {j : Nat} (hj : j < 8) : sk_sI S d 9 20 (nI j) v = some (sk_uI d 9 j v) := by unfold sk_sI; rw [kd9 h, if_pos ⟨rfl, nI_in hj (by decide)⟩, nI_clamp (Nat.lt_trans hj (by decide))]
theorem kd10 {S : sk_S} (h : Sh S) : S.2.1 10 = (20, 8) := h.1 10 (by decide)
theorem al10 {S : sk_S} (h : Sh S) : sk_al S 10 20 = some (nI 8) := by unfold sk_al; rw [kd10 h]; rfl
theorem li10 {S : sk_S} (h : Sh S) (d : sk_D) {j : Nat} (hj : j < 8) : sk_lI S d 10 20 (nI j) = some (d.1 10 j) := by unfold sk_lI; rw [kd10 h, if_pos ⟨rfl, nI_in hj (by decide)⟩, nI_clamp (Nat.lt_trans hj (by decide))]
theorem si10 {S : sk_S} (h : Sh S) (d : sk_D) (v : Int32) {j : Nat} (hj : j < 8) : sk_sI S d 10 20 (nI j) v = some (sk_uI d 10 j v) := by unfold sk_sI; rw [kd10 h, if_pos ⟨rfl, nI_in hj (by decide)⟩, nI_clamp (Nat.lt_trans hj (by decide))]
theorem kd11 {S : sk_S} (h : Sh S) : S.2.1 11 = (20, 8) := h.1 11 (by decide)
theorem al11 {S : sk_S} (h : Sh S) : sk_al S 11 20 = some (nI 8) := by unfold sk_al; rw [kd11 h]; rfl
theorem li11 {S : sk_S} (h : Sh S) (d : sk_D) {j : Nat} (hj : j < 8) : sk_lI S d 11 20 (nI j) = some (d.1 11 j) := by unfold sk_lI; rw [kd11 h, if_pos ⟨rfl, nI_in hj (by decide)⟩, nI_clamp (Nat.lt_trans hj (by decide))]
theorem si11 {S : sk_S} (h : Sh S) (d : sk_D) (v : Int32) {j : Nat} (hj : j < 8) : sk_sI S d 11 20 (nI j) v = some (sk_uI d 11 j v) := by unfold sk_sI; rw [kd11 h, if_pos ⟨rfl, nI_in hj (by decide)⟩, nI_clamp (Nat.lt_trans hj (by decide))]
theorem kd12 {S : sk_S} (h : Sh S) : S.2.1 12 = (1, 0) := h.1 12 (by decide)
theorem gi12 {S : sk_S} (h : Sh S) (d : sk_D) (k : Nat) : sk_gI S d 12 1 k = some (d.1 12 k) := if_pos (kd12 h)
theorem pi12 {S : sk_S} (h : Sh S) (d : sk_D) (k : Nat) (v : Int32) : sk_pI S d 12 1 k v = some (sk_uI d 12 k v) := if_pos (kd12 h)
theorem gr12_0 {S : sk_S} (h : Sh S) : sk_gR S 12 1 0 = some 13 := by unfold sk_gR; rw [kd12 h, h.2 12 (by decide) (by decide)]; rfl
theorem gr12_1 {S : sk_S} (h : Sh S) : sk_gR S 12 1 1 = some 14 := by unfold sk_gR; rw [kd12 h, h.2 12 (by decide) (by decide)]; rfl
theorem kd13 {S : sk_S} (h : Sh S) : S.2.1 13 = (20, 900) := h.1 13 (by decide)
theorem al13 {S : sk_S} (h : Sh S) : sk_al S 13 20 = some (nI 900) := by unfold sk_al; rw [kd13 h]; rfl
theorem li13 {S : sk_S} (h : Sh S) (d : sk_D) {j : Nat} (hj : j < 900) : sk_lI S d 13 20 (nI j) = some (d.1 13 j) := by unfold sk_lI; rw [kd13 h, if_pos ⟨rfl, nI_in hj (by decide)⟩, nI_clamp (Nat.lt_trans hj (by decide))]
theorem si13 {S : sk_S} (h : Sh S) (d : sk_D) (v : Int32) {j : Nat} (hj : j < 900) : sk_sI S d 13 20 (nI j) v = some (sk_uI d 13 j v) := by unfold sk_sI; rw [kd13 h, if_pos ⟨rfl, nI_in hj (by decide)⟩, nI_clamp (Nat.lt_trans hj (by decide))]
theorem kd14 {S : sk_S} (h : Sh S) : S.2.1 14 = (20, 64) := h.1 14 (by decide)
theorem al14 {S : sk_S} (h : Sh S) : sk_al S 14 20 = some (nI 64) := by unfold sk_al; rw [kd14 h]; rfl
theorem li14 {S : sk_S} (h : Sh S) (d : sk_D) {j : Nat} (hj : j < 64) : sk_lI S d 14 20 (nI j) = some (d.1 14 j) := by unfold sk_lI; rw [kd14 h, if_pos ⟨rfl, nI_in hj (by decide)⟩, nI_clamp (Nat.lt_trans hj (by decide))]
theorem si14 {S : sk_S} (h : Sh S) (d : sk_D) (v : Int32) {j : Nat} (hj : j < 64) : sk_sI S d 14 20 (nI j) v = some (sk_uI d 14 j v) := by unfold sk_sI; rw [kd14 h, if_pos ⟨rfl, nI_in hj (by decide)⟩, nI_clamp (Nat.lt_trans hj (by decide))]
theorem kd15 {S : sk_S} (h : Sh S) : S.2.1 15 = (1, 0) := h.1 15 (by decide)
theorem gi15 {S : sk_S} (h : Sh S) (d : sk_D) (k : Nat) : sk_gI S d 15 1 k = some (d.1 15 k) := if_pos (kd15 h)
theorem pi15 {S : sk_S} (h : Sh S) (d : sk_D) (k : Nat) (v : Int32) : sk_pI S d 15 1 k v = some (sk_uI d 15 k v) := if_pos (kd15 h)
theorem gr15_0 {S : sk_S} (h : Sh S) : sk_gR S 15 1 0 = some 16 := by unfold sk_gR; rw [kd15 h, h.2 15 (by decide) (by decide)]; rfl
theorem gr15_1 {S : sk_S} (h : Sh S) : sk_gR S 15 1 1 = some 17 := by unfold sk_gR; rw [kd15 h, h.2 15 (by decide) (by decide)]; rfl
theorem kd16 {S : sk_S} (h : Sh S) : S.2.1 16 = (20, 900) := h.1 16 (by decide)
theorem al16 {S : sk_S} (h : Sh S) : sk_al S 16 20 = some (nI 900) := by unfold sk_al; rw [kd16 h]; rfl
theorem li16 {S : sk_S} (h : Sh S) (d : sk_D) {j : Nat} (hj : j < 900) : sk_lI S d 16 20 (nI j) = some (d.1 16 j) := by unfold sk_lI; rw [kd16 h, if_pos ⟨rfl, nI_in hj (by decide)⟩, nI_clamp (Nat.lt_trans hj (by decide))]
theorem si16 {S : sk_S} (h : Sh S) (d : sk_D) (v : Int32) {j : Nat} (hj : j < 900) : sk_sI S d 16 20 (nI j) v = some (sk_uI d 16 j v) := by unfold sk_sI; rw [kd16 h, if_pos ⟨rfl, nI_in hj (by decide)⟩, nI_clamp (Nat.lt_trans hj (by decide))]
theorem kd17 {S : sk_S} (h : Sh S) : S.2.1 17 = (20, 64) := h.1 17 (by decide)
theorem al17 {S : sk_S} (h : Sh S) : sk_al S 17 20 = some (nI 64) := by unfold sk_al; rw [kd17 h]; rfl
theorem li17 {S : sk_S} (h : Sh S) (d : sk_D) {j : Nat} (hj : j < 64) : sk_lI S d 17 20 (nI j) = some (d.1 17 j) := by unfold sk_lI; rw [kd17 h, if_pos ⟨rfl, nI_in hj (by decide)⟩, nI_clamp (Nat.lt_trans hj (by decide))]
theorem si17 {S : sk_S} (h : Sh S) (d : sk_D) (v : Int32) {j : Nat} (hj : j < 64) : sk_sI S d 17 20 (nI j) v = some (sk_uI d 17 j v) := by unfold sk_sI; rw [kd17 h, if_pos ⟨rfl, nI_in hj (by decide)⟩, nI_clamp (Nat.lt_trans hj (by decide))]
theorem kd18 {S : sk_S} (h : Sh S) : S.2.1 18 = (22, 2048) := h.1 18 (by decide)
theorem al18 {S : sk_S} (h : Sh S) : sk_al S 18 22 = some (nI 2048) := by unfold sk_al; rw [kd18 h]; rfl
theorem li18 {S : sk_S} (h : Sh S) (d : sk_D) {j : Nat} (hj : j < 2048) : sk_lI S d 18 22 (nI j) = some (d.1 18 j) := by unfold sk_lI; rw [kd18 h, if_pos ⟨rfl, nI_in hj (by decide)⟩, nI_clamp (Nat.lt_trans hj (by decide))]
theorem si18 {S : sk_S} (h : Sh S) (d : sk_D) (v : Int32) {j : Nat} (hj : j < 2048) : sk_sI S d 18 22 (nI j) v = some (sk_uI d 18 j v) := by unfold sk_sI; rw [kd18 h, if_pos ⟨rfl, nI_in hj (by decide)⟩, nI_clamp (Nat.lt_trans hj (by decide))]
theorem kd19 {S : sk_S} (h : Sh S) : S.2.1 19 = (20, 2048) := h.1 19 (by decide)
theorem al19 {S : sk_S} (h : Sh S) : sk_al S 19 20 = some (nI 2048) := by unfold sk_al; rw [kd19 h]; rfl
theorem li19 {S : sk_S} (h : Sh S) (d : sk_D) {j : Nat} (hj : j < 2048) : sk_lI S d 19 20 (nI j) = some (d.1 19 j) := by unfold sk_lI; rw [kd19 h, if_pos ⟨rfl, nI_in hj (by decide)⟩, nI_clamp (Nat.lt_trans hj (by decide))]
theorem si19 {S : sk_S} (h : Sh S) (d : sk_D) (v : Int32) {j : Nat} (hj : j < 2048) : sk_sI S d 19 20 (nI j) v = some (sk_uI d 19 j v) := by unfold sk_sI; rw [kd19 h, if_pos ⟨rfl, nI_in hj (by decide)⟩, nI_clamp (Nat.lt_trans hj (by decide))]
theorem kd20 {S : sk_S} (h : Sh S) : S.2.1 20 = (20, 6) := h.1 20 (by decide)
theorem al20 {S : sk_S} (h : Sh S) : sk_al S 20 20 = some (nI 6) := by unfold sk_al; rw [kd20 h]; rfl
theorem li20 {S : sk_S} (h : Sh S) (d : sk_D) {j : Nat} (hj : j < 6) : sk_lI S d 20 20 (nI j) = some (d.1 20 j) := by unfold sk_lI; rw [kd20 h, if_pos ⟨rfl, nI_in hj (by decide)⟩, nI_clamp (Nat.lt_trans hj (by decide))]
theorem si20 {S : sk_S} (h : Sh S) (d : sk_D) (v : Int32) {j : Nat} (hj : j < 6) : sk_sI S d 20 20 (nI j) v = some (sk_uI d 20 j v) := by unfold sk_sI; rw [kd20 h, if_pos ⟨rfl, nI_in hj (by decide)⟩, nI_clamp (Nat.lt_trans hj (by decide))]
theorem kd21 {S : sk_S} (h : Sh S) : S.2.1 21 = (5, 0) := h.1 21 (by decide)
theorem gi21 {S : sk_S} (h : Sh S) (d : sk_D) (k : Nat) : sk_gI S d 21 5 k = some (d.1 21 k) := if_pos (kd21 h)
theorem pi21 {S : sk_S} (h : Sh S) (d : sk_D) (k : Nat) (v : Int32) : sk_pI S d 21 5 k v = some (sk_uI d 21 k v) := if_pos (kd21 h)
theorem gr21_0 {S : sk_S} (h : Sh S) : sk_gR S 21 5 0 = some 22 := by unfold sk_gR; rw [kd21 h, h.2 21 (by decide) (by decide)]; rfl
theorem gr21_3 {S : sk_S} (h : Sh S) : sk_gR S 21 5 3 = some 37 := by unfold sk_gR; rw [kd21 h, h.2 21 (by decide) (by decide)]; rfl
theorem gr21_4 {S : sk_S} (h : Sh S) : sk_gR S 21 5 4 = some 38 := by unfold sk_gR; rw [kd21 h, h.2 21 (by decide) (by decide)]; rfl
theorem gr21_5 {S : sk_S} (h : Sh S) : sk_gR S 21 5 5 = some 39 := by unfold sk_gR; rw [kd21 h, h.2 21 (by decide) (by decide)]; rfl
theorem kd22 {S : sk_S} (h : Sh S) : S.2.1 22 = (2, 0) := h.1 22 (by decide)
theorem gi22 {S : sk_S} (h : Sh S) (d : sk_D) (k : Nat) : sk_gI S d 22 2 k = some (d.1 22 k) := if_pos (kd22 h)
theorem pi22 {S : sk_S} (h : Sh S) (d : sk_D) (k : Nat) (v : Int32) : sk_pI S d 22 2 k v = some (sk_uI d 22 k v) := if_pos (kd22 h)
theorem gr22_5 {S : sk_S} (h : Sh S) : sk_gR S 22 2 5 = some 23 := by unfold sk_gR; rw [kd22 h, h.2 22 (by decide) (by decide)]; rfl
theorem gr22_6 {S : sk_S} (h : Sh S) : sk_gR S 22 2 6 = some 24 := by unfold sk_gR; rw [kd22 h, h.2 22 (by decide) (by decide)]; rfl
theorem gr22_7 {S : sk_S} (h : Sh S) : sk_gR S 22 2 7 = some 25 := by unfold sk_gR; rw [kd22 h, h.2 22 (by decide) (by decide)]; rfl
theorem gr22_8 {S : sk_S} (h : Sh S) : sk_gR S 22 2 8 = some 26 := by unfold sk_gR; rw [kd22 h, h.2 22 (by decide) (by decide)]; rfl
theorem gr22_9 {S : sk_S} (h : Sh S) : sk_gR S 22 2 9 = some 27 := by unfold sk_gR; rw [kd22 h, h.2 22 (by decide) (by decide)]; rfl
theorem gr22_10 {S : sk_S} (h : Sh S) : sk_gR S 22 2 10 = some 28 := by unfold sk_gR; rw [kd22 h, h.2 22 (by decide) (by decide)]; rfl
theorem gr22_11 {S : sk_S} (h : Sh S) : sk_gR S 22 2 11 = some 29 := by unfold sk_gR; rw [kd22 h, h.2 22 (by decide) (by decide)]; rfl
theorem gr22_12 {S : sk_S} (h : Sh S) : sk_gR S 22 2 12 = some 30 := by unfold sk_gR; rw [kd22 h, h.2 22 (by decide) (by decide)]; rfl
theorem gr22_13 {S : sk_S} (h : Sh S) : sk_gR S 22 2 13 = some 31 := by unfold sk_gR; rw [kd22 h, h.2 22 (by decide) (by decide)]; rfl
theorem gr22_14 {S : sk_S} (h : Sh S) : sk_gR S 22 2 14 = some 34 := by unfold sk_gR; rw [kd22 h, h.2 22 (by decide) (by decide)]; rfl
theorem kd23 {S : sk_S} (h : Sh S) : S.2.1 23 = (20, 8) := h.1 23 (by decide)
theorem al23 {S : sk_S} (h : Sh S) : sk_al S 23 20 = some (nI 8) := by unfold sk_al; rw [kd23 h]; rfl
theorem li23 {S : sk_S} (h : Sh S) (d : sk_D) {j : Nat} (hj : j < 8) : sk_lI S d 23 20 (nI j) = some (d.1 23 j) := by unfold sk_lI; rw [kd23 h, if_pos ⟨rfl, nI_in hj (by decide)⟩, nI_clamp (Nat.lt_trans hj (by decide))]
theorem si23 {S : sk_S} (h : Sh S) (d : sk_D) (v : Int32) {j : Nat} (hj : j < 8) : sk_sI S d 23 20 (nI j) v = some (sk_uI d 23 j v) := by unfold sk_sI; rw [kd23 h, if_pos ⟨rfl, nI_in hj (by decide)⟩, nI_clamp (Nat.lt_trans hj (by decide))]
theorem kd24 {S : sk_S} (h : Sh S) : S.2.1 24 = (20, 8) := h.1 24 (by decide)
theorem al24 {S : sk_S} (h : Sh S) : sk_al S 24 20 = some (nI 8) := by unfold sk_al; rw [kd24 h]; rfl
theorem li24 {S : sk_S} (h : Sh S) (d : sk_D) {j : Nat} (hj : j < 8) : sk_lI S d 24 20 (nI j) = some (d.1 24 j) := by unfold sk_lI; rw [kd24 h, if_pos ⟨rfl, nI_in hj (by decide)⟩, nI_clamp (Nat.lt_trans hj (by decide))]
theorem si24 {S : sk_S} (h : Sh S) (d : sk_D) (v : Int32) {j : Nat} (hj : j < 8) : sk_sI S d 24 20 (nI j) v = some (sk_uI d 24 j v) := by unfold sk_sI; rw [kd24 h, if_pos ⟨rfl, nI_in hj (by decide)⟩, nI_clamp (Nat.lt_trans hj (by decide))]
theorem kd25 {S : sk_S} (h : Sh S) : S.2.1 25 = (20, 8) := h.1 25 (by decide)
theorem al25 {S : sk_S} (h : Sh S) : sk_al S 25 20 = some (nI 8) := by unfold sk_al; rw [kd25 h]; rfl
theorem li25 {S : sk_S} (h : Sh S) (d : sk_D) {j : Nat} (hj : j < 8) : sk_lI S d 25 20 (nI j) = some (d.1 25 j) := by unfold sk_lI; rw [kd25 h, if_pos ⟨rfl, nI_in hj (by decide)⟩, nI_clamp (Nat.lt_trans hj (by decide))]
theorem si25 {S : sk_S} (h : Sh S) (d : sk_D) (v : Int32) {j : Nat} (hj : j < 8) : sk_sI S d 25 20 (nI j) v = some (sk_uI d 25 j v) := by unfold sk_sI; rw [kd25 h, if_pos ⟨rfl, nI_in hj (by decide)⟩, nI_clamp (Nat.lt_trans hj (by decide))]
theorem kd26 {S : sk_S} (h : Sh S) : S.2.1 26 = (20, 8) := h.1 26 (by decide)
theorem al26 {S : sk_S} (h : Sh S) : sk_al S 26 20 = some (nI 8) := by unfold sk_al; rw [kd26 h]; rfl
theorem li26 {S : sk_S} (h : Sh S) (d : sk_D) {j : Nat} (hj : j < 8) : sk_lI S d 26 20 (nI j) = some (d.1 26 j) := by unfold sk_lI; rw [kd26 h, if_pos ⟨rfl, nI_in hj (by decide)⟩, nI_clamp (Nat.lt_trans hj (by decide))]
theorem si26 {S : sk_S} (h : Sh S) (d : sk_D) (v : Int32) {j : Nat} (hj : j < 8) : sk_sI S d 26 20 (nI j) v = some (sk_uI d 26 j v) := by unfold sk_sI; rw [kd26 h, if_pos ⟨rfl, nI_in hj (by decide)⟩, nI_clamp (Nat.lt_trans hj (by decide))]
theorem kd27 {S : sk_S} (h : Sh S) : S.2.1 27 = (20, 8) := h.1 27 (by decide)
theorem al27 {S : sk_S} (h : Sh S) : sk_al S 27 20 = some (nI 8) := by unfold sk_al; rw [kd27 h]; rfl
theorem li27 {S : sk_S} (h : Sh S) (d : sk_D) {j : Nat} (hj : j < 8) : sk_lI S d 27 20 (nI j) = some (d.1 27 j) := by unfold sk_lI; rw [kd27 h, if_pos ⟨rfl, nI_in hj (by decide)⟩, nI_clamp (Nat.lt_trans hj (by decide))]
theorem si27 {S : sk_S} (h : Sh S) (d : sk_D) (v : Int32) {j : Nat} (hj : j < 8) : sk_sI S d 27 20 (nI j) v = some (sk_uI d 27 j v) := by unfold sk_sI; rw [kd27 h, if_pos ⟨rfl, nI_in hj (by decide)⟩, nI_clamp (Nat.lt_trans hj (by decide))]
theorem kd28 {S : sk_S} (h : Sh S) : S.2.1 28 = (20, 8) := h.1 28 (by decide)
theorem al28 {S : sk_S} (h : Sh S) : sk_al S 28 20 = some (nI 8) := by unfold sk_al; rw [kd28 h]; rfl
theorem li28 {S : sk_S} (h : Sh S) (d : sk_D) {j : Nat} (hj : j < 8) : sk_lI S d 28 20 (nI j) = some (d.1 28 j) := by unfold sk_lI; rw [kd28 h, if_pos ⟨rfl, nI_in hj (by decide)⟩, nI_clamp (Nat.lt_trans hj (by decide))]
theorem si28 {S : sk_S} (h : Sh S) (d : sk_D) (v : Int32) {j : Nat} (hj : j < 8) : sk_sI S d 28 20 (nI j) v = some (sk_uI d 28 j v) := by unfold sk_sI; rw [kd28 h, if_pos ⟨rfl, nI_in hj (by decide)⟩, nI_clamp (Nat.lt_trans hj (by decide))]
theorem kd29 {S : sk_S} (h : Sh S) : S.2.1 29 = (20, 8) := h.1 29 (by decide)
theorem al29 {S : sk_S} (h : Sh S) : sk_al S 29 20 = some (nI 8) := by unfold sk_al; rw [kd29 h]; rfl
theorem li29 {S : sk_S} (h : Sh S) (d : sk_D) {j : Nat} (hj : j < 8) : sk_lI S d 29 20 (nI j) = some (d.1 29 j) := by unfold sk_lI; rw [kd29 h, if_pos ⟨rfl, nI_in hj (by decide)⟩, nI_clamp (Nat.lt_trans hj (by decide))]
theorem si29 {S : sk_S} (h : Sh S) (d : sk_D) (v : Int32) {j : Nat} (hj : j < 8) : sk_sI S d 29 20 (nI j) v = some (sk_uI d 29 j v) := by unfold sk_sI; rw [kd29 h, if_pos ⟨rfl, nI_in hj (by decide)⟩, nI_clamp (Nat.lt_trans hj (by decide))]
theorem kd30 {S : sk_S} (h : Sh S) : S.2.1 30 = (20, 8) := h.1 30 (by decide)
theorem al30 {S : sk_S} (h : Sh S) : sk_al S 30 20 = some (nI 8) := by unfold sk_al; rw [kd30 h]; rfl
theorem li30 {S : sk_S} (h : Sh S) (d : sk_D) {j : Nat} (hj : j < 8) : sk_lI S d 30 20 (nI j) = some (d.1 30 j) := by unfold sk_lI; rw [kd30 h, if_pos ⟨rfl, nI_in hj (by decide)⟩, nI_clamp (Nat.lt_trans hj (by decide))]
theorem si30 {S : sk_S} (h : Sh S) (d : sk_D) (v : Int32) {j : Nat} (hj : j < 8) : sk_sI S d 30 20 (nI j) v = some (sk_uI d 30 j v) := by unfold sk_sI; rw [kd30 h, if_pos ⟨rfl, nI_in hj (by decide)⟩, nI_clamp (Nat.lt_trans hj (by decide))]
theorem kd31 {S : sk_S} (h : Sh S) : S.2.1 31 = (1, 0) := h.1 31 (by decide)
theorem gi31 {S : sk_S} (h : Sh S) (d : sk_D) (k : Nat) : sk_gI S d 31 1 k = some (d.1 31 k) := if_pos (kd31 h)
theorem pi31 {S : sk_S} (h : Sh S) (d : sk_D) (k : Nat) (v : Int32) : sk_pI S d 31 1 k v = some (sk_uI d 31 k v) := if_pos (kd31 h)
theorem gr31_0 {S : sk_S} (h : Sh S) : sk_gR S 31 1 0 = some 32 := by unfold sk_gR; rw [kd31 h, h.2 31 (by decide) (by decide)]; rfl
theorem gr31_1 {S : sk_S} (h : Sh S) : sk_gR S 31 1 1 = some 33 := by unfold sk_gR; rw [kd31 h, h.2 31 (by decide) (by decide)]; rfl
theorem kd32 {S : sk_S} (h : Sh S) : S.2.1 32 = (20, 900) := h.1 32 (by decide)
theorem al32 {S : sk_S} (h : Sh S) : sk_al S 32 20 = some (nI 900) := by unfold sk_al; rw [kd32 h]; rfl
theorem li32 {S : sk_S} (h : Sh S) (d : sk_D) {j : Nat} (hj : j < 900) : sk_lI S d 32 20 (nI j) = some (d.1 32 j) := by unfold sk_lI; rw [kd32 h, if_pos ⟨rfl, nI_in hj (by decide)⟩, nI_clamp (Nat.lt_trans hj (by decide))]
theorem si32 {S : sk_S} (h : Sh S) (d : sk_D) (v : Int32) {j : Nat} (hj : j < 900) : sk_sI S d 32 20 (nI j) v = some (sk_uI d 32 j v) := by unfold sk_sI; rw [kd32 h, if_pos ⟨rfl, nI_in hj (by decide)⟩, nI_clamp (Nat.lt_trans hj (by decide))]
theorem kd33 {S : sk_S} (h : Sh S) : S.2.1 33 = (20, 64) := h.1 33 (by decide)
theorem al33 {S : sk_S} (h : Sh S) : sk_al S 33 20 = some (nI 64) := by unfold sk_al; rw [kd33 h]; rfl
theorem li33 {S : sk_S} (h : Sh S) (d : sk_D) {j : Nat} (hj : j < 64) : sk_lI S d 33 20 (nI j) = some (d.1 33 j) := by unfold sk_lI; rw [kd33 h, if_pos ⟨rfl, nI_in hj (by decide)⟩, nI_clamp (Nat.lt_trans hj (by decide))]
theorem si33 {S : sk_S} (h : Sh S) (d : sk_D) (v : Int32) {j : Nat} (hj : j < 64) : sk_sI S d 33 20 (nI j) v = some (sk_uI d 33 j v) := by unfold sk_sI; rw [kd33 h, if_pos ⟨rfl, nI_in hj (by decide)⟩, nI_clamp (Nat.lt_trans hj (by decide))]
theorem kd34 {S : sk_S} (h : Sh S) : S.2.1 34 = (1, 0) := h.1 34 (by decide)
theorem gi34 {S : sk_S} (h : Sh S) (d : sk_D) (k : Nat) : sk_gI S d 34 1 k = some (d.1 34 k) := if_pos (kd34 h)
theorem pi34 {S : sk_S} (h : Sh S) (d : sk_D) (k : Nat) (v : Int32) : sk_pI S d 34 1 k v = some (sk_uI d 34 k v) := if_pos (kd34 h)
theorem gr34_0 {S : sk_S} (h : Sh S) : sk_gR S 34 1 0 = some 35 := by unfold sk_gR; rw [kd34 h, h.2 34 (by decide) (by decide)]; rfl
theorem gr34_1 {S : sk_S} (h : Sh S) : sk_gR S 34 1 1 = some 36 := by unfold sk_gR; rw [kd34 h, h.2 34 (by decide) (by decide)]; rfl
theorem kd35 {S : sk_S} (h : Sh S) : S.2.1 35 = (20, 900) := h.1 35 (by decide)
theorem al35 {S : sk_S} (h : Sh S) : sk_al S 35 20 = some (nI 900) := by unfold sk_al; rw [kd35 h]; rfl
theorem li35 {S : sk_S} (h : Sh S) (d : sk_D) {j : Nat} (hj : j < 900) : sk_lI S d 35 20 (nI j) = some (d.1 35 j) := by unfold sk_lI; rw [kd35 h, if_pos ⟨rfl, nI_in hj (by decide)⟩, nI_clamp (Nat.lt_trans hj (by decide))]
theorem si35 {S : sk_S} (h : Sh S) (d : sk_D) (v : Int32) {j : Nat} (hj : j < 900) : sk_sI S d 35 20 (nI j) v = some (sk_uI d 35 j v) := by unfold sk_sI; rw [kd35 h, if_pos ⟨rfl, nI_in hj (by decide)⟩, nI_clamp (Nat.lt_trans hj (by decide))]
theorem kd36 {S : sk_S} (h : Sh S) : S.2.1 36 = (20, 64) := h.1 36 (by decide)
theorem al36 {S : sk_S} (h : Sh S) : sk_al S 36 20 = some (nI 64) := by unfold sk_al; rw [kd36 h]; rfl
theorem li36 {S : sk_S} (h : Sh S) (d : sk_D) {j : Nat} (hj : j < 64) : sk_lI S d 36 20 (nI j) = some (d.1 36 j) := by unfold sk_lI; rw [kd36 h, if_pos ⟨rfl, nI_in hj (by decide)⟩, nI_clamp (Nat.lt_trans hj (by decide))]
theorem si36 {S : sk_S} (h : Sh S) (d : sk_D) (v : Int32) {j : Nat} (hj : j < 64) : sk_sI S d 36 20 (nI j) v = some (sk_uI d 36 j v) := by unfold sk_sI; rw [kd36 h, if_pos ⟨rfl, nI_in hj (by decide)⟩, nI_clamp (Nat.lt_trans hj (by decide))]
theorem kd37 {S : sk_S} (h : Sh S) : S.2.1 37 = (20, 901) := h.1 37 (by decide)
theorem al37 {S : sk_S} (h : Sh S) : sk_al S 37 20 = some (nI 901) := by unfold sk_al; rw [kd37 h]; rfl
theorem li37 {S : sk_S} (h : Sh S) (d : sk_D) {j : Nat} (hj : j < 901) : sk_lI S d 37 20 (nI j) = some (d.1 37 j) := by unfold sk_lI; rw [kd37 h, if_pos ⟨rfl, nI_in hj (by decide)⟩, nI_clamp (Nat.lt_trans hj (by decide))]
theorem si37 {S : sk_S} (h : Sh S) (d : sk_D) (v : Int32) {j : Nat} (hj : j < 901) : sk_sI S d 37 20 (nI j) v = some (sk_uI d 37 j v) := by unfold sk_sI; rw [kd37 h, if_pos ⟨rfl, nI_in hj (by decide)⟩, nI_clamp (Nat.lt_trans hj (by decide))]
theorem kd38 {S : sk_S} (h : Sh S) : S.2.1 38 = (20, 901) := h.1 38 (by decide)
theorem al38 {S : sk_S} (h : Sh S) : sk_al S 38 20 = some (nI 901) := by unfold sk_al; rw [kd38 h]; rfl
theorem li38 {S : sk_S} (h : Sh S) (d : sk_D) {j : Nat} (hj : j < 901) : sk_lI S d 38 20 (nI j) = some (d.1 38 j) := by unfold sk_lI; rw [kd38 h, if_pos ⟨rfl, nI_in hj (by decide)⟩, nI_clamp (Nat.lt_trans hj (by decide))]
theorem si38 {S : sk_S} (h : Sh S) (d : sk_D) (v : Int32) {j : Nat} (hj : j < 901) : sk_sI S d 38 20 (nI j) v = some (sk_uI d 38 j v) := by unfold sk_sI; rw [kd38 h, if_pos ⟨rfl, nI_in hj (by decide)⟩, nI_clamp (Nat.lt_trans hj (by decide))]
theorem kd39 {S : sk_S} (h : Sh S) : S.2.1 39 = (20, 901) := h.1 39 (by decide)
theorem al39 {S : sk_S} (h : Sh S) : sk_al S 39 20 = some (nI 901) := by unfold sk_al; rw [kd39 h]; rfl
theorem li39 {S : sk_S} (h : Sh S) (d : sk_D) {j : Nat} (hj : j < 901) : sk_lI S d 39 20 (nI j) = some (d.1 39 j) := by unfold sk_lI; rw [kd39 h, if_pos ⟨rfl, nI_in hj (by decide)⟩, nI_clamp (Nat.lt_trans hj (by decide))]
theorem si39 {S : sk_S} (h : Sh S) (d : sk_D) (v : Int32) {j : Nat} (hj : j < 901) : sk_sI S d 39 20 (nI j) v = some (sk_uI d 39 j v) := by unfold sk_sI; rw [kd39 h, if_pos ⟨rfl, nI_in hj (by decide)⟩, nI_clamp (Nat.lt_trans hj (by decide))]
theorem kd40 {S : sk_S} (h : Sh S) : S.2.1 40 = (7, 0) := h.1 40 (by decide)
theorem gi40 {S : sk_S} (h : Sh S) (d : sk_D) (k : Nat) : sk_gI S d 40 7 k = some (d.1 40 k) := if_pos (kd40 h)
theorem pi40 {S : sk_S} (h : Sh S) (d : sk_D) (k : Nat) (v : Int32) : sk_pI S d 40 7 k v = some (sk_uI d 40 k v) := if_pos (kd40 h)
theorem kd41 {S : sk_S} (h : Sh S) : S.2.1 41 = (20, 1) := h.1 41 (by decide)
theorem al41 {S : sk_S} (h : Sh S) : sk_al S 41 20 = some (nI 1) := by unfold sk_al; rw [kd41 h]; rfl
theorem li41 {S : sk_S} (h : Sh S) (d : sk_D) {j : Nat} (hj : j < 1) : sk_lI S d 41 20 (nI j) = some (d.1 41 j) := by unfold sk_lI; rw [kd41 h, if_pos ⟨rfl, nI_in hj (by decide)⟩, nI_clamp (Nat.lt_trans hj (by decide))]
theorem si41 {S : sk_S} (h : Sh S) (d : sk_D) (v : Int32) {j : Nat} (hj : j < 1) : sk_sI S d 41 20 (nI j) v = some (sk_uI d 41 j v) := by unfold sk_sI; rw [kd41 h, if_pos ⟨rfl, nI_in hj (by decide)⟩, nI_clamp (Nat.lt_trans hj (by decide))]
theorem kd42 {S : sk_S} (h : Sh S) : S.2.1 42 = (20, 1) := h.1 42 (by decide)
theorem al42 {S : sk_S} (h : Sh S) : sk_al S 42 20 = some (nI 1) := by unfold sk_al; rw [kd42 h]; rfl
theorem li42 {S : sk_S} (h : Sh S) (d : sk_D) {j : Nat} (hj : j < 1) : sk_lI S d 42 20 (nI j) = some (d.1 42 j) := by unfold sk_lI; rw [kd42 h, if_pos ⟨rfl, nI_in hj (by decide)⟩, nI_clamp (Nat.lt_trans hj (by decide))]
theorem si42 {S : sk_S} (h : Sh S) (d : sk_D) (v : Int32) {j : Nat} (hj : j < 1) : sk_sI S d 42 20 (nI j) v = some (sk_uI d 42 j v) := by unfold sk_sI; rw [kd42 h, if_pos ⟨rfl, nI_in hj (by decide)⟩, nI_clamp (Nat.lt_trans hj (by decide))]
theorem kd43 {S : sk_S} (h : Sh S) : S.2.1 43 = (21, 1) := h.1 43 (by decide)
theorem al43 {S : sk_S} (h : Sh S) : sk_al S 43 21 = some (nI 1) := by unfold sk_al; rw [kd43 h]; rfl
theorem lj43 {S : sk_S} (h : Sh S) (d : sk_D) {j : Nat} (hj : j < 1) : sk_lJ S d 43 (nI j) = some (d.2 43 j) := by unfold sk_lJ; rw [kd43 h, if_pos ⟨rfl, nI_in hj (by decide)⟩, nI_clamp (Nat.lt_trans hj (by decide))]
theorem sj43 {S : sk_S} (h : Sh S) (d : sk_D) (v : Int64) {j : Nat} (hj : j < 1) : sk_sJ S d 43 (nI j) v = some (sk_uJ d 43 j v) := by unfold sk_sJ; rw [kd43 h, if_pos ⟨rfl, nI_in hj (by decide)⟩, nI_clamp (Nat.lt_trans hj (by decide))]
theorem kd44 {S : sk_S} (h : Sh S) : S.2.1 44 = (21, 1) := h.1 44 (by decide)
theorem al44 {S : sk_S} (h : Sh S) : sk_al S 44 21 = some (nI 1) := by unfold sk_al; rw [kd44 h]; rfl
theorem lj44 {S : sk_S} (h : Sh S) (d : sk_D) {j : Nat} (hj : j < 1) : sk_lJ S d 44 (nI j) = some (d.2 44 j) := by unfold sk_lJ; rw [kd44 h, if_pos ⟨rfl, nI_in hj (by decide)⟩, nI_clamp (Nat.lt_trans hj (by decide))]
theorem sj44 {S : sk_S} (h : Sh S) (d : sk_D) (v : Int64) {j : Nat} (hj : j < 1) : sk_sJ S d 44 (nI j) v = some (sk_uJ d 44 j v) := by unfold sk_sJ; rw [kd44 h, if_pos ⟨rfl, nI_in hj (by decide)⟩, nI_clamp (Nat.lt_trans hj (by decide))]
theorem kd45 {S : sk_S} (h : Sh S) : S.2.1 45 = (3, 0) := h.1 45 (by decide)
theorem gi45 {S : sk_S} (h : Sh S) (d : sk_D) (k : Nat) : sk_gI S d 45 3 k = some (d.1 45 k) := if_pos (kd45 h)
theorem pi45 {S : sk_S} (h : Sh S) (d : sk_D) (k : Nat) (v : Int32) : sk_pI S d 45 3 k v = some (sk_uI d 45 k v) := if_pos (kd45 h)
theorem gr45_0 {S : sk_S} (h : Sh S) : sk_gR S 45 3 0 = some 46 := by unfold sk_gR; rw [kd45 h, h.2 45 (by decide) (by decide)]; rfl
theorem gr45_1 {S : sk_S} (h : Sh S) : sk_gR S 45 3 1 = some 47 := by unfold sk_gR; rw [kd45 h, h.2 45 (by decide) (by decide)]; rfl
theorem kd46 {S : sk_S} (h : Sh S) : S.2.1 46 = (20, 8) := h.1 46 (by decide)
theorem al46 {S : sk_S} (h : Sh S) : sk_al S 46 20 = some (nI 8) := by unfold sk_al; rw [kd46 h]; rfl
theorem li46 {S : sk_S} (h : Sh S) (d : sk_D) {j : Nat} (hj : j < 8) : sk_lI S d 46 20 (nI j) = some (d.1 46 j) := by unfold sk_lI; rw [kd46 h, if_pos ⟨rfl, nI_in hj (by decide)⟩, nI_clamp (Nat.lt_trans hj (by decide))]
theorem si46 {S : sk_S} (h : Sh S) (d : sk_D) (v : Int32) {j : Nat} (hj : j < 8) : sk_sI S d 46 20 (nI j) v = some (sk_uI d 46 j v) := by unfold sk_sI; rw [kd46 h, if_pos ⟨rfl, nI_in hj (by decide)⟩, nI_clamp (Nat.lt_trans hj (by decide))]
theorem kd47 {S : sk_S} (h : Sh S) : S.2.1 47 = (20, 256) := h.1 47 (by decide)
theorem al47 {S : sk_S} (h : Sh S) : sk_al S 47 20 = some (nI 256) := by unfold sk_al; rw [kd47 h]; rfl
theorem li47 {S : sk_S} (h : Sh S) (d : sk_D) {j : Nat} (hj : j < 256) : sk_lI S d 47 20 (nI j) = some (d.1 47 j) := by unfold sk_lI; rw [kd47 h, if_pos ⟨rfl, nI_in hj (by decide)⟩, nI_clamp (Nat.lt_trans hj (by decide))]
theorem si47 {S : sk_S} (h : Sh S) (d : sk_D) (v : Int32) {j : Nat} (hj : j < 256) : sk_sI S d 47 20 (nI j) v = some (sk_uI d 47 j v) := by unfold sk_sI; rw [kd47 h, if_pos ⟨rfl, nI_in hj (by decide)⟩, nI_clamp (Nat.lt_trans hj (by decide))]
theorem kd48 {S : sk_S} (h : Sh S) : S.2.1 48 = (0, 0) := h.1 48 (by decide)
theorem gi48 {S : sk_S} (h : Sh S) (d : sk_D) (k : Nat) : sk_gI S d 48 0 k = some (d.1 48 k) := if_pos (kd48 h)
theorem pi48 {S : sk_S} (h : Sh S) (d : sk_D) (k : Nat) (v : Int32) : sk_pI S d 48 0 k v = some (sk_uI d 48 k v) := if_pos (kd48 h)
theorem gr48_0 {S : sk_S} (h : Sh S) : sk_gR S 48 0 0 = some 49 := by unfold sk_gR; rw [kd48 h, h.2 48 (by decide) (by decide)]; rfl
theorem kd49 {S : sk_S} (h : Sh S) : S.2.1 49 = (20, 8) := h.1 49 (by decide)
theorem al49 {S : sk_S} (h : Sh S) : sk_al S 49 20 = some (nI 8) := by unfold sk_al; rw [kd49 h]; rfl
theorem li49 {S : sk_S} (h : Sh S) (d : sk_D) {j : Nat} (hj : j < 8) : sk_lI S d 49 20 (nI j) = some (d.1 49 j) := by unfold sk_lI; rw [kd49 h, if_pos ⟨rfl, nI_in hj (by decide)⟩, nI_clamp (Nat.lt_trans hj (by decide))]
theorem si49 {S : sk_S} (h : Sh S) (d : sk_D) (v : Int32) {j : Nat} (hj : j < 8) : sk_sI S d 49 20 (nI j) v = some (sk_uI d 49 j v) := by unfold sk_sI; rw [kd49 h, if_pos ⟨rfl, nI_in hj (by decide)⟩, nI_clamp (Nat.lt_trans hj (by decide))]
theorem kd50 {S : sk_S} (h : Sh S) : S.2.1 50 = (4, 0) := h.1 50 (by decide)
theorem gi50 {S : sk_S} (h : Sh S) (d : sk_D) (k : Nat) : sk_gI S d 50 4 k = some (d.1 50 k) := if_pos (kd50 h)
theorem pi50 {S : sk_S} (h : Sh S) (d : sk_D) (k : Nat) (v : Int32) : sk_pI S d 50 4 k v = some (sk_uI d 50 k v) := if_pos (kd50 h)
theorem gr50_0 {S : sk_S} (h : Sh S) : sk_gR S 50 4 0 = some 51 := by unfold sk_gR; rw [kd50 h, h.2 50 (by decide) (by decide)]; rfl
theorem kd51 {S : sk_S} (h : Sh S) : S.2.1 51 = (20, 10) := h.1 51 (by decide)
theorem al51 {S : sk_S} (h : Sh S) : sk_al S 51 20 = some (nI 10) := by unfold sk_al; rw [kd51 h]; rfl
theorem li51 {S : sk_S} (h : Sh S) (d : sk_D) {j : Nat} (hj : j < 10) : sk_lI S d 51 20 (nI j) = some (d.1 51 j) := by unfold sk_lI; rw [kd51 h, if_pos ⟨rfl, nI_in hj (by decide)⟩, nI_clamp (Nat.lt_trans hj (by decide))]
theorem si51 {S : sk_S} (h : Sh S) (d : sk_D) (v : Int32) {j : Nat} (hj : j < 10) : sk_sI S d 51 20 (nI j) v = some (sk_uI d 51 j v) := by unfold sk_sI; rw [kd51 h, if_pos ⟨rfl, nI_in hj (by decide)⟩, nI_clamp (Nat.lt_trans hj (by decide))]
theorem kd52 {S : sk_S} (h : Sh S) : S.2.1 52 = (24, 4) := h.1 52 (by decide)
theorem kd53 {S : sk_S} (h : Sh S) : S.2.1 53 = (25, 2) := h.1 53 (by decide)
theorem kd54 {S : sk_S} (h : Sh S) : S.2.1 54 = (20, 2) := h.1 54 (by decide)
theorem al54 {S : sk_S} (h : Sh S) : sk_al S 54 20 = some (nI 2) := by unfold sk_al; rw [kd54 h]; rfl
theorem li54 {S : sk_S} (h : Sh S) (d : sk_D) {j : Nat} (hj : j < 2) : sk_lI S d 54 20 (nI j) = some (d.1 54 j) := by unfold sk_lI; rw [kd54 h, if_pos ⟨rfl, nI_in hj (by decide)⟩, nI_clamp (Nat.lt_trans hj (by decide))]
theorem si54 {S : sk_S} (h : Sh S) (d : sk_D) (v : Int32) {j : Nat} (hj : j < 2) : sk_sI S d 54 20 (nI j) v = some (sk_uI d 54 j v) := by unfold sk_sI; rw [kd54 h, if_pos ⟨rfl, nI_in hj (by decide)⟩, nI_clamp (Nat.lt_trans hj (by decide))]
theorem kd55 {S : sk_S} (h : Sh S) : S.2.1 55 = (20, 900) := h.1 55 (by decide)
theorem al55 {S : sk_S} (h : Sh S) : sk_al S 55 20 = some (nI 900) := by unfold sk_al; rw [kd55 h]; rfl
theorem li55 {S : sk_S} (h : Sh S) (d : sk_D) {j : Nat} (hj : j < 900) : sk_lI S d 55 20 (nI j) = some (d.1 55 j) := by unfold sk_lI; rw [kd55 h, if_pos ⟨rfl, nI_in hj (by decide)⟩, nI_clamp (Nat.lt_trans hj (by decide))]
theorem si55 {S : sk_S} (h : Sh S) (d : sk_D) (v : Int32) {j : Nat} (hj : j < 900) : sk_sI S d 55 20 (nI j) v = some (sk_uI d 55 j v) := by unfold sk_sI; rw [kd55 h, if_pos ⟨rfl, nI_in hj (by decide)⟩, nI_clamp (Nat.lt_trans hj (by decide))]
theorem kd56 {S : sk_S} (h : Sh S) : S.2.1 56 = (6, 0) := h.1 56 (by decide)
theorem gi56 {S : sk_S} (h : Sh S) (d : sk_D) (k : Nat) : sk_gI S d 56 6 k = some (d.1 56 k) := if_pos (kd56 h)
theorem pi56 {S : sk_S} (h : Sh S) (d : sk_D) (k : Nat) (v : Int32) : sk_pI S d 56 6 k v = some (sk_uI d 56 k v) := if_pos (kd56 h)
theorem gr56_0 {S : sk_S} (h : Sh S) : sk_gR S 56 6 0 = some 57 := by unfold sk_gR; rw [kd56 h, h.2 56 (by decide) (by decide)]; rfl
theorem kd57 {S : sk_S} (h : Sh S) : S.2.1 57 = (21, 40) := h.1 57 (by decide)
theorem al57 {S : sk_S} (h : Sh S) : sk_al S 57 21 = some (nI 40) := by unfold sk_al; rw [kd57 h]; rfl
theorem lj57 {S : sk_S} (h : Sh S) (d : sk_D) {j : Nat} (hj : j < 40) : sk_lJ S d 57 (nI j) = some (d.2 57 j) := by unfold sk_lJ; rw [kd57 h, if_pos ⟨rfl, nI_in hj (by decide)⟩, nI_clamp (Nat.lt_trans hj (by decide))]
theorem sj57 {S : sk_S} (h : Sh S) (d : sk_D) (v : Int64) {j : Nat} (hj : j < 40) : sk_sJ S d 57 (nI j) v = some (sk_uJ d 57 j v) := by unfold sk_sJ; rw [kd57 h, if_pos ⟨rfl, nI_in hj (by decide)⟩, nI_clamp (Nat.lt_trans hj (by decide))]
theorem kd58 {S : sk_S} (h : Sh S) : S.2.1 58 = (6, 0) := h.1 58 (by decide)
theorem gi58 {S : sk_S} (h : Sh S) (d : sk_D) (k : Nat) : sk_gI S d 58 6 k = some (d.1 58 k) := if_pos (kd58 h)
theorem pi58 {S : sk_S} (h : Sh S) (d : sk_D) (k : Nat) (v : Int32) : sk_pI S d 58 6 k v = some (sk_uI d 58 k v) := if_pos (kd58 h)
theorem gr58_0 {S : sk_S} (h : Sh S) : sk_gR S 58 6 0 = some 59 := by unfold sk_gR; rw [kd58 h, h.2 58 (by decide) (by decide)]; rfl
theorem kd59 {S : sk_S} (h : Sh S) : S.2.1 59 = (21, 40) := h.1 59 (by decide)
theorem al59 {S : sk_S} (h : Sh S) : sk_al S 59 21 = some (nI 40) := by unfold sk_al; rw [kd59 h]; rfl
theorem lj59 {S : sk_S} (h : Sh S) (d : sk_D) {j : Nat} (hj : j < 40) : sk_lJ S d 59 (nI j) = some (d.2 59 j) := by unfold sk_lJ; rw [kd59 h, if_pos ⟨rfl, nI_in hj (by decide)⟩, nI_clamp (Nat.lt_trans hj (by decide))]
theorem sj59 {S : sk_S} (h : Sh S) (d : sk_D) (v : Int64) {j : Nat} (hj : j < 40) : sk_sJ S d 59 (nI j) v = some (sk_uJ d 59 j v) := by unfold sk_sJ; rw [kd59 h, if_pos ⟨rfl, nI_in hj (by decide)⟩, nI_clamp (Nat.lt_trans hj (by decide))]
theorem kd60 {S : sk_S} (h : Sh S) : S.2.1 60 = (6, 0) := h.1 60 (by decide)
theorem gi60 {S : sk_S} (h : Sh S) (d : sk_D) (k : Nat) : sk_gI S d 60 6 k = some (d.1 60 k) := if_pos (kd60 h)
theorem pi60 {S : sk_S} (h : Sh S) (d : sk_D) (k : Nat) (v : Int32) : sk_pI S d 60 6 k v = some (sk_uI d 60 k v) := if_pos (kd60 h)
theorem gr60_0 {S : sk_S} (h : Sh S) : sk_gR S 60 6 0 = some 61 := by unfold sk_gR; rw [kd60 h, h.2 60 (by decide) (by decide)]; rfl
theorem kd61 {S : sk_S} (h : Sh S) : S.2.1 61 = (21, 40) := h.1 61 (by decide)
theorem al61 {S : sk_S} (h : Sh S) : sk_al S 61 21 = some (nI 40) := by unfold sk_al; rw [kd61 h]; rfl
theorem lj61 {S : sk_S} (h : Sh S) (d : sk_D) {j : Nat} (hj : j < 40) : sk_lJ S d 61 (nI j) = some (d.2 61 j) := by unfold sk_lJ; rw [kd61 h, if_pos ⟨rfl, nI_in hj (by decide)⟩, nI_clamp (Nat.lt_trans hj (by decide))]
theorem sj61 {S : sk_S} (h : Sh S) (d : sk_D) (v : Int64) {j : Nat} (hj : j < 40) : sk_sJ S d 61 (nI j) v = some (sk_uJ d 61 j v) := by unfold sk_sJ; rw [kd61 h, if_pos ⟨rfl, nI_in hj (by decide)⟩, nI_clamp (Nat.lt_trans hj (by decide))]
theorem kd62 {S : sk_S} (h : Sh S) : S.2.1 62 = (6, 0) := h.1 62 (by decide)
theorem gi62 {S : sk_S} (h : Sh S) (d : sk_D) (k : Nat) : sk_gI S d 62 6 k = some (d.1 62 k) := if_pos (kd62 h)
theorem pi62 {S : sk_S} (h : Sh S) (d : sk_D) (k : Nat) (v : Int32) : sk_pI S d 62 6 k v = some (sk_uI d 62 k v) := if_pos (kd62 h)
theorem gr62_0 {S : sk_S} (h : Sh S) : sk_gR S 62 6 0 = some 63 := by unfold sk_gR; rw [kd62 h, h.2 62 (by decide) (by decide)]; rfl
theorem kd63 {S : sk_S} (h : Sh S) : S.2.1 63 = (21, 40) := h.1 63 (by decide)
theorem al63 {S : sk_S} (h : Sh S) : sk_al S 63 21 = some (nI 40) := by unfold sk_al; rw [kd63 h]; rfl
theorem lj63 {S : sk_S} (h : Sh S) (d : sk_D) {j : Nat} (hj : j < 40) : sk_lJ S d 63 (nI j) = some (d.2 63 j) := by unfold sk_lJ; rw [kd63 h, if_pos ⟨rfl, nI_in hj (by decide)⟩, nI_clamp (Nat.lt_trans hj (by decide))]
theorem sj63 {S : sk_S} (h : Sh S) (d : sk_D) (v : Int64) {j : Nat} (hj : j < 40) : sk_sJ S d 63 (nI j) v = some (sk_uJ d 63 j v) := by unfold sk_sJ; rw [kd63 h, if_pos ⟨rfl, nI_in hj (by decide)⟩, nI_clamp (Nat.lt_trans hj (by decide))]
theorem kd64 {S : sk_S} (h : Sh S) : S.2.1 64 = (2, 0) := h.1 64 (by decide)
theorem gi64 {S : sk_S} (h : Sh S) (d : sk_D) (k : Nat) : sk_gI S d 64 2 k = some (d.1 64 k) := if_pos (kd64 h)
theorem pi64 {S : sk_S} (h : Sh S) (d : sk_D) (k : Nat) (v : Int32) : sk_pI S d 64 2 k v = some (sk_uI d 64 k v) := if_pos (kd64 h)
theorem gr64_5 {S : sk_S} (h : Sh S) : sk_gR S 64 2 5 = some 65 := by unfold sk_gR; rw [kd64 h, h.2 64 (by decide) (by decide)]; rfl
theorem gr64_6 {S : sk_S} (h : Sh S) : sk_gR S 64 2 6 = some 66 := by unfold sk_gR; rw [kd64 h, h.2 64 (by decide) (by decide)]; rfl
theorem gr64_7 {S : sk_S} (h : Sh S) : sk_gR S 64 2 7 = some 67 := by unfold sk_gR; rw [kd64 h, h.2 64 (by decide) (by decide)]; rfl
theorem gr64_8 {S : sk_S} (h : Sh S) : sk_gR S 64 2 8 = some 68 := by unfold sk_gR; rw [kd64 h, h.2 64 (by decide) (by decide)]; rfl
theorem gr64_9 {S : sk_S} (h : Sh S) : sk_gR S 64 2 9 = some 69 := by unfold sk_gR; rw [kd64 h, h.2 64 (by decide) (by decide)]; rfl
theorem gr64_10 {S : sk_S} (h : Sh S) : sk_gR S 64 2 10 = some 70 := by unfold sk_gR; rw [kd64 h, h.2 64 (by decide) (by decide)]; rfl
theorem gr64_11 {S : sk_S} (h : Sh S) : sk_gR S 64 2 11 = some 71 := by unfold sk_gR; rw [kd64 h, h.2 64 (by decide) (by decide)]; rfl
theorem gr64_12 {S : sk_S} (h : Sh S) : sk_gR S 64 2 12 = some 72 := by unfold sk_gR; rw [kd64 h, h.2 64 (by decide) (by decide)]; rfl
theorem gr64_13 {S : sk_S} (h : Sh S) : sk_gR S 64 2 13 = some 73 := by unfold sk_gR; rw [kd64 h, h.2 64 (by decide) (by decide)]; rfl
theorem gr64_14 {S : sk_S} (h : Sh S) : sk_gR S 64 2 14 = some 76 := by unfold sk_gR; rw [kd64 h, h.2 64 (by decide) (by decide)]; rfl
theorem kd65 {S : sk_S} (h : Sh S) : S.2.1 65 = (20, 8) := h.1 65 (by decide)
theorem al65 {S : sk_S} (h : Sh S) : sk_al S 65 20 = some (nI 8) := by unfold sk_al; rw [kd65 h]; rfl
theorem li65 {S : sk_S} (h : Sh S) (d : sk_D) {j : Nat} (hj : j < 8) : sk_lI S d 65 20 (nI j) = some (d.1 65 j) := by unfold sk_lI; rw [kd65 h, if_pos ⟨rfl, nI_in hj (by decide)⟩, nI_clamp (Nat.lt_trans hj (by decide))]
theorem si65 {S : sk_S} (h : Sh S) (d : sk_D) (v : Int32) {j : Nat} (hj : j < 8) : sk_sI S d 65 20 (nI j) v = some (sk_uI d 65 j v) := by unfold sk_sI; rw [kd65 h, if_pos ⟨rfl, nI_in hj (by decide)⟩, nI_clamp (Nat.lt_trans hj (by decide))]
theorem kd66 {S : sk_S} (h : Sh S) : S.2.1 66 = (20, 8) := h.1 66 (by decide)
theorem al66 {S : sk_S} (h : Sh S) : sk_al S 66 20 = some (nI 8) := by unfold sk_al; rw [kd66 h]; rfl
theorem li66 {S : sk_S} (h : Sh S) (d : sk_D) {j : Nat} (hj : j < 8) : sk_lI S d 66 20 (nI j) = some (d.1 66 j) := by unfold sk_lI; rw [kd66 h, if_pos ⟨rfl, nI_in hj (by decide)⟩, nI_clamp (Nat.lt_trans hj (by decide))]
theorem si66 {S : sk_S} (h : Sh S) (d : sk_D) (v : Int32) {j : Nat} (hj : j < 8) : sk_sI S d 66 20 (nI j) v = some (sk_uI d 66 j v) := by unfold sk_sI; rw [kd66 h, if_pos ⟨rfl, nI_in hj (by decide)⟩, nI_clamp (Nat.lt_trans hj (by decide))]
theorem kd67 {S : sk_S} (h : Sh S) : S.2.1 67 = (20, 8) := h.1 67 (by decide)
theorem al67 {S : sk_S} (h : Sh S) : sk_al S 67 20 = some (nI 8) := by unfold sk_al; rw [kd67 h]; rfl
theorem li67 {S : sk_S} (h : Sh S) (d : sk_D) {j : Nat} (hj : j < 8) : sk_lI S d 67 20 (nI j) = some (d.1 67 j) := by unfold sk_lI; rw [kd67 h, if_pos ⟨rfl, nI_in hj (by decide)⟩, nI_clamp (Nat.lt_trans hj (by decide))]
theorem si67 {S : sk_S} (h : Sh S) (d : sk_D) (v : Int32) {j : Nat} (hj : j < 8) : sk_sI S d 67 20 (nI j) v = some (sk_uI d 67 j v) := by unfold sk_sI; rw [kd67 h, if_pos ⟨rfl, nI_in hj (by decide)⟩, nI_clamp (Nat.lt_trans hj (by decide))]
theorem kd68 {S : sk_S} (h : Sh S) : S.2.1 68 = (20, 8) := h.1 68 (by decide)
theorem al68 {S : sk_S} (h : Sh S) : sk_al S 68 20 = some (nI 8) := by unfold sk_al; rw [kd68 h]; rfl
theorem li68 {S : sk_S} (h : Sh S) (d : sk_D) {j : Nat} (hj : j < 8) : sk_lI S d 68 20 (nI j) = some (d.1 68 j) := by unfold sk_lI; rw [kd68 h, if_pos ⟨rfl, nI_in hj (by decide)⟩, nI_clamp (Nat.lt_trans hj (by decide))]
theorem si68 {S : sk_S} (h : Sh S) (d : sk_D) (v : Int32) {j : Nat} (hj : j < 8) : sk_sI S d 68 20 (nI j) v = some (sk_uI d 68 j v) := by unfold sk_sI; rw [kd68 h, if_pos ⟨rfl, nI_in hj (by decide)⟩, nI_clamp (Nat.lt_trans hj (by decide))]
theorem kd69 {S : sk_S} (h : Sh S) : S.2.1 69 = (20, 8) := h.1 69 (by decide)
theorem al69 {S : sk_S} (h : Sh S) : sk_al S 69 20 = some (nI 8) := by unfold sk_al; rw [kd69 h]; rfl
theorem li69 {S : sk_S} (h : Sh S) (d : sk_D) {j : Nat} (hj : j < 8) : sk_lI S d 69 20 (nI j) = some (d.1 69 j) := by unfold sk_lI; rw [kd69 h, if_pos ⟨rfl, nI_in hj (by decide)⟩, nI_clamp (Nat.lt_trans hj (by decide))]
theorem si69 {S : sk_S} (h : Sh S) (d : sk_D) (v : Int32) {j : Nat} (hj : j < 8) : sk_sI S d 69 20 (nI j) v = some (sk_uI d 69 j v) := by unfold sk_sI; rw [kd69 h, if_pos ⟨rfl, nI_in hj (by decide)⟩, nI_clamp (Nat.lt_trans hj (by decide))]
theorem kd70 {S : sk_S} (h : Sh S) : S.2.1 70 = (20, 8) := h.1 70 (by decide)
theorem al70 {S : sk_S} (h : Sh S) : sk_al S 70 20 = some (nI 8) := by unfold sk_al; rw [kd70 h]; rfl
theorem li70 {S : sk_S} (h : Sh S) (d : sk_D) {j : Nat} (hj : j < 8) : sk_lI S d 70 20 (nI j) = some (d.1 70 j) := by unfold sk_lI; rw [kd70 h, if_pos ⟨rfl, nI_in hj (by decide)⟩, nI_clamp (Nat.lt_trans hj (by decide))]
theorem si70 {S : sk_S} (h : Sh S) (d : sk_D) (v : Int32) {j : Nat} (hj : j < 8) : sk_sI S d 70 20 (nI j) v = some (sk_uI d 70 j v) := by unfold sk_sI; rw [kd70 h, if_pos ⟨rfl, nI_in hj (by decide)⟩, nI_clamp (Nat.lt_trans hj (by decide))]
theorem kd71 {S : sk_S} (h : Sh S) : S.2.1 71 = (20, 8) := h.1 71 (by decide)
theorem al71 {S : sk_S} (h : Sh S) : sk_al S 71 20 = some (nI 8) := by unfold sk_al; rw [kd71 h]; rfl
theorem li71 {S : sk_S} (h : Sh S) (d : sk_D) {j : Nat} (hj : j < 8) : sk_lI S d 71 20 (nI j) = some (d.1 71 j) := by unfold sk_lI; rw [kd71 h, if_pos ⟨rfl, nI_in hj (by decide)⟩, nI_clamp (Nat.lt_trans hj (by decide))]
theorem si71 {S : sk_S} (h : Sh S) (d : sk_D) (v : Int32) {j : Nat} (hj : j < 8) : sk_sI S d 71 20 (nI j) v = some (sk_uI d 71 j v) := by unfold sk_sI; rw [kd71 h, if_pos ⟨rfl, nI_in hj (by decide)⟩, nI_clamp (Nat.lt_trans hj (by decide))]
theorem kd72 {S : sk_S} (h : Sh S) : S.2.1 72 = (20, 8) := h.1 72 (by decide)
theorem al72 {S : sk_S} (h : Sh S) : sk_al S 72 20 = some (nI 8) := by unfold sk_al; rw [kd72 h]; rfl
theorem li72 {S : sk_S} (h : Sh S) (d : sk_D) {j : Nat} (hj : j < 8) : sk_lI S d 72 20 (nI j) = some (d.1 72 j) := by unfold sk_lI; rw [kd72 h, if_pos ⟨rfl, nI_in hj (by decide)⟩, nI_clamp (Nat.lt_trans hj (by decide))]
theorem si72 {S : sk_S} (h : Sh S) (d : sk_D) (v : Int32) {j : Nat} (hj : j < 8) : sk_sI S d 72 20 (nI j) v = some (sk_uI d 72 j v) := by unfold sk_sI; rw [kd72 h, if_pos ⟨rfl, nI_in hj (by decide)⟩, nI_clamp (Nat.lt_trans hj (by decide))]
theorem kd73 {S : sk_S} (h : Sh S) : S.2.1 73 = (1, 0) := h.1 73 (by decide)
theorem gi73 {S : sk_S} (h : Sh S) (d : sk_D) (k : Nat) : sk_gI S d 73 1 k = some (d.1 73 k) := if_pos (kd73 h)
theorem pi73 {S : sk_S} (h : Sh S) (d : sk_D) (k : Nat) (v : Int32) : sk_pI S d 73 1 k v = some (sk_uI d 73 k v) := if_pos (kd73 h)
theorem gr73_0 {S : sk_S} (h : Sh S) : sk_gR S 73 1 0 = some 74 := by unfold sk_gR; rw [kd73 h, h.2 73 (by decide) (by decide)]; rfl
theorem gr73_1 {S : sk_S} (h : Sh S) : sk_gR S 73 1 1 = some 75 := by unfold sk_gR; rw [kd73 h, h.2 73 (by decide) (by decide)]; rfl
theorem kd74 {S : sk_S} (h : Sh S) : S.2.1 74 = (20, 900) := h.1 74 (by decide)
theorem al74 {S : sk_S} (h : Sh S) : sk_al S 74 20 = some (nI 900) := by unfold sk_al; rw [kd74 h]; rfl
theorem li74 {S : sk_S} (h : Sh S) (d : sk_D) {j : Nat} (hj : j < 900) : sk_lI S d 74 20 (nI j) = some (d.1 74 j) := by unfold sk_lI; rw [kd74 h, if_pos ⟨rfl, nI_in hj (by decide)⟩, nI_clamp (Nat.lt_trans hj (by decide))]
theorem si74 {S : sk_S} (h : Sh S) (d : sk_D) (v : Int32) {j : Nat} (hj : j < 900) : sk_sI S d 74 20 (nI j) v = some (sk_uI d 74 j v) := by unfold sk_sI; rw [kd74 h, if_pos ⟨rfl, nI_in hj (by decide)⟩, nI_clamp (Nat.lt_trans hj (by decide))]
theorem kd75 {S : sk_S} (h : Sh S) : S.2.1 75 = (20, 64) := h.1 75 (by decide)
theorem al75 {S : sk_S} (h : Sh S) : sk_al S 75 20 = some (nI 64) := by unfold sk_al; rw [kd75 h]; rfl
theorem li75 {S : sk_S} (h : Sh S) (d : sk_D) {j : Nat} (hj : j < 64) : sk_lI S d 75 20 (nI j) = some (d.1 75 j) := by unfold sk_lI; rw [kd75 h, if_pos ⟨rfl, nI_in hj (by decide)⟩, nI_clamp (Nat.lt_trans hj (by decide))]
theorem si75 {S : sk_S} (h : Sh S) (d : sk_D) (v : Int32) {j : Nat} (hj : j < 64) : sk_sI S d 75 20 (nI j) v = some (sk_uI d 75 j v) := by unfold sk_sI; rw [kd75 h, if_pos ⟨rfl, nI_in hj (by decide)⟩, nI_clamp (Nat.lt_trans hj (by decide))]
theorem kd76 {S : sk_S} (h : Sh S) : S.2.1 76 = (1, 0) := h.1 76 (by decide)
theorem gi76 {S : sk_S} (h : Sh S) (d : sk_D) (k : Nat) : sk_gI S d 76 1 k = some (d.1 76 k) := if_pos (kd76 h)
theorem pi76 {S : sk_S} (h : Sh S) (d : sk_D) (k : Nat) (v : Int32) : sk_pI S d 76 1 k v = some (sk_uI d 76 k v) := if_pos (kd76 h)
theorem gr76_0 {S : sk_S} (h : Sh S) : sk_gR S 76 1 0 = some 77 := by unfold sk_gR; rw [kd76 h, h.2 76 (by decide) (by decide)]; rfl
theorem gr76_1 {S : sk_S} (h : Sh S) : sk_gR S 76 1 1 = some 78 := by unfold sk_gR; rw [kd76 h, h.2 76 (by decide) (by decide)]; rfl
theorem kd77 {S : sk_S} (h : Sh S) : S.2.1 77 = (20, 900) := h.1 77 (by decide)
theorem al77 {S : sk_S} (h : Sh S) : sk_al S 77 20 = some (nI 900) := by unfold sk_al; rw [kd77 h]; rfl
theorem li77 {S : sk_S} (h : Sh S) (d : sk_D) {j : Nat} (hj : j < 900) : sk_lI S d 77 20 (nI j) = some (d.1 77 j) := by unfold sk_lI; rw [kd77 h, if_pos ⟨rfl, nI_in hj (by decide)⟩, nI_clamp (Nat.lt_trans hj (by decide))]
theorem si77 {S : sk_S} (h : Sh S) (d : sk_D) (v : Int32) {j : Nat} (hj : j < 900) : sk_sI S d 77 20 (nI j) v = some (sk_uI d 77 j v) := by unfold sk_sI; rw [kd77 h, if_pos ⟨rfl, nI_in hj (by decide)⟩, nI_clamp (Nat.lt_trans hj (by decide))]
theorem kd78 {S : sk_S} (h : Sh S) : S.2.1 78 = (20, 64) := h.1 78 (by decide)
theorem al78 {S : sk_S} (h : Sh S) : sk_al S 78 20 = some (nI 64) := by unfold sk_al; rw [kd78 h]; rfl
theorem li78 {S : sk_S} (h : Sh S) (d : sk_D) {j : Nat} (hj : j < 64) : sk_lI S d 78 20 (nI j) = some (d.1 78 j) := by unfold sk_lI; rw [kd78 h, if_pos ⟨rfl, nI_in hj (by decide)⟩, nI_clamp (Nat.lt_trans hj (by decide))]
theorem si78 {S : sk_S} (h : Sh S) (d : sk_D) (v : Int32) {j : Nat} (hj : j < 64) : sk_sI S d 78 20 (nI j) v = some (sk_uI d 78 j v) := by unfold sk_sI; rw [kd78 h, if_pos ⟨rfl, nI_in hj (by decide)⟩, nI_clamp (Nat.lt_trans hj (by decide))]
theorem kd79 {S : sk_S} (h : Sh S) : S.2.1 79 = (2, 0) := h.1 79 (by decide)
theorem gi79 {S : sk_S} (h : Sh S) (d : sk_D) (k : Nat) : sk_gI S d 79 2 k = some (d.1 79 k) := if_pos (kd79 h)
theorem pi79 {S : sk_S} (h : Sh S) (d : sk_D) (k : Nat) (v : Int32) : sk_pI S d 79 2 k v = some (sk_uI d 79 k v) := if_pos (kd79 h)
theorem gr79_5 {S : sk_S} (h : Sh S) : sk_gR S 79 2 5 = some 80 := by unfold sk_gR; rw [kd79 h, h.2 79 (by decide) (by decide)]; rfl
theorem gr79_6 {S : sk_S} (h : Sh S) : sk_gR S 79 2 6 = some 81 := by unfold sk_gR; rw [kd79 h, h.2 79 (by decide) (by decide)]; rfl
theorem gr79_7 {S : sk_S} (h : Sh S) : sk_gR S 79 2 7 = some 82 := by unfold sk_gR; rw [kd79 h, h.2 79 (by decide) (by decide)]; rfl
theorem gr79_8 {S : sk_S} (h : Sh S) : sk_gR S 79 2 8 = some 83 := by unfold sk_gR; rw [kd79 h, h.2 79 (by decide) (by decide)]; rfl
theorem gr79_9 {S : sk_S} (h : Sh S) : sk_gR S 79 2 9 = some 84 := by unfold sk_gR; rw [kd79 h, h.2 79 (by decide) (by decide)]; rfl
theorem gr79_10 {S : sk_S} (h : Sh S) : sk_gR S 79 2 10 = some 85 := by unfold sk_gR; rw [kd79 h, h.2 79 (by decide) (by decide)]; rfl
theorem gr79_11 {S : sk_S} (h : Sh S) : sk_gR S 79 2 11 = some 86 := by unfold sk_gR; rw [kd79 h, h.2 79 (by decide) (by decide)]; rfl
theorem gr79_12 {S : sk_S} (h : Sh S) : sk_gR S 79 2 12 = some 87 := by unfold sk_gR; rw [kd79 h, h.2 79 (by decide) (by decide)]; rfl
theorem gr79_13 {S : sk_S} (h : Sh S) : sk_gR S 79 2 13 = some 88 := by unfold sk_gR; rw [kd79 h, h.2 79 (by decide) (by decide)]; rfl
theorem gr79_14 {S : sk_S} (h : Sh S) : sk_gR S 79 2 14 = some 91 := by unfold sk_gR; rw [kd79 h, h.2 79 (by decide) (by decide)]; rfl
theorem kd80 {S : sk_S} (h : Sh S) : S.2.1 80 = (20, 8) := h.1 80 (by decide)
theorem al80 {S : sk_S} (h : Sh S) : sk_al S 80 20 = some (nI 8) := by unfold sk_al; rw [kd80 h]; rfl
theorem li80 {S : sk_S} (h : Sh S) (d : sk_D) {j : Nat} (hj : j < 8) : sk_lI S d 80 20 (nI j) = some (d.1 80 j) := by unfold sk_lI; rw [kd80 h, if_pos ⟨rfl, nI_in hj (by decide)⟩, nI_clamp (Nat.lt_trans hj (by decide))]
theorem si80 {S : sk_S} (h : Sh S) (d : sk_D) (v : Int32) {j : Nat} (hj : j < 8) : sk_sI S d 80 20 (nI j) v = some (sk_uI d 80 j v) := by unfold sk_sI; rw [kd80 h, if_pos ⟨rfl, nI_in hj (by decide)⟩, nI_clamp (Nat.lt_trans hj (by decide))]
theorem kd81 {S : sk_S} (h : Sh S) : S.2.1 81 = (20, 8) := h.1 81 (by decide)
theorem al81 {S : sk_S} (h : Sh S) : sk_al S 81 20 = some (nI 8) := by unfold sk_al; rw [kd81 h]; rfl
theorem li81 {S : sk_S} (h : Sh S) (d : sk_D) {j : Nat} (hj : j < 8) : sk_lI S d 81 20 (nI j) = some (d.1 81 j) := by unfold sk_lI; rw [kd81 h, if_pos ⟨rfl, nI_in hj (by decide)⟩, nI_clamp (Nat.lt_trans hj (by decide))]
theorem si81 {S : sk_S} (h : Sh S) (d : sk_D) (v : Int32) {j : Nat} (hj : j < 8) : sk_sI S d 81 20 (nI j) v = some (sk_uI d 81 j v) := by unfold sk_sI; rw [kd81 h, if_pos ⟨rfl, nI_in hj (by decide)⟩, nI_clamp (Nat.lt_trans hj (by decide))]
theorem kd82 {S : sk_S} (h : Sh S) : S.2.1 82 = (20, 8) := h.1 82 (by decide)
theorem al82 {S : sk_S} (h : Sh S) : sk_al S 82 20 = some (nI 8) := by unfold sk_al; rw [kd82 h]; rfl
theorem li82 {S : sk_S} (h : Sh S) (d : sk_D) {j : Nat} (hj : j < 8) : sk_lI S d 82 20 (nI j) = some (d.1 82 j) := by unfold sk_lI; rw [kd82 h, if_pos ⟨rfl, nI_in hj (by decide)⟩, nI_clamp (Nat.lt_trans hj (by decide))]
theorem si82 {S : sk_S} (h : Sh S) (d : sk_D) (v : Int32) {j : Nat} (hj : j < 8) : sk_sI S d 82 20 (nI j) v = some (sk_uI d 82 j v) := by unfold sk_sI; rw [kd82 h, if_pos ⟨rfl, nI_in hj (by decide)⟩, nI_clamp (Nat.lt_trans hj (by decide))]
theorem kd83 {S : sk_S} (h : Sh S) : S.2.1 83 = (20, 8) := h.1 83 (by decide)
theorem al83 {S : sk_S} (h : Sh S) : sk_al S 83 20 = some (nI 8) := by unfold sk_al; rw [kd83 h]; rfl
theorem li83 {S : sk_S} (h : Sh S) (d : sk_D) {j : Nat} (hj : j < 8) : sk_lI S d 83 20 (nI j) = some (d.1 83 j) := by unfold sk_lI; rw [kd83 h, if_pos ⟨rfl, nI_in hj (by decide)⟩, nI_clamp (Nat.lt_trans hj (by decide))]
theorem si83 {S : sk_S} (h : Sh S) (d : sk_D) (v : Int32) {j : Nat} (hj : j < 8) : sk_sI S d 83 20 (nI j) v = some (sk_uI d 83 j v) := by unfold sk_sI; rw [kd83 h, if_pos ⟨rfl, nI_in hj (by decide)⟩, nI_clamp (Nat.lt_trans hj (by decide))]
theorem kd84 {S : sk_S} (h : Sh S) : S.2.1 84 = (20, 8) := h.1 84 (by decide)
theorem al84 {S : sk_S} (h : Sh S) : sk_al S 84 20 = some (nI 8) := by unfold sk_al; rw [kd84 h]; rfl
theorem li84 {S : sk_S} (h : Sh S) (d : sk_D) {j : Nat} (hj : j < 8) : sk_lI S d 84 20 (nI j) = some (d.1 84 j) := by unfold sk_lI; rw [kd84 h, if_pos ⟨rfl, nI_in hj (by decide)⟩, nI_clamp (Nat.lt_trans hj (by decide))]
theorem si84 {S : sk_S} (h : Sh S) (d : sk_D) (v : Int32) {j : Nat} (hj : j < 8) : sk_sI S d 84 20 (nI j) v = some (sk_uI d 84 j v) := by unfold sk_sI; rw [kd84 h, if_pos ⟨rfl, nI_in hj (by decide)⟩, nI_clamp (Nat.lt_trans hj (by decide))]
theorem kd85 {S : sk_S} (h : Sh S) : S.2.1 85 = (20, 8) := h.1 85 (by decide)
theorem al85 {S : sk_S} (h : Sh S) : sk_al S 85 20 = some (nI 8) := by unfold sk_al; rw [kd85 h]; rfl
theorem li85 {S : sk_S} (h : Sh S) (d : sk_D) {j : Nat} (hj : j < 8) : sk_lI S d 85 20 (nI j) = some (d.1 85 j) := by unfold sk_lI; rw [kd85 h, if_pos ⟨rfl, nI_in hj (by decide)⟩, nI_clamp (Nat.lt_trans hj (by decide))]
theorem si85 {S : sk_S} (h : Sh S) (d : sk_D) (v : Int32) {j : Nat} (hj : j < 8) : sk_sI S d 85 20 (nI j) v = some (sk_uI d 85 j v) := by unfold sk_sI; rw [kd85 h, if_pos ⟨rfl, nI_in hj (by decide)⟩, nI_clamp (Nat.lt_trans hj (by decide))]
theorem kd86 {S : sk_S} (h : Sh S) : S.2.1 86 = (20, 8) := h.1 86 (by decide)
theorem al86 {S : sk_S} (h : Sh S) : sk_al S 86 20 = some (nI 8) := by unfold sk_al; rw [kd86 h]; rfl
theorem li86 {S : sk_S} (h : Sh S) (d : sk_D) {j : Nat} (hj : j < 8) : sk_lI S d 86 20 (nI j) = some (d.1 86 j) := by unfold sk_lI; rw [kd86 h, if_pos ⟨rfl, nI_in hj (by decide)⟩, nI_clamp (Nat.lt_trans hj (by decide))]
theorem si86 {S : sk_S} (h : Sh S) (d : sk_D) (v : Int32) {j : Nat} (hj : j < 8) : sk_sI S d 86 20 (nI j) v = some (sk_uI d 86 j v) := by unfold sk_sI; rw [kd86 h, if_pos ⟨rfl, nI_in hj (by decide)⟩, nI_clamp (Nat.lt_trans hj (by decide))]
theorem kd87 {S : sk_S} (h : Sh S) : S.2.1 87 = (20, 8) := h.1 87 (by decide)
theorem al87 {S : sk_S} (h : Sh S) : sk_al S 87 20 = some (nI 8) := by unfold sk_al; rw [kd87 h]; rfl
theorem li87 {S : sk_S} (h : Sh S) (d : sk_D) {j : Nat} (hj : j < 8) : sk_lI S d 87 20 (nI j) = some (d.1 87 j) := by unfold sk_lI; rw [kd87 h, if_pos ⟨rfl, nI_in hj (by decide)⟩, nI_clamp (Nat.lt_trans hj (by decide))]
theorem si87 {S : sk_S} (h : Sh S) (d : sk_D) (v : Int32) {j : Nat} (hj : j < 8) : sk_sI S d 87 20 (nI j) v = some (sk_uI d 87 j v) := by unfold sk_sI; rw [kd87 h, if_pos ⟨rfl, nI_in hj (by decide)⟩, nI_clamp (Nat.lt_trans hj (by decide))]
theorem kd88 {S : sk_S} (h : Sh S) : S.2.1 88 = (1, 0) := h.1 88 (by decide)
theorem gi88 {S : sk_S} (h : Sh S) (d : sk_D) (k : Nat) : sk_gI S d 88 1 k = some (d.1 88 k) := if_pos (kd88 h)
theorem pi88 {S : sk_S} (h : Sh S) (d : sk_D) (k : Nat) (v : Int32) : sk_pI S d 88 1 k v = some (sk_uI d 88 k v) := if_pos (kd88 h)
theorem gr88_0 {S : sk_S} (h : Sh S) : sk_gR S 88 1 0 = some 89 := by unfold sk_gR; rw [kd88 h, h.2 88 (by decide) (by decide)]; rfl
theorem gr88_1 {S : sk_S} (h : Sh S) : sk_gR S 88 1 1 = some 90 := by unfold sk_gR; rw [kd88 h, h.2 88 (by decide) (by decide)]; rfl
theorem kd89 {S : sk_S} (h : Sh S) : S.2.1 89 = (20, 900) := h.1 89 (by decide)
theorem al89 {S : sk_S} (h : Sh S) : sk_al S 89 20 = some (nI 900) := by unfold sk_al; rw [kd89 h]; rfl
theorem li89 {S : sk_S} (h : Sh S) (d : sk_D) {j : Nat} (hj : j < 900) : sk_lI S d 89 20 (nI j) = some (d.1 89 j) := by unfold sk_lI; rw [kd89 h, if_pos ⟨rfl, nI_in hj (by decide)⟩, nI_clamp (Nat.lt_trans hj (by decide))]
theorem si89 {S : sk_S} (h : Sh S) (d : sk_D) (v : Int32) {j : Nat} (hj : j < 900) : sk_sI S d 89 20 (nI j) v = some (sk_uI d 89 j v) := by unfold sk_sI; rw [kd89 h, if_pos ⟨rfl, nI_in hj (by decide)⟩, nI_clamp (Nat.lt_trans hj (by decide))]
theorem kd90 {S : sk_S} (h : Sh S) : S.2.1 90 = (20, 64) := h.1 90 (by decide)
theorem al90 {S : sk_S} (h : Sh S) : sk_al S 90 20 = some (nI 64) := by unfold sk_al; rw [kd90 h]; rfl
theorem li90 {S : sk_S} (h : Sh S) (d : sk_D) {j : Nat} (hj : j < 64) : sk_lI S d 90 20 (nI j) = some (d.1 90 j) := by unfold sk_lI; rw [kd90 h, if_pos ⟨rfl, nI_in hj (by decide)⟩, nI_clamp (Nat.lt_trans hj (by decide))]
theorem si90 {S : sk_S} (h : Sh S) (d : sk_D) (v : Int32) {j : Nat} (hj : j < 64) : sk_sI S d 90 20 (nI j) v = some (sk_uI d 90 j v) := by unfold sk_sI; rw [kd90 h, if_pos ⟨rfl, nI_in hj (by decide)⟩, nI_clamp (Nat.lt_trans hj (by decide))]
theorem kd91 {S : sk_S} (h : Sh S) : S.2.1 91 = (1, 0) := h.1 91 (by decide)
theorem gi91 {S : sk_S} (h : Sh S) (d : sk_D) (k : Nat) : sk_gI S d 91 1 k = some (d.1 91 k) := if_pos (kd91 h)
theorem pi91 {S : sk_S} (h : Sh S) (d : sk_D) (k : Nat) (v : Int32) : sk_pI S d 91 1 k v = some (sk_uI d 91 k v) := if_pos (kd91 h)
theorem gr91_0 {S : sk_S} (h : Sh S) : sk_gR S 91 1 0 = some 92 := by unfold sk_gR; rw [kd91 h, h.2 91 (by decide) (by decide)]; rfl
theorem gr91_1 {S : sk_S} (h : Sh S) : sk_gR S 91 1 1 = some 93 := by unfold sk_gR; rw [kd91 h, h.2 91 (by decide) (by decide)]; rfl
theorem kd92 {S : sk_S} (h : Sh S) : S.2.1 92 = (20, 900) := h.1 92 (by decide)
theorem al92 {S : sk_S} (h : Sh S) : sk_al S 92 20 = some (nI 900) := by unfold sk_al; rw [kd92 h]; rfl
theorem li92 {S : sk_S} (h : Sh S) (d : sk_D) {j : Nat} (hj : j < 900) : sk_lI S d 92 20 (nI j) = some (d.1 92 j) := by unfold sk_lI; rw [kd92 h, if_pos ⟨rfl, nI_in hj (by decide)⟩, nI_clamp (Nat.lt_trans hj (by decide))]
theorem si92 {S : sk_S} (h : Sh S) (d : sk_D) (v : Int32) {j : Nat} (hj : j < 900) : sk_sI S d 92 20 (nI j) v = some (sk_uI d 92 j v) := by unfold sk_sI; rw [kd92 h, if_pos ⟨rfl, nI_in hj (by decide)⟩, nI_clamp (Nat.lt_trans hj (by decide))]
theorem kd93 {S : sk_S} (h : Sh S) : S.2.1 93 = (20, 64) := h.1 93 (by decide)
theorem al93 {S : sk_S} (h : Sh S) : sk_al S 93 20 = some (nI 64) := by unfold sk_al; rw [kd93 h]; rfl
theorem li93 {S : sk_S} (h : Sh S) (d : sk_D) {j : Nat} (hj : j < 64) : sk_lI S d 93 20 (nI j) = some (d.1 93 j) := by unfold sk_lI; rw [kd93 h, if_pos ⟨rfl, nI_in hj (by decide)⟩, nI_clamp (Nat.lt_trans hj (by decide))]
theorem si93 {S : sk_S} (h : Sh S) (d : sk_D) (v : Int32) {j : Nat} (hj : j < 64) : sk_sI S d 93 20 (nI j) v = some (sk_uI d 93 j v) := by unfold sk_sI; rw [kd93 h, if_pos ⟨rfl, nI_in hj (by decide)⟩, nI_clamp (Nat.lt_trans hj (by decide))]
theorem kd94 {S : sk_S} (h : Sh S) : S.2.1 94 = (10, 0) := h.1 94 (by decide)
theorem gi94 {S : sk_S} (h : Sh S) (d : sk_D) (k : Nat) : sk_gI S d 94 10 k = some (d.1 94 k) := if_pos (kd94 h)
theorem pi94 {S : sk_S} (h : Sh S) (d : sk_D) (k : Nat) (v : Int32) : sk_pI S d 94 10 k v = some (sk_uI d 94 k v) := if_pos (kd94 h)
theorem gr94_1 {S : sk_S} (h : Sh S) : sk_gR S 94 10 1 = some 95 := by unfold sk_gR; rw [kd94 h, h.2 94 (by decide) (by decide)]; rfl
theorem gr94_2 {S : sk_S} (h : Sh S) : sk_gR S 94 10 2 = some 96 := by unfold sk_gR; rw [kd94 h, h.2 94 (by decide) (by decide)]; rfl
theorem gr94_3 {S : sk_S} (h : Sh S) : sk_gR S 94 10 3 = some 97 := by unfold sk_gR; rw [kd94 h, h.2 94 (by decide) (by decide)]; rfl
theorem gr94_4 {S : sk_S} (h : Sh S) : sk_gR S 94 10 4 = some 98 := by unfold sk_gR; rw [kd94 h, h.2 94 (by decide) (by decide)]; rfl
theorem gr94_16 {S : sk_S} (h : Sh S) : sk_gR S 94 10 16 = some 99 := by unfold sk_gR; rw [kd94 h, h.2 94 (by decide) (by decide)]; rfl
theorem gr94_17 {S : sk_S} (h : Sh S) : sk_gR S 94 10 17 = some 100 := by unfold sk_gR; rw [kd94 h, h.2 94 (by decide) (by decide)]; rfl
theorem gr94_18 {S : sk_S} (h : Sh S) : sk_gR S 94 10 18 = some 101 := by unfold sk_gR; rw [kd94 h, h.2 94 (by decide) (by decide)]; rfl
theorem gr94_21 {S : sk_S} (h : Sh S) : sk_gR S 94 10 21 = some 102 := by unfold sk_gR; rw [kd94 h, h.2 94 (by decide) (by decide)]; rfl
theorem gr94_22 {S : sk_S} (h : Sh S) : sk_gR S 94 10 22 = some 103 := by unfold sk_gR; rw [kd94 h, h.2 94 (by decide) (by decide)]; rfl
theorem gr94_23 {S : sk_S} (h : Sh S) : sk_gR S 94 10 23 = some 104 := by unfold sk_gR; rw [kd94 h, h.2 94 (by decide) (by decide)]; rfl
theorem gr94_24 {S : sk_S} (h : Sh S) : sk_gR S 94 10 24 = some 105 := by unfold sk_gR; rw [kd94 h, h.2 94 (by decide) (by decide)]; rfl
theorem gr94_26 {S : sk_S} (h : Sh S) : sk_gR S 94 10 26 = some 106 := by unfold sk_gR; rw [kd94 h, h.2 94 (by decide) (by decide)]; rfl
theorem gr94_27 {S : sk_S} (h : Sh S) : sk_gR S 94 10 27 = some 107 := by unfold sk_gR; rw [kd94 h, h.2 94 (by decide) (by decide)]; rfl
theorem gr94_28 {S : sk_S} (h : Sh S) : sk_gR S 94 10 28 = some 108 := by unfold sk_gR; rw [kd94 h, h.2 94 (by decide) (by decide)]; rfl
theorem gr94_29 {S : sk_S} (h : Sh S) : sk_gR S 94 10 29 = some 109 := by unfold sk_gR; rw [kd94 h, h.2 94 (by decide) (by decide)]; rfl
theorem gr94_30 {S : sk_S} (h : Sh S) : sk_gR S 94 10 30 = some 110 := by unfold sk_gR; rw [kd94 h, h.2 94 (by decide) (by decide)]; rfl
theorem gr94_31 {S : sk_S} (h : Sh S) : sk_gR S 94 10 31 = some 111 := by unfold sk_gR; rw [kd94 h, h.2 94 (by decide) (by decide)]; rfl
theorem gr94_33 {S : sk_S} (h : Sh S) : sk_gR S 94 10 33 = some 112 := by unfold sk_gR; rw [kd94 h, h.2 94 (by decide) (by decide)]; rfl
theorem gr94_34 {S : sk_S} (h : Sh S) : sk_gR S 94 10 34 = some 113 := by unfold sk_gR; rw [kd94 h, h.2 94 (by decide) (by decide)]; rfl
theorem gr94_35 {S : sk_S} (h : Sh S) : sk_gR S 94 10 35 = some 114 := by unfold sk_gR; rw [kd94 h, h.2 94 (by decide) (by decide)]; rfl
theorem gr94_36 {S : sk_S} (h : Sh S) : sk_gR S 94 10 36 = some 115 := by unfold sk_gR; rw [kd94 h, h.2 94 (by decide) (by decide)]; rfl
theorem kd95 {S : sk_S} (h : Sh S) : S.2.1 95 = (20, 3225) := h.1 95 (by decide)
theorem al95 {S : sk_S} (h : Sh S) : sk_al S 95 20 = some (nI 3225) := by unfold sk_al; rw [kd95 h]; rfl
theorem li95 {S : sk_S} (h : Sh S) (d : sk_D) {j : Nat} (hj : j < 3225) : sk_lI S d 95 20 (nI j) = some (d.1 95 j) := by unfold sk_lI; rw [kd95 h, if_pos ⟨rfl, nI_in hj (by decide)⟩, nI_clamp (Nat.lt_trans hj (by decide))]
theorem si95 {S : sk_S} (h : Sh S) (d : sk_D) (v : Int32) {j : Nat} (hj : j < 3225) : sk_sI S d 95 20 (nI j) v = some (sk_uI d 95 j v) := by unfold sk_sI; rw [kd95 h, if_pos ⟨rfl, nI_in hj (by decide)⟩, nI_clamp (Nat.lt_trans hj (by decide))]
theorem kd96 {S : sk_S} (h : Sh S) : S.2.1 96 = (23, 2) := h.1 96 (by decide)
theorem al96 {S : sk_S} (h : Sh S) : sk_al S 96 23 = some (nI 2) := by unfold sk_al; rw [kd96 h]; rfl
theorem li96 {S : sk_S} (h : Sh S) (d : sk_D) {j : Nat} (hj : j < 2) : sk_lI S d 96 23 (nI j) = some (d.1 96 j) := by unfold sk_lI; rw [kd96 h, if_pos ⟨rfl, nI_in hj (by decide)⟩, nI_clamp (Nat.lt_trans hj (by decide))]
theorem si96 {S : sk_S} (h : Sh S) (d : sk_D) (v : Int32) {j : Nat} (hj : j < 2) : sk_sI S d 96 23 (nI j) v = some (sk_uI d 96 j v) := by unfold sk_sI; rw [kd96 h, if_pos ⟨rfl, nI_in hj (by decide)⟩, nI_clamp (Nat.lt_trans hj (by decide))]
theorem kd97 {S : sk_S} (h : Sh S) : S.2.1 97 = (20, 900) := h.1 97 (by decide)
theorem al97 {S : sk_S} (h : Sh S) : sk_al S 97 20 = some (nI 900) := by unfold sk_al; rw [kd97 h]; rfl
theorem li97 {S : sk_S} (h : Sh S) (d : sk_D) {j : Nat} (hj : j < 900) : sk_lI S d 97 20 (nI j) = some (d.1 97 j) := by unfold sk_lI; rw [kd97 h, if_pos ⟨rfl, nI_in hj (by decide)⟩, nI_clamp (Nat.lt_trans hj (by decide))]
theorem si97 {S : sk_S} (h : Sh S) (d : sk_D) (v : Int32) {j : Nat} (hj : j < 900) : sk_sI S d 97 20 (nI j) v = some (sk_uI d 97 j v) := by unfold sk_sI; rw [kd97 h, if_pos ⟨rfl, nI_in hj (by decide)⟩, nI_clamp (Nat.lt_trans hj (by decide))]
theorem kd98 {S : sk_S} (h : Sh S) : S.2.1 98 = (20, 1075) := h.1 98 (by decide)
theorem al98 {S : sk_S} (h : Sh S) : sk_al S 98 20 = some (nI 1075) := by unfold sk_al; rw [kd98 h]; rfl
theorem li98 {S : sk_S} (h : Sh S) (d : sk_D) {j : Nat} (hj : j < 1075) : sk_lI S d 98 20 (nI j) = some (d.1 98 j) := by unfold sk_lI; rw [kd98 h, if_pos ⟨rfl, nI_in hj (by decide)⟩, nI_clamp (Nat.lt_trans hj (by decide))]
theorem si98 {S : sk_S} (h : Sh S) (d : sk_D) (v : Int32) {j : Nat} (hj : j < 1075) : sk_sI S d 98 20 (nI j) v = some (sk_uI d 98 j v) := by unfold sk_sI; rw [kd98 h, if_pos ⟨rfl, nI_in hj (by decide)⟩, nI_clamp (Nat.lt_trans hj (by decide))]
theorem kd99 {S : sk_S} (h : Sh S) : S.2.1 99 = (20, 900) := h.1 99 (by decide)
theorem al99 {S : sk_S} (h : Sh S) : sk_al S 99 20 = some (nI 900) := by unfold sk_al; rw [kd99 h]; rfl
theorem li99 {S : sk_S} (h : Sh S) (d : sk_D) {j : Nat} (hj : j < 900) : sk_lI S d 99 20 (nI j) = some (d.1 99 j) := by unfold sk_lI; rw [kd99 h, if_pos ⟨rfl, nI_in hj (by decide)⟩, nI_clamp (Nat.lt_trans hj (by decide))]
theorem si99 {S : sk_S} (h : Sh S) (d : sk_D) (v : Int32) {j : Nat} (hj : j < 900) : sk_sI S d 99 20 (nI j) v = some (sk_uI d 99 j v) := by unfold sk_sI; rw [kd99 h, if_pos ⟨rfl, nI_in hj (by decide)⟩, nI_clamp (Nat.lt_trans hj (by decide))]
theorem kd100 {S : sk_S} (h : Sh S) : S.2.1 100 = (20, 6) := h.1 100 (by decide)
theorem al100 {S : sk_S} (h : Sh S) : sk_al S 100 20 = some (nI 6) := by unfold sk_al; rw [kd100 h]; rfl
theorem li100 {S : sk_S} (h : Sh S) (d : sk_D) {j : Nat} (hj : j < 6) : sk_lI S d 100 20 (nI j) = some (d.1 100 j) := by unfold sk_lI; rw [kd100 h, if_pos ⟨rfl, nI_in hj (by decide)⟩, nI_clamp (Nat.lt_trans hj (by decide))]
theorem si100 {S : sk_S} (h : Sh S) (d : sk_D) (v : Int32) {j : Nat} (hj : j < 6) : sk_sI S d 100 20 (nI j) v = some (sk_uI d 100 j v) := by unfold sk_sI; rw [kd100 h, if_pos ⟨rfl, nI_in hj (by decide)⟩, nI_clamp (Nat.lt_trans hj (by decide))]
theorem kd101 {S : sk_S} (h : Sh S) : S.2.1 101 = (20, 9) := h.1 101 (by decide)
theorem al101 {S : sk_S} (h : Sh S) : sk_al S 101 20 = some (nI 9) := by unfold sk_al; rw [kd101 h]; rfl
theorem li101 {S : sk_S} (h : Sh S) (d : sk_D) {j : Nat} (hj : j < 9) : sk_lI S d 101 20 (nI j) = some (d.1 101 j) := by unfold sk_lI; rw [kd101 h, if_pos ⟨rfl, nI_in hj (by decide)⟩, nI_clamp (Nat.lt_trans hj (by decide))]
theorem si101 {S : sk_S} (h : Sh S) (d : sk_D) (v : Int32) {j : Nat} (hj : j < 9) : sk_sI S d 101 20 (nI j) v = some (sk_uI d 101 j v) := by unfold sk_sI; rw [kd101 h, if_pos ⟨rfl, nI_in hj (by decide)⟩, nI_clamp (Nat.lt_trans hj (by decide))]
theorem kd102 {S : sk_S} (h : Sh S) : S.2.1 102 = (20, 65536) := h.1 102 (by decide)
theorem al102 {S : sk_S} (h : Sh S) : sk_al S 102 20 = some (nI 65536) := by unfold sk_al; rw [kd102 h]; rfl
theorem li102 {S : sk_S} (h : Sh S) (d : sk_D) {j : Nat} (hj : j < 65536) : sk_lI S d 102 20 (nI j) = some (d.1 102 j) := by unfold sk_lI; rw [kd102 h, if_pos ⟨rfl, nI_in hj (by decide)⟩, nI_clamp (Nat.lt_trans hj (by decide))]
theorem si102 {S : sk_S} (h : Sh S) (d : sk_D) (v : Int32) {j : Nat} (hj : j < 65536) : sk_sI S d 102 20 (nI j) v = some (sk_uI d 102 j v) := by unfold sk_sI; rw [kd102 h, if_pos ⟨rfl, nI_in hj (by decide)⟩, nI_clamp (Nat.lt_trans hj (by decide))]
theorem kd103 {S : sk_S} (h : Sh S) : S.2.1 103 = (20, 1048576) := h.1 103 (by decide)
theorem al103 {S : sk_S} (h : Sh S) : sk_al S 103 20 = some (nI 1048576) := by unfold sk_al; rw [kd103 h]; rfl
theorem li103 {S : sk_S} (h : Sh S) (d : sk_D) {j : Nat} (hj : j < 1048576) : sk_lI S d 103 20 (nI j) = some (d.1 103 j) := by unfold sk_lI; rw [kd103 h, if_pos ⟨rfl, nI_in hj (by decide)⟩, nI_clamp (Nat.lt_trans hj (by decide))]
theorem si103 {S : sk_S} (h : Sh S) (d : sk_D) (v : Int32) {j : Nat} (hj : j < 1048576) : sk_sI S d 103 20 (nI j) v = some (sk_uI d 103 j v) := by unfold sk_sI; rw [kd103 h, if_pos ⟨rfl, nI_in hj (by decide)⟩, nI_clamp (Nat.lt_trans hj (by decide))]
theorem kd104 {S : sk_S} (h : Sh S) : S.2.1 104 = (20, 65536) := h.1 104 (by decide)
theorem al104 {S : sk_S} (h : Sh S) : sk_al S 104 20 = some (nI 65536) := by unfold sk_al; rw [kd104 h]; rfl
theorem li104 {S : sk_S} (h : Sh S) (d : sk_D) {j : Nat} (hj : j < 65536) : sk_lI S d 104 20 (nI j) = some (d.1 104 j) := by unfold sk_lI; rw [kd104 h, if_pos ⟨rfl, nI_in hj (by decide)⟩, nI_clamp (Nat.lt_trans hj (by decide))]
theorem si104 {S : sk_S} (h : Sh S) (d : sk_D) (v : Int32) {j : Nat} (hj : j < 65536) : sk_sI S d 104 20 (nI j) v = some (sk_uI d 104 j v) := by unfold sk_sI; rw [kd104 h, if_pos ⟨rfl, nI_in hj (by decide)⟩, nI_clamp (Nat.lt_trans hj (by decide))]
theorem kd105 {S : sk_S} (h : Sh S) : S.2.1 105 = (23, 65536) := h.1 105 (by decide)
theorem al105 {S : sk_S} (h : Sh S) : sk_al S 105 23 = some (nI 65536) := by unfold sk_al; rw [kd105 h]; rfl
theorem li105 {S : sk_S} (h : Sh S) (d : sk_D) {j : Nat} (hj : j < 65536) : sk_lI S d 105 23 (nI j) = some (d.1 105 j) := by unfold sk_lI; rw [kd105 h, if_pos ⟨rfl, nI_in hj (by decide)⟩, nI_clamp (Nat.lt_trans hj (by decide))]
theorem si105 {S : sk_S} (h : Sh S) (d : sk_D) (v : Int32) {j : Nat} (hj : j < 65536) : sk_sI S d 105 23 (nI j) v = some (sk_uI d 105 j v) := by unfold sk_sI; rw [kd105 h, if_pos ⟨rfl, nI_in hj (by decide)⟩, nI_clamp (Nat.lt_trans hj (by decide))]
theorem kd106 {S : sk_S} (h : Sh S) : S.2.1 106 = (21, 65536) := h.1 106 (by decide)
theorem al106 {S : sk_S} (h : Sh S) : sk_al S 106 21 = some (nI 65536) := by unfold sk_al; rw [kd106 h]; rfl
theorem lj106 {S : sk_S} (h : Sh S) (d : sk_D) {j : Nat} (hj : j < 65536) : sk_lJ S d 106 (nI j) = some (d.2 106 j) := by unfold sk_lJ; rw [kd106 h, if_pos ⟨rfl, nI_in hj (by decide)⟩, nI_clamp (Nat.lt_trans hj (by decide))]
theorem sj106 {S : sk_S} (h : Sh S) (d : sk_D) (v : Int64) {j : Nat} (hj : j < 65536) : sk_sJ S d 106 (nI j) v = some (sk_uJ d 106 j v) := by unfold sk_sJ; rw [kd106 h, if_pos ⟨rfl, nI_in hj (by decide)⟩, nI_clamp (Nat.lt_trans hj (by decide))]
theorem kd107 {S : sk_S} (h : Sh S) : S.2.1 107 = (21, 65536) := h.1 107 (by decide)
theorem al107 {S : sk_S} (h : Sh S) : sk_al S 107 21 = some (nI 65536) := by unfold sk_al; rw [kd107 h]; rfl
theorem lj107 {S : sk_S} (h : Sh S) (d : sk_D) {j : Nat} (hj : j < 65536) : sk_lJ S d 107 (nI j) = some (d.2 107 j) := by unfold sk_lJ; rw [kd107 h, if_pos ⟨rfl, nI_in hj (by decide)⟩, nI_clamp (Nat.lt_trans hj (by decide))]
theorem sj107 {S : sk_S} (h : Sh S) (d : sk_D) (v : Int64) {j : Nat} (hj : j < 65536) : sk_sJ S d 107 (nI j) v = some (sk_uJ d 107 j v) := by unfold sk_sJ; rw [kd107 h, if_pos ⟨rfl, nI_in hj (by decide)⟩, nI_clamp (Nat.lt_trans hj (by decide))]
theorem kd108 {S : sk_S} (h : Sh S) : S.2.1 108 = (20, 8) := h.1 108 (by decide)
theorem al108 {S : sk_S} (h : Sh S) : sk_al S 108 20 = some (nI 8) := by unfold sk_al; rw [kd108 h]; rfl
theorem li108 {S : sk_S} (h : Sh S) (d : sk_D) {j : Nat} (hj : j < 8) : sk_lI S d 108 20 (nI j) = some (d.1 108 j) := by unfold sk_lI; rw [kd108 h, if_pos ⟨rfl, nI_in hj (by decide)⟩, nI_clamp (Nat.lt_trans hj (by decide))]
theorem si108 {S : sk_S} (h : Sh S) (d : sk_D) (v : Int32) {j : Nat} (hj : j < 8) : sk_sI S d 108 20 (nI j) v = some (sk_uI d 108 j v) := by unfold sk_sI; rw [kd108 h, if_pos ⟨rfl, nI_in hj (by decide)⟩, nI_clamp (Nat.lt_trans hj (by decide))]
theorem kd109 {S : sk_S} (h : Sh S) : S.2.1 109 = (20, 256) := h.1 109 (by decide)
theorem al109 {S : sk_S} (h : Sh S) : sk_al S 109 20 = some (nI 256) := by unfold sk_al; rw [kd109 h]; rfl
theorem li109 {S : sk_S} (h : Sh S) (d : sk_D) {j : Nat} (hj : j < 256) : sk_lI S d 109 20 (nI j) = some (d.1 109 j) := by unfold sk_lI; rw [kd109 h, if_pos ⟨rfl, nI_in hj (by decide)⟩, nI_clamp (Nat.lt_trans hj (by decide))]
theorem si109 {S : sk_S} (h : Sh S) (d : sk_D) (v : Int32) {j : Nat} (hj : j < 256) : sk_sI S d 109 20 (nI j) v = some (sk_uI d 109 j v) := by unfold sk_sI; rw [kd109 h, if_pos ⟨rfl, nI_in hj (by decide)⟩, nI_clamp (Nat.lt_trans hj (by decide))]
theorem kd110 {S : sk_S} (h : Sh S) : S.2.1 110 = (20, 8) := h.1 110 (by decide)
theorem al110 {S : sk_S} (h : Sh S) : sk_al S 110 20 = some (nI 8) := by unfold sk_al; rw [kd110 h]; rfl
theorem li110 {S : sk_S} (h : Sh S) (d : sk_D) {j : Nat} (hj : j < 8) : sk_lI S d 110 20 (nI j) = some (d.1 110 j) := by unfold sk_lI; rw [kd110 h, if_pos ⟨rfl, nI_in hj (by decide)⟩, nI_clamp (Nat.lt_trans hj (by decide))]
theorem si110 {S : sk_S} (h : Sh S) (d : sk_D) (v : Int32) {j : Nat} (hj : j < 8) : sk_sI S d 110 20 (nI j) v = some (sk_uI d 110 j v) := by unfold sk_sI; rw [kd110 h, if_pos ⟨rfl, nI_in hj (by decide)⟩, nI_clamp (Nat.lt_trans hj (by decide))]
theorem kd111 {S : sk_S} (h : Sh S) : S.2.1 111 = (20, 8) := h.1 111 (by decide)
theorem al111 {S : sk_S} (h : Sh S) : sk_al S 111 20 = some (nI 8) := by unfold sk_al; rw [kd111 h]; rfl
theorem li111 {S : sk_S} (h : Sh S) (d : sk_D) {j : Nat} (hj : j < 8) : sk_lI S d 111 20 (nI j) = some (d.1 111 j) := by unfold sk_lI; rw [kd111 h, if_pos ⟨rfl, nI_in hj (by decide)⟩, nI_clamp (Nat.lt_trans hj (by decide))]
theorem si111 {S : sk_S} (h : Sh S) (d : sk_D) (v : Int32) {j : Nat} (hj : j < 8) : sk_sI S d 111 20 (nI j) v = some (sk_uI d 111 j v) := by unfold sk_sI; rw [kd111 h, if_pos ⟨rfl, nI_in hj (by decide)⟩, nI_clamp (Nat.lt_trans hj (by decide))]
theorem kd112 {S : sk_S} (h : Sh S) : S.2.1 112 = (20, 8) := h.1 112 (by decide)
theorem al112 {S : sk_S} (h : Sh S) : sk_al S 112 20 = some (nI 8) := by unfold sk_al; rw [kd112 h]; rfl
theorem li112 {S : sk_S} (h : Sh S) (d : sk_D) {j : Nat} (hj : j < 8) : sk_lI S d 112 20 (nI j) = some (d.1 112 j) := by unfold sk_lI; rw [kd112 h, if_pos ⟨rfl, nI_in hj (by decide)⟩, nI_clamp (Nat.lt_trans hj (by decide))]
theorem si112 {S : sk_S} (h : Sh S) (d : sk_D) (v : Int32) {j : Nat} (hj : j < 8) : sk_sI S d 112 20 (nI j) v = some (sk_uI d 112 j v) := by unfold sk_sI; rw [kd112 h, if_pos ⟨rfl, nI_in hj (by decide)⟩, nI_clamp (Nat.lt_trans hj (by decide))]
theorem kd113 {S : sk_S} (h : Sh S) : S.2.1 113 = (20, 4) := h.1 113 (by decide)
theorem al113 {S : sk_S} (h : Sh S) : sk_al S 113 20 = some (nI 4) := by unfold sk_al; rw [kd113 h]; rfl
theorem li113 {S : sk_S} (h : Sh S) (d : sk_D) {j : Nat} (hj : j < 4) : sk_lI S d 113 20 (nI j) = some (d.1 113 j) := by unfold sk_lI; rw [kd113 h, if_pos ⟨rfl, nI_in hj (by decide)⟩, nI_clamp (Nat.lt_trans hj (by decide))]
theorem si113 {S : sk_S} (h : Sh S) (d : sk_D) (v : Int32) {j : Nat} (hj : j < 4) : sk_sI S d 113 20 (nI j) v = some (sk_uI d 113 j v) := by unfold sk_sI; rw [kd113 h, if_pos ⟨rfl, nI_in hj (by decide)⟩, nI_clamp (Nat.lt_trans hj (by decide))]
theorem kd114 {S : sk_S} (h : Sh S) : S.2.1 114 = (20, 4) := h.1 114 (by decide)
theorem al114 {S : sk_S} (h : Sh S) : sk_al S 114 20 = some (nI 4) := by unfold sk_al; rw [kd114 h]; rfl
theorem li114 {S : sk_S} (h : Sh S) (d : sk_D) {j : Nat} (hj : j < 4) : sk_lI S d 114 20 (nI j) = some (d.1 114 j) := by unfold sk_lI; rw [kd114 h, if_pos ⟨rfl, nI_in hj (by decide)⟩, nI_clamp (Nat.lt_trans hj (by decide))]
theorem si114 {S : sk_S} (h : Sh S) (d : sk_D) (v : Int32) {j : Nat} (hj : j < 4) : sk_sI S d 114 20 (nI j) v = some (sk_uI d 114 j v) := by unfold sk_sI; rw [kd114 h, if_pos ⟨rfl, nI_in hj (by decide)⟩, nI_clamp (Nat.lt_trans hj (by decide))]
theorem kd115 {S : sk_S} (h : Sh S) : S.2.1 115 = (21, 160) := h.1 115 (by decide)
theorem al115 {S : sk_S} (h : Sh S) : sk_al S 115 21 = some (nI 160) := by unfold sk_al; rw [kd115 h]; rfl
theorem lj115 {S : sk_S} (h : Sh S) (d : sk_D) {j : Nat} (hj : j < 160) : sk_lJ S d 115 (nI j) = some (d.2 115 j) := by unfold sk_lJ; rw [kd115 h, if_pos ⟨rfl, nI_in hj (by decide)⟩, nI_clamp (Nat.lt_trans hj (by decide))]
theorem sj115 {S : sk_S} (h : Sh S) (d : sk_D) (v : Int64) {j : Nat} (hj : j < 160) : sk_sJ S d 115 (nI j) v = some (sk_uJ d 115 j v) := by unfold sk_sJ; rw [kd115 h, if_pos ⟨rfl, nI_in hj (by decide)⟩, nI_clamp (Nat.lt_trans hj (by decide))]
theorem lr52 {S : sk_S} (h : Sh S) {j : Nat} (hj : j < 4) : sk_lR S 52 24 (nI j) = some (rT 52 j) := by
  have h1 := (by decide : ∀ j, j < 4 → rT 52 j ≠ 0) j hj
  have h2 : ¬ (nI j < 0 ∨ 4 ≤ (nI j).toNatClampNeg) := nI_in hj (by decide)
  have h3 : (nI j).toNatClampNeg = j := nI_clamp (Nat.lt_trans hj (by decide))
  unfold sk_lR
  rw [h3] at h2
  rw [kd52 h, h3]
  rw [h.2 52 (by decide) (by decide), if_pos ⟨rfl, h2, h1⟩]
theorem lr53 {S : sk_S} (h : Sh S) {j : Nat} (hj : j < 2) : sk_lR S 53 25 (nI j) = some (rT 53 j) := by
  have h1 := (by decide : ∀ j, j < 2 → rT 53 j ≠ 0) j hj
  have h2 : ¬ (nI j < 0 ∨ 2 ≤ (nI j).toNatClampNeg) := nI_in hj (by decide)
  have h3 : (nI j).toNatClampNeg = j := nI_clamp (Nat.lt_trans hj (by decide))
  unfold sk_lR
  rw [h3] at h2
  rw [kd53 h, h3]
  rw [h.2 53 (by decide) (by decide), if_pos ⟨rfl, h2, h1⟩]
