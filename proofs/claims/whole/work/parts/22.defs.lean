/-! a life: (doings, doors, room, lines), values by kind and place (0 size 1 edge 2 asked 3 burns 4 worth 5 needs 6 clash 7 door), laws as steps -/
abbrev LF : Type := (Nat × Nat × Int32 × Int32) × (Nat → Nat → Int32) × (Nat → List Int32)
def lf_n (L : LF) : Nat := L.1.1
def lf_k (L : LF) : Nat := L.1.2.1
def lf_room (L : LF) : Int32 := L.1.2.2.1
def lf_lines (L : LF) : Int32 := L.1.2.2.2
def lf_v (L : LF) (t j : Nat) : Int32 := L.2.1 t j
def lf_w (L : LF) (t : Nat) : List Int32 := L.2.2 t
/-! the machine of the laws -/
def cl6 (x : Int64) : Int32 := (if (if x < (1000000 : Int64) then x else (1000000 : Int64)) < (-1000000 : Int64) then (-1000000 : Int64) else (if x < (1000000 : Int64) then x else (1000000 : Int64))).toInt32
def bo (c a b : Int32) : Int32 :=
  if c = (-14 : Int32) then a ||| b else if c = (-13 : Int32) then a &&& b else if c = (-12 : Int32) then (if a ≤ b then 0 else 1) else if c = (-11 : Int32) then (if b ≤ a then 0 else 1)
  else if c = (-10 : Int32) then (if a = b then 1 else 0) else if c = (-9 : Int32) then cl6 (a.toInt64 * b.toInt64) else if c = (-8 : Int32) then cl6 (a.toInt64 - b.toInt64) else if c = (-7 : Int32) then cl6 (a.toInt64 + b.toInt64) else 0
def rs (g : Nat → Int32) (lim : Nat) (st : List Int32) (c : Int32) : Option (List Int32) :=
  if 0 ≤ c then (if c < 1000 ∧ st.length < lim then some (c :: st) else none)
  else if (-6 : Int32) ≤ c then (if st.length < lim then some (g ((-1 : Int32) - c).toNatClampNeg :: st) else none)
  else if c = (-15 : Int32) then (match st with
    | x :: r => some ((1 - x) :: r)
    | [] => none)
  else if (-14 : Int32) ≤ c then (match st with
    | b :: a :: r => some (bo c a b :: r)
    | _ => none)
  else none
def rn (g : Nat → Int32) (lim : Nat) : List Int32 → List Int32 → Option (List Int32)
  | [], st => some st
  | c :: w, st => (rs g lim st c).bind (rn g lim w)
def ev (g : Nat → Int32) (w : List Int32) : Bool := decide (rn g 64 w [] = some [1])
def okW (t : Nat) (w : List Int32) : Prop := w.length ≤ 900 ∧ (w ≠ [] → ∀ g, ∃ v, (v = 0 ∨ v = 1) ∧ rn g 64 w [] = some [v]) ∧ (t = 0 → ∀ c ∈ w, c ≠ (-6 : Int32))
def okL (L : LF) : Prop := lf_n L ≤ 8 ∧ lf_k L ≤ 8 ∧ (∃ r, r ≤ 40 ∧ lf_room L = nI r) ∧
  (∀ j, j < lf_n L → (∃ z, 1 ≤ z ∧ z ≤ 9 ∧ lf_v L 0 j = nI z) ∧ (∃ z, z ≤ 9 ∧ lf_v L 1 j = nI z) ∧ (∃ z, z ≤ 10 ∧ lf_v L 2 j = nI z) ∧ (∃ z, z ≤ 10 ∧ lf_v L 3 j = nI z) ∧ (∃ z, z ≤ 9 ∧ lf_v L 4 j = nI z) ∧
    (∀ e, e < 32 → bt (lf_v L 5 j) e = true → e < j) ∧ (∀ e, e < 32 → bt (lf_v L 6 j) e = true → e < lf_n L)) ∧
  (∀ j, j < lf_k L → ∃ z, z ≤ 9 ∧ lf_v L 7 j = nI z) ∧ okW 0 (lf_w L 0) ∧ okW 1 (lf_w L 1)
/-! what is left, what is kept, what passes -/
def rl (L : LF) (set : Int32) : Int32 := lf_room L - s3 (fun j => if bt set j = true then lf_v L 0 j else 0) (lf_n L)
def pc (x : Int32) : Int32 := s3 (fun i => if bt x i = true then 1 else 0) 10
def gv (L : LF) (j : Nat) (lin slip : Int32) : Nat → Int32
  | 0 => nI j
  | 1 => lf_v L 0 j
  | 2 => lf_v L 1 j
  | 3 => pc lin
  | 4 => rl L lin
  | _ => slip
def keeps (L : LF) (j : Nat) (lin : Int32) : Bool := decide (lf_v L 0 j ≤ rl L lin) && ((lf_w L 0).isEmpty || ev (gv L j lin 0) (lf_w L 0))
def passes (L : LF) (j : Nat) (lin slip : Int32) : Bool := !(lf_w L 1).isEmpty && ev (gv L j lin slip) (lf_w L 1)
/-! moments -/
def dn (m : Int32) : Int32 := m &&& 255
def ln (m : Int32) : Int32 := (m >>> ((8 : Int32) &&& 31)) &&& 255
def sp (m : Int32) : Int32 := m >>> ((16 : Int32) &&& 31)
def sw (m : Int32) : Int32 := (m &&& (m >>> ((8 : Int32) &&& 31))) &&& 255
def no (m : Int32) : Int32 := (m ||| (m >>> ((8 : Int32) &&& 31))) &&& 255
def b1 (j : Nat) : Int32 := (1 : Int32) <<< (nI j &&& 31)
def b8 (j : Nat) : Int32 := (256 : Int32) <<< (nI j &&& 31)
def mood (m : Int32) (j : Nat) : Int32 := if bt m j = true then (if bt m (j + 8) = true then 1 else 2) else (if bt m (j + 8) = true then 3 else 0)
def okM (L : LF) (m : Int32) : Prop := (∀ i, lf_n L ≤ i → i < 8 → bt m i = false ∧ bt m (i + 8) = false) ∧ (∀ i, i < 8 → bt m i = true → ∀ e, e < 8 → bt (lf_v L 5 i) e = true → bt m e = true) ∧ ∃ s, s < 10 ∧ sp m = nI s
/-- one and all done ones that need it, behind k places -/
def ng (L : LF) (done : Int32) (j : Nat) : Nat → Int32
  | 0 => b1 j
  | k + 1 => if bt done (j + 1 + k) = true ∧ ¬ (lf_v L 5 (j + 1 + k) &&& ng L done j k) = 0 then ng L done j k ||| b1 (j + 1 + k) else ng L done j k
def nd (L : LF) (j : Nat) (done : Int32) : Int32 := ng L done j (lf_n L - (j + 1))
def tdo (L : LF) (m : Int32) (j : Nat) : Int32 :=
  if ¬ j < lf_n L then (-1) else if bt m j = true then (-2) else if ¬ (lf_v L 5 j &&& (dn m ^^^ (-1))) = 0 then (-3)
  else if keeps L j (ln ((m &&& (b8 j ^^^ (-1))) ||| b1 j)) = true then ((m &&& (b8 j ^^^ (-1))) ||| b1 j) ||| b8 j else (m &&& (b8 j ^^^ (-1))) ||| b1 j
def tdr (L : LF) (m : Int32) (j : Nat) : Int32 := if ¬ j < lf_n L then (-1) else if bt m (j + 8) = false then (-2) else m &&& (b8 j ^^^ (-1))
def tfo (L : LF) (m : Int32) (j : Nat) : Int32 := if ¬ j < lf_n L then (-1) else if bt m j = true ∨ bt m (j + 8) = true then (-2) else if lf_v L 0 j ≤ rl L (ln m) then m ||| b8 j else (-4)
def tas (L : LF) (m : Int32) (j : Nat) : Int32 :=
  if ¬ j < lf_n L then (-1) else if mood m j = 0 ∨ mood m j = 1 ∨ (mood m j = 3 ∧ passes L j (ln m) (sp m) = true) then m else m &&& ((nd L j (dn m) ||| (nd L j (dn m) <<< ((8 : Int32) &&& 31))) ^^^ (-1))
/-- a deed by its number -/
def tde (L : LF) (m : Int32) (v : Int64) : Int32 :=
  if v < 0 ∨ ¬ v ≤ 49 then (-1) else
  if v.toInt32 / 10 = 0 then tdo L m (v.toInt32 - v.toInt32 / 10 * 10).toNatClampNeg
  else if v.toInt32 / 10 = 1 then tdr L m (v.toInt32 - v.toInt32 / 10 * 10).toNatClampNeg
  else if v.toInt32 / 10 = 2 then tfo L m (v.toInt32 - v.toInt32 / 10 * 10).toNatClampNeg
  else if v.toInt32 / 10 = 3 then tas L m (v.toInt32 - v.toInt32 / 10 * 10).toNatClampNeg
  else (m &&& 65535) ||| ((v.toInt32 - v.toInt32 / 10 * 10) <<< ((16 : Int32) &&& 31))
/-! the class's cells of a life, at a -/
def cW (d : sk_D) (a : Nat) (w : List Int32) : Prop := d.1 a 2 = nI w.length ∧ ∀ j, j < w.length → d.1 (a + 1) j = w.getD j 0
def cL (d : sk_D) (a : Nat) (L : LF) : Prop := d.1 a 0 = lf_room L ∧ d.1 a 1 = nI (lf_n L) ∧ d.1 a 2 = nI (lf_k L) ∧ d.1 a 4 = lf_lines L ∧
  (∀ t j, t < 7 → j < lf_n L → d.1 (a + 1 + t) j = lf_v L t j) ∧ (∀ j, j < lf_k L → d.1 (a + 8) j = lf_v L 7 j) ∧ cW d (a + 9) (lf_w L 0) ∧ cW d (a + 12) (lf_w L 1)
def cK (d : sk_D) (L : LF) : Prop := (∀ j l, j < lf_n L → l < 256 → d.1 18 (256 * j + l) = 0 ∨ d.1 18 (256 * j + l) = (if keeps L j (nI l) = true then 2 else 1)) ∧
  ∀ j l s, j < lf_n L → l < 256 → s < 10 → bt (d.1 19 (256 * j + l)) (s + 16) = (bt (d.1 19 (256 * j + l)) s && passes L j (nI l) (nI s))
def CI (S : sk_S) (d : sk_D) (L : LF) : Prop := Sh S ∧ okL L ∧ cL d 3 L ∧ cK d L
def scr (b : Nat) : Prop := b = 14 ∨ b = 17 ∨ b = 18 ∨ b = 19 ∨ b = 20
