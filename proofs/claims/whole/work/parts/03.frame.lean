/-! the abstract memory: shape (cells, slots; kinds; references) and data (ints, longs) -/
abbrev sk_S : Type := (Nat × Nat) × (Nat → Nat × Nat) × (Nat → Nat → Nat)
abbrev sk_D : Type := (Nat → Nat → Int32) × (Nat → Nat → Int64)
/-- class ids, slots, array class ids, the base, the heap at the start, low addresses -/
abbrev sk_C : Type := (Nat → ClassId) × (Nat → Nat → Nat) × (Nat → ClassId) × Nat × Heap × (Nat → Nat)
abbrev sk_X : Type := Program × Launch × Env × Room × State × MethodId × Array Value × List Frame × Method × Code × (State → Prop) × Nat × Nat
abbrev sk_zb (C : sk_C) : Nat := C.2.2.2.1
def sk_b (b : Bool) : Int32 := if b = true then 1 else 0
def sk_up (C : sk_C) : Value → Value
  | .ref a => .ref (sk_zb C + a)
  | .float k => .ref (C.2.2.2.2.2 k.toNat)
  | v => v
def sk_u2 (C : sk_C) (q : Nat × Value) : Nat × Value := (q.1, sk_up C q.2)
def sk_isR (c k : Nat) : Bool := match sk_ty c k with
  | .object _ => true
  | .array _ => true
  | _ => false
def sk_rv (C : sk_C) (r : Nat) : Value := if r = 0 then .null else .ref (sk_zb C + r)
def sk_fv (C : sk_C) (c : Nat) (fi : Nat → Int32) (fr : Nat → Nat) (k : Nat) : Value := if sk_isR c k = true then sk_rv C (fr k) else .int (fi k)
def sk_cf (C : sk_C) (t : Nat × Nat) (fi : Nat → Int32) (fj : Nat → Int64) (fr : Nat → Nat) (q : Nat) (H : Heap) : Prop :=
  if t.1 = 20 then H[q]? = some (arrV (C.2.2.1 0) t.2 (fun j => .int (fi j)))
  else if t.1 = 21 then H[q]? = some (arrV (C.2.2.1 1) t.2 (fun j => .long (fj j)))
  else if t.1 = 22 then H[q]? = some (arrV (C.2.2.1 2) t.2 (fun j => .int (fi j)))
  else if t.1 = 23 then H[q]? = some (arrV (C.2.2.1 3) t.2 (fun j => .int (fi j)))
  else if t.1 = 24 then H[q]? = some (arrV (C.2.2.1 4) t.2 (fun j => sk_rv C (fr j)))
  else if t.1 = 25 then H[q]? = some (arrV (C.2.2.1 5) t.2 (fun j => sk_rv C (fr j)))
  else t_OB q (C.1 t.1) (sk_N t.1) (C.2.1 t.1) H (fun k => sk_fv C t.1 fi fr k)
def sk_cell (C : sk_C) (S : sk_S) (d : sk_D) (a : Nat) (H : Heap) : Prop := sk_cf C (S.2.1 a) (d.1 a) (d.2 a) (S.2.2 a) (sk_zb C + a) H
def sk_wd (C : sk_C) (S : sk_S) (d : sk_D) (H : Heap) : Prop :=
  H.size = sk_zb C + 1 + S.1.1 ∧ (∀ q, q < sk_zb C + 1 → H[q]? = C.2.2.2.2.1[q]?) ∧ (∀ a, 1 ≤ a → a ≤ S.1.1 → sk_cell C S d a H) ∧ ∀ a, (a = 0 ∨ S.1.1 < a) → S.2.1 a = (99, 0)
def sk_tys (C : sk_C) : List (ClassId × FieldType) := [(C.2.2.1 0, .int), (C.2.2.1 1, .long), (C.2.2.1 2, .byte), (C.2.2.1 3, .boolean), (C.2.2.1 4, .object "StubKeep$Tray"), (C.2.2.1 5, .object "StubKeep$Life")]
def sk_txt (i : Nat) : String := match i with
  | 0 => "life  room  doing size  edge  held  left  slip  asked burns worth needs door  clash keeps passesor    and   not   "
  | 1 => ";:+-*()[]=<>"
  | 2 => " life room doing size edge asked burns worth needs door clash slip keeps passes held left and or not "
  | _ => ";:+-*()[]=<>"
def sk_byt : List (List Int32) := [(sk_txt 0).toList.map (fun c => Int32.ofNat c.toNat), (sk_txt 1).toList.map (fun c => Int32.ofNat c.toNat), (sk_txt 2).toList.map (fun c => Int32.ofNat c.toNat)]
def sk_len : List Nat := [114, 12, 101]
def sk_free (C : sk_C) : Nat → Prop := fun q => sk_zb C + 1 ≤ q
def sk_Str (C : sk_C) (U : State) : Prop :=
  vk_R RX5 91 (sk_txt 0) (C.2.2.2.2.2 0) U ∧ vk_R RX5 83 (sk_txt 1) (C.2.2.2.2.2 1) U ∧ vk_R RX11 94 (sk_txt 2) (C.2.2.2.2.2 2) U ∧ vk_R RX11 132 (sk_txt 3) (C.2.2.2.2.2 1) U ∧
  vk_S 3 sk_len sk_byt C.2.2.2.2.2 (fun i => C.2.2.2.2.2 (10 + i)) (sk_free C) U C.2.2.2.2.1 ∧ (va_Z "java/lang/String" "COMPACT_STRINGS" "Z" (.int 1) (sk_free C) U C.2.2.2.2.1 ∧ (va_Z "jdk/internal/util/Preconditions" "SIOOBE_FORMATTER" "Ljava/util/function/BiFunction;" .null (sk_free C) U C.2.2.2.2.1 ∨ va_Z "jdk/internal/util/Preconditions" "SIOOBE_FORMATTER" "Ljava/util/function/BiFunction;" (.ref (C.2.2.2.2.2 50)) (sk_free C) U C.2.2.2.2.1)) ∧
  va_AO "StubKeep$Tray" U ∧ va_AO "StubKeep$Life" U ∧ ∀ a i x h, Cond.methodLinkNest a i x h ∈ lw_tbl → va_Nw (.methodLinkNest a i x h) U
def sk_K (C : sk_C) (U : State) : Prop := va_K (C.1, C.2.1) sk_classes (sk_tys C) U ∧ sk_Str C U ∧ C.2.2.2.2.1.size = sk_zb C + 1
theorem sk_K.warm {C : sk_C} {s U : State} (hW : s.WarmedH U.vm) (h : sk_K C s) : sk_K C U := by
  obtain ⟨h1, ⟨a1, a2, a3, a4, a5, a6, a7, a8, a9⟩, h3⟩ := h
  exact ⟨va_K.moved hW.alike h1, ⟨a1.warm hW, a2.warm hW, a3.warm hW, a4.warm hW, a5.moved hW.alike, ⟨a6.1.moved hW.alike, a6.2.elim (fun h => Or.inl (h.moved hW.alike)) (fun h => Or.inr (h.moved hW.alike))⟩, a7.moved hW.alike, a8.moved hW.alike, fun a i x h hm => (a9 a i x h hm).warmM hW⟩, h3⟩
theorem sk_K.same {C : sk_C} {u U : State} (hv : U.vm = u.vm) (h : sk_K C u) : sk_K C U := by
  have ha : u.vm.Alike U.vm := by rw [hv]; exact Vm.Alike.refl _
  obtain ⟨h1, ⟨a1, a2, a3, a4, a5, a6, a7, a8, a9⟩, h3⟩ := h
  exact ⟨va_K.moved ha h1, ⟨a1.same hv, a2.same hv, a3.same hv, a4.same hv, a5.moved ha, ⟨a6.1.moved ha, a6.2.elim (fun h => Or.inl (h.moved ha)) (fun h => Or.inr (h.moved ha))⟩, a7.moved ha, a8.moved ha, fun a i x h hm => (a9 a i x h hm).same rfl hv.symm⟩, h3⟩
def sk_rm (k mc ms : Nat) : Room := { frames := k, cells := mc, slots := ms, locals := 64 * k }
def sk_Pre (C : sk_C) (As : List Value) (S : sk_S) (d : sk_D) : Array Value → State → Prop := fun v U => v = (As.map (sk_up C)).toArray ∧ sk_K C U ∧ sk_wd C S d U.heap
def sk_Post (C : sk_C) (ov : Option Value) (S : sk_S) (d : sk_D) : Array Value → State → Outcome → State → Prop := fun _ _ o t => o = .returned (ov.map (sk_up C)) ∧ sk_wd C S d t.heap
def sk_code (y : MethodName) (cc : ByteArray) (nL : Nat) (ret : Option FieldType) : List Cond := Cond.code y cc nL ret :: sk_tbl
def sk_Met (C : sk_C) (l : Launch) (k : Nat) (y : MethodName) (cc : ByteArray) (nL : Nat) (ret : Option FieldType) (As : List Value) (S : sk_S) (d : sk_D) (ov : Option Value) (S' : sk_S) (d' : sk_D) : Prop :=
  S.1.1 ≤ S'.1.1 ∧ S.1.2 ≤ S'.1.2 ∧ Met l y (sk_code y cc nL ret) (sk_rm k (S'.1.1 - S.1.1) (S'.1.2 - S.1.2)) (sk_Pre C As S d) (sk_Post C ov S' d') (S'.1.1 - S.1.1) (S'.1.2 - S.1.2) (sk_free C)
def sk_W (X : sk_X) (H : Heap) (locs : List Loc) (cells slots : Nat) (g : JFrame) : Prop := match X with
  | (p, l, e, R, s, m, args, below, meth, c, Q, _, _) => W p l e R s m args below meth c H locs cells slots Q g
def sk_F (X : sk_X) (pc : Nat) (ls : Array Slot) (st : List Value) : JFrame := F0 X.2.2.2.2.2.1 pc ls st
def sk_G (X : sk_X) (C : sk_C) (nL : Nat) (S : sk_S) (d : sk_D) (pc : Nat) (lv : List (Nat × Value)) (st : List Value) : Prop :=
  ∀ (H : Heap) (locs : List Loc) (ls : Array Slot), sk_wd C S d H → (∀ q ∈ locs, sk_free C q.base) → lv_has ls nL (lv.map (sk_u2 C)) → sk_W X H locs (S.1.1 - X.2.2.2.2.2.2.2.2.2.2.2.1) (S.1.2 - X.2.2.2.2.2.2.2.2.2.2.2.2) (sk_F X pc ls (st.map (sk_up C)))
def sk_Ok (X : sk_X) (C : sk_C) (cc : ByteArray) (nL : Nat) (own mn : String) (ret : Option FieldType) (kR : Nat) (l0 : Launch) (ov : Option Value) (S' : sk_S) (d' : sk_D) : Prop := match X with
  | (p, l, _, R, s, m, args, below, meth, c, Q, n0, s0) => p.tables.exec = Jvm.exec ∧ c.code = cc ∧ c.maxLocals = nL ∧ s.vm.findClass own = some m.cls ∧ (∀ w ∈ sk_tbl, w.before args s = true) ∧ sk_K C s ∧ meth.locks = false ∧ meth.sig.returnType = ret ∧ meth.name = mn ∧ l = l0 ∧
      kR ≤ R.frames ∧ 64 * kR ≤ R.locals ∧ S'.1.1 - n0 ≤ R.cells ∧ S'.1.2 - s0 ≤ R.slots ∧ n0 ≤ S'.1.1 ∧ s0 ≤ S'.1.2 ∧ Q = MQ below (sk_Post C ov S' d') args s (S'.1.1 - n0) (S'.1.2 - s0) (sk_free C)
theorem sk_cat (C : sk_C) (v : Value) : (sk_up C v).category = v.category := by cases v <;> rfl
theorem sk_filt1 (C : sk_C) (i : Nat) (x : Value) (lv : List (Nat × Value)) : (i, sk_up C x) :: (lv.map (sk_u2 C)).filter (fun q => !(q.1 == i) && !(q.1 + 1 == i && q.2.category == 2)) = ((i, x) :: lv.filter (fun q => !(q.1 == i) && !(q.1 + 1 == i && q.2.category == 2))).map (sk_u2 C) := by
  simp only [List.map_cons, List.filter_map, Function.comp_def, sk_u2, sk_cat]
theorem sk_filt2 (C : sk_C) (i : Nat) (x : Value) (lv : List (Nat × Value)) : (i, sk_up C x) :: (lv.map (sk_u2 C)).filter (fun q => !(q.1 == i) && (!(q.1 == i + 1) && !(q.1 + 1 == i && q.2.category == 2))) = ((i, x) :: lv.filter (fun q => !(q.1 == i) && (!(q.1 == i + 1) && !(q.1 + 1 == i && q.2.category == 2)))).map (sk_u2 C) := by
  simp only [List.map_cons, List.filter_map, Function.comp_def, sk_u2, sk_cat]
theorem sk_lvat {C : sk_C} {ls : Array Slot} {nL : Nat} {lv : List (Nat × Value)} (h : lv_has ls nL (lv.map (sk_u2 C))) (k : Nat) {i : Nat} {v : Value} (hk : lv[k]? = some (i, v)) : ls[i]? = some (.val (sk_up C v)) :=
  lv_at h k (by rw [List.getElem?_map, hk]; rfl)
theorem sk_args (C : sk_C) (vs : List Value) : ∀ n : Nat, lv_args n (vs.map (sk_up C)) = (lv_args n vs).map (sk_u2 C) := by
  induction vs with
  | nil => intro n; rfl
  | cons v vs ih =>
    intro n
    simp only [List.map_cons, lv_args, ih, sk_cat]
    rfl
theorem sk_sl (C : sk_C) (vs : List Value) : (lg_sl (vs.map (sk_up C))).length = (lg_sl vs).length := by
  induction vs with
  | nil => rfl
  | cons v vs ih =>
    simp only [lg_sl, List.map_cons, List.flatMap_cons, List.length_append, sk_cat] at ih ⊢
    rw [ih]
    split <;> rfl
theorem sk_catsum (C : sk_C) (st : List Value) : ((st.map (sk_up C)).map fun v => v.category).sum = (st.map fun v => v.category).sum := by
  rw [List.map_map]
  congr 2
  funext v
  exact sk_cat C v
/-- a method's contract out of its walk -/
theorem sk_Met.of {C : sk_C} {l : Launch} {k : Nat} {y : MethodName} {cc : ByteArray} {nL : Nat} {ret : Option FieldType} {As : List Value} {S : sk_S} {d : sk_D} {ov : Option Value} {S' : sk_S} {d' : sk_D}
    (hy : plainName y.cls = true) (hA : (lg_sl As).length ≤ nL) (h1 : S.1.1 ≤ S'.1.1) (h2 : S.1.2 ≤ S'.1.2)
    (body : ∀ X : sk_X, sk_Ok X C cc nL y.cls y.name ret k l ov S' d' → X.2.2.2.2.2.2.2.2.2.2.2 = S.1 → sk_G X C nL S d 0 (lv_args 0 As) []) : sk_Met C l k y cc nL ret As S d ov S' d' := by
  refine ⟨h1, h2, ?_⟩
  refine Met.ofW (cc := cc) (maxL := nL) (ret := ret) hy rfl ?_
  intro p e s m args below meth c s₁ B hml hv
  obtain ⟨rfl, hK, hw⟩ := hv
  have hts := atoms_spec (ws := sk_code y cc nL ret) B.pre
  have K : sk_Ok (p, l, e, (headSpec (sk_code y cc nL ret) (sk_rm k (S'.1.1 - S.1.1) (S'.1.2 - S.1.2))).room, s, m, (As.map (sk_up C)).toArray, below, meth, c, MQ below (sk_Post C ov S' d') (As.map (sk_up C)).toArray s (S'.1.1 - S.1.1) (S'.1.2 - S.1.2) (sk_free C), S.1.1, S.1.2) C cc nL y.cls y.name ret k l ov S' d' :=
    ⟨B.exec, B.bytes, hml, findClass_of_methodNamed B.named, fun w h => hts w (List.mem_cons_of_mem _ h), hK, B.notSynchronized, B.returns, (name_of_methodNamed B.named B.method).1, rfl, Nat.le_refl _, Nat.le_refl _, Nat.le_refl _, Nat.le_refl _, h1, h2, rfl⟩
  have h := body _ K rfl s.heap [] _ hw (fun q h => by cases h) (by rw [← sk_args]; exact lv_entry (As.map (sk_up C)) (n := nL) (by rw [sk_sl]; exact hA))
  rw [lg_entry_eq]
  simp only [Nat.sub_self] at h
  exact h
