/-! THE CLAIM OUT OF ONE WALK OF THE LAW'S BODY. Your part is whole_start (and what it stands on); all else here is the same for every law, but numbers. -/
def R_law : String := "StubKeepLaw"
def lw_P (b : Addr) (xs : List Int32) (args : Array Value) (s : State) : Prop := args = #[.ref b] ∧ s.IntsAt b xs ∧ xs.length ≤ 3072 ∧ (Jvm.Cond.and given_1 narrow_1).before args s = true
def lw_Q (_ : Array Value) (s : State) (o : Outcome) (t : State) : Prop := o = .returned (some (.int 1)) ∧ Framed s o t [] 600000 7302250
def lw_Z (below : List Frame) (a : Array Value) (s : State) : State → Prop := fun t => ∃ o, t.status = .running ∧ Ended t below o ∧ lw_Q a s o t
/-- the law's own end, with 1 on the stack, nothing written that was there before, its room as the claim has it -/
theorem lw_ret {p : Program} {l : Launch} {e : Env} {s : State} {m : MethodId} {below : List Frame} {meth : Method} {c : Code} {b : Nat} (hx : p.tables.exec = Jvm.exec) (hb : c.code = code) (hr : meth.sig.returnType = ret) (hlocks : meth.locks = false) {pc : Nat} {H : Heap} {ls : Array Slot} (hdg : decode code pc = .ok (.ireturn, 1)) : W p l e room_1 s m #[Value.ref b] below meth c H [] 600000 7302250 (lw_Z below #[Value.ref b] s) (F0 m pc ls [.int 1]) := by
  intro T hT X
  obtain ⟨fs, hret, hrun, hended, hW, hframe⟩ := X.leave (v := some (.int 1)) (hlocks := hlocks) (fun h => by rw [hr] at h; cases h)
  have hmeth' : T.vm.method? m = some meth := X.method'
  refine ⟨T.setFrames fs, ?_, .returned (some (.int 1)), hrun, hended, rfl, ⟨_, rfl⟩, hW, hframe⟩
  jvm_step X.here [X.here.top, hx, hb, hdg, hmeth', hr, ret, narrow_b1]
  (try refine ⟨rfl, ?_⟩); (try refine ⟨rfl, ?_⟩)
  first | (intro acts; rw [hret _ acts rfl rfl rfl]) | rw [hret _ _ rfl rfl rfl]
  exact Steps.refl _
/-- what holds at the law's entry: the machine, the code, the tables' words (any of lw_tbl by 'hts w (by decide +kernel)'), the script of L ints xs at the cell b, what the Statement gives of the start (any of its parts by flat_of_before) -/
def lw_At (p : Program) (s : State) (m : MethodId) (meth : Method) (c : Code) (b L : Nat) (xs : Nat → Int32) : Prop :=
  p.tables.exec = Jvm.exec ∧ c.code = code ∧ meth.sig.returnType = ret ∧ c.maxLocals = 4 ∧ s.vm.findClass R_law = some m.cls ∧ (∀ w ∈ lw_tbl, w.before #[Value.ref b] s = true) ∧ va_X b L xs s s.heap ∧ b < s.heap.size ∧ meth.locks = false ∧ (Jvm.Cond.and given_1 narrow_1).before #[Value.ref b] s = true
theorem sbn_drop {s s' : State} {L : List Loc} {k n k' n' : Nat} (h : s.sameButNew s' L k n) (hL : ∀ y ∈ L, s.heap.size ≤ y.base) (hk : k ≤ k') (hn : n ≤ n') : s.sameButNew s' [] k' n' := by
  obtain ⟨h1, h2, h3, h4, h5, h6⟩ := h
  refine ⟨h1, h2, Nat.le_trans h3 (Nat.add_le_add_left hk _), h4, Nat.le_trans h5 hn, fun a c hc => ?_⟩
  obtain ⟨c', g1, g2, g3, g4⟩ := h6 a c hc
  refine ⟨c', g1, g2, g3, fun i _ => g4 i (fun hm => ?_)⟩
  exact absurd (Array.getElem?_eq_some_iff.mp hc).1 (Nat.not_lt.mpr (hL _ hm))
theorem ev_eqR {args : Array Value} {s : State} {t u : Term} {a : Nat} (h : (Cond.eq t u).before args s = true) (ht : t.eval args s none [] s = some (.ref a)) : u.eval args s none [] s = some (.ref a) := by
  cases hv : u.eval args s none [] s with
  | none => simp [Cond.before, Cond.holds, Cond.value, ht, hv] at h
  | some w =>
    simp only [Cond.before, Cond.holds, Cond.value, ht, hv] at h
    cases w <;> simp_all
abbrev stm (i : Nat) : Term := if i = 0 then .string "StubKeep$Reader" 91 else if i = 1 then .string "StubKeep$Reader" 83 else .string "StubKeepModel" 94
abbrev sof (i : Nat) : Nat := if i = 0 then 35 else if i = 1 then 153 else 170
abbrev cfl : List Cond := flatC (Jvm.Cond.and given_1 narrow_1)
theorem fl_in (i : Nat) {w : Cond} (h : cfl[i]? = some w) : w ∈ cfl := List.mem_of_getElem? h
theorem fl_el : ∀ i, i < 3 → ∀ j, j < sk_len.getD i 0 → cfl[sof i + j]? = some (Cond.eq (.elem (.field (stm i) "java/lang/String" "value" "[B") (.int (Int32.ofNat j))) (.int ((sk_byt.getD i []).getD j 0))) := by decide +kernel
theorem fl_ex : ∀ i, i < 3 → cfl[sof i - 4]? = some (Cond.exactly (stm i) "java/lang/String") ∧ cfl[sof i - 3]? = some (Cond.eq (.field (stm i) "java/lang/String" "coder" "B") (.int 0)) ∧ cfl[sof i - 2]? = some (Cond.arrayOf (.field (stm i) "java/lang/String" "value" "[B") .byte) ∧ cfl[sof i - 1]? = some (Cond.eq (.length (.field (stm i) "java/lang/String" "value" "[B")) (.int (Int32.ofNat (sk_len.getD i 0)))) := by decide +kernel
theorem fl_ne01 : cfl[165]? = some (Cond.not (Cond.eq (stm 0) (stm 1))) := by decide +kernel
theorem fl_ne02 : cfl[271]? = some (Cond.not (Cond.eq (stm 0) (stm 2))) := by decide +kernel
theorem fl_ne12 : cfl[272]? = some (Cond.not (Cond.eq (stm 1) (stm 2))) := by decide +kernel
theorem fl_eq13 : cfl[290]? = some (Cond.eq (stm 1) (.string "StubKeepModel" 132)) := by decide +kernel
theorem fl_cs : cfl[4]? = some (Cond.eq (.static "java/lang/String" "COMPACT_STRINGS" "Z") (.int 1)) := by decide +kernel
theorem fl_zq : cfl[5]? = some (Cond.isRef (.static "jdk/internal/util/Preconditions" "SIOOBE_FORMATTER" "Ljava/util/function/BiFunction;")) := by decide +kernel
theorem kn_all {s : State} {args : Array Value} (hts : ∀ w ∈ sk_tbl, w.before args s = true) : ∃ (dC : Nat → ClassId) (dI : Nat → Nat → Nat), ∀ (c : Nat) (q : vw_C), sk_classes[c]? = some q → u_Kn s q.1 q.2.1 q.2.2 (dC c) (dI c) := by
  obtain ⟨c0, i0, h0⟩ := u_known (C := RX0) (T := TX0) (N := 1) (n := 1) hts inX0 (hts (.instantiable RX0 1) (sk_in 369 (by decide +kernel) rfl))
  obtain ⟨c1, i1, h1⟩ := u_known (C := RX1) (T := TX1) (N := 3) (n := 3) hts inX1 (hts (.instantiable RX1 3) (sk_in 168 (by decide +kernel) rfl))
  obtain ⟨c2, i2, h2⟩ := u_known (C := RX2) (T := TX2) (N := 15) (n := 15) hts inX2 (hts (.instantiable RX2 15) (sk_in 162 (by decide +kernel) rfl))
  obtain ⟨c3, i3, h3⟩ := u_known (C := RX3) (T := TX3) (N := 3) (n := 3) hts inX3 (hts (.instantiable RX3 3) (sk_in 353 (by decide +kernel) rfl))
  obtain ⟨c4, i4, h4⟩ := u_known (C := RX4) (T := TX4) (N := 3) (n := 3) hts inX4 (hts (.instantiable RX4 3) (sk_in 379 (by decide +kernel) rfl))
  obtain ⟨c5, i5, h5⟩ := u_known (C := RX5) (T := TX5) (N := 9) (n := 9) hts inX5 (hts (.instantiable RX5 9) (sk_in 284 (by decide +kernel) rfl))
  obtain ⟨c6, i6, h6⟩ := u_known (C := RX6) (T := TX6) (N := 4) (n := 4) hts inX6 (hts (.instantiable RX6 4) (sk_in 400 (by decide +kernel) rfl))
  obtain ⟨c7, i7, h7⟩ := u_known (C := RX8) (T := TX8) (N := 7) (n := 7) hts inX8 (hts (.instantiable RX8 7) (sk_in 323 (by decide +kernel) rfl))
  obtain ⟨c8, i8, h8⟩ := u_known (C := RX9) (T := TX9) (N := 4) (n := 4) hts inX9 (hts (.instantiable RX9 4) (sk_in 156 (by decide +kernel) rfl))
  obtain ⟨c9, i9, h9⟩ := u_known (C := RX10) (T := TX10) (N := 11) (n := 11) hts inX10 (hts (.instantiable RX10 11) (sk_in 148 (by decide +kernel) rfl))
  obtain ⟨c10, i10, h10⟩ := u_known (C := RX11) (T := TX11) (N := 37) (n := 37) hts inX11 (hts (.instantiable RX11 37) (sk_in 1303 (by decide +kernel) rfl))
  refine ⟨fun k => if k = 0 then c0 else if k = 1 then c1 else if k = 2 then c2 else if k = 3 then c3 else if k = 4 then c4 else if k = 5 then c5 else if k = 6 then c6 else if k = 7 then c7 else if k = 8 then c8 else if k = 9 then c9 else c10, fun k => if k = 0 then i0 else if k = 1 then i1 else if k = 2 then i2 else if k = 3 then i3 else if k = 4 then i4 else if k = 5 then i5 else if k = 6 then i6 else if k = 7 then i7 else if k = 8 then i8 else if k = 9 then i9 else i10, fun c q hq => ?_⟩
  match c, hq with
  | 0, hq => cases hq; exact h0
  | 1, hq => cases hq; exact h1
  | 2, hq => cases hq; exact h2
  | 3, hq => cases hq; exact h3
  | 4, hq => cases hq; exact h4
  | 5, hq => cases hq; exact h5
  | 6, hq => cases hq; exact h6
  | 7, hq => cases hq; exact h7
  | 8, hq => cases hq; exact h8
  | 9, hq => cases hq; exact h9
  | 10, hq => cases hq; exact h10
  | k + 11, hq => simp [sk_classes] at hq
theorem ar_all {s : State} {args : Array Value} (hts : ∀ w ∈ lw_tbl, w.before args s = true) : ∃ aC : Nat → ClassId, ∀ (k : Nat) (q : ClassId × FieldType), ([(aC 0, .int), (aC 1, .long), (aC 2, .byte), (aC 3, .boolean), (aC 4, .object "StubKeep$Tray"), (aC 5, .object "StubKeep$Life")] : List (ClassId × FieldType))[k]? = some q → ArrOfT s q.1 q.2 ∧ va_RA s q.1 q.2 := by
  obtain ⟨c0, k0, m0, f0, g0, h0⟩ := Cond.arrayClass_spec (hts (.arrayClass .int) (List.mem_of_getElem? (i := 183) (by decide +kernel)))
  obtain ⟨c1, k1, m1, f1, g1, h1⟩ := Cond.arrayClass_spec (hts (.arrayClass .long) (List.mem_of_getElem? (i := 351) (by decide +kernel)))
  obtain ⟨c2, k2, m2, f2, g2, h2⟩ := Cond.arrayClass_spec (hts (.arrayClass .byte) (List.mem_of_getElem? (i := 282) (by decide +kernel)))
  obtain ⟨c3, k3, m3, f3, g3, h3⟩ := Cond.arrayClass_spec (hts (.arrayClass .boolean) (List.mem_of_getElem? (i := 1425) (by decide +kernel)))
  obtain ⟨m4, c4, k4, f4, -, g4, h4, e4⟩ := Cond.arrayOver_spec (hts (.arrayOver (.object "StubKeep$Tray")) (List.mem_of_getElem? (i := 397) (by decide +kernel)))
  obtain ⟨m5, c5, k5, f5, -, g5, h5, e5⟩ := Cond.arrayOver_spec (hts (.arrayOver (.object "StubKeep$Life")) (List.mem_of_getElem? (i := 399) (by decide +kernel)))
  refine ⟨fun k => if k = 0 then c0 else if k = 1 then c1 else if k = 2 then c2 else if k = 3 then c3 else if k = 4 then c4 else c5, fun k q hq => ?_⟩
  match k, hq with
  | 0, hq => cases hq; exact ⟨fun n z => ⟨fun k h => (by cases h), k0, g0, m0, h0⟩, f0⟩
  | 1, hq => cases hq; exact ⟨fun n z => ⟨fun k h => (by cases h), k1, g1, m1, h1⟩, f1⟩
  | 2, hq => cases hq; exact ⟨fun n z => ⟨fun k h => (by cases h), k2, g2, m2, h2⟩, f2⟩
  | 3, hq => cases hq; exact ⟨fun n z => ⟨fun k h => (by cases h), k3, g3, m3, h3⟩, f3⟩
  | 4, hq => cases hq; exact ⟨fun n z => ⟨fun k h => (by cases h), k4, g4, m4, h4⟩, k4, m4, g4, h4, f4, e4⟩
  | 5, hq => cases hq; exact ⟨fun n z => ⟨fun k h => (by cases h), k5, g5, m5, h5⟩, k5, m5, g5, h5, f5, e5⟩
  | k + 6, hq => simp at hq
set_option maxHeartbeats 4000000 in
set_option maxRecDepth 100000 in
theorem whole_start {p : Program} {e : Env} {s : State} {m : MethodId} {below : List Frame} {meth : Method} {c : Code} (l : Launch) (hflags : l.flags = flags0) {b L : Nat} {xs : Nat → Int32} (hL : L ≤ 3072) (C0 : lw_At p s m meth c b L xs) : W p l e room_1 s m #[Value.ref b] below meth c s.heap [] 0 0 (lw_Z below #[Value.ref b] s) (entryFrame m ([Value.ref b] : List Value).toArray 4) := by
  obtain ⟨hx, hb, hr, hml, hown, hts, hX, hbl, hlocks, hgv⟩ := id C0
  have hs : ∀ w ∈ cfl, w.before #[Value.ref b] s = true := flat_of_before _ hgv
  have htg : ∀ w ∈ sk_tbl, w.before #[Value.ref b] s = true := fun w hw => hts w (List.mem_filter.mp hw).1
  have hA : ∀ a : Nat, a < s.heap.size → ¬ (fun q : Nat => s.heap.size ≤ q) a := fun a h => Nat.not_le.mpr h
  obtain ⟨zb, hzb⟩ : ∃ zb, s.heap.size = zb + 1 := ⟨s.heap.size - 1, by omega⟩
  obtain ⟨dC, dI, hKc⟩ := kn_all htg
  obtain ⟨aC, hKa⟩ := ar_all hts
  obtain ⟨adK, adV, hVS, hev⟩ := vk_Sof (args := #[Value.ref b]) (s := s) (N := 3) (tm := stm) (len := sk_len) (byt := sk_byt) (A := fun q : Nat => s.heap.size ≤ q) (by decide) (fun i hi => hs _ (fl_in _ (fl_ex i hi).1)) (fun i hi => hs _ (fl_in _ (fl_ex i hi).2.1)) (fun i hi => hs _ (fl_in _ (fl_ex i hi).2.2.1)) (fun i hi => hs _ (fl_in _ (fl_ex i hi).2.2.2)) (fun i hi j hj => hs _ (fl_in _ (fl_el i hi j hj))) (fun i j hi hj hij => by
    rcases (show i = 0 ∨ i = 1 ∨ i = 2 by omega) with rfl | rfl | rfl <;> rcases (show j = 0 ∨ j = 1 ∨ j = 2 by omega) with rfl | rfl | rfl
    · exact absurd rfl hij
    · exact Or.inl (hs _ (fl_in _ fl_ne01))
    · exact Or.inl (hs _ (fl_in _ fl_ne02))
    · exact Or.inr (hs _ (fl_in _ fl_ne01))
    · exact absurd rfl hij
    · exact Or.inl (hs _ (fl_in _ fl_ne12))
    · exact Or.inr (hs _ (fl_in _ fl_ne02))
    · exact Or.inr (hs _ (fl_in _ fl_ne12))
    · exact absurd rfl hij) hA
  have hZ : va_Z "java/lang/String" "COMPACT_STRINGS" "Z" (.int 1) (fun q : Nat => s.heap.size ≤ q) s s.heap := va_Zof (hts _ (List.mem_of_getElem? (i := 495) (by decide +kernel))) (hts _ (List.mem_of_getElem? (i := 138) (by decide +kernel))) (va_eqt (hs _ (fl_in _ fl_cs))) hA
  have hZq : va_Zq "jdk/internal/util/Preconditions" "SIOOBE_FORMATTER" "Ljava/util/function/BiFunction;" (fun q : Nat => s.heap.size ≤ q) s s.heap := va_Zqof (hts _ (List.mem_of_getElem? (i := 511) (by decide +kernel))) (hts _ (List.mem_of_getElem? (i := 140) (by decide +kernel))) (hs _ (fl_in _ fl_zq)) hA
  obtain ⟨zq, hZq⟩ : ∃ zq : Nat, va_Z "jdk/internal/util/Preconditions" "SIOOBE_FORMATTER" "Ljava/util/function/BiFunction;" .null (fun q : Nat => s.heap.size ≤ q) s s.heap ∨ va_Z "jdk/internal/util/Preconditions" "SIOOBE_FORMATTER" "Ljava/util/function/BiFunction;" (.ref zq) (fun q : Nat => s.heap.size ≤ q) s s.heap := by
    rcases hZq with h | ⟨t, h⟩
    · exact ⟨0, Or.inl h⟩
    · exact ⟨t, Or.inr h⟩
  obtain ⟨C, hC⟩ : ∃ C : sk_C, C = (dC, dI, aC, zb, s.heap, fun k => if k < 3 then adK k else if k < 13 then adV (k - 10) else if k = 50 then zq else b) := ⟨_, rfl⟩
  have hfree : ∀ q : Nat, sk_free C q → s.heap.size ≤ q := fun q hq => by rw [hzb]; rw [hC] at hq; exact hq
  have lK : ∀ i, i < 3 → C.2.2.2.2.2 i = adK i := fun i hi => by rw [hC]; exact if_pos hi
  have lV : ∀ i, i < 3 → C.2.2.2.2.2 (10 + i) = adV i := fun i hi => by
    rw [hC]
    show (if 10 + i < 3 then adK (10 + i) else if 10 + i < 13 then adV (10 + i - 10) else if 10 + i = 50 then zq else b) = adV i
    rw [if_neg (by omega), if_pos (by omega), show 10 + i - 10 = i by omega]
  have lZ : C.2.2.2.2.2 50 = zq := by rw [hC]; rfl
  have lB : C.2.2.2.2.2 100 = b := by rw [hC]; rfl
  have hH0 : C.2.2.2.2.1 = s.heap := by rw [hC]
  have hzC : sk_zb C = zb := by rw [hC]
  have hStr : sk_Str C s := by
    refine ⟨?_, ?_, ?_, ?_, ?_, ?_, ?_, ?_, fun a i y h hm => va_Nw.of rfl (hts _ hm)⟩
    · rw [lK 0 (by omega)]
      exact vk_R.of (hts _ (List.mem_of_getElem? (i := 485) (by decide +kernel))) (hev 0 (by omega))
    · rw [lK 1 (by omega)]
      exact vk_R.of (hts _ (List.mem_of_getElem? (i := 541) (by decide +kernel))) (hev 1 (by omega))
    · rw [lK 2 (by omega)]
      exact vk_R.of (hts _ (List.mem_of_getElem? (i := 1452) (by decide +kernel))) (hev 2 (by omega))
    · rw [lK 1 (by omega)]
      exact vk_R.of (hts _ (List.mem_of_getElem? (i := 1458) (by decide +kernel))) (ev_eqR (hs _ (fl_in _ fl_eq13)) (hev 1 (by omega)))
    · rw [hH0]
      have h := hVS.narrow hfree
      refine ⟨fun i hi => ?_, fun i j hi hj => by rw [lK i hi, lK j hj]; exact h.2 i j hi hj⟩
      rw [lK i hi]
      dsimp only
      rw [lV i hi]
      exact h.1 i hi
    · rw [hH0]; exact ⟨hZ.narrow hfree, hZq.elim (fun h => Or.inl (h.narrow hfree)) (fun h => Or.inr (by rw [lZ]; exact h.narrow hfree))⟩
    · exact va_AO.of (hts _ (List.mem_of_getElem? (i := 397) (by decide +kernel)))
    · exact va_AO.of (hts _ (List.mem_of_getElem? (i := 399) (by decide +kernel)))
  have hKs : sk_K C s := by
    refine ⟨⟨fun c q hq => ?_, fun k q hq => ?_⟩, hStr, by rw [hH0, hzC]; exact hzb⟩
    · rw [hC]; exact hKc c q hq
    · rw [hC] at hq; exact hKa k q hq
  obtain ⟨SS, dd, hf, hc1, hc2⟩ := law_true xs hL
  have K : sk_Ok (p, l, e, room_1, s, m, #[Value.ref b], below, meth, c, MQ below (sk_Post C (some (.int (sk_b true))) SS dd) #[Value.ref b] s (SS.1.1 - 0) (SS.1.2 - 0) (sk_free C), 0, 0) C cL_law 4 RL meth.name (some .boolean) 114 l (some (.int (sk_b true))) SS dd :=
    ⟨hx, hb, hml, hown, htg, hKs, hlocks, hr, rfl, rfl, by decide, by decide, hc1, hc2, Nat.zero_le _, Nat.zero_le _, rfl⟩
  have hScr : sk_Scr (p, l, e, room_1, s, m, #[Value.ref b], below, meth, c, MQ below (sk_Post C (some (.int (sk_b true))) SS dd) #[Value.ref b] s (SS.1.1 - 0) (SS.1.2 - 0) (sk_free C), 0, 0) C L xs := by
    refine ⟨?_, ?_⟩
    · rw [lB, hH0]; exact hX
    · rw [lB, hzC]; omega
  have hw : sk_wd C SS0 dd0 s.heap := by
    refine ⟨by rw [hzC]; exact hzb, fun q _ => by rw [hH0], fun a h1 h2 => absurd h2 (by show ¬ a ≤ 0; omega), fun a _ => rfl⟩
  have G := sL_law C l hf K rfl hScr
  have hl := lv_entry ([.ref b]) (n := 4) (Nat.le_of_ble_eq_true rfl)
  rw [lg_entry_eq]
  generalize (lg_sl ([.ref b]) ++ List.replicate (4 - (lg_sl ([.ref b])).length) Slot.unset).toArray = ls at hl ⊢
  have hl2 : lv_has ls 4 (([(0, .float 100)] : List (Nat × Value)).map (sk_u2 C)) := by
    show lv_has ls 4 [(0, .ref (C.2.2.2.2.2 100))]
    rw [lB]; exact hl
  have WW := G s.heap [] ls hw (fun q h => by cases h) hl2
  intro T hT XX
  obtain ⟨t, a1, o, b1, b2, ⟨b3, b4⟩, L9, hF, hfr⟩ := WW T hT XX
  exact ⟨t, a1, o, b1, b2, b3, hF.1, hF.2.1, sbn_drop hF.2.2 (fun y hy => hfree _ (hfr y hy)) hc1 hc2⟩
set_option maxHeartbeats 4000000 in
theorem lw_walk (l : Launch) (hflags : l.flags = flags0) (b : Addr) (xs : List Int32) : MetFree l x (headSpec (Jvm.Cond.code x code maxLocals ret :: tables_1) room_1) (lw_P b xs) (fun _ _ _ _ _ => True) lw_Q := by
  refine MetFree.of_bodyS (code := code) (maxLocals := maxLocals) (ret := ret) (by decide) ?_ ?_
  · intro args s m h hn
    obtain ⟨meth, c, h1, h2, h3, h4, h5, h6, -, -⟩ := Cond.code_spec hn (atoms_spec (ws := Jvm.Cond.code x code maxLocals ret :: tables_1) h _ List.mem_cons_self)
    exact ⟨meth, c, h1, h2, h3, h4, h5, h6⟩
  · intro p e s m args below meth c s₁ B hml0 hP _
    obtain ⟨rfl, hx, hbd, hgv⟩ := hP
    obtain ⟨scr, harrAt, hlist, hof, hsmall⟩ := hx
    obtain ⟨hcb, hkn, -, -⟩ := State.arrayAt?_spec harrAt
    have hown : s.vm.findClass R_law = some m.cls := findClass_of_methodNamed B.named
    have hts0 : ∀ c ∈ (Jvm.Cond.code x code maxLocals ret :: tables_1), c.before #[Value.ref b] s = true := atoms_spec (ws := Jvm.Cond.code x code maxLocals ret :: tables_1) B.pre
    have hts : ∀ w ∈ lw_tbl, w.before #[Value.ref b] s = true := k2_hts_sels lw_privs (fun w hw => hts0 w (List.mem_cons_of_mem _ hw)) lw_privs_ok
    have hml : c.maxLocals = 4 := B.maxLocals_eq (hts0 _ List.mem_cons_self)
    have X₀ : Stand p l e room_1 s m #[Value.ref b] below meth c s₁ [] 0 0 := Stand.of_body B
    have hh0 : s₁.heap = s.heap := by rw [B.state]; rfl
    have hsz : scr.slots.size = xs.length := by rw [← Array.length_toList, hlist, List.length_map]
    have hval : ∀ j : Nat, j < xs.length → scr.slots[j]? = some (.int (xs.getD j 0)) := fun j hj => by
      rw [← Array.getElem?_toList, hlist]
      simp [hj]
    have hbl : b < s.heap.size := (Array.getElem?_eq_some_iff.mp hcb).1
    have hX : va_X b xs.length (fun j => xs.getD j 0) s s.heap := ⟨scr, hcb, hof, hkn, hsz, hval⟩
    have K : W p l e room_1 s m #[Value.ref b] below meth c s₁.heap [] 0 0 (lw_Z below #[Value.ref b] s) (entryFrame m ([Value.ref b] : List Value).toArray 4) := by
      rw [hh0]
      exact whole_start l hflags hbd ⟨B.exec, B.bytes, B.returns, hml, hown, hts, hX, hbl, B.notSynchronized, hgv⟩
    obtain ⟨t, a1, o, b1, b2, b3⟩ := K s₁ rfl X₀
    exact ⟨t, o, a1, b1, b2, b3⟩
theorem lw_pre_spec {args : Array Value} {s : State} (h : (Jvm.Cond.and given_1 narrow_1).before args s = true) (hr : rest_1_c.before args s = true) : ∃ (b : Addr) (xs : List Int32), lw_P b xs args s := by
  have hs := flat_of_before _ h
  have hq := flat_of_before _ hr
  have hc : (Cond.count 1).before args s = true := hs _ (by decide +kernel)
  have harr : (Cond.arrayOf (.arg 0) .int).before args s = true := hs _ (by decide +kernel)
  have hle : (Cond.le (.length (.arg 0)) (.int 3072)).before args s = true := hs _ (by decide +kernel)
  have hlen : (Cond.isInt (.length (.arg 0))).before args s = true := hq _ (by decide +kernel)
  have hall : (Cond.all (.arg 0) (.isInt (.elem (.arg 0) (.index 0)))).before args s = true := hq _ (by decide +kernel)
  obtain ⟨b, xs, hb, hx⟩ := State.ints_of_pre rfl harr hlen hall
  have hsm : xs.length < 2 ^ 31 := hx.choose_spec.2.2.2
  have hev : (Term.length (.arg 0)).eval args s none [] s = some (.int xs.length.toInt32) := hx.length_eval hb
  have hv := Cond.le_ints hev (show (Term.int 3072).eval args s none [] s = some (.int 3072) from rfl)
  have hd : xs.length.toInt32 ≤ 3072 := by
    simpa [Cond.before, Cond.holds, hv] using hle
  have hN : xs.length ≤ 3072 := (Int32.ofNat_le_ofNat hsm (by decide)).mp (show Int32.ofNat xs.length ≤ Int32.ofNat 3072 from hd)
  exact ⟨b, xs, Cond.one_arg hc (show args[0]? = some (.ref b) from hb), hx, hN, h⟩
theorem lw_comes (l : Launch) (hflags : l.flags = flags0) : Comes l x (Jvm.Cond.code x code maxLocals ret :: tables_1) room_1 (fun tb e args s => Calls_1 tb e args s ∧ rest_1 tb e args s ∧ Pre_1 tb e args s)
    (fun _ _ args s o t => lw_Q args s o t) := by
  intro p e ha hc hk s m args below hf hfit hheap happ hpre
  obtain ⟨b, xs, hP⟩ := lw_pre_spec hpre.2.2 hpre.2.1
  obtain ⟨k, o, h1, h2, h3, hQ⟩ := lw_walk l hflags b xs p e ha hc hk s m args below hf ((Spec.applies_iff_loose hf).mp happ).1 hP trivial
  exact ⟨k, o, h1, h2, h3, hQ⟩
theorem lw_frame {s t : State} {o : Outcome} {args : Array Value} (h : Framed s o t [] 600000 7302250) :
    Framed s o t (fieldLocs frame_1_writes args s ++ arrayLocs frame_1_arrays args s ++ staticLocs frame_1_statics s) 600000 7302250 := h
theorem lw_limb (L : Cond) (hL : ∀ (args : Array Value) (s t : State), L.after args s (.returned (some (.int 1))) t = true) :
    ArmFor flags0 classFile x code maxLocals ret World_1 tables_1 room_1 Calls_1 rest_1 Pre_1
      (fun tb e a s o t => postC L tb e a s o t ∧ Framed s o t (fieldLocs frame_1_writes a s ++ arrayLocs frame_1_arrays a s ++ staticLocs frame_1_statics s) 600000 7302250) := by
  intro l hflags _ _ p e ha hc hk s m args below hf hfit hheap happ hpre
  obtain ⟨k, o, h1, h2, h3, rfl, hF⟩ := lw_comes l hflags p e ha hc hk s m args below hf hfit hheap happ hpre
  exact ⟨k, _, h1, h2, h3, hL args s _, lw_frame hF⟩
theorem i_vc : Claimed_1_1 ∧ Claimed_1_2 := ⟨lw_limb limb_1_1 (fun args s t => by simp [limb_1_1, Cond.after, Cond.holds, Cond.value]), lw_limb limb_1_2 (fun args s t => Cond.after_iff.mpr (by
  first | (rw [show limb_1_2 = Cond.eq .result (.int 1) from rfl, Cond.eq_ints (x := 1) (y := 1) rfl rfl]; simp; done) | (simp [limb_1_2, Cond.value, Term.eval]; done)))⟩
