-- ===== PART A: goes FIRST, ahead of the names: the tables' words, and 'selects' of the private methods out of them =====
/-- a private method of a class that the tables say can be made, by its rows of tables_1 -/
def lw_okq (q : MethodName × Nat) : Prop := (q.1.cls ≠ "java/lang/invoke/MethodHandle" ∧ q.1.cls ≠ "java/lang/invoke/VarHandle") ∧ Cond.instantiable q.1.cls q.2 ∈ tables_1 ∧ Cond.privateMethod q.1 ∈ tables_1 ∧ Cond.instanceMethod q.1 ∈ tables_1
theorem lw_p0 : lw_okq (⟨"StubKeep", "feedInt", "(I)V"⟩, 11) := ⟨⟨by decide +kernel, by decide +kernel⟩, List.mem_of_getElem? (i := 23) (by decide +kernel), List.mem_of_getElem? (i := 336) (by decide +kernel), List.mem_of_getElem? (i := 337) (by decide +kernel)⟩
theorem lw_p1 : lw_okq (⟨"StubKeep$Reader", "scan", "([II)V"⟩, 9) := ⟨⟨by decide +kernel, by decide +kernel⟩, List.mem_of_getElem? (i := 159) (by decide +kernel), List.mem_of_getElem? (i := 351) (by decide +kernel), List.mem_of_getElem? (i := 352) (by decide +kernel)⟩
theorem lw_p2 : lw_okq (⟨"StubKeep$Reader", "add", "(III)V"⟩, 9) := ⟨⟨by decide +kernel, by decide +kernel⟩, List.mem_of_getElem? (i := 159) (by decide +kernel), List.mem_of_getElem? (i := 410) (by decide +kernel), List.mem_of_getElem? (i := 411) (by decide +kernel)⟩
theorem lw_p3 : lw_okq (⟨"StubKeep$Reader", "lifeLine", "()V"⟩, 9) := ⟨⟨by decide +kernel, by decide +kernel⟩, List.mem_of_getElem? (i := 159) (by decide +kernel), List.mem_of_getElem? (i := 483) (by decide +kernel), List.mem_of_getElem? (i := 484) (by decide +kernel)⟩
theorem lw_p4 : lw_okq (⟨"StubKeep$Reader", "expect", "(I)V"⟩, 9) := ⟨⟨by decide +kernel, by decide +kernel⟩, List.mem_of_getElem? (i := 159) (by decide +kernel), List.mem_of_getElem? (i := 487) (by decide +kernel), List.mem_of_getElem? (i := 488) (by decide +kernel)⟩
theorem lw_p5 : lw_okq (⟨"StubKeep$Reader", "kind", "()I"⟩, 9) := ⟨⟨by decide +kernel, by decide +kernel⟩, List.mem_of_getElem? (i := 159) (by decide +kernel), List.mem_of_getElem? (i := 491) (by decide +kernel), List.mem_of_getElem? (i := 492) (by decide +kernel)⟩
theorem lw_p6 : lw_okq (⟨"StubKeep$Reader", "next", "()V"⟩, 9) := ⟨⟨by decide +kernel, by decide +kernel⟩, List.mem_of_getElem? (i := 159) (by decide +kernel), List.mem_of_getElem? (i := 495) (by decide +kernel), List.mem_of_getElem? (i := 496) (by decide +kernel)⟩
theorem lw_p7 : lw_okq (⟨"StubKeep$Reader", "fail", "(I)V"⟩, 9) := ⟨⟨by decide +kernel, by decide +kernel⟩, List.mem_of_getElem? (i := 159) (by decide +kernel), List.mem_of_getElem? (i := 499) (by decide +kernel), List.mem_of_getElem? (i := 500) (by decide +kernel)⟩
theorem lw_p8 : lw_okq (⟨"StubKeep$Reader", "number", "(II)I"⟩, 9) := ⟨⟨by decide +kernel, by decide +kernel⟩, List.mem_of_getElem? (i := 159) (by decide +kernel), List.mem_of_getElem? (i := 503) (by decide +kernel), List.mem_of_getElem? (i := 504) (by decide +kernel)⟩
theorem lw_p9 : lw_okq (⟨"StubKeep$Reader", "endLine", "()V"⟩, 9) := ⟨⟨by decide +kernel, by decide +kernel⟩, List.mem_of_getElem? (i := 159) (by decide +kernel), List.mem_of_getElem? (i := 507) (by decide +kernel), List.mem_of_getElem? (i := 508) (by decide +kernel)⟩
theorem lw_p10 : lw_okq (⟨"StubKeep$Reader", "line", "()V"⟩, 9) := ⟨⟨by decide +kernel, by decide +kernel⟩, List.mem_of_getElem? (i := 159) (by decide +kernel), List.mem_of_getElem? (i := 511) (by decide +kernel), List.mem_of_getElem? (i := 512) (by decide +kernel)⟩
theorem lw_p11 : lw_okq (⟨"StubKeep$Reader", "doingLine", "()V"⟩, 9) := ⟨⟨by decide +kernel, by decide +kernel⟩, List.mem_of_getElem? (i := 159) (by decide +kernel), List.mem_of_getElem? (i := 515) (by decide +kernel), List.mem_of_getElem? (i := 516) (by decide +kernel)⟩
theorem lw_p12 : lw_okq (⟨"StubKeep$Reader", "flag", "(I)V"⟩, 9) := ⟨⟨by decide +kernel, by decide +kernel⟩, List.mem_of_getElem? (i := 159) (by decide +kernel), List.mem_of_getElem? (i := 523) (by decide +kernel), List.mem_of_getElem? (i := 524) (by decide +kernel)⟩
theorem lw_p13 : lw_okq (⟨"StubKeep$Reader", "doorLine", "()V"⟩, 9) := ⟨⟨by decide +kernel, by decide +kernel⟩, List.mem_of_getElem? (i := 159) (by decide +kernel), List.mem_of_getElem? (i := 531) (by decide +kernel), List.mem_of_getElem? (i := 532) (by decide +kernel)⟩
theorem lw_p14 : lw_okq (⟨"StubKeep$Reader", "clashPair", "()V"⟩, 9) := ⟨⟨by decide +kernel, by decide +kernel⟩, List.mem_of_getElem? (i := 159) (by decide +kernel), List.mem_of_getElem? (i := 539) (by decide +kernel), List.mem_of_getElem? (i := 540) (by decide +kernel)⟩
theorem lw_p15 : lw_okq (⟨"StubKeep$Reader", "lawBegins", "(LStubKeep$Law;Z)V"⟩, 9) := ⟨⟨by decide +kernel, by decide +kernel⟩, List.mem_of_getElem? (i := 159) (by decide +kernel), List.mem_of_getElem? (i := 548) (by decide +kernel), List.mem_of_getElem? (i := 549) (by decide +kernel)⟩
def lw_privs_1 : List (MethodName × Nat) := [(⟨"StubKeep", "feedInt", "(I)V"⟩, 11), (⟨"StubKeep$Reader", "scan", "([II)V"⟩, 9), (⟨"StubKeep$Reader", "add", "(III)V"⟩, 9), (⟨"StubKeep$Reader", "lifeLine", "()V"⟩, 9), (⟨"StubKeep$Reader", "expect", "(I)V"⟩, 9), (⟨"StubKeep$Reader", "kind", "()I"⟩, 9), (⟨"StubKeep$Reader", "next", "()V"⟩, 9), (⟨"StubKeep$Reader", "fail", "(I)V"⟩, 9), (⟨"StubKeep$Reader", "number", "(II)I"⟩, 9), (⟨"StubKeep$Reader", "endLine", "()V"⟩, 9), (⟨"StubKeep$Reader", "line", "()V"⟩, 9), (⟨"StubKeep$Reader", "doingLine", "()V"⟩, 9), (⟨"StubKeep$Reader", "flag", "(I)V"⟩, 9), (⟨"StubKeep$Reader", "doorLine", "()V"⟩, 9), (⟨"StubKeep$Reader", "clashPair", "()V"⟩, 9), (⟨"StubKeep$Reader", "lawBegins", "(LStubKeep$Law;Z)V"⟩, 9)]
theorem lw_r1 : ∀ q ∈ lw_privs_1, lw_okq q := List.forall_mem_cons.mpr ⟨lw_p0, List.forall_mem_cons.mpr ⟨lw_p1, List.forall_mem_cons.mpr ⟨lw_p2, List.forall_mem_cons.mpr ⟨lw_p3, List.forall_mem_cons.mpr ⟨lw_p4, List.forall_mem_cons.mpr ⟨lw_p5, List.forall_mem_cons.mpr ⟨lw_p6, List.forall_mem_cons.mpr ⟨lw_p7, List.forall_mem_cons.mpr ⟨lw_p8, List.forall_mem_cons.mpr ⟨lw_p9, List.forall_mem_cons.mpr ⟨lw_p10, List.forall_mem_cons.mpr ⟨lw_p11, List.forall_mem_cons.mpr ⟨lw_p12, List.forall_mem_cons.mpr ⟨lw_p13, List.forall_mem_cons.mpr ⟨lw_p14, List.forall_mem_cons.mpr ⟨lw_p15, fun _ h => absurd h List.not_mem_nil⟩⟩⟩⟩⟩⟩⟩⟩⟩⟩⟩⟩⟩⟩⟩⟩
theorem lw_p16 : lw_okq (⟨"StubKeep$Reader", "truth", "(LStubKeep$Law;I)V"⟩, 9) := ⟨⟨by decide +kernel, by decide +kernel⟩, List.mem_of_getElem? (i := 159) (by decide +kernel), List.mem_of_getElem? (i := 553) (by decide +kernel), List.mem_of_getElem? (i := 554) (by decide +kernel)⟩
theorem lw_p17 : lw_okq (⟨"StubKeep$Reader", "both", "(LStubKeep$Law;I)V"⟩, 9) := ⟨⟨by decide +kernel, by decide +kernel⟩, List.mem_of_getElem? (i := 159) (by decide +kernel), List.mem_of_getElem? (i := 557) (by decide +kernel), List.mem_of_getElem? (i := 558) (by decide +kernel)⟩
theorem lw_p18 : lw_okq (⟨"StubKeep$Reader", "unit", "(LStubKeep$Law;I)V"⟩, 9) := ⟨⟨by decide +kernel, by decide +kernel⟩, List.mem_of_getElem? (i := 159) (by decide +kernel), List.mem_of_getElem? (i := 561) (by decide +kernel), List.mem_of_getElem? (i := 562) (by decide +kernel)⟩
theorem lw_p19 : lw_okq (⟨"StubKeep$Reader", "compared", "(LStubKeep$Law;I)V"⟩, 9) := ⟨⟨by decide +kernel, by decide +kernel⟩, List.mem_of_getElem? (i := 159) (by decide +kernel), List.mem_of_getElem? (i := 565) (by decide +kernel), List.mem_of_getElem? (i := 566) (by decide +kernel)⟩
theorem lw_p20 : lw_okq (⟨"StubKeep$Reader", "sum", "(LStubKeep$Law;I)V"⟩, 9) := ⟨⟨by decide +kernel, by decide +kernel⟩, List.mem_of_getElem? (i := 159) (by decide +kernel), List.mem_of_getElem? (i := 569) (by decide +kernel), List.mem_of_getElem? (i := 570) (by decide +kernel)⟩
theorem lw_p21 : lw_okq (⟨"StubKeep$Reader", "term", "(LStubKeep$Law;I)V"⟩, 9) := ⟨⟨by decide +kernel, by decide +kernel⟩, List.mem_of_getElem? (i := 159) (by decide +kernel), List.mem_of_getElem? (i := 573) (by decide +kernel), List.mem_of_getElem? (i := 574) (by decide +kernel)⟩
theorem lw_p22 : lw_okq (⟨"StubKeep$Reader", "atom", "(LStubKeep$Law;I)V"⟩, 9) := ⟨⟨by decide +kernel, by decide +kernel⟩, List.mem_of_getElem? (i := 159) (by decide +kernel), List.mem_of_getElem? (i := 577) (by decide +kernel), List.mem_of_getElem? (i := 578) (by decide +kernel)⟩
theorem lw_p23 : lw_okq (⟨"StubKeep$Reader", "bracketed", "(LStubKeep$Law;I)V"⟩, 9) := ⟨⟨by decide +kernel, by decide +kernel⟩, List.mem_of_getElem? (i := 159) (by decide +kernel), List.mem_of_getElem? (i := 585) (by decide +kernel), List.mem_of_getElem? (i := 586) (by decide +kernel)⟩
theorem lw_p24 : lw_okq (⟨"StubKeep$Reader", "negated", "(LStubKeep$Law;I)V"⟩, 9) := ⟨⟨by decide +kernel, by decide +kernel⟩, List.mem_of_getElem? (i := 159) (by decide +kernel), List.mem_of_getElem? (i := 592) (by decide +kernel), List.mem_of_getElem? (i := 593) (by decide +kernel)⟩
theorem lw_p25 : lw_okq (⟨"StubKeep", "begin", "(LStubKeep$Life;I)V"⟩, 11) := ⟨⟨by decide +kernel, by decide +kernel⟩, List.mem_of_getElem? (i := 23) (by decide +kernel), List.mem_of_getElem? (i := 596) (by decide +kernel), List.mem_of_getElem? (i := 597) (by decide +kernel)⟩
theorem lw_p26 : lw_okq (⟨"StubKeep$Walk", "spot", "(I)I"⟩, 7) := ⟨⟨by decide +kernel, by decide +kernel⟩, List.mem_of_getElem? (i := 198) (by decide +kernel), List.mem_of_getElem? (i := 626) (by decide +kernel), List.mem_of_getElem? (i := 627) (by decide +kernel)⟩
theorem lw_p27 : lw_okq (⟨"StubKeep", "notDone", "(I)I"⟩, 11) := ⟨⟨by decide +kernel, by decide +kernel⟩, List.mem_of_getElem? (i := 23) (by decide +kernel), List.mem_of_getElem? (i := 660) (by decide +kernel), List.mem_of_getElem? (i := 661) (by decide +kernel)⟩
theorem lw_p28 : lw_okq (⟨"StubKeep", "enact", "(II)I"⟩, 11) := ⟨⟨by decide +kernel, by decide +kernel⟩, List.mem_of_getElem? (i := 23) (by decide +kernel), List.mem_of_getElem? (i := 677) (by decide +kernel), List.mem_of_getElem? (i := 678) (by decide +kernel)⟩
theorem lw_p29 : lw_okq (⟨"StubKeep$World", "keepsStub", "(II)Z"⟩, 4) := ⟨⟨by decide +kernel, by decide +kernel⟩, List.mem_of_getElem? (i := 31) (by decide +kernel), List.mem_of_getElem? (i := 693) (by decide +kernel), List.mem_of_getElem? (i := 694) (by decide +kernel)⟩
theorem lw_p30 : lw_okq (⟨"StubKeep$World", "give", "(III)V"⟩, 4) := ⟨⟨by decide +kernel, by decide +kernel⟩, List.mem_of_getElem? (i := 31) (by decide +kernel), List.mem_of_getElem? (i := 697) (by decide +kernel), List.mem_of_getElem? (i := 698) (by decide +kernel)⟩
theorem lw_p31 : lw_okq (⟨"StubKeep$World", "tryForge", "(II)I"⟩, 4) := ⟨⟨by decide +kernel, by decide +kernel⟩, List.mem_of_getElem? (i := 31) (by decide +kernel), List.mem_of_getElem? (i := 730) (by decide +kernel), List.mem_of_getElem? (i := 731) (by decide +kernel)⟩
def lw_privs_2 : List (MethodName × Nat) := [(⟨"StubKeep$Reader", "truth", "(LStubKeep$Law;I)V"⟩, 9), (⟨"StubKeep$Reader", "both", "(LStubKeep$Law;I)V"⟩, 9), (⟨"StubKeep$Reader", "unit", "(LStubKeep$Law;I)V"⟩, 9), (⟨"StubKeep$Reader", "compared", "(LStubKeep$Law;I)V"⟩, 9), (⟨"StubKeep$Reader", "sum", "(LStubKeep$Law;I)V"⟩, 9), (⟨"StubKeep$Reader", "term", "(LStubKeep$Law;I)V"⟩, 9), (⟨"StubKeep$Reader", "atom", "(LStubKeep$Law;I)V"⟩, 9), (⟨"StubKeep$Reader", "bracketed", "(LStubKeep$Law;I)V"⟩, 9), (⟨"StubKeep$Reader", "negated", "(LStubKeep$Law;I)V"⟩, 9), (⟨"StubKeep", "begin", "(LStubKeep$Life;I)V"⟩, 11), (⟨"StubKeep$Walk", "spot", "(I)I"⟩, 7), (⟨"StubKeep", "notDone", "(I)I"⟩, 11), (⟨"StubKeep", "enact", "(II)I"⟩, 11), (⟨"StubKeep$World", "keepsStub", "(II)Z"⟩, 4), (⟨"StubKeep$World", "give", "(III)V"⟩, 4), (⟨"StubKeep$World", "tryForge", "(II)I"⟩, 4)]
theorem lw_r2 : ∀ q ∈ lw_privs_2, lw_okq q := List.forall_mem_cons.mpr ⟨lw_p16, List.forall_mem_cons.mpr ⟨lw_p17, List.forall_mem_cons.mpr ⟨lw_p18, List.forall_mem_cons.mpr ⟨lw_p19, List.forall_mem_cons.mpr ⟨lw_p20, List.forall_mem_cons.mpr ⟨lw_p21, List.forall_mem_cons.mpr ⟨lw_p22, List.forall_mem_cons.mpr ⟨lw_p23, List.forall_mem_cons.mpr ⟨lw_p24, List.forall_mem_cons.mpr ⟨lw_p25, List.forall_mem_cons.mpr ⟨lw_p26, List.forall_mem_cons.mpr ⟨lw_p27, List.forall_mem_cons.mpr ⟨lw_p28, List.forall_mem_cons.mpr ⟨lw_p29, List.forall_mem_cons.mpr ⟨lw_p30, List.forall_mem_cons.mpr ⟨lw_p31, fun _ h => absurd h List.not_mem_nil⟩⟩⟩⟩⟩⟩⟩⟩⟩⟩⟩⟩⟩⟩⟩⟩
theorem lw_p32 : lw_okq (⟨"StubKeep$World", "passesStub", "(III)Z"⟩, 4) := ⟨⟨by decide +kernel, by decide +kernel⟩, List.mem_of_getElem? (i := 31) (by decide +kernel), List.mem_of_getElem? (i := 745) (by decide +kernel), List.mem_of_getElem? (i := 746) (by decide +kernel)⟩
theorem lw_p33 : lw_okq (⟨"StubKeep$Past", "forgetEldest", "()V"⟩, 3) := ⟨⟨by decide +kernel, by decide +kernel⟩, List.mem_of_getElem? (i := 254) (by decide +kernel), List.mem_of_getElem? (i := 759) (by decide +kernel), List.mem_of_getElem? (i := 760) (by decide +kernel)⟩
theorem lw_p34 : lw_okq (⟨"StubKeep", "noTray", "(I)I"⟩, 11) := ⟨⟨by decide +kernel, by decide +kernel⟩, List.mem_of_getElem? (i := 23) (by decide +kernel), List.mem_of_getElem? (i := 814) (by decide +kernel), List.mem_of_getElem? (i := 815) (by decide +kernel)⟩
theorem lw_p35 : lw_okq (⟨"StubKeep$Walk", "fit", "(I)V"⟩, 7) := ⟨⟨by decide +kernel, by decide +kernel⟩, List.mem_of_getElem? (i := 198) (by decide +kernel), List.mem_of_getElem? (i := 844) (by decide +kernel), List.mem_of_getElem? (i := 845) (by decide +kernel)⟩
theorem lw_p36 : lw_okq (⟨"StubKeep$Walk", "reach", "(III)V"⟩, 7) := ⟨⟨by decide +kernel, by decide +kernel⟩, List.mem_of_getElem? (i := 198) (by decide +kernel), List.mem_of_getElem? (i := 850) (by decide +kernel), List.mem_of_getElem? (i := 851) (by decide +kernel)⟩
theorem lw_p37 : lw_okq (⟨"StubKeep$Walk", "deedTo", "(I)I"⟩, 7) := ⟨⟨by decide +kernel, by decide +kernel⟩, List.mem_of_getElem? (i := 198) (by decide +kernel), List.mem_of_getElem? (i := 860) (by decide +kernel), List.mem_of_getElem? (i := 861) (by decide +kernel)⟩
theorem lw_p38 : lw_okq (⟨"StubKeep$Walk", "stateBefore", "(I)I"⟩, 7) := ⟨⟨by decide +kernel, by decide +kernel⟩, List.mem_of_getElem? (i := 198) (by decide +kernel), List.mem_of_getElem? (i := 864) (by decide +kernel), List.mem_of_getElem? (i := 865) (by decide +kernel)⟩
theorem lw_p39 : lw_okq (⟨"StubKeep$Walk", "fitWays", "()V"⟩, 7) := ⟨⟨by decide +kernel, by decide +kernel⟩, List.mem_of_getElem? (i := 198) (by decide +kernel), List.mem_of_getElem? (i := 901) (by decide +kernel), List.mem_of_getElem? (i := 902) (by decide +kernel)⟩
theorem lw_p40 : lw_okq (⟨"StubKeep$Walk", "goOneOn", "(LStubKeep$World;)V"⟩, 7) := ⟨⟨by decide +kernel, by decide +kernel⟩, List.mem_of_getElem? (i := 198) (by decide +kernel), List.mem_of_getElem? (i := 905) (by decide +kernel), List.mem_of_getElem? (i := 906) (by decide +kernel)⟩
theorem lw_p41 : lw_okq (⟨"StubKeep$Walk", "addWays", "(IJ)V"⟩, 7) := ⟨⟨by decide +kernel, by decide +kernel⟩, List.mem_of_getElem? (i := 198) (by decide +kernel), List.mem_of_getElem? (i := 909) (by decide +kernel), List.mem_of_getElem? (i := 910) (by decide +kernel)⟩
theorem lw_p42 : lw_okq (⟨"StubKeep", "tellOrders", "(I)I"⟩, 11) := ⟨⟨by decide +kernel, by decide +kernel⟩, List.mem_of_getElem? (i := 23) (by decide +kernel), List.mem_of_getElem? (i := 955) (by decide +kernel), List.mem_of_getElem? (i := 956) (by decide +kernel)⟩
theorem lw_p43 : lw_okq (⟨"StubKeep$Orders", "firstBehind", "(I)I"⟩, 3) := ⟨⟨by decide +kernel, by decide +kernel⟩, List.mem_of_getElem? (i := 228) (by decide +kernel), List.mem_of_getElem? (i := 987) (by decide +kernel), List.mem_of_getElem? (i := 988) (by decide +kernel)⟩
theorem lw_p44 : lw_okq (⟨"StubKeep", "noPassed", "(I)I"⟩, 11) := ⟨⟨by decide +kernel, by decide +kernel⟩, List.mem_of_getElem? (i := 23) (by decide +kernel), List.mem_of_getElem? (i := 1018) (by decide +kernel), List.mem_of_getElem? (i := 1019) (by decide +kernel)⟩
theorem lw_p45 : lw_okq (⟨"StubKeep", "slipsBy", "(LStubKeep$Tray;)I"⟩, 11) := ⟨⟨by decide +kernel, by decide +kernel⟩, List.mem_of_getElem? (i := 23) (by decide +kernel), List.mem_of_getElem? (i := 1022) (by decide +kernel), List.mem_of_getElem? (i := 1023) (by decide +kernel)⟩
theorem lw_p46 : lw_okq (⟨"StubKeep$World", "lostInHundred", "(II)I"⟩, 4) := ⟨⟨by decide +kernel, by decide +kernel⟩, List.mem_of_getElem? (i := 31) (by decide +kernel), List.mem_of_getElem? (i := 1111) (by decide +kernel), List.mem_of_getElem? (i := 1112) (by decide +kernel)⟩
theorem lw_p47 : lw_okq (⟨"StubKeep$Tray", "cut", "(J)J"⟩, 4) := ⟨⟨by decide +kernel, by decide +kernel⟩, List.mem_of_getElem? (i := 275) (by decide +kernel), List.mem_of_getElem? (i := 1157) (by decide +kernel), List.mem_of_getElem? (i := 1158) (by decide +kernel)⟩
def lw_privs_3 : List (MethodName × Nat) := [(⟨"StubKeep$World", "passesStub", "(III)Z"⟩, 4), (⟨"StubKeep$Past", "forgetEldest", "()V"⟩, 3), (⟨"StubKeep", "noTray", "(I)I"⟩, 11), (⟨"StubKeep$Walk", "fit", "(I)V"⟩, 7), (⟨"StubKeep$Walk", "reach", "(III)V"⟩, 7), (⟨"StubKeep$Walk", "deedTo", "(I)I"⟩, 7), (⟨"StubKeep$Walk", "stateBefore", "(I)I"⟩, 7), (⟨"StubKeep$Walk", "fitWays", "()V"⟩, 7), (⟨"StubKeep$Walk", "goOneOn", "(LStubKeep$World;)V"⟩, 7), (⟨"StubKeep$Walk", "addWays", "(IJ)V"⟩, 7), (⟨"StubKeep", "tellOrders", "(I)I"⟩, 11), (⟨"StubKeep$Orders", "firstBehind", "(I)I"⟩, 3), (⟨"StubKeep", "noPassed", "(I)I"⟩, 11), (⟨"StubKeep", "slipsBy", "(LStubKeep$Tray;)I"⟩, 11), (⟨"StubKeep$World", "lostInHundred", "(II)I"⟩, 4), (⟨"StubKeep$Tray", "cut", "(J)J"⟩, 4)]
theorem lw_r3 : ∀ q ∈ lw_privs_3, lw_okq q := List.forall_mem_cons.mpr ⟨lw_p32, List.forall_mem_cons.mpr ⟨lw_p33, List.forall_mem_cons.mpr ⟨lw_p34, List.forall_mem_cons.mpr ⟨lw_p35, List.forall_mem_cons.mpr ⟨lw_p36, List.forall_mem_cons.mpr ⟨lw_p37, List.forall_mem_cons.mpr ⟨lw_p38, List.forall_mem_cons.mpr ⟨lw_p39, List.forall_mem_cons.mpr ⟨lw_p40, List.forall_mem_cons.mpr ⟨lw_p41, List.forall_mem_cons.mpr ⟨lw_p42, List.forall_mem_cons.mpr ⟨lw_p43, List.forall_mem_cons.mpr ⟨lw_p44, List.forall_mem_cons.mpr ⟨lw_p45, List.forall_mem_cons.mpr ⟨lw_p46, List.forall_mem_cons.mpr ⟨lw_p47, fun _ h => absurd h List.not_mem_nil⟩⟩⟩⟩⟩⟩⟩⟩⟩⟩⟩⟩⟩⟩⟩⟩
theorem lw_p48 : lw_okq (⟨"StubKeepModel", "next", "()V"⟩, 37) := ⟨⟨by decide +kernel, by decide +kernel⟩, List.mem_of_getElem? (i := 1178) (by decide +kernel), List.mem_of_getElem? (i := 1313) (by decide +kernel), List.mem_of_getElem? (i := 1314) (by decide +kernel)⟩
theorem lw_p49 : lw_okq (⟨"StubKeepModel", "see", "(I)I"⟩, 37) := ⟨⟨by decide +kernel, by decide +kernel⟩, List.mem_of_getElem? (i := 1178) (by decide +kernel), List.mem_of_getElem? (i := 1317) (by decide +kernel), List.mem_of_getElem? (i := 1318) (by decide +kernel)⟩
theorem lw_p50 : lw_okq (⟨"StubKeepModel", "keyAt", "()I"⟩, 37) := ⟨⟨by decide +kernel, by decide +kernel⟩, List.mem_of_getElem? (i := 1178) (by decide +kernel), List.mem_of_getElem? (i := 1324) (by decide +kernel), List.mem_of_getElem? (i := 1325) (by decide +kernel)⟩
theorem lw_p51 : lw_okq (⟨"StubKeepModel", "eats", "(I)Z"⟩, 37) := ⟨⟨by decide +kernel, by decide +kernel⟩, List.mem_of_getElem? (i := 1178) (by decide +kernel), List.mem_of_getElem? (i := 1335) (by decide +kernel), List.mem_of_getElem? (i := 1336) (by decide +kernel)⟩
theorem lw_p52 : lw_okq (⟨"StubKeepModel", "is", "(I)Z"⟩, 37) := ⟨⟨by decide +kernel, by decide +kernel⟩, List.mem_of_getElem? (i := 1178) (by decide +kernel), List.mem_of_getElem? (i := 1339) (by decide +kernel), List.mem_of_getElem? (i := 1340) (by decide +kernel)⟩
theorem lw_p53 : lw_okq (⟨"StubKeepModel", "fails", "(I)V"⟩, 37) := ⟨⟨by decide +kernel, by decide +kernel⟩, List.mem_of_getElem? (i := 1178) (by decide +kernel), List.mem_of_getElem? (i := 1343) (by decide +kernel), List.mem_of_getElem? (i := 1344) (by decide +kernel)⟩
theorem lw_p54 : lw_okq (⟨"StubKeepModel", "takes", "(II)I"⟩, 37) := ⟨⟨by decide +kernel, by decide +kernel⟩, List.mem_of_getElem? (i := 1178) (by decide +kernel), List.mem_of_getElem? (i := 1347) (by decide +kernel), List.mem_of_getElem? (i := 1348) (by decide +kernel)⟩
theorem lw_p55 : lw_okq (⟨"StubKeepModel", "ends", "()V"⟩, 37) := ⟨⟨by decide +kernel, by decide +kernel⟩, List.mem_of_getElem? (i := 1178) (by decide +kernel), List.mem_of_getElem? (i := 1351) (by decide +kernel), List.mem_of_getElem? (i := 1352) (by decide +kernel)⟩
theorem lw_p56 : lw_okq (⟨"StubKeepModel", "readLine", "()V"⟩, 37) := ⟨⟨by decide +kernel, by decide +kernel⟩, List.mem_of_getElem? (i := 1178) (by decide +kernel), List.mem_of_getElem? (i := 1355) (by decide +kernel), List.mem_of_getElem? (i := 1356) (by decide +kernel)⟩
theorem lw_p57 : lw_okq (⟨"StubKeepModel", "readDoing", "()V"⟩, 37) := ⟨⟨by decide +kernel, by decide +kernel⟩, List.mem_of_getElem? (i := 1178) (by decide +kernel), List.mem_of_getElem? (i := 1359) (by decide +kernel), List.mem_of_getElem? (i := 1360) (by decide +kernel)⟩
theorem lw_p58 : lw_okq (⟨"StubKeepModel", "readFlag", "(I)Z"⟩, 37) := ⟨⟨by decide +kernel, by decide +kernel⟩, List.mem_of_getElem? (i := 1178) (by decide +kernel), List.mem_of_getElem? (i := 1363) (by decide +kernel), List.mem_of_getElem? (i := 1364) (by decide +kernel)⟩
theorem lw_p59 : lw_okq (⟨"StubKeepModel", "readDoor", "()V"⟩, 37) := ⟨⟨by decide +kernel, by decide +kernel⟩, List.mem_of_getElem? (i := 1178) (by decide +kernel), List.mem_of_getElem? (i := 1367) (by decide +kernel), List.mem_of_getElem? (i := 1368) (by decide +kernel)⟩
theorem lw_p60 : lw_okq (⟨"StubKeepModel", "readClash", "()V"⟩, 37) := ⟨⟨by decide +kernel, by decide +kernel⟩, List.mem_of_getElem? (i := 1178) (by decide +kernel), List.mem_of_getElem? (i := 1371) (by decide +kernel), List.mem_of_getElem? (i := 1372) (by decide +kernel)⟩
theorem lw_p61 : lw_okq (⟨"StubKeepModel", "readLaw", "(I)V"⟩, 37) := ⟨⟨by decide +kernel, by decide +kernel⟩, List.mem_of_getElem? (i := 1178) (by decide +kernel), List.mem_of_getElem? (i := 1375) (by decide +kernel), List.mem_of_getElem? (i := 1376) (by decide +kernel)⟩
theorem lw_p62 : lw_okq (⟨"StubKeepModel", "readTruth", "(I)V"⟩, 37) := ⟨⟨by decide +kernel, by decide +kernel⟩, List.mem_of_getElem? (i := 1178) (by decide +kernel), List.mem_of_getElem? (i := 1379) (by decide +kernel), List.mem_of_getElem? (i := 1380) (by decide +kernel)⟩
theorem lw_p63 : lw_okq (⟨"StubKeepModel", "readBoth", "(I)V"⟩, 37) := ⟨⟨by decide +kernel, by decide +kernel⟩, List.mem_of_getElem? (i := 1178) (by decide +kernel), List.mem_of_getElem? (i := 1383) (by decide +kernel), List.mem_of_getElem? (i := 1384) (by decide +kernel)⟩
def lw_privs_4 : List (MethodName × Nat) := [(⟨"StubKeepModel", "next", "()V"⟩, 37), (⟨"StubKeepModel", "see", "(I)I"⟩, 37), (⟨"StubKeepModel", "keyAt", "()I"⟩, 37), (⟨"StubKeepModel", "eats", "(I)Z"⟩, 37), (⟨"StubKeepModel", "is", "(I)Z"⟩, 37), (⟨"StubKeepModel", "fails", "(I)V"⟩, 37), (⟨"StubKeepModel", "takes", "(II)I"⟩, 37), (⟨"StubKeepModel", "ends", "()V"⟩, 37), (⟨"StubKeepModel", "readLine", "()V"⟩, 37), (⟨"StubKeepModel", "readDoing", "()V"⟩, 37), (⟨"StubKeepModel", "readFlag", "(I)Z"⟩, 37), (⟨"StubKeepModel", "readDoor", "()V"⟩, 37), (⟨"StubKeepModel", "readClash", "()V"⟩, 37), (⟨"StubKeepModel", "readLaw", "(I)V"⟩, 37), (⟨"StubKeepModel", "readTruth", "(I)V"⟩, 37), (⟨"StubKeepModel", "readBoth", "(I)V"⟩, 37)]
theorem lw_r4 : ∀ q ∈ lw_privs_4, lw_okq q := List.forall_mem_cons.mpr ⟨lw_p48, List.forall_mem_cons.mpr ⟨lw_p49, List.forall_mem_cons.mpr ⟨lw_p50, List.forall_mem_cons.mpr ⟨lw_p51, List.forall_mem_cons.mpr ⟨lw_p52, List.forall_mem_cons.mpr ⟨lw_p53, List.forall_mem_cons.mpr ⟨lw_p54, List.forall_mem_cons.mpr ⟨lw_p55, List.forall_mem_cons.mpr ⟨lw_p56, List.forall_mem_cons.mpr ⟨lw_p57, List.forall_mem_cons.mpr ⟨lw_p58, List.forall_mem_cons.mpr ⟨lw_p59, List.forall_mem_cons.mpr ⟨lw_p60, List.forall_mem_cons.mpr ⟨lw_p61, List.forall_mem_cons.mpr ⟨lw_p62, List.forall_mem_cons.mpr ⟨lw_p63, fun _ h => absurd h List.not_mem_nil⟩⟩⟩⟩⟩⟩⟩⟩⟩⟩⟩⟩⟩⟩⟩⟩
theorem lw_p64 : lw_okq (⟨"StubKeepModel", "readUnit", "(I)V"⟩, 37) := ⟨⟨by decide +kernel, by decide +kernel⟩, List.mem_of_getElem? (i := 1178) (by decide +kernel), List.mem_of_getElem? (i := 1387) (by decide +kernel), List.mem_of_getElem? (i := 1388) (by decide +kernel)⟩
theorem lw_p65 : lw_okq (⟨"StubKeepModel", "goesIn", "(I)Z"⟩, 37) := ⟨⟨by decide +kernel, by decide +kernel⟩, List.mem_of_getElem? (i := 1178) (by decide +kernel), List.mem_of_getElem? (i := 1391) (by decide +kernel), List.mem_of_getElem? (i := 1392) (by decide +kernel)⟩
theorem lw_p66 : lw_okq (⟨"StubKeepModel", "codes", "(I)V"⟩, 37) := ⟨⟨by decide +kernel, by decide +kernel⟩, List.mem_of_getElem? (i := 1178) (by decide +kernel), List.mem_of_getElem? (i := 1395) (by decide +kernel), List.mem_of_getElem? (i := 1396) (by decide +kernel)⟩
theorem lw_p67 : lw_okq (⟨"StubKeepModel", "readSum", "(I)V"⟩, 37) := ⟨⟨by decide +kernel, by decide +kernel⟩, List.mem_of_getElem? (i := 1178) (by decide +kernel), List.mem_of_getElem? (i := 1399) (by decide +kernel), List.mem_of_getElem? (i := 1400) (by decide +kernel)⟩
theorem lw_p68 : lw_okq (⟨"StubKeepModel", "readTerm", "(I)V"⟩, 37) := ⟨⟨by decide +kernel, by decide +kernel⟩, List.mem_of_getElem? (i := 1178) (by decide +kernel), List.mem_of_getElem? (i := 1403) (by decide +kernel), List.mem_of_getElem? (i := 1404) (by decide +kernel)⟩
theorem lw_p69 : lw_okq (⟨"StubKeepModel", "readAtom", "(I)V"⟩, 37) := ⟨⟨by decide +kernel, by decide +kernel⟩, List.mem_of_getElem? (i := 1178) (by decide +kernel), List.mem_of_getElem? (i := 1407) (by decide +kernel), List.mem_of_getElem? (i := 1408) (by decide +kernel)⟩
theorem lw_p70 : lw_okq (⟨"StubKeepModel", "wordOf", "(I)I"⟩, 37) := ⟨⟨by decide +kernel, by decide +kernel⟩, List.mem_of_getElem? (i := 1178) (by decide +kernel), List.mem_of_getElem? (i := 1411) (by decide +kernel), List.mem_of_getElem? (i := 1412) (by decide +kernel)⟩
theorem lw_p71 : lw_okq (⟨"StubKeepModel", "isDoing", "(J)Z"⟩, 37) := ⟨⟨by decide +kernel, by decide +kernel⟩, List.mem_of_getElem? (i := 1178) (by decide +kernel), List.mem_of_getElem? (i := 1423) (by decide +kernel), List.mem_of_getElem? (i := 1424) (by decide +kernel)⟩
theorem lw_p72 : lw_okq (⟨"StubKeepModel", "standNow", "()I"⟩, 37) := ⟨⟨by decide +kernel, by decide +kernel⟩, List.mem_of_getElem? (i := 1178) (by decide +kernel), List.mem_of_getElem? (i := 1435) (by decide +kernel), List.mem_of_getElem? (i := 1436) (by decide +kernel)⟩
theorem lw_p73 : lw_okq (⟨"StubKeepModel", "backOf", "(II)I"⟩, 37) := ⟨⟨by decide +kernel, by decide +kernel⟩, List.mem_of_getElem? (i := 1178) (by decide +kernel), List.mem_of_getElem? (i := 1445) (by decide +kernel), List.mem_of_getElem? (i := 1446) (by decide +kernel)⟩
theorem lw_p74 : lw_okq (⟨"StubKeepModel", "hasNeeds", "(II)Z"⟩, 37) := ⟨⟨by decide +kernel, by decide +kernel⟩, List.mem_of_getElem? (i := 1178) (by decide +kernel), List.mem_of_getElem? (i := 1453) (by decide +kernel), List.mem_of_getElem? (i := 1454) (by decide +kernel)⟩
theorem lw_p75 : lw_okq (⟨"StubKeepModel", "doneIn", "(I)I"⟩, 37) := ⟨⟨by decide +kernel, by decide +kernel⟩, List.mem_of_getElem? (i := 1178) (by decide +kernel), List.mem_of_getElem? (i := 1457) (by decide +kernel), List.mem_of_getElem? (i := 1458) (by decide +kernel)⟩
theorem lw_p76 : lw_okq (⟨"StubKeepModel", "thoseIn", "(II)I"⟩, 37) := ⟨⟨by decide +kernel, by decide +kernel⟩, List.mem_of_getElem? (i := 1178) (by decide +kernel), List.mem_of_getElem? (i := 1461) (by decide +kernel), List.mem_of_getElem? (i := 1462) (by decide +kernel)⟩
theorem lw_p77 : lw_okq (⟨"StubKeepModel", "whyDo", "(J)I"⟩, 37) := ⟨⟨by decide +kernel, by decide +kernel⟩, List.mem_of_getElem? (i := 1178) (by decide +kernel), List.mem_of_getElem? (i := 1469) (by decide +kernel), List.mem_of_getElem? (i := 1470) (by decide +kernel)⟩
theorem lw_p78 : lw_okq (⟨"StubKeepModel", "keeps", "()V"⟩, 37) := ⟨⟨by decide +kernel, by decide +kernel⟩, List.mem_of_getElem? (i := 1178) (by decide +kernel), List.mem_of_getElem? (i := 1473) (by decide +kernel), List.mem_of_getElem? (i := 1474) (by decide +kernel)⟩
theorem lw_p79 : lw_okq (⟨"StubKeepModel", "doneTo", "(II)I"⟩, 37) := ⟨⟨by decide +kernel, by decide +kernel⟩, List.mem_of_getElem? (i := 1178) (by decide +kernel), List.mem_of_getElem? (i := 1477) (by decide +kernel), List.mem_of_getElem? (i := 1478) (by decide +kernel)⟩
def lw_privs_5 : List (MethodName × Nat) := [(⟨"StubKeepModel", "readUnit", "(I)V"⟩, 37), (⟨"StubKeepModel", "goesIn", "(I)Z"⟩, 37), (⟨"StubKeepModel", "codes", "(I)V"⟩, 37), (⟨"StubKeepModel", "readSum", "(I)V"⟩, 37), (⟨"StubKeepModel", "readTerm", "(I)V"⟩, 37), (⟨"StubKeepModel", "readAtom", "(I)V"⟩, 37), (⟨"StubKeepModel", "wordOf", "(I)I"⟩, 37), (⟨"StubKeepModel", "isDoing", "(J)Z"⟩, 37), (⟨"StubKeepModel", "standNow", "()I"⟩, 37), (⟨"StubKeepModel", "backOf", "(II)I"⟩, 37), (⟨"StubKeepModel", "hasNeeds", "(II)Z"⟩, 37), (⟨"StubKeepModel", "doneIn", "(I)I"⟩, 37), (⟨"StubKeepModel", "thoseIn", "(II)I"⟩, 37), (⟨"StubKeepModel", "whyDo", "(J)I"⟩, 37), (⟨"StubKeepModel", "keeps", "()V"⟩, 37), (⟨"StubKeepModel", "doneTo", "(II)I"⟩, 37)]
theorem lw_r5 : ∀ q ∈ lw_privs_5, lw_okq q := List.forall_mem_cons.mpr ⟨lw_p64, List.forall_mem_cons.mpr ⟨lw_p65, List.forall_mem_cons.mpr ⟨lw_p66, List.forall_mem_cons.mpr ⟨lw_p67, List.forall_mem_cons.mpr ⟨lw_p68, List.forall_mem_cons.mpr ⟨lw_p69, List.forall_mem_cons.mpr ⟨lw_p70, List.forall_mem_cons.mpr ⟨lw_p71, List.forall_mem_cons.mpr ⟨lw_p72, List.forall_mem_cons.mpr ⟨lw_p73, List.forall_mem_cons.mpr ⟨lw_p74, List.forall_mem_cons.mpr ⟨lw_p75, List.forall_mem_cons.mpr ⟨lw_p76, List.forall_mem_cons.mpr ⟨lw_p77, List.forall_mem_cons.mpr ⟨lw_p78, List.forall_mem_cons.mpr ⟨lw_p79, fun _ h => absurd h List.not_mem_nil⟩⟩⟩⟩⟩⟩⟩⟩⟩⟩⟩⟩⟩⟩⟩⟩
theorem lw_p80 : lw_okq (⟨"StubKeepModel", "leftIn", "(I)I"⟩, 37) := ⟨⟨by decide +kernel, by decide +kernel⟩, List.mem_of_getElem? (i := 1178) (by decide +kernel), List.mem_of_getElem? (i := 1484) (by decide +kernel), List.mem_of_getElem? (i := 1485) (by decide +kernel)⟩
theorem lw_p81 : lw_okq (⟨"StubKeepModel", "stubsIn", "(I)I"⟩, 37) := ⟨⟨by decide +kernel, by decide +kernel⟩, List.mem_of_getElem? (i := 1178) (by decide +kernel), List.mem_of_getElem? (i := 1488) (by decide +kernel), List.mem_of_getElem? (i := 1489) (by decide +kernel)⟩
theorem lw_p82 : lw_okq (⟨"StubKeepModel", "sizesOf", "(I)I"⟩, 37) := ⟨⟨by decide +kernel, by decide +kernel⟩, List.mem_of_getElem? (i := 1178) (by decide +kernel), List.mem_of_getElem? (i := 1492) (by decide +kernel), List.mem_of_getElem? (i := 1493) (by decide +kernel)⟩
theorem lw_p83 : lw_okq (⟨"StubKeepModel", "reckons", "(IIII)Z"⟩, 37) := ⟨⟨by decide +kernel, by decide +kernel⟩, List.mem_of_getElem? (i := 1178) (by decide +kernel), List.mem_of_getElem? (i := 1499) (by decide +kernel), List.mem_of_getElem? (i := 1500) (by decide +kernel)⟩
theorem lw_p84 : lw_okq (⟨"StubKeepModel", "isStand", "(I)V"⟩, 37) := ⟨⟨by decide +kernel, by decide +kernel⟩, List.mem_of_getElem? (i := 1178) (by decide +kernel), List.mem_of_getElem? (i := 1511) (by decide +kernel), List.mem_of_getElem? (i := 1512) (by decide +kernel)⟩
theorem lw_p85 : lw_okq (⟨"StubKeepModel", "notes", "()V"⟩, 37) := ⟨⟨by decide +kernel, by decide +kernel⟩, List.mem_of_getElem? (i := 1178) (by decide +kernel), List.mem_of_getElem? (i := 1515) (by decide +kernel), List.mem_of_getElem? (i := 1516) (by decide +kernel)⟩
theorem lw_p86 : lw_okq (⟨"StubKeepModel", "whyDrop", "(J)I"⟩, 37) := ⟨⟨by decide +kernel, by decide +kernel⟩, List.mem_of_getElem? (i := 1178) (by decide +kernel), List.mem_of_getElem? (i := 1523) (by decide +kernel), List.mem_of_getElem? (i := 1524) (by decide +kernel)⟩
theorem lw_p87 : lw_okq (⟨"StubKeepModel", "whyForge", "(J)I"⟩, 37) := ⟨⟨by decide +kernel, by decide +kernel⟩, List.mem_of_getElem? (i := 1178) (by decide +kernel), List.mem_of_getElem? (i := 1534) (by decide +kernel), List.mem_of_getElem? (i := 1535) (by decide +kernel)⟩
theorem lw_p88 : lw_okq (⟨"StubKeepModel", "askedOf", "(II)I"⟩, 37) := ⟨⟨by decide +kernel, by decide +kernel⟩, List.mem_of_getElem? (i := 1178) (by decide +kernel), List.mem_of_getElem? (i := 1542) (by decide +kernel), List.mem_of_getElem? (i := 1543) (by decide +kernel)⟩
theorem lw_p89 : lw_okq (⟨"StubKeepModel", "passesBy", "(III)Z"⟩, 37) := ⟨⟨by decide +kernel, by decide +kernel⟩, List.mem_of_getElem? (i := 1178) (by decide +kernel), List.mem_of_getElem? (i := 1546) (by decide +kernel), List.mem_of_getElem? (i := 1547) (by decide +kernel)⟩
theorem lw_p90 : lw_okq (⟨"StubKeepModel", "noTray", "(I)I"⟩, 37) := ⟨⟨by decide +kernel, by decide +kernel⟩, List.mem_of_getElem? (i := 1178) (by decide +kernel), List.mem_of_getElem? (i := 1568) (by decide +kernel), List.mem_of_getElem? (i := 1569) (by decide +kernel)⟩
theorem lw_p91 : lw_okq (⟨"StubKeepModel", "tells", "(I)I"⟩, 37) := ⟨⟨by decide +kernel, by decide +kernel⟩, List.mem_of_getElem? (i := 1178) (by decide +kernel), List.mem_of_getElem? (i := 1572) (by decide +kernel), List.mem_of_getElem? (i := 1573) (by decide +kernel)⟩
theorem lw_p92 : lw_okq (⟨"StubKeepModel", "whyNot", "(J)I"⟩, 37) := ⟨⟨by decide +kernel, by decide +kernel⟩, List.mem_of_getElem? (i := 1178) (by decide +kernel), List.mem_of_getElem? (i := 1576) (by decide +kernel), List.mem_of_getElem? (i := 1577) (by decide +kernel)⟩
theorem lw_p93 : lw_okq (⟨"StubKeepModel", "acts", "(I)V"⟩, 37) := ⟨⟨by decide +kernel, by decide +kernel⟩, List.mem_of_getElem? (i := 1178) (by decide +kernel), List.mem_of_getElem? (i := 1587) (by decide +kernel), List.mem_of_getElem? (i := 1588) (by decide +kernel)⟩
theorem lw_p94 : lw_okq (⟨"StubKeepModel", "isAgain", "()V"⟩, 37) := ⟨⟨by decide +kernel, by decide +kernel⟩, List.mem_of_getElem? (i := 1178) (by decide +kernel), List.mem_of_getElem? (i := 1591) (by decide +kernel), List.mem_of_getElem? (i := 1592) (by decide +kernel)⟩
theorem lw_p95 : lw_okq (⟨"StubKeepModel", "drawn", "()I"⟩, 37) := ⟨⟨by decide +kernel, by decide +kernel⟩, List.mem_of_getElem? (i := 1178) (by decide +kernel), List.mem_of_getElem? (i := 1603) (by decide +kernel), List.mem_of_getElem? (i := 1604) (by decide +kernel)⟩
def lw_privs_6 : List (MethodName × Nat) := [(⟨"StubKeepModel", "leftIn", "(I)I"⟩, 37), (⟨"StubKeepModel", "stubsIn", "(I)I"⟩, 37), (⟨"StubKeepModel", "sizesOf", "(I)I"⟩, 37), (⟨"StubKeepModel", "reckons", "(IIII)Z"⟩, 37), (⟨"StubKeepModel", "isStand", "(I)V"⟩, 37), (⟨"StubKeepModel", "notes", "()V"⟩, 37), (⟨"StubKeepModel", "whyDrop", "(J)I"⟩, 37), (⟨"StubKeepModel", "whyForge", "(J)I"⟩, 37), (⟨"StubKeepModel", "askedOf", "(II)I"⟩, 37), (⟨"StubKeepModel", "passesBy", "(III)Z"⟩, 37), (⟨"StubKeepModel", "noTray", "(I)I"⟩, 37), (⟨"StubKeepModel", "tells", "(I)I"⟩, 37), (⟨"StubKeepModel", "whyNot", "(J)I"⟩, 37), (⟨"StubKeepModel", "acts", "(I)V"⟩, 37), (⟨"StubKeepModel", "isAgain", "()V"⟩, 37), (⟨"StubKeepModel", "drawn", "()I"⟩, 37)]
theorem lw_r6 : ∀ q ∈ lw_privs_6, lw_okq q := List.forall_mem_cons.mpr ⟨lw_p80, List.forall_mem_cons.mpr ⟨lw_p81, List.forall_mem_cons.mpr ⟨lw_p82, List.forall_mem_cons.mpr ⟨lw_p83, List.forall_mem_cons.mpr ⟨lw_p84, List.forall_mem_cons.mpr ⟨lw_p85, List.forall_mem_cons.mpr ⟨lw_p86, List.forall_mem_cons.mpr ⟨lw_p87, List.forall_mem_cons.mpr ⟨lw_p88, List.forall_mem_cons.mpr ⟨lw_p89, List.forall_mem_cons.mpr ⟨lw_p90, List.forall_mem_cons.mpr ⟨lw_p91, List.forall_mem_cons.mpr ⟨lw_p92, List.forall_mem_cons.mpr ⟨lw_p93, List.forall_mem_cons.mpr ⟨lw_p94, List.forall_mem_cons.mpr ⟨lw_p95, fun _ h => absurd h List.not_mem_nil⟩⟩⟩⟩⟩⟩⟩⟩⟩⟩⟩⟩⟩⟩⟩⟩
theorem lw_p96 : lw_okq (⟨"StubKeepModel", "draw", "(I)I"⟩, 37) := ⟨⟨by decide +kernel, by decide +kernel⟩, List.mem_of_getElem? (i := 1178) (by decide +kernel), List.mem_of_getElem? (i := 1607) (by decide +kernel), List.mem_of_getElem? (i := 1608) (by decide +kernel)⟩
theorem lw_p97 : lw_okq (⟨"StubKeepModel", "comes", "(IZ)I"⟩, 37) := ⟨⟨by decide +kernel, by decide +kernel⟩, List.mem_of_getElem? (i := 1178) (by decide +kernel), List.mem_of_getElem? (i := 1616) (by decide +kernel), List.mem_of_getElem? (i := 1617) (by decide +kernel)⟩
theorem lw_p98 : lw_okq (⟨"StubKeepModel", "isSet", "(I)Z"⟩, 37) := ⟨⟨by decide +kernel, by decide +kernel⟩, List.mem_of_getElem? (i := 1178) (by decide +kernel), List.mem_of_getElem? (i := 1620) (by decide +kernel), List.mem_of_getElem? (i := 1621) (by decide +kernel)⟩
theorem lw_p99 : lw_okq (⟨"StubKeepModel", "laysFar", "(IZ)I"⟩, 37) := ⟨⟨by decide +kernel, by decide +kernel⟩, List.mem_of_getElem? (i := 1178) (by decide +kernel), List.mem_of_getElem? (i := 1624) (by decide +kernel), List.mem_of_getElem? (i := 1625) (by decide +kernel)⟩
theorem lw_p100 : lw_okq (⟨"StubKeepModel", "laysStands", "()V"⟩, 37) := ⟨⟨by decide +kernel, by decide +kernel⟩, List.mem_of_getElem? (i := 1178) (by decide +kernel), List.mem_of_getElem? (i := 1628) (by decide +kernel), List.mem_of_getElem? (i := 1629) (by decide +kernel)⟩
theorem lw_p101 : lw_okq (⟨"StubKeepModel", "adds", "(I)V"⟩, 37) := ⟨⟨by decide +kernel, by decide +kernel⟩, List.mem_of_getElem? (i := 1178) (by decide +kernel), List.mem_of_getElem? (i := 1632) (by decide +kernel), List.mem_of_getElem? (i := 1633) (by decide +kernel)⟩
theorem lw_p102 : lw_okq (⟨"StubKeepModel", "movedTo", "(II)I"⟩, 37) := ⟨⟨by decide +kernel, by decide +kernel⟩, List.mem_of_getElem? (i := 1178) (by decide +kernel), List.mem_of_getElem? (i := 1636) (by decide +kernel), List.mem_of_getElem? (i := 1637) (by decide +kernel)⟩
theorem lw_p103 : lw_okq (⟨"StubKeepModel", "hasAll", "(IIZ)Z"⟩, 37) := ⟨⟨by decide +kernel, by decide +kernel⟩, List.mem_of_getElem? (i := 1178) (by decide +kernel), List.mem_of_getElem? (i := 1640) (by decide +kernel), List.mem_of_getElem? (i := 1641) (by decide +kernel)⟩
theorem lw_p104 : lw_okq (⟨"StubKeepModel", "farBy", "(II)I"⟩, 37) := ⟨⟨by decide +kernel, by decide +kernel⟩, List.mem_of_getElem? (i := 1178) (by decide +kernel), List.mem_of_getElem? (i := 1645) (by decide +kernel), List.mem_of_getElem? (i := 1646) (by decide +kernel)⟩
theorem lw_p105 : lw_okq (⟨"StubKeepModel", "comesBy", "(IIZ)I"⟩, 37) := ⟨⟨by decide +kernel, by decide +kernel⟩, List.mem_of_getElem? (i := 1178) (by decide +kernel), List.mem_of_getElem? (i := 1656) (by decide +kernel), List.mem_of_getElem? (i := 1657) (by decide +kernel)⟩
theorem lw_p106 : lw_okq (⟨"StubKeepModel", "moveAt", "(I)I"⟩, 37) := ⟨⟨by decide +kernel, by decide +kernel⟩, List.mem_of_getElem? (i := 1178) (by decide +kernel), List.mem_of_getElem? (i := 1660) (by decide +kernel), List.mem_of_getElem? (i := 1661) (by decide +kernel)⟩
theorem lw_p107 : lw_okq (⟨"StubKeepModel", "gainOf", "(I)I"⟩, 37) := ⟨⟨by decide +kernel, by decide +kernel⟩, List.mem_of_getElem? (i := 1178) (by decide +kernel), List.mem_of_getElem? (i := 1693) (by decide +kernel), List.mem_of_getElem? (i := 1694) (by decide +kernel)⟩
theorem lw_p108 : lw_okq (⟨"StubKeepModel", "noOrders", "(I)I"⟩, 37) := ⟨⟨by decide +kernel, by decide +kernel⟩, List.mem_of_getElem? (i := 1178) (by decide +kernel), List.mem_of_getElem? (i := 1705) (by decide +kernel), List.mem_of_getElem? (i := 1706) (by decide +kernel)⟩
theorem lw_p109 : lw_okq (⟨"StubKeepModel", "isDoneOne", "(J)Z"⟩, 37) := ⟨⟨by decide +kernel, by decide +kernel⟩, List.mem_of_getElem? (i := 1178) (by decide +kernel), List.mem_of_getElem? (i := 1710) (by decide +kernel), List.mem_of_getElem? (i := 1711) (by decide +kernel)⟩
theorem lw_p110 : lw_okq (⟨"StubKeepModel", "laysOrders", "(III)I"⟩, 37) := ⟨⟨by decide +kernel, by decide +kernel⟩, List.mem_of_getElem? (i := 1178) (by decide +kernel), List.mem_of_getElem? (i := 1714) (by decide +kernel), List.mem_of_getElem? (i := 1715) (by decide +kernel)⟩
theorem lw_p111 : lw_okq (⟨"StubKeepModel", "isWhat", "(I)Z"⟩, 37) := ⟨⟨by decide +kernel, by decide +kernel⟩, List.mem_of_getElem? (i := 1178) (by decide +kernel), List.mem_of_getElem? (i := 1730) (by decide +kernel), List.mem_of_getElem? (i := 1731) (by decide +kernel)⟩
def lw_privs_7 : List (MethodName × Nat) := [(⟨"StubKeepModel", "draw", "(I)I"⟩, 37), (⟨"StubKeepModel", "comes", "(IZ)I"⟩, 37), (⟨"StubKeepModel", "isSet", "(I)Z"⟩, 37), (⟨"StubKeepModel", "laysFar", "(IZ)I"⟩, 37), (⟨"StubKeepModel", "laysStands", "()V"⟩, 37), (⟨"StubKeepModel", "adds", "(I)V"⟩, 37), (⟨"StubKeepModel", "movedTo", "(II)I"⟩, 37), (⟨"StubKeepModel", "hasAll", "(IIZ)Z"⟩, 37), (⟨"StubKeepModel", "farBy", "(II)I"⟩, 37), (⟨"StubKeepModel", "comesBy", "(IIZ)I"⟩, 37), (⟨"StubKeepModel", "moveAt", "(I)I"⟩, 37), (⟨"StubKeepModel", "gainOf", "(I)I"⟩, 37), (⟨"StubKeepModel", "noOrders", "(I)I"⟩, 37), (⟨"StubKeepModel", "isDoneOne", "(J)Z"⟩, 37), (⟨"StubKeepModel", "laysOrders", "(III)I"⟩, 37), (⟨"StubKeepModel", "isWhat", "(I)Z"⟩, 37)]
theorem lw_r7 : ∀ q ∈ lw_privs_7, lw_okq q := List.forall_mem_cons.mpr ⟨lw_p96, List.forall_mem_cons.mpr ⟨lw_p97, List.forall_mem_cons.mpr ⟨lw_p98, List.forall_mem_cons.mpr ⟨lw_p99, List.forall_mem_cons.mpr ⟨lw_p100, List.forall_mem_cons.mpr ⟨lw_p101, List.forall_mem_cons.mpr ⟨lw_p102, List.forall_mem_cons.mpr ⟨lw_p103, List.forall_mem_cons.mpr ⟨lw_p104, List.forall_mem_cons.mpr ⟨lw_p105, List.forall_mem_cons.mpr ⟨lw_p106, List.forall_mem_cons.mpr ⟨lw_p107, List.forall_mem_cons.mpr ⟨lw_p108, List.forall_mem_cons.mpr ⟨lw_p109, List.forall_mem_cons.mpr ⟨lw_p110, List.forall_mem_cons.mpr ⟨lw_p111, fun _ h => absurd h List.not_mem_nil⟩⟩⟩⟩⟩⟩⟩⟩⟩⟩⟩⟩⟩⟩⟩⟩
theorem lw_p112 : lw_okq (⟨"StubKeepModel", "laysJoined", "()V"⟩, 37) := ⟨⟨by decide +kernel, by decide +kernel⟩, List.mem_of_getElem? (i := 1178) (by decide +kernel), List.mem_of_getElem? (i := 1734) (by decide +kernel), List.mem_of_getElem? (i := 1735) (by decide +kernel)⟩
theorem lw_p113 : lw_okq (⟨"StubKeepModel", "noSlips", "(I)I"⟩, 37) := ⟨⟨by decide +kernel, by decide +kernel⟩, List.mem_of_getElem? (i := 1178) (by decide +kernel), List.mem_of_getElem? (i := 1746) (by decide +kernel), List.mem_of_getElem? (i := 1747) (by decide +kernel)⟩
theorem lw_p114 : lw_okq (⟨"StubKeepModel", "slipsOf", "(I)I"⟩, 37) := ⟨⟨by decide +kernel, by decide +kernel⟩, List.mem_of_getElem? (i := 1178) (by decide +kernel), List.mem_of_getElem? (i := 1752) (by decide +kernel), List.mem_of_getElem? (i := 1753) (by decide +kernel)⟩
theorem lw_p115 : lw_okq (⟨"StubKeepModel", "lays", "(II)Z"⟩, 37) := ⟨⟨by decide +kernel, by decide +kernel⟩, List.mem_of_getElem? (i := 1178) (by decide +kernel), List.mem_of_getElem? (i := 1764) (by decide +kernel), List.mem_of_getElem? (i := 1765) (by decide +kernel)⟩
theorem lw_p116 : lw_okq (⟨"StubKeepModel", "canLie", "(II)Z"⟩, 37) := ⟨⟨by decide +kernel, by decide +kernel⟩, List.mem_of_getElem? (i := 1178) (by decide +kernel), List.mem_of_getElem? (i := 1768) (by decide +kernel), List.mem_of_getElem? (i := 1769) (by decide +kernel)⟩
theorem lw_p117 : lw_okq (⟨"StubKeepModel", "allClash", "(I)Z"⟩, 37) := ⟨⟨by decide +kernel, by decide +kernel⟩, List.mem_of_getElem? (i := 1178) (by decide +kernel), List.mem_of_getElem? (i := 1776) (by decide +kernel), List.mem_of_getElem? (i := 1777) (by decide +kernel)⟩
theorem lw_p118 : lw_okq (⟨"StubKeepModel", "forcedIn", "(I)I"⟩, 37) := ⟨⟨by decide +kernel, by decide +kernel⟩, List.mem_of_getElem? (i := 1178) (by decide +kernel), List.mem_of_getElem? (i := 1784) (by decide +kernel), List.mem_of_getElem? (i := 1785) (by decide +kernel)⟩
theorem lw_p119 : lw_okq (⟨"StubKeepModel", "forcesFrom", "(III)Z"⟩, 37) := ⟨⟨by decide +kernel, by decide +kernel⟩, List.mem_of_getElem? (i := 1178) (by decide +kernel), List.mem_of_getElem? (i := 1788) (by decide +kernel), List.mem_of_getElem? (i := 1789) (by decide +kernel)⟩
theorem lw_p120 : lw_okq (⟨"StubKeepModel", "forcesBy", "(IIII)Z"⟩, 37) := ⟨⟨by decide +kernel, by decide +kernel⟩, List.mem_of_getElem? (i := 1178) (by decide +kernel), List.mem_of_getElem? (i := 1792) (by decide +kernel), List.mem_of_getElem? (i := 1793) (by decide +kernel)⟩
theorem lw_p121 : lw_okq (⟨"StubKeepModel", "officerCant", "(III)Z"⟩, 37) := ⟨⟨by decide +kernel, by decide +kernel⟩, List.mem_of_getElem? (i := 1178) (by decide +kernel), List.mem_of_getElem? (i := 1796) (by decide +kernel), List.mem_of_getElem? (i := 1797) (by decide +kernel)⟩
theorem lw_p122 : lw_okq (⟨"StubKeepModel", "staysDone", "(II)J"⟩, 37) := ⟨⟨by decide +kernel, by decide +kernel⟩, List.mem_of_getElem? (i := 1178) (by decide +kernel), List.mem_of_getElem? (i := 1809) (by decide +kernel), List.mem_of_getElem? (i := 1810) (by decide +kernel)⟩
theorem lw_p123 : lw_okq (⟨"StubKeepModel", "needsOf", "(I)I"⟩, 37) := ⟨⟨by decide +kernel, by decide +kernel⟩, List.mem_of_getElem? (i := 1178) (by decide +kernel), List.mem_of_getElem? (i := 1813) (by decide +kernel), List.mem_of_getElem? (i := 1814) (by decide +kernel)⟩
theorem lw_p124 : lw_okq (⟨"StubKeepModel", "meanOf", "(I)J"⟩, 37) := ⟨⟨by decide +kernel, by decide +kernel⟩, List.mem_of_getElem? (i := 1178) (by decide +kernel), List.mem_of_getElem? (i := 1830) (by decide +kernel), List.mem_of_getElem? (i := 1831) (by decide +kernel)⟩
def lw_privs_8 : List (MethodName × Nat) := [(⟨"StubKeepModel", "laysJoined", "()V"⟩, 37), (⟨"StubKeepModel", "noSlips", "(I)I"⟩, 37), (⟨"StubKeepModel", "slipsOf", "(I)I"⟩, 37), (⟨"StubKeepModel", "lays", "(II)Z"⟩, 37), (⟨"StubKeepModel", "canLie", "(II)Z"⟩, 37), (⟨"StubKeepModel", "allClash", "(I)Z"⟩, 37), (⟨"StubKeepModel", "forcedIn", "(I)I"⟩, 37), (⟨"StubKeepModel", "forcesFrom", "(III)Z"⟩, 37), (⟨"StubKeepModel", "forcesBy", "(IIII)Z"⟩, 37), (⟨"StubKeepModel", "officerCant", "(III)Z"⟩, 37), (⟨"StubKeepModel", "staysDone", "(II)J"⟩, 37), (⟨"StubKeepModel", "needsOf", "(I)I"⟩, 37), (⟨"StubKeepModel", "meanOf", "(I)J"⟩, 37)]
theorem lw_r8 : ∀ q ∈ lw_privs_8, lw_okq q := List.forall_mem_cons.mpr ⟨lw_p112, List.forall_mem_cons.mpr ⟨lw_p113, List.forall_mem_cons.mpr ⟨lw_p114, List.forall_mem_cons.mpr ⟨lw_p115, List.forall_mem_cons.mpr ⟨lw_p116, List.forall_mem_cons.mpr ⟨lw_p117, List.forall_mem_cons.mpr ⟨lw_p118, List.forall_mem_cons.mpr ⟨lw_p119, List.forall_mem_cons.mpr ⟨lw_p120, List.forall_mem_cons.mpr ⟨lw_p121, List.forall_mem_cons.mpr ⟨lw_p122, List.forall_mem_cons.mpr ⟨lw_p123, List.forall_mem_cons.mpr ⟨lw_p124, fun _ h => absurd h List.not_mem_nil⟩⟩⟩⟩⟩⟩⟩⟩⟩⟩⟩⟩⟩
def lw_privs : List (MethodName × Nat) := lw_privs_1 ++ (lw_privs_2 ++ (lw_privs_3 ++ (lw_privs_4 ++ (lw_privs_5 ++ (lw_privs_6 ++ (lw_privs_7 ++ (lw_privs_8)))))))
def lw_tbl : List Cond := k2_sels lw_privs ++ tables_1
theorem lw_privs_ok : ∀ q ∈ lw_privs, lw_okq q := by
  show ∀ q ∈ lw_privs_1 ++ (lw_privs_2 ++ (lw_privs_3 ++ (lw_privs_4 ++ (lw_privs_5 ++ (lw_privs_6 ++ (lw_privs_7 ++ (lw_privs_8))))))), lw_okq q
  exact List.forall_mem_append.mpr ⟨lw_r1, List.forall_mem_append.mpr ⟨lw_r2, List.forall_mem_append.mpr ⟨lw_r3, List.forall_mem_append.mpr ⟨lw_r4, List.forall_mem_append.mpr ⟨lw_r5, List.forall_mem_append.mpr ⟨lw_r6, List.forall_mem_append.mpr ⟨lw_r7, lw_r8⟩⟩⟩⟩⟩⟩⟩
def RX0 : String := "StubKeep$Clashes"
def TX0 : u_T := fun k => match k with
  | _ => ("StubKeep$Clashes", "lining", "[I", true)
def tyX0 : Nat → FieldType := fun k => match k with
  | _ => .array .int
abbrev wsX00 : List Cond := u_ws RX0 TX0 1
theorem nmX0 : ∀ a, a < 1 → ∀ b, b < 1 → a ≠ b → (TX0 a).2.1 ≠ (TX0 b).2.1 := by decide +kernel
theorem tyX0_ok : ∀ k, k < 1 → parseFieldDescriptor (TX0 k).2.2.1 = some (tyX0 k) := by decide +kernel
abbrev cX0_init : ByteArray := prog_2_method_1_code
def yX0_init : MethodName := ⟨RX0, "<init>", "()V"⟩
abbrev cX0_part : ByteArray := prog_2_method_2_code
def yX0_part : MethodName := ⟨RX0, "part", "(LStubKeep$Life;I)I"⟩
abbrev cX0_liningOf : ByteArray := prog_2_method_3_code
def yX0_liningOf : MethodName := ⟨RX0, "liningOf", "(I)I"⟩
abbrev cX0_place : ByteArray := prog_2_method_4_code
def yX0_place : MethodName := ⟨RX0, "place", "([ILStubKeep$Life;IIII)Z"⟩
abbrev cX0_fits : ByteArray := prog_2_method_5_code
def yX0_fits : MethodName := ⟨RX0, "fits", "([ILStubKeep$Life;I)Z"⟩
abbrev cX0_greatest : ByteArray := prog_2_method_6_code
def yX0_greatest : MethodName := ⟨RX0, "greatest", "(LStubKeep$Life;I)I"⟩
abbrev cX0_allClash : ByteArray := prog_2_method_7_code
def yX0_allClash : MethodName := ⟨RX0, "allClash", "(LStubKeep$Life;I)Z"⟩
def RX1 : String := "StubKeep$Law"
def TX1 : u_T := fun k => match k with
  | 0 => ("StubKeep$Law", "steps", "[I", true)
  | 1 => ("StubKeep$Law", "pile", "[I", true)
  | _ => ("StubKeep$Law", "length", "I", false)
def tyX1 : Nat → FieldType := fun k => match k with
  | 0 => .array .int
  | 1 => .array .int
  | _ => .int
abbrev wsX10 : List Cond := u_ws RX1 TX1 3
theorem nmX1 : ∀ a, a < 3 → ∀ b, b < 3 → a ≠ b → (TX1 a).2.1 ≠ (TX1 b).2.1 := by decide +kernel
theorem tyX1_ok : ∀ k, k < 3 → parseFieldDescriptor (TX1 k).2.2.1 = some (tyX1 k) := by decide +kernel
abbrev cX1_init : ByteArray := prog_3_method_1_code
def yX1_init : MethodName := ⟨RX1, "<init>", "()V"⟩
abbrev cX1_clear : ByteArray := prog_3_method_2_code
def yX1_clear : MethodName := ⟨RX1, "clear", "()V"⟩
abbrev cX1_told : ByteArray := prog_3_method_3_code
def yX1_told : MethodName := ⟨RX1, "told", "()Z"⟩
abbrev cX1_step : ByteArray := prog_3_method_4_code
def yX1_step : MethodName := ⟨RX1, "step", "(I)V"⟩
abbrev cX1_copyFrom : ByteArray := prog_3_method_5_code
def yX1_copyFrom : MethodName := ⟨RX1, "copyFrom", "(LStubKeep$Law;)V"⟩
abbrev cX1_holds : ByteArray := prog_3_method_6_code
def yX1_holds : MethodName := ⟨RX1, "holds", "([I)Z"⟩
abbrev cX1_both : ByteArray := prog_3_method_7_code
def yX1_both : MethodName := ⟨RX1, "both", "(III)I"⟩
def RX2 : String := "StubKeep$Life"
def TX2 : u_T := fun k => match k with
  | 0 => ("StubKeep$Life", "room", "I", false)
  | 1 => ("StubKeep$Life", "doings", "I", false)
  | 2 => ("StubKeep$Life", "doors", "I", false)
  | 3 => ("StubKeep$Life", "slip", "I", false)
  | 4 => ("StubKeep$Life", "lines", "I", false)
  | 5 => ("StubKeep$Life", "size", "[I", true)
  | 6 => ("StubKeep$Life", "edge", "[I", true)
  | 7 => ("StubKeep$Life", "asked", "[I", true)
  | 8 => ("StubKeep$Life", "burns", "[I", true)
  | 9 => ("StubKeep$Life", "worth", "[I", true)
  | 10 => ("StubKeep$Life", "needs", "[I", true)
  | 11 => ("StubKeep$Life", "clash", "[I", true)
  | 12 => ("StubKeep$Life", "door", "[I", true)
  | 13 => ("StubKeep$Life", "keeps", "LStubKeep$Law;", true)
  | _ => ("StubKeep$Life", "passes", "LStubKeep$Law;", true)
def tyX2 : Nat → FieldType := fun k => match k with
  | 0 => .int
  | 1 => .int
  | 2 => .int
  | 3 => .int
  | 4 => .int
  | 5 => .array .int
  | 6 => .array .int
  | 7 => .array .int
  | 8 => .array .int
  | 9 => .array .int
  | 10 => .array .int
  | 11 => .array .int
  | 12 => .array .int
  | 13 => .object "StubKeep$Law"
  | _ => .object "StubKeep$Law"
abbrev wsX20 : List Cond := u_ws RX2 TX2 15
theorem nmX2 : ∀ a, a < 15 → ∀ b, b < 15 → a ≠ b → (TX2 a).2.1 ≠ (TX2 b).2.1 := by decide +kernel
theorem tyX2_ok : ∀ k, k < 15 → parseFieldDescriptor (TX2 k).2.2.1 = some (tyX2 k) := by decide +kernel
abbrev cX2_init : ByteArray := prog_4_method_1_code
def yX2_init : MethodName := ⟨RX2, "<init>", "()V"⟩
abbrev cX2_clear : ByteArray := prog_4_method_2_code
def yX2_clear : MethodName := ⟨RX2, "clear", "()V"⟩
abbrev cX2_copyFrom : ByteArray := prog_4_method_3_code
def yX2_copyFrom : MethodName := ⟨RX2, "copyFrom", "(LStubKeep$Life;)V"⟩
abbrev cX2_addDoing : ByteArray := prog_4_method_4_code
def yX2_addDoing : MethodName := ⟨RX2, "addDoing", "()V"⟩
abbrev cX2_addDoor : ByteArray := prog_4_method_5_code
def yX2_addDoor : MethodName := ⟨RX2, "addDoor", "(I)V"⟩
abbrev cX2_addClash : ByteArray := prog_4_method_6_code
def yX2_addClash : MethodName := ⟨RX2, "addClash", "(II)V"⟩
abbrev cX2_has : ByteArray := prog_4_method_7_code
def yX2_has : MethodName := ⟨RX2, "has", "(I)Z"⟩
abbrev cX2_hasAll : ByteArray := prog_4_method_8_code
def yX2_hasAll : MethodName := ⟨RX2, "hasAll", "(I)Z"⟩
abbrev cX2_roomLeft : ByteArray := prog_4_method_9_code
def yX2_roomLeft : MethodName := ⟨RX2, "roomLeft", "(I)I"⟩
abbrev cX2_needing : ByteArray := prog_4_method_10_code
def yX2_needing : MethodName := ⟨RX2, "needing", "(II)I"⟩
abbrev cX2_needed : ByteArray := prog_4_method_11_code
def yX2_needed : MethodName := ⟨RX2, "needed", "(I)I"⟩
abbrev cX2_gainOf : ByteArray := prog_4_method_12_code
def yX2_gainOf : MethodName := ⟨RX2, "gainOf", "(II)I"⟩
abbrev cX2_gainsOf : ByteArray := prog_4_method_13_code
def yX2_gainsOf : MethodName := ⟨RX2, "gainsOf", "(II)I"⟩
abbrev cX2_bestPacked : ByteArray := prog_4_method_14_code
def yX2_bestPacked : MethodName := ⟨RX2, "bestPacked", "(I)I"⟩
abbrev cX2_doorOf : ByteArray := prog_4_method_15_code
def yX2_doorOf : MethodName := ⟨RX2, "doorOf", "(II)I"⟩
abbrev cX2_doorsJoined : ByteArray := prog_4_method_16_code
def yX2_doorsJoined : MethodName := ⟨RX2, "doorsJoined", "(I)I"⟩
def RX3 : String := "StubKeep$Orders"
def TX3 : u_T := fun k => match k with
  | 0 => ("StubKeep$Orders", "before", "[I", true)
  | 1 => ("StubKeep$Orders", "ways", "[I", true)
  | _ => ("StubKeep$Orders", "done", "I", false)
def tyX3 : Nat → FieldType := fun k => match k with
  | 0 => .array .int
  | 1 => .array .int
  | _ => .int
abbrev wsX30 : List Cond := u_ws RX3 TX3 3
theorem nmX3 : ∀ a, a < 3 → ∀ b, b < 3 → a ≠ b → (TX3 a).2.1 ≠ (TX3 b).2.1 := by decide +kernel
theorem tyX3_ok : ∀ k, k < 3 → parseFieldDescriptor (TX3 k).2.2.1 = some (tyX3 k) := by decide +kernel
abbrev cX3_init : ByteArray := prog_5_method_1_code
def yX3_init : MethodName := ⟨RX3, "<init>", "()V"⟩
abbrev cX3_begin : ByteArray := prog_5_method_2_code
def yX3_begin : MethodName := ⟨RX3, "begin", "(LStubKeep$Life;I)V"⟩
abbrev cX3_tellNumber : ByteArray := prog_5_method_3_code
def yX3_tellNumber : MethodName := ⟨RX3, "tellNumber", "(J)Z"⟩
abbrev cX3_tell : ByteArray := prog_5_method_4_code
def yX3_tell : MethodName := ⟨RX3, "tell", "(II)V"⟩
abbrev cX3_total : ByteArray := prog_5_method_5_code
def yX3_total : MethodName := ⟨RX3, "total", "()I"⟩
abbrev cX3_firstAt : ByteArray := prog_5_method_6_code
def yX3_firstAt : MethodName := ⟨RX3, "firstAt", "(I)I"⟩
abbrev cX3_firstBehind : ByteArray := prog_5_method_7_code
def yX3_firstBehind : MethodName := ⟨RX3, "firstBehind", "(I)I"⟩
def RX4 : String := "StubKeep$Past"
def TX4 : u_T := fun k => match k with
  | 0 => ("StubKeep$Past", "moments", "[I", true)
  | 1 => ("StubKeep$Past", "now", "I", false)
  | _ => ("StubKeep$Past", "count", "I", false)
def tyX4 : Nat → FieldType := fun k => match k with
  | 0 => .array .int
  | 1 => .int
  | _ => .int
abbrev wsX40 : List Cond := u_ws RX4 TX4 3
theorem nmX4 : ∀ a, a < 3 → ∀ b, b < 3 → a ≠ b → (TX4 a).2.1 ≠ (TX4 b).2.1 := by decide +kernel
theorem tyX4_ok : ∀ k, k < 3 → parseFieldDescriptor (TX4 k).2.2.1 = some (tyX4 k) := by decide +kernel
abbrev cX4_init : ByteArray := prog_6_method_1_code
def yX4_init : MethodName := ⟨RX4, "<init>", "()V"⟩
abbrev cX4_begin : ByteArray := prog_6_method_2_code
def yX4_begin : MethodName := ⟨RX4, "begin", "(I)V"⟩
abbrev cX4_goOn : ByteArray := prog_6_method_3_code
def yX4_goOn : MethodName := ⟨RX4, "goOn", "(I)V"⟩
abbrev cX4_forgetEldest : ByteArray := prog_6_method_4_code
def yX4_forgetEldest : MethodName := ⟨RX4, "forgetEldest", "()V"⟩
abbrev cX4_goBack : ByteArray := prog_6_method_5_code
def yX4_goBack : MethodName := ⟨RX4, "goBack", "(I)V"⟩
def RX5 : String := "StubKeep$Reader"
def TX5 : u_T := fun k => match k with
  | 0 => ("StubKeep$Reader", "draft", "LStubKeep$Life;", true)
  | 1 => ("StubKeep$Reader", "fault", "I", false)
  | 2 => ("StubKeep$Reader", "place", "I", false)
  | 3 => ("StubKeep$Reader", "kinds", "[I", true)
  | 4 => ("StubKeep$Reader", "places", "[I", true)
  | 5 => ("StubKeep$Reader", "values", "[I", true)
  | 6 => ("StubKeep$Reader", "count", "I", false)
  | 7 => ("StubKeep$Reader", "at", "I", false)
  | _ => ("StubKeep$Reader", "slipMayStand", "Z", false)
def tyX5 : Nat → FieldType := fun k => match k with
  | 0 => .object "StubKeep$Life"
  | 1 => .int
  | 2 => .int
  | 3 => .array .int
  | 4 => .array .int
  | 5 => .array .int
  | 6 => .int
  | 7 => .int
  | _ => .boolean
abbrev wsX50 : List Cond := u_ws RX5 TX5 9
theorem nmX5 : ∀ a, a < 9 → ∀ b, b < 9 → a ≠ b → (TX5 a).2.1 ≠ (TX5 b).2.1 := by decide +kernel
theorem tyX5_ok : ∀ k, k < 9 → parseFieldDescriptor (TX5 k).2.2.1 = some (tyX5 k) := by decide +kernel
abbrev cX5_init : ByteArray := prog_7_method_1_code
def yX5_init : MethodName := ⟨RX5, "<init>", "()V"⟩
abbrev cX5_read : ByteArray := prog_7_method_2_code
def yX5_read : MethodName := ⟨RX5, "read", "([II)V"⟩
abbrev cX5_scan : ByteArray := prog_7_method_3_code
def yX5_scan : MethodName := ⟨RX5, "scan", "([II)V"⟩
abbrev cX5_add : ByteArray := prog_7_method_4_code
def yX5_add : MethodName := ⟨RX5, "add", "(III)V"⟩
abbrev cX5_runEnd : ByteArray := prog_7_method_5_code
def yX5_runEnd : MethodName := ⟨RX5, "runEnd", "([IIIII)I"⟩
abbrev cX5_numberAt : ByteArray := prog_7_method_6_code
def yX5_numberAt : MethodName := ⟨RX5, "numberAt", "([III)I"⟩
abbrev cX5_wordAt : ByteArray := prog_7_method_7_code
def yX5_wordAt : MethodName := ⟨RX5, "wordAt", "([III)I"⟩
abbrev cX5_kind : ByteArray := prog_7_method_8_code
def yX5_kind : MethodName := ⟨RX5, "kind", "()I"⟩
abbrev cX5_next : ByteArray := prog_7_method_9_code
def yX5_next : MethodName := ⟨RX5, "next", "()V"⟩
abbrev cX5_fail : ByteArray := prog_7_method_10_code
def yX5_fail : MethodName := ⟨RX5, "fail", "(I)V"⟩
abbrev cX5_expect : ByteArray := prog_7_method_11_code
def yX5_expect : MethodName := ⟨RX5, "expect", "(I)V"⟩
abbrev cX5_number : ByteArray := prog_7_method_12_code
def yX5_number : MethodName := ⟨RX5, "number", "(II)I"⟩
abbrev cX5_lifeLine : ByteArray := prog_7_method_13_code
def yX5_lifeLine : MethodName := ⟨RX5, "lifeLine", "()V"⟩
abbrev cX5_endLine : ByteArray := prog_7_method_14_code
def yX5_endLine : MethodName := ⟨RX5, "endLine", "()V"⟩
abbrev cX5_line : ByteArray := prog_7_method_15_code
def yX5_line : MethodName := ⟨RX5, "line", "()V"⟩
abbrev cX5_doingLine : ByteArray := prog_7_method_16_code
def yX5_doingLine : MethodName := ⟨RX5, "doingLine", "()V"⟩
abbrev cX5_flag : ByteArray := prog_7_method_17_code
def yX5_flag : MethodName := ⟨RX5, "flag", "(I)V"⟩
abbrev cX5_doorLine : ByteArray := prog_7_method_18_code
def yX5_doorLine : MethodName := ⟨RX5, "doorLine", "()V"⟩
abbrev cX5_clashPair : ByteArray := prog_7_method_19_code
def yX5_clashPair : MethodName := ⟨RX5, "clashPair", "()V"⟩
abbrev cX5_lawBegins : ByteArray := prog_7_method_20_code
def yX5_lawBegins : MethodName := ⟨RX5, "lawBegins", "(LStubKeep$Law;Z)V"⟩
abbrev cX5_truth : ByteArray := prog_7_method_21_code
def yX5_truth : MethodName := ⟨RX5, "truth", "(LStubKeep$Law;I)V"⟩
abbrev cX5_both : ByteArray := prog_7_method_22_code
def yX5_both : MethodName := ⟨RX5, "both", "(LStubKeep$Law;I)V"⟩
abbrev cX5_unit : ByteArray := prog_7_method_23_code
def yX5_unit : MethodName := ⟨RX5, "unit", "(LStubKeep$Law;I)V"⟩
abbrev cX5_negated : ByteArray := prog_7_method_24_code
def yX5_negated : MethodName := ⟨RX5, "negated", "(LStubKeep$Law;I)V"⟩
abbrev cX5_compared : ByteArray := prog_7_method_25_code
def yX5_compared : MethodName := ⟨RX5, "compared", "(LStubKeep$Law;I)V"⟩
abbrev cX5_sum : ByteArray := prog_7_method_26_code
def yX5_sum : MethodName := ⟨RX5, "sum", "(LStubKeep$Law;I)V"⟩
abbrev cX5_term : ByteArray := prog_7_method_27_code
def yX5_term : MethodName := ⟨RX5, "term", "(LStubKeep$Law;I)V"⟩
abbrev cX5_atom : ByteArray := prog_7_method_28_code
def yX5_atom : MethodName := ⟨RX5, "atom", "(LStubKeep$Law;I)V"⟩
abbrev cX5_bracketed : ByteArray := prog_7_method_29_code
def yX5_bracketed : MethodName := ⟨RX5, "bracketed", "(LStubKeep$Law;I)V"⟩
abbrev cX5_stepOf : ByteArray := prog_7_method_30_code
def yX5_stepOf : MethodName := ⟨RX5, "stepOf", "(I)I"⟩
def RX6 : String := "StubKeep$Tray"
def TX6 : u_T := fun k => match k with
  | 0 => ("StubKeep$Tray", "row", "[J", true)
  | 1 => ("StubKeep$Tray", "sort", "I", false)
  | 2 => ("StubKeep$Tray", "count", "I", false)
  | _ => ("StubKeep$Tray", "there", "Z", false)
def tyX6 : Nat → FieldType := fun k => match k with
  | 0 => .array .long
  | 1 => .int
  | 2 => .int
  | _ => .boolean
abbrev wsX60 : List Cond := u_ws RX6 TX6 4
theorem nmX6 : ∀ a, a < 4 → ∀ b, b < 4 → a ≠ b → (TX6 a).2.1 ≠ (TX6 b).2.1 := by decide +kernel
theorem tyX6_ok : ∀ k, k < 4 → parseFieldDescriptor (TX6 k).2.2.1 = some (tyX6 k) := by decide +kernel
abbrev cX6_init : ByteArray := prog_8_method_1_code
def yX6_init : MethodName := ⟨RX6, "<init>", "()V"⟩
abbrev cX6_begin : ByteArray := prog_8_method_2_code
def yX6_begin : MethodName := ⟨RX6, "begin", "(II)V"⟩
abbrev cX6_at : ByteArray := prog_8_method_3_code
def yX6_at : MethodName := ⟨RX6, "at", "(I)J"⟩
abbrev cX6_put : ByteArray := prog_8_method_4_code
def yX6_put : MethodName := ⟨RX6, "put", "(IJ)V"⟩
abbrev cX6_cut : ByteArray := prog_8_method_5_code
def yX6_cut : MethodName := ⟨RX6, "cut", "(J)J"⟩
def RX7 : String := "StubKeep$Turns"
def TX7 : u_T := fun k => match k with
  | _ => ("", "", "", false)
def tyX7 : Nat → FieldType := fun k => match k with
  | _ => .int
abbrev wsX70 : List Cond := u_ws RX7 TX7 0
theorem nmX7 : ∀ a, a < 0 → ∀ b, b < 0 → a ≠ b → (TX7 a).2.1 ≠ (TX7 b).2.1 := by decide +kernel
theorem tyX7_ok : ∀ k, k < 0 → parseFieldDescriptor (TX7 k).2.2.1 = some (tyX7 k) := by decide +kernel
abbrev cX7_fewest : ByteArray := prog_9_method_2_code
def yX7_fewest : MethodName := ⟨RX7, "fewest", "(LStubKeep$World;II)I"⟩
abbrev cX7_firstDeed : ByteArray := prog_9_method_3_code
def yX7_firstDeed : MethodName := ⟨RX7, "firstDeed", "(LStubKeep$World;III)I"⟩
abbrev cX7_deedOf : ByteArray := prog_9_method_4_code
def yX7_deedOf : MethodName := ⟨RX7, "deedOf", "(I)I"⟩
abbrev cX7_moved : ByteArray := prog_9_method_5_code
def yX7_moved : MethodName := ⟨RX7, "moved", "(LStubKeep$World;II)I"⟩
abbrev cX7_wins : ByteArray := prog_9_method_6_code
def yX7_wins : MethodName := ⟨RX7, "wins", "(LStubKeep$World;III)Z"⟩
abbrev cX7_withstands : ByteArray := prog_9_method_7_code
def yX7_withstands : MethodName := ⟨RX7, "withstands", "(LStubKeep$World;III)Z"⟩
def RX8 : String := "StubKeep$Walk"
def TX8 : u_T := fun k => match k with
  | 0 => ("StubKeep$Walk", "count", "I", false)
  | 1 => ("StubKeep$Walk", "from", "I", false)
  | 2 => ("StubKeep$Walk", "doings", "I", false)
  | 3 => ("StubKeep$Walk", "queue", "[I", false)
  | 4 => ("StubKeep$Walk", "came", "[I", false)
  | 5 => ("StubKeep$Walk", "ways", "[J", false)
  | _ => ("StubKeep$Walk", "more", "[J", false)
def tyX8 : Nat → FieldType := fun k => match k with
  | 0 => .int
  | 1 => .int
  | 2 => .int
  | 3 => .array .int
  | 4 => .array .int
  | 5 => .array .long
  | _ => .array .long
abbrev wsX80 : List Cond := u_ws RX8 TX8 7
theorem nmX8 : ∀ a, a < 7 → ∀ b, b < 7 → a ≠ b → (TX8 a).2.1 ≠ (TX8 b).2.1 := by decide +kernel
theorem tyX8_ok : ∀ k, k < 7 → parseFieldDescriptor (TX8 k).2.2.1 = some (tyX8 k) := by decide +kernel
abbrev cX8_init : ByteArray := prog_10_method_1_code
def yX8_init : MethodName := ⟨RX8, "<init>", "()V"⟩
abbrev cX8_forget : ByteArray := prog_10_method_2_code
def yX8_forget : MethodName := ⟨RX8, "forget", "()V"⟩
abbrev cX8_spot : ByteArray := prog_10_method_3_code
def yX8_spot : MethodName := ⟨RX8, "spot", "(I)I"⟩
abbrev cX8_fit : ByteArray := prog_10_method_4_code
def yX8_fit : MethodName := ⟨RX8, "fit", "(I)V"⟩
abbrev cX8_fitWays : ByteArray := prog_10_method_5_code
def yX8_fitWays : MethodName := ⟨RX8, "fitWays", "()V"⟩
abbrev cX8_spread : ByteArray := prog_10_method_6_code
def yX8_spread : MethodName := ⟨RX8, "spread", "(LStubKeep$World;I)V"⟩
abbrev cX8_reach : ByteArray := prog_10_method_7_code
def yX8_reach : MethodName := ⟨RX8, "reach", "(III)V"⟩
abbrev cX8_toDone : ByteArray := prog_10_method_8_code
def yX8_toDone : MethodName := ⟨RX8, "toDone", "(LStubKeep$World;II)I"⟩
abbrev cX8_toShown : ByteArray := prog_10_method_9_code
def yX8_toShown : MethodName := ⟨RX8, "toShown", "(LStubKeep$World;II)I"⟩
abbrev cX8_length : ByteArray := prog_10_method_10_code
def yX8_length : MethodName := ⟨RX8, "length", "(I)I"⟩
abbrev cX8_deedAt : ByteArray := prog_10_method_11_code
def yX8_deedAt : MethodName := ⟨RX8, "deedAt", "(II)I"⟩
abbrev cX8_deedTo : ByteArray := prog_10_method_12_code
def yX8_deedTo : MethodName := ⟨RX8, "deedTo", "(I)I"⟩
abbrev cX8_stateBefore : ByteArray := prog_10_method_13_code
def yX8_stateBefore : MethodName := ⟨RX8, "stateBefore", "(I)I"⟩
abbrev cX8_mostShown : ByteArray := prog_10_method_14_code
def yX8_mostShown : MethodName := ⟨RX8, "mostShown", "(LStubKeep$World;I)I"⟩
abbrev cX8_rowsTo : ByteArray := prog_10_method_15_code
def yX8_rowsTo : MethodName := ⟨RX8, "rowsTo", "(LStubKeep$World;III)J"⟩
abbrev cX8_goOneOn : ByteArray := prog_10_method_16_code
def yX8_goOneOn : MethodName := ⟨RX8, "goOneOn", "(LStubKeep$World;)V"⟩
abbrev cX8_addWays : ByteArray := prog_10_method_17_code
def yX8_addWays : MethodName := ⟨RX8, "addWays", "(IJ)V"⟩
def RX9 : String := "StubKeep$World"
def TX9 : u_T := fun k => match k with
  | 0 => ("StubKeep$World", "life", "LStubKeep$Life;", true)
  | 1 => ("StubKeep$World", "kept", "[B", true)
  | 2 => ("StubKeep$World", "passed", "[I", true)
  | _ => ("StubKeep$World", "given", "[I", true)
def tyX9 : Nat → FieldType := fun k => match k with
  | 0 => .object "StubKeep$Life"
  | 1 => .array .byte
  | 2 => .array .int
  | _ => .array .int
abbrev wsX90 : List Cond := u_ws RX9 TX9 4
theorem nmX9 : ∀ a, a < 4 → ∀ b, b < 4 → a ≠ b → (TX9 a).2.1 ≠ (TX9 b).2.1 := by decide +kernel
theorem tyX9_ok : ∀ k, k < 4 → parseFieldDescriptor (TX9 k).2.2.1 = some (tyX9 k) := by decide +kernel
abbrev cX9_init : ByteArray := prog_11_method_1_code
def yX9_init : MethodName := ⟨RX9, "<init>", "()V"⟩
abbrev cX9_take : ByteArray := prog_11_method_2_code
def yX9_take : MethodName := ⟨RX9, "take", "(LStubKeep$Life;)V"⟩
abbrev cX9_tryDeed : ByteArray := prog_11_method_3_code
def yX9_tryDeed : MethodName := ⟨RX9, "tryDeed", "(IJ)I"⟩
abbrev cX9_tryDo : ByteArray := prog_11_method_4_code
def yX9_tryDo : MethodName := ⟨RX9, "tryDo", "(II)I"⟩
abbrev cX9_tryDrop : ByteArray := prog_11_method_5_code
def yX9_tryDrop : MethodName := ⟨RX9, "tryDrop", "(II)I"⟩
abbrev cX9_tryForge : ByteArray := prog_11_method_6_code
def yX9_tryForge : MethodName := ⟨RX9, "tryForge", "(II)I"⟩
abbrev cX9_tryAsk : ByteArray := prog_11_method_7_code
def yX9_tryAsk : MethodName := ⟨RX9, "tryAsk", "(II)I"⟩
abbrev cX9_howMany : ByteArray := prog_11_method_8_code
def yX9_howMany : MethodName := ⟨RX9, "howMany", "(ILStubKeep$Tray;)I"⟩
abbrev cX9_after : ByteArray := prog_11_method_9_code
def yX9_after : MethodName := ⟨RX9, "after", "(ILStubKeep$Tray;I)I"⟩
abbrev cX9_keepsStub : ByteArray := prog_11_method_10_code
def yX9_keepsStub : MethodName := ⟨RX9, "keepsStub", "(II)Z"⟩
abbrev cX9_passesStub : ByteArray := prog_11_method_11_code
def yX9_passesStub : MethodName := ⟨RX9, "passesStub", "(III)Z"⟩
abbrev cX9_slipsPassing : ByteArray := prog_11_method_12_code
def yX9_slipsPassing : MethodName := ⟨RX9, "slipsPassing", "(II)I"⟩
abbrev cX9_give : ByteArray := prog_11_method_13_code
def yX9_give : MethodName := ⟨RX9, "give", "(III)V"⟩
abbrev cX9_stillDone : ByteArray := prog_11_method_14_code
def yX9_stillDone : MethodName := ⟨RX9, "stillDone", "(II)J"⟩
abbrev cX9_lostInHundred : ByteArray := prog_11_method_15_code
def yX9_lostInHundred : MethodName := ⟨RX9, "lostInHundred", "(II)I"⟩
abbrev cX9_sumDone : ByteArray := prog_11_method_16_code
def yX9_sumDone : MethodName := ⟨RX9, "sumDone", "(I)J"⟩
abbrev cX9_lowest : ByteArray := prog_11_method_17_code
def yX9_lowest : MethodName := ⟨RX9, "lowest", "(JI)J"⟩
def RX10 : String := "StubKeep"
def TX10 : u_T := fun k => match k with
  | 0 => ("StubKeep", "world", "LStubKeep$World;", true)
  | 1 => ("StubKeep", "reader", "LStubKeep$Reader;", true)
  | 2 => ("StubKeep", "walk", "LStubKeep$Walk;", true)
  | 3 => ("StubKeep", "told", "LStubKeep$Orders;", true)
  | 4 => ("StubKeep", "clashes", "LStubKeep$Clashes;", true)
  | 5 => ("StubKeep", "past", "LStubKeep$Past;", true)
  | 6 => ("StubKeep", "trays", "[LStubKeep$Tray;", true)
  | 7 => ("StubKeep", "imageLives", "[LStubKeep$Life;", true)
  | 8 => ("StubKeep", "imageMoments", "[I", true)
  | 9 => ("StubKeep", "tape", "[I", true)
  | _ => ("StubKeep", "tapeLength", "I", false)
def tyX10 : Nat → FieldType := fun k => match k with
  | 0 => .object "StubKeep$World"
  | 1 => .object "StubKeep$Reader"
  | 2 => .object "StubKeep$Walk"
  | 3 => .object "StubKeep$Orders"
  | 4 => .object "StubKeep$Clashes"
  | 5 => .object "StubKeep$Past"
  | 6 => .array (.object "StubKeep$Tray")
  | 7 => .array (.object "StubKeep$Life")
  | 8 => .array .int
  | 9 => .array .int
  | _ => .int
abbrev wsX100 : List Cond := u_ws RX10 TX10 11
theorem nmX10 : ∀ a, a < 11 → ∀ b, b < 11 → a ≠ b → (TX10 a).2.1 ≠ (TX10 b).2.1 := by decide +kernel
theorem tyX10_ok : ∀ k, k < 11 → parseFieldDescriptor (TX10 k).2.2.1 = some (tyX10 k) := by decide +kernel
abbrev cX10_init : ByteArray := prog_1_method_1_code
def yX10_init : MethodName := ⟨RX10, "<init>", "()V"⟩
abbrev cX10_feed : ByteArray := prog_1_method_2_code
def yX10_feed : MethodName := ⟨RX10, "feed", "(IIIII)I"⟩
abbrev cX10_feedInt : ByteArray := prog_1_method_3_code
def yX10_feedInt : MethodName := ⟨RX10, "feedInt", "(I)V"⟩
abbrev cX10_life : ByteArray := prog_1_method_4_code
def yX10_life : MethodName := ⟨RX10, "life", "(I)I"⟩
abbrev cX10_begin : ByteArray := prog_1_method_5_code
def yX10_begin : MethodName := ⟨RX10, "begin", "(LStubKeep$Life;I)V"⟩
abbrev cX10_fault : ByteArray := prog_1_method_6_code
def yX10_fault : MethodName := ⟨RX10, "fault", "(I)I"⟩
abbrev cX10_doing : ByteArray := prog_1_method_7_code
def yX10_doing : MethodName := ⟨RX10, "doing", "(II)I"⟩
abbrev cX10_door : ByteArray := prog_1_method_8_code
def yX10_door : MethodName := ⟨RX10, "door", "(I)I"⟩
abbrev cX10_putBack : ByteArray := prog_1_method_9_code
def yX10_putBack : MethodName := ⟨RX10, "putBack", "(I)I"⟩
abbrev cX10_open : ByteArray := prog_1_method_10_code
def yX10_open : MethodName := ⟨RX10, "open", "()I"⟩
abbrev cX10_notDone : ByteArray := prog_1_method_11_code
def yX10_notDone : MethodName := ⟨RX10, "notDone", "(I)I"⟩
abbrev cX10_does : ByteArray := prog_1_method_12_code
def yX10_does : MethodName := ⟨RX10, "does", "(I)I"⟩
abbrev cX10_drop : ByteArray := prog_1_method_13_code
def yX10_drop : MethodName := ⟨RX10, "drop", "(I)I"⟩
abbrev cX10_forge : ByteArray := prog_1_method_14_code
def yX10_forge : MethodName := ⟨RX10, "forge", "(I)I"⟩
abbrev cX10_ask : ByteArray := prog_1_method_15_code
def yX10_ask : MethodName := ⟨RX10, "ask", "(I)I"⟩
abbrev cX10_slip : ByteArray := prog_1_method_16_code
def yX10_slip : MethodName := ⟨RX10, "slip", "(I)I"⟩
abbrev cX10_enact : ByteArray := prog_1_method_17_code
def yX10_enact : MethodName := ⟨RX10, "enact", "(II)I"⟩
abbrev cX10_undo : ByteArray := prog_1_method_18_code
def yX10_undo : MethodName := ⟨RX10, "undo", "(I)I"⟩
abbrev cX10_judge : ByteArray := prog_1_method_19_code
def yX10_judge : MethodName := ⟨RX10, "judge", "(II)I"⟩
abbrev cX10_perform : ByteArray := prog_1_method_20_code
def yX10_perform : MethodName := ⟨RX10, "perform", "(I)I"⟩
abbrev cX10_noTray : ByteArray := prog_1_method_21_code
def yX10_noTray : MethodName := ⟨RX10, "noTray", "(I)I"⟩
abbrev cX10_year : ByteArray := prog_1_method_22_code
def yX10_year : MethodName := ⟨RX10, "year", "(II)I"⟩
abbrev cX10_kindDrawn : ByteArray := prog_1_method_23_code
def yX10_kindDrawn : MethodName := ⟨RX10, "kindDrawn", "(I)I"⟩
abbrev cX10_soonest : ByteArray := prog_1_method_24_code
def yX10_soonest : MethodName := ⟨RX10, "soonest", "(I)I"⟩
abbrev cX10_way : ByteArray := prog_1_method_25_code
def yX10_way : MethodName := ⟨RX10, "way", "(II)I"⟩
abbrev cX10_shown : ByteArray := prog_1_method_26_code
def yX10_shown : MethodName := ⟨RX10, "shown", "(I)I"⟩
abbrev cX10_shownBy : ByteArray := prog_1_method_27_code
def yX10_shownBy : MethodName := ⟨RX10, "shownBy", "(II)I"⟩
abbrev cX10_rows : ByteArray := prog_1_method_28_code
def yX10_rows : MethodName := ⟨RX10, "rows", "(II)J"⟩
abbrev cX10_most : ByteArray := prog_1_method_29_code
def yX10_most : MethodName := ⟨RX10, "most", "()I"⟩
abbrev cX10_stands : ByteArray := prog_1_method_30_code
def yX10_stands : MethodName := ⟨RX10, "stands", "()I"⟩
abbrev cX10_gain : ByteArray := prog_1_method_31_code
def yX10_gain : MethodName := ⟨RX10, "gain", "(I)I"⟩
abbrev cX10_pack : ByteArray := prog_1_method_32_code
def yX10_pack : MethodName := ⟨RX10, "pack", "(I)I"⟩
abbrev cX10_orders : ByteArray := prog_1_method_33_code
def yX10_orders : MethodName := ⟨RX10, "orders", "(I)I"⟩
abbrev cX10_order : ByteArray := prog_1_method_34_code
def yX10_order : MethodName := ⟨RX10, "order", "(II)I"⟩
abbrev cX10_ahead : ByteArray := prog_1_method_35_code
def yX10_ahead : MethodName := ⟨RX10, "ahead", "(III)I"⟩
abbrev cX10_tellOrders : ByteArray := prog_1_method_36_code
def yX10_tellOrders : MethodName := ⟨RX10, "tellOrders", "(I)I"⟩
abbrev cX10_join : ByteArray := prog_1_method_37_code
def yX10_join : MethodName := ⟨RX10, "join", "(I)I"⟩
abbrev cX10_over : ByteArray := prog_1_method_38_code
def yX10_over : MethodName := ⟨RX10, "over", "()I"⟩
abbrev cX10_slips : ByteArray := prog_1_method_39_code
def yX10_slips : MethodName := ⟨RX10, "slips", "(I)I"⟩
abbrev cX10_attempt : ByteArray := prog_1_method_40_code
def yX10_attempt : MethodName := ⟨RX10, "attempt", "(I)I"⟩
abbrev cX10_noPassed : ByteArray := prog_1_method_41_code
def yX10_noPassed : MethodName := ⟨RX10, "noPassed", "(I)I"⟩
abbrev cX10_slipsBy : ByteArray := prog_1_method_42_code
def yX10_slipsBy : MethodName := ⟨RX10, "slipsBy", "(LStubKeep$Tray;)I"⟩
abbrev cX10_linings : ByteArray := prog_1_method_43_code
def yX10_linings : MethodName := ⟨RX10, "linings", "(I)I"⟩
abbrev cX10_clique : ByteArray := prog_1_method_44_code
def yX10_clique : MethodName := ⟨RX10, "clique", "()I"⟩
abbrev cX10_forces : ByteArray := prog_1_method_45_code
def yX10_forces : MethodName := ⟨RX10, "forces", "(I)I"⟩
abbrev cX10_best : ByteArray := prog_1_method_46_code
def yX10_best : MethodName := ⟨RX10, "best", "(I)I"⟩
abbrev cX10_chance : ByteArray := prog_1_method_47_code
def yX10_chance : MethodName := ⟨RX10, "chance", "(II)J"⟩
abbrev cX10_mean : ByteArray := prog_1_method_48_code
def yX10_mean : MethodName := ⟨RX10, "mean", "(I)J"⟩
abbrev cX10_wanted : ByteArray := prog_1_method_49_code
def yX10_wanted : MethodName := ⟨RX10, "wanted", "()I"⟩
abbrev cX10_numbers : ByteArray := prog_1_method_50_code
def yX10_numbers : MethodName := ⟨RX10, "numbers", "(III)I"⟩
abbrev cX10_write : ByteArray := prog_1_method_51_code
def yX10_write : MethodName := ⟨RX10, "write", "(IIJ)J"⟩
abbrev cX10_lists : ByteArray := prog_1_method_52_code
def yX10_lists : MethodName := ⟨RX10, "lists", "(II)I"⟩
abbrev cX10_image : ByteArray := prog_1_method_53_code
def yX10_image : MethodName := ⟨RX10, "image", "(I)I"⟩
abbrev cX10_restore : ByteArray := prog_1_method_54_code
def yX10_restore : MethodName := ⟨RX10, "restore", "(I)I"⟩
abbrev cX10_count : ByteArray := prog_1_method_55_code
def yX10_count : MethodName := ⟨RX10, "count", "(I)I"⟩
abbrev cX10_doneIn : ByteArray := prog_1_method_56_code
def yX10_doneIn : MethodName := ⟨RX10, "doneIn", "(I)I"⟩
abbrev cX10_liningIn : ByteArray := prog_1_method_57_code
def yX10_liningIn : MethodName := ⟨RX10, "liningIn", "(I)I"⟩
abbrev cX10_slipIn : ByteArray := prog_1_method_58_code
def yX10_slipIn : MethodName := ⟨RX10, "slipIn", "(I)I"⟩
abbrev cX10_stateIn : ByteArray := prog_1_method_59_code
def yX10_stateIn : MethodName := ⟨RX10, "stateIn", "(I)I"⟩
abbrev cX10_shownIn : ByteArray := prog_1_method_60_code
def yX10_shownIn : MethodName := ⟨RX10, "shownIn", "(I)I"⟩
abbrev cX10_notOpenIn : ByteArray := prog_1_method_61_code
def yX10_notOpenIn : MethodName := ⟨RX10, "notOpenIn", "(I)I"⟩
abbrev cX10_moodOf : ByteArray := prog_1_method_62_code
def yX10_moodOf : MethodName := ⟨RX10, "moodOf", "(II)I"⟩
def RX11 : String := "StubKeepModel"
def TX11 : u_T := fun k => match k with
  | 0 => ("StubKeepModel", "thrown", "I", false)
  | 1 => ("StubKeepModel", "all", "[I", true)
  | 2 => ("StubKeepModel", "hasImage", "[Z", true)
  | 3 => ("StubKeepModel", "tape", "[I", true)
  | 4 => ("StubKeepModel", "fresh", "[I", true)
  | 5 => ("StubKeepModel", "taped", "I", false)
  | 6 => ("StubKeepModel", "at", "I", false)
  | 7 => ("StubKeepModel", "behind", "I", false)
  | 8 => ("StubKeepModel", "size", "I", false)
  | 9 => ("StubKeepModel", "kind", "I", false)
  | 10 => ("StubKeepModel", "number", "I", false)
  | 11 => ("StubKeepModel", "wrong", "I", false)
  | 12 => ("StubKeepModel", "wrongAt", "I", false)
  | 13 => ("StubKeepModel", "faultKind", "I", false)
  | 14 => ("StubKeepModel", "faultPlace", "I", false)
  | 15 => ("StubKeepModel", "reading", "I", false)
  | 16 => ("StubKeepModel", "reckoned", "[I", true)
  | 17 => ("StubKeepModel", "words", "[I", true)
  | 18 => ("StubKeepModel", "was", "[I", true)
  | 19 => ("StubKeepModel", "toldWhy", "I", false)
  | 20 => ("StubKeepModel", "x", "I", false)
  | 21 => ("StubKeepModel", "stand", "[I", true)
  | 22 => ("StubKeepModel", "then", "[I", true)
  | 23 => ("StubKeepModel", "far", "[I", true)
  | 24 => ("StubKeepModel", "known", "[Z", true)
  | 25 => ("StubKeepModel", "standMany", "I", false)
  | 26 => ("StubKeepModel", "many", "[J", true)
  | 27 => ("StubKeepModel", "manyThen", "[J", true)
  | 28 => ("StubKeepModel", "aheadOf", "[I", true)
  | 29 => ("StubKeepModel", "waysOn", "[I", true)
  | 30 => ("StubKeepModel", "firstOrder", "[I", true)
  | 31 => ("StubKeepModel", "joins", "[I", true)
  | 32 => ("StubKeepModel", "joined", "I", false)
  | 33 => ("StubKeepModel", "lining", "[I", true)
  | 34 => ("StubKeepModel", "rowSort", "[I", true)
  | 35 => ("StubKeepModel", "rowMany", "[I", true)
  | _ => ("StubKeepModel", "numbers", "[J", true)
def tyX11 : Nat → FieldType := fun k => match k with
  | 0 => .int
  | 1 => .array .int
  | 2 => .array .boolean
  | 3 => .array .int
  | 4 => .array .int
  | 5 => .int
  | 6 => .int
  | 7 => .int
  | 8 => .int
  | 9 => .int
  | 10 => .int
  | 11 => .int
  | 12 => .int
  | 13 => .int
  | 14 => .int
  | 15 => .int
  | 16 => .array .int
  | 17 => .array .int
  | 18 => .array .int
  | 19 => .int
  | 20 => .int
  | 21 => .array .int
  | 22 => .array .int
  | 23 => .array .int
  | 24 => .array .boolean
  | 25 => .int
  | 26 => .array .long
  | 27 => .array .long
  | 28 => .array .int
  | 29 => .array .int
  | 30 => .array .int
  | 31 => .array .int
  | 32 => .int
  | 33 => .array .int
  | 34 => .array .int
  | 35 => .array .int
  | _ => .array .long
abbrev wsX110 : List Cond := u_ws RX11 TX11 37
theorem nmX11 : ∀ a, a < 37 → ∀ b, b < 37 → a ≠ b → (TX11 a).2.1 ≠ (TX11 b).2.1 := by decide +kernel
theorem tyX11_ok : ∀ k, k < 37 → parseFieldDescriptor (TX11 k).2.2.1 = some (tyX11 k) := by decide +kernel
abbrev cX11_within : ByteArray := prog_13_method_2_code
def yX11_within : MethodName := ⟨RX11, "within", "(JJJ)Z"⟩
abbrev cX11_init : ByteArray := prog_13_method_3_code
def yX11_init : MethodName := ⟨RX11, "<init>", "()V"⟩
abbrev cX11_plain : ByteArray := prog_13_method_4_code
def yX11_plain : MethodName := ⟨RX11, "plain", "([I)V"⟩
abbrev cX11_feed : ByteArray := prog_13_method_5_code
def yX11_feed : MethodName := ⟨RX11, "feed", "(IIIII)I"⟩
abbrev cX11_see : ByteArray := prog_13_method_6_code
def yX11_see : MethodName := ⟨RX11, "see", "(I)I"⟩
abbrev cX11_isSmall : ByteArray := prog_13_method_7_code
def yX11_isSmall : MethodName := ⟨RX11, "isSmall", "(I)Z"⟩
abbrev cX11_isDigit : ByteArray := prog_13_method_8_code
def yX11_isDigit : MethodName := ⟨RX11, "isDigit", "(I)Z"⟩
abbrev cX11_keyAt : ByteArray := prog_13_method_9_code
def yX11_keyAt : MethodName := ⟨RX11, "keyAt", "()I"⟩
abbrev cX11_next : ByteArray := prog_13_method_10_code
def yX11_next : MethodName := ⟨RX11, "next", "()V"⟩
abbrev cX11_fails : ByteArray := prog_13_method_11_code
def yX11_fails : MethodName := ⟨RX11, "fails", "(I)V"⟩
abbrev cX11_is : ByteArray := prog_13_method_12_code
def yX11_is : MethodName := ⟨RX11, "is", "(I)Z"⟩
abbrev cX11_eats : ByteArray := prog_13_method_13_code
def yX11_eats : MethodName := ⟨RX11, "eats", "(I)Z"⟩
abbrev cX11_takes : ByteArray := prog_13_method_14_code
def yX11_takes : MethodName := ⟨RX11, "takes", "(II)I"⟩
abbrev cX11_isIn : ByteArray := prog_13_method_15_code
def yX11_isIn : MethodName := ⟨RX11, "isIn", "(JI)Z"⟩
abbrev cX11_wordOf : ByteArray := prog_13_method_16_code
def yX11_wordOf : MethodName := ⟨RX11, "wordOf", "(I)I"⟩
abbrev cX11_codes : ByteArray := prog_13_method_17_code
def yX11_codes : MethodName := ⟨RX11, "codes", "(I)V"⟩
abbrev cX11_goesIn : ByteArray := prog_13_method_18_code
def yX11_goesIn : MethodName := ⟨RX11, "goesIn", "(I)Z"⟩
abbrev cX11_readAtom : ByteArray := prog_13_method_19_code
def yX11_readAtom : MethodName := ⟨RX11, "readAtom", "(I)V"⟩
abbrev cX11_readTerm : ByteArray := prog_13_method_20_code
def yX11_readTerm : MethodName := ⟨RX11, "readTerm", "(I)V"⟩
abbrev cX11_readSum : ByteArray := prog_13_method_21_code
def yX11_readSum : MethodName := ⟨RX11, "readSum", "(I)V"⟩
abbrev cX11_readUnit : ByteArray := prog_13_method_22_code
def yX11_readUnit : MethodName := ⟨RX11, "readUnit", "(I)V"⟩
abbrev cX11_readBoth : ByteArray := prog_13_method_23_code
def yX11_readBoth : MethodName := ⟨RX11, "readBoth", "(I)V"⟩
abbrev cX11_readTruth : ByteArray := prog_13_method_24_code
def yX11_readTruth : MethodName := ⟨RX11, "readTruth", "(I)V"⟩
abbrev cX11_readFlag : ByteArray := prog_13_method_25_code
def yX11_readFlag : MethodName := ⟨RX11, "readFlag", "(I)Z"⟩
abbrev cX11_readDoing : ByteArray := prog_13_method_26_code
def yX11_readDoing : MethodName := ⟨RX11, "readDoing", "()V"⟩
abbrev cX11_readDoor : ByteArray := prog_13_method_27_code
def yX11_readDoor : MethodName := ⟨RX11, "readDoor", "()V"⟩
abbrev cX11_readClash : ByteArray := prog_13_method_28_code
def yX11_readClash : MethodName := ⟨RX11, "readClash", "()V"⟩
abbrev cX11_readLaw : ByteArray := prog_13_method_29_code
def yX11_readLaw : MethodName := ⟨RX11, "readLaw", "(I)V"⟩
abbrev cX11_readLine : ByteArray := prog_13_method_30_code
def yX11_readLine : MethodName := ⟨RX11, "readLine", "()V"⟩
abbrev cX11_ends : ByteArray := prog_13_method_31_code
def yX11_ends : MethodName := ⟨RX11, "ends", "()V"⟩
abbrev cX11_life : ByteArray := prog_13_method_32_code
def yX11_life : MethodName := ⟨RX11, "life", "(I)I"⟩
abbrev cX11_fault : ByteArray := prog_13_method_33_code
def yX11_fault : MethodName := ⟨RX11, "fault", "(I)I"⟩
abbrev cX11_isDoing : ByteArray := prog_13_method_34_code
def yX11_isDoing : MethodName := ⟨RX11, "isDoing", "(J)Z"⟩
abbrev cX11_isSet : ByteArray := prog_13_method_35_code
def yX11_isSet : MethodName := ⟨RX11, "isSet", "(I)Z"⟩
abbrev cX11_bitsOf : ByteArray := prog_13_method_36_code
def yX11_bitsOf : MethodName := ⟨RX11, "bitsOf", "(I)I"⟩
abbrev cX11_howIn : ByteArray := prog_13_method_37_code
def yX11_howIn : MethodName := ⟨RX11, "howIn", "(II)I"⟩
abbrev cX11_withHow : ByteArray := prog_13_method_38_code
def yX11_withHow : MethodName := ⟨RX11, "withHow", "(III)I"⟩
abbrev cX11_standNow : ByteArray := prog_13_method_39_code
def yX11_standNow : MethodName := ⟨RX11, "standNow", "()I"⟩
abbrev cX11_isStand : ByteArray := prog_13_method_40_code
def yX11_isStand : MethodName := ⟨RX11, "isStand", "(I)V"⟩
abbrev cX11_thoseIn : ByteArray := prog_13_method_41_code
def yX11_thoseIn : MethodName := ⟨RX11, "thoseIn", "(II)I"⟩
abbrev cX11_doneIn : ByteArray := prog_13_method_42_code
def yX11_doneIn : MethodName := ⟨RX11, "doneIn", "(I)I"⟩
abbrev cX11_stubsIn : ByteArray := prog_13_method_43_code
def yX11_stubsIn : MethodName := ⟨RX11, "stubsIn", "(I)I"⟩
abbrev cX11_sizesOf : ByteArray := prog_13_method_44_code
def yX11_sizesOf : MethodName := ⟨RX11, "sizesOf", "(I)I"⟩
abbrev cX11_leftIn : ByteArray := prog_13_method_45_code
def yX11_leftIn : MethodName := ⟨RX11, "leftIn", "(I)I"⟩
abbrev cX11_between : ByteArray := prog_13_method_46_code
def yX11_between : MethodName := ⟨RX11, "between", "(III)I"⟩
abbrev cX11_reckons : ByteArray := prog_13_method_47_code
def yX11_reckons : MethodName := ⟨RX11, "reckons", "(IIII)Z"⟩
abbrev cX11_hasNeeds : ByteArray := prog_13_method_48_code
def yX11_hasNeeds : MethodName := ⟨RX11, "hasNeeds", "(II)Z"⟩
abbrev cX11_isDone : ByteArray := prog_13_method_49_code
def yX11_isDone : MethodName := ⟨RX11, "isDone", "(II)Z"⟩
abbrev cX11_doneTo : ByteArray := prog_13_method_50_code
def yX11_doneTo : MethodName := ⟨RX11, "doneTo", "(II)I"⟩
abbrev cX11_droppedTo : ByteArray := prog_13_method_51_code
def yX11_droppedTo : MethodName := ⟨RX11, "droppedTo", "(II)I"⟩
abbrev cX11_passesBy : ByteArray := prog_13_method_52_code
def yX11_passesBy : MethodName := ⟨RX11, "passesBy", "(III)Z"⟩
abbrev cX11_backOf : ByteArray := prog_13_method_53_code
def yX11_backOf : MethodName := ⟨RX11, "backOf", "(II)I"⟩
abbrev cX11_askedOf : ByteArray := prog_13_method_54_code
def yX11_askedOf : MethodName := ⟨RX11, "askedOf", "(II)I"⟩
abbrev cX11_opened : ByteArray := prog_13_method_55_code
def yX11_opened : MethodName := ⟨RX11, "opened", "(II)I"⟩
abbrev cX11_doing : ByteArray := prog_13_method_56_code
def yX11_doing : MethodName := ⟨RX11, "doing", "(II)I"⟩
abbrev cX11_door : ByteArray := prog_13_method_57_code
def yX11_door : MethodName := ⟨RX11, "door", "(I)I"⟩
abbrev cX11_putBack : ByteArray := prog_13_method_58_code
def yX11_putBack : MethodName := ⟨RX11, "putBack", "(I)I"⟩
abbrev cX11_open : ByteArray := prog_13_method_59_code
def yX11_open : MethodName := ⟨RX11, "open", "()I"⟩
abbrev cX11_keeps : ByteArray := prog_13_method_60_code
def yX11_keeps : MethodName := ⟨RX11, "keeps", "()V"⟩
abbrev cX11_isAgain : ByteArray := prog_13_method_61_code
def yX11_isAgain : MethodName := ⟨RX11, "isAgain", "()V"⟩
abbrev cX11_notes : ByteArray := prog_13_method_62_code
def yX11_notes : MethodName := ⟨RX11, "notes", "()V"⟩
abbrev cX11_whyDo : ByteArray := prog_13_method_63_code
def yX11_whyDo : MethodName := ⟨RX11, "whyDo", "(J)I"⟩
abbrev cX11_whyDrop : ByteArray := prog_13_method_64_code
def yX11_whyDrop : MethodName := ⟨RX11, "whyDrop", "(J)I"⟩
abbrev cX11_whyForge : ByteArray := prog_13_method_65_code
def yX11_whyForge : MethodName := ⟨RX11, "whyForge", "(J)I"⟩
abbrev cX11_does : ByteArray := prog_13_method_66_code
def yX11_does : MethodName := ⟨RX11, "does", "(I)I"⟩
abbrev cX11_drop : ByteArray := prog_13_method_67_code
def yX11_drop : MethodName := ⟨RX11, "drop", "(I)I"⟩
abbrev cX11_forge : ByteArray := prog_13_method_68_code
def yX11_forge : MethodName := ⟨RX11, "forge", "(I)I"⟩
abbrev cX11_ask : ByteArray := prog_13_method_69_code
def yX11_ask : MethodName := ⟨RX11, "ask", "(I)I"⟩
abbrev cX11_slip : ByteArray := prog_13_method_70_code
def yX11_slip : MethodName := ⟨RX11, "slip", "(I)I"⟩
abbrev cX11_undo : ByteArray := prog_13_method_71_code
def yX11_undo : MethodName := ⟨RX11, "undo", "(I)I"⟩
abbrev cX11_whyNot : ByteArray := prog_13_method_72_code
def yX11_whyNot : MethodName := ⟨RX11, "whyNot", "(J)I"⟩
abbrev cX11_acts : ByteArray := prog_13_method_73_code
def yX11_acts : MethodName := ⟨RX11, "acts", "(I)V"⟩
abbrev cX11_tells : ByteArray := prog_13_method_74_code
def yX11_tells : MethodName := ⟨RX11, "tells", "(I)I"⟩
abbrev cX11_noTray : ByteArray := prog_13_method_75_code
def yX11_noTray : MethodName := ⟨RX11, "noTray", "(I)I"⟩
abbrev cX11_judge : ByteArray := prog_13_method_76_code
def yX11_judge : MethodName := ⟨RX11, "judge", "(II)I"⟩
abbrev cX11_perform : ByteArray := prog_13_method_77_code
def yX11_perform : MethodName := ⟨RX11, "perform", "(I)I"⟩
abbrev cX11_draw : ByteArray := prog_13_method_78_code
def yX11_draw : MethodName := ⟨RX11, "draw", "(I)I"⟩
abbrev cX11_drawn : ByteArray := prog_13_method_79_code
def yX11_drawn : MethodName := ⟨RX11, "drawn", "()I"⟩
abbrev cX11_year : ByteArray := prog_13_method_80_code
def yX11_year : MethodName := ⟨RX11, "year", "(II)I"⟩
abbrev cX11_adds : ByteArray := prog_13_method_81_code
def yX11_adds : MethodName := ⟨RX11, "adds", "(I)V"⟩
abbrev cX11_movedTo : ByteArray := prog_13_method_82_code
def yX11_movedTo : MethodName := ⟨RX11, "movedTo", "(II)I"⟩
abbrev cX11_toldMove : ByteArray := prog_13_method_83_code
def yX11_toldMove : MethodName := ⟨RX11, "toldMove", "(I)I"⟩
abbrev cX11_laysStands : ByteArray := prog_13_method_84_code
def yX11_laysStands : MethodName := ⟨RX11, "laysStands", "()V"⟩
abbrev cX11_hasAll : ByteArray := prog_13_method_85_code
def yX11_hasAll : MethodName := ⟨RX11, "hasAll", "(IIZ)Z"⟩
abbrev cX11_farBy : ByteArray := prog_13_method_86_code
def yX11_farBy : MethodName := ⟨RX11, "farBy", "(II)I"⟩
abbrev cX11_laysFar : ByteArray := prog_13_method_87_code
def yX11_laysFar : MethodName := ⟨RX11, "laysFar", "(IZ)I"⟩
abbrev cX11_toldFar : ByteArray := prog_13_method_88_code
def yX11_toldFar : MethodName := ⟨RX11, "toldFar", "(I)I"⟩
abbrev cX11_moveAt : ByteArray := prog_13_method_89_code
def yX11_moveAt : MethodName := ⟨RX11, "moveAt", "(I)I"⟩
abbrev cX11_comes : ByteArray := prog_13_method_90_code
def yX11_comes : MethodName := ⟨RX11, "comes", "(IZ)I"⟩
abbrev cX11_comesBy : ByteArray := prog_13_method_91_code
def yX11_comesBy : MethodName := ⟨RX11, "comesBy", "(IIZ)I"⟩
abbrev cX11_soonest : ByteArray := prog_13_method_92_code
def yX11_soonest : MethodName := ⟨RX11, "soonest", "(I)I"⟩
abbrev cX11_way : ByteArray := prog_13_method_93_code
def yX11_way : MethodName := ⟨RX11, "way", "(II)I"⟩
abbrev cX11_shown : ByteArray := prog_13_method_94_code
def yX11_shown : MethodName := ⟨RX11, "shown", "(I)I"⟩
abbrev cX11_shownBy : ByteArray := prog_13_method_95_code
def yX11_shownBy : MethodName := ⟨RX11, "shownBy", "(II)I"⟩
abbrev cX11_rows : ByteArray := prog_13_method_96_code
def yX11_rows : MethodName := ⟨RX11, "rows", "(II)J"⟩
abbrev cX11_most : ByteArray := prog_13_method_97_code
def yX11_most : MethodName := ⟨RX11, "most", "()I"⟩
abbrev cX11_stands : ByteArray := prog_13_method_98_code
def yX11_stands : MethodName := ⟨RX11, "stands", "()I"⟩
abbrev cX11_gainOf : ByteArray := prog_13_method_99_code
def yX11_gainOf : MethodName := ⟨RX11, "gainOf", "(I)I"⟩
abbrev cX11_gain : ByteArray := prog_13_method_100_code
def yX11_gain : MethodName := ⟨RX11, "gain", "(I)I"⟩
abbrev cX11_pack : ByteArray := prog_13_method_101_code
def yX11_pack : MethodName := ⟨RX11, "pack", "(I)I"⟩
abbrev cX11_noOrders : ByteArray := prog_13_method_102_code
def yX11_noOrders : MethodName := ⟨RX11, "noOrders", "(I)I"⟩
abbrev cX11_isDoneOne : ByteArray := prog_13_method_103_code
def yX11_isDoneOne : MethodName := ⟨RX11, "isDoneOne", "(J)Z"⟩
abbrev cX11_laysOrders : ByteArray := prog_13_method_104_code
def yX11_laysOrders : MethodName := ⟨RX11, "laysOrders", "(III)I"⟩
abbrev cX11_orders : ByteArray := prog_13_method_105_code
def yX11_orders : MethodName := ⟨RX11, "orders", "(I)I"⟩
abbrev cX11_order : ByteArray := prog_13_method_106_code
def yX11_order : MethodName := ⟨RX11, "order", "(II)I"⟩
abbrev cX11_ahead : ByteArray := prog_13_method_107_code
def yX11_ahead : MethodName := ⟨RX11, "ahead", "(III)I"⟩
abbrev cX11_laysJoined : ByteArray := prog_13_method_108_code
def yX11_laysJoined : MethodName := ⟨RX11, "laysJoined", "()V"⟩
abbrev cX11_isWhat : ByteArray := prog_13_method_109_code
def yX11_isWhat : MethodName := ⟨RX11, "isWhat", "(I)Z"⟩
abbrev cX11_join : ByteArray := prog_13_method_110_code
def yX11_join : MethodName := ⟨RX11, "join", "(I)I"⟩
abbrev cX11_over : ByteArray := prog_13_method_111_code
def yX11_over : MethodName := ⟨RX11, "over", "()I"⟩
abbrev cX11_noSlips : ByteArray := prog_13_method_112_code
def yX11_noSlips : MethodName := ⟨RX11, "noSlips", "(I)I"⟩
abbrev cX11_slipsOf : ByteArray := prog_13_method_113_code
def yX11_slipsOf : MethodName := ⟨RX11, "slipsOf", "(I)I"⟩
abbrev cX11_slips : ByteArray := prog_13_method_114_code
def yX11_slips : MethodName := ⟨RX11, "slips", "(I)I"⟩
abbrev cX11_attempt : ByteArray := prog_13_method_115_code
def yX11_attempt : MethodName := ⟨RX11, "attempt", "(I)I"⟩
abbrev cX11_canLie : ByteArray := prog_13_method_116_code
def yX11_canLie : MethodName := ⟨RX11, "canLie", "(II)Z"⟩
abbrev cX11_lays : ByteArray := prog_13_method_117_code
def yX11_lays : MethodName := ⟨RX11, "lays", "(II)Z"⟩
abbrev cX11_linings : ByteArray := prog_13_method_118_code
def yX11_linings : MethodName := ⟨RX11, "linings", "(I)I"⟩
abbrev cX11_allClash : ByteArray := prog_13_method_119_code
def yX11_allClash : MethodName := ⟨RX11, "allClash", "(I)Z"⟩
abbrev cX11_clique : ByteArray := prog_13_method_120_code
def yX11_clique : MethodName := ⟨RX11, "clique", "()I"⟩
abbrev cX11_forcesFrom : ByteArray := prog_13_method_121_code
def yX11_forcesFrom : MethodName := ⟨RX11, "forcesFrom", "(III)Z"⟩
abbrev cX11_forcesBy : ByteArray := prog_13_method_122_code
def yX11_forcesBy : MethodName := ⟨RX11, "forcesBy", "(IIII)Z"⟩
abbrev cX11_officerCant : ByteArray := prog_13_method_123_code
def yX11_officerCant : MethodName := ⟨RX11, "officerCant", "(III)Z"⟩
abbrev cX11_forcedIn : ByteArray := prog_13_method_124_code
def yX11_forcedIn : MethodName := ⟨RX11, "forcedIn", "(I)I"⟩
abbrev cX11_forces : ByteArray := prog_13_method_125_code
def yX11_forces : MethodName := ⟨RX11, "forces", "(I)I"⟩
abbrev cX11_best : ByteArray := prog_13_method_126_code
def yX11_best : MethodName := ⟨RX11, "best", "(I)I"⟩
abbrev cX11_needsOf : ByteArray := prog_13_method_127_code
def yX11_needsOf : MethodName := ⟨RX11, "needsOf", "(I)I"⟩
abbrev cX11_staysDone : ByteArray := prog_13_method_128_code
def yX11_staysDone : MethodName := ⟨RX11, "staysDone", "(II)J"⟩
abbrev cX11_meanOf : ByteArray := prog_13_method_129_code
def yX11_meanOf : MethodName := ⟨RX11, "meanOf", "(I)J"⟩
abbrev cX11_common : ByteArray := prog_13_method_130_code
def yX11_common : MethodName := ⟨RX11, "common", "(JJ)J"⟩
abbrev cX11_part : ByteArray := prog_13_method_131_code
def yX11_part : MethodName := ⟨RX11, "part", "(JI)J"⟩
abbrev cX11_chance : ByteArray := prog_13_method_132_code
def yX11_chance : MethodName := ⟨RX11, "chance", "(II)J"⟩
abbrev cX11_mean : ByteArray := prog_13_method_133_code
def yX11_mean : MethodName := ⟨RX11, "mean", "(I)J"⟩
abbrev cX11_wanted : ByteArray := prog_13_method_134_code
def yX11_wanted : MethodName := ⟨RX11, "wanted", "()I"⟩
abbrev cX11_cut : ByteArray := prog_13_method_135_code
def yX11_cut : MethodName := ⟨RX11, "cut", "(JI)J"⟩
abbrev cX11_numbers : ByteArray := prog_13_method_136_code
def yX11_numbers : MethodName := ⟨RX11, "numbers", "(III)I"⟩
abbrev cX11_write : ByteArray := prog_13_method_137_code
def yX11_write : MethodName := ⟨RX11, "write", "(IIJ)J"⟩
abbrev cX11_lists : ByteArray := prog_13_method_138_code
def yX11_lists : MethodName := ⟨RX11, "lists", "(II)I"⟩
abbrev cX11_image : ByteArray := prog_13_method_139_code
def yX11_image : MethodName := ⟨RX11, "image", "(I)I"⟩
abbrev cX11_restore : ByteArray := prog_13_method_140_code
def yX11_restore : MethodName := ⟨RX11, "restore", "(I)I"⟩
abbrev cX11_count : ByteArray := prog_13_method_141_code
def yX11_count : MethodName := ⟨RX11, "count", "(I)I"⟩
def RJ11 : String := "java/lang/Character"
abbrev cJ11_isValidCodePoint_9a6ad : ByteArray := prog_14_method_11_code
def yJ11_isValidCodePoint_9a6ad : MethodName := ⟨RJ11, "isValidCodePoint", "(I)Z"⟩
abbrev cJ11_highSurrogate_5068e : ByteArray := prog_14_method_28_code
def yJ11_highSurrogate_5068e : MethodName := ⟨RJ11, "highSurrogate", "(I)C"⟩
abbrev cJ11_lowSurrogate_5068e : ByteArray := prog_14_method_29_code
def yJ11_lowSurrogate_5068e : MethodName := ⟨RJ11, "lowSurrogate", "(I)C"⟩
def RJ6 : String := "java/lang/Integer"
abbrev cJ6_bitCount_0f7a4 : ByteArray := prog_15_method_49_code
def yJ6_bitCount_0f7a4 : MethodName := ⟨RJ6, "bitCount", "(I)I"⟩
def RJ9 : String := "java/lang/Math"
abbrev cJ9_max_7cf53 : ByteArray := prog_16_method_65_code
def yJ9_max_7cf53 : MethodName := ⟨RJ9, "max", "(II)I"⟩
abbrev cJ9_max_f86c9 : ByteArray := prog_16_method_66_code
def yJ9_max_f86c9 : MethodName := ⟨RJ9, "max", "(JJ)J"⟩
abbrev cJ9_min_7cf53 : ByteArray := prog_16_method_69_code
def yJ9_min_7cf53 : MethodName := ⟨RJ9, "min", "(II)I"⟩
def RJ0 : String := "java/lang/String"
abbrev cJ0_length_8abf5 : ByteArray := prog_17_method_54_code
def yJ0_length_8abf5 : MethodName := ⟨RJ0, "length", "()I"⟩
abbrev cJ0_charAt_5068e : ByteArray := prog_17_method_56_code
def yJ0_charAt_5068e : MethodName := ⟨RJ0, "charAt", "(I)C"⟩
abbrev cJ0_indexOf_0f7a4 : ByteArray := prog_17_method_79_code
def yJ0_indexOf_0f7a4 : MethodName := ⟨RJ0, "indexOf", "(I)I"⟩
abbrev cJ0_indexOf_7cf53 : ByteArray := prog_17_method_80_code
def yJ0_indexOf_7cf53 : MethodName := ⟨RJ0, "indexOf", "(II)I"⟩
abbrev cJ0_coder_7d493 : ByteArray := prog_17_method_152_code
def yJ0_coder_7d493 : MethodName := ⟨RJ0, "coder", "()B"⟩
abbrev cJ0_isLatin1_aae02 : ByteArray := prog_17_method_154_code
def yJ0_isLatin1_aae02 : MethodName := ⟨RJ0, "isLatin1", "()Z"⟩
abbrev cJ0_checkIndex_df160 : ByteArray := prog_17_method_155_code
def yJ0_checkIndex_df160 : MethodName := ⟨RJ0, "checkIndex", "(II)V"⟩
abbrev cJ0_checkBoundsBeginEnd_23922 : ByteArray := prog_17_method_158_code
def yJ0_checkBoundsBeginEnd_23922 : MethodName := ⟨RJ0, "checkBoundsBeginEnd", "(III)V"⟩
def RJ1 : String := "java/lang/StringLatin1"
abbrev cJ1_charAt_3b067 : ByteArray := prog_18_method_2_code
def yJ1_charAt_3b067 : MethodName := ⟨RJ1, "charAt", "([BI)C"⟩
abbrev cJ1_canEncode_9a6ad : ByteArray := prog_18_method_4_code
def yJ1_canEncode_9a6ad : MethodName := ⟨RJ1, "canEncode", "(I)Z"⟩
abbrev cJ1_indexOf_4cfef : ByteArray := prog_18_method_22_code
def yJ1_indexOf_4cfef : MethodName := ⟨RJ1, "indexOf", "([BIII)I"⟩
abbrev cJ1_indexOfChar_4cfef : ByteArray := prog_18_method_23_code
def yJ1_indexOfChar_4cfef : MethodName := ⟨RJ1, "indexOfChar", "([BIII)I"⟩
def RJ2 : String := "java/lang/StringUTF16"
abbrev cJ2_getChar_3b067 : ByteArray := prog_19_method_5_code
def yJ2_getChar_3b067 : MethodName := ⟨RJ2, "getChar", "([BI)C"⟩
abbrev cJ2_length_9d52b : ByteArray := prog_19_method_6_code
def yJ2_length_9d52b : MethodName := ⟨RJ2, "length", "([B)I"⟩
abbrev cJ2_indexOf_4cfef : ByteArray := prog_19_method_40_code
def yJ2_indexOf_4cfef : MethodName := ⟨RJ2, "indexOf", "([BIII)I"⟩
abbrev cJ2_indexOfChar_4cfef : ByteArray := prog_19_method_47_code
def yJ2_indexOfChar_4cfef : MethodName := ⟨RJ2, "indexOfChar", "([BIII)I"⟩
abbrev cJ2_indexOfCharUnsafe_4cfef : ByteArray := prog_19_method_48_code
def yJ2_indexOfCharUnsafe_4cfef : MethodName := ⟨RJ2, "indexOfCharUnsafe", "([BIII)I"⟩
abbrev cJ2_indexOfSupplementary_4cfef : ByteArray := prog_19_method_49_code
def yJ2_indexOfSupplementary_4cfef : MethodName := ⟨RJ2, "indexOfSupplementary", "([BIII)I"⟩
abbrev cJ2_charAt_3b067 : ByteArray := prog_19_method_83_code
def yJ2_charAt_3b067 : MethodName := ⟨RJ2, "charAt", "([BI)C"⟩
abbrev cJ2_checkIndex_2214a : ByteArray := prog_19_method_91_code
def yJ2_checkIndex_2214a : MethodName := ⟨RJ2, "checkIndex", "(I[B)V"⟩
abbrev cJ2_checkBoundsBeginEnd_d044e : ByteArray := prog_19_method_93_code
def yJ2_checkBoundsBeginEnd_d044e : MethodName := ⟨RJ2, "checkBoundsBeginEnd", "(II[B)V"⟩
def RJ10 : String := "java/lang/System"
def RJ7 : String := "java/util/Arrays"
abbrev cJ7_fill_d0a16 : ByteArray := prog_21_method_101_code
def yJ7_fill_d0a16 : MethodName := ⟨RJ7, "fill", "([JJ)V"⟩
abbrev cJ7_fill_53178 : ByteArray := prog_21_method_103_code
def yJ7_fill_53178 : MethodName := ⟨RJ7, "fill", "([II)V"⟩
abbrev cJ7_fill_031fb : ByteArray := prog_21_method_109_code
def yJ7_fill_031fb : MethodName := ⟨RJ7, "fill", "([BB)V"⟩
def RJ3 : String := "jdk/internal/util/Preconditions"
abbrev cJ3_checkIndex_8e157 : ByteArray := prog_22_method_11_code
def yJ3_checkIndex_8e157 : MethodName := ⟨RJ3, "checkIndex", "(IILjava/util/function/BiFunction;)I"⟩
abbrev cJ3_checkFromToIndex_8c36e : ByteArray := prog_22_method_12_code
def yJ3_checkFromToIndex_8c36e : MethodName := ⟨RJ3, "checkFromToIndex", "(IIILjava/util/function/BiFunction;)I"⟩
def RL : String := "StubKeepLaw"
abbrev cL_law : ByteArray := code
def yL_law : MethodName := ⟨RL, "law", "([I)Z"⟩
abbrev sk_classes : List vw_C := [(RX0, TX0, 1), (RX1, TX1, 3), (RX2, TX2, 15), (RX3, TX3, 3), (RX4, TX4, 3), (RX5, TX5, 9), (RX6, TX6, 4), (RX8, TX8, 7), (RX9, TX9, 4), (RX10, TX10, 11), (RX11, TX11, 37)]
def sk_N (c : Nat) : Nat := match c with
  | 0 => 1
  | 1 => 3
  | 2 => 15
  | 3 => 3
  | 4 => 3
  | 5 => 9
  | 6 => 4
  | 7 => 7
  | 8 => 4
  | 9 => 11
  | 10 => 37
  | _ => 0
def sk_ty (c : Nat) : Nat → FieldType := match c with
  | 0 => tyX0
  | 1 => tyX1
  | 2 => tyX2
  | 3 => tyX3
  | 4 => tyX4
  | 5 => tyX5
  | 6 => tyX6
  | 7 => tyX8
  | 8 => tyX9
  | 9 => tyX10
  | 10 => tyX11
  | _ => tyX0
def sk_tbl : List Cond := lw_tbl.filter goodWord
theorem sk_in (i : Nat) {w : Cond} (h : lw_tbl[i]? = some w) (hg : goodWord w = true) : w ∈ sk_tbl := List.mem_filter.mpr ⟨List.mem_of_getElem? h, hg⟩
theorem sk_sub_tbl {w : Cond} (h : w ∈ sk_tbl) : w ∈ lw_tbl := (List.mem_filter.mp h).1
theorem sk_good {w : Cond} (h : w ∈ sk_tbl) : goodWord w = true := (List.mem_filter.mp h).2
theorem inX0 : ∀ w ∈ u_ws RX0 TX0 1, w ∈ sk_tbl := by
  intro w hw
  have hg : (u_ws RX0 TX0 1).all goodWord = true := by decide +kernel
  have hg := List.all_eq_true.mp hg w hw
  have h : u_ws RX0 TX0 1 = [375].filterMap (fun i => lw_tbl[i]?) := by decide +kernel
  rw [h] at hw
  obtain ⟨i, -, hi⟩ := List.mem_filterMap.mp hw
  exact sk_in i hi hg
theorem inX1 : ∀ w ∈ u_ws RX1 TX1 3, w ∈ sk_tbl := by
  intro w hw
  have hg : (u_ws RX1 TX1 3).all goodWord = true := by decide +kernel
  have hg := List.all_eq_true.mp hg w hw
  have h : u_ws RX1 TX1 3 = [176, 178, 180].filterMap (fun i => lw_tbl[i]?) := by decide +kernel
  rw [h] at hw
  obtain ⟨i, -, hi⟩ := List.mem_filterMap.mp hw
  exact sk_in i hi hg
theorem inX2 : ∀ w ∈ u_ws RX2 TX2 15, w ∈ sk_tbl := by
  intro w hw
  have hg : (u_ws RX2 TX2 15).all goodWord = true := by decide +kernel
  have hg := List.all_eq_true.mp hg w hw
  have h : u_ws RX2 TX2 15 = [236, 238, 240, 242, 244, 246, 248, 250, 252, 254, 256, 258, 260, 262, 264].filterMap (fun i => lw_tbl[i]?) := by decide +kernel
  rw [h] at hw
  obtain ⟨i, -, hi⟩ := List.mem_filterMap.mp hw
  exact sk_in i hi hg
theorem inX3 : ∀ w ∈ u_ws RX3 TX3 3, w ∈ sk_tbl := by
  intro w hw
  have hg : (u_ws RX3 TX3 3).all goodWord = true := by decide +kernel
  have hg := List.all_eq_true.mp hg w hw
  have h : u_ws RX3 TX3 3 = [361, 363, 365].filterMap (fun i => lw_tbl[i]?) := by decide +kernel
  rw [h] at hw
  obtain ⟨i, -, hi⟩ := List.mem_filterMap.mp hw
  exact sk_in i hi hg
theorem inX4 : ∀ w ∈ u_ws RX4 TX4 3, w ∈ sk_tbl := by
  intro w hw
  have hg : (u_ws RX4 TX4 3).all goodWord = true := by decide +kernel
  have hg := List.all_eq_true.mp hg w hw
  have h : u_ws RX4 TX4 3 = [389, 391, 393].filterMap (fun i => lw_tbl[i]?) := by decide +kernel
  rw [h] at hw
  obtain ⟨i, -, hi⟩ := List.mem_filterMap.mp hw
  exact sk_in i hi hg
theorem inX5 : ∀ w ∈ u_ws RX5 TX5 9, w ∈ sk_tbl := by
  intro w hw
  have hg : (u_ws RX5 TX5 9).all goodWord = true := by decide +kernel
  have hg := List.all_eq_true.mp hg w hw
  have h : u_ws RX5 TX5 9 = [303, 305, 307, 309, 311, 313, 315, 317, 319].filterMap (fun i => lw_tbl[i]?) := by decide +kernel
  rw [h] at hw
  obtain ⟨i, -, hi⟩ := List.mem_filterMap.mp hw
  exact sk_in i hi hg
theorem inX6 : ∀ w ∈ u_ws RX6 TX6 4, w ∈ sk_tbl := by
  intro w hw
  have hg : (u_ws RX6 TX6 4).all goodWord = true := by decide +kernel
  have hg := List.all_eq_true.mp hg w hw
  have h : u_ws RX6 TX6 4 = [412, 414, 416, 418].filterMap (fun i => lw_tbl[i]?) := by decide +kernel
  rw [h] at hw
  obtain ⟨i, -, hi⟩ := List.mem_filterMap.mp hw
  exact sk_in i hi hg
theorem inX8 : ∀ w ∈ u_ws RX8 TX8 7, w ∈ sk_tbl := by
  intro w hw
  have hg : (u_ws RX8 TX8 7).all goodWord = true := by decide +kernel
  have hg := List.all_eq_true.mp hg w hw
  have h : u_ws RX8 TX8 7 = [336, 338, 340, 342, 344, 346, 348].filterMap (fun i => lw_tbl[i]?) := by decide +kernel
  rw [h] at hw
  obtain ⟨i, -, hi⟩ := List.mem_filterMap.mp hw
  exact sk_in i hi hg
theorem inX9 : ∀ w ∈ u_ws RX9 TX9 4, w ∈ sk_tbl := by
  intro w hw
  have hg : (u_ws RX9 TX9 4).all goodWord = true := by decide +kernel
  have hg := List.all_eq_true.mp hg w hw
  have h : u_ws RX9 TX9 4 = [273, 275, 277, 279].filterMap (fun i => lw_tbl[i]?) := by decide +kernel
  rw [h] at hw
  obtain ⟨i, -, hi⟩ := List.mem_filterMap.mp hw
  exact sk_in i hi hg
theorem inX10 : ∀ w ∈ u_ws RX10 TX10 11, w ∈ sk_tbl := by
  intro w hw
  have hg : (u_ws RX10 TX10 11).all goodWord = true := by decide +kernel
  have hg := List.all_eq_true.mp hg w hw
  have h : u_ws RX10 TX10 11 = [433, 435, 437, 439, 441, 443, 445, 447, 449, 451, 453].filterMap (fun i => lw_tbl[i]?) := by decide +kernel
  rw [h] at hw
  obtain ⟨i, -, hi⟩ := List.mem_filterMap.mp hw
  exact sk_in i hi hg
theorem inX11 : ∀ w ∈ u_ws RX11 TX11 37, w ∈ sk_tbl := by
  intro w hw
  have hg : (u_ws RX11 TX11 37).all goodWord = true := by decide +kernel
  have hg := List.all_eq_true.mp hg w hw
  have h : u_ws RX11 TX11 37 = [1350, 1352, 1354, 1356, 1358, 1360, 1362, 1364, 1366, 1368, 1370, 1372, 1374, 1376, 1378, 1380, 1382, 1384, 1386, 1388, 1390, 1392, 1394, 1396, 1398, 1400, 1402, 1404, 1406, 1408, 1410, 1412, 1414, 1416, 1418, 1420, 1422].filterMap (fun i => lw_tbl[i]?) := by decide +kernel
  rw [h] at hw
  obtain ⟨i, -, hi⟩ := List.mem_filterMap.mp hw
  exact sk_in i hi hg
