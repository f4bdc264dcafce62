section
-- ===== PART A: goes FIRST, ahead of the names: the tables' words, and 'selects' of the private methods out of them =====
/-- a private method of a class that the tables say can be made, by its rows of tables_1 -/
def lw_okq (q : MethodName × Nat) : Prop := (q.1.cls ≠ "java/lang/invoke/MethodHandle" ∧ q.1.cls ≠ "java/lang/invoke/VarHandle") ∧ Cond.instantiable q.1.cls q.2 ∈ tables_1 ∧ Cond.privateMethod q.1 ∈ tables_1 ∧ Cond.instanceMethod q.1 ∈ tables_1
theorem lw_p0 : lw_okq (⟨"NoDayForIt$LawReader", "advance", "()V"⟩, 8) := ⟨⟨by decide +kernel, by decide +kernel⟩, List.mem_of_getElem? (i := 101) (by decide +kernel), List.mem_of_getElem? (i := 345) (by decide +kernel), List.mem_of_getElem? (i := 346) (by decide +kernel)⟩
theorem lw_p1 : lw_okq (⟨"NoDayForIt$LawReader", "byteAt", "(I)I"⟩, 8) := ⟨⟨by decide +kernel, by decide +kernel⟩, List.mem_of_getElem? (i := 101) (by decide +kernel), List.mem_of_getElem? (i := 349) (by decide +kernel), List.mem_of_getElem? (i := 350) (by decide +kernel)⟩
theorem lw_p2 : lw_okq (⟨"NoDayForIt$LawReader", "advanceLetters", "()V"⟩, 8) := ⟨⟨by decide +kernel, by decide +kernel⟩, List.mem_of_getElem? (i := 101) (by decide +kernel), List.mem_of_getElem? (i := 356) (by decide +kernel), List.mem_of_getElem? (i := 357) (by decide +kernel)⟩
theorem lw_p3 : lw_okq (⟨"NoDayForIt$LawReader", "advanceNumber", "()V"⟩, 8) := ⟨⟨by decide +kernel, by decide +kernel⟩, List.mem_of_getElem? (i := 101) (by decide +kernel), List.mem_of_getElem? (i := 363) (by decide +kernel), List.mem_of_getElem? (i := 364) (by decide +kernel)⟩
theorem lw_p4 : lw_okq (⟨"NoDayForIt$LawReader", "isName", "(Ljava/lang/String;)Z"⟩, 8) := ⟨⟨by decide +kernel, by decide +kernel⟩, List.mem_of_getElem? (i := 101) (by decide +kernel), List.mem_of_getElem? (i := 368) (by decide +kernel), List.mem_of_getElem? (i := 369) (by decide +kernel)⟩
theorem lw_p5 : lw_okq (⟨"NoDayForIt$LawReader", "isYear", "()Z"⟩, 8) := ⟨⟨by decide +kernel, by decide +kernel⟩, List.mem_of_getElem? (i := 101) (by decide +kernel), List.mem_of_getElem? (i := 420) (by decide +kernel), List.mem_of_getElem? (i := 421) (by decide +kernel)⟩
theorem lw_p6 : lw_okq (⟨"NoDayForIt$LawReader", "refuse", "()Z"⟩, 8) := ⟨⟨by decide +kernel, by decide +kernel⟩, List.mem_of_getElem? (i := 101) (by decide +kernel), List.mem_of_getElem? (i := 424) (by decide +kernel), List.mem_of_getElem? (i := 425) (by decide +kernel)⟩
theorem lw_p7 : lw_okq (⟨"NoDayForIt$LawReader", "takeNumber", "(II)I"⟩, 8) := ⟨⟨by decide +kernel, by decide +kernel⟩, List.mem_of_getElem? (i := 101) (by decide +kernel), List.mem_of_getElem? (i := 428) (by decide +kernel), List.mem_of_getElem? (i := 429) (by decide +kernel)⟩
theorem lw_p8 : lw_okq (⟨"NoDayForIt$LawReader", "takeMark", "()Z"⟩, 8) := ⟨⟨by decide +kernel, by decide +kernel⟩, List.mem_of_getElem? (i := 101) (by decide +kernel), List.mem_of_getElem? (i := 432) (by decide +kernel), List.mem_of_getElem? (i := 433) (by decide +kernel)⟩
theorem lw_p9 : lw_okq (⟨"NoDayForIt$LawReader", "isEvery", "()Z"⟩, 8) := ⟨⟨by decide +kernel, by decide +kernel⟩, List.mem_of_getElem? (i := 101) (by decide +kernel), List.mem_of_getElem? (i := 437) (by decide +kernel), List.mem_of_getElem? (i := 438) (by decide +kernel)⟩
theorem lw_p10 : lw_okq (⟨"NoDayForIt$LawReader", "take", "(Ljava/lang/String;)Z"⟩, 8) := ⟨⟨by decide +kernel, by decide +kernel⟩, List.mem_of_getElem? (i := 101) (by decide +kernel), List.mem_of_getElem? (i := 442) (by decide +kernel), List.mem_of_getElem? (i := 443) (by decide +kernel)⟩
theorem lw_p11 : lw_okq (⟨"NoDayForIt$LawReader", "takeKind", "()I"⟩, 8) := ⟨⟨by decide +kernel, by decide +kernel⟩, List.mem_of_getElem? (i := 101) (by decide +kernel), List.mem_of_getElem? (i := 446) (by decide +kernel), List.mem_of_getElem? (i := 447) (by decide +kernel)⟩
theorem lw_p12 : lw_okq (⟨"NoDayForIt$LawReader", "kindHere", "()I"⟩, 8) := ⟨⟨by decide +kernel, by decide +kernel⟩, List.mem_of_getElem? (i := 101) (by decide +kernel), List.mem_of_getElem? (i := 450) (by decide +kernel), List.mem_of_getElem? (i := 451) (by decide +kernel)⟩
theorem lw_p13 : lw_okq (⟨"NoDayForIt$LawReader", "isDays", "()Z"⟩, 8) := ⟨⟨by decide +kernel, by decide +kernel⟩, List.mem_of_getElem? (i := 101) (by decide +kernel), List.mem_of_getElem? (i := 466) (by decide +kernel), List.mem_of_getElem? (i := 467) (by decide +kernel)⟩
theorem lw_p14 : lw_okq (⟨"NoDayForIt$LawReader", "isBillItem", "()Z"⟩, 8) := ⟨⟨by decide +kernel, by decide +kernel⟩, List.mem_of_getElem? (i := 101) (by decide +kernel), List.mem_of_getElem? (i := 471) (by decide +kernel), List.mem_of_getElem? (i := 472) (by decide +kernel)⟩
theorem lw_p15 : lw_okq (⟨"NoDayForIt$LawReader", "isStep", "()Z"⟩, 8) := ⟨⟨by decide +kernel, by decide +kernel⟩, List.mem_of_getElem? (i := 101) (by decide +kernel), List.mem_of_getElem? (i := 476) (by decide +kernel), List.mem_of_getElem? (i := 477) (by decide +kernel)⟩
def lw_privs_1 : List (MethodName × Nat) := [(⟨"NoDayForIt$LawReader", "advance", "()V"⟩, 8), (⟨"NoDayForIt$LawReader", "byteAt", "(I)I"⟩, 8), (⟨"NoDayForIt$LawReader", "advanceLetters", "()V"⟩, 8), (⟨"NoDayForIt$LawReader", "advanceNumber", "()V"⟩, 8), (⟨"NoDayForIt$LawReader", "isName", "(Ljava/lang/String;)Z"⟩, 8), (⟨"NoDayForIt$LawReader", "isYear", "()Z"⟩, 8), (⟨"NoDayForIt$LawReader", "refuse", "()Z"⟩, 8), (⟨"NoDayForIt$LawReader", "takeNumber", "(II)I"⟩, 8), (⟨"NoDayForIt$LawReader", "takeMark", "()Z"⟩, 8), (⟨"NoDayForIt$LawReader", "isEvery", "()Z"⟩, 8), (⟨"NoDayForIt$LawReader", "take", "(Ljava/lang/String;)Z"⟩, 8), (⟨"NoDayForIt$LawReader", "takeKind", "()I"⟩, 8), (⟨"NoDayForIt$LawReader", "kindHere", "()I"⟩, 8), (⟨"NoDayForIt$LawReader", "isDays", "()Z"⟩, 8), (⟨"NoDayForIt$LawReader", "isBillItem", "()Z"⟩, 8), (⟨"NoDayForIt$LawReader", "isStep", "()Z"⟩, 8)]
theorem lw_r1 : ∀ q ∈ lw_privs_1, lw_okq q := List.forall_mem_cons.mpr ⟨lw_p0, List.forall_mem_cons.mpr ⟨lw_p1, List.forall_mem_cons.mpr ⟨lw_p2, List.forall_mem_cons.mpr ⟨lw_p3, List.forall_mem_cons.mpr ⟨lw_p4, List.forall_mem_cons.mpr ⟨lw_p5, List.forall_mem_cons.mpr ⟨lw_p6, List.forall_mem_cons.mpr ⟨lw_p7, List.forall_mem_cons.mpr ⟨lw_p8, List.forall_mem_cons.mpr ⟨lw_p9, List.forall_mem_cons.mpr ⟨lw_p10, List.forall_mem_cons.mpr ⟨lw_p11, List.forall_mem_cons.mpr ⟨lw_p12, List.forall_mem_cons.mpr ⟨lw_p13, List.forall_mem_cons.mpr ⟨lw_p14, List.forall_mem_cons.mpr ⟨lw_p15, fun _ h => absurd h List.not_mem_nil⟩⟩⟩⟩⟩⟩⟩⟩⟩⟩⟩⟩⟩⟩⟩⟩
theorem lw_p16 : lw_okq (⟨"NoDayForIt$LawReader", "areKinds", "(LNoDayForIt$Step;)Z"⟩, 8) := ⟨⟨by decide +kernel, by decide +kernel⟩, List.mem_of_getElem? (i := 101) (by decide +kernel), List.mem_of_getElem? (i := 500) (by decide +kernel), List.mem_of_getElem? (i := 501) (by decide +kernel)⟩
theorem lw_p17 : lw_okq (⟨"NoDayForIt$LawReader", "perhapsTake", "(Ljava/lang/String;)Z"⟩, 8) := ⟨⟨by decide +kernel, by decide +kernel⟩, List.mem_of_getElem? (i := 101) (by decide +kernel), List.mem_of_getElem? (i := 505) (by decide +kernel), List.mem_of_getElem? (i := 506) (by decide +kernel)⟩
theorem lw_p18 : lw_okq (⟨"NoDayForIt", "isDay", "(I)Z"⟩, 16) := ⟨⟨by decide +kernel, by decide +kernel⟩, List.mem_of_getElem? (i := 20) (by decide +kernel), List.mem_of_getElem? (i := 526) (by decide +kernel), List.mem_of_getElem? (i := 527) (by decide +kernel)⟩
theorem lw_p19 : lw_okq (⟨"NoDayForIt", "kindNow", "(I)I"⟩, 16) := ⟨⟨by decide +kernel, by decide +kernel⟩, List.mem_of_getElem? (i := 20) (by decide +kernel), List.mem_of_getElem? (i := 530) (by decide +kernel), List.mem_of_getElem? (i := 531) (by decide +kernel)⟩
theorem lw_p20 : lw_okq (⟨"NoDayForIt", "mayBeDone", "(IIII)Z"⟩, 16) := ⟨⟨by decide +kernel, by decide +kernel⟩, List.mem_of_getElem? (i := 20) (by decide +kernel), List.mem_of_getElem? (i := 562) (by decide +kernel), List.mem_of_getElem? (i := 563) (by decide +kernel)⟩
theorem lw_p21 : lw_okq (⟨"NoDayForIt", "canBeOf", "(II)Z"⟩, 16) := ⟨⟨by decide +kernel, by decide +kernel⟩, List.mem_of_getElem? (i := 20) (by decide +kernel), List.mem_of_getElem? (i := 616) (by decide +kernel), List.mem_of_getElem? (i := 617) (by decide +kernel)⟩
theorem lw_p22 : lw_okq (⟨"NoDayForIt", "isDoneLawfully", "(III)Z"⟩, 16) := ⟨⟨by decide +kernel, by decide +kernel⟩, List.mem_of_getElem? (i := 20) (by decide +kernel), List.mem_of_getElem? (i := 623) (by decide +kernel), List.mem_of_getElem? (i := 624) (by decide +kernel)⟩
theorem lw_p23 : lw_okq (⟨"NoDayForIt", "callOf", "(I)Z"⟩, 16) := ⟨⟨by decide +kernel, by decide +kernel⟩, List.mem_of_getElem? (i := 20) (by decide +kernel), List.mem_of_getElem? (i := 627) (by decide +kernel), List.mem_of_getElem? (i := 628) (by decide +kernel)⟩
theorem lw_p24 : lw_okq (⟨"NoDayForIt", "forbidBy", "(I)Z"⟩, 16) := ⟨⟨by decide +kernel, by decide +kernel⟩, List.mem_of_getElem? (i := 20) (by decide +kernel), List.mem_of_getElem? (i := 644) (by decide +kernel), List.mem_of_getElem? (i := 645) (by decide +kernel)⟩
theorem lw_p25 : lw_okq (⟨"NoDayForIt", "watchBy", "(I)Z"⟩, 16) := ⟨⟨by decide +kernel, by decide +kernel⟩, List.mem_of_getElem? (i := 20) (by decide +kernel), List.mem_of_getElem? (i := 652) (by decide +kernel), List.mem_of_getElem? (i := 653) (by decide +kernel)⟩
theorem lw_p26 : lw_okq (⟨"NoDayForIt", "hasSignLeft", "(I)Z"⟩, 16) := ⟨⟨by decide +kernel, by decide +kernel⟩, List.mem_of_getElem? (i := 20) (by decide +kernel), List.mem_of_getElem? (i := 656) (by decide +kernel), List.mem_of_getElem? (i := 657) (by decide +kernel)⟩
theorem lw_p27 : lw_okq (⟨"NoDayForIt", "makeHolyBy", "(II)Z"⟩, 16) := ⟨⟨by decide +kernel, by decide +kernel⟩, List.mem_of_getElem? (i := 20) (by decide +kernel), List.mem_of_getElem? (i := 660) (by decide +kernel), List.mem_of_getElem? (i := 661) (by decide +kernel)⟩
theorem lw_p28 : lw_okq (⟨"NoDayForIt", "forceOn", "()Z"⟩, 16) := ⟨⟨by decide +kernel, by decide +kernel⟩, List.mem_of_getElem? (i := 20) (by decide +kernel), List.mem_of_getElem? (i := 668) (by decide +kernel), List.mem_of_getElem? (i := 669) (by decide +kernel)⟩
theorem lw_p29 : lw_okq (⟨"NoDayForIt", "waitOn", "()Z"⟩, 16) := ⟨⟨by decide +kernel, by decide +kernel⟩, List.mem_of_getElem? (i := 20) (by decide +kernel), List.mem_of_getElem? (i := 672) (by decide +kernel), List.mem_of_getElem? (i := 673) (by decide +kernel)⟩
theorem lw_p30 : lw_okq (⟨"NoDayForIt", "fallBackIfLate", "(I)V"⟩, 16) := ⟨⟨by decide +kernel, by decide +kernel⟩, List.mem_of_getElem? (i := 20) (by decide +kernel), List.mem_of_getElem? (i := 676) (by decide +kernel), List.mem_of_getElem? (i := 677) (by decide +kernel)⟩
theorem lw_p31 : lw_okq (⟨"NoDayForIt", "carriedBills", "()I"⟩, 16) := ⟨⟨by decide +kernel, by decide +kernel⟩, List.mem_of_getElem? (i := 20) (by decide +kernel), List.mem_of_getElem? (i := 688) (by decide +kernel), List.mem_of_getElem? (i := 689) (by decide +kernel)⟩
def lw_privs_2 : List (MethodName × Nat) := [(⟨"NoDayForIt$LawReader", "areKinds", "(LNoDayForIt$Step;)Z"⟩, 8), (⟨"NoDayForIt$LawReader", "perhapsTake", "(Ljava/lang/String;)Z"⟩, 8), (⟨"NoDayForIt", "isDay", "(I)Z"⟩, 16), (⟨"NoDayForIt", "kindNow", "(I)I"⟩, 16), (⟨"NoDayForIt", "mayBeDone", "(IIII)Z"⟩, 16), (⟨"NoDayForIt", "canBeOf", "(II)Z"⟩, 16), (⟨"NoDayForIt", "isDoneLawfully", "(III)Z"⟩, 16), (⟨"NoDayForIt", "callOf", "(I)Z"⟩, 16), (⟨"NoDayForIt", "forbidBy", "(I)Z"⟩, 16), (⟨"NoDayForIt", "watchBy", "(I)Z"⟩, 16), (⟨"NoDayForIt", "hasSignLeft", "(I)Z"⟩, 16), (⟨"NoDayForIt", "makeHolyBy", "(II)Z"⟩, 16), (⟨"NoDayForIt", "forceOn", "()Z"⟩, 16), (⟨"NoDayForIt", "waitOn", "()Z"⟩, 16), (⟨"NoDayForIt", "fallBackIfLate", "(I)V"⟩, 16), (⟨"NoDayForIt", "carriedBills", "()I"⟩, 16)]
theorem lw_r2 : ∀ q ∈ lw_privs_2, lw_okq q := List.forall_mem_cons.mpr ⟨lw_p16, List.forall_mem_cons.mpr ⟨lw_p17, List.forall_mem_cons.mpr ⟨lw_p18, List.forall_mem_cons.mpr ⟨lw_p19, List.forall_mem_cons.mpr ⟨lw_p20, List.forall_mem_cons.mpr ⟨lw_p21, List.forall_mem_cons.mpr ⟨lw_p22, List.forall_mem_cons.mpr ⟨lw_p23, List.forall_mem_cons.mpr ⟨lw_p24, List.forall_mem_cons.mpr ⟨lw_p25, List.forall_mem_cons.mpr ⟨lw_p26, List.forall_mem_cons.mpr ⟨lw_p27, List.forall_mem_cons.mpr ⟨lw_p28, List.forall_mem_cons.mpr ⟨lw_p29, List.forall_mem_cons.mpr ⟨lw_p30, List.forall_mem_cons.mpr ⟨lw_p31, fun _ h => absurd h List.not_mem_nil⟩⟩⟩⟩⟩⟩⟩⟩⟩⟩⟩⟩⟩⟩⟩⟩
theorem lw_p32 : lw_okq (⟨"NoDayForIt", "isCarried", "(I)Z"⟩, 16) := ⟨⟨by decide +kernel, by decide +kernel⟩, List.mem_of_getElem? (i := 20) (by decide +kernel), List.mem_of_getElem? (i := 692) (by decide +kernel), List.mem_of_getElem? (i := 693) (by decide +kernel)⟩
theorem lw_p33 : lw_okq (⟨"NoDayForIt", "isVoid", "(I)Z"⟩, 16) := ⟨⟨by decide +kernel, by decide +kernel⟩, List.mem_of_getElem? (i := 20) (by decide +kernel), List.mem_of_getElem? (i := 697) (by decide +kernel), List.mem_of_getElem? (i := 698) (by decide +kernel)⟩
theorem lw_p34 : lw_okq (⟨"NoDayForIt", "isOpen", "(I)Z"⟩, 16) := ⟨⟨by decide +kernel, by decide +kernel⟩, List.mem_of_getElem? (i := 20) (by decide +kernel), List.mem_of_getElem? (i := 709) (by decide +kernel), List.mem_of_getElem? (i := 710) (by decide +kernel)⟩
theorem lw_p35 : lw_okq (⟨"NoDayForIt$DaysAhead", "fillRest", "(LNoDayForIt$Law;LNoDayForIt$Acts;I)V"⟩, 10) := ⟨⟨by decide +kernel, by decide +kernel⟩, List.mem_of_getElem? (i := 219) (by decide +kernel), List.mem_of_getElem? (i := 717) (by decide +kernel), List.mem_of_getElem? (i := 718) (by decide +kernel)⟩
theorem lw_p36 : lw_okq (⟨"NoDayForIt$DaysAhead", "costOn", "(LNoDayForIt$Step;I)I"⟩, 10) := ⟨⟨by decide +kernel, by decide +kernel⟩, List.mem_of_getElem? (i := 219) (by decide +kernel), List.mem_of_getElem? (i := 724) (by decide +kernel), List.mem_of_getElem? (i := 725) (by decide +kernel)⟩
theorem lw_p37 : lw_okq (⟨"NoDayForIt$DaysAhead", "leastRest", "(III)I"⟩, 10) := ⟨⟨by decide +kernel, by decide +kernel⟩, List.mem_of_getElem? (i := 219) (by decide +kernel), List.mem_of_getElem? (i := 729) (by decide +kernel), List.mem_of_getElem? (i := 730) (by decide +kernel)⟩
theorem lw_p38 : lw_okq (⟨"NoDayForIt$DaysAhead", "leastFallen", "(III)I"⟩, 10) := ⟨⟨by decide +kernel, by decide +kernel⟩, List.mem_of_getElem? (i := 219) (by decide +kernel), List.mem_of_getElem? (i := 743) (by decide +kernel), List.mem_of_getElem? (i := 744) (by decide +kernel)⟩
theorem lw_p39 : lw_okq (⟨"NoDayForIt$DaysAhead", "fillSpent", "(III)V"⟩, 10) := ⟨⟨by decide +kernel, by decide +kernel⟩, List.mem_of_getElem? (i := 219) (by decide +kernel), List.mem_of_getElem? (i := 747) (by decide +kernel), List.mem_of_getElem? (i := 748) (by decide +kernel)⟩
theorem lw_p40 : lw_okq (⟨"NoDayForIt$DaysAhead", "leastSpent", "(III)I"⟩, 10) := ⟨⟨by decide +kernel, by decide +kernel⟩, List.mem_of_getElem? (i := 219) (by decide +kernel), List.mem_of_getElem? (i := 751) (by decide +kernel), List.mem_of_getElem? (i := 752) (by decide +kernel)⟩
theorem lw_p41 : lw_okq (⟨"NoDayForIt$DaysAhead", "leastFromFall", "(III)I"⟩, 10) := ⟨⟨by decide +kernel, by decide +kernel⟩, List.mem_of_getElem? (i := 219) (by decide +kernel), List.mem_of_getElem? (i := 755) (by decide +kernel), List.mem_of_getElem? (i := 756) (by decide +kernel)⟩
theorem lw_p42 : lw_okq (⟨"NoDayForIt$DaysAhead", "fillRow", "(IIII)V"⟩, 10) := ⟨⟨by decide +kernel, by decide +kernel⟩, List.mem_of_getElem? (i := 219) (by decide +kernel), List.mem_of_getElem? (i := 759) (by decide +kernel), List.mem_of_getElem? (i := 760) (by decide +kernel)⟩
theorem lw_p43 : lw_okq (⟨"NoDayForIt$Matters", "sumOf", "(II)I"⟩, 2) := ⟨⟨by decide +kernel, by decide +kernel⟩, List.mem_of_getElem? (i := 258) (by decide +kernel), List.mem_of_getElem? (i := 819) (by decide +kernel), List.mem_of_getElem? (i := 820) (by decide +kernel)⟩
theorem lw_p44 : lw_okq (⟨"NoDayForIt", "doMend", "(I)Z"⟩, 16) := ⟨⟨by decide +kernel, by decide +kernel⟩, List.mem_of_getElem? (i := 20) (by decide +kernel), List.mem_of_getElem? (i := 858) (by decide +kernel), List.mem_of_getElem? (i := 859) (by decide +kernel)⟩
theorem lw_p45 : lw_okq (⟨"NoDayForIt", "rewriteDraft", "(I)V"⟩, 16) := ⟨⟨by decide +kernel, by decide +kernel⟩, List.mem_of_getElem? (i := 20) (by decide +kernel), List.mem_of_getElem? (i := 873) (by decide +kernel), List.mem_of_getElem? (i := 874) (by decide +kernel)⟩
theorem lw_p46 : lw_okq (⟨"NoDayForIt", "priceOfAct", "(I)I"⟩, 16) := ⟨⟨by decide +kernel, by decide +kernel⟩, List.mem_of_getElem? (i := 20) (by decide +kernel), List.mem_of_getElem? (i := 891) (by decide +kernel), List.mem_of_getElem? (i := 892) (by decide +kernel)⟩
theorem lw_p47 : lw_okq (⟨"NoDayForIt", "priceOfStep", "(II)I"⟩, 16) := ⟨⟨by decide +kernel, by decide +kernel⟩, List.mem_of_getElem? (i := 20) (by decide +kernel), List.mem_of_getElem? (i := 895) (by decide +kernel), List.mem_of_getElem? (i := 896) (by decide +kernel)⟩
def lw_privs_3 : List (MethodName × Nat) := [(⟨"NoDayForIt", "isCarried", "(I)Z"⟩, 16), (⟨"NoDayForIt", "isVoid", "(I)Z"⟩, 16), (⟨"NoDayForIt", "isOpen", "(I)Z"⟩, 16), (⟨"NoDayForIt$DaysAhead", "fillRest", "(LNoDayForIt$Law;LNoDayForIt$Acts;I)V"⟩, 10), (⟨"NoDayForIt$DaysAhead", "costOn", "(LNoDayForIt$Step;I)I"⟩, 10), (⟨"NoDayForIt$DaysAhead", "leastRest", "(III)I"⟩, 10), (⟨"NoDayForIt$DaysAhead", "leastFallen", "(III)I"⟩, 10), (⟨"NoDayForIt$DaysAhead", "fillSpent", "(III)V"⟩, 10), (⟨"NoDayForIt$DaysAhead", "leastSpent", "(III)I"⟩, 10), (⟨"NoDayForIt$DaysAhead", "leastFromFall", "(III)I"⟩, 10), (⟨"NoDayForIt$DaysAhead", "fillRow", "(IIII)V"⟩, 10), (⟨"NoDayForIt$Matters", "sumOf", "(II)I"⟩, 2), (⟨"NoDayForIt", "doMend", "(I)Z"⟩, 16), (⟨"NoDayForIt", "rewriteDraft", "(I)V"⟩, 16), (⟨"NoDayForIt", "priceOfAct", "(I)I"⟩, 16), (⟨"NoDayForIt", "priceOfStep", "(II)I"⟩, 16)]
theorem lw_r3 : ∀ q ∈ lw_privs_3, lw_okq q := List.forall_mem_cons.mpr ⟨lw_p32, List.forall_mem_cons.mpr ⟨lw_p33, List.forall_mem_cons.mpr ⟨lw_p34, List.forall_mem_cons.mpr ⟨lw_p35, List.forall_mem_cons.mpr ⟨lw_p36, List.forall_mem_cons.mpr ⟨lw_p37, List.forall_mem_cons.mpr ⟨lw_p38, List.forall_mem_cons.mpr ⟨lw_p39, List.forall_mem_cons.mpr ⟨lw_p40, List.forall_mem_cons.mpr ⟨lw_p41, List.forall_mem_cons.mpr ⟨lw_p42, List.forall_mem_cons.mpr ⟨lw_p43, List.forall_mem_cons.mpr ⟨lw_p44, List.forall_mem_cons.mpr ⟨lw_p45, List.forall_mem_cons.mpr ⟨lw_p46, List.forall_mem_cons.mpr ⟨lw_p47, fun _ h => absurd h List.not_mem_nil⟩⟩⟩⟩⟩⟩⟩⟩⟩⟩⟩⟩⟩⟩⟩⟩
theorem lw_p48 : lw_okq (⟨"NoDayForIt", "priceOfForbid", "(I)I"⟩, 16) := ⟨⟨by decide +kernel, by decide +kernel⟩, List.mem_of_getElem? (i := 20) (by decide +kernel), List.mem_of_getElem? (i := 900) (by decide +kernel), List.mem_of_getElem? (i := 901) (by decide +kernel)⟩
theorem lw_p49 : lw_okq (⟨"NoDayForIt", "priceOfWatch", "(II)I"⟩, 16) := ⟨⟨by decide +kernel, by decide +kernel⟩, List.mem_of_getElem? (i := 20) (by decide +kernel), List.mem_of_getElem? (i := 905) (by decide +kernel), List.mem_of_getElem? (i := 906) (by decide +kernel)⟩
theorem lw_p50 : lw_okq (⟨"NoDayForIt", "priceOfHoly", "(II)I"⟩, 16) := ⟨⟨by decide +kernel, by decide +kernel⟩, List.mem_of_getElem? (i := 20) (by decide +kernel), List.mem_of_getElem? (i := 910) (by decide +kernel), List.mem_of_getElem? (i := 911) (by decide +kernel)⟩
theorem lw_p51 : lw_okq (⟨"NoDayForIt", "priceOfJoin", "(I)I"⟩, 16) := ⟨⟨by decide +kernel, by decide +kernel⟩, List.mem_of_getElem? (i := 20) (by decide +kernel), List.mem_of_getElem? (i := 915) (by decide +kernel), List.mem_of_getElem? (i := 916) (by decide +kernel)⟩
theorem lw_p52 : lw_okq (⟨"NoDayForIt", "priceOfForce", "(I)I"⟩, 16) := ⟨⟨by decide +kernel, by decide +kernel⟩, List.mem_of_getElem? (i := 20) (by decide +kernel), List.mem_of_getElem? (i := 920) (by decide +kernel), List.mem_of_getElem? (i := 921) (by decide +kernel)⟩
theorem lw_p53 : lw_okq (⟨"NoDayForIt", "isImage", "(I)Z"⟩, 16) := ⟨⟨by decide +kernel, by decide +kernel⟩, List.mem_of_getElem? (i := 20) (by decide +kernel), List.mem_of_getElem? (i := 932) (by decide +kernel), List.mem_of_getElem? (i := 933) (by decide +kernel)⟩
theorem lw_p54 : lw_okq (⟨"NoDayForIt", "leftOf", "(I)I"⟩, 16) := ⟨⟨by decide +kernel, by decide +kernel⟩, List.mem_of_getElem? (i := 20) (by decide +kernel), List.mem_of_getElem? (i := 949) (by decide +kernel), List.mem_of_getElem? (i := 950) (by decide +kernel)⟩
theorem lw_p55 : lw_okq (⟨"NoDayForItModel", "begin", "()V"⟩, 44) := ⟨⟨by decide +kernel, by decide +kernel⟩, List.mem_of_getElem? (i := 963) (by decide +kernel), List.mem_of_getElem? (i := 969) (by decide +kernel), List.mem_of_getElem? (i := 970) (by decide +kernel)⟩
theorem lw_p56 : lw_okq (⟨"NoDayForItModel", "next", "()V"⟩, 44) := ⟨⟨by decide +kernel, by decide +kernel⟩, List.mem_of_getElem? (i := 963) (by decide +kernel), List.mem_of_getElem? (i := 1124) (by decide +kernel), List.mem_of_getElem? (i := 1125) (by decide +kernel)⟩
theorem lw_p57 : lw_okq (⟨"NoDayForItModel", "here", "()I"⟩, 44) := ⟨⟨by decide +kernel, by decide +kernel⟩, List.mem_of_getElem? (i := 963) (by decide +kernel), List.mem_of_getElem? (i := 1128) (by decide +kernel), List.mem_of_getElem? (i := 1129) (by decide +kernel)⟩
theorem lw_p58 : lw_okq (⟨"NoDayForItModel", "mean", "(I)V"⟩, 44) := ⟨⟨by decide +kernel, by decide +kernel⟩, List.mem_of_getElem? (i := 963) (by decide +kernel), List.mem_of_getElem? (i := 1132) (by decide +kernel), List.mem_of_getElem? (i := 1133) (by decide +kernel)⟩
theorem lw_p59 : lw_okq (⟨"NoDayForItModel", "readStep", "(I)V"⟩, 44) := ⟨⟨by decide +kernel, by decide +kernel⟩, List.mem_of_getElem? (i := 963) (by decide +kernel), List.mem_of_getElem? (i := 1136) (by decide +kernel), List.mem_of_getElem? (i := 1137) (by decide +kernel)⟩
theorem lw_p60 : lw_okq (⟨"NoDayForItModel", "due", "(Z)I"⟩, 44) := ⟨⟨by decide +kernel, by decide +kernel⟩, List.mem_of_getElem? (i := 963) (by decide +kernel), List.mem_of_getElem? (i := 1140) (by decide +kernel), List.mem_of_getElem? (i := 1141) (by decide +kernel)⟩
theorem lw_p61 : lw_okq (⟨"NoDayForItModel", "number", "(II)I"⟩, 44) := ⟨⟨by decide +kernel, by decide +kernel⟩, List.mem_of_getElem? (i := 963) (by decide +kernel), List.mem_of_getElem? (i := 1144) (by decide +kernel), List.mem_of_getElem? (i := 1145) (by decide +kernel)⟩
theorem lw_p62 : lw_okq (⟨"NoDayForItModel", "readEvery", "()V"⟩, 44) := ⟨⟨by decide +kernel, by decide +kernel⟩, List.mem_of_getElem? (i := 963) (by decide +kernel), List.mem_of_getElem? (i := 1148) (by decide +kernel), List.mem_of_getElem? (i := 1149) (by decide +kernel)⟩
theorem lw_p63 : lw_okq (⟨"NoDayForItModel", "readDays", "()V"⟩, 44) := ⟨⟨by decide +kernel, by decide +kernel⟩, List.mem_of_getElem? (i := 963) (by decide +kernel), List.mem_of_getElem? (i := 1152) (by decide +kernel), List.mem_of_getElem? (i := 1153) (by decide +kernel)⟩
def lw_privs_4 : List (MethodName × Nat) := [(⟨"NoDayForIt", "priceOfForbid", "(I)I"⟩, 16), (⟨"NoDayForIt", "priceOfWatch", "(II)I"⟩, 16), (⟨"NoDayForIt", "priceOfHoly", "(II)I"⟩, 16), (⟨"NoDayForIt", "priceOfJoin", "(I)I"⟩, 16), (⟨"NoDayForIt", "priceOfForce", "(I)I"⟩, 16), (⟨"NoDayForIt", "isImage", "(I)Z"⟩, 16), (⟨"NoDayForIt", "leftOf", "(I)I"⟩, 16), (⟨"NoDayForItModel", "begin", "()V"⟩, 44), (⟨"NoDayForItModel", "next", "()V"⟩, 44), (⟨"NoDayForItModel", "here", "()I"⟩, 44), (⟨"NoDayForItModel", "mean", "(I)V"⟩, 44), (⟨"NoDayForItModel", "readStep", "(I)V"⟩, 44), (⟨"NoDayForItModel", "due", "(Z)I"⟩, 44), (⟨"NoDayForItModel", "number", "(II)I"⟩, 44), (⟨"NoDayForItModel", "readEvery", "()V"⟩, 44), (⟨"NoDayForItModel", "readDays", "()V"⟩, 44)]
theorem lw_r4 : ∀ q ∈ lw_privs_4, lw_okq q := List.forall_mem_cons.mpr ⟨lw_p48, List.forall_mem_cons.mpr ⟨lw_p49, List.forall_mem_cons.mpr ⟨lw_p50, List.forall_mem_cons.mpr ⟨lw_p51, List.forall_mem_cons.mpr ⟨lw_p52, List.forall_mem_cons.mpr ⟨lw_p53, List.forall_mem_cons.mpr ⟨lw_p54, List.forall_mem_cons.mpr ⟨lw_p55, List.forall_mem_cons.mpr ⟨lw_p56, List.forall_mem_cons.mpr ⟨lw_p57, List.forall_mem_cons.mpr ⟨lw_p58, List.forall_mem_cons.mpr ⟨lw_p59, List.forall_mem_cons.mpr ⟨lw_p60, List.forall_mem_cons.mpr ⟨lw_p61, List.forall_mem_cons.mpr ⟨lw_p62, List.forall_mem_cons.mpr ⟨lw_p63, fun _ h => absurd h List.not_mem_nil⟩⟩⟩⟩⟩⟩⟩⟩⟩⟩⟩⟩⟩⟩⟩⟩
theorem lw_p64 : lw_okq (⟨"NoDayForItModel", "isDay", "(I)Z"⟩, 44) := ⟨⟨by decide +kernel, by decide +kernel⟩, List.mem_of_getElem? (i := 963) (by decide +kernel), List.mem_of_getElem? (i := 1160) (by decide +kernel), List.mem_of_getElem? (i := 1161) (by decide +kernel)⟩
theorem lw_p65 : lw_okq (⟨"NoDayForItModel", "kindNow", "(I)I"⟩, 44) := ⟨⟨by decide +kernel, by decide +kernel⟩, List.mem_of_getElem? (i := 963) (by decide +kernel), List.mem_of_getElem? (i := 1164) (by decide +kernel), List.mem_of_getElem? (i := 1165) (by decide +kernel)⟩
theorem lw_p66 : lw_okq (⟨"NoDayForItModel", "isStep", "(II)Z"⟩, 44) := ⟨⟨by decide +kernel, by decide +kernel⟩, List.mem_of_getElem? (i := 963) (by decide +kernel), List.mem_of_getElem? (i := 1176) (by decide +kernel), List.mem_of_getElem? (i := 1177) (by decide +kernel)⟩
theorem lw_p67 : lw_okq (⟨"NoDayForItModel", "lay", "(IZ)V"⟩, 44) := ⟨⟨by decide +kernel, by decide +kernel⟩, List.mem_of_getElem? (i := 963) (by decide +kernel), List.mem_of_getElem? (i := 1187) (by decide +kernel), List.mem_of_getElem? (i := 1188) (by decide +kernel)⟩
theorem lw_p68 : lw_okq (⟨"NoDayForItModel", "isKind", "(II)Z"⟩, 44) := ⟨⟨by decide +kernel, by decide +kernel⟩, List.mem_of_getElem? (i := 963) (by decide +kernel), List.mem_of_getElem? (i := 1191) (by decide +kernel), List.mem_of_getElem? (i := 1192) (by decide +kernel)⟩
theorem lw_p69 : lw_okq (⟨"NoDayForItModel", "isFar", "(III)Z"⟩, 44) := ⟨⟨by decide +kernel, by decide +kernel⟩, List.mem_of_getElem? (i := 963) (by decide +kernel), List.mem_of_getElem? (i := 1195) (by decide +kernel), List.mem_of_getElem? (i := 1196) (by decide +kernel)⟩
theorem lw_p70 : lw_okq (⟨"NoDayForItModel", "timesOf", "(I)I"⟩, 44) := ⟨⟨by decide +kernel, by decide +kernel⟩, List.mem_of_getElem? (i := 963) (by decide +kernel), List.mem_of_getElem? (i := 1203) (by decide +kernel), List.mem_of_getElem? (i := 1204) (by decide +kernel)⟩
theorem lw_p71 : lw_okq (⟨"NoDayForItModel", "isPerson", "(I)Z"⟩, 44) := ⟨⟨by decide +kernel, by decide +kernel⟩, List.mem_of_getElem? (i := 963) (by decide +kernel), List.mem_of_getElem? (i := 1211) (by decide +kernel), List.mem_of_getElem? (i := 1212) (by decide +kernel)⟩
theorem lw_p72 : lw_okq (⟨"NoDayForItModel", "isLawful", "(III)Z"⟩, 44) := ⟨⟨by decide +kernel, by decide +kernel⟩, List.mem_of_getElem? (i := 963) (by decide +kernel), List.mem_of_getElem? (i := 1219) (by decide +kernel), List.mem_of_getElem? (i := 1220) (by decide +kernel)⟩
theorem lw_p73 : lw_okq (⟨"NoDayForItModel", "call", "(I)Z"⟩, 44) := ⟨⟨by decide +kernel, by decide +kernel⟩, List.mem_of_getElem? (i := 963) (by decide +kernel), List.mem_of_getElem? (i := 1223) (by decide +kernel), List.mem_of_getElem? (i := 1224) (by decide +kernel)⟩
theorem lw_p74 : lw_okq (⟨"NoDayForItModel", "doneOf", "(I)I"⟩, 44) := ⟨⟨by decide +kernel, by decide +kernel⟩, List.mem_of_getElem? (i := 963) (by decide +kernel), List.mem_of_getElem? (i := 1227) (by decide +kernel), List.mem_of_getElem? (i := 1228) (by decide +kernel)⟩
theorem lw_p75 : lw_okq (⟨"NoDayForItModel", "canOn", "(III)Z"⟩, 44) := ⟨⟨by decide +kernel, by decide +kernel⟩, List.mem_of_getElem? (i := 963) (by decide +kernel), List.mem_of_getElem? (i := 1231) (by decide +kernel), List.mem_of_getElem? (i := 1232) (by decide +kernel)⟩
theorem lw_p76 : lw_okq (⟨"NoDayForItModel", "isVoid", "(I)Z"⟩, 44) := ⟨⟨by decide +kernel, by decide +kernel⟩, List.mem_of_getElem? (i := 963) (by decide +kernel), List.mem_of_getElem? (i := 1235) (by decide +kernel), List.mem_of_getElem? (i := 1236) (by decide +kernel)⟩
theorem lw_p77 : lw_okq (⟨"NoDayForItModel", "forbids", "(I)Z"⟩, 44) := ⟨⟨by decide +kernel, by decide +kernel⟩, List.mem_of_getElem? (i := 963) (by decide +kernel), List.mem_of_getElem? (i := 1239) (by decide +kernel), List.mem_of_getElem? (i := 1240) (by decide +kernel)⟩
theorem lw_p78 : lw_okq (⟨"NoDayForItModel", "isSigner", "(I)Z"⟩, 44) := ⟨⟨by decide +kernel, by decide +kernel⟩, List.mem_of_getElem? (i := 963) (by decide +kernel), List.mem_of_getElem? (i := 1243) (by decide +kernel), List.mem_of_getElem? (i := 1244) (by decide +kernel)⟩
theorem lw_p79 : lw_okq (⟨"NoDayForItModel", "isOpen", "(I)Z"⟩, 44) := ⟨⟨by decide +kernel, by decide +kernel⟩, List.mem_of_getElem? (i := 963) (by decide +kernel), List.mem_of_getElem? (i := 1259) (by decide +kernel), List.mem_of_getElem? (i := 1260) (by decide +kernel)⟩
def lw_privs_5 : List (MethodName × Nat) := [(⟨"NoDayForItModel", "isDay", "(I)Z"⟩, 44), (⟨"NoDayForItModel", "kindNow", "(I)I"⟩, 44), (⟨"NoDayForItModel", "isStep", "(II)Z"⟩, 44), (⟨"NoDayForItModel", "lay", "(IZ)V"⟩, 44), (⟨"NoDayForItModel", "isKind", "(II)Z"⟩, 44), (⟨"NoDayForItModel", "isFar", "(III)Z"⟩, 44), (⟨"NoDayForItModel", "timesOf", "(I)I"⟩, 44), (⟨"NoDayForItModel", "isPerson", "(I)Z"⟩, 44), (⟨"NoDayForItModel", "isLawful", "(III)Z"⟩, 44), (⟨"NoDayForItModel", "call", "(I)Z"⟩, 44), (⟨"NoDayForItModel", "doneOf", "(I)I"⟩, 44), (⟨"NoDayForItModel", "canOn", "(III)Z"⟩, 44), (⟨"NoDayForItModel", "isVoid", "(I)Z"⟩, 44), (⟨"NoDayForItModel", "forbids", "(I)Z"⟩, 44), (⟨"NoDayForItModel", "isSigner", "(I)Z"⟩, 44), (⟨"NoDayForItModel", "isOpen", "(I)Z"⟩, 44)]
theorem lw_r5 : ∀ q ∈ lw_privs_5, lw_okq q := List.forall_mem_cons.mpr ⟨lw_p64, List.forall_mem_cons.mpr ⟨lw_p65, List.forall_mem_cons.mpr ⟨lw_p66, List.forall_mem_cons.mpr ⟨lw_p67, List.forall_mem_cons.mpr ⟨lw_p68, List.forall_mem_cons.mpr ⟨lw_p69, List.forall_mem_cons.mpr ⟨lw_p70, List.forall_mem_cons.mpr ⟨lw_p71, List.forall_mem_cons.mpr ⟨lw_p72, List.forall_mem_cons.mpr ⟨lw_p73, List.forall_mem_cons.mpr ⟨lw_p74, List.forall_mem_cons.mpr ⟨lw_p75, List.forall_mem_cons.mpr ⟨lw_p76, List.forall_mem_cons.mpr ⟨lw_p77, List.forall_mem_cons.mpr ⟨lw_p78, List.forall_mem_cons.mpr ⟨lw_p79, fun _ h => absurd h List.not_mem_nil⟩⟩⟩⟩⟩⟩⟩⟩⟩⟩⟩⟩⟩⟩⟩⟩
theorem lw_p80 : lw_okq (⟨"NoDayForItModel", "isCarried", "(I)Z"⟩, 44) := ⟨⟨by decide +kernel, by decide +kernel⟩, List.mem_of_getElem? (i := 963) (by decide +kernel), List.mem_of_getElem? (i := 1263) (by decide +kernel), List.mem_of_getElem? (i := 1264) (by decide +kernel)⟩
theorem lw_p81 : lw_okq (⟨"NoDayForItModel", "findSoon", "(I)I"⟩, 44) := ⟨⟨by decide +kernel, by decide +kernel⟩, List.mem_of_getElem? (i := 963) (by decide +kernel), List.mem_of_getElem? (i := 1267) (by decide +kernel), List.mem_of_getElem? (i := 1268) (by decide +kernel)⟩
theorem lw_p82 : lw_okq (⟨"NoDayForItModel", "findEnds", "()V"⟩, 44) := ⟨⟨by decide +kernel, by decide +kernel⟩, List.mem_of_getElem? (i := 963) (by decide +kernel), List.mem_of_getElem? (i := 1271) (by decide +kernel), List.mem_of_getElem? (i := 1272) (by decide +kernel)⟩
theorem lw_p83 : lw_okq (⟨"NoDayForItModel", "endFrom", "(III)I"⟩, 44) := ⟨⟨by decide +kernel, by decide +kernel⟩, List.mem_of_getElem? (i := 963) (by decide +kernel), List.mem_of_getElem? (i := 1275) (by decide +kernel), List.mem_of_getElem? (i := 1276) (by decide +kernel)⟩
theorem lw_p84 : lw_okq (⟨"NoDayForItModel", "isFallen", "(III)Z"⟩, 44) := ⟨⟨by decide +kernel, by decide +kernel⟩, List.mem_of_getElem? (i := 963) (by decide +kernel), List.mem_of_getElem? (i := 1283) (by decide +kernel), List.mem_of_getElem? (i := 1284) (by decide +kernel)⟩
theorem lw_p85 : lw_okq (⟨"NoDayForItModel", "fallBack", "(III)V"⟩, 44) := ⟨⟨by decide +kernel, by decide +kernel⟩, List.mem_of_getElem? (i := 963) (by decide +kernel), List.mem_of_getElem? (i := 1290) (by decide +kernel), List.mem_of_getElem? (i := 1291) (by decide +kernel)⟩
theorem lw_p86 : lw_okq (⟨"NoDayForItModel", "closeDay", "()V"⟩, 44) := ⟨⟨by decide +kernel, by decide +kernel⟩, List.mem_of_getElem? (i := 963) (by decide +kernel), List.mem_of_getElem? (i := 1294) (by decide +kernel), List.mem_of_getElem? (i := 1295) (by decide +kernel)⟩
theorem lw_p87 : lw_okq (⟨"NoDayForItModel", "tells", "(III)I"⟩, 44) := ⟨⟨by decide +kernel, by decide +kernel⟩, List.mem_of_getElem? (i := 963) (by decide +kernel), List.mem_of_getElem? (i := 1298) (by decide +kernel), List.mem_of_getElem? (i := 1299) (by decide +kernel)⟩
theorem lw_p88 : lw_okq (⟨"NoDayForItModel", "playNow", "(III)V"⟩, 44) := ⟨⟨by decide +kernel, by decide +kernel⟩, List.mem_of_getElem? (i := 963) (by decide +kernel), List.mem_of_getElem? (i := 1306) (by decide +kernel), List.mem_of_getElem? (i := 1307) (by decide +kernel)⟩
theorem lw_p89 : lw_okq (⟨"NoDayForItModel", "play", "(IZII)V"⟩, 44) := ⟨⟨by decide +kernel, by decide +kernel⟩, List.mem_of_getElem? (i := 963) (by decide +kernel), List.mem_of_getElem? (i := 1310) (by decide +kernel), List.mem_of_getElem? (i := 1311) (by decide +kernel)⟩
theorem lw_p90 : lw_okq (⟨"NoDayForItModel", "callAt", "(IIIII)I"⟩, 44) := ⟨⟨by decide +kernel, by decide +kernel⟩, List.mem_of_getElem? (i := 963) (by decide +kernel), List.mem_of_getElem? (i := 1314) (by decide +kernel), List.mem_of_getElem? (i := 1315) (by decide +kernel)⟩
theorem lw_p91 : lw_okq (⟨"NoDayForItModel", "doesPass", "(I)Z"⟩, 44) := ⟨⟨by decide +kernel, by decide +kernel⟩, List.mem_of_getElem? (i := 963) (by decide +kernel), List.mem_of_getElem? (i := 1341) (by decide +kernel), List.mem_of_getElem? (i := 1342) (by decide +kernel)⟩
theorem lw_p92 : lw_okq (⟨"NoDayForItModel", "sureWith", "(II)I"⟩, 44) := ⟨⟨by decide +kernel, by decide +kernel⟩, List.mem_of_getElem? (i := 963) (by decide +kernel), List.mem_of_getElem? (i := 1361) (by decide +kernel), List.mem_of_getElem? (i := 1362) (by decide +kernel)⟩
theorem lw_p93 : lw_okq (⟨"NoDayForItModel", "copy", "(II)V"⟩, 44) := ⟨⟨by decide +kernel, by decide +kernel⟩, List.mem_of_getElem? (i := 963) (by decide +kernel), List.mem_of_getElem? (i := 1382) (by decide +kernel), List.mem_of_getElem? (i := 1383) (by decide +kernel)⟩
theorem lw_p94 : lw_okq (⟨"NoDayForItModel", "leftOf", "(I)I"⟩, 44) := ⟨⟨by decide +kernel, by decide +kernel⟩, List.mem_of_getElem? (i := 963) (by decide +kernel), List.mem_of_getElem? (i := 1394) (by decide +kernel), List.mem_of_getElem? (i := 1395) (by decide +kernel)⟩
def lw_privs_6 : List (MethodName × Nat) := [(⟨"NoDayForItModel", "isCarried", "(I)Z"⟩, 44), (⟨"NoDayForItModel", "findSoon", "(I)I"⟩, 44), (⟨"NoDayForItModel", "findEnds", "()V"⟩, 44), (⟨"NoDayForItModel", "endFrom", "(III)I"⟩, 44), (⟨"NoDayForItModel", "isFallen", "(III)Z"⟩, 44), (⟨"NoDayForItModel", "fallBack", "(III)V"⟩, 44), (⟨"NoDayForItModel", "closeDay", "()V"⟩, 44), (⟨"NoDayForItModel", "tells", "(III)I"⟩, 44), (⟨"NoDayForItModel", "playNow", "(III)V"⟩, 44), (⟨"NoDayForItModel", "play", "(IZII)V"⟩, 44), (⟨"NoDayForItModel", "callAt", "(IIIII)I"⟩, 44), (⟨"NoDayForItModel", "doesPass", "(I)Z"⟩, 44), (⟨"NoDayForItModel", "sureWith", "(II)I"⟩, 44), (⟨"NoDayForItModel", "copy", "(II)V"⟩, 44), (⟨"NoDayForItModel", "leftOf", "(I)I"⟩, 44)]
theorem lw_r6 : ∀ q ∈ lw_privs_6, lw_okq q := List.forall_mem_cons.mpr ⟨lw_p80, List.forall_mem_cons.mpr ⟨lw_p81, List.forall_mem_cons.mpr ⟨lw_p82, List.forall_mem_cons.mpr ⟨lw_p83, List.forall_mem_cons.mpr ⟨lw_p84, List.forall_mem_cons.mpr ⟨lw_p85, List.forall_mem_cons.mpr ⟨lw_p86, List.forall_mem_cons.mpr ⟨lw_p87, List.forall_mem_cons.mpr ⟨lw_p88, List.forall_mem_cons.mpr ⟨lw_p89, List.forall_mem_cons.mpr ⟨lw_p90, List.forall_mem_cons.mpr ⟨lw_p91, List.forall_mem_cons.mpr ⟨lw_p92, List.forall_mem_cons.mpr ⟨lw_p93, List.forall_mem_cons.mpr ⟨lw_p94, fun _ h => absurd h List.not_mem_nil⟩⟩⟩⟩⟩⟩⟩⟩⟩⟩⟩⟩⟩⟩⟩
def lw_privs : List (MethodName × Nat) := lw_privs_1 ++ (lw_privs_2 ++ (lw_privs_3 ++ (lw_privs_4 ++ (lw_privs_5 ++ (lw_privs_6)))))
def lw_tbl : List Cond := k2_sels lw_privs ++ tables_1
theorem lw_privs_ok : ∀ q ∈ lw_privs, lw_okq q := by
  show ∀ q ∈ lw_privs_1 ++ (lw_privs_2 ++ (lw_privs_3 ++ (lw_privs_4 ++ (lw_privs_5 ++ (lw_privs_6))))), lw_okq q
  exact List.forall_mem_append.mpr ⟨lw_r1, List.forall_mem_append.mpr ⟨lw_r2, List.forall_mem_append.mpr ⟨lw_r3, List.forall_mem_append.mpr ⟨lw_r4, List.forall_mem_append.mpr ⟨lw_r5, lw_r6⟩⟩⟩⟩⟩
end
section
def RX0 : String := "NoDayForIt$Acts"
def TX0 : u_T := fun k => match k with
  | 0 => ("NoDayForIt$Acts", "today", "I", false)
  | 1 => ("NoDayForIt$Acts", "acts", "I", false)
  | 2 => ("NoDayForIt$Acts", "slips", "I", false)
  | 3 => ("NoDayForIt$Acts", "firstSlip", "I", false)
  | 4 => ("NoDayForIt$Acts", "watched", "Z", false)
  | 5 => ("NoDayForIt$Acts", "madeHoly", "J", false)
  | 6 => ("NoDayForIt$Acts", "called", "Z", false)
  | 7 => ("NoDayForIt$Acts", "voids", "I", false)
  | 8 => ("NoDayForIt$Acts", "aheadWhat", "I", false)
  | 9 => ("NoDayForIt$Acts", "aheadBill", "I", false)
  | 10 => ("NoDayForIt$Acts", "aheadLast", "I", false)
  | 11 => ("NoDayForIt$Acts", "people", "I", false)
  | 12 => ("NoDayForIt$Acts", "left", "[I", true)
  | 13 => ("NoDayForIt$Acts", "done", "[I", true)
  | _ => ("NoDayForIt$Acts", "last", "[I", true)
def tyX0 : Nat → FieldType := fun k => match k with
  | 0 => .int
  | 1 => .int
  | 2 => .int
  | 3 => .int
  | 4 => .boolean
  | 5 => .long
  | 6 => .boolean
  | 7 => .int
  | 8 => .int
  | 9 => .int
  | 10 => .int
  | 11 => .int
  | 12 => .array .int
  | 13 => .array .int
  | _ => .array .int
theorem nmX0 : ∀ a, a < 15 → ∀ b, b < 15 → a ≠ b → (TX0 a).2.1 ≠ (TX0 b).2.1 := by decide +kernel
theorem tyX0_ok : ∀ k, k < 15 → parseFieldDescriptor (TX0 k).2.2.1 = some (tyX0 k) := by decide +kernel
abbrev cX0_init : ByteArray := prog_2_method_1_code
def yX0_init : MethodName := ⟨RX0, "<init>", "()V"⟩
abbrev cX0_begin : ByteArray := prog_2_method_2_code
def yX0_begin : MethodName := ⟨RX0, "begin", "(LNoDayForIt$People;)V"⟩
abbrev cX0_copy : ByteArray := prog_2_method_3_code
def yX0_copy : MethodName := ⟨RX0, "copy", "(LNoDayForIt$Acts;)V"⟩
abbrev cX0_slip : ByteArray := prog_2_method_4_code
def yX0_slip : MethodName := ⟨RX0, "slip", "()V"⟩
abbrev cX0_doneOf : ByteArray := prog_2_method_5_code
def yX0_doneOf : MethodName := ⟨RX0, "doneOf", "(I)I"⟩
abbrev cX0_lastOf : ByteArray := prog_2_method_6_code
def yX0_lastOf : MethodName := ⟨RX0, "lastOf", "(I)I"⟩
abbrev cX0_setRun : ByteArray := prog_2_method_7_code
def yX0_setRun : MethodName := ⟨RX0, "setRun", "(III)V"⟩
abbrev cX0_useOne : ByteArray := prog_2_method_8_code
def yX0_useOne : MethodName := ⟨RX0, "useOne", "(I)V"⟩
abbrev cX0_isMadeHoly : ByteArray := prog_2_method_9_code
def yX0_isMadeHoly : MethodName := ⟨RX0, "isMadeHoly", "(I)Z"⟩
abbrev cX0_makeHoly : ByteArray := prog_2_method_10_code
def yX0_makeHoly : MethodName := ⟨RX0, "makeHoly", "(I)V"⟩
def RX1 : String := "NoDayForIt$DaysAhead"
def TX1 : u_T := fun k => match k with
  | 0 => ("NoDayForIt$DaysAhead", "row", "[I", true)
  | 1 => ("NoDayForIt$DaysAhead", "rowSize", "I", false)
  | 2 => ("NoDayForIt$DaysAhead", "law", "LNoDayForIt$Law;", false)
  | 3 => ("NoDayForIt$DaysAhead", "bill", "I", false)
  | 4 => ("NoDayForIt$DaysAhead", "counting", "Z", false)
  | 5 => ("NoDayForIt$DaysAhead", "kinds", "[I", true)
  | 6 => ("NoDayForIt$DaysAhead", "markets", "[I", true)
  | 7 => ("NoDayForIt$DaysAhead", "rest", "[I", true)
  | 8 => ("NoDayForIt$DaysAhead", "spent", "[I", true)
  | _ => ("NoDayForIt$DaysAhead", "fallDay", "I", false)
def tyX1 : Nat → FieldType := fun k => match k with
  | 0 => .array .int
  | 1 => .int
  | 2 => .object "NoDayForIt$Law"
  | 3 => .int
  | 4 => .boolean
  | 5 => .array .int
  | 6 => .array .int
  | 7 => .array .int
  | 8 => .array .int
  | _ => .int
theorem nmX1 : ∀ a, a < 10 → ∀ b, b < 10 → a ≠ b → (TX1 a).2.1 ≠ (TX1 b).2.1 := by decide +kernel
theorem tyX1_ok : ∀ k, k < 10 → parseFieldDescriptor (TX1 k).2.2.1 = some (tyX1 k) := by decide +kernel
abbrev cX1_init : ByteArray := prog_3_method_1_code
def yX1_init : MethodName := ⟨RX1, "<init>", "(LNoDayForIt$Law;)V"⟩
abbrev cX1_see : ByteArray := prog_3_method_2_code
def yX1_see : MethodName := ⟨RX1, "see", "(LNoDayForIt$Law;LNoDayForIt$Acts;)V"⟩
abbrev cX1_isOfItsKinds : ByteArray := prog_3_method_3_code
def yX1_isOfItsKinds : MethodName := ⟨RX1, "isOfItsKinds", "(LNoDayForIt$Step;I)Z"⟩
abbrev cX1_isFarEnough : ByteArray := prog_3_method_4_code
def yX1_isFarEnough : MethodName := ⟨RX1, "isFarEnough", "(LNoDayForIt$Step;II)Z"⟩
abbrev cX1_findSoonest : ByteArray := prog_3_method_5_code
def yX1_findSoonest : MethodName := ⟨RX1, "findSoonest", "(LNoDayForIt$Law;LNoDayForIt$Acts;I)I"⟩
abbrev cX1_isSure : ByteArray := prog_3_method_6_code
def yX1_isSure : MethodName := ⟨RX1, "isSure", "(LNoDayForIt$Law;LNoDayForIt$Acts;I)Z"⟩
abbrev cX1_findFewestAgainst : ByteArray := prog_3_method_7_code
def yX1_findFewestAgainst : MethodName := ⟨RX1, "findFewestAgainst", "(LNoDayForIt$Law;LNoDayForIt$Acts;I)I"⟩
abbrev cX1_firstDay : ByteArray := prog_3_method_8_code
def yX1_firstDay : MethodName := ⟨RX1, "firstDay", "(LNoDayForIt$Acts;)I"⟩
abbrev cX1_place : ByteArray := prog_3_method_9_code
def yX1_place : MethodName := ⟨RX1, "place", "(II)I"⟩
abbrev cX1_costOn : ByteArray := prog_3_method_10_code
def yX1_costOn : MethodName := ⟨RX1, "costOn", "(LNoDayForIt$Step;I)I"⟩
abbrev cX1_fillRest : ByteArray := prog_3_method_11_code
def yX1_fillRest : MethodName := ⟨RX1, "fillRest", "(LNoDayForIt$Law;LNoDayForIt$Acts;I)V"⟩
abbrev cX1_leastRest : ByteArray := prog_3_method_12_code
def yX1_leastRest : MethodName := ⟨RX1, "leastRest", "(III)I"⟩
abbrev cX1_leastFallen : ByteArray := prog_3_method_13_code
def yX1_leastFallen : MethodName := ⟨RX1, "leastFallen", "(III)I"⟩
abbrev cX1_leastFromFall : ByteArray := prog_3_method_14_code
def yX1_leastFromFall : MethodName := ⟨RX1, "leastFromFall", "(III)I"⟩
abbrev cX1_fillSpent : ByteArray := prog_3_method_15_code
def yX1_fillSpent : MethodName := ⟨RX1, "fillSpent", "(III)V"⟩
abbrev cX1_leastSpent : ByteArray := prog_3_method_16_code
def yX1_leastSpent : MethodName := ⟨RX1, "leastSpent", "(III)I"⟩
abbrev cX1_fillRow : ByteArray := prog_3_method_17_code
def yX1_fillRow : MethodName := ⟨RX1, "fillRow", "(IIII)V"⟩
def RX2 : String := "NoDayForIt$Law"
def TX2 : u_T := fun k => match k with
  | 0 => ("NoDayForIt$Law", "length", "I", false)
  | 1 => ("NoDayForIt$Law", "items", "I", false)
  | 2 => ("NoDayForIt$Law", "bills", "I", false)
  | 3 => ("NoDayForIt$Law", "kinds", "[I", true)
  | 4 => ("NoDayForIt$Law", "stepCounts", "[I", true)
  | 5 => ("NoDayForIt$Law", "steps", "[LNoDayForIt$Step;", true)
  | _ => ("NoDayForIt$Law", "noStep", "LNoDayForIt$Step;", true)
def tyX2 : Nat → FieldType := fun k => match k with
  | 0 => .int
  | 1 => .int
  | 2 => .int
  | 3 => .array .int
  | 4 => .array .int
  | 5 => .array (.object "NoDayForIt$Step")
  | _ => .object "NoDayForIt$Step"
theorem nmX2 : ∀ a, a < 7 → ∀ b, b < 7 → a ≠ b → (TX2 a).2.1 ≠ (TX2 b).2.1 := by decide +kernel
theorem tyX2_ok : ∀ k, k < 7 → parseFieldDescriptor (TX2 k).2.2.1 = some (tyX2 k) := by decide +kernel
abbrev cX2_init : ByteArray := prog_4_method_1_code
def yX2_init : MethodName := ⟨RX2, "<init>", "()V"⟩
abbrev cX2_wipe : ByteArray := prog_4_method_2_code
def yX2_wipe : MethodName := ⟨RX2, "wipe", "()V"⟩
abbrev cX2_copy : ByteArray := prog_4_method_3_code
def yX2_copy : MethodName := ⟨RX2, "copy", "(LNoDayForIt$Law;)V"⟩
abbrev cX2_kindOf : ByteArray := prog_4_method_4_code
def yX2_kindOf : MethodName := ⟨RX2, "kindOf", "(I)I"⟩
abbrev cX2_setKind : ByteArray := prog_4_method_5_code
def yX2_setKind : MethodName := ⟨RX2, "setKind", "(II)V"⟩
abbrev cX2_stepsOf : ByteArray := prog_4_method_6_code
def yX2_stepsOf : MethodName := ⟨RX2, "stepsOf", "(I)I"⟩
abbrev cX2_hasStep : ByteArray := prog_4_method_7_code
def yX2_hasStep : MethodName := ⟨RX2, "hasStep", "(II)Z"⟩
abbrev cX2_stepAt : ByteArray := prog_4_method_8_code
def yX2_stepAt : MethodName := ⟨RX2, "stepAt", "(II)LNoDayForIt$Step;"⟩
abbrev cX2_addStep : ByteArray := prog_4_method_9_code
def yX2_addStep : MethodName := ⟨RX2, "addStep", "()LNoDayForIt$Step;"⟩
def RX3 : String := "NoDayForIt$LawReader"
def TX3 : u_T := fun k => match k with
  | 0 => ("NoDayForIt$LawReader", "text", "[B", true)
  | 1 => ("NoDayForIt$LawReader", "size", "I", false)
  | 2 => ("NoDayForIt$LawReader", "law", "LNoDayForIt$Law;", false)
  | 3 => ("NoDayForIt$LawReader", "sort", "I", false)
  | 4 => ("NoDayForIt$LawReader", "start", "I", false)
  | 5 => ("NoDayForIt$LawReader", "behind", "I", false)
  | 6 => ("NoDayForIt$LawReader", "number", "I", false)
  | _ => ("NoDayForIt$LawReader", "fault", "I", false)
def tyX3 : Nat → FieldType := fun k => match k with
  | 0 => .array .byte
  | 1 => .int
  | 2 => .object "NoDayForIt$Law"
  | 3 => .int
  | 4 => .int
  | 5 => .int
  | 6 => .int
  | _ => .int
theorem nmX3 : ∀ a, a < 8 → ∀ b, b < 8 → a ≠ b → (TX3 a).2.1 ≠ (TX3 b).2.1 := by decide +kernel
theorem tyX3_ok : ∀ k, k < 8 → parseFieldDescriptor (TX3 k).2.2.1 = some (tyX3 k) := by decide +kernel
abbrev cX3_init : ByteArray := prog_5_method_1_code
def yX3_init : MethodName := ⟨RX3, "<init>", "([BLNoDayForIt$Law;)V"⟩
abbrev cX3_read : ByteArray := prog_5_method_2_code
def yX3_read : MethodName := ⟨RX3, "read", "(ILNoDayForIt$Law;)I"⟩
abbrev cX3_byteAt : ByteArray := prog_5_method_3_code
def yX3_byteAt : MethodName := ⟨RX3, "byteAt", "(I)I"⟩
abbrev cX3_isLetter : ByteArray := prog_5_method_4_code
def yX3_isLetter : MethodName := ⟨RX3, "isLetter", "(I)Z"⟩
abbrev cX3_isDigit : ByteArray := prog_5_method_5_code
def yX3_isDigit : MethodName := ⟨RX3, "isDigit", "(I)Z"⟩
abbrev cX3_advance : ByteArray := prog_5_method_6_code
def yX3_advance : MethodName := ⟨RX3, "advance", "()V"⟩
abbrev cX3_advanceLetters : ByteArray := prog_5_method_7_code
def yX3_advanceLetters : MethodName := ⟨RX3, "advanceLetters", "()V"⟩
abbrev cX3_advanceNumber : ByteArray := prog_5_method_8_code
def yX3_advanceNumber : MethodName := ⟨RX3, "advanceNumber", "()V"⟩
abbrev cX3_refuse : ByteArray := prog_5_method_9_code
def yX3_refuse : MethodName := ⟨RX3, "refuse", "()Z"⟩
abbrev cX3_isName : ByteArray := prog_5_method_10_code
def yX3_isName : MethodName := ⟨RX3, "isName", "(Ljava/lang/String;)Z"⟩
abbrev cX3_perhapsTake : ByteArray := prog_5_method_11_code
def yX3_perhapsTake : MethodName := ⟨RX3, "perhapsTake", "(Ljava/lang/String;)Z"⟩
abbrev cX3_take : ByteArray := prog_5_method_12_code
def yX3_take : MethodName := ⟨RX3, "take", "(Ljava/lang/String;)Z"⟩
abbrev cX3_takeNumber : ByteArray := prog_5_method_13_code
def yX3_takeNumber : MethodName := ⟨RX3, "takeNumber", "(II)I"⟩
abbrev cX3_kindHere : ByteArray := prog_5_method_14_code
def yX3_kindHere : MethodName := ⟨RX3, "kindHere", "()I"⟩
abbrev cX3_takeKind : ByteArray := prog_5_method_15_code
def yX3_takeKind : MethodName := ⟨RX3, "takeKind", "()I"⟩
abbrev cX3_takeMark : ByteArray := prog_5_method_16_code
def yX3_takeMark : MethodName := ⟨RX3, "takeMark", "()Z"⟩
abbrev cX3_isYear : ByteArray := prog_5_method_17_code
def yX3_isYear : MethodName := ⟨RX3, "isYear", "()Z"⟩
abbrev cX3_isEvery : ByteArray := prog_5_method_18_code
def yX3_isEvery : MethodName := ⟨RX3, "isEvery", "()Z"⟩
abbrev cX3_isDays : ByteArray := prog_5_method_19_code
def yX3_isDays : MethodName := ⟨RX3, "isDays", "()Z"⟩
abbrev cX3_isBillItem : ByteArray := prog_5_method_20_code
def yX3_isBillItem : MethodName := ⟨RX3, "isBillItem", "()Z"⟩
abbrev cX3_isStep : ByteArray := prog_5_method_21_code
def yX3_isStep : MethodName := ⟨RX3, "isStep", "()Z"⟩
abbrev cX3_areKinds : ByteArray := prog_5_method_22_code
def yX3_areKinds : MethodName := ⟨RX3, "areKinds", "(LNoDayForIt$Step;)Z"⟩
def RX4 : String := "NoDayForIt$Matters"
def TX4 : u_T := fun k => match k with
  | 0 => ("NoDayForIt$Matters", "groups", "I", false)
  | _ => ("NoDayForIt$Matters", "wishes", "[I", true)
def tyX4 : Nat → FieldType := fun k => match k with
  | 0 => .int
  | _ => .array .int
theorem nmX4 : ∀ a, a < 2 → ∀ b, b < 2 → a ≠ b → (TX4 a).2.1 ≠ (TX4 b).2.1 := by decide +kernel
theorem tyX4_ok : ∀ k, k < 2 → parseFieldDescriptor (TX4 k).2.2.1 = some (tyX4 k) := by decide +kernel
abbrev cX4_init : ByteArray := prog_6_method_1_code
def yX4_init : MethodName := ⟨RX4, "<init>", "()V"⟩
abbrev cX4_addGroup : ByteArray := prog_6_method_2_code
def yX4_addGroup : MethodName := ⟨RX4, "addGroup", "()I"⟩
abbrev cX4_hasGroup : ByteArray := prog_6_method_3_code
def yX4_hasGroup : MethodName := ⟨RX4, "hasGroup", "(I)Z"⟩
abbrev cX4_setWish : ByteArray := prog_6_method_4_code
def yX4_setWish : MethodName := ⟨RX4, "setWish", "(III)I"⟩
abbrev cX4_doPass : ByteArray := prog_6_method_5_code
def yX4_doPass : MethodName := ⟨RX4, "doPass", "(I)Z"⟩
abbrev cX4_sumOf : ByteArray := prog_6_method_6_code
def yX4_sumOf : MethodName := ⟨RX4, "sumOf", "(II)I"⟩
abbrev cX4_fewestToRideWith : ByteArray := prog_6_method_7_code
def yX4_fewestToRideWith : MethodName := ⟨RX4, "fewestToRideWith", "(I)I"⟩
abbrev cX4_tearsOf : ByteArray := prog_6_method_8_code
def yX4_tearsOf : MethodName := ⟨RX4, "tearsOf", "(I)I"⟩
def RX5 : String := "NoDayForIt$People"
def TX5 : u_T := fun k => match k with
  | 0 => ("NoDayForIt$People", "size", "I", false)
  | 1 => ("NoDayForIt$People", "offices", "[I", true)
  | _ => ("NoDayForIt$People", "times", "[I", true)
def tyX5 : Nat → FieldType := fun k => match k with
  | 0 => .int
  | 1 => .array .int
  | _ => .array .int
theorem nmX5 : ∀ a, a < 3 → ∀ b, b < 3 → a ≠ b → (TX5 a).2.1 ≠ (TX5 b).2.1 := by decide +kernel
theorem tyX5_ok : ∀ k, k < 3 → parseFieldDescriptor (TX5 k).2.2.1 = some (tyX5 k) := by decide +kernel
abbrev cX5_init : ByteArray := prog_7_method_1_code
def yX5_init : MethodName := ⟨RX5, "<init>", "()V"⟩
abbrev cX5_has : ByteArray := prog_7_method_2_code
def yX5_has : MethodName := ⟨RX5, "has", "(I)Z"⟩
abbrev cX5_officeOf : ByteArray := prog_7_method_3_code
def yX5_officeOf : MethodName := ⟨RX5, "officeOf", "(I)I"⟩
abbrev cX5_timesOf : ByteArray := prog_7_method_4_code
def yX5_timesOf : MethodName := ⟨RX5, "timesOf", "(I)I"⟩
abbrev cX5_hasRoom : ByteArray := prog_7_method_5_code
def yX5_hasRoom : MethodName := ⟨RX5, "hasRoom", "(II)Z"⟩
abbrev cX5_add : ByteArray := prog_7_method_6_code
def yX5_add : MethodName := ⟨RX5, "add", "(II)I"⟩
def RX6 : String := "NoDayForIt$Step"
def TX6 : u_T := fun k => match k with
  | 0 => ("NoDayForIt$Step", "kinds", "I", false)
  | 1 => ("NoDayForIt$Step", "after", "I", false)
  | 2 => ("NoDayForIt$Step", "byMarket", "Z", false)
  | 3 => ("NoDayForIt$Step", "within", "I", false)
  | _ => ("NoDayForIt$Step", "offices", "I", false)
def tyX6 : Nat → FieldType := fun k => match k with
  | 0 => .int
  | 1 => .int
  | 2 => .boolean
  | 3 => .int
  | _ => .int
theorem nmX6 : ∀ a, a < 5 → ∀ b, b < 5 → a ≠ b → (TX6 a).2.1 ≠ (TX6 b).2.1 := by decide +kernel
theorem tyX6_ok : ∀ k, k < 5 → parseFieldDescriptor (TX6 k).2.2.1 = some (tyX6 k) := by decide +kernel
abbrev cX6_init : ByteArray := prog_8_method_1_code
def yX6_init : MethodName := ⟨RX6, "<init>", "()V"⟩
abbrev cX6_wipe : ByteArray := prog_8_method_2_code
def yX6_wipe : MethodName := ⟨RX6, "wipe", "()V"⟩
abbrev cX6_copy : ByteArray := prog_8_method_3_code
def yX6_copy : MethodName := ⟨RX6, "copy", "(LNoDayForIt$Step;)V"⟩
def RX7 : String := "NoDayForIt"
def TX7 : u_T := fun k => match k with
  | 0 => ("NoDayForIt", "text", "[B", true)
  | 1 => ("NoDayForIt", "textSize", "I", false)
  | 2 => ("NoDayForIt", "told", "LNoDayForIt$Law;", false)
  | 3 => ("NoDayForIt", "draft", "LNoDayForIt$Law;", false)
  | 4 => ("NoDayForIt", "reader", "LNoDayForIt$LawReader;", true)
  | 5 => ("NoDayForIt", "people", "LNoDayForIt$People;", true)
  | 6 => ("NoDayForIt", "acts", "LNoDayForIt$Acts;", true)
  | 7 => ("NoDayForIt", "nothingDone", "LNoDayForIt$Acts;", true)
  | 8 => ("NoDayForIt", "images", "[LNoDayForIt$Acts;", true)
  | 9 => ("NoDayForIt", "kept", "I", false)
  | 10 => ("NoDayForIt", "ahead", "LNoDayForIt$DaysAhead;", true)
  | 11 => ("NoDayForIt", "matters", "LNoDayForIt$Matters;", true)
  | 12 => ("NoDayForIt", "wordWhat", "[I", true)
  | 13 => ("NoDayForIt", "wordOf", "[I", true)
  | 14 => ("NoDayForIt", "wordBy", "[I", true)
  | _ => ("NoDayForIt", "traced", "J", false)
def tyX7 : Nat → FieldType := fun k => match k with
  | 0 => .array .byte
  | 1 => .int
  | 2 => .object "NoDayForIt$Law"
  | 3 => .object "NoDayForIt$Law"
  | 4 => .object "NoDayForIt$LawReader"
  | 5 => .object "NoDayForIt$People"
  | 6 => .object "NoDayForIt$Acts"
  | 7 => .object "NoDayForIt$Acts"
  | 8 => .array (.object "NoDayForIt$Acts")
  | 9 => .int
  | 10 => .object "NoDayForIt$DaysAhead"
  | 11 => .object "NoDayForIt$Matters"
  | 12 => .array .int
  | 13 => .array .int
  | 14 => .array .int
  | _ => .long
theorem nmX7 : ∀ a, a < 16 → ∀ b, b < 16 → a ≠ b → (TX7 a).2.1 ≠ (TX7 b).2.1 := by decide +kernel
theorem tyX7_ok : ∀ k, k < 16 → parseFieldDescriptor (TX7 k).2.2.1 = some (tyX7 k) := by decide +kernel
abbrev cX7_init : ByteArray := prog_1_method_1_code
def yX7_init : MethodName := ⟨RX7, "<init>", "()V"⟩
abbrev cX7_type : ByteArray := prog_1_method_2_code
def yX7_type : MethodName := ⟨RX7, "type", "(JI)I"⟩
abbrev cX7_clear : ByteArray := prog_1_method_3_code
def yX7_clear : MethodName := ⟨RX7, "clear", "()I"⟩
abbrev cX7_law : ByteArray := prog_1_method_4_code
def yX7_law : MethodName := ⟨RX7, "law", "()I"⟩
abbrev cX7_day : ByteArray := prog_1_method_5_code
def yX7_day : MethodName := ⟨RX7, "day", "(I)I"⟩
abbrev cX7_days : ByteArray := prog_1_method_6_code
def yX7_days : MethodName := ⟨RX7, "days", "(III)I"⟩
abbrev cX7_step : ByteArray := prog_1_method_7_code
def yX7_step : MethodName := ⟨RX7, "step", "(III)I"⟩
abbrev cX7_may : ByteArray := prog_1_method_8_code
def yX7_may : MethodName := ⟨RX7, "may", "(IIII)I"⟩
abbrev cX7_isBill : ByteArray := prog_1_method_9_code
def yX7_isBill : MethodName := ⟨RX7, "isBill", "(I)Z"⟩
abbrev cX7_isKind : ByteArray := prog_1_method_10_code
def yX7_isKind : MethodName := ⟨RX7, "isKind", "(I)Z"⟩
abbrev cX7_isDay : ByteArray := prog_1_method_11_code
def yX7_isDay : MethodName := ⟨RX7, "isDay", "(I)Z"⟩
abbrev cX7_kindNow : ByteArray := prog_1_method_12_code
def yX7_kindNow : MethodName := ⟨RX7, "kindNow", "(I)I"⟩
abbrev cX7_mayBeDone : ByteArray := prog_1_method_13_code
def yX7_mayBeDone : MethodName := ⟨RX7, "mayBeDone", "(IIII)Z"⟩
abbrev cX7_person : ByteArray := prog_1_method_14_code
def yX7_person : MethodName := ⟨RX7, "person", "(II)I"⟩
abbrev cX7_who : ByteArray := prog_1_method_15_code
def yX7_who : MethodName := ⟨RX7, "who", "(II)I"⟩
abbrev cX7_act : ByteArray := prog_1_method_16_code
def yX7_act : MethodName := ⟨RX7, "act", "(III)I"⟩
abbrev cX7_now : ByteArray := prog_1_method_17_code
def yX7_now : MethodName := ⟨RX7, "now", "(I)I"⟩
abbrev cX7_bill : ByteArray := prog_1_method_18_code
def yX7_bill : MethodName := ⟨RX7, "bill", "(II)I"⟩
abbrev cX7_canBeOf : ByteArray := prog_1_method_19_code
def yX7_canBeOf : MethodName := ⟨RX7, "canBeOf", "(II)Z"⟩
abbrev cX7_isDoneLawfully : ByteArray := prog_1_method_20_code
def yX7_isDoneLawfully : MethodName := ⟨RX7, "isDoneLawfully", "(III)Z"⟩
abbrev cX7_callOf : ByteArray := prog_1_method_21_code
def yX7_callOf : MethodName := ⟨RX7, "callOf", "(I)Z"⟩
abbrev cX7_forbidBy : ByteArray := prog_1_method_22_code
def yX7_forbidBy : MethodName := ⟨RX7, "forbidBy", "(I)Z"⟩
abbrev cX7_hasSignLeft : ByteArray := prog_1_method_23_code
def yX7_hasSignLeft : MethodName := ⟨RX7, "hasSignLeft", "(I)Z"⟩
abbrev cX7_watchBy : ByteArray := prog_1_method_24_code
def yX7_watchBy : MethodName := ⟨RX7, "watchBy", "(I)Z"⟩
abbrev cX7_makeHolyBy : ByteArray := prog_1_method_25_code
def yX7_makeHolyBy : MethodName := ⟨RX7, "makeHolyBy", "(II)Z"⟩
abbrev cX7_forceOn : ByteArray := prog_1_method_26_code
def yX7_forceOn : MethodName := ⟨RX7, "forceOn", "()Z"⟩
abbrev cX7_waitOn : ByteArray := prog_1_method_27_code
def yX7_waitOn : MethodName := ⟨RX7, "waitOn", "()Z"⟩
abbrev cX7_fallBackIfLate : ByteArray := prog_1_method_28_code
def yX7_fallBackIfLate : MethodName := ⟨RX7, "fallBackIfLate", "(I)V"⟩
abbrev cX7_isVoid : ByteArray := prog_1_method_29_code
def yX7_isVoid : MethodName := ⟨RX7, "isVoid", "(I)Z"⟩
abbrev cX7_isCarried : ByteArray := prog_1_method_30_code
def yX7_isCarried : MethodName := ⟨RX7, "isCarried", "(I)Z"⟩
abbrev cX7_carriedBills : ByteArray := prog_1_method_31_code
def yX7_carriedBills : MethodName := ⟨RX7, "carriedBills", "()I"⟩
abbrev cX7_soon : ByteArray := prog_1_method_32_code
def yX7_soon : MethodName := ⟨RX7, "soon", "(II)I"⟩
abbrev cX7_against : ByteArray := prog_1_method_33_code
def yX7_against : MethodName := ⟨RX7, "against", "(I)I"⟩
abbrev cX7_sure : ByteArray := prog_1_method_34_code
def yX7_sure : MethodName := ⟨RX7, "sure", "(III)I"⟩
abbrev cX7_delay : ByteArray := prog_1_method_35_code
def yX7_delay : MethodName := ⟨RX7, "delay", "(II)I"⟩
abbrev cX7_stop : ByteArray := prog_1_method_36_code
def yX7_stop : MethodName := ⟨RX7, "stop", "(II)I"⟩
abbrev cX7_isOpen : ByteArray := prog_1_method_37_code
def yX7_isOpen : MethodName := ⟨RX7, "isOpen", "(I)Z"⟩
abbrev cX7_group : ByteArray := prog_1_method_38_code
def yX7_group : MethodName := ⟨RX7, "group", "()I"⟩
abbrev cX7_wish : ByteArray := prog_1_method_39_code
def yX7_wish : MethodName := ⟨RX7, "wish", "(III)I"⟩
abbrev cX7_passes : ByteArray := prog_1_method_40_code
def yX7_passes : MethodName := ⟨RX7, "passes", "(I)I"⟩
abbrev cX7_ride : ByteArray := prog_1_method_41_code
def yX7_ride : MethodName := ⟨RX7, "ride", "(II)I"⟩
abbrev cX7_tears : ByteArray := prog_1_method_42_code
def yX7_tears : MethodName := ⟨RX7, "tears", "(I)I"⟩
abbrev cX7_word : ByteArray := prog_1_method_43_code
def yX7_word : MethodName := ⟨RX7, "word", "(IIII)I"⟩
abbrev cX7_mended : ByteArray := prog_1_method_44_code
def yX7_mended : MethodName := ⟨RX7, "mended", "(I)I"⟩
abbrev cX7_isMatter : ByteArray := prog_1_method_45_code
def yX7_isMatter : MethodName := ⟨RX7, "isMatter", "(I)Z"⟩
abbrev cX7_isSet : ByteArray := prog_1_method_46_code
def yX7_isSet : MethodName := ⟨RX7, "isSet", "(I)Z"⟩
abbrev cX7_isWord : ByteArray := prog_1_method_47_code
def yX7_isWord : MethodName := ⟨RX7, "isWord", "(III)Z"⟩
abbrev cX7_doMend : ByteArray := prog_1_method_48_code
def yX7_doMend : MethodName := ⟨RX7, "doMend", "(I)Z"⟩
abbrev cX7_rewriteDraft : ByteArray := prog_1_method_49_code
def yX7_rewriteDraft : MethodName := ⟨RX7, "rewriteDraft", "(I)V"⟩
abbrev cX7_rewriteStep : ByteArray := prog_1_method_50_code
def yX7_rewriteStep : MethodName := ⟨RX7, "rewriteStep", "(LNoDayForIt$Step;II)V"⟩
abbrev cX7_price : ByteArray := prog_1_method_51_code
def yX7_price : MethodName := ⟨RX7, "price", "(II)I"⟩
abbrev cX7_keep : ByteArray := prog_1_method_52_code
def yX7_keep : MethodName := ⟨RX7, "keep", "(I)I"⟩
abbrev cX7_back : ByteArray := prog_1_method_53_code
def yX7_back : MethodName := ⟨RX7, "back", "(I)I"⟩
abbrev cX7_count : ByteArray := prog_1_method_54_code
def yX7_count : MethodName := ⟨RX7, "count", "(I)I"⟩
abbrev cX7_trace : ByteArray := prog_1_method_55_code
def yX7_trace : MethodName := ⟨RX7, "trace", "()J"⟩
abbrev cX7_isImage : ByteArray := prog_1_method_56_code
def yX7_isImage : MethodName := ⟨RX7, "isImage", "(I)Z"⟩
abbrev cX7_leftOf : ByteArray := prog_1_method_57_code
def yX7_leftOf : MethodName := ⟨RX7, "leftOf", "(I)I"⟩
abbrev cX7_priceOfAct : ByteArray := prog_1_method_58_code
def yX7_priceOfAct : MethodName := ⟨RX7, "priceOfAct", "(I)I"⟩
abbrev cX7_priceOfStep : ByteArray := prog_1_method_59_code
def yX7_priceOfStep : MethodName := ⟨RX7, "priceOfStep", "(II)I"⟩
abbrev cX7_priceOfForbid : ByteArray := prog_1_method_60_code
def yX7_priceOfForbid : MethodName := ⟨RX7, "priceOfForbid", "(I)I"⟩
abbrev cX7_priceOfWatch : ByteArray := prog_1_method_61_code
def yX7_priceOfWatch : MethodName := ⟨RX7, "priceOfWatch", "(II)I"⟩
abbrev cX7_priceOfHoly : ByteArray := prog_1_method_62_code
def yX7_priceOfHoly : MethodName := ⟨RX7, "priceOfHoly", "(II)I"⟩
abbrev cX7_priceOfJoin : ByteArray := prog_1_method_63_code
def yX7_priceOfJoin : MethodName := ⟨RX7, "priceOfJoin", "(I)I"⟩
abbrev cX7_priceOfForce : ByteArray := prog_1_method_64_code
def yX7_priceOfForce : MethodName := ⟨RX7, "priceOfForce", "(I)I"⟩
abbrev cX7_at : ByteArray := prog_1_method_65_code
def yX7_at : MethodName := ⟨RX7, "at", "([II)I"⟩
abbrev cX7_put : ByteArray := prog_1_method_66_code
def yX7_put : MethodName := ⟨RX7, "put", "([III)V"⟩
def RX8 : String := "NoDayForItModel"
def TX8 : u_T := fun k => match k with
  | 0 => ("NoDayForItModel", "trace", "J", false)
  | 1 => ("NoDayForItModel", "year", "[I", true)
  | 2 => ("NoDayForItModel", "kind", "[I", true)
  | 3 => ("NoDayForItModel", "many", "[I", true)
  | 4 => ("NoDayForItModel", "kinds", "[I", true)
  | 5 => ("NoDayForItModel", "after", "[I", true)
  | 6 => ("NoDayForItModel", "market", "[I", true)
  | 7 => ("NoDayForItModel", "within", "[I", true)
  | 8 => ("NoDayForItModel", "forbid", "[I", true)
  | 9 => ("NoDayForItModel", "text", "[B", true)
  | 10 => ("NoDayForItModel", "typed", "I", false)
  | 11 => ("NoDayForItModel", "at", "I", false)
  | 12 => ("NoDayForItModel", "start", "I", false)
  | 13 => ("NoDayForItModel", "sort", "I", false)
  | 14 => ("NoDayForItModel", "value", "I", false)
  | 15 => ("NoDayForItModel", "fault", "I", false)
  | 16 => ("NoDayForItModel", "course", "[I", true)
  | 17 => ("NoDayForItModel", "made", "[J", true)
  | 18 => ("NoDayForItModel", "isKept", "[Z", true)
  | 19 => ("NoDayForItModel", "keptPeople", "[I", true)
  | 20 => ("NoDayForItModel", "people", "I", false)
  | 21 => ("NoDayForItModel", "office", "[I", true)
  | 22 => ("NoDayForItModel", "times", "[I", true)
  | 23 => ("NoDayForItModel", "long0", "I", false)
  | 24 => ("NoDayForItModel", "steps", "I", false)
  | 25 => ("NoDayForItModel", "wKind", "[I", true)
  | 26 => ("NoDayForItModel", "markets", "[I", true)
  | 27 => ("NoDayForItModel", "wKinds", "[I", true)
  | 28 => ("NoDayForItModel", "wAfter", "[I", true)
  | 29 => ("NoDayForItModel", "wMarket", "[I", true)
  | 30 => ("NoDayForItModel", "wWithin", "[I", true)
  | 31 => ("NoDayForItModel", "wForbid", "[I", true)
  | 32 => ("NoDayForItModel", "ends", "[I", true)
  | 33 => ("NoDayForItModel", "falls", "[I", true)
  | 34 => ("NoDayForItModel", "runStep", "I", false)
  | 35 => ("NoDayForItModel", "runLast", "I", false)
  | 36 => ("NoDayForItModel", "runFrom", "I", false)
  | 37 => ("NoDayForItModel", "here", "[I", true)
  | 38 => ("NoDayForItModel", "there", "[I", true)
  | 39 => ("NoDayForItModel", "groups", "I", false)
  | 40 => ("NoDayForItModel", "wish", "[I", true)
  | 41 => ("NoDayForItModel", "wordWhat", "[I", true)
  | 42 => ("NoDayForItModel", "wordOf", "[I", true)
  | _ => ("NoDayForItModel", "wordBy", "[I", true)
def tyX8 : Nat → FieldType := fun k => match k with
  | 0 => .long
  | 1 => .array .int
  | 2 => .array .int
  | 3 => .array .int
  | 4 => .array .int
  | 5 => .array .int
  | 6 => .array .int
  | 7 => .array .int
  | 8 => .array .int
  | 9 => .array .byte
  | 10 => .int
  | 11 => .int
  | 12 => .int
  | 13 => .int
  | 14 => .int
  | 15 => .int
  | 16 => .array .int
  | 17 => .array .long
  | 18 => .array .boolean
  | 19 => .array .int
  | 20 => .int
  | 21 => .array .int
  | 22 => .array .int
  | 23 => .int
  | 24 => .int
  | 25 => .array .int
  | 26 => .array .int
  | 27 => .array .int
  | 28 => .array .int
  | 29 => .array .int
  | 30 => .array .int
  | 31 => .array .int
  | 32 => .array .int
  | 33 => .array .int
  | 34 => .int
  | 35 => .int
  | 36 => .int
  | 37 => .array .int
  | 38 => .array .int
  | 39 => .int
  | 40 => .array .int
  | 41 => .array .int
  | 42 => .array .int
  | _ => .array .int
theorem nmX8 : ∀ a, a < 44 → ∀ b, b < 44 → a ≠ b → (TX8 a).2.1 ≠ (TX8 b).2.1 := by decide +kernel
theorem tyX8_ok : ∀ k, k < 44 → parseFieldDescriptor (TX8 k).2.2.1 = some (tyX8 k) := by decide +kernel
abbrev cX8_init : ByteArray := prog_10_method_1_code
def yX8_init : MethodName := ⟨RX8, "<init>", "()V"⟩
abbrev cX8_in : ByteArray := prog_10_method_3_code
def yX8_in : MethodName := ⟨RX8, "in", "(III)Z"⟩
abbrev cX8_type : ByteArray := prog_10_method_4_code
def yX8_type : MethodName := ⟨RX8, "type", "(JI)I"⟩
abbrev cX8_clear : ByteArray := prog_10_method_5_code
def yX8_clear : MethodName := ⟨RX8, "clear", "()I"⟩
abbrev cX8_here : ByteArray := prog_10_method_6_code
def yX8_here : MethodName := ⟨RX8, "here", "()I"⟩
abbrev cX8_mean : ByteArray := prog_10_method_7_code
def yX8_mean : MethodName := ⟨RX8, "mean", "(I)V"⟩
abbrev cX8_next : ByteArray := prog_10_method_8_code
def yX8_next : MethodName := ⟨RX8, "next", "()V"⟩
abbrev cX8_due : ByteArray := prog_10_method_9_code
def yX8_due : MethodName := ⟨RX8, "due", "(Z)I"⟩
abbrev cX8_number : ByteArray := prog_10_method_10_code
def yX8_number : MethodName := ⟨RX8, "number", "(II)I"⟩
abbrev cX8_readEvery : ByteArray := prog_10_method_11_code
def yX8_readEvery : MethodName := ⟨RX8, "readEvery", "()V"⟩
abbrev cX8_readDays : ByteArray := prog_10_method_12_code
def yX8_readDays : MethodName := ⟨RX8, "readDays", "()V"⟩
abbrev cX8_readStep : ByteArray := prog_10_method_13_code
def yX8_readStep : MethodName := ⟨RX8, "readStep", "(I)V"⟩
abbrev cX8_law : ByteArray := prog_10_method_14_code
def yX8_law : MethodName := ⟨RX8, "law", "()I"⟩
abbrev cX8_begin : ByteArray := prog_10_method_15_code
def yX8_begin : MethodName := ⟨RX8, "begin", "()V"⟩
abbrev cX8_kindNow : ByteArray := prog_10_method_16_code
def yX8_kindNow : MethodName := ⟨RX8, "kindNow", "(I)I"⟩
abbrev cX8_isDay : ByteArray := prog_10_method_17_code
def yX8_isDay : MethodName := ⟨RX8, "isDay", "(I)Z"⟩
abbrev cX8_isBill : ByteArray := prog_10_method_18_code
def yX8_isBill : MethodName := ⟨RX8, "isBill", "(I)Z"⟩
abbrev cX8_day : ByteArray := prog_10_method_19_code
def yX8_day : MethodName := ⟨RX8, "day", "(I)I"⟩
abbrev cX8_days : ByteArray := prog_10_method_20_code
def yX8_days : MethodName := ⟨RX8, "days", "(III)I"⟩
abbrev cX8_isStep : ByteArray := prog_10_method_21_code
def yX8_isStep : MethodName := ⟨RX8, "isStep", "(II)Z"⟩
abbrev cX8_step : ByteArray := prog_10_method_22_code
def yX8_step : MethodName := ⟨RX8, "step", "(III)I"⟩
abbrev cX8_lay : ByteArray := prog_10_method_23_code
def yX8_lay : MethodName := ⟨RX8, "lay", "(IZ)V"⟩
abbrev cX8_isKind : ByteArray := prog_10_method_24_code
def yX8_isKind : MethodName := ⟨RX8, "isKind", "(II)Z"⟩
abbrev cX8_isFar : ByteArray := prog_10_method_25_code
def yX8_isFar : MethodName := ⟨RX8, "isFar", "(III)Z"⟩
abbrev cX8_isFallen : ByteArray := prog_10_method_26_code
def yX8_isFallen : MethodName := ⟨RX8, "isFallen", "(III)Z"⟩
abbrev cX8_canOn : ByteArray := prog_10_method_27_code
def yX8_canOn : MethodName := ⟨RX8, "canOn", "(III)Z"⟩
abbrev cX8_may : ByteArray := prog_10_method_28_code
def yX8_may : MethodName := ⟨RX8, "may", "(IIII)I"⟩
abbrev cX8_timesOf : ByteArray := prog_10_method_29_code
def yX8_timesOf : MethodName := ⟨RX8, "timesOf", "(I)I"⟩
abbrev cX8_leftOf : ByteArray := prog_10_method_30_code
def yX8_leftOf : MethodName := ⟨RX8, "leftOf", "(I)I"⟩
abbrev cX8_person : ByteArray := prog_10_method_31_code
def yX8_person : MethodName := ⟨RX8, "person", "(II)I"⟩
abbrev cX8_isPerson : ByteArray := prog_10_method_32_code
def yX8_isPerson : MethodName := ⟨RX8, "isPerson", "(I)Z"⟩
abbrev cX8_who : ByteArray := prog_10_method_33_code
def yX8_who : MethodName := ⟨RX8, "who", "(II)I"⟩
abbrev cX8_doneOf : ByteArray := prog_10_method_34_code
def yX8_doneOf : MethodName := ⟨RX8, "doneOf", "(I)I"⟩
abbrev cX8_isCarried : ByteArray := prog_10_method_35_code
def yX8_isCarried : MethodName := ⟨RX8, "isCarried", "(I)Z"⟩
abbrev cX8_isVoid : ByteArray := prog_10_method_36_code
def yX8_isVoid : MethodName := ⟨RX8, "isVoid", "(I)Z"⟩
abbrev cX8_call : ByteArray := prog_10_method_37_code
def yX8_call : MethodName := ⟨RX8, "call", "(I)Z"⟩
abbrev cX8_forbids : ByteArray := prog_10_method_38_code
def yX8_forbids : MethodName := ⟨RX8, "forbids", "(I)Z"⟩
abbrev cX8_isSigner : ByteArray := prog_10_method_39_code
def yX8_isSigner : MethodName := ⟨RX8, "isSigner", "(I)Z"⟩
abbrev cX8_isLawful : ByteArray := prog_10_method_40_code
def yX8_isLawful : MethodName := ⟨RX8, "isLawful", "(III)Z"⟩
abbrev cX8_act : ByteArray := prog_10_method_41_code
def yX8_act : MethodName := ⟨RX8, "act", "(III)I"⟩
abbrev cX8_now : ByteArray := prog_10_method_42_code
def yX8_now : MethodName := ⟨RX8, "now", "(I)I"⟩
abbrev cX8_bill : ByteArray := prog_10_method_43_code
def yX8_bill : MethodName := ⟨RX8, "bill", "(II)I"⟩
abbrev cX8_isOpen : ByteArray := prog_10_method_44_code
def yX8_isOpen : MethodName := ⟨RX8, "isOpen", "(I)Z"⟩
abbrev cX8_findEnds : ByteArray := prog_10_method_45_code
def yX8_findEnds : MethodName := ⟨RX8, "findEnds", "()V"⟩
abbrev cX8_endFrom : ByteArray := prog_10_method_46_code
def yX8_endFrom : MethodName := ⟨RX8, "endFrom", "(III)I"⟩
abbrev cX8_findSoon : ByteArray := prog_10_method_47_code
def yX8_findSoon : MethodName := ⟨RX8, "findSoon", "(I)I"⟩
abbrev cX8_soon : ByteArray := prog_10_method_48_code
def yX8_soon : MethodName := ⟨RX8, "soon", "(II)I"⟩
abbrev cX8_place : ByteArray := prog_10_method_49_code
def yX8_place : MethodName := ⟨RX8, "place", "(IIII)I"⟩
abbrev cX8_closeDay : ByteArray := prog_10_method_50_code
def yX8_closeDay : MethodName := ⟨RX8, "closeDay", "()V"⟩
abbrev cX8_fallBack : ByteArray := prog_10_method_51_code
def yX8_fallBack : MethodName := ⟨RX8, "fallBack", "(III)V"⟩
abbrev cX8_callAt : ByteArray := prog_10_method_52_code
def yX8_callAt : MethodName := ⟨RX8, "callAt", "(IIIII)I"⟩
abbrev cX8_play : ByteArray := prog_10_method_53_code
def yX8_play : MethodName := ⟨RX8, "play", "(IZII)V"⟩
abbrev cX8_playNow : ByteArray := prog_10_method_54_code
def yX8_playNow : MethodName := ⟨RX8, "playNow", "(III)V"⟩
abbrev cX8_tells : ByteArray := prog_10_method_55_code
def yX8_tells : MethodName := ⟨RX8, "tells", "(III)I"⟩
abbrev cX8_against : ByteArray := prog_10_method_56_code
def yX8_against : MethodName := ⟨RX8, "against", "(I)I"⟩
abbrev cX8_sure : ByteArray := prog_10_method_57_code
def yX8_sure : MethodName := ⟨RX8, "sure", "(III)I"⟩
abbrev cX8_delay : ByteArray := prog_10_method_58_code
def yX8_delay : MethodName := ⟨RX8, "delay", "(II)I"⟩
abbrev cX8_bitsIn : ByteArray := prog_10_method_59_code
def yX8_bitsIn : MethodName := ⟨RX8, "bitsIn", "(I)I"⟩
abbrev cX8_stop : ByteArray := prog_10_method_60_code
def yX8_stop : MethodName := ⟨RX8, "stop", "(II)I"⟩
abbrev cX8_group : ByteArray := prog_10_method_61_code
def yX8_group : MethodName := ⟨RX8, "group", "()I"⟩
abbrev cX8_wish : ByteArray := prog_10_method_62_code
def yX8_wish : MethodName := ⟨RX8, "wish", "(III)I"⟩
abbrev cX8_doesPass : ByteArray := prog_10_method_63_code
def yX8_doesPass : MethodName := ⟨RX8, "doesPass", "(I)Z"⟩
abbrev cX8_passes : ByteArray := prog_10_method_64_code
def yX8_passes : MethodName := ⟨RX8, "passes", "(I)I"⟩
abbrev cX8_ride : ByteArray := prog_10_method_65_code
def yX8_ride : MethodName := ⟨RX8, "ride", "(II)I"⟩
abbrev cX8_tears : ByteArray := prog_10_method_66_code
def yX8_tears : MethodName := ⟨RX8, "tears", "(I)I"⟩
abbrev cX8_word : ByteArray := prog_10_method_67_code
def yX8_word : MethodName := ⟨RX8, "word", "(IIII)I"⟩
abbrev cX8_less : ByteArray := prog_10_method_68_code
def yX8_less : MethodName := ⟨RX8, "less", "(II)I"⟩
abbrev cX8_sureWith : ByteArray := prog_10_method_69_code
def yX8_sureWith : MethodName := ⟨RX8, "sureWith", "(II)I"⟩
abbrev cX8_mended : ByteArray := prog_10_method_70_code
def yX8_mended : MethodName := ⟨RX8, "mended", "(I)I"⟩
abbrev cX8_price : ByteArray := prog_10_method_71_code
def yX8_price : MethodName := ⟨RX8, "price", "(II)I"⟩
abbrev cX8_copy : ByteArray := prog_10_method_72_code
def yX8_copy : MethodName := ⟨RX8, "copy", "(II)V"⟩
abbrev cX8_keep : ByteArray := prog_10_method_73_code
def yX8_keep : MethodName := ⟨RX8, "keep", "(I)I"⟩
abbrev cX8_back : ByteArray := prog_10_method_74_code
def yX8_back : MethodName := ⟨RX8, "back", "(I)I"⟩
abbrev cX8_count : ByteArray := prog_10_method_75_code
def yX8_count : MethodName := ⟨RX8, "count", "(I)I"⟩
abbrev cX8_trace : ByteArray := prog_10_method_76_code
def yX8_trace : MethodName := ⟨RX8, "trace", "()J"⟩
def RJx145de : String := "java/io/Serializable"
def TJx145de : u_T := fun k => match k with
  | _ => ("", "", "", false)
def tyJx145de : Nat → FieldType := fun k => match k with
  | _ => .int
theorem nmJx145de : ∀ a, a < 0 → ∀ b, b < 0 → a ≠ b → (TJx145de a).2.1 ≠ (TJx145de b).2.1 := by decide +kernel
theorem tyJx145de_ok : ∀ k, k < 0 → parseFieldDescriptor (TJx145de k).2.2.1 = some (tyJx145de k) := by decide +kernel
def RJx9f9b0 : String := "java/lang/CharSequence"
def TJx9f9b0 : u_T := fun k => match k with
  | _ => ("", "", "", false)
def tyJx9f9b0 : Nat → FieldType := fun k => match k with
  | _ => .int
theorem nmJx9f9b0 : ∀ a, a < 0 → ∀ b, b < 0 → a ≠ b → (TJx9f9b0 a).2.1 ≠ (TJx9f9b0 b).2.1 := by decide +kernel
theorem tyJx9f9b0_ok : ∀ k, k < 0 → parseFieldDescriptor (TJx9f9b0 k).2.2.1 = some (tyJx9f9b0 k) := by decide +kernel
def RJxb160c : String := "java/lang/Comparable"
def TJxb160c : u_T := fun k => match k with
  | _ => ("", "", "", false)
def tyJxb160c : Nat → FieldType := fun k => match k with
  | _ => .int
theorem nmJxb160c : ∀ a, a < 0 → ∀ b, b < 0 → a ≠ b → (TJxb160c a).2.1 ≠ (TJxb160c b).2.1 := by decide +kernel
theorem tyJxb160c_ok : ∀ k, k < 0 → parseFieldDescriptor (TJxb160c k).2.2.1 = some (tyJxb160c k) := by decide +kernel
def RJ6 : String := "java/lang/Integer"
def TJ6 : u_T := fun k => match k with
  | _ => ("", "", "", false)
def tyJ6 : Nat → FieldType := fun k => match k with
  | _ => .int
theorem nmJ6 : ∀ a, a < 0 → ∀ b, b < 0 → a ≠ b → (TJ6 a).2.1 ≠ (TJ6 b).2.1 := by decide +kernel
theorem tyJ6_ok : ∀ k, k < 0 → parseFieldDescriptor (TJ6 k).2.2.1 = some (tyJ6 k) := by decide +kernel
abbrev cJ6_bitCount_0f7a4 : ByteArray := prog_11_method_49_code
def yJ6_bitCount_0f7a4 : MethodName := ⟨RJ6, "bitCount", "(I)I"⟩
def RJ13 : String := "java/lang/Long"
def TJ13 : u_T := fun k => match k with
  | _ => ("", "", "", false)
def tyJ13 : Nat → FieldType := fun k => match k with
  | _ => .int
theorem nmJ13 : ∀ a, a < 0 → ∀ b, b < 0 → a ≠ b → (TJ13 a).2.1 ≠ (TJ13 b).2.1 := by decide +kernel
theorem tyJ13_ok : ∀ k, k < 0 → parseFieldDescriptor (TJ13 k).2.2.1 = some (tyJ13 k) := by decide +kernel
abbrev cJ13_bitCount_95d88 : ByteArray := prog_12_method_50_code
def yJ13_bitCount_95d88 : MethodName := ⟨RJ13, "bitCount", "(J)I"⟩
def RJ9 : String := "java/lang/Math"
def TJ9 : u_T := fun k => match k with
  | _ => ("", "", "", false)
def tyJ9 : Nat → FieldType := fun k => match k with
  | _ => .int
theorem nmJ9 : ∀ a, a < 0 → ∀ b, b < 0 → a ≠ b → (TJ9 a).2.1 ≠ (TJ9 b).2.1 := by decide +kernel
theorem tyJ9_ok : ∀ k, k < 0 → parseFieldDescriptor (TJ9 k).2.2.1 = some (tyJ9 k) := by decide +kernel
abbrev cJ9_floorDiv_7cf53 : ByteArray := prog_13_method_47_code
def yJ9_floorDiv_7cf53 : MethodName := ⟨RJ9, "floorDiv", "(II)I"⟩
abbrev cJ9_max_7cf53 : ByteArray := prog_13_method_65_code
def yJ9_max_7cf53 : MethodName := ⟨RJ9, "max", "(II)I"⟩
abbrev cJ9_min_7cf53 : ByteArray := prog_13_method_69_code
def yJ9_min_7cf53 : MethodName := ⟨RJ9, "min", "(II)I"⟩
def RJ0 : String := "java/lang/String"
def TJ0 : u_T := fun k => match k with
  | _ => ("", "", "", false)
def tyJ0 : Nat → FieldType := fun k => match k with
  | _ => .int
theorem nmJ0 : ∀ a, a < 0 → ∀ b, b < 0 → a ≠ b → (TJ0 a).2.1 ≠ (TJ0 b).2.1 := by decide +kernel
theorem tyJ0_ok : ∀ k, k < 0 → parseFieldDescriptor (TJ0 k).2.2.1 = some (tyJ0 k) := by decide +kernel
abbrev cJ0_length_8abf5 : ByteArray := prog_14_method_54_code
def yJ0_length_8abf5 : MethodName := ⟨RJ0, "length", "()I"⟩
abbrev cJ0_charAt_5068e : ByteArray := prog_14_method_56_code
def yJ0_charAt_5068e : MethodName := ⟨RJ0, "charAt", "(I)C"⟩
abbrev cJ0_coder_7d493 : ByteArray := prog_14_method_152_code
def yJ0_coder_7d493 : MethodName := ⟨RJ0, "coder", "()B"⟩
abbrev cJ0_isLatin1_aae02 : ByteArray := prog_14_method_154_code
def yJ0_isLatin1_aae02 : MethodName := ⟨RJ0, "isLatin1", "()Z"⟩
abbrev cJ0_checkIndex_df160 : ByteArray := prog_14_method_155_code
def yJ0_checkIndex_df160 : MethodName := ⟨RJ0, "checkIndex", "(II)V"⟩
def RJ1 : String := "java/lang/StringLatin1"
def TJ1 : u_T := fun k => match k with
  | _ => ("", "", "", false)
def tyJ1 : Nat → FieldType := fun k => match k with
  | _ => .int
theorem nmJ1 : ∀ a, a < 0 → ∀ b, b < 0 → a ≠ b → (TJ1 a).2.1 ≠ (TJ1 b).2.1 := by decide +kernel
theorem tyJ1_ok : ∀ k, k < 0 → parseFieldDescriptor (TJ1 k).2.2.1 = some (tyJ1 k) := by decide +kernel
abbrev cJ1_charAt_3b067 : ByteArray := prog_15_method_2_code
def yJ1_charAt_3b067 : MethodName := ⟨RJ1, "charAt", "([BI)C"⟩
def RJ2 : String := "java/lang/StringUTF16"
def TJ2 : u_T := fun k => match k with
  | _ => ("", "", "", false)
def tyJ2 : Nat → FieldType := fun k => match k with
  | _ => .int
theorem nmJ2 : ∀ a, a < 0 → ∀ b, b < 0 → a ≠ b → (TJ2 a).2.1 ≠ (TJ2 b).2.1 := by decide +kernel
theorem tyJ2_ok : ∀ k, k < 0 → parseFieldDescriptor (TJ2 k).2.2.1 = some (tyJ2 k) := by decide +kernel
abbrev cJ2_getChar_3b067 : ByteArray := prog_16_method_5_code
def yJ2_getChar_3b067 : MethodName := ⟨RJ2, "getChar", "([BI)C"⟩
abbrev cJ2_length_9d52b : ByteArray := prog_16_method_6_code
def yJ2_length_9d52b : MethodName := ⟨RJ2, "length", "([B)I"⟩
abbrev cJ2_charAt_3b067 : ByteArray := prog_16_method_83_code
def yJ2_charAt_3b067 : MethodName := ⟨RJ2, "charAt", "([BI)C"⟩
abbrev cJ2_checkIndex_2214a : ByteArray := prog_16_method_91_code
def yJ2_checkIndex_2214a : MethodName := ⟨RJ2, "checkIndex", "(I[B)V"⟩
def RJ10 : String := "java/lang/System"
def TJ10 : u_T := fun k => match k with
  | _ => ("", "", "", false)
def tyJ10 : Nat → FieldType := fun k => match k with
  | _ => .int
theorem nmJ10 : ∀ a, a < 0 → ∀ b, b < 0 → a ≠ b → (TJ10 a).2.1 ≠ (TJ10 b).2.1 := by decide +kernel
theorem tyJ10_ok : ∀ k, k < 0 → parseFieldDescriptor (TJ10 k).2.2.1 = some (tyJ10 k) := by decide +kernel
def RJxfd54e : String := "java/lang/constant/Constable"
def TJxfd54e : u_T := fun k => match k with
  | _ => ("", "", "", false)
def tyJxfd54e : Nat → FieldType := fun k => match k with
  | _ => .int
theorem nmJxfd54e : ∀ a, a < 0 → ∀ b, b < 0 → a ≠ b → (TJxfd54e a).2.1 ≠ (TJxfd54e b).2.1 := by decide +kernel
theorem tyJxfd54e_ok : ∀ k, k < 0 → parseFieldDescriptor (TJxfd54e k).2.2.1 = some (tyJxfd54e k) := by decide +kernel
def RJx3cf43 : String := "java/lang/constant/ConstantDesc"
def TJx3cf43 : u_T := fun k => match k with
  | _ => ("", "", "", false)
def tyJx3cf43 : Nat → FieldType := fun k => match k with
  | _ => .int
theorem nmJx3cf43 : ∀ a, a < 0 → ∀ b, b < 0 → a ≠ b → (TJx3cf43 a).2.1 ≠ (TJx3cf43 b).2.1 := by decide +kernel
theorem tyJx3cf43_ok : ∀ k, k < 0 → parseFieldDescriptor (TJx3cf43 k).2.2.1 = some (tyJx3cf43 k) := by decide +kernel
def RJ7 : String := "java/util/Arrays"
def TJ7 : u_T := fun k => match k with
  | _ => ("", "", "", false)
def tyJ7 : Nat → FieldType := fun k => match k with
  | _ => .int
theorem nmJ7 : ∀ a, a < 0 → ∀ b, b < 0 → a ≠ b → (TJ7 a).2.1 ≠ (TJ7 b).2.1 := by decide +kernel
theorem tyJ7_ok : ∀ k, k < 0 → parseFieldDescriptor (TJ7 k).2.2.1 = some (tyJ7 k) := by decide +kernel
abbrev cJ7_fill_53178 : ByteArray := prog_18_method_103_code
def yJ7_fill_53178 : MethodName := ⟨RJ7, "fill", "([II)V"⟩
def RJ3 : String := "jdk/internal/util/Preconditions"
def TJ3 : u_T := fun k => match k with
  | _ => ("", "", "", false)
def tyJ3 : Nat → FieldType := fun k => match k with
  | _ => .int
theorem nmJ3 : ∀ a, a < 0 → ∀ b, b < 0 → a ≠ b → (TJ3 a).2.1 ≠ (TJ3 b).2.1 := by decide +kernel
theorem tyJ3_ok : ∀ k, k < 0 → parseFieldDescriptor (TJ3 k).2.2.1 = some (tyJ3 k) := by decide +kernel
abbrev cJ3_checkIndex_8e157 : ByteArray := prog_19_method_11_code
def yJ3_checkIndex_8e157 : MethodName := ⟨RJ3, "checkIndex", "(IILjava/util/function/BiFunction;)I"⟩
def RL : String := "NoDayForItLaw"
abbrev cL_law : ByteArray := code
def yL_law : MethodName := ⟨RL, "law", "([I)Z"⟩
abbrev vwCl : List vw_C := [(RX0, TX0, 15), (RX1, TX1, 10), (RX2, TX2, 7), (RX3, TX3, 8), (RX4, TX4, 2), (RX5, TX5, 3), (RX6, TX6, 5), (RX7, TX7, 16), (RX8, TX8, 44)]
end
section
theorem dX0_init_0 : decode cX0_init 0 = .ok (.aload_n 0, 1) := by decide +kernel
theorem dX0_init_1 : decode cX0_init 1 = .ok (.invokespecial 3, 3) := by decide +kernel
theorem dX0_init_4 : decode cX0_init 4 = .ok (.aload_n 0, 1) := by decide +kernel
theorem dX0_init_5 : decode cX0_init 5 = .ok (.bipush (-9), 2) := by decide +kernel
theorem dX0_init_7 : decode cX0_init 7 = .ok (.putfield 9, 3) := by decide +kernel
theorem dX0_init_10 : decode cX0_init 10 = .ok (.aload_n 0, 1) := by decide +kernel
theorem dX0_init_11 : decode cX0_init 11 = .ok (.bipush (-9), 2) := by decide +kernel
theorem dX0_init_13 : decode cX0_init 13 = .ok (.putfield 15, 3) := by decide +kernel
theorem dX0_init_16 : decode cX0_init 16 = .ok (.aload_n 0, 1) := by decide +kernel
theorem dX0_init_17 : decode cX0_init 17 = .ok (.bipush (-9), 2) := by decide +kernel
theorem dX0_init_19 : decode cX0_init 19 = .ok (.putfield 18, 3) := by decide +kernel
theorem dX0_init_22 : decode cX0_init 22 = .ok (.aload_n 0, 1) := by decide +kernel
theorem dX0_init_23 : decode cX0_init 23 = .ok (.bipush 8, 2) := by decide +kernel
theorem dX0_init_25 : decode cX0_init 25 = .ok (.newarray .int, 2) := by decide +kernel
theorem dX0_init_27 : decode cX0_init 27 = .ok (.putfield 21, 3) := by decide +kernel
theorem dX0_init_30 : decode cX0_init 30 = .ok (.aload_n 0, 1) := by decide +kernel
theorem dX0_init_31 : decode cX0_init 31 = .ok (.iconst 2, 1) := by decide +kernel
theorem dX0_init_32 : decode cX0_init 32 = .ok (.newarray .int, 2) := by decide +kernel
theorem dX0_init_34 : decode cX0_init 34 = .ok (.putfield 25, 3) := by decide +kernel
theorem dX0_init_37 : decode cX0_init 37 = .ok (.aload_n 0, 1) := by decide +kernel
theorem dX0_init_38 : decode cX0_init 38 = .ok (.iconst 2, 1) := by decide +kernel
theorem dX0_init_39 : decode cX0_init 39 = .ok (.newarray .int, 2) := by decide +kernel
theorem dX0_init_41 : decode cX0_init 41 = .ok (.putfield 28, 3) := by decide +kernel
theorem dX0_init_44 : decode cX0_init 44 = .ok (.aload_n 0, 1) := by decide +kernel
theorem dX0_init_45 : decode cX0_init 45 = .ok (.getfield 28, 3) := by decide +kernel
theorem dX0_init_48 : decode cX0_init 48 = .ok (.bipush (-9), 2) := by decide +kernel
theorem dX0_init_50 : decode cX0_init 50 = .ok (.invokestatic 31, 3) := by decide +kernel
theorem dX0_init_53 : decode cX0_init 53 = .ok (.return_, 1) := by decide +kernel
theorem dX0_begin_0 : decode cX0_begin 0 = .ok (.aload_n 0, 1) := by decide +kernel
theorem dX0_begin_1 : decode cX0_begin 1 = .ok (.iconst 0, 1) := by decide +kernel
theorem dX0_begin_2 : decode cX0_begin 2 = .ok (.putfield 37, 3) := by decide +kernel
theorem dX0_begin_5 : decode cX0_begin 5 = .ok (.aload_n 0, 1) := by decide +kernel
theorem dX0_begin_6 : decode cX0_begin 6 = .ok (.iconst 0, 1) := by decide +kernel
theorem dX0_begin_7 : decode cX0_begin 7 = .ok (.putfield 40, 3) := by decide +kernel
theorem dX0_begin_10 : decode cX0_begin 10 = .ok (.aload_n 0, 1) := by decide +kernel
theorem dX0_begin_11 : decode cX0_begin 11 = .ok (.iconst 0, 1) := by decide +kernel
theorem dX0_begin_12 : decode cX0_begin 12 = .ok (.putfield 43, 3) := by decide +kernel
theorem dX0_begin_15 : decode cX0_begin 15 = .ok (.aload_n 0, 1) := by decide +kernel
theorem dX0_begin_16 : decode cX0_begin 16 = .ok (.bipush (-9), 2) := by decide +kernel
theorem dX0_begin_18 : decode cX0_begin 18 = .ok (.putfield 9, 3) := by decide +kernel
theorem dX0_begin_21 : decode cX0_begin 21 = .ok (.aload_n 0, 1) := by decide +kernel
theorem dX0_begin_22 : decode cX0_begin 22 = .ok (.iconst 0, 1) := by decide +kernel
theorem dX0_begin_23 : decode cX0_begin 23 = .ok (.putfield 46, 3) := by decide +kernel
theorem dX0_begin_26 : decode cX0_begin 26 = .ok (.aload_n 0, 1) := by decide +kernel
theorem dX0_begin_27 : decode cX0_begin 27 = .ok (.iconst 0, 1) := by decide +kernel
theorem dX0_begin_28 : decode cX0_begin 28 = .ok (.putfield 50, 3) := by decide +kernel
theorem dX0_begin_31 : decode cX0_begin 31 = .ok (.aload_n 0, 1) := by decide +kernel
theorem dX0_begin_32 : decode cX0_begin 32 = .ok (.iconst 0, 1) := by decide +kernel
theorem dX0_begin_33 : decode cX0_begin 33 = .ok (.putfield 53, 3) := by decide +kernel
theorem dX0_begin_36 : decode cX0_begin 36 = .ok (.aload_n 0, 1) := by decide +kernel
theorem dX0_begin_37 : decode cX0_begin 37 = .ok (.bipush (-9), 2) := by decide +kernel
theorem dX0_begin_39 : decode cX0_begin 39 = .ok (.putfield 15, 3) := by decide +kernel
theorem dX0_begin_42 : decode cX0_begin 42 = .ok (.aload_n 0, 1) := by decide +kernel
theorem dX0_begin_43 : decode cX0_begin 43 = .ok (.lconst 0, 1) := by decide +kernel
theorem dX0_begin_44 : decode cX0_begin 44 = .ok (.putfield 56, 3) := by decide +kernel
theorem dX0_begin_47 : decode cX0_begin 47 = .ok (.aload_n 0, 1) := by decide +kernel
theorem dX0_begin_48 : decode cX0_begin 48 = .ok (.getfield 25, 3) := by decide +kernel
theorem dX0_begin_51 : decode cX0_begin 51 = .ok (.iconst 0, 1) := by decide +kernel
theorem dX0_begin_52 : decode cX0_begin 52 = .ok (.invokestatic 31, 3) := by decide +kernel
theorem dX0_begin_55 : decode cX0_begin 55 = .ok (.aload_n 0, 1) := by decide +kernel
theorem dX0_begin_56 : decode cX0_begin 56 = .ok (.getfield 28, 3) := by decide +kernel
theorem dX0_begin_59 : decode cX0_begin 59 = .ok (.bipush (-9), 2) := by decide +kernel
theorem dX0_begin_61 : decode cX0_begin 61 = .ok (.invokestatic 31, 3) := by decide +kernel
theorem dX0_begin_64 : decode cX0_begin 64 = .ok (.iconst 0, 1) := by decide +kernel
theorem dX0_begin_65 : decode cX0_begin 65 = .ok (.istore_n 2, 1) := by decide +kernel
theorem dX0_begin_66 : decode cX0_begin 66 = .ok (.iload_n 2, 1) := by decide +kernel
theorem dX0_begin_67 : decode cX0_begin 67 = .ok (.bipush 8, 2) := by decide +kernel
theorem dX0_begin_69 : decode cX0_begin 69 = .ok (.if_icmp .ge 22, 3) := by decide +kernel
theorem dX0_begin_72 : decode cX0_begin 72 = .ok (.aload_n 0, 1) := by decide +kernel
theorem dX0_begin_73 : decode cX0_begin 73 = .ok (.getfield 21, 3) := by decide +kernel
theorem dX0_begin_76 : decode cX0_begin 76 = .ok (.iload_n 2, 1) := by decide +kernel
theorem dX0_begin_77 : decode cX0_begin 77 = .ok (.aload_n 1, 1) := by decide +kernel
theorem dX0_begin_78 : decode cX0_begin 78 = .ok (.iload_n 2, 1) := by decide +kernel
theorem dX0_begin_79 : decode cX0_begin 79 = .ok (.invokevirtual 60, 3) := by decide +kernel
theorem dX0_begin_82 : decode cX0_begin 82 = .ok (.invokestatic 66, 3) := by decide +kernel
theorem dX0_begin_85 : decode cX0_begin 85 = .ok (.iinc 2 1, 3) := by decide +kernel
theorem dX0_begin_88 : decode cX0_begin 88 = .ok (.goto (-22), 3) := by decide +kernel
theorem dX0_begin_91 : decode cX0_begin 91 = .ok (.return_, 1) := by decide +kernel
theorem dX0_copy_0 : decode cX0_copy 0 = .ok (.aload_n 0, 1) := by decide +kernel
theorem dX0_copy_1 : decode cX0_copy 1 = .ok (.aload_n 1, 1) := by decide +kernel
theorem dX0_copy_2 : decode cX0_copy 2 = .ok (.getfield 37, 3) := by decide +kernel
theorem dX0_copy_5 : decode cX0_copy 5 = .ok (.putfield 37, 3) := by decide +kernel
theorem dX0_copy_8 : decode cX0_copy 8 = .ok (.aload_n 0, 1) := by decide +kernel
theorem dX0_copy_9 : decode cX0_copy 9 = .ok (.aload_n 1, 1) := by decide +kernel
theorem dX0_copy_10 : decode cX0_copy 10 = .ok (.getfield 40, 3) := by decide +kernel
theorem dX0_copy_13 : decode cX0_copy 13 = .ok (.putfield 40, 3) := by decide +kernel
theorem dX0_copy_16 : decode cX0_copy 16 = .ok (.aload_n 0, 1) := by decide +kernel
theorem dX0_copy_17 : decode cX0_copy 17 = .ok (.aload_n 1, 1) := by decide +kernel
theorem dX0_copy_18 : decode cX0_copy 18 = .ok (.getfield 43, 3) := by decide +kernel
theorem dX0_copy_21 : decode cX0_copy 21 = .ok (.putfield 43, 3) := by decide +kernel
theorem dX0_copy_24 : decode cX0_copy 24 = .ok (.aload_n 0, 1) := by decide +kernel
theorem dX0_copy_25 : decode cX0_copy 25 = .ok (.aload_n 1, 1) := by decide +kernel
theorem dX0_copy_26 : decode cX0_copy 26 = .ok (.getfield 9, 3) := by decide +kernel
theorem dX0_copy_29 : decode cX0_copy 29 = .ok (.putfield 9, 3) := by decide +kernel
theorem dX0_copy_32 : decode cX0_copy 32 = .ok (.aload_n 0, 1) := by decide +kernel
theorem dX0_copy_33 : decode cX0_copy 33 = .ok (.aload_n 1, 1) := by decide +kernel
theorem dX0_copy_34 : decode cX0_copy 34 = .ok (.getfield 46, 3) := by decide +kernel
theorem dX0_copy_37 : decode cX0_copy 37 = .ok (.putfield 46, 3) := by decide +kernel
theorem dX0_copy_40 : decode cX0_copy 40 = .ok (.aload_n 0, 1) := by decide +kernel
theorem dX0_copy_41 : decode cX0_copy 41 = .ok (.aload_n 1, 1) := by decide +kernel
theorem dX0_copy_42 : decode cX0_copy 42 = .ok (.getfield 50, 3) := by decide +kernel
theorem dX0_copy_45 : decode cX0_copy 45 = .ok (.putfield 50, 3) := by decide +kernel
theorem dX0_copy_48 : decode cX0_copy 48 = .ok (.aload_n 0, 1) := by decide +kernel
theorem dX0_copy_49 : decode cX0_copy 49 = .ok (.aload_n 1, 1) := by decide +kernel
theorem dX0_copy_50 : decode cX0_copy 50 = .ok (.getfield 53, 3) := by decide +kernel
theorem dX0_copy_53 : decode cX0_copy 53 = .ok (.putfield 53, 3) := by decide +kernel
theorem dX0_copy_56 : decode cX0_copy 56 = .ok (.aload_n 0, 1) := by decide +kernel
theorem dX0_copy_57 : decode cX0_copy 57 = .ok (.aload_n 1, 1) := by decide +kernel
theorem dX0_copy_58 : decode cX0_copy 58 = .ok (.getfield 15, 3) := by decide +kernel
theorem dX0_copy_61 : decode cX0_copy 61 = .ok (.putfield 15, 3) := by decide +kernel
theorem dX0_copy_64 : decode cX0_copy 64 = .ok (.aload_n 0, 1) := by decide +kernel
theorem dX0_copy_65 : decode cX0_copy 65 = .ok (.aload_n 1, 1) := by decide +kernel
theorem dX0_copy_66 : decode cX0_copy 66 = .ok (.getfield 70, 3) := by decide +kernel
theorem dX0_copy_69 : decode cX0_copy 69 = .ok (.putfield 70, 3) := by decide +kernel
theorem dX0_copy_72 : decode cX0_copy 72 = .ok (.aload_n 0, 1) := by decide +kernel
theorem dX0_copy_73 : decode cX0_copy 73 = .ok (.aload_n 1, 1) := by decide +kernel
theorem dX0_copy_74 : decode cX0_copy 74 = .ok (.getfield 18, 3) := by decide +kernel
theorem dX0_copy_77 : decode cX0_copy 77 = .ok (.putfield 18, 3) := by decide +kernel
theorem dX0_copy_80 : decode cX0_copy 80 = .ok (.aload_n 0, 1) := by decide +kernel
theorem dX0_copy_81 : decode cX0_copy 81 = .ok (.aload_n 1, 1) := by decide +kernel
theorem dX0_copy_82 : decode cX0_copy 82 = .ok (.getfield 56, 3) := by decide +kernel
theorem dX0_copy_85 : decode cX0_copy 85 = .ok (.putfield 56, 3) := by decide +kernel
theorem dX0_copy_88 : decode cX0_copy 88 = .ok (.aload_n 1, 1) := by decide +kernel
theorem dX0_copy_89 : decode cX0_copy 89 = .ok (.getfield 21, 3) := by decide +kernel
theorem dX0_copy_92 : decode cX0_copy 92 = .ok (.iconst 0, 1) := by decide +kernel
theorem dX0_copy_93 : decode cX0_copy 93 = .ok (.aload_n 0, 1) := by decide +kernel
theorem dX0_copy_94 : decode cX0_copy 94 = .ok (.getfield 21, 3) := by decide +kernel
theorem dX0_copy_97 : decode cX0_copy 97 = .ok (.iconst 0, 1) := by decide +kernel
theorem dX0_copy_98 : decode cX0_copy 98 = .ok (.bipush 8, 2) := by decide +kernel
theorem dX0_copy_100 : decode cX0_copy 100 = .ok (.invokestatic 73, 3) := by decide +kernel
theorem dX0_copy_103 : decode cX0_copy 103 = .ok (.aload_n 1, 1) := by decide +kernel
theorem dX0_copy_104 : decode cX0_copy 104 = .ok (.getfield 25, 3) := by decide +kernel
theorem dX0_copy_107 : decode cX0_copy 107 = .ok (.iconst 0, 1) := by decide +kernel
theorem dX0_copy_108 : decode cX0_copy 108 = .ok (.aload_n 0, 1) := by decide +kernel
theorem dX0_copy_109 : decode cX0_copy 109 = .ok (.getfield 25, 3) := by decide +kernel
theorem dX0_copy_112 : decode cX0_copy 112 = .ok (.iconst 0, 1) := by decide +kernel
theorem dX0_copy_113 : decode cX0_copy 113 = .ok (.iconst 2, 1) := by decide +kernel
theorem dX0_copy_114 : decode cX0_copy 114 = .ok (.invokestatic 73, 3) := by decide +kernel
theorem dX0_copy_117 : decode cX0_copy 117 = .ok (.aload_n 1, 1) := by decide +kernel
theorem dX0_copy_118 : decode cX0_copy 118 = .ok (.getfield 28, 3) := by decide +kernel
theorem dX0_copy_121 : decode cX0_copy 121 = .ok (.iconst 0, 1) := by decide +kernel
theorem dX0_copy_122 : decode cX0_copy 122 = .ok (.aload_n 0, 1) := by decide +kernel
theorem dX0_copy_123 : decode cX0_copy 123 = .ok (.getfield 28, 3) := by decide +kernel
theorem dX0_copy_126 : decode cX0_copy 126 = .ok (.iconst 0, 1) := by decide +kernel
theorem dX0_copy_127 : decode cX0_copy 127 = .ok (.iconst 2, 1) := by decide +kernel
theorem dX0_copy_128 : decode cX0_copy 128 = .ok (.invokestatic 73, 3) := by decide +kernel
theorem dX0_copy_131 : decode cX0_copy 131 = .ok (.return_, 1) := by decide +kernel
theorem dX0_slip_0 : decode cX0_slip 0 = .ok (.aload_n 0, 1) := by decide +kernel
theorem dX0_slip_1 : decode cX0_slip 1 = .ok (.getfield 43, 3) := by decide +kernel
theorem dX0_slip_4 : decode cX0_slip 4 = .ok (.ifCond .ne 11, 3) := by decide +kernel
theorem dX0_slip_7 : decode cX0_slip 7 = .ok (.aload_n 0, 1) := by decide +kernel
theorem dX0_slip_8 : decode cX0_slip 8 = .ok (.aload_n 0, 1) := by decide +kernel
theorem dX0_slip_9 : decode cX0_slip 9 = .ok (.getfield 40, 3) := by decide +kernel
theorem dX0_slip_12 : decode cX0_slip 12 = .ok (.putfield 9, 3) := by decide +kernel
theorem dX0_slip_15 : decode cX0_slip 15 = .ok (.aload_n 0, 1) := by decide +kernel
theorem dX0_slip_16 : decode cX0_slip 16 = .ok (.dup, 1) := by decide +kernel
theorem dX0_slip_17 : decode cX0_slip 17 = .ok (.getfield 43, 3) := by decide +kernel
theorem dX0_slip_20 : decode cX0_slip 20 = .ok (.iconst 1, 1) := by decide +kernel
theorem dX0_slip_21 : decode cX0_slip 21 = .ok (.iadd, 1) := by decide +kernel
theorem dX0_slip_22 : decode cX0_slip 22 = .ok (.putfield 43, 3) := by decide +kernel
theorem dX0_slip_25 : decode cX0_slip 25 = .ok (.return_, 1) := by decide +kernel
theorem dX0_doneOf_0 : decode cX0_doneOf 0 = .ok (.aload_n 0, 1) := by decide +kernel
theorem dX0_doneOf_1 : decode cX0_doneOf 1 = .ok (.getfield 25, 3) := by decide +kernel
theorem dX0_doneOf_4 : decode cX0_doneOf 4 = .ok (.iload_n 1, 1) := by decide +kernel
theorem dX0_doneOf_5 : decode cX0_doneOf 5 = .ok (.invokestatic 79, 3) := by decide +kernel
theorem dX0_doneOf_8 : decode cX0_doneOf 8 = .ok (.ireturn, 1) := by decide +kernel
theorem dX0_lastOf_0 : decode cX0_lastOf 0 = .ok (.aload_n 0, 1) := by decide +kernel
theorem dX0_lastOf_1 : decode cX0_lastOf 1 = .ok (.getfield 28, 3) := by decide +kernel
theorem dX0_lastOf_4 : decode cX0_lastOf 4 = .ok (.iload_n 1, 1) := by decide +kernel
theorem dX0_lastOf_5 : decode cX0_lastOf 5 = .ok (.invokestatic 79, 3) := by decide +kernel
theorem dX0_lastOf_8 : decode cX0_lastOf 8 = .ok (.ireturn, 1) := by decide +kernel
theorem dX0_setRun_0 : decode cX0_setRun 0 = .ok (.aload_n 0, 1) := by decide +kernel
theorem dX0_setRun_1 : decode cX0_setRun 1 = .ok (.getfield 25, 3) := by decide +kernel
theorem dX0_setRun_4 : decode cX0_setRun 4 = .ok (.iload_n 1, 1) := by decide +kernel
theorem dX0_setRun_5 : decode cX0_setRun 5 = .ok (.iload_n 2, 1) := by decide +kernel
theorem dX0_setRun_6 : decode cX0_setRun 6 = .ok (.invokestatic 66, 3) := by decide +kernel
theorem dX0_setRun_9 : decode cX0_setRun 9 = .ok (.aload_n 0, 1) := by decide +kernel
theorem dX0_setRun_10 : decode cX0_setRun 10 = .ok (.getfield 28, 3) := by decide +kernel
theorem dX0_setRun_13 : decode cX0_setRun 13 = .ok (.iload_n 1, 1) := by decide +kernel
theorem dX0_setRun_14 : decode cX0_setRun 14 = .ok (.iload_n 3, 1) := by decide +kernel
theorem dX0_setRun_15 : decode cX0_setRun 15 = .ok (.invokestatic 66, 3) := by decide +kernel
theorem dX0_setRun_18 : decode cX0_setRun 18 = .ok (.return_, 1) := by decide +kernel
theorem dX0_useOne_0 : decode cX0_useOne 0 = .ok (.aload_n 0, 1) := by decide +kernel
theorem dX0_useOne_1 : decode cX0_useOne 1 = .ok (.getfield 21, 3) := by decide +kernel
theorem dX0_useOne_4 : decode cX0_useOne 4 = .ok (.iload_n 1, 1) := by decide +kernel
theorem dX0_useOne_5 : decode cX0_useOne 5 = .ok (.aload_n 0, 1) := by decide +kernel
theorem dX0_useOne_6 : decode cX0_useOne 6 = .ok (.getfield 21, 3) := by decide +kernel
theorem dX0_useOne_9 : decode cX0_useOne 9 = .ok (.iload_n 1, 1) := by decide +kernel
theorem dX0_useOne_10 : decode cX0_useOne 10 = .ok (.invokestatic 79, 3) := by decide +kernel
theorem dX0_useOne_13 : decode cX0_useOne 13 = .ok (.iconst 1, 1) := by decide +kernel
theorem dX0_useOne_14 : decode cX0_useOne 14 = .ok (.isub, 1) := by decide +kernel
theorem dX0_useOne_15 : decode cX0_useOne 15 = .ok (.invokestatic 66, 3) := by decide +kernel
theorem dX0_useOne_18 : decode cX0_useOne 18 = .ok (.return_, 1) := by decide +kernel
theorem dX0_isMadeHoly_0 : decode cX0_isMadeHoly 0 = .ok (.aload_n 0, 1) := by decide +kernel
theorem dX0_isMadeHoly_1 : decode cX0_isMadeHoly 1 = .ok (.getfield 56, 3) := by decide +kernel
theorem dX0_isMadeHoly_4 : decode cX0_isMadeHoly 4 = .ok (.iload_n 1, 1) := by decide +kernel
theorem dX0_isMadeHoly_5 : decode cX0_isMadeHoly 5 = .ok (.lshr, 1) := by decide +kernel
theorem dX0_isMadeHoly_6 : decode cX0_isMadeHoly 6 = .ok (.lconst 1, 1) := by decide +kernel
theorem dX0_isMadeHoly_7 : decode cX0_isMadeHoly 7 = .ok (.land, 1) := by decide +kernel
theorem dX0_isMadeHoly_8 : decode cX0_isMadeHoly 8 = .ok (.lconst 1, 1) := by decide +kernel
theorem dX0_isMadeHoly_9 : decode cX0_isMadeHoly 9 = .ok (.lcmp, 1) := by decide +kernel
theorem dX0_isMadeHoly_10 : decode cX0_isMadeHoly 10 = .ok (.ifCond .ne 7, 3) := by decide +kernel
theorem dX0_isMadeHoly_13 : decode cX0_isMadeHoly 13 = .ok (.iconst 1, 1) := by decide +kernel
theorem dX0_isMadeHoly_14 : decode cX0_isMadeHoly 14 = .ok (.goto 4, 3) := by decide +kernel
theorem dX0_isMadeHoly_17 : decode cX0_isMadeHoly 17 = .ok (.iconst 0, 1) := by decide +kernel
theorem dX0_isMadeHoly_18 : decode cX0_isMadeHoly 18 = .ok (.ireturn, 1) := by decide +kernel
theorem dX0_makeHoly_0 : decode cX0_makeHoly 0 = .ok (.aload_n 0, 1) := by decide +kernel
theorem dX0_makeHoly_1 : decode cX0_makeHoly 1 = .ok (.dup, 1) := by decide +kernel
theorem dX0_makeHoly_2 : decode cX0_makeHoly 2 = .ok (.getfield 56, 3) := by decide +kernel
theorem dX0_makeHoly_5 : decode cX0_makeHoly 5 = .ok (.lconst 1, 1) := by decide +kernel
theorem dX0_makeHoly_6 : decode cX0_makeHoly 6 = .ok (.iload_n 1, 1) := by decide +kernel
theorem dX0_makeHoly_7 : decode cX0_makeHoly 7 = .ok (.lshl, 1) := by decide +kernel
theorem dX0_makeHoly_8 : decode cX0_makeHoly 8 = .ok (.lor, 1) := by decide +kernel
theorem dX0_makeHoly_9 : decode cX0_makeHoly 9 = .ok (.putfield 56, 3) := by decide +kernel
theorem dX0_makeHoly_12 : decode cX0_makeHoly 12 = .ok (.return_, 1) := by decide +kernel
theorem dX1_init_0 : decode cX1_init 0 = .ok (.aload_n 0, 1) := by decide +kernel
theorem dX1_init_1 : decode cX1_init 1 = .ok (.invokespecial 3, 3) := by decide +kernel
theorem dX1_init_4 : decode cX1_init 4 = .ok (.aload_n 0, 1) := by decide +kernel
theorem dX1_init_5 : decode cX1_init 5 = .ok (.iconst 4, 1) := by decide +kernel
theorem dX1_init_6 : decode cX1_init 6 = .ok (.newarray .int, 2) := by decide +kernel
theorem dX1_init_8 : decode cX1_init 8 = .ok (.putfield 9, 3) := by decide +kernel
theorem dX1_init_11 : decode cX1_init 11 = .ok (.aload_n 0, 1) := by decide +kernel
theorem dX1_init_12 : decode cX1_init 12 = .ok (.bipush 60, 2) := by decide +kernel
theorem dX1_init_14 : decode cX1_init 14 = .ok (.newarray .int, 2) := by decide +kernel
theorem dX1_init_16 : decode cX1_init 16 = .ok (.putfield 15, 3) := by decide +kernel
theorem dX1_init_19 : decode cX1_init 19 = .ok (.aload_n 0, 1) := by decide +kernel
theorem dX1_init_20 : decode cX1_init 20 = .ok (.bipush 61, 2) := by decide +kernel
theorem dX1_init_22 : decode cX1_init 22 = .ok (.newarray .int, 2) := by decide +kernel
theorem dX1_init_24 : decode cX1_init 24 = .ok (.putfield 18, 3) := by decide +kernel
theorem dX1_init_27 : decode cX1_init 27 = .ok (.aload_n 0, 1) := by decide +kernel
theorem dX1_init_28 : decode cX1_init 28 = .ok (.sipush 240, 3) := by decide +kernel
theorem dX1_init_31 : decode cX1_init 31 = .ok (.newarray .int, 2) := by decide +kernel
theorem dX1_init_33 : decode cX1_init 33 = .ok (.putfield 21, 3) := by decide +kernel
theorem dX1_init_36 : decode cX1_init 36 = .ok (.aload_n 0, 1) := by decide +kernel
theorem dX1_init_37 : decode cX1_init 37 = .ok (.sipush 240, 3) := by decide +kernel
theorem dX1_init_40 : decode cX1_init 40 = .ok (.newarray .int, 2) := by decide +kernel
theorem dX1_init_42 : decode cX1_init 42 = .ok (.putfield 24, 3) := by decide +kernel
theorem dX1_init_45 : decode cX1_init 45 = .ok (.aload_n 0, 1) := by decide +kernel
theorem dX1_init_46 : decode cX1_init 46 = .ok (.aload_n 1, 1) := by decide +kernel
theorem dX1_init_47 : decode cX1_init 47 = .ok (.putfield 27, 3) := by decide +kernel
theorem dX1_init_50 : decode cX1_init 50 = .ok (.return_, 1) := by decide +kernel
theorem dX1_see_0 : decode cX1_see 0 = .ok (.aload_n 0, 1) := by decide +kernel
theorem dX1_see_1 : decode cX1_see 1 = .ok (.aload_n 1, 1) := by decide +kernel
theorem dX1_see_2 : decode cX1_see 2 = .ok (.putfield 27, 3) := by decide +kernel
theorem dX1_see_5 : decode cX1_see 5 = .ok (.iconst 0, 1) := by decide +kernel
theorem dX1_see_6 : decode cX1_see 6 = .ok (.istore_n 3, 1) := by decide +kernel
theorem dX1_see_7 : decode cX1_see 7 = .ok (.iload_n 3, 1) := by decide +kernel
theorem dX1_see_8 : decode cX1_see 8 = .ok (.bipush 60, 2) := by decide +kernel
theorem dX1_see_10 : decode cX1_see 10 = .ok (.if_icmp .ge 68, 3) := by decide +kernel
theorem dX1_see_13 : decode cX1_see 13 = .ok (.aload_n 2, 1) := by decide +kernel
theorem dX1_see_14 : decode cX1_see 14 = .ok (.iload_n 3, 1) := by decide +kernel
theorem dX1_see_15 : decode cX1_see 15 = .ok (.invokevirtual 31, 3) := by decide +kernel
theorem dX1_see_18 : decode cX1_see 18 = .ok (.ifCond .eq 7, 3) := by decide +kernel
theorem dX1_see_21 : decode cX1_see 21 = .ok (.iconst 2, 1) := by decide +kernel
theorem dX1_see_22 : decode cX1_see 22 = .ok (.goto 8, 3) := by decide +kernel
theorem dX1_see_25 : decode cX1_see 25 = .ok (.aload_n 1, 1) := by decide +kernel
theorem dX1_see_26 : decode cX1_see 26 = .ok (.iload_n 3, 1) := by decide +kernel
theorem dX1_see_27 : decode cX1_see 27 = .ok (.invokevirtual 37, 3) := by decide +kernel
theorem dX1_see_30 : decode cX1_see 30 = .ok (.istore 4, 2) := by decide +kernel
theorem dX1_see_32 : decode cX1_see 32 = .ok (.aload_n 0, 1) := by decide +kernel
theorem dX1_see_33 : decode cX1_see 33 = .ok (.getfield 15, 3) := by decide +kernel
theorem dX1_see_36 : decode cX1_see 36 = .ok (.iload_n 3, 1) := by decide +kernel
theorem dX1_see_37 : decode cX1_see 37 = .ok (.iload 4, 2) := by decide +kernel
theorem dX1_see_39 : decode cX1_see 39 = .ok (.invokestatic 43, 3) := by decide +kernel
theorem dX1_see_42 : decode cX1_see 42 = .ok (.aload_n 0, 1) := by decide +kernel
theorem dX1_see_43 : decode cX1_see 43 = .ok (.getfield 18, 3) := by decide +kernel
theorem dX1_see_46 : decode cX1_see 46 = .ok (.iload_n 3, 1) := by decide +kernel
theorem dX1_see_47 : decode cX1_see 47 = .ok (.iconst 1, 1) := by decide +kernel
theorem dX1_see_48 : decode cX1_see 48 = .ok (.iadd, 1) := by decide +kernel
theorem dX1_see_49 : decode cX1_see 49 = .ok (.aload_n 0, 1) := by decide +kernel
theorem dX1_see_50 : decode cX1_see 50 = .ok (.getfield 18, 3) := by decide +kernel
theorem dX1_see_53 : decode cX1_see 53 = .ok (.iload_n 3, 1) := by decide +kernel
theorem dX1_see_54 : decode cX1_see 54 = .ok (.invokestatic 47, 3) := by decide +kernel
theorem dX1_see_57 : decode cX1_see 57 = .ok (.iload 4, 2) := by decide +kernel
theorem dX1_see_59 : decode cX1_see 59 = .ok (.iconst 1, 1) := by decide +kernel
theorem dX1_see_60 : decode cX1_see 60 = .ok (.if_icmp .ne 7, 3) := by decide +kernel
theorem dX1_see_63 : decode cX1_see 63 = .ok (.iconst 1, 1) := by decide +kernel
theorem dX1_see_64 : decode cX1_see 64 = .ok (.goto 4, 3) := by decide +kernel
theorem dX1_see_67 : decode cX1_see 67 = .ok (.iconst 0, 1) := by decide +kernel
theorem dX1_see_68 : decode cX1_see 68 = .ok (.iadd, 1) := by decide +kernel
theorem dX1_see_69 : decode cX1_see 69 = .ok (.invokestatic 43, 3) := by decide +kernel
theorem dX1_see_72 : decode cX1_see 72 = .ok (.iinc 3 1, 3) := by decide +kernel
theorem dX1_see_75 : decode cX1_see 75 = .ok (.goto (-68), 3) := by decide +kernel
theorem dX1_see_78 : decode cX1_see 78 = .ok (.return_, 1) := by decide +kernel
theorem dX1_isOfItsKinds_0 : decode cX1_isOfItsKinds 0 = .ok (.aload_n 1, 1) := by decide +kernel
theorem dX1_isOfItsKinds_1 : decode cX1_isOfItsKinds 1 = .ok (.getfield 51, 3) := by decide +kernel
theorem dX1_isOfItsKinds_4 : decode cX1_isOfItsKinds 4 = .ok (.aload_n 0, 1) := by decide +kernel
theorem dX1_isOfItsKinds_5 : decode cX1_isOfItsKinds 5 = .ok (.getfield 15, 3) := by decide +kernel
theorem dX1_isOfItsKinds_8 : decode cX1_isOfItsKinds 8 = .ok (.iload_n 2, 1) := by decide +kernel
theorem dX1_isOfItsKinds_9 : decode cX1_isOfItsKinds 9 = .ok (.invokestatic 47, 3) := by decide +kernel
theorem dX1_isOfItsKinds_12 : decode cX1_isOfItsKinds 12 = .ok (.ishr, 1) := by decide +kernel
theorem dX1_isOfItsKinds_13 : decode cX1_isOfItsKinds 13 = .ok (.iconst 1, 1) := by decide +kernel
theorem dX1_isOfItsKinds_14 : decode cX1_isOfItsKinds 14 = .ok (.iand, 1) := by decide +kernel
theorem dX1_isOfItsKinds_15 : decode cX1_isOfItsKinds 15 = .ok (.iconst 1, 1) := by decide +kernel
theorem dX1_isOfItsKinds_16 : decode cX1_isOfItsKinds 16 = .ok (.if_icmp .ne 7, 3) := by decide +kernel
theorem dX1_isOfItsKinds_19 : decode cX1_isOfItsKinds 19 = .ok (.iconst 1, 1) := by decide +kernel
theorem dX1_isOfItsKinds_20 : decode cX1_isOfItsKinds 20 = .ok (.goto 4, 3) := by decide +kernel
theorem dX1_isOfItsKinds_23 : decode cX1_isOfItsKinds 23 = .ok (.iconst 0, 1) := by decide +kernel
theorem dX1_isOfItsKinds_24 : decode cX1_isOfItsKinds 24 = .ok (.ireturn, 1) := by decide +kernel
theorem dX1_isFarEnough_0 : decode cX1_isFarEnough 0 = .ok (.iload_n 2, 1) := by decide +kernel
theorem dX1_isFarEnough_1 : decode cX1_isFarEnough 1 = .ok (.bipush (-9), 2) := by decide +kernel
theorem dX1_isFarEnough_3 : decode cX1_isFarEnough 3 = .ok (.if_icmp .ne 5, 3) := by decide +kernel
theorem dX1_isFarEnough_6 : decode cX1_isFarEnough 6 = .ok (.iconst 1, 1) := by decide +kernel
theorem dX1_isFarEnough_7 : decode cX1_isFarEnough 7 = .ok (.ireturn, 1) := by decide +kernel
theorem dX1_isFarEnough_8 : decode cX1_isFarEnough 8 = .ok (.iload_n 3, 1) := by decide +kernel
theorem dX1_isFarEnough_9 : decode cX1_isFarEnough 9 = .ok (.iload_n 2, 1) := by decide +kernel
theorem dX1_isFarEnough_10 : decode cX1_isFarEnough 10 = .ok (.isub, 1) := by decide +kernel
theorem dX1_isFarEnough_11 : decode cX1_isFarEnough 11 = .ok (.istore 4, 2) := by decide +kernel
theorem dX1_isFarEnough_13 : decode cX1_isFarEnough 13 = .ok (.aload_n 1, 1) := by decide +kernel
theorem dX1_isFarEnough_14 : decode cX1_isFarEnough 14 = .ok (.getfield 56, 3) := by decide +kernel
theorem dX1_isFarEnough_17 : decode cX1_isFarEnough 17 = .ok (.ifCond .eq 27, 3) := by decide +kernel
theorem dX1_isFarEnough_20 : decode cX1_isFarEnough 20 = .ok (.aload_n 0, 1) := by decide +kernel
theorem dX1_isFarEnough_21 : decode cX1_isFarEnough 21 = .ok (.getfield 18, 3) := by decide +kernel
theorem dX1_isFarEnough_24 : decode cX1_isFarEnough 24 = .ok (.iload_n 3, 1) := by decide +kernel
theorem dX1_isFarEnough_25 : decode cX1_isFarEnough 25 = .ok (.iconst 1, 1) := by decide +kernel
theorem dX1_isFarEnough_26 : decode cX1_isFarEnough 26 = .ok (.iadd, 1) := by decide +kernel
theorem dX1_isFarEnough_27 : decode cX1_isFarEnough 27 = .ok (.invokestatic 47, 3) := by decide +kernel
theorem dX1_isFarEnough_30 : decode cX1_isFarEnough 30 = .ok (.aload_n 0, 1) := by decide +kernel
theorem dX1_isFarEnough_31 : decode cX1_isFarEnough 31 = .ok (.getfield 18, 3) := by decide +kernel
theorem dX1_isFarEnough_34 : decode cX1_isFarEnough 34 = .ok (.iload_n 2, 1) := by decide +kernel
theorem dX1_isFarEnough_35 : decode cX1_isFarEnough 35 = .ok (.iconst 1, 1) := by decide +kernel
theorem dX1_isFarEnough_36 : decode cX1_isFarEnough 36 = .ok (.iadd, 1) := by decide +kernel
theorem dX1_isFarEnough_37 : decode cX1_isFarEnough 37 = .ok (.invokestatic 47, 3) := by decide +kernel
theorem dX1_isFarEnough_40 : decode cX1_isFarEnough 40 = .ok (.isub, 1) := by decide +kernel
theorem dX1_isFarEnough_41 : decode cX1_isFarEnough 41 = .ok (.goto 5, 3) := by decide +kernel
theorem dX1_isFarEnough_44 : decode cX1_isFarEnough 44 = .ok (.iload 4, 2) := by decide +kernel
theorem dX1_isFarEnough_46 : decode cX1_isFarEnough 46 = .ok (.istore 5, 2) := by decide +kernel
theorem dX1_isFarEnough_48 : decode cX1_isFarEnough 48 = .ok (.iload 4, 2) := by decide +kernel
theorem dX1_isFarEnough_50 : decode cX1_isFarEnough 50 = .ok (.ifCond .lt 34, 3) := by decide +kernel
theorem dX1_isFarEnough_53 : decode cX1_isFarEnough 53 = .ok (.iload 5, 2) := by decide +kernel
theorem dX1_isFarEnough_55 : decode cX1_isFarEnough 55 = .ok (.aload_n 1, 1) := by decide +kernel
theorem dX1_isFarEnough_56 : decode cX1_isFarEnough 56 = .ok (.getfield 60, 3) := by decide +kernel
theorem dX1_isFarEnough_59 : decode cX1_isFarEnough 59 = .ok (.if_icmp .lt 25, 3) := by decide +kernel
theorem dX1_isFarEnough_62 : decode cX1_isFarEnough 62 = .ok (.aload_n 1, 1) := by decide +kernel
theorem dX1_isFarEnough_63 : decode cX1_isFarEnough 63 = .ok (.getfield 63, 3) := by decide +kernel
theorem dX1_isFarEnough_66 : decode cX1_isFarEnough 66 = .ok (.bipush (-9), 2) := by decide +kernel
theorem dX1_isFarEnough_68 : decode cX1_isFarEnough 68 = .ok (.if_icmp .eq 12, 3) := by decide +kernel
theorem dX1_isFarEnough_71 : decode cX1_isFarEnough 71 = .ok (.iload 4, 2) := by decide +kernel
theorem dX1_isFarEnough_73 : decode cX1_isFarEnough 73 = .ok (.aload_n 1, 1) := by decide +kernel
theorem dX1_isFarEnough_74 : decode cX1_isFarEnough 74 = .ok (.getfield 63, 3) := by decide +kernel
theorem dX1_isFarEnough_77 : decode cX1_isFarEnough 77 = .ok (.if_icmp .gt 7, 3) := by decide +kernel
theorem dX1_isFarEnough_80 : decode cX1_isFarEnough 80 = .ok (.iconst 1, 1) := by decide +kernel
theorem dX1_isFarEnough_81 : decode cX1_isFarEnough 81 = .ok (.goto 4, 3) := by decide +kernel
theorem dX1_isFarEnough_84 : decode cX1_isFarEnough 84 = .ok (.iconst 0, 1) := by decide +kernel
theorem dX1_isFarEnough_85 : decode cX1_isFarEnough 85 = .ok (.ireturn, 1) := by decide +kernel
theorem dX1_findSoonest_0 : decode cX1_findSoonest 0 = .ok (.aload_n 0, 1) := by decide +kernel
theorem dX1_findSoonest_1 : decode cX1_findSoonest 1 = .ok (.iconst 0, 1) := by decide +kernel
theorem dX1_findSoonest_2 : decode cX1_findSoonest 2 = .ok (.putfield 66, 3) := by decide +kernel
theorem dX1_findSoonest_5 : decode cX1_findSoonest 5 = .ok (.aload_n 0, 1) := by decide +kernel
theorem dX1_findSoonest_6 : decode cX1_findSoonest 6 = .ok (.aload_n 1, 1) := by decide +kernel
theorem dX1_findSoonest_7 : decode cX1_findSoonest 7 = .ok (.aload_n 2, 1) := by decide +kernel
theorem dX1_findSoonest_8 : decode cX1_findSoonest 8 = .ok (.iload_n 3, 1) := by decide +kernel
theorem dX1_findSoonest_9 : decode cX1_findSoonest 9 = .ok (.invokevirtual 69, 3) := by decide +kernel
theorem dX1_findSoonest_12 : decode cX1_findSoonest 12 = .ok (.aload_n 2, 1) := by decide +kernel
theorem dX1_findSoonest_13 : decode cX1_findSoonest 13 = .ok (.iload_n 3, 1) := by decide +kernel
theorem dX1_findSoonest_14 : decode cX1_findSoonest 14 = .ok (.invokevirtual 73, 3) := by decide +kernel
theorem dX1_findSoonest_17 : decode cX1_findSoonest 17 = .ok (.istore 4, 2) := by decide +kernel
theorem dX1_findSoonest_19 : decode cX1_findSoonest 19 = .ok (.aload_n 2, 1) := by decide +kernel
theorem dX1_findSoonest_20 : decode cX1_findSoonest 20 = .ok (.iload_n 3, 1) := by decide +kernel
theorem dX1_findSoonest_21 : decode cX1_findSoonest 21 = .ok (.invokevirtual 76, 3) := by decide +kernel
theorem dX1_findSoonest_24 : decode cX1_findSoonest 24 = .ok (.istore 5, 2) := by decide +kernel
theorem dX1_findSoonest_26 : decode cX1_findSoonest 26 = .ok (.aload_n 2, 1) := by decide +kernel
theorem dX1_findSoonest_27 : decode cX1_findSoonest 27 = .ok (.invokestatic 79, 3) := by decide +kernel
theorem dX1_findSoonest_30 : decode cX1_findSoonest 30 = .ok (.istore 6, 2) := by decide +kernel
theorem dX1_findSoonest_32 : decode cX1_findSoonest 32 = .ok (.aload_n 0, 1) := by decide +kernel
theorem dX1_findSoonest_33 : decode cX1_findSoonest 33 = .ok (.iload 4, 2) := by decide +kernel
theorem dX1_findSoonest_35 : decode cX1_findSoonest 35 = .ok (.iload 5, 2) := by decide +kernel
theorem dX1_findSoonest_37 : decode cX1_findSoonest 37 = .ok (.iload 6, 2) := by decide +kernel
theorem dX1_findSoonest_39 : decode cX1_findSoonest 39 = .ok (.invokevirtual 83, 3) := by decide +kernel
theorem dX1_findSoonest_42 : decode cX1_findSoonest 42 = .ok (.istore 7, 2) := by decide +kernel
theorem dX1_findSoonest_44 : decode cX1_findSoonest 44 = .ok (.iload 4, 2) := by decide +kernel
theorem dX1_findSoonest_46 : decode cX1_findSoonest 46 = .ok (.ifCond .ne 9, 3) := by decide +kernel
theorem dX1_findSoonest_49 : decode cX1_findSoonest 49 = .ok (.sipush 1000, 3) := by decide +kernel
theorem dX1_findSoonest_52 : decode cX1_findSoonest 52 = .ok (.goto 13, 3) := by decide +kernel
theorem dX1_findSoonest_55 : decode cX1_findSoonest 55 = .ok (.aload_n 0, 1) := by decide +kernel
theorem dX1_findSoonest_56 : decode cX1_findSoonest 56 = .ok (.iload 4, 2) := by decide +kernel
theorem dX1_findSoonest_58 : decode cX1_findSoonest 58 = .ok (.iload 5, 2) := by decide +kernel
theorem dX1_findSoonest_60 : decode cX1_findSoonest 60 = .ok (.iload 6, 2) := by decide +kernel
theorem dX1_findSoonest_62 : decode cX1_findSoonest 62 = .ok (.invokevirtual 87, 3) := by decide +kernel
theorem dX1_findSoonest_65 : decode cX1_findSoonest 65 = .ok (.istore 8, 2) := by decide +kernel
theorem dX1_findSoonest_67 : decode cX1_findSoonest 67 = .ok (.aload_n 0, 1) := by decide +kernel
theorem dX1_findSoonest_68 : decode cX1_findSoonest 68 = .ok (.iconst 0, 1) := by decide +kernel
theorem dX1_findSoonest_69 : decode cX1_findSoonest 69 = .ok (.putfield 90, 3) := by decide +kernel
theorem dX1_findSoonest_72 : decode cX1_findSoonest 72 = .ok (.iload 7, 2) := by decide +kernel
theorem dX1_findSoonest_74 : decode cX1_findSoonest 74 = .ok (.sipush 1000, 3) := by decide +kernel
theorem dX1_findSoonest_77 : decode cX1_findSoonest 77 = .ok (.if_icmp .lt 14, 3) := by decide +kernel
theorem dX1_findSoonest_80 : decode cX1_findSoonest 80 = .ok (.iload 8, 2) := by decide +kernel
theorem dX1_findSoonest_82 : decode cX1_findSoonest 82 = .ok (.sipush 1000, 3) := by decide +kernel
theorem dX1_findSoonest_85 : decode cX1_findSoonest 85 = .ok (.if_icmp .lt 6, 3) := by decide +kernel
theorem dX1_findSoonest_88 : decode cX1_findSoonest 88 = .ok (.bipush (-9), 2) := by decide +kernel
theorem dX1_findSoonest_90 : decode cX1_findSoonest 90 = .ok (.ireturn, 1) := by decide +kernel
theorem dX1_findSoonest_91 : decode cX1_findSoonest 91 = .ok (.iload 7, 2) := by decide +kernel
theorem dX1_findSoonest_93 : decode cX1_findSoonest 93 = .ok (.iload 8, 2) := by decide +kernel
theorem dX1_findSoonest_95 : decode cX1_findSoonest 95 = .ok (.if_icmp .gt 18, 3) := by decide +kernel
theorem dX1_findSoonest_98 : decode cX1_findSoonest 98 = .ok (.aload_n 0, 1) := by decide +kernel
theorem dX1_findSoonest_99 : decode cX1_findSoonest 99 = .ok (.iload 4, 2) := by decide +kernel
theorem dX1_findSoonest_101 : decode cX1_findSoonest 101 = .ok (.iload 5, 2) := by decide +kernel
theorem dX1_findSoonest_103 : decode cX1_findSoonest 103 = .ok (.iload 6, 2) := by decide +kernel
theorem dX1_findSoonest_105 : decode cX1_findSoonest 105 = .ok (.iload 7, 2) := by decide +kernel
theorem dX1_findSoonest_107 : decode cX1_findSoonest 107 = .ok (.invokevirtual 93, 3) := by decide +kernel
theorem dX1_findSoonest_110 : decode cX1_findSoonest 110 = .ok (.iload 7, 2) := by decide +kernel
theorem dX1_findSoonest_112 : decode cX1_findSoonest 112 = .ok (.ireturn, 1) := by decide +kernel
theorem dX1_findSoonest_113 : decode cX1_findSoonest 113 = .ok (.aload_n 0, 1) := by decide +kernel
theorem dX1_findSoonest_114 : decode cX1_findSoonest 114 = .ok (.iconst 0, 1) := by decide +kernel
theorem dX1_findSoonest_115 : decode cX1_findSoonest 115 = .ok (.bipush (-9), 2) := by decide +kernel
theorem dX1_findSoonest_117 : decode cX1_findSoonest 117 = .ok (.aload_n 0, 1) := by decide +kernel
theorem dX1_findSoonest_118 : decode cX1_findSoonest 118 = .ok (.getfield 97, 3) := by decide +kernel
theorem dX1_findSoonest_121 : decode cX1_findSoonest 121 = .ok (.iload 8, 2) := by decide +kernel
theorem dX1_findSoonest_123 : decode cX1_findSoonest 123 = .ok (.invokevirtual 93, 3) := by decide +kernel
theorem dX1_findSoonest_126 : decode cX1_findSoonest 126 = .ok (.iload 8, 2) := by decide +kernel
theorem dX1_findSoonest_128 : decode cX1_findSoonest 128 = .ok (.ireturn, 1) := by decide +kernel
theorem dX1_isSure_0 : decode cX1_isSure 0 = .ok (.aload_n 0, 1) := by decide +kernel
theorem dX1_isSure_1 : decode cX1_isSure 1 = .ok (.iconst 0, 1) := by decide +kernel
theorem dX1_isSure_2 : decode cX1_isSure 2 = .ok (.putfield 66, 3) := by decide +kernel
theorem dX1_isSure_5 : decode cX1_isSure 5 = .ok (.aload_n 0, 1) := by decide +kernel
theorem dX1_isSure_6 : decode cX1_isSure 6 = .ok (.aload_n 1, 1) := by decide +kernel
theorem dX1_isSure_7 : decode cX1_isSure 7 = .ok (.aload_n 2, 1) := by decide +kernel
theorem dX1_isSure_8 : decode cX1_isSure 8 = .ok (.iload_n 3, 1) := by decide +kernel
theorem dX1_isSure_9 : decode cX1_isSure 9 = .ok (.invokevirtual 69, 3) := by decide +kernel
theorem dX1_isSure_12 : decode cX1_isSure 12 = .ok (.aload_n 1, 1) := by decide +kernel
theorem dX1_isSure_13 : decode cX1_isSure 13 = .ok (.iload_n 3, 1) := by decide +kernel
theorem dX1_isSure_14 : decode cX1_isSure 14 = .ok (.invokevirtual 100, 3) := by decide +kernel
theorem dX1_isSure_17 : decode cX1_isSure 17 = .ok (.ifCond .eq 17, 3) := by decide +kernel
theorem dX1_isSure_20 : decode cX1_isSure 20 = .ok (.aload_n 0, 1) := by decide +kernel
theorem dX1_isSure_21 : decode cX1_isSure 21 = .ok (.iconst 0, 1) := by decide +kernel
theorem dX1_isSure_22 : decode cX1_isSure 22 = .ok (.bipush (-9), 2) := by decide +kernel
theorem dX1_isSure_24 : decode cX1_isSure 24 = .ok (.iconst 0, 1) := by decide +kernel
theorem dX1_isSure_25 : decode cX1_isSure 25 = .ok (.invokevirtual 83, 3) := by decide +kernel
theorem dX1_isSure_28 : decode cX1_isSure 28 = .ok (.sipush 1000, 3) := by decide +kernel
theorem dX1_isSure_31 : decode cX1_isSure 31 = .ok (.if_icmp .ge 7, 3) := by decide +kernel
theorem dX1_isSure_34 : decode cX1_isSure 34 = .ok (.iconst 1, 1) := by decide +kernel
theorem dX1_isSure_35 : decode cX1_isSure 35 = .ok (.goto 4, 3) := by decide +kernel
theorem dX1_isSure_38 : decode cX1_isSure 38 = .ok (.iconst 0, 1) := by decide +kernel
theorem dX1_isSure_39 : decode cX1_isSure 39 = .ok (.ireturn, 1) := by decide +kernel
theorem dX1_findFewestAgainst_0 : decode cX1_findFewestAgainst 0 = .ok (.aload_n 0, 1) := by decide +kernel
theorem dX1_findFewestAgainst_1 : decode cX1_findFewestAgainst 1 = .ok (.iconst 1, 1) := by decide +kernel
theorem dX1_findFewestAgainst_2 : decode cX1_findFewestAgainst 2 = .ok (.putfield 66, 3) := by decide +kernel
theorem dX1_findFewestAgainst_5 : decode cX1_findFewestAgainst 5 = .ok (.aload_n 0, 1) := by decide +kernel
theorem dX1_findFewestAgainst_6 : decode cX1_findFewestAgainst 6 = .ok (.aload_n 1, 1) := by decide +kernel
theorem dX1_findFewestAgainst_7 : decode cX1_findFewestAgainst 7 = .ok (.aload_n 2, 1) := by decide +kernel
theorem dX1_findFewestAgainst_8 : decode cX1_findFewestAgainst 8 = .ok (.iload_n 3, 1) := by decide +kernel
theorem dX1_findFewestAgainst_9 : decode cX1_findFewestAgainst 9 = .ok (.invokevirtual 69, 3) := by decide +kernel
theorem dX1_findFewestAgainst_12 : decode cX1_findFewestAgainst 12 = .ok (.aload_n 2, 1) := by decide +kernel
theorem dX1_findFewestAgainst_13 : decode cX1_findFewestAgainst 13 = .ok (.iload_n 3, 1) := by decide +kernel
theorem dX1_findFewestAgainst_14 : decode cX1_findFewestAgainst 14 = .ok (.invokevirtual 73, 3) := by decide +kernel
theorem dX1_findFewestAgainst_17 : decode cX1_findFewestAgainst 17 = .ok (.istore 4, 2) := by decide +kernel
theorem dX1_findFewestAgainst_19 : decode cX1_findFewestAgainst 19 = .ok (.aload_n 2, 1) := by decide +kernel
theorem dX1_findFewestAgainst_20 : decode cX1_findFewestAgainst 20 = .ok (.iload_n 3, 1) := by decide +kernel
theorem dX1_findFewestAgainst_21 : decode cX1_findFewestAgainst 21 = .ok (.invokevirtual 76, 3) := by decide +kernel
theorem dX1_findFewestAgainst_24 : decode cX1_findFewestAgainst 24 = .ok (.istore 5, 2) := by decide +kernel
theorem dX1_findFewestAgainst_26 : decode cX1_findFewestAgainst 26 = .ok (.aload_n 2, 1) := by decide +kernel
theorem dX1_findFewestAgainst_27 : decode cX1_findFewestAgainst 27 = .ok (.invokestatic 79, 3) := by decide +kernel
theorem dX1_findFewestAgainst_30 : decode cX1_findFewestAgainst 30 = .ok (.istore 6, 2) := by decide +kernel
theorem dX1_findFewestAgainst_32 : decode cX1_findFewestAgainst 32 = .ok (.aload_n 0, 1) := by decide +kernel
theorem dX1_findFewestAgainst_33 : decode cX1_findFewestAgainst 33 = .ok (.iload 4, 2) := by decide +kernel
theorem dX1_findFewestAgainst_35 : decode cX1_findFewestAgainst 35 = .ok (.iload 5, 2) := by decide +kernel
theorem dX1_findFewestAgainst_37 : decode cX1_findFewestAgainst 37 = .ok (.iload 6, 2) := by decide +kernel
theorem dX1_findFewestAgainst_39 : decode cX1_findFewestAgainst 39 = .ok (.invokevirtual 83, 3) := by decide +kernel
theorem dX1_findFewestAgainst_42 : decode cX1_findFewestAgainst 42 = .ok (.istore 7, 2) := by decide +kernel
theorem dX1_findFewestAgainst_44 : decode cX1_findFewestAgainst 44 = .ok (.iload 4, 2) := by decide +kernel
theorem dX1_findFewestAgainst_46 : decode cX1_findFewestAgainst 46 = .ok (.ifCond .le 20, 3) := by decide +kernel
theorem dX1_findFewestAgainst_49 : decode cX1_findFewestAgainst 49 = .ok (.iload 7, 2) := by decide +kernel
theorem dX1_findFewestAgainst_51 : decode cX1_findFewestAgainst 51 = .ok (.aload_n 0, 1) := by decide +kernel
theorem dX1_findFewestAgainst_52 : decode cX1_findFewestAgainst 52 = .ok (.iload 4, 2) := by decide +kernel
theorem dX1_findFewestAgainst_54 : decode cX1_findFewestAgainst 54 = .ok (.iload 5, 2) := by decide +kernel
theorem dX1_findFewestAgainst_56 : decode cX1_findFewestAgainst 56 = .ok (.iload 6, 2) := by decide +kernel
theorem dX1_findFewestAgainst_58 : decode cX1_findFewestAgainst 58 = .ok (.invokevirtual 87, 3) := by decide +kernel
theorem dX1_findFewestAgainst_61 : decode cX1_findFewestAgainst 61 = .ok (.invokestatic 103, 3) := by decide +kernel
theorem dX1_findFewestAgainst_64 : decode cX1_findFewestAgainst 64 = .ok (.istore 7, 2) := by decide +kernel
theorem dX1_findFewestAgainst_66 : decode cX1_findFewestAgainst 66 = .ok (.iload 7, 2) := by decide +kernel
theorem dX1_findFewestAgainst_68 : decode cX1_findFewestAgainst 68 = .ok (.sipush 1000, 3) := by decide +kernel
theorem dX1_findFewestAgainst_71 : decode cX1_findFewestAgainst 71 = .ok (.if_icmp .lt 8, 3) := by decide +kernel
theorem dX1_findFewestAgainst_74 : decode cX1_findFewestAgainst 74 = .ok (.bipush (-9), 2) := by decide +kernel
theorem dX1_findFewestAgainst_76 : decode cX1_findFewestAgainst 76 = .ok (.goto 5, 3) := by decide +kernel
theorem dX1_findFewestAgainst_79 : decode cX1_findFewestAgainst 79 = .ok (.iload 7, 2) := by decide +kernel
theorem dX1_findFewestAgainst_81 : decode cX1_findFewestAgainst 81 = .ok (.ireturn, 1) := by decide +kernel
theorem dX1_firstDay_0 : decode cX1_firstDay 0 = .ok (.aload_n 0, 1) := by decide +kernel
theorem dX1_firstDay_1 : decode cX1_firstDay 1 = .ok (.getfield 109, 3) := by decide +kernel
theorem dX1_firstDay_4 : decode cX1_firstDay 4 = .ok (.ifCond .eq 12, 3) := by decide +kernel
theorem dX1_firstDay_7 : decode cX1_firstDay 7 = .ok (.aload_n 0, 1) := by decide +kernel
theorem dX1_firstDay_8 : decode cX1_firstDay 8 = .ok (.getfield 112, 3) := by decide +kernel
theorem dX1_firstDay_11 : decode cX1_firstDay 11 = .ok (.iconst 1, 1) := by decide +kernel
theorem dX1_firstDay_12 : decode cX1_firstDay 12 = .ok (.iadd, 1) := by decide +kernel
theorem dX1_firstDay_13 : decode cX1_firstDay 13 = .ok (.goto 7, 3) := by decide +kernel
theorem dX1_firstDay_16 : decode cX1_firstDay 16 = .ok (.aload_n 0, 1) := by decide +kernel
theorem dX1_firstDay_17 : decode cX1_firstDay 17 = .ok (.getfield 112, 3) := by decide +kernel
theorem dX1_firstDay_20 : decode cX1_firstDay 20 = .ok (.ireturn, 1) := by decide +kernel
theorem dX1_place_0 : decode cX1_place 0 = .ok (.iload_n 0, 1) := by decide +kernel
theorem dX1_place_1 : decode cX1_place 1 = .ok (.bipush 60, 2) := by decide +kernel
theorem dX1_place_3 : decode cX1_place 3 = .ok (.imul, 1) := by decide +kernel
theorem dX1_place_4 : decode cX1_place 4 = .ok (.iload_n 1, 1) := by decide +kernel
theorem dX1_place_5 : decode cX1_place 5 = .ok (.iadd, 1) := by decide +kernel
theorem dX1_place_6 : decode cX1_place 6 = .ok (.ireturn, 1) := by decide +kernel
theorem dX1_costOn_0 : decode cX1_costOn 0 = .ok (.aload_n 0, 1) := by decide +kernel
theorem dX1_costOn_1 : decode cX1_costOn 1 = .ok (.aload_n 1, 1) := by decide +kernel
theorem dX1_costOn_2 : decode cX1_costOn 2 = .ok (.iload_n 2, 1) := by decide +kernel
theorem dX1_costOn_3 : decode cX1_costOn 3 = .ok (.invokevirtual 115, 3) := by decide +kernel
theorem dX1_costOn_6 : decode cX1_costOn 6 = .ok (.ifCond .eq 5, 3) := by decide +kernel
theorem dX1_costOn_9 : decode cX1_costOn 9 = .ok (.iconst 0, 1) := by decide +kernel
theorem dX1_costOn_10 : decode cX1_costOn 10 = .ok (.ireturn, 1) := by decide +kernel
theorem dX1_costOn_11 : decode cX1_costOn 11 = .ok (.aload_n 0, 1) := by decide +kernel
theorem dX1_costOn_12 : decode cX1_costOn 12 = .ok (.getfield 66, 3) := by decide +kernel
theorem dX1_costOn_15 : decode cX1_costOn 15 = .ok (.ifCond .eq 7, 3) := by decide +kernel
theorem dX1_costOn_18 : decode cX1_costOn 18 = .ok (.iconst 1, 1) := by decide +kernel
theorem dX1_costOn_19 : decode cX1_costOn 19 = .ok (.goto 6, 3) := by decide +kernel
theorem dX1_costOn_22 : decode cX1_costOn 22 = .ok (.sipush 1000, 3) := by decide +kernel
theorem dX1_costOn_25 : decode cX1_costOn 25 = .ok (.ireturn, 1) := by decide +kernel
theorem dX1_fillRest_0 : decode cX1_fillRest 0 = .ok (.aload_n 0, 1) := by decide +kernel
theorem dX1_fillRest_1 : decode cX1_fillRest 1 = .ok (.aload_n 1, 1) := by decide +kernel
theorem dX1_fillRest_2 : decode cX1_fillRest 2 = .ok (.aload_n 2, 1) := by decide +kernel
theorem dX1_fillRest_3 : decode cX1_fillRest 3 = .ok (.invokevirtual 119, 3) := by decide +kernel
theorem dX1_fillRest_6 : decode cX1_fillRest 6 = .ok (.aload_n 0, 1) := by decide +kernel
theorem dX1_fillRest_7 : decode cX1_fillRest 7 = .ok (.iload_n 3, 1) := by decide +kernel
theorem dX1_fillRest_8 : decode cX1_fillRest 8 = .ok (.putfield 123, 3) := by decide +kernel
theorem dX1_fillRest_11 : decode cX1_fillRest 11 = .ok (.aload_n 0, 1) := by decide +kernel
theorem dX1_fillRest_12 : decode cX1_fillRest 12 = .ok (.getfield 27, 3) := by decide +kernel
theorem dX1_fillRest_15 : decode cX1_fillRest 15 = .ok (.aload_n 0, 1) := by decide +kernel
theorem dX1_fillRest_16 : decode cX1_fillRest 16 = .ok (.getfield 123, 3) := by decide +kernel
theorem dX1_fillRest_19 : decode cX1_fillRest 19 = .ok (.invokevirtual 100, 3) := by decide +kernel
theorem dX1_fillRest_22 : decode cX1_fillRest 22 = .ok (.iconst 1, 1) := by decide +kernel
theorem dX1_fillRest_23 : decode cX1_fillRest 23 = .ok (.isub, 1) := by decide +kernel
theorem dX1_fillRest_24 : decode cX1_fillRest 24 = .ok (.istore 4, 2) := by decide +kernel
theorem dX1_fillRest_26 : decode cX1_fillRest 26 = .ok (.iload 4, 2) := by decide +kernel
theorem dX1_fillRest_28 : decode cX1_fillRest 28 = .ok (.istore 5, 2) := by decide +kernel
theorem dX1_fillRest_30 : decode cX1_fillRest 30 = .ok (.iload 5, 2) := by decide +kernel
theorem dX1_fillRest_32 : decode cX1_fillRest 32 = .ok (.ifCond .lt 125, 3) := by decide +kernel
theorem dX1_fillRest_35 : decode cX1_fillRest 35 = .ok (.aload_n 0, 1) := by decide +kernel
theorem dX1_fillRest_36 : decode cX1_fillRest 36 = .ok (.getfield 27, 3) := by decide +kernel
theorem dX1_fillRest_39 : decode cX1_fillRest 39 = .ok (.aload_n 0, 1) := by decide +kernel
theorem dX1_fillRest_40 : decode cX1_fillRest 40 = .ok (.getfield 123, 3) := by decide +kernel
theorem dX1_fillRest_43 : decode cX1_fillRest 43 = .ok (.iload 5, 2) := by decide +kernel
theorem dX1_fillRest_45 : decode cX1_fillRest 45 = .ok (.invokevirtual 126, 3) := by decide +kernel
theorem dX1_fillRest_48 : decode cX1_fillRest 48 = .ok (.astore 6, 2) := by decide +kernel
theorem dX1_fillRest_50 : decode cX1_fillRest 50 = .ok (.iconst 0, 1) := by decide +kernel
theorem dX1_fillRest_51 : decode cX1_fillRest 51 = .ok (.istore 7, 2) := by decide +kernel
theorem dX1_fillRest_53 : decode cX1_fillRest 53 = .ok (.iload 7, 2) := by decide +kernel
theorem dX1_fillRest_55 : decode cX1_fillRest 55 = .ok (.aload_n 0, 1) := by decide +kernel
theorem dX1_fillRest_56 : decode cX1_fillRest 56 = .ok (.getfield 27, 3) := by decide +kernel
theorem dX1_fillRest_59 : decode cX1_fillRest 59 = .ok (.getfield 130, 3) := by decide +kernel
theorem dX1_fillRest_62 : decode cX1_fillRest 62 = .ok (.if_icmp .ge 89, 3) := by decide +kernel
theorem dX1_fillRest_65 : decode cX1_fillRest 65 = .ok (.aload_n 0, 1) := by decide +kernel
theorem dX1_fillRest_66 : decode cX1_fillRest 66 = .ok (.aload 6, 2) := by decide +kernel
theorem dX1_fillRest_68 : decode cX1_fillRest 68 = .ok (.iload 7, 2) := by decide +kernel
theorem dX1_fillRest_70 : decode cX1_fillRest 70 = .ok (.invokevirtual 133, 3) := by decide +kernel
theorem dX1_fillRest_73 : decode cX1_fillRest 73 = .ok (.istore 8, 2) := by decide +kernel
theorem dX1_fillRest_75 : decode cX1_fillRest 75 = .ok (.iload 8, 2) := by decide +kernel
theorem dX1_fillRest_77 : decode cX1_fillRest 77 = .ok (.sipush 1000, 3) := by decide +kernel
theorem dX1_fillRest_80 : decode cX1_fillRest 80 = .ok (.if_icmp .ge 43, 3) := by decide +kernel
theorem dX1_fillRest_83 : decode cX1_fillRest 83 = .ok (.iload 8, 2) := by decide +kernel
theorem dX1_fillRest_85 : decode cX1_fillRest 85 = .ok (.iload 5, 2) := by decide +kernel
theorem dX1_fillRest_87 : decode cX1_fillRest 87 = .ok (.iload 4, 2) := by decide +kernel
theorem dX1_fillRest_89 : decode cX1_fillRest 89 = .ok (.if_icmp .ge 18, 3) := by decide +kernel
theorem dX1_fillRest_92 : decode cX1_fillRest 92 = .ok (.aload_n 0, 1) := by decide +kernel
theorem dX1_fillRest_93 : decode cX1_fillRest 93 = .ok (.iload 5, 2) := by decide +kernel
theorem dX1_fillRest_95 : decode cX1_fillRest 95 = .ok (.iconst 1, 1) := by decide +kernel
theorem dX1_fillRest_96 : decode cX1_fillRest 96 = .ok (.iadd, 1) := by decide +kernel
theorem dX1_fillRest_97 : decode cX1_fillRest 97 = .ok (.iload 7, 2) := by decide +kernel
theorem dX1_fillRest_99 : decode cX1_fillRest 99 = .ok (.iload 7, 2) := by decide +kernel
theorem dX1_fillRest_101 : decode cX1_fillRest 101 = .ok (.invokevirtual 83, 3) := by decide +kernel
theorem dX1_fillRest_104 : decode cX1_fillRest 104 = .ok (.goto 16, 3) := by decide +kernel
theorem dX1_fillRest_107 : decode cX1_fillRest 107 = .ok (.aload_n 0, 1) := by decide +kernel
theorem dX1_fillRest_108 : decode cX1_fillRest 108 = .ok (.getfield 66, 3) := by decide +kernel
theorem dX1_fillRest_111 : decode cX1_fillRest 111 = .ok (.ifCond .eq 7, 3) := by decide +kernel
theorem dX1_fillRest_114 : decode cX1_fillRest 114 = .ok (.iconst 0, 1) := by decide +kernel
theorem dX1_fillRest_115 : decode cX1_fillRest 115 = .ok (.goto 5, 3) := by decide +kernel
theorem dX1_fillRest_118 : decode cX1_fillRest 118 = .ok (.iload 7, 2) := by decide +kernel
theorem dX1_fillRest_120 : decode cX1_fillRest 120 = .ok (.iadd, 1) := by decide +kernel
theorem dX1_fillRest_121 : decode cX1_fillRest 121 = .ok (.istore 8, 2) := by decide +kernel
theorem dX1_fillRest_123 : decode cX1_fillRest 123 = .ok (.aload_n 0, 1) := by decide +kernel
theorem dX1_fillRest_124 : decode cX1_fillRest 124 = .ok (.getfield 21, 3) := by decide +kernel
theorem dX1_fillRest_127 : decode cX1_fillRest 127 = .ok (.iload 5, 2) := by decide +kernel
theorem dX1_fillRest_129 : decode cX1_fillRest 129 = .ok (.iload 7, 2) := by decide +kernel
theorem dX1_fillRest_131 : decode cX1_fillRest 131 = .ok (.invokestatic 137, 3) := by decide +kernel
theorem dX1_fillRest_134 : decode cX1_fillRest 134 = .ok (.sipush 1000, 3) := by decide +kernel
theorem dX1_fillRest_137 : decode cX1_fillRest 137 = .ok (.iload 8, 2) := by decide +kernel
theorem dX1_fillRest_139 : decode cX1_fillRest 139 = .ok (.invokestatic 103, 3) := by decide +kernel
theorem dX1_fillRest_142 : decode cX1_fillRest 142 = .ok (.invokestatic 43, 3) := by decide +kernel
theorem dX1_fillRest_145 : decode cX1_fillRest 145 = .ok (.iinc 7 1, 3) := by decide +kernel
theorem dX1_fillRest_148 : decode cX1_fillRest 148 = .ok (.goto (-95), 3) := by decide +kernel
theorem dX1_fillRest_151 : decode cX1_fillRest 151 = .ok (.iinc 5 (-1), 3) := by decide +kernel
theorem dX1_fillRest_154 : decode cX1_fillRest 154 = .ok (.goto (-124), 3) := by decide +kernel
theorem dX1_fillRest_157 : decode cX1_fillRest 157 = .ok (.return_, 1) := by decide +kernel
theorem dX1_leastRest_0 : decode cX1_leastRest 0 = .ok (.aload_n 0, 1) := by decide +kernel
theorem dX1_leastRest_1 : decode cX1_leastRest 1 = .ok (.getfield 27, 3) := by decide +kernel
theorem dX1_leastRest_4 : decode cX1_leastRest 4 = .ok (.aload_n 0, 1) := by decide +kernel
theorem dX1_leastRest_5 : decode cX1_leastRest 5 = .ok (.getfield 123, 3) := by decide +kernel
theorem dX1_leastRest_8 : decode cX1_leastRest 8 = .ok (.iload_n 1, 1) := by decide +kernel
theorem dX1_leastRest_9 : decode cX1_leastRest 9 = .ok (.invokevirtual 126, 3) := by decide +kernel
theorem dX1_leastRest_12 : decode cX1_leastRest 12 = .ok (.astore 4, 2) := by decide +kernel
theorem dX1_leastRest_14 : decode cX1_leastRest 14 = .ok (.sipush 1000, 3) := by decide +kernel
theorem dX1_leastRest_17 : decode cX1_leastRest 17 = .ok (.istore 5, 2) := by decide +kernel
theorem dX1_leastRest_19 : decode cX1_leastRest 19 = .ok (.iload_n 3, 1) := by decide +kernel
theorem dX1_leastRest_20 : decode cX1_leastRest 20 = .ok (.istore 6, 2) := by decide +kernel
theorem dX1_leastRest_22 : decode cX1_leastRest 22 = .ok (.iload 6, 2) := by decide +kernel
theorem dX1_leastRest_24 : decode cX1_leastRest 24 = .ok (.aload_n 0, 1) := by decide +kernel
theorem dX1_leastRest_25 : decode cX1_leastRest 25 = .ok (.getfield 27, 3) := by decide +kernel
theorem dX1_leastRest_28 : decode cX1_leastRest 28 = .ok (.getfield 130, 3) := by decide +kernel
theorem dX1_leastRest_31 : decode cX1_leastRest 31 = .ok (.if_icmp .ge 47, 3) := by decide +kernel
theorem dX1_leastRest_34 : decode cX1_leastRest 34 = .ok (.aload_n 0, 1) := by decide +kernel
theorem dX1_leastRest_35 : decode cX1_leastRest 35 = .ok (.getfield 21, 3) := by decide +kernel
theorem dX1_leastRest_38 : decode cX1_leastRest 38 = .ok (.iload_n 1, 1) := by decide +kernel
theorem dX1_leastRest_39 : decode cX1_leastRest 39 = .ok (.iload 6, 2) := by decide +kernel
theorem dX1_leastRest_41 : decode cX1_leastRest 41 = .ok (.invokestatic 137, 3) := by decide +kernel
theorem dX1_leastRest_44 : decode cX1_leastRest 44 = .ok (.invokestatic 47, 3) := by decide +kernel
theorem dX1_leastRest_47 : decode cX1_leastRest 47 = .ok (.istore 7, 2) := by decide +kernel
theorem dX1_leastRest_49 : decode cX1_leastRest 49 = .ok (.iload 7, 2) := by decide +kernel
theorem dX1_leastRest_51 : decode cX1_leastRest 51 = .ok (.iload 5, 2) := by decide +kernel
theorem dX1_leastRest_53 : decode cX1_leastRest 53 = .ok (.if_icmp .ge 19, 3) := by decide +kernel
theorem dX1_leastRest_56 : decode cX1_leastRest 56 = .ok (.aload_n 0, 1) := by decide +kernel
theorem dX1_leastRest_57 : decode cX1_leastRest 57 = .ok (.aload 4, 2) := by decide +kernel
theorem dX1_leastRest_59 : decode cX1_leastRest 59 = .ok (.iload_n 2, 1) := by decide +kernel
theorem dX1_leastRest_60 : decode cX1_leastRest 60 = .ok (.iload 6, 2) := by decide +kernel
theorem dX1_leastRest_62 : decode cX1_leastRest 62 = .ok (.invokevirtual 140, 3) := by decide +kernel
theorem dX1_leastRest_65 : decode cX1_leastRest 65 = .ok (.ifCond .eq 7, 3) := by decide +kernel
theorem dX1_leastRest_68 : decode cX1_leastRest 68 = .ok (.iload 7, 2) := by decide +kernel
theorem dX1_leastRest_70 : decode cX1_leastRest 70 = .ok (.istore 5, 2) := by decide +kernel
theorem dX1_leastRest_72 : decode cX1_leastRest 72 = .ok (.iinc 6 1, 3) := by decide +kernel
theorem dX1_leastRest_75 : decode cX1_leastRest 75 = .ok (.goto (-53), 3) := by decide +kernel
theorem dX1_leastRest_78 : decode cX1_leastRest 78 = .ok (.iload 5, 2) := by decide +kernel
theorem dX1_leastRest_80 : decode cX1_leastRest 80 = .ok (.ireturn, 1) := by decide +kernel
theorem dX1_leastFallen_0 : decode cX1_leastFallen 0 = .ok (.aload_n 0, 1) := by decide +kernel
theorem dX1_leastFallen_1 : decode cX1_leastFallen 1 = .ok (.iload_n 1, 1) := by decide +kernel
theorem dX1_leastFallen_2 : decode cX1_leastFallen 2 = .ok (.iload_n 2, 1) := by decide +kernel
theorem dX1_leastFallen_3 : decode cX1_leastFallen 3 = .ok (.iload_n 3, 1) := by decide +kernel
theorem dX1_leastFallen_4 : decode cX1_leastFallen 4 = .ok (.invokevirtual 144, 3) := by decide +kernel
theorem dX1_leastFallen_7 : decode cX1_leastFallen 7 = .ok (.aload_n 0, 1) := by decide +kernel
theorem dX1_leastFallen_8 : decode cX1_leastFallen 8 = .ok (.sipush 1000, 3) := by decide +kernel
theorem dX1_leastFallen_11 : decode cX1_leastFallen 11 = .ok (.putfield 97, 3) := by decide +kernel
theorem dX1_leastFallen_14 : decode cX1_leastFallen 14 = .ok (.aload_n 0, 1) := by decide +kernel
theorem dX1_leastFallen_15 : decode cX1_leastFallen 15 = .ok (.iload_n 1, 1) := by decide +kernel
theorem dX1_leastFallen_16 : decode cX1_leastFallen 16 = .ok (.iload_n 2, 1) := by decide +kernel
theorem dX1_leastFallen_17 : decode cX1_leastFallen 17 = .ok (.iconst 0, 1) := by decide +kernel
theorem dX1_leastFallen_18 : decode cX1_leastFallen 18 = .ok (.invokevirtual 148, 3) := by decide +kernel
theorem dX1_leastFallen_21 : decode cX1_leastFallen 21 = .ok (.istore 4, 2) := by decide +kernel
theorem dX1_leastFallen_23 : decode cX1_leastFallen 23 = .ok (.aload_n 0, 1) := by decide +kernel
theorem dX1_leastFallen_24 : decode cX1_leastFallen 24 = .ok (.getfield 27, 3) := by decide +kernel
theorem dX1_leastFallen_27 : decode cX1_leastFallen 27 = .ok (.aload_n 0, 1) := by decide +kernel
theorem dX1_leastFallen_28 : decode cX1_leastFallen 28 = .ok (.getfield 123, 3) := by decide +kernel
theorem dX1_leastFallen_31 : decode cX1_leastFallen 31 = .ok (.invokevirtual 100, 3) := by decide +kernel
theorem dX1_leastFallen_34 : decode cX1_leastFallen 34 = .ok (.iconst 1, 1) := by decide +kernel
theorem dX1_leastFallen_35 : decode cX1_leastFallen 35 = .ok (.isub, 1) := by decide +kernel
theorem dX1_leastFallen_36 : decode cX1_leastFallen 36 = .ok (.istore 5, 2) := by decide +kernel
theorem dX1_leastFallen_38 : decode cX1_leastFallen 38 = .ok (.iload_n 1, 1) := by decide +kernel
theorem dX1_leastFallen_39 : decode cX1_leastFallen 39 = .ok (.istore 6, 2) := by decide +kernel
theorem dX1_leastFallen_41 : decode cX1_leastFallen 41 = .ok (.iload 6, 2) := by decide +kernel
theorem dX1_leastFallen_43 : decode cX1_leastFallen 43 = .ok (.iload 5, 2) := by decide +kernel
theorem dX1_leastFallen_45 : decode cX1_leastFallen 45 = .ok (.if_icmp .ge 61, 3) := by decide +kernel
theorem dX1_leastFallen_48 : decode cX1_leastFallen 48 = .ok (.iload_n 3, 1) := by decide +kernel
theorem dX1_leastFallen_49 : decode cX1_leastFallen 49 = .ok (.istore 7, 2) := by decide +kernel
theorem dX1_leastFallen_51 : decode cX1_leastFallen 51 = .ok (.iload 7, 2) := by decide +kernel
theorem dX1_leastFallen_53 : decode cX1_leastFallen 53 = .ok (.aload_n 0, 1) := by decide +kernel
theorem dX1_leastFallen_54 : decode cX1_leastFallen 54 = .ok (.getfield 27, 3) := by decide +kernel
theorem dX1_leastFallen_57 : decode cX1_leastFallen 57 = .ok (.getfield 130, 3) := by decide +kernel
theorem dX1_leastFallen_60 : decode cX1_leastFallen 60 = .ok (.if_icmp .ge 40, 3) := by decide +kernel
theorem dX1_leastFallen_63 : decode cX1_leastFallen 63 = .ok (.iload 4, 2) := by decide +kernel
theorem dX1_leastFallen_65 : decode cX1_leastFallen 65 = .ok (.aload_n 0, 1) := by decide +kernel
theorem dX1_leastFallen_66 : decode cX1_leastFallen 66 = .ok (.iload 6, 2) := by decide +kernel
theorem dX1_leastFallen_68 : decode cX1_leastFallen 68 = .ok (.iconst 1, 1) := by decide +kernel
theorem dX1_leastFallen_69 : decode cX1_leastFallen 69 = .ok (.iadd, 1) := by decide +kernel
theorem dX1_leastFallen_70 : decode cX1_leastFallen 70 = .ok (.iload 7, 2) := by decide +kernel
theorem dX1_leastFallen_72 : decode cX1_leastFallen 72 = .ok (.aload_n 0, 1) := by decide +kernel
theorem dX1_leastFallen_73 : decode cX1_leastFallen 73 = .ok (.getfield 24, 3) := by decide +kernel
theorem dX1_leastFallen_76 : decode cX1_leastFallen 76 = .ok (.iload 6, 2) := by decide +kernel
theorem dX1_leastFallen_78 : decode cX1_leastFallen 78 = .ok (.iload 7, 2) := by decide +kernel
theorem dX1_leastFallen_80 : decode cX1_leastFallen 80 = .ok (.invokestatic 137, 3) := by decide +kernel
theorem dX1_leastFallen_83 : decode cX1_leastFallen 83 = .ok (.invokestatic 47, 3) := by decide +kernel
theorem dX1_leastFallen_86 : decode cX1_leastFallen 86 = .ok (.invokevirtual 148, 3) := by decide +kernel
theorem dX1_leastFallen_89 : decode cX1_leastFallen 89 = .ok (.invokestatic 103, 3) := by decide +kernel
theorem dX1_leastFallen_92 : decode cX1_leastFallen 92 = .ok (.istore 4, 2) := by decide +kernel
theorem dX1_leastFallen_94 : decode cX1_leastFallen 94 = .ok (.iinc 7 1, 3) := by decide +kernel
theorem dX1_leastFallen_97 : decode cX1_leastFallen 97 = .ok (.goto (-46), 3) := by decide +kernel
theorem dX1_leastFallen_100 : decode cX1_leastFallen 100 = .ok (.iinc 6 1, 3) := by decide +kernel
theorem dX1_leastFallen_103 : decode cX1_leastFallen 103 = .ok (.goto (-62), 3) := by decide +kernel
theorem dX1_leastFallen_106 : decode cX1_leastFallen 106 = .ok (.iload 4, 2) := by decide +kernel
theorem dX1_leastFallen_108 : decode cX1_leastFallen 108 = .ok (.ireturn, 1) := by decide +kernel
theorem dX1_leastFromFall_0 : decode cX1_leastFromFall 0 = .ok (.aload_n 0, 1) := by decide +kernel
theorem dX1_leastFromFall_1 : decode cX1_leastFromFall 1 = .ok (.getfield 27, 3) := by decide +kernel
theorem dX1_leastFromFall_4 : decode cX1_leastFromFall 4 = .ok (.aload_n 0, 1) := by decide +kernel
theorem dX1_leastFromFall_5 : decode cX1_leastFromFall 5 = .ok (.getfield 123, 3) := by decide +kernel
theorem dX1_leastFromFall_8 : decode cX1_leastFromFall 8 = .ok (.iload_n 1, 1) := by decide +kernel
theorem dX1_leastFromFall_9 : decode cX1_leastFromFall 9 = .ok (.invokevirtual 126, 3) := by decide +kernel
theorem dX1_leastFromFall_12 : decode cX1_leastFromFall 12 = .ok (.getfield 63, 3) := by decide +kernel
theorem dX1_leastFromFall_15 : decode cX1_leastFromFall 15 = .ok (.istore 4, 2) := by decide +kernel
theorem dX1_leastFromFall_17 : decode cX1_leastFromFall 17 = .ok (.iload 4, 2) := by decide +kernel
theorem dX1_leastFromFall_19 : decode cX1_leastFromFall 19 = .ok (.bipush (-9), 2) := by decide +kernel
theorem dX1_leastFromFall_21 : decode cX1_leastFromFall 21 = .ok (.if_icmp .eq 10, 3) := by decide +kernel
theorem dX1_leastFromFall_24 : decode cX1_leastFromFall 24 = .ok (.iload_n 3, 1) := by decide +kernel
theorem dX1_leastFromFall_25 : decode cX1_leastFromFall 25 = .ok (.sipush 1000, 3) := by decide +kernel
theorem dX1_leastFromFall_28 : decode cX1_leastFromFall 28 = .ok (.if_icmp .lt 7, 3) := by decide +kernel
theorem dX1_leastFromFall_31 : decode cX1_leastFromFall 31 = .ok (.sipush 1000, 3) := by decide +kernel
theorem dX1_leastFromFall_34 : decode cX1_leastFromFall 34 = .ok (.ireturn, 1) := by decide +kernel
theorem dX1_leastFromFall_35 : decode cX1_leastFromFall 35 = .ok (.iload_n 2, 1) := by decide +kernel
theorem dX1_leastFromFall_36 : decode cX1_leastFromFall 36 = .ok (.iload 4, 2) := by decide +kernel
theorem dX1_leastFromFall_38 : decode cX1_leastFromFall 38 = .ok (.iadd, 1) := by decide +kernel
theorem dX1_leastFromFall_39 : decode cX1_leastFromFall 39 = .ok (.iconst 1, 1) := by decide +kernel
theorem dX1_leastFromFall_40 : decode cX1_leastFromFall 40 = .ok (.iadd, 1) := by decide +kernel
theorem dX1_leastFromFall_41 : decode cX1_leastFromFall 41 = .ok (.istore 5, 2) := by decide +kernel
theorem dX1_leastFromFall_43 : decode cX1_leastFromFall 43 = .ok (.aload_n 0, 1) := by decide +kernel
theorem dX1_leastFromFall_44 : decode cX1_leastFromFall 44 = .ok (.aload_n 0, 1) := by decide +kernel
theorem dX1_leastFromFall_45 : decode cX1_leastFromFall 45 = .ok (.getfield 97, 3) := by decide +kernel
theorem dX1_leastFromFall_48 : decode cX1_leastFromFall 48 = .ok (.iload 5, 2) := by decide +kernel
theorem dX1_leastFromFall_50 : decode cX1_leastFromFall 50 = .ok (.invokestatic 103, 3) := by decide +kernel
theorem dX1_leastFromFall_53 : decode cX1_leastFromFall 53 = .ok (.putfield 97, 3) := by decide +kernel
theorem dX1_leastFromFall_56 : decode cX1_leastFromFall 56 = .ok (.sipush 1000, 3) := by decide +kernel
theorem dX1_leastFromFall_59 : decode cX1_leastFromFall 59 = .ok (.iload_n 3, 1) := by decide +kernel
theorem dX1_leastFromFall_60 : decode cX1_leastFromFall 60 = .ok (.aload_n 0, 1) := by decide +kernel
theorem dX1_leastFromFall_61 : decode cX1_leastFromFall 61 = .ok (.iconst 0, 1) := by decide +kernel
theorem dX1_leastFromFall_62 : decode cX1_leastFromFall 62 = .ok (.bipush (-9), 2) := by decide +kernel
theorem dX1_leastFromFall_64 : decode cX1_leastFromFall 64 = .ok (.iload 5, 2) := by decide +kernel
theorem dX1_leastFromFall_66 : decode cX1_leastFromFall 66 = .ok (.invokevirtual 83, 3) := by decide +kernel
theorem dX1_leastFromFall_69 : decode cX1_leastFromFall 69 = .ok (.iadd, 1) := by decide +kernel
theorem dX1_leastFromFall_70 : decode cX1_leastFromFall 70 = .ok (.invokestatic 103, 3) := by decide +kernel
theorem dX1_leastFromFall_73 : decode cX1_leastFromFall 73 = .ok (.ireturn, 1) := by decide +kernel
theorem dX1_fillSpent_0 : decode cX1_fillSpent 0 = .ok (.iload_n 1, 1) := by decide +kernel
theorem dX1_fillSpent_1 : decode cX1_fillSpent 1 = .ok (.istore 4, 2) := by decide +kernel
theorem dX1_fillSpent_3 : decode cX1_fillSpent 3 = .ok (.iload 4, 2) := by decide +kernel
theorem dX1_fillSpent_5 : decode cX1_fillSpent 5 = .ok (.aload_n 0, 1) := by decide +kernel
theorem dX1_fillSpent_6 : decode cX1_fillSpent 6 = .ok (.getfield 27, 3) := by decide +kernel
theorem dX1_fillSpent_9 : decode cX1_fillSpent 9 = .ok (.aload_n 0, 1) := by decide +kernel
theorem dX1_fillSpent_10 : decode cX1_fillSpent 10 = .ok (.getfield 123, 3) := by decide +kernel
theorem dX1_fillSpent_13 : decode cX1_fillSpent 13 = .ok (.invokevirtual 100, 3) := by decide +kernel
theorem dX1_fillSpent_16 : decode cX1_fillSpent 16 = .ok (.if_icmp .ge 127, 3) := by decide +kernel
theorem dX1_fillSpent_19 : decode cX1_fillSpent 19 = .ok (.aload_n 0, 1) := by decide +kernel
theorem dX1_fillSpent_20 : decode cX1_fillSpent 20 = .ok (.getfield 27, 3) := by decide +kernel
theorem dX1_fillSpent_23 : decode cX1_fillSpent 23 = .ok (.aload_n 0, 1) := by decide +kernel
theorem dX1_fillSpent_24 : decode cX1_fillSpent 24 = .ok (.getfield 123, 3) := by decide +kernel
theorem dX1_fillSpent_27 : decode cX1_fillSpent 27 = .ok (.iload 4, 2) := by decide +kernel
theorem dX1_fillSpent_29 : decode cX1_fillSpent 29 = .ok (.invokevirtual 126, 3) := by decide +kernel
theorem dX1_fillSpent_32 : decode cX1_fillSpent 32 = .ok (.astore 5, 2) := by decide +kernel
theorem dX1_fillSpent_34 : decode cX1_fillSpent 34 = .ok (.iload_n 3, 1) := by decide +kernel
theorem dX1_fillSpent_35 : decode cX1_fillSpent 35 = .ok (.istore 6, 2) := by decide +kernel
theorem dX1_fillSpent_37 : decode cX1_fillSpent 37 = .ok (.iload 6, 2) := by decide +kernel
theorem dX1_fillSpent_39 : decode cX1_fillSpent 39 = .ok (.aload_n 0, 1) := by decide +kernel
theorem dX1_fillSpent_40 : decode cX1_fillSpent 40 = .ok (.getfield 27, 3) := by decide +kernel
theorem dX1_fillSpent_43 : decode cX1_fillSpent 43 = .ok (.getfield 130, 3) := by decide +kernel
theorem dX1_fillSpent_46 : decode cX1_fillSpent 46 = .ok (.if_icmp .ge 91, 3) := by decide +kernel
theorem dX1_fillSpent_49 : decode cX1_fillSpent 49 = .ok (.aload_n 0, 1) := by decide +kernel
theorem dX1_fillSpent_50 : decode cX1_fillSpent 50 = .ok (.aload 5, 2) := by decide +kernel
theorem dX1_fillSpent_52 : decode cX1_fillSpent 52 = .ok (.iload 6, 2) := by decide +kernel
theorem dX1_fillSpent_54 : decode cX1_fillSpent 54 = .ok (.invokevirtual 133, 3) := by decide +kernel
theorem dX1_fillSpent_57 : decode cX1_fillSpent 57 = .ok (.istore 7, 2) := by decide +kernel
theorem dX1_fillSpent_59 : decode cX1_fillSpent 59 = .ok (.iload 7, 2) := by decide +kernel
theorem dX1_fillSpent_61 : decode cX1_fillSpent 61 = .ok (.sipush 1000, 3) := by decide +kernel
theorem dX1_fillSpent_64 : decode cX1_fillSpent 64 = .ok (.if_icmp .ge 45, 3) := by decide +kernel
theorem dX1_fillSpent_67 : decode cX1_fillSpent 67 = .ok (.iload 7, 2) := by decide +kernel
theorem dX1_fillSpent_69 : decode cX1_fillSpent 69 = .ok (.iload 4, 2) := by decide +kernel
theorem dX1_fillSpent_71 : decode cX1_fillSpent 71 = .ok (.iload_n 1, 1) := by decide +kernel
theorem dX1_fillSpent_72 : decode cX1_fillSpent 72 = .ok (.if_icmp .le 15, 3) := by decide +kernel
theorem dX1_fillSpent_75 : decode cX1_fillSpent 75 = .ok (.aload_n 0, 1) := by decide +kernel
theorem dX1_fillSpent_76 : decode cX1_fillSpent 76 = .ok (.iload 4, 2) := by decide +kernel
theorem dX1_fillSpent_78 : decode cX1_fillSpent 78 = .ok (.iload_n 3, 1) := by decide +kernel
theorem dX1_fillSpent_79 : decode cX1_fillSpent 79 = .ok (.iload 6, 2) := by decide +kernel
theorem dX1_fillSpent_81 : decode cX1_fillSpent 81 = .ok (.invokevirtual 151, 3) := by decide +kernel
theorem dX1_fillSpent_84 : decode cX1_fillSpent 84 = .ok (.goto 22, 3) := by decide +kernel
theorem dX1_fillSpent_87 : decode cX1_fillSpent 87 = .ok (.aload_n 0, 1) := by decide +kernel
theorem dX1_fillSpent_88 : decode cX1_fillSpent 88 = .ok (.aload 5, 2) := by decide +kernel
theorem dX1_fillSpent_90 : decode cX1_fillSpent 90 = .ok (.iload_n 2, 1) := by decide +kernel
theorem dX1_fillSpent_91 : decode cX1_fillSpent 91 = .ok (.iload 6, 2) := by decide +kernel
theorem dX1_fillSpent_93 : decode cX1_fillSpent 93 = .ok (.invokevirtual 140, 3) := by decide +kernel
theorem dX1_fillSpent_96 : decode cX1_fillSpent 96 = .ok (.ifCond .eq 7, 3) := by decide +kernel
theorem dX1_fillSpent_99 : decode cX1_fillSpent 99 = .ok (.iconst 0, 1) := by decide +kernel
theorem dX1_fillSpent_100 : decode cX1_fillSpent 100 = .ok (.goto 6, 3) := by decide +kernel
theorem dX1_fillSpent_103 : decode cX1_fillSpent 103 = .ok (.sipush 1000, 3) := by decide +kernel
theorem dX1_fillSpent_106 : decode cX1_fillSpent 106 = .ok (.iadd, 1) := by decide +kernel
theorem dX1_fillSpent_107 : decode cX1_fillSpent 107 = .ok (.istore 7, 2) := by decide +kernel
theorem dX1_fillSpent_109 : decode cX1_fillSpent 109 = .ok (.aload_n 0, 1) := by decide +kernel
theorem dX1_fillSpent_110 : decode cX1_fillSpent 110 = .ok (.getfield 24, 3) := by decide +kernel
theorem dX1_fillSpent_113 : decode cX1_fillSpent 113 = .ok (.iload 4, 2) := by decide +kernel
theorem dX1_fillSpent_115 : decode cX1_fillSpent 115 = .ok (.iload 6, 2) := by decide +kernel
theorem dX1_fillSpent_117 : decode cX1_fillSpent 117 = .ok (.invokestatic 137, 3) := by decide +kernel
theorem dX1_fillSpent_120 : decode cX1_fillSpent 120 = .ok (.sipush 1000, 3) := by decide +kernel
theorem dX1_fillSpent_123 : decode cX1_fillSpent 123 = .ok (.iload 7, 2) := by decide +kernel
theorem dX1_fillSpent_125 : decode cX1_fillSpent 125 = .ok (.invokestatic 103, 3) := by decide +kernel
theorem dX1_fillSpent_128 : decode cX1_fillSpent 128 = .ok (.invokestatic 43, 3) := by decide +kernel
theorem dX1_fillSpent_131 : decode cX1_fillSpent 131 = .ok (.iinc 6 1, 3) := by decide +kernel
theorem dX1_fillSpent_134 : decode cX1_fillSpent 134 = .ok (.goto (-97), 3) := by decide +kernel
theorem dX1_fillSpent_137 : decode cX1_fillSpent 137 = .ok (.iinc 4 1, 3) := by decide +kernel
theorem dX1_fillSpent_140 : decode cX1_fillSpent 140 = .ok (.goto (-137), 3) := by decide +kernel
theorem dX1_fillSpent_143 : decode cX1_fillSpent 143 = .ok (.return_, 1) := by decide +kernel
theorem dX1_leastSpent_0 : decode cX1_leastSpent 0 = .ok (.aload_n 0, 1) := by decide +kernel
theorem dX1_leastSpent_1 : decode cX1_leastSpent 1 = .ok (.getfield 27, 3) := by decide +kernel
theorem dX1_leastSpent_4 : decode cX1_leastSpent 4 = .ok (.aload_n 0, 1) := by decide +kernel
theorem dX1_leastSpent_5 : decode cX1_leastSpent 5 = .ok (.getfield 123, 3) := by decide +kernel
theorem dX1_leastSpent_8 : decode cX1_leastSpent 8 = .ok (.iload_n 1, 1) := by decide +kernel
theorem dX1_leastSpent_9 : decode cX1_leastSpent 9 = .ok (.invokevirtual 126, 3) := by decide +kernel
theorem dX1_leastSpent_12 : decode cX1_leastSpent 12 = .ok (.astore 4, 2) := by decide +kernel
theorem dX1_leastSpent_14 : decode cX1_leastSpent 14 = .ok (.sipush 1000, 3) := by decide +kernel
theorem dX1_leastSpent_17 : decode cX1_leastSpent 17 = .ok (.istore 5, 2) := by decide +kernel
theorem dX1_leastSpent_19 : decode cX1_leastSpent 19 = .ok (.iload_n 2, 1) := by decide +kernel
theorem dX1_leastSpent_20 : decode cX1_leastSpent 20 = .ok (.istore 6, 2) := by decide +kernel
theorem dX1_leastSpent_22 : decode cX1_leastSpent 22 = .ok (.iload 6, 2) := by decide +kernel
theorem dX1_leastSpent_24 : decode cX1_leastSpent 24 = .ok (.iload_n 3, 1) := by decide +kernel
theorem dX1_leastSpent_25 : decode cX1_leastSpent 25 = .ok (.if_icmp .gt 49, 3) := by decide +kernel
theorem dX1_leastSpent_28 : decode cX1_leastSpent 28 = .ok (.aload_n 0, 1) := by decide +kernel
theorem dX1_leastSpent_29 : decode cX1_leastSpent 29 = .ok (.getfield 24, 3) := by decide +kernel
theorem dX1_leastSpent_32 : decode cX1_leastSpent 32 = .ok (.iload_n 1, 1) := by decide +kernel
theorem dX1_leastSpent_33 : decode cX1_leastSpent 33 = .ok (.iconst 1, 1) := by decide +kernel
theorem dX1_leastSpent_34 : decode cX1_leastSpent 34 = .ok (.isub, 1) := by decide +kernel
theorem dX1_leastSpent_35 : decode cX1_leastSpent 35 = .ok (.iload 6, 2) := by decide +kernel
theorem dX1_leastSpent_37 : decode cX1_leastSpent 37 = .ok (.invokestatic 137, 3) := by decide +kernel
theorem dX1_leastSpent_40 : decode cX1_leastSpent 40 = .ok (.invokestatic 47, 3) := by decide +kernel
theorem dX1_leastSpent_43 : decode cX1_leastSpent 43 = .ok (.istore 7, 2) := by decide +kernel
theorem dX1_leastSpent_45 : decode cX1_leastSpent 45 = .ok (.iload 7, 2) := by decide +kernel
theorem dX1_leastSpent_47 : decode cX1_leastSpent 47 = .ok (.iload 5, 2) := by decide +kernel
theorem dX1_leastSpent_49 : decode cX1_leastSpent 49 = .ok (.if_icmp .ge 19, 3) := by decide +kernel
theorem dX1_leastSpent_52 : decode cX1_leastSpent 52 = .ok (.aload_n 0, 1) := by decide +kernel
theorem dX1_leastSpent_53 : decode cX1_leastSpent 53 = .ok (.aload 4, 2) := by decide +kernel
theorem dX1_leastSpent_55 : decode cX1_leastSpent 55 = .ok (.iload 6, 2) := by decide +kernel
theorem dX1_leastSpent_57 : decode cX1_leastSpent 57 = .ok (.iload_n 3, 1) := by decide +kernel
theorem dX1_leastSpent_58 : decode cX1_leastSpent 58 = .ok (.invokevirtual 140, 3) := by decide +kernel
theorem dX1_leastSpent_61 : decode cX1_leastSpent 61 = .ok (.ifCond .eq 7, 3) := by decide +kernel
theorem dX1_leastSpent_64 : decode cX1_leastSpent 64 = .ok (.iload 7, 2) := by decide +kernel
theorem dX1_leastSpent_66 : decode cX1_leastSpent 66 = .ok (.istore 5, 2) := by decide +kernel
theorem dX1_leastSpent_68 : decode cX1_leastSpent 68 = .ok (.iinc 6 1, 3) := by decide +kernel
theorem dX1_leastSpent_71 : decode cX1_leastSpent 71 = .ok (.goto (-49), 3) := by decide +kernel
theorem dX1_leastSpent_74 : decode cX1_leastSpent 74 = .ok (.iload 5, 2) := by decide +kernel
theorem dX1_leastSpent_76 : decode cX1_leastSpent 76 = .ok (.ireturn, 1) := by decide +kernel
theorem dX1_fillRow_0 : decode cX1_fillRow 0 = .ok (.iload_n 2, 1) := by decide +kernel
theorem dX1_fillRow_1 : decode cX1_fillRow 1 = .ok (.istore 5, 2) := by decide +kernel
theorem dX1_fillRow_3 : decode cX1_fillRow 3 = .ok (.iload_n 3, 1) := by decide +kernel
theorem dX1_fillRow_4 : decode cX1_fillRow 4 = .ok (.istore 6, 2) := by decide +kernel
theorem dX1_fillRow_6 : decode cX1_fillRow 6 = .ok (.iload_n 1, 1) := by decide +kernel
theorem dX1_fillRow_7 : decode cX1_fillRow 7 = .ok (.istore 7, 2) := by decide +kernel
theorem dX1_fillRow_9 : decode cX1_fillRow 9 = .ok (.iload 7, 2) := by decide +kernel
theorem dX1_fillRow_11 : decode cX1_fillRow 11 = .ok (.aload_n 0, 1) := by decide +kernel
theorem dX1_fillRow_12 : decode cX1_fillRow 12 = .ok (.getfield 27, 3) := by decide +kernel
theorem dX1_fillRow_15 : decode cX1_fillRow 15 = .ok (.aload_n 0, 1) := by decide +kernel
theorem dX1_fillRow_16 : decode cX1_fillRow 16 = .ok (.getfield 123, 3) := by decide +kernel
theorem dX1_fillRow_19 : decode cX1_fillRow 19 = .ok (.invokevirtual 100, 3) := by decide +kernel
theorem dX1_fillRow_22 : decode cX1_fillRow 22 = .ok (.if_icmp .ge 101, 3) := by decide +kernel
theorem dX1_fillRow_25 : decode cX1_fillRow 25 = .ok (.aload_n 0, 1) := by decide +kernel
theorem dX1_fillRow_26 : decode cX1_fillRow 26 = .ok (.getfield 27, 3) := by decide +kernel
theorem dX1_fillRow_29 : decode cX1_fillRow 29 = .ok (.aload_n 0, 1) := by decide +kernel
theorem dX1_fillRow_30 : decode cX1_fillRow 30 = .ok (.getfield 123, 3) := by decide +kernel
theorem dX1_fillRow_33 : decode cX1_fillRow 33 = .ok (.iload 7, 2) := by decide +kernel
theorem dX1_fillRow_35 : decode cX1_fillRow 35 = .ok (.invokevirtual 126, 3) := by decide +kernel
theorem dX1_fillRow_38 : decode cX1_fillRow 38 = .ok (.astore 8, 2) := by decide +kernel
theorem dX1_fillRow_40 : decode cX1_fillRow 40 = .ok (.iload 6, 2) := by decide +kernel
theorem dX1_fillRow_42 : decode cX1_fillRow 42 = .ok (.aload_n 0, 1) := by decide +kernel
theorem dX1_fillRow_43 : decode cX1_fillRow 43 = .ok (.getfield 27, 3) := by decide +kernel
theorem dX1_fillRow_46 : decode cX1_fillRow 46 = .ok (.getfield 130, 3) := by decide +kernel
theorem dX1_fillRow_49 : decode cX1_fillRow 49 = .ok (.if_icmp .ge 41, 3) := by decide +kernel
theorem dX1_fillRow_52 : decode cX1_fillRow 52 = .ok (.aload_n 0, 1) := by decide +kernel
theorem dX1_fillRow_53 : decode cX1_fillRow 53 = .ok (.getfield 21, 3) := by decide +kernel
theorem dX1_fillRow_56 : decode cX1_fillRow 56 = .ok (.iload 7, 2) := by decide +kernel
theorem dX1_fillRow_58 : decode cX1_fillRow 58 = .ok (.iload 6, 2) := by decide +kernel
theorem dX1_fillRow_60 : decode cX1_fillRow 60 = .ok (.invokestatic 137, 3) := by decide +kernel
theorem dX1_fillRow_63 : decode cX1_fillRow 63 = .ok (.invokestatic 47, 3) := by decide +kernel
theorem dX1_fillRow_66 : decode cX1_fillRow 66 = .ok (.iload 4, 2) := by decide +kernel
theorem dX1_fillRow_68 : decode cX1_fillRow 68 = .ok (.if_icmp .ne 16, 3) := by decide +kernel
theorem dX1_fillRow_71 : decode cX1_fillRow 71 = .ok (.aload_n 0, 1) := by decide +kernel
theorem dX1_fillRow_72 : decode cX1_fillRow 72 = .ok (.aload 8, 2) := by decide +kernel
theorem dX1_fillRow_74 : decode cX1_fillRow 74 = .ok (.iload 5, 2) := by decide +kernel
theorem dX1_fillRow_76 : decode cX1_fillRow 76 = .ok (.iload 6, 2) := by decide +kernel
theorem dX1_fillRow_78 : decode cX1_fillRow 78 = .ok (.invokevirtual 140, 3) := by decide +kernel
theorem dX1_fillRow_81 : decode cX1_fillRow 81 = .ok (.ifCond .ne 9, 3) := by decide +kernel
theorem dX1_fillRow_84 : decode cX1_fillRow 84 = .ok (.iinc 6 1, 3) := by decide +kernel
theorem dX1_fillRow_87 : decode cX1_fillRow 87 = .ok (.goto (-47), 3) := by decide +kernel
theorem dX1_fillRow_90 : decode cX1_fillRow 90 = .ok (.aload_n 0, 1) := by decide +kernel
theorem dX1_fillRow_91 : decode cX1_fillRow 91 = .ok (.getfield 9, 3) := by decide +kernel
theorem dX1_fillRow_94 : decode cX1_fillRow 94 = .ok (.aload_n 0, 1) := by decide +kernel
theorem dX1_fillRow_95 : decode cX1_fillRow 95 = .ok (.getfield 90, 3) := by decide +kernel
theorem dX1_fillRow_98 : decode cX1_fillRow 98 = .ok (.iload 6, 2) := by decide +kernel
theorem dX1_fillRow_100 : decode cX1_fillRow 100 = .ok (.invokestatic 43, 3) := by decide +kernel
theorem dX1_fillRow_103 : decode cX1_fillRow 103 = .ok (.aload_n 0, 1) := by decide +kernel
theorem dX1_fillRow_104 : decode cX1_fillRow 104 = .ok (.dup, 1) := by decide +kernel
theorem dX1_fillRow_105 : decode cX1_fillRow 105 = .ok (.getfield 90, 3) := by decide +kernel
theorem dX1_fillRow_108 : decode cX1_fillRow 108 = .ok (.iconst 1, 1) := by decide +kernel
theorem dX1_fillRow_109 : decode cX1_fillRow 109 = .ok (.iadd, 1) := by decide +kernel
theorem dX1_fillRow_110 : decode cX1_fillRow 110 = .ok (.putfield 90, 3) := by decide +kernel
theorem dX1_fillRow_113 : decode cX1_fillRow 113 = .ok (.iload 6, 2) := by decide +kernel
theorem dX1_fillRow_115 : decode cX1_fillRow 115 = .ok (.istore 5, 2) := by decide +kernel
theorem dX1_fillRow_117 : decode cX1_fillRow 117 = .ok (.iinc 7 1, 3) := by decide +kernel
theorem dX1_fillRow_120 : decode cX1_fillRow 120 = .ok (.goto (-111), 3) := by decide +kernel
theorem dX1_fillRow_123 : decode cX1_fillRow 123 = .ok (.return_, 1) := by decide +kernel
theorem dX2_init_0 : decode cX2_init 0 = .ok (.aload_n 0, 1) := by decide +kernel
theorem dX2_init_1 : decode cX2_init 1 = .ok (.invokespecial 3, 3) := by decide +kernel
theorem dX2_init_4 : decode cX2_init 4 = .ok (.aload_n 0, 1) := by decide +kernel
theorem dX2_init_5 : decode cX2_init 5 = .ok (.bipush 30, 2) := by decide +kernel
theorem dX2_init_7 : decode cX2_init 7 = .ok (.putfield 9, 3) := by decide +kernel
theorem dX2_init_10 : decode cX2_init 10 = .ok (.aload_n 0, 1) := by decide +kernel
theorem dX2_init_11 : decode cX2_init 11 = .ok (.bipush 60, 2) := by decide +kernel
theorem dX2_init_13 : decode cX2_init 13 = .ok (.newarray .int, 2) := by decide +kernel
theorem dX2_init_15 : decode cX2_init 15 = .ok (.putfield 15, 3) := by decide +kernel
theorem dX2_init_18 : decode cX2_init 18 = .ok (.aload_n 0, 1) := by decide +kernel
theorem dX2_init_19 : decode cX2_init 19 = .ok (.iconst 2, 1) := by decide +kernel
theorem dX2_init_20 : decode cX2_init 20 = .ok (.newarray .int, 2) := by decide +kernel
theorem dX2_init_22 : decode cX2_init 22 = .ok (.putfield 19, 3) := by decide +kernel
theorem dX2_init_25 : decode cX2_init 25 = .ok (.aload_n 0, 1) := by decide +kernel
theorem dX2_init_26 : decode cX2_init 26 = .ok (.bipush 8, 2) := by decide +kernel
theorem dX2_init_28 : decode cX2_init 28 = .ok (.anewarray 22, 3) := by decide +kernel
theorem dX2_init_31 : decode cX2_init 31 = .ok (.putfield 24, 3) := by decide +kernel
theorem dX2_init_34 : decode cX2_init 34 = .ok (.aload_n 0, 1) := by decide +kernel
theorem dX2_init_35 : decode cX2_init 35 = .ok (.new 22, 3) := by decide +kernel
theorem dX2_init_38 : decode cX2_init 38 = .ok (.dup, 1) := by decide +kernel
theorem dX2_init_39 : decode cX2_init 39 = .ok (.invokespecial 28, 3) := by decide +kernel
theorem dX2_init_42 : decode cX2_init 42 = .ok (.putfield 29, 3) := by decide +kernel
theorem dX2_init_45 : decode cX2_init 45 = .ok (.iconst 0, 1) := by decide +kernel
theorem dX2_init_46 : decode cX2_init 46 = .ok (.istore_n 1, 1) := by decide +kernel
theorem dX2_init_47 : decode cX2_init 47 = .ok (.iload_n 1, 1) := by decide +kernel
theorem dX2_init_48 : decode cX2_init 48 = .ok (.aload_n 0, 1) := by decide +kernel
theorem dX2_init_49 : decode cX2_init 49 = .ok (.getfield 24, 3) := by decide +kernel
theorem dX2_init_52 : decode cX2_init 52 = .ok (.arraylength, 1) := by decide +kernel
theorem dX2_init_53 : decode cX2_init 53 = .ok (.if_icmp .ge 22, 3) := by decide +kernel
theorem dX2_init_56 : decode cX2_init 56 = .ok (.aload_n 0, 1) := by decide +kernel
theorem dX2_init_57 : decode cX2_init 57 = .ok (.getfield 24, 3) := by decide +kernel
theorem dX2_init_60 : decode cX2_init 60 = .ok (.iload_n 1, 1) := by decide +kernel
theorem dX2_init_61 : decode cX2_init 61 = .ok (.new 22, 3) := by decide +kernel
theorem dX2_init_64 : decode cX2_init 64 = .ok (.dup, 1) := by decide +kernel
theorem dX2_init_65 : decode cX2_init 65 = .ok (.invokespecial 28, 3) := by decide +kernel
theorem dX2_init_68 : decode cX2_init 68 = .ok (.aastore, 1) := by decide +kernel
theorem dX2_init_69 : decode cX2_init 69 = .ok (.iinc 1 1, 3) := by decide +kernel
theorem dX2_init_72 : decode cX2_init 72 = .ok (.goto (-25), 3) := by decide +kernel
theorem dX2_init_75 : decode cX2_init 75 = .ok (.return_, 1) := by decide +kernel
theorem dX2_wipe_0 : decode cX2_wipe 0 = .ok (.aload_n 0, 1) := by decide +kernel
theorem dX2_wipe_1 : decode cX2_wipe 1 = .ok (.bipush 30, 2) := by decide +kernel
theorem dX2_wipe_3 : decode cX2_wipe 3 = .ok (.putfield 9, 3) := by decide +kernel
theorem dX2_wipe_6 : decode cX2_wipe 6 = .ok (.aload_n 0, 1) := by decide +kernel
theorem dX2_wipe_7 : decode cX2_wipe 7 = .ok (.iconst 0, 1) := by decide +kernel
theorem dX2_wipe_8 : decode cX2_wipe 8 = .ok (.putfield 33, 3) := by decide +kernel
theorem dX2_wipe_11 : decode cX2_wipe 11 = .ok (.aload_n 0, 1) := by decide +kernel
theorem dX2_wipe_12 : decode cX2_wipe 12 = .ok (.iconst 0, 1) := by decide +kernel
theorem dX2_wipe_13 : decode cX2_wipe 13 = .ok (.putfield 36, 3) := by decide +kernel
theorem dX2_wipe_16 : decode cX2_wipe 16 = .ok (.aload_n 0, 1) := by decide +kernel
theorem dX2_wipe_17 : decode cX2_wipe 17 = .ok (.getfield 15, 3) := by decide +kernel
theorem dX2_wipe_20 : decode cX2_wipe 20 = .ok (.iconst 0, 1) := by decide +kernel
theorem dX2_wipe_21 : decode cX2_wipe 21 = .ok (.invokestatic 39, 3) := by decide +kernel
theorem dX2_wipe_24 : decode cX2_wipe 24 = .ok (.aload_n 0, 1) := by decide +kernel
theorem dX2_wipe_25 : decode cX2_wipe 25 = .ok (.getfield 19, 3) := by decide +kernel
theorem dX2_wipe_28 : decode cX2_wipe 28 = .ok (.iconst 0, 1) := by decide +kernel
theorem dX2_wipe_29 : decode cX2_wipe 29 = .ok (.invokestatic 39, 3) := by decide +kernel
theorem dX2_wipe_32 : decode cX2_wipe 32 = .ok (.return_, 1) := by decide +kernel
theorem dX2_copy_0 : decode cX2_copy 0 = .ok (.aload_n 0, 1) := by decide +kernel
theorem dX2_copy_1 : decode cX2_copy 1 = .ok (.aload_n 1, 1) := by decide +kernel
theorem dX2_copy_2 : decode cX2_copy 2 = .ok (.getfield 9, 3) := by decide +kernel
theorem dX2_copy_5 : decode cX2_copy 5 = .ok (.putfield 9, 3) := by decide +kernel
theorem dX2_copy_8 : decode cX2_copy 8 = .ok (.aload_n 0, 1) := by decide +kernel
theorem dX2_copy_9 : decode cX2_copy 9 = .ok (.aload_n 1, 1) := by decide +kernel
theorem dX2_copy_10 : decode cX2_copy 10 = .ok (.getfield 33, 3) := by decide +kernel
theorem dX2_copy_13 : decode cX2_copy 13 = .ok (.putfield 33, 3) := by decide +kernel
theorem dX2_copy_16 : decode cX2_copy 16 = .ok (.aload_n 0, 1) := by decide +kernel
theorem dX2_copy_17 : decode cX2_copy 17 = .ok (.aload_n 1, 1) := by decide +kernel
theorem dX2_copy_18 : decode cX2_copy 18 = .ok (.getfield 36, 3) := by decide +kernel
theorem dX2_copy_21 : decode cX2_copy 21 = .ok (.putfield 36, 3) := by decide +kernel
theorem dX2_copy_24 : decode cX2_copy 24 = .ok (.aload_n 1, 1) := by decide +kernel
theorem dX2_copy_25 : decode cX2_copy 25 = .ok (.getfield 15, 3) := by decide +kernel
theorem dX2_copy_28 : decode cX2_copy 28 = .ok (.iconst 0, 1) := by decide +kernel
theorem dX2_copy_29 : decode cX2_copy 29 = .ok (.aload_n 0, 1) := by decide +kernel
theorem dX2_copy_30 : decode cX2_copy 30 = .ok (.getfield 15, 3) := by decide +kernel
theorem dX2_copy_33 : decode cX2_copy 33 = .ok (.iconst 0, 1) := by decide +kernel
theorem dX2_copy_34 : decode cX2_copy 34 = .ok (.bipush 60, 2) := by decide +kernel
theorem dX2_copy_36 : decode cX2_copy 36 = .ok (.invokestatic 45, 3) := by decide +kernel
theorem dX2_copy_39 : decode cX2_copy 39 = .ok (.aload_n 1, 1) := by decide +kernel
theorem dX2_copy_40 : decode cX2_copy 40 = .ok (.getfield 19, 3) := by decide +kernel
theorem dX2_copy_43 : decode cX2_copy 43 = .ok (.iconst 0, 1) := by decide +kernel
theorem dX2_copy_44 : decode cX2_copy 44 = .ok (.aload_n 0, 1) := by decide +kernel
theorem dX2_copy_45 : decode cX2_copy 45 = .ok (.getfield 19, 3) := by decide +kernel
theorem dX2_copy_48 : decode cX2_copy 48 = .ok (.iconst 0, 1) := by decide +kernel
theorem dX2_copy_49 : decode cX2_copy 49 = .ok (.iconst 2, 1) := by decide +kernel
theorem dX2_copy_50 : decode cX2_copy 50 = .ok (.invokestatic 45, 3) := by decide +kernel
theorem dX2_copy_53 : decode cX2_copy 53 = .ok (.iconst 0, 1) := by decide +kernel
theorem dX2_copy_54 : decode cX2_copy 54 = .ok (.istore_n 2, 1) := by decide +kernel
theorem dX2_copy_55 : decode cX2_copy 55 = .ok (.iload_n 2, 1) := by decide +kernel
theorem dX2_copy_56 : decode cX2_copy 56 = .ok (.iconst 2, 1) := by decide +kernel
theorem dX2_copy_57 : decode cX2_copy 57 = .ok (.if_icmp .ge 41, 3) := by decide +kernel
theorem dX2_copy_60 : decode cX2_copy 60 = .ok (.iconst 0, 1) := by decide +kernel
theorem dX2_copy_61 : decode cX2_copy 61 = .ok (.istore_n 3, 1) := by decide +kernel
theorem dX2_copy_62 : decode cX2_copy 62 = .ok (.iload_n 3, 1) := by decide +kernel
theorem dX2_copy_63 : decode cX2_copy 63 = .ok (.aload_n 0, 1) := by decide +kernel
theorem dX2_copy_64 : decode cX2_copy 64 = .ok (.iload_n 2, 1) := by decide +kernel
theorem dX2_copy_65 : decode cX2_copy 65 = .ok (.invokevirtual 51, 3) := by decide +kernel
theorem dX2_copy_68 : decode cX2_copy 68 = .ok (.if_icmp .ge 24, 3) := by decide +kernel
theorem dX2_copy_71 : decode cX2_copy 71 = .ok (.aload_n 0, 1) := by decide +kernel
theorem dX2_copy_72 : decode cX2_copy 72 = .ok (.iload_n 2, 1) := by decide +kernel
theorem dX2_copy_73 : decode cX2_copy 73 = .ok (.iload_n 3, 1) := by decide +kernel
theorem dX2_copy_74 : decode cX2_copy 74 = .ok (.invokevirtual 55, 3) := by decide +kernel
theorem dX2_copy_77 : decode cX2_copy 77 = .ok (.aload_n 1, 1) := by decide +kernel
theorem dX2_copy_78 : decode cX2_copy 78 = .ok (.iload_n 2, 1) := by decide +kernel
theorem dX2_copy_79 : decode cX2_copy 79 = .ok (.iload_n 3, 1) := by decide +kernel
theorem dX2_copy_80 : decode cX2_copy 80 = .ok (.invokevirtual 55, 3) := by decide +kernel
theorem dX2_copy_83 : decode cX2_copy 83 = .ok (.invokevirtual 59, 3) := by decide +kernel
theorem dX2_copy_86 : decode cX2_copy 86 = .ok (.iinc 3 1, 3) := by decide +kernel
theorem dX2_copy_89 : decode cX2_copy 89 = .ok (.goto (-27), 3) := by decide +kernel
theorem dX2_copy_92 : decode cX2_copy 92 = .ok (.iinc 2 1, 3) := by decide +kernel
theorem dX2_copy_95 : decode cX2_copy 95 = .ok (.goto (-40), 3) := by decide +kernel
theorem dX2_copy_98 : decode cX2_copy 98 = .ok (.return_, 1) := by decide +kernel
theorem dX2_kindOf_0 : decode cX2_kindOf 0 = .ok (.aload_n 0, 1) := by decide +kernel
theorem dX2_kindOf_1 : decode cX2_kindOf 1 = .ok (.getfield 15, 3) := by decide +kernel
theorem dX2_kindOf_4 : decode cX2_kindOf 4 = .ok (.iload_n 1, 1) := by decide +kernel
theorem dX2_kindOf_5 : decode cX2_kindOf 5 = .ok (.invokestatic 63, 3) := by decide +kernel
theorem dX2_kindOf_8 : decode cX2_kindOf 8 = .ok (.ireturn, 1) := by decide +kernel
theorem dX2_setKind_0 : decode cX2_setKind 0 = .ok (.aload_n 0, 1) := by decide +kernel
theorem dX2_setKind_1 : decode cX2_setKind 1 = .ok (.getfield 15, 3) := by decide +kernel
theorem dX2_setKind_4 : decode cX2_setKind 4 = .ok (.iload_n 1, 1) := by decide +kernel
theorem dX2_setKind_5 : decode cX2_setKind 5 = .ok (.iload_n 2, 1) := by decide +kernel
theorem dX2_setKind_6 : decode cX2_setKind 6 = .ok (.invokestatic 67, 3) := by decide +kernel
theorem dX2_setKind_9 : decode cX2_setKind 9 = .ok (.return_, 1) := by decide +kernel
theorem dX2_stepsOf_0 : decode cX2_stepsOf 0 = .ok (.aload_n 0, 1) := by decide +kernel
theorem dX2_stepsOf_1 : decode cX2_stepsOf 1 = .ok (.getfield 19, 3) := by decide +kernel
theorem dX2_stepsOf_4 : decode cX2_stepsOf 4 = .ok (.iload_n 1, 1) := by decide +kernel
theorem dX2_stepsOf_5 : decode cX2_stepsOf 5 = .ok (.invokestatic 63, 3) := by decide +kernel
theorem dX2_stepsOf_8 : decode cX2_stepsOf 8 = .ok (.ireturn, 1) := by decide +kernel
theorem dX2_hasStep_0 : decode cX2_hasStep 0 = .ok (.iload_n 2, 1) := by decide +kernel
theorem dX2_hasStep_1 : decode cX2_hasStep 1 = .ok (.ifCond .lt 19, 3) := by decide +kernel
theorem dX2_hasStep_4 : decode cX2_hasStep 4 = .ok (.iload_n 2, 1) := by decide +kernel
theorem dX2_hasStep_5 : decode cX2_hasStep 5 = .ok (.aload_n 0, 1) := by decide +kernel
theorem dX2_hasStep_6 : decode cX2_hasStep 6 = .ok (.getfield 19, 3) := by decide +kernel
theorem dX2_hasStep_9 : decode cX2_hasStep 9 = .ok (.iload_n 1, 1) := by decide +kernel
theorem dX2_hasStep_10 : decode cX2_hasStep 10 = .ok (.invokestatic 63, 3) := by decide +kernel
theorem dX2_hasStep_13 : decode cX2_hasStep 13 = .ok (.if_icmp .ge 7, 3) := by decide +kernel
theorem dX2_hasStep_16 : decode cX2_hasStep 16 = .ok (.iconst 1, 1) := by decide +kernel
theorem dX2_hasStep_17 : decode cX2_hasStep 17 = .ok (.goto 4, 3) := by decide +kernel
theorem dX2_hasStep_20 : decode cX2_hasStep 20 = .ok (.iconst 0, 1) := by decide +kernel
theorem dX2_hasStep_21 : decode cX2_hasStep 21 = .ok (.ireturn, 1) := by decide +kernel
theorem dX2_stepAt_0 : decode cX2_stepAt 0 = .ok (.iload_n 1, 1) := by decide +kernel
theorem dX2_stepAt_1 : decode cX2_stepAt 1 = .ok (.iconst 4, 1) := by decide +kernel
theorem dX2_stepAt_2 : decode cX2_stepAt 2 = .ok (.imul, 1) := by decide +kernel
theorem dX2_stepAt_3 : decode cX2_stepAt 3 = .ok (.iload_n 2, 1) := by decide +kernel
theorem dX2_stepAt_4 : decode cX2_stepAt 4 = .ok (.iadd, 1) := by decide +kernel
theorem dX2_stepAt_5 : decode cX2_stepAt 5 = .ok (.istore_n 3, 1) := by decide +kernel
theorem dX2_stepAt_6 : decode cX2_stepAt 6 = .ok (.iload_n 2, 1) := by decide +kernel
theorem dX2_stepAt_7 : decode cX2_stepAt 7 = .ok (.ifCond .lt 19, 3) := by decide +kernel
theorem dX2_stepAt_10 : decode cX2_stepAt 10 = .ok (.iload_n 2, 1) := by decide +kernel
theorem dX2_stepAt_11 : decode cX2_stepAt 11 = .ok (.aload_n 0, 1) := by decide +kernel
theorem dX2_stepAt_12 : decode cX2_stepAt 12 = .ok (.getfield 19, 3) := by decide +kernel
theorem dX2_stepAt_15 : decode cX2_stepAt 15 = .ok (.iload_n 1, 1) := by decide +kernel
theorem dX2_stepAt_16 : decode cX2_stepAt 16 = .ok (.invokestatic 63, 3) := by decide +kernel
theorem dX2_stepAt_19 : decode cX2_stepAt 19 = .ok (.if_icmp .ge 7, 3) := by decide +kernel
theorem dX2_stepAt_22 : decode cX2_stepAt 22 = .ok (.iconst 1, 1) := by decide +kernel
theorem dX2_stepAt_23 : decode cX2_stepAt 23 = .ok (.goto 4, 3) := by decide +kernel
theorem dX2_stepAt_26 : decode cX2_stepAt 26 = .ok (.iconst 0, 1) := by decide +kernel
theorem dX2_stepAt_27 : decode cX2_stepAt 27 = .ok (.istore 4, 2) := by decide +kernel
theorem dX2_stepAt_29 : decode cX2_stepAt 29 = .ok (.iload 4, 2) := by decide +kernel
theorem dX2_stepAt_31 : decode cX2_stepAt 31 = .ok (.ifCond .eq 16, 3) := by decide +kernel
theorem dX2_stepAt_34 : decode cX2_stepAt 34 = .ok (.iload_n 3, 1) := by decide +kernel
theorem dX2_stepAt_35 : decode cX2_stepAt 35 = .ok (.ifCond .lt 12, 3) := by decide +kernel
theorem dX2_stepAt_38 : decode cX2_stepAt 38 = .ok (.iload_n 3, 1) := by decide +kernel
theorem dX2_stepAt_39 : decode cX2_stepAt 39 = .ok (.aload_n 0, 1) := by decide +kernel
theorem dX2_stepAt_40 : decode cX2_stepAt 40 = .ok (.getfield 24, 3) := by decide +kernel
theorem dX2_stepAt_43 : decode cX2_stepAt 43 = .ok (.arraylength, 1) := by decide +kernel
theorem dX2_stepAt_44 : decode cX2_stepAt 44 = .ok (.if_icmp .lt 8, 3) := by decide +kernel
theorem dX2_stepAt_47 : decode cX2_stepAt 47 = .ok (.aload_n 0, 1) := by decide +kernel
theorem dX2_stepAt_48 : decode cX2_stepAt 48 = .ok (.getfield 29, 3) := by decide +kernel
theorem dX2_stepAt_51 : decode cX2_stepAt 51 = .ok (.areturn, 1) := by decide +kernel
theorem dX2_stepAt_52 : decode cX2_stepAt 52 = .ok (.aload_n 0, 1) := by decide +kernel
theorem dX2_stepAt_53 : decode cX2_stepAt 53 = .ok (.getfield 24, 3) := by decide +kernel
theorem dX2_stepAt_56 : decode cX2_stepAt 56 = .ok (.iload_n 3, 1) := by decide +kernel
theorem dX2_stepAt_57 : decode cX2_stepAt 57 = .ok (.aaload, 1) := by decide +kernel
theorem dX2_stepAt_58 : decode cX2_stepAt 58 = .ok (.astore 5, 2) := by decide +kernel
theorem dX2_stepAt_60 : decode cX2_stepAt 60 = .ok (.aload 5, 2) := by decide +kernel
theorem dX2_stepAt_62 : decode cX2_stepAt 62 = .ok (.ifnonnull 10, 3) := by decide +kernel
theorem dX2_stepAt_65 : decode cX2_stepAt 65 = .ok (.aload_n 0, 1) := by decide +kernel
theorem dX2_stepAt_66 : decode cX2_stepAt 66 = .ok (.getfield 29, 3) := by decide +kernel
theorem dX2_stepAt_69 : decode cX2_stepAt 69 = .ok (.goto 5, 3) := by decide +kernel
theorem dX2_stepAt_72 : decode cX2_stepAt 72 = .ok (.aload 5, 2) := by decide +kernel
theorem dX2_stepAt_74 : decode cX2_stepAt 74 = .ok (.areturn, 1) := by decide +kernel
theorem dX2_addStep_0 : decode cX2_addStep 0 = .ok (.aload_n 0, 1) := by decide +kernel
theorem dX2_addStep_1 : decode cX2_addStep 1 = .ok (.getfield 36, 3) := by decide +kernel
theorem dX2_addStep_4 : decode cX2_addStep 4 = .ok (.iconst 1, 1) := by decide +kernel
theorem dX2_addStep_5 : decode cX2_addStep 5 = .ok (.isub, 1) := by decide +kernel
theorem dX2_addStep_6 : decode cX2_addStep 6 = .ok (.istore_n 1, 1) := by decide +kernel
theorem dX2_addStep_7 : decode cX2_addStep 7 = .ok (.aload_n 0, 1) := by decide +kernel
theorem dX2_addStep_8 : decode cX2_addStep 8 = .ok (.iload_n 1, 1) := by decide +kernel
theorem dX2_addStep_9 : decode cX2_addStep 9 = .ok (.invokevirtual 51, 3) := by decide +kernel
theorem dX2_addStep_12 : decode cX2_addStep 12 = .ok (.istore_n 2, 1) := by decide +kernel
theorem dX2_addStep_13 : decode cX2_addStep 13 = .ok (.aload_n 0, 1) := by decide +kernel
theorem dX2_addStep_14 : decode cX2_addStep 14 = .ok (.getfield 19, 3) := by decide +kernel
theorem dX2_addStep_17 : decode cX2_addStep 17 = .ok (.iload_n 1, 1) := by decide +kernel
theorem dX2_addStep_18 : decode cX2_addStep 18 = .ok (.iload_n 2, 1) := by decide +kernel
theorem dX2_addStep_19 : decode cX2_addStep 19 = .ok (.iconst 1, 1) := by decide +kernel
theorem dX2_addStep_20 : decode cX2_addStep 20 = .ok (.iadd, 1) := by decide +kernel
theorem dX2_addStep_21 : decode cX2_addStep 21 = .ok (.invokestatic 67, 3) := by decide +kernel
theorem dX2_addStep_24 : decode cX2_addStep 24 = .ok (.aload_n 0, 1) := by decide +kernel
theorem dX2_addStep_25 : decode cX2_addStep 25 = .ok (.iload_n 1, 1) := by decide +kernel
theorem dX2_addStep_26 : decode cX2_addStep 26 = .ok (.iload_n 2, 1) := by decide +kernel
theorem dX2_addStep_27 : decode cX2_addStep 27 = .ok (.invokevirtual 55, 3) := by decide +kernel
theorem dX2_addStep_30 : decode cX2_addStep 30 = .ok (.astore_n 3, 1) := by decide +kernel
theorem dX2_addStep_31 : decode cX2_addStep 31 = .ok (.aload_n 3, 1) := by decide +kernel
theorem dX2_addStep_32 : decode cX2_addStep 32 = .ok (.invokevirtual 71, 3) := by decide +kernel
theorem dX2_addStep_35 : decode cX2_addStep 35 = .ok (.aload_n 3, 1) := by decide +kernel
theorem dX2_addStep_36 : decode cX2_addStep 36 = .ok (.areturn, 1) := by decide +kernel
theorem dX3_init_0 : decode cX3_init 0 = .ok (.aload_n 0, 1) := by decide +kernel
theorem dX3_init_1 : decode cX3_init 1 = .ok (.invokespecial 3, 3) := by decide +kernel
theorem dX3_init_4 : decode cX3_init 4 = .ok (.aload_n 0, 1) := by decide +kernel
theorem dX3_init_5 : decode cX3_init 5 = .ok (.aload_n 1, 1) := by decide +kernel
theorem dX3_init_6 : decode cX3_init 6 = .ok (.putfield 9, 3) := by decide +kernel
theorem dX3_init_9 : decode cX3_init 9 = .ok (.aload_n 0, 1) := by decide +kernel
theorem dX3_init_10 : decode cX3_init 10 = .ok (.aload_n 2, 1) := by decide +kernel
theorem dX3_init_11 : decode cX3_init 11 = .ok (.putfield 15, 3) := by decide +kernel
theorem dX3_init_14 : decode cX3_init 14 = .ok (.return_, 1) := by decide +kernel
theorem dX3_read_0 : decode cX3_read 0 = .ok (.aload_n 0, 1) := by decide +kernel
theorem dX3_read_1 : decode cX3_read 1 = .ok (.iload_n 1, 1) := by decide +kernel
theorem dX3_read_2 : decode cX3_read 2 = .ok (.aload_n 0, 1) := by decide +kernel
theorem dX3_read_3 : decode cX3_read 3 = .ok (.getfield 9, 3) := by decide +kernel
theorem dX3_read_6 : decode cX3_read 6 = .ok (.arraylength, 1) := by decide +kernel
theorem dX3_read_7 : decode cX3_read 7 = .ok (.invokestatic 19, 3) := by decide +kernel
theorem dX3_read_10 : decode cX3_read 10 = .ok (.putfield 25, 3) := by decide +kernel
theorem dX3_read_13 : decode cX3_read 13 = .ok (.aload_n 0, 1) := by decide +kernel
theorem dX3_read_14 : decode cX3_read 14 = .ok (.aload_n 2, 1) := by decide +kernel
theorem dX3_read_15 : decode cX3_read 15 = .ok (.putfield 15, 3) := by decide +kernel
theorem dX3_read_18 : decode cX3_read 18 = .ok (.aload_n 0, 1) := by decide +kernel
theorem dX3_read_19 : decode cX3_read 19 = .ok (.getfield 15, 3) := by decide +kernel
theorem dX3_read_22 : decode cX3_read 22 = .ok (.invokevirtual 29, 3) := by decide +kernel
theorem dX3_read_25 : decode cX3_read 25 = .ok (.aload_n 0, 1) := by decide +kernel
theorem dX3_read_26 : decode cX3_read 26 = .ok (.iconst 0, 1) := by decide +kernel
theorem dX3_read_27 : decode cX3_read 27 = .ok (.putfield 34, 3) := by decide +kernel
theorem dX3_read_30 : decode cX3_read 30 = .ok (.aload_n 0, 1) := by decide +kernel
theorem dX3_read_31 : decode cX3_read 31 = .ok (.bipush (-9), 2) := by decide +kernel
theorem dX3_read_33 : decode cX3_read 33 = .ok (.putfield 37, 3) := by decide +kernel
theorem dX3_read_36 : decode cX3_read 36 = .ok (.aload_n 0, 1) := by decide +kernel
theorem dX3_read_37 : decode cX3_read 37 = .ok (.invokevirtual 40, 3) := by decide +kernel
theorem dX3_read_40 : decode cX3_read 40 = .ok (.iconst 0, 1) := by decide +kernel
theorem dX3_read_41 : decode cX3_read 41 = .ok (.istore_n 3, 1) := by decide +kernel
theorem dX3_read_42 : decode cX3_read 42 = .ok (.iload_n 3, 1) := by decide +kernel
theorem dX3_read_43 : decode cX3_read 43 = .ok (.sipush 400, 3) := by decide +kernel
theorem dX3_read_46 : decode cX3_read 46 = .ok (.if_icmp .ge 133, 3) := by decide +kernel
theorem dX3_read_49 : decode cX3_read 49 = .ok (.aload_n 0, 1) := by decide +kernel
theorem dX3_read_50 : decode cX3_read 50 = .ok (.getfield 43, 3) := by decide +kernel
theorem dX3_read_53 : decode cX3_read 53 = .ok (.ifCond .eq 126, 3) := by decide +kernel
theorem dX3_read_56 : decode cX3_read 56 = .ok (.aload_n 0, 1) := by decide +kernel
theorem dX3_read_57 : decode cX3_read 57 = .ok (.ldc 46, 2) := by decide +kernel
theorem dX3_read_59 : decode cX3_read 59 = .ok (.invokevirtual 48, 3) := by decide +kernel
theorem dX3_read_62 : decode cX3_read 62 = .ok (.ifCond .eq 12, 3) := by decide +kernel
theorem dX3_read_65 : decode cX3_read 65 = .ok (.aload_n 0, 1) := by decide +kernel
theorem dX3_read_66 : decode cX3_read 66 = .ok (.invokevirtual 52, 3) := by decide +kernel
theorem dX3_read_69 : decode cX3_read 69 = .ok (.istore 4, 2) := by decide +kernel
theorem dX3_read_71 : decode cX3_read 71 = .ok (.goto 79, 3) := by decide +kernel
theorem dX3_read_74 : decode cX3_read 74 = .ok (.aload_n 0, 1) := by decide +kernel
theorem dX3_read_75 : decode cX3_read 75 = .ok (.ldc 56, 2) := by decide +kernel
theorem dX3_read_77 : decode cX3_read 77 = .ok (.invokevirtual 48, 3) := by decide +kernel
theorem dX3_read_80 : decode cX3_read 80 = .ok (.ifCond .eq 12, 3) := by decide +kernel
theorem dX3_read_83 : decode cX3_read 83 = .ok (.aload_n 0, 1) := by decide +kernel
theorem dX3_read_84 : decode cX3_read 84 = .ok (.invokevirtual 58, 3) := by decide +kernel
theorem dX3_read_87 : decode cX3_read 87 = .ok (.istore 4, 2) := by decide +kernel
theorem dX3_read_89 : decode cX3_read 89 = .ok (.goto 61, 3) := by decide +kernel
theorem dX3_read_92 : decode cX3_read 92 = .ok (.aload_n 0, 1) := by decide +kernel
theorem dX3_read_93 : decode cX3_read 93 = .ok (.ldc 61, 2) := by decide +kernel
theorem dX3_read_95 : decode cX3_read 95 = .ok (.invokevirtual 48, 3) := by decide +kernel
theorem dX3_read_98 : decode cX3_read 98 = .ok (.ifCond .eq 12, 3) := by decide +kernel
theorem dX3_read_101 : decode cX3_read 101 = .ok (.aload_n 0, 1) := by decide +kernel
theorem dX3_read_102 : decode cX3_read 102 = .ok (.invokevirtual 63, 3) := by decide +kernel
theorem dX3_read_105 : decode cX3_read 105 = .ok (.istore 4, 2) := by decide +kernel
theorem dX3_read_107 : decode cX3_read 107 = .ok (.goto 43, 3) := by decide +kernel
theorem dX3_read_110 : decode cX3_read 110 = .ok (.aload_n 0, 1) := by decide +kernel
theorem dX3_read_111 : decode cX3_read 111 = .ok (.ldc 66, 2) := by decide +kernel
theorem dX3_read_113 : decode cX3_read 113 = .ok (.invokevirtual 48, 3) := by decide +kernel
theorem dX3_read_116 : decode cX3_read 116 = .ok (.ifCond .eq 12, 3) := by decide +kernel
theorem dX3_read_119 : decode cX3_read 119 = .ok (.aload_n 0, 1) := by decide +kernel
theorem dX3_read_120 : decode cX3_read 120 = .ok (.invokevirtual 68, 3) := by decide +kernel
theorem dX3_read_123 : decode cX3_read 123 = .ok (.istore 4, 2) := by decide +kernel
theorem dX3_read_125 : decode cX3_read 125 = .ok (.goto 25, 3) := by decide +kernel
theorem dX3_read_128 : decode cX3_read 128 = .ok (.aload_n 0, 1) := by decide +kernel
theorem dX3_read_129 : decode cX3_read 129 = .ok (.ldc 71, 2) := by decide +kernel
theorem dX3_read_131 : decode cX3_read 131 = .ok (.invokevirtual 48, 3) := by decide +kernel
theorem dX3_read_134 : decode cX3_read 134 = .ok (.ifCond .eq 10, 3) := by decide +kernel
theorem dX3_read_137 : decode cX3_read 137 = .ok (.aload_n 0, 1) := by decide +kernel
theorem dX3_read_138 : decode cX3_read 138 = .ok (.invokevirtual 73, 3) := by decide +kernel
theorem dX3_read_141 : decode cX3_read 141 = .ok (.goto 7, 3) := by decide +kernel
theorem dX3_read_144 : decode cX3_read 144 = .ok (.aload_n 0, 1) := by decide +kernel
theorem dX3_read_145 : decode cX3_read 145 = .ok (.invokevirtual 76, 3) := by decide +kernel
theorem dX3_read_148 : decode cX3_read 148 = .ok (.istore 4, 2) := by decide +kernel
theorem dX3_read_150 : decode cX3_read 150 = .ok (.iload 4, 2) := by decide +kernel
theorem dX3_read_152 : decode cX3_read 152 = .ok (.ifCond .ne 8, 3) := by decide +kernel
theorem dX3_read_155 : decode cX3_read 155 = .ok (.aload_n 0, 1) := by decide +kernel
theorem dX3_read_156 : decode cX3_read 156 = .ok (.getfield 37, 3) := by decide +kernel
theorem dX3_read_159 : decode cX3_read 159 = .ok (.ireturn, 1) := by decide +kernel
theorem dX3_read_160 : decode cX3_read 160 = .ok (.aload_n 0, 1) := by decide +kernel
theorem dX3_read_161 : decode cX3_read 161 = .ok (.getfield 15, 3) := by decide +kernel
theorem dX3_read_164 : decode cX3_read 164 = .ok (.dup, 1) := by decide +kernel
theorem dX3_read_165 : decode cX3_read 165 = .ok (.getfield 79, 3) := by decide +kernel
theorem dX3_read_168 : decode cX3_read 168 = .ok (.iconst 1, 1) := by decide +kernel
theorem dX3_read_169 : decode cX3_read 169 = .ok (.iadd, 1) := by decide +kernel
theorem dX3_read_170 : decode cX3_read 170 = .ok (.putfield 79, 3) := by decide +kernel
theorem dX3_read_173 : decode cX3_read 173 = .ok (.iinc 3 1, 3) := by decide +kernel
theorem dX3_read_176 : decode cX3_read 176 = .ok (.goto (-134), 3) := by decide +kernel
theorem dX3_read_179 : decode cX3_read 179 = .ok (.bipush (-9), 2) := by decide +kernel
theorem dX3_read_181 : decode cX3_read 181 = .ok (.ireturn, 1) := by decide +kernel
theorem dX3_byteAt_0 : decode cX3_byteAt 0 = .ok (.iload_n 1, 1) := by decide +kernel
theorem dX3_byteAt_1 : decode cX3_byteAt 1 = .ok (.ifCond .lt 33, 3) := by decide +kernel
theorem dX3_byteAt_4 : decode cX3_byteAt 4 = .ok (.iload_n 1, 1) := by decide +kernel
theorem dX3_byteAt_5 : decode cX3_byteAt 5 = .ok (.aload_n 0, 1) := by decide +kernel
theorem dX3_byteAt_6 : decode cX3_byteAt 6 = .ok (.getfield 25, 3) := by decide +kernel
theorem dX3_byteAt_9 : decode cX3_byteAt 9 = .ok (.if_icmp .ge 25, 3) := by decide +kernel
theorem dX3_byteAt_12 : decode cX3_byteAt 12 = .ok (.iload_n 1, 1) := by decide +kernel
theorem dX3_byteAt_13 : decode cX3_byteAt 13 = .ok (.aload_n 0, 1) := by decide +kernel
theorem dX3_byteAt_14 : decode cX3_byteAt 14 = .ok (.getfield 9, 3) := by decide +kernel
theorem dX3_byteAt_17 : decode cX3_byteAt 17 = .ok (.arraylength, 1) := by decide +kernel
theorem dX3_byteAt_18 : decode cX3_byteAt 18 = .ok (.if_icmp .ge 16, 3) := by decide +kernel
theorem dX3_byteAt_21 : decode cX3_byteAt 21 = .ok (.aload_n 0, 1) := by decide +kernel
theorem dX3_byteAt_22 : decode cX3_byteAt 22 = .ok (.getfield 9, 3) := by decide +kernel
theorem dX3_byteAt_25 : decode cX3_byteAt 25 = .ok (.iload_n 1, 1) := by decide +kernel
theorem dX3_byteAt_26 : decode cX3_byteAt 26 = .ok (.baload, 1) := by decide +kernel
theorem dX3_byteAt_27 : decode cX3_byteAt 27 = .ok (.sipush 255, 3) := by decide +kernel
theorem dX3_byteAt_30 : decode cX3_byteAt 30 = .ok (.iand, 1) := by decide +kernel
theorem dX3_byteAt_31 : decode cX3_byteAt 31 = .ok (.goto 5, 3) := by decide +kernel
theorem dX3_byteAt_34 : decode cX3_byteAt 34 = .ok (.bipush (-9), 2) := by decide +kernel
theorem dX3_byteAt_36 : decode cX3_byteAt 36 = .ok (.ireturn, 1) := by decide +kernel
theorem dX3_isLetter_0 : decode cX3_isLetter 0 = .ok (.iload_n 0, 1) := by decide +kernel
theorem dX3_isLetter_1 : decode cX3_isLetter 1 = .ok (.bipush 97, 2) := by decide +kernel
theorem dX3_isLetter_3 : decode cX3_isLetter 3 = .ok (.if_icmp .lt 13, 3) := by decide +kernel
theorem dX3_isLetter_6 : decode cX3_isLetter 6 = .ok (.iload_n 0, 1) := by decide +kernel
theorem dX3_isLetter_7 : decode cX3_isLetter 7 = .ok (.bipush 122, 2) := by decide +kernel
theorem dX3_isLetter_9 : decode cX3_isLetter 9 = .ok (.if_icmp .gt 7, 3) := by decide +kernel
theorem dX3_isLetter_12 : decode cX3_isLetter 12 = .ok (.iconst 1, 1) := by decide +kernel
theorem dX3_isLetter_13 : decode cX3_isLetter 13 = .ok (.goto 4, 3) := by decide +kernel
theorem dX3_isLetter_16 : decode cX3_isLetter 16 = .ok (.iconst 0, 1) := by decide +kernel
theorem dX3_isLetter_17 : decode cX3_isLetter 17 = .ok (.ireturn, 1) := by decide +kernel
theorem dX3_isDigit_0 : decode cX3_isDigit 0 = .ok (.iload_n 0, 1) := by decide +kernel
theorem dX3_isDigit_1 : decode cX3_isDigit 1 = .ok (.bipush 48, 2) := by decide +kernel
theorem dX3_isDigit_3 : decode cX3_isDigit 3 = .ok (.if_icmp .lt 13, 3) := by decide +kernel
theorem dX3_isDigit_6 : decode cX3_isDigit 6 = .ok (.iload_n 0, 1) := by decide +kernel
theorem dX3_isDigit_7 : decode cX3_isDigit 7 = .ok (.bipush 57, 2) := by decide +kernel
theorem dX3_isDigit_9 : decode cX3_isDigit 9 = .ok (.if_icmp .gt 7, 3) := by decide +kernel
theorem dX3_isDigit_12 : decode cX3_isDigit 12 = .ok (.iconst 1, 1) := by decide +kernel
theorem dX3_isDigit_13 : decode cX3_isDigit 13 = .ok (.goto 4, 3) := by decide +kernel
theorem dX3_isDigit_16 : decode cX3_isDigit 16 = .ok (.iconst 0, 1) := by decide +kernel
theorem dX3_isDigit_17 : decode cX3_isDigit 17 = .ok (.ireturn, 1) := by decide +kernel
theorem dX3_advance_0 : decode cX3_advance 0 = .ok (.aload_n 0, 1) := by decide +kernel
theorem dX3_advance_1 : decode cX3_advance 1 = .ok (.aload_n 0, 1) := by decide +kernel
theorem dX3_advance_2 : decode cX3_advance 2 = .ok (.getfield 34, 3) := by decide +kernel
theorem dX3_advance_5 : decode cX3_advance 5 = .ok (.putfield 82, 3) := by decide +kernel
theorem dX3_advance_8 : decode cX3_advance 8 = .ok (.aload_n 0, 1) := by decide +kernel
theorem dX3_advance_9 : decode cX3_advance 9 = .ok (.getfield 82, 3) := by decide +kernel
theorem dX3_advance_12 : decode cX3_advance 12 = .ok (.aload_n 0, 1) := by decide +kernel
theorem dX3_advance_13 : decode cX3_advance 13 = .ok (.getfield 25, 3) := by decide +kernel
theorem dX3_advance_16 : decode cX3_advance 16 = .ok (.if_icmp .ge 29, 3) := by decide +kernel
theorem dX3_advance_19 : decode cX3_advance 19 = .ok (.aload_n 0, 1) := by decide +kernel
theorem dX3_advance_20 : decode cX3_advance 20 = .ok (.aload_n 0, 1) := by decide +kernel
theorem dX3_advance_21 : decode cX3_advance 21 = .ok (.getfield 82, 3) := by decide +kernel
theorem dX3_advance_24 : decode cX3_advance 24 = .ok (.invokevirtual 85, 3) := by decide +kernel
theorem dX3_advance_27 : decode cX3_advance 27 = .ok (.bipush 32, 2) := by decide +kernel
theorem dX3_advance_29 : decode cX3_advance 29 = .ok (.if_icmp .ne 16, 3) := by decide +kernel
theorem dX3_advance_32 : decode cX3_advance 32 = .ok (.aload_n 0, 1) := by decide +kernel
theorem dX3_advance_33 : decode cX3_advance 33 = .ok (.dup, 1) := by decide +kernel
theorem dX3_advance_34 : decode cX3_advance 34 = .ok (.getfield 82, 3) := by decide +kernel
theorem dX3_advance_37 : decode cX3_advance 37 = .ok (.iconst 1, 1) := by decide +kernel
theorem dX3_advance_38 : decode cX3_advance 38 = .ok (.iadd, 1) := by decide +kernel
theorem dX3_advance_39 : decode cX3_advance 39 = .ok (.putfield 82, 3) := by decide +kernel
theorem dX3_advance_42 : decode cX3_advance 42 = .ok (.goto (-34), 3) := by decide +kernel
theorem dX3_advance_45 : decode cX3_advance 45 = .ok (.aload_n 0, 1) := by decide +kernel
theorem dX3_advance_46 : decode cX3_advance 46 = .ok (.aload_n 0, 1) := by decide +kernel
theorem dX3_advance_47 : decode cX3_advance 47 = .ok (.getfield 82, 3) := by decide +kernel
theorem dX3_advance_50 : decode cX3_advance 50 = .ok (.iconst 1, 1) := by decide +kernel
theorem dX3_advance_51 : decode cX3_advance 51 = .ok (.iadd, 1) := by decide +kernel
theorem dX3_advance_52 : decode cX3_advance 52 = .ok (.putfield 34, 3) := by decide +kernel
theorem dX3_advance_55 : decode cX3_advance 55 = .ok (.aload_n 0, 1) := by decide +kernel
theorem dX3_advance_56 : decode cX3_advance 56 = .ok (.aload_n 0, 1) := by decide +kernel
theorem dX3_advance_57 : decode cX3_advance 57 = .ok (.getfield 82, 3) := by decide +kernel
theorem dX3_advance_60 : decode cX3_advance 60 = .ok (.invokevirtual 85, 3) := by decide +kernel
theorem dX3_advance_63 : decode cX3_advance 63 = .ok (.istore_n 1, 1) := by decide +kernel
theorem dX3_advance_64 : decode cX3_advance 64 = .ok (.aload_n 0, 1) := by decide +kernel
theorem dX3_advance_65 : decode cX3_advance 65 = .ok (.getfield 82, 3) := by decide +kernel
theorem dX3_advance_68 : decode cX3_advance 68 = .ok (.aload_n 0, 1) := by decide +kernel
theorem dX3_advance_69 : decode cX3_advance 69 = .ok (.getfield 25, 3) := by decide +kernel
theorem dX3_advance_72 : decode cX3_advance 72 = .ok (.if_icmp .lt 19, 3) := by decide +kernel
theorem dX3_advance_75 : decode cX3_advance 75 = .ok (.aload_n 0, 1) := by decide +kernel
theorem dX3_advance_76 : decode cX3_advance 76 = .ok (.iconst 0, 1) := by decide +kernel
theorem dX3_advance_77 : decode cX3_advance 77 = .ok (.putfield 43, 3) := by decide +kernel
theorem dX3_advance_80 : decode cX3_advance 80 = .ok (.aload_n 0, 1) := by decide +kernel
theorem dX3_advance_81 : decode cX3_advance 81 = .ok (.aload_n 0, 1) := by decide +kernel
theorem dX3_advance_82 : decode cX3_advance 82 = .ok (.getfield 25, 3) := by decide +kernel
theorem dX3_advance_85 : decode cX3_advance 85 = .ok (.putfield 34, 3) := by decide +kernel
theorem dX3_advance_88 : decode cX3_advance 88 = .ok (.goto 50, 3) := by decide +kernel
theorem dX3_advance_91 : decode cX3_advance 91 = .ok (.iload_n 1, 1) := by decide +kernel
theorem dX3_advance_92 : decode cX3_advance 92 = .ok (.bipush 59, 2) := by decide +kernel
theorem dX3_advance_94 : decode cX3_advance 94 = .ok (.if_icmp .ne 11, 3) := by decide +kernel
theorem dX3_advance_97 : decode cX3_advance 97 = .ok (.aload_n 0, 1) := by decide +kernel
theorem dX3_advance_98 : decode cX3_advance 98 = .ok (.iconst 3, 1) := by decide +kernel
theorem dX3_advance_99 : decode cX3_advance 99 = .ok (.putfield 43, 3) := by decide +kernel
theorem dX3_advance_102 : decode cX3_advance 102 = .ok (.goto 36, 3) := by decide +kernel
theorem dX3_advance_105 : decode cX3_advance 105 = .ok (.iload_n 1, 1) := by decide +kernel
theorem dX3_advance_106 : decode cX3_advance 106 = .ok (.invokestatic 89, 3) := by decide +kernel
theorem dX3_advance_109 : decode cX3_advance 109 = .ok (.ifCond .eq 10, 3) := by decide +kernel
theorem dX3_advance_112 : decode cX3_advance 112 = .ok (.aload_n 0, 1) := by decide +kernel
theorem dX3_advance_113 : decode cX3_advance 113 = .ok (.invokevirtual 93, 3) := by decide +kernel
theorem dX3_advance_116 : decode cX3_advance 116 = .ok (.goto 22, 3) := by decide +kernel
theorem dX3_advance_119 : decode cX3_advance 119 = .ok (.iload_n 1, 1) := by decide +kernel
theorem dX3_advance_120 : decode cX3_advance 120 = .ok (.invokestatic 96, 3) := by decide +kernel
theorem dX3_advance_123 : decode cX3_advance 123 = .ok (.ifCond .eq 10, 3) := by decide +kernel
theorem dX3_advance_126 : decode cX3_advance 126 = .ok (.aload_n 0, 1) := by decide +kernel
theorem dX3_advance_127 : decode cX3_advance 127 = .ok (.invokevirtual 99, 3) := by decide +kernel
theorem dX3_advance_130 : decode cX3_advance 130 = .ok (.goto 8, 3) := by decide +kernel
theorem dX3_advance_133 : decode cX3_advance 133 = .ok (.aload_n 0, 1) := by decide +kernel
theorem dX3_advance_134 : decode cX3_advance 134 = .ok (.iconst 4, 1) := by decide +kernel
theorem dX3_advance_135 : decode cX3_advance 135 = .ok (.putfield 43, 3) := by decide +kernel
theorem dX3_advance_138 : decode cX3_advance 138 = .ok (.return_, 1) := by decide +kernel
theorem dX3_advanceLetters_0 : decode cX3_advanceLetters 0 = .ok (.aload_n 0, 1) := by decide +kernel
theorem dX3_advanceLetters_1 : decode cX3_advanceLetters 1 = .ok (.getfield 34, 3) := by decide +kernel
theorem dX3_advanceLetters_4 : decode cX3_advanceLetters 4 = .ok (.aload_n 0, 1) := by decide +kernel
theorem dX3_advanceLetters_5 : decode cX3_advanceLetters 5 = .ok (.getfield 25, 3) := by decide +kernel
theorem dX3_advanceLetters_8 : decode cX3_advanceLetters 8 = .ok (.if_icmp .ge 30, 3) := by decide +kernel
theorem dX3_advanceLetters_11 : decode cX3_advanceLetters 11 = .ok (.aload_n 0, 1) := by decide +kernel
theorem dX3_advanceLetters_12 : decode cX3_advanceLetters 12 = .ok (.aload_n 0, 1) := by decide +kernel
theorem dX3_advanceLetters_13 : decode cX3_advanceLetters 13 = .ok (.getfield 34, 3) := by decide +kernel
theorem dX3_advanceLetters_16 : decode cX3_advanceLetters 16 = .ok (.invokevirtual 85, 3) := by decide +kernel
theorem dX3_advanceLetters_19 : decode cX3_advanceLetters 19 = .ok (.invokestatic 89, 3) := by decide +kernel
theorem dX3_advanceLetters_22 : decode cX3_advanceLetters 22 = .ok (.ifCond .eq 16, 3) := by decide +kernel
theorem dX3_advanceLetters_25 : decode cX3_advanceLetters 25 = .ok (.aload_n 0, 1) := by decide +kernel
theorem dX3_advanceLetters_26 : decode cX3_advanceLetters 26 = .ok (.dup, 1) := by decide +kernel
theorem dX3_advanceLetters_27 : decode cX3_advanceLetters 27 = .ok (.getfield 34, 3) := by decide +kernel
theorem dX3_advanceLetters_30 : decode cX3_advanceLetters 30 = .ok (.iconst 1, 1) := by decide +kernel
theorem dX3_advanceLetters_31 : decode cX3_advanceLetters 31 = .ok (.iadd, 1) := by decide +kernel
theorem dX3_advanceLetters_32 : decode cX3_advanceLetters 32 = .ok (.putfield 34, 3) := by decide +kernel
theorem dX3_advanceLetters_35 : decode cX3_advanceLetters 35 = .ok (.goto (-35), 3) := by decide +kernel
theorem dX3_advanceLetters_38 : decode cX3_advanceLetters 38 = .ok (.aload_n 0, 1) := by decide +kernel
theorem dX3_advanceLetters_39 : decode cX3_advanceLetters 39 = .ok (.iconst 1, 1) := by decide +kernel
theorem dX3_advanceLetters_40 : decode cX3_advanceLetters 40 = .ok (.putfield 43, 3) := by decide +kernel
theorem dX3_advanceLetters_43 : decode cX3_advanceLetters 43 = .ok (.return_, 1) := by decide +kernel
theorem dX3_advanceNumber_0 : decode cX3_advanceNumber 0 = .ok (.aload_n 0, 1) := by decide +kernel
theorem dX3_advanceNumber_1 : decode cX3_advanceNumber 1 = .ok (.getfield 34, 3) := by decide +kernel
theorem dX3_advanceNumber_4 : decode cX3_advanceNumber 4 = .ok (.aload_n 0, 1) := by decide +kernel
theorem dX3_advanceNumber_5 : decode cX3_advanceNumber 5 = .ok (.getfield 25, 3) := by decide +kernel
theorem dX3_advanceNumber_8 : decode cX3_advanceNumber 8 = .ok (.if_icmp .ge 30, 3) := by decide +kernel
theorem dX3_advanceNumber_11 : decode cX3_advanceNumber 11 = .ok (.aload_n 0, 1) := by decide +kernel
theorem dX3_advanceNumber_12 : decode cX3_advanceNumber 12 = .ok (.aload_n 0, 1) := by decide +kernel
theorem dX3_advanceNumber_13 : decode cX3_advanceNumber 13 = .ok (.getfield 34, 3) := by decide +kernel
theorem dX3_advanceNumber_16 : decode cX3_advanceNumber 16 = .ok (.invokevirtual 85, 3) := by decide +kernel
theorem dX3_advanceNumber_19 : decode cX3_advanceNumber 19 = .ok (.invokestatic 96, 3) := by decide +kernel
theorem dX3_advanceNumber_22 : decode cX3_advanceNumber 22 = .ok (.ifCond .eq 16, 3) := by decide +kernel
theorem dX3_advanceNumber_25 : decode cX3_advanceNumber 25 = .ok (.aload_n 0, 1) := by decide +kernel
theorem dX3_advanceNumber_26 : decode cX3_advanceNumber 26 = .ok (.dup, 1) := by decide +kernel
theorem dX3_advanceNumber_27 : decode cX3_advanceNumber 27 = .ok (.getfield 34, 3) := by decide +kernel
theorem dX3_advanceNumber_30 : decode cX3_advanceNumber 30 = .ok (.iconst 1, 1) := by decide +kernel
theorem dX3_advanceNumber_31 : decode cX3_advanceNumber 31 = .ok (.iadd, 1) := by decide +kernel
theorem dX3_advanceNumber_32 : decode cX3_advanceNumber 32 = .ok (.putfield 34, 3) := by decide +kernel
theorem dX3_advanceNumber_35 : decode cX3_advanceNumber 35 = .ok (.goto (-35), 3) := by decide +kernel
theorem dX3_advanceNumber_38 : decode cX3_advanceNumber 38 = .ok (.aload_n 0, 1) := by decide +kernel
theorem dX3_advanceNumber_39 : decode cX3_advanceNumber 39 = .ok (.aload_n 0, 1) := by decide +kernel
theorem dX3_advanceNumber_40 : decode cX3_advanceNumber 40 = .ok (.getfield 82, 3) := by decide +kernel
theorem dX3_advanceNumber_43 : decode cX3_advanceNumber 43 = .ok (.invokevirtual 85, 3) := by decide +kernel
theorem dX3_advanceNumber_46 : decode cX3_advanceNumber 46 = .ok (.bipush 48, 2) := by decide +kernel
theorem dX3_advanceNumber_48 : decode cX3_advanceNumber 48 = .ok (.isub, 1) := by decide +kernel
theorem dX3_advanceNumber_49 : decode cX3_advanceNumber 49 = .ok (.istore_n 1, 1) := by decide +kernel
theorem dX3_advanceNumber_50 : decode cX3_advanceNumber 50 = .ok (.aload_n 0, 1) := by decide +kernel
theorem dX3_advanceNumber_51 : decode cX3_advanceNumber 51 = .ok (.getfield 34, 3) := by decide +kernel
theorem dX3_advanceNumber_54 : decode cX3_advanceNumber 54 = .ok (.aload_n 0, 1) := by decide +kernel
theorem dX3_advanceNumber_55 : decode cX3_advanceNumber 55 = .ok (.getfield 82, 3) := by decide +kernel
theorem dX3_advanceNumber_58 : decode cX3_advanceNumber 58 = .ok (.isub, 1) := by decide +kernel
theorem dX3_advanceNumber_59 : decode cX3_advanceNumber 59 = .ok (.istore_n 2, 1) := by decide +kernel
theorem dX3_advanceNumber_60 : decode cX3_advanceNumber 60 = .ok (.iload_n 2, 1) := by decide +kernel
theorem dX3_advanceNumber_61 : decode cX3_advanceNumber 61 = .ok (.iconst 1, 1) := by decide +kernel
theorem dX3_advanceNumber_62 : decode cX3_advanceNumber 62 = .ok (.if_icmp .eq 12, 3) := by decide +kernel
theorem dX3_advanceNumber_65 : decode cX3_advanceNumber 65 = .ok (.iload_n 2, 1) := by decide +kernel
theorem dX3_advanceNumber_66 : decode cX3_advanceNumber 66 = .ok (.iconst 2, 1) := by decide +kernel
theorem dX3_advanceNumber_67 : decode cX3_advanceNumber 67 = .ok (.if_icmp .ne 11, 3) := by decide +kernel
theorem dX3_advanceNumber_70 : decode cX3_advanceNumber 70 = .ok (.iload_n 1, 1) := by decide +kernel
theorem dX3_advanceNumber_71 : decode cX3_advanceNumber 71 = .ok (.ifCond .eq 7, 3) := by decide +kernel
theorem dX3_advanceNumber_74 : decode cX3_advanceNumber 74 = .ok (.iconst 1, 1) := by decide +kernel
theorem dX3_advanceNumber_75 : decode cX3_advanceNumber 75 = .ok (.goto 4, 3) := by decide +kernel
theorem dX3_advanceNumber_78 : decode cX3_advanceNumber 78 = .ok (.iconst 0, 1) := by decide +kernel
theorem dX3_advanceNumber_79 : decode cX3_advanceNumber 79 = .ok (.istore_n 3, 1) := by decide +kernel
theorem dX3_advanceNumber_80 : decode cX3_advanceNumber 80 = .ok (.aload_n 0, 1) := by decide +kernel
theorem dX3_advanceNumber_81 : decode cX3_advanceNumber 81 = .ok (.iload_n 3, 1) := by decide +kernel
theorem dX3_advanceNumber_82 : decode cX3_advanceNumber 82 = .ok (.ifCond .eq 7, 3) := by decide +kernel
theorem dX3_advanceNumber_85 : decode cX3_advanceNumber 85 = .ok (.iconst 2, 1) := by decide +kernel
theorem dX3_advanceNumber_86 : decode cX3_advanceNumber 86 = .ok (.goto 4, 3) := by decide +kernel
theorem dX3_advanceNumber_89 : decode cX3_advanceNumber 89 = .ok (.iconst 4, 1) := by decide +kernel
theorem dX3_advanceNumber_90 : decode cX3_advanceNumber 90 = .ok (.putfield 43, 3) := by decide +kernel
theorem dX3_advanceNumber_93 : decode cX3_advanceNumber 93 = .ok (.aload_n 0, 1) := by decide +kernel
theorem dX3_advanceNumber_94 : decode cX3_advanceNumber 94 = .ok (.iload_n 2, 1) := by decide +kernel
theorem dX3_advanceNumber_95 : decode cX3_advanceNumber 95 = .ok (.iconst 1, 1) := by decide +kernel
theorem dX3_advanceNumber_96 : decode cX3_advanceNumber 96 = .ok (.if_icmp .ne 7, 3) := by decide +kernel
theorem dX3_advanceNumber_99 : decode cX3_advanceNumber 99 = .ok (.iload_n 1, 1) := by decide +kernel
theorem dX3_advanceNumber_100 : decode cX3_advanceNumber 100 = .ok (.goto 21, 3) := by decide +kernel
theorem dX3_advanceNumber_103 : decode cX3_advanceNumber 103 = .ok (.iload_n 1, 1) := by decide +kernel
theorem dX3_advanceNumber_104 : decode cX3_advanceNumber 104 = .ok (.bipush 10, 2) := by decide +kernel
theorem dX3_advanceNumber_106 : decode cX3_advanceNumber 106 = .ok (.imul, 1) := by decide +kernel
theorem dX3_advanceNumber_107 : decode cX3_advanceNumber 107 = .ok (.aload_n 0, 1) := by decide +kernel
theorem dX3_advanceNumber_108 : decode cX3_advanceNumber 108 = .ok (.aload_n 0, 1) := by decide +kernel
theorem dX3_advanceNumber_109 : decode cX3_advanceNumber 109 = .ok (.getfield 82, 3) := by decide +kernel
theorem dX3_advanceNumber_112 : decode cX3_advanceNumber 112 = .ok (.iconst 1, 1) := by decide +kernel
theorem dX3_advanceNumber_113 : decode cX3_advanceNumber 113 = .ok (.iadd, 1) := by decide +kernel
theorem dX3_advanceNumber_114 : decode cX3_advanceNumber 114 = .ok (.invokevirtual 85, 3) := by decide +kernel
theorem dX3_advanceNumber_117 : decode cX3_advanceNumber 117 = .ok (.iadd, 1) := by decide +kernel
theorem dX3_advanceNumber_118 : decode cX3_advanceNumber 118 = .ok (.bipush 48, 2) := by decide +kernel
theorem dX3_advanceNumber_120 : decode cX3_advanceNumber 120 = .ok (.isub, 1) := by decide +kernel
theorem dX3_advanceNumber_121 : decode cX3_advanceNumber 121 = .ok (.putfield 102, 3) := by decide +kernel
theorem dX3_advanceNumber_124 : decode cX3_advanceNumber 124 = .ok (.return_, 1) := by decide +kernel
theorem dX3_refuse_0 : decode cX3_refuse 0 = .ok (.aload_n 0, 1) := by decide +kernel
theorem dX3_refuse_1 : decode cX3_refuse 1 = .ok (.aload_n 0, 1) := by decide +kernel
theorem dX3_refuse_2 : decode cX3_refuse 2 = .ok (.getfield 82, 3) := by decide +kernel
theorem dX3_refuse_5 : decode cX3_refuse 5 = .ok (.putfield 37, 3) := by decide +kernel
theorem dX3_refuse_8 : decode cX3_refuse 8 = .ok (.iconst 0, 1) := by decide +kernel
theorem dX3_refuse_9 : decode cX3_refuse 9 = .ok (.ireturn, 1) := by decide +kernel
theorem dX3_isName_0 : decode cX3_isName 0 = .ok (.aload_n 0, 1) := by decide +kernel
theorem dX3_isName_1 : decode cX3_isName 1 = .ok (.getfield 43, 3) := by decide +kernel
theorem dX3_isName_4 : decode cX3_isName 4 = .ok (.iconst 1, 1) := by decide +kernel
theorem dX3_isName_5 : decode cX3_isName 5 = .ok (.if_icmp .ne 19, 3) := by decide +kernel
theorem dX3_isName_8 : decode cX3_isName 8 = .ok (.aload_n 0, 1) := by decide +kernel
theorem dX3_isName_9 : decode cX3_isName 9 = .ok (.getfield 34, 3) := by decide +kernel
theorem dX3_isName_12 : decode cX3_isName 12 = .ok (.aload_n 0, 1) := by decide +kernel
theorem dX3_isName_13 : decode cX3_isName 13 = .ok (.getfield 82, 3) := by decide +kernel
theorem dX3_isName_16 : decode cX3_isName 16 = .ok (.isub, 1) := by decide +kernel
theorem dX3_isName_17 : decode cX3_isName 17 = .ok (.aload_n 1, 1) := by decide +kernel
theorem dX3_isName_18 : decode cX3_isName 18 = .ok (.invokevirtual 105, 3) := by decide +kernel
theorem dX3_isName_21 : decode cX3_isName 21 = .ok (.if_icmp .eq 5, 3) := by decide +kernel
theorem dX3_isName_24 : decode cX3_isName 24 = .ok (.iconst 0, 1) := by decide +kernel
theorem dX3_isName_25 : decode cX3_isName 25 = .ok (.ireturn, 1) := by decide +kernel
theorem dX3_isName_26 : decode cX3_isName 26 = .ok (.iconst 0, 1) := by decide +kernel
theorem dX3_isName_27 : decode cX3_isName 27 = .ok (.istore_n 2, 1) := by decide +kernel
theorem dX3_isName_28 : decode cX3_isName 28 = .ok (.iload_n 2, 1) := by decide +kernel
theorem dX3_isName_29 : decode cX3_isName 29 = .ok (.aload_n 1, 1) := by decide +kernel
theorem dX3_isName_30 : decode cX3_isName 30 = .ok (.invokevirtual 105, 3) := by decide +kernel
theorem dX3_isName_33 : decode cX3_isName 33 = .ok (.if_icmp .ge 29, 3) := by decide +kernel
theorem dX3_isName_36 : decode cX3_isName 36 = .ok (.aload_n 0, 1) := by decide +kernel
theorem dX3_isName_37 : decode cX3_isName 37 = .ok (.aload_n 0, 1) := by decide +kernel
theorem dX3_isName_38 : decode cX3_isName 38 = .ok (.getfield 82, 3) := by decide +kernel
theorem dX3_isName_41 : decode cX3_isName 41 = .ok (.iload_n 2, 1) := by decide +kernel
theorem dX3_isName_42 : decode cX3_isName 42 = .ok (.iadd, 1) := by decide +kernel
theorem dX3_isName_43 : decode cX3_isName 43 = .ok (.invokevirtual 85, 3) := by decide +kernel
theorem dX3_isName_46 : decode cX3_isName 46 = .ok (.aload_n 1, 1) := by decide +kernel
theorem dX3_isName_47 : decode cX3_isName 47 = .ok (.iload_n 2, 1) := by decide +kernel
theorem dX3_isName_48 : decode cX3_isName 48 = .ok (.invokevirtual 111, 3) := by decide +kernel
theorem dX3_isName_51 : decode cX3_isName 51 = .ok (.if_icmp .eq 5, 3) := by decide +kernel
theorem dX3_isName_54 : decode cX3_isName 54 = .ok (.iconst 0, 1) := by decide +kernel
theorem dX3_isName_55 : decode cX3_isName 55 = .ok (.ireturn, 1) := by decide +kernel
theorem dX3_isName_56 : decode cX3_isName 56 = .ok (.iinc 2 1, 3) := by decide +kernel
theorem dX3_isName_59 : decode cX3_isName 59 = .ok (.goto (-31), 3) := by decide +kernel
theorem dX3_isName_62 : decode cX3_isName 62 = .ok (.iconst 1, 1) := by decide +kernel
theorem dX3_isName_63 : decode cX3_isName 63 = .ok (.ireturn, 1) := by decide +kernel
theorem dX3_perhapsTake_0 : decode cX3_perhapsTake 0 = .ok (.aload_n 0, 1) := by decide +kernel
theorem dX3_perhapsTake_1 : decode cX3_perhapsTake 1 = .ok (.aload_n 1, 1) := by decide +kernel
theorem dX3_perhapsTake_2 : decode cX3_perhapsTake 2 = .ok (.invokevirtual 48, 3) := by decide +kernel
theorem dX3_perhapsTake_5 : decode cX3_perhapsTake 5 = .ok (.istore_n 2, 1) := by decide +kernel
theorem dX3_perhapsTake_6 : decode cX3_perhapsTake 6 = .ok (.iload_n 2, 1) := by decide +kernel
theorem dX3_perhapsTake_7 : decode cX3_perhapsTake 7 = .ok (.ifCond .eq 7, 3) := by decide +kernel
theorem dX3_perhapsTake_10 : decode cX3_perhapsTake 10 = .ok (.aload_n 0, 1) := by decide +kernel
theorem dX3_perhapsTake_11 : decode cX3_perhapsTake 11 = .ok (.invokevirtual 40, 3) := by decide +kernel
theorem dX3_perhapsTake_14 : decode cX3_perhapsTake 14 = .ok (.iload_n 2, 1) := by decide +kernel
theorem dX3_perhapsTake_15 : decode cX3_perhapsTake 15 = .ok (.ireturn, 1) := by decide +kernel
theorem dX3_take_0 : decode cX3_take 0 = .ok (.aload_n 0, 1) := by decide +kernel
theorem dX3_take_1 : decode cX3_take 1 = .ok (.aload_n 1, 1) := by decide +kernel
theorem dX3_take_2 : decode cX3_take 2 = .ok (.invokevirtual 48, 3) := by decide +kernel
theorem dX3_take_5 : decode cX3_take 5 = .ok (.ifCond .ne 8, 3) := by decide +kernel
theorem dX3_take_8 : decode cX3_take 8 = .ok (.aload_n 0, 1) := by decide +kernel
theorem dX3_take_9 : decode cX3_take 9 = .ok (.invokevirtual 76, 3) := by decide +kernel
theorem dX3_take_12 : decode cX3_take 12 = .ok (.ireturn, 1) := by decide +kernel
theorem dX3_take_13 : decode cX3_take 13 = .ok (.aload_n 0, 1) := by decide +kernel
theorem dX3_take_14 : decode cX3_take 14 = .ok (.invokevirtual 40, 3) := by decide +kernel
theorem dX3_take_17 : decode cX3_take 17 = .ok (.iconst 1, 1) := by decide +kernel
theorem dX3_take_18 : decode cX3_take 18 = .ok (.ireturn, 1) := by decide +kernel
theorem dX3_takeNumber_0 : decode cX3_takeNumber 0 = .ok (.aload_n 0, 1) := by decide +kernel
theorem dX3_takeNumber_1 : decode cX3_takeNumber 1 = .ok (.getfield 43, 3) := by decide +kernel
theorem dX3_takeNumber_4 : decode cX3_takeNumber 4 = .ok (.iconst 2, 1) := by decide +kernel
theorem dX3_takeNumber_5 : decode cX3_takeNumber 5 = .ok (.if_icmp .ne 19, 3) := by decide +kernel
theorem dX3_takeNumber_8 : decode cX3_takeNumber 8 = .ok (.aload_n 0, 1) := by decide +kernel
theorem dX3_takeNumber_9 : decode cX3_takeNumber 9 = .ok (.getfield 102, 3) := by decide +kernel
theorem dX3_takeNumber_12 : decode cX3_takeNumber 12 = .ok (.iload_n 1, 1) := by decide +kernel
theorem dX3_takeNumber_13 : decode cX3_takeNumber 13 = .ok (.if_icmp .lt 11, 3) := by decide +kernel
theorem dX3_takeNumber_16 : decode cX3_takeNumber 16 = .ok (.aload_n 0, 1) := by decide +kernel
theorem dX3_takeNumber_17 : decode cX3_takeNumber 17 = .ok (.getfield 102, 3) := by decide +kernel
theorem dX3_takeNumber_20 : decode cX3_takeNumber 20 = .ok (.iload_n 2, 1) := by decide +kernel
theorem dX3_takeNumber_21 : decode cX3_takeNumber 21 = .ok (.if_icmp .le 11, 3) := by decide +kernel
theorem dX3_takeNumber_24 : decode cX3_takeNumber 24 = .ok (.aload_n 0, 1) := by decide +kernel
theorem dX3_takeNumber_25 : decode cX3_takeNumber 25 = .ok (.invokevirtual 76, 3) := by decide +kernel
theorem dX3_takeNumber_28 : decode cX3_takeNumber 28 = .ok (.pop, 1) := by decide +kernel
theorem dX3_takeNumber_29 : decode cX3_takeNumber 29 = .ok (.bipush (-9), 2) := by decide +kernel
theorem dX3_takeNumber_31 : decode cX3_takeNumber 31 = .ok (.ireturn, 1) := by decide +kernel
theorem dX3_takeNumber_32 : decode cX3_takeNumber 32 = .ok (.aload_n 0, 1) := by decide +kernel
theorem dX3_takeNumber_33 : decode cX3_takeNumber 33 = .ok (.getfield 102, 3) := by decide +kernel
theorem dX3_takeNumber_36 : decode cX3_takeNumber 36 = .ok (.istore_n 3, 1) := by decide +kernel
theorem dX3_takeNumber_37 : decode cX3_takeNumber 37 = .ok (.aload_n 0, 1) := by decide +kernel
theorem dX3_takeNumber_38 : decode cX3_takeNumber 38 = .ok (.invokevirtual 40, 3) := by decide +kernel
theorem dX3_takeNumber_41 : decode cX3_takeNumber 41 = .ok (.iload_n 3, 1) := by decide +kernel
theorem dX3_takeNumber_42 : decode cX3_takeNumber 42 = .ok (.ireturn, 1) := by decide +kernel
theorem dX3_kindHere_0 : decode cX3_kindHere 0 = .ok (.aload_n 0, 1) := by decide +kernel
theorem dX3_kindHere_1 : decode cX3_kindHere 1 = .ok (.ldc 115, 2) := by decide +kernel
theorem dX3_kindHere_3 : decode cX3_kindHere 3 = .ok (.invokevirtual 48, 3) := by decide +kernel
theorem dX3_kindHere_6 : decode cX3_kindHere 6 = .ok (.ifCond .eq 5, 3) := by decide +kernel
theorem dX3_kindHere_9 : decode cX3_kindHere 9 = .ok (.iconst 0, 1) := by decide +kernel
theorem dX3_kindHere_10 : decode cX3_kindHere 10 = .ok (.ireturn, 1) := by decide +kernel
theorem dX3_kindHere_11 : decode cX3_kindHere 11 = .ok (.aload_n 0, 1) := by decide +kernel
theorem dX3_kindHere_12 : decode cX3_kindHere 12 = .ok (.ldc 117, 2) := by decide +kernel
theorem dX3_kindHere_14 : decode cX3_kindHere 14 = .ok (.invokevirtual 48, 3) := by decide +kernel
theorem dX3_kindHere_17 : decode cX3_kindHere 17 = .ok (.ifCond .eq 5, 3) := by decide +kernel
theorem dX3_kindHere_20 : decode cX3_kindHere 20 = .ok (.iconst 1, 1) := by decide +kernel
theorem dX3_kindHere_21 : decode cX3_kindHere 21 = .ok (.ireturn, 1) := by decide +kernel
theorem dX3_kindHere_22 : decode cX3_kindHere 22 = .ok (.aload_n 0, 1) := by decide +kernel
theorem dX3_kindHere_23 : decode cX3_kindHere 23 = .ok (.ldc 119, 2) := by decide +kernel
theorem dX3_kindHere_25 : decode cX3_kindHere 25 = .ok (.invokevirtual 48, 3) := by decide +kernel
theorem dX3_kindHere_28 : decode cX3_kindHere 28 = .ok (.ifCond .eq 5, 3) := by decide +kernel
theorem dX3_kindHere_31 : decode cX3_kindHere 31 = .ok (.iconst 2, 1) := by decide +kernel
theorem dX3_kindHere_32 : decode cX3_kindHere 32 = .ok (.ireturn, 1) := by decide +kernel
theorem dX3_kindHere_33 : decode cX3_kindHere 33 = .ok (.aload_n 0, 1) := by decide +kernel
theorem dX3_kindHere_34 : decode cX3_kindHere 34 = .ok (.ldc 121, 2) := by decide +kernel
theorem dX3_kindHere_36 : decode cX3_kindHere 36 = .ok (.invokevirtual 48, 3) := by decide +kernel
theorem dX3_kindHere_39 : decode cX3_kindHere 39 = .ok (.ifCond .eq 7, 3) := by decide +kernel
theorem dX3_kindHere_42 : decode cX3_kindHere 42 = .ok (.iconst 3, 1) := by decide +kernel
theorem dX3_kindHere_43 : decode cX3_kindHere 43 = .ok (.goto 5, 3) := by decide +kernel
theorem dX3_kindHere_46 : decode cX3_kindHere 46 = .ok (.bipush (-9), 2) := by decide +kernel
theorem dX3_kindHere_48 : decode cX3_kindHere 48 = .ok (.ireturn, 1) := by decide +kernel
theorem dX3_takeKind_0 : decode cX3_takeKind 0 = .ok (.aload_n 0, 1) := by decide +kernel
theorem dX3_takeKind_1 : decode cX3_takeKind 1 = .ok (.invokevirtual 123, 3) := by decide +kernel
theorem dX3_takeKind_4 : decode cX3_takeKind 4 = .ok (.istore_n 1, 1) := by decide +kernel
theorem dX3_takeKind_5 : decode cX3_takeKind 5 = .ok (.iload_n 1, 1) := by decide +kernel
theorem dX3_takeKind_6 : decode cX3_takeKind 6 = .ok (.bipush (-9), 2) := by decide +kernel
theorem dX3_takeKind_8 : decode cX3_takeKind 8 = .ok (.if_icmp .ne 11, 3) := by decide +kernel
theorem dX3_takeKind_11 : decode cX3_takeKind 11 = .ok (.aload_n 0, 1) := by decide +kernel
theorem dX3_takeKind_12 : decode cX3_takeKind 12 = .ok (.invokevirtual 76, 3) := by decide +kernel
theorem dX3_takeKind_15 : decode cX3_takeKind 15 = .ok (.pop, 1) := by decide +kernel
end
section
theorem dX3_takeKind_16 : decode cX3_takeKind 16 = .ok (.goto 7, 3) := by decide +kernel
theorem dX3_takeKind_19 : decode cX3_takeKind 19 = .ok (.aload_n 0, 1) := by decide +kernel
theorem dX3_takeKind_20 : decode cX3_takeKind 20 = .ok (.invokevirtual 40, 3) := by decide +kernel
theorem dX3_takeKind_23 : decode cX3_takeKind 23 = .ok (.iload_n 1, 1) := by decide +kernel
theorem dX3_takeKind_24 : decode cX3_takeKind 24 = .ok (.ireturn, 1) := by decide +kernel
theorem dX3_takeMark_0 : decode cX3_takeMark 0 = .ok (.aload_n 0, 1) := by decide +kernel
theorem dX3_takeMark_1 : decode cX3_takeMark 1 = .ok (.getfield 43, 3) := by decide +kernel
theorem dX3_takeMark_4 : decode cX3_takeMark 4 = .ok (.iconst 3, 1) := by decide +kernel
theorem dX3_takeMark_5 : decode cX3_takeMark 5 = .ok (.if_icmp .eq 8, 3) := by decide +kernel
theorem dX3_takeMark_8 : decode cX3_takeMark 8 = .ok (.aload_n 0, 1) := by decide +kernel
theorem dX3_takeMark_9 : decode cX3_takeMark 9 = .ok (.invokevirtual 76, 3) := by decide +kernel
theorem dX3_takeMark_12 : decode cX3_takeMark 12 = .ok (.ireturn, 1) := by decide +kernel
theorem dX3_takeMark_13 : decode cX3_takeMark 13 = .ok (.aload_n 0, 1) := by decide +kernel
theorem dX3_takeMark_14 : decode cX3_takeMark 14 = .ok (.invokevirtual 40, 3) := by decide +kernel
theorem dX3_takeMark_17 : decode cX3_takeMark 17 = .ok (.iconst 1, 1) := by decide +kernel
theorem dX3_takeMark_18 : decode cX3_takeMark 18 = .ok (.ireturn, 1) := by decide +kernel
theorem dX3_isYear_0 : decode cX3_isYear 0 = .ok (.aload_n 0, 1) := by decide +kernel
theorem dX3_isYear_1 : decode cX3_isYear 1 = .ok (.getfield 15, 3) := by decide +kernel
theorem dX3_isYear_4 : decode cX3_isYear 4 = .ok (.getfield 79, 3) := by decide +kernel
theorem dX3_isYear_7 : decode cX3_isYear 7 = .ok (.ifCond .le 8, 3) := by decide +kernel
theorem dX3_isYear_10 : decode cX3_isYear 10 = .ok (.aload_n 0, 1) := by decide +kernel
theorem dX3_isYear_11 : decode cX3_isYear 11 = .ok (.invokevirtual 76, 3) := by decide +kernel
theorem dX3_isYear_14 : decode cX3_isYear 14 = .ok (.ireturn, 1) := by decide +kernel
theorem dX3_isYear_15 : decode cX3_isYear 15 = .ok (.aload_n 0, 1) := by decide +kernel
theorem dX3_isYear_16 : decode cX3_isYear 16 = .ok (.invokevirtual 40, 3) := by decide +kernel
theorem dX3_isYear_19 : decode cX3_isYear 19 = .ok (.aload_n 0, 1) := by decide +kernel
theorem dX3_isYear_20 : decode cX3_isYear 20 = .ok (.bipush 10, 2) := by decide +kernel
theorem dX3_isYear_22 : decode cX3_isYear 22 = .ok (.bipush 60, 2) := by decide +kernel
theorem dX3_isYear_24 : decode cX3_isYear 24 = .ok (.invokevirtual 126, 3) := by decide +kernel
theorem dX3_isYear_27 : decode cX3_isYear 27 = .ok (.istore_n 1, 1) := by decide +kernel
theorem dX3_isYear_28 : decode cX3_isYear 28 = .ok (.iload_n 1, 1) := by decide +kernel
theorem dX3_isYear_29 : decode cX3_isYear 29 = .ok (.bipush (-9), 2) := by decide +kernel
theorem dX3_isYear_31 : decode cX3_isYear 31 = .ok (.if_icmp .ne 5, 3) := by decide +kernel
theorem dX3_isYear_34 : decode cX3_isYear 34 = .ok (.iconst 0, 1) := by decide +kernel
theorem dX3_isYear_35 : decode cX3_isYear 35 = .ok (.ireturn, 1) := by decide +kernel
theorem dX3_isYear_36 : decode cX3_isYear 36 = .ok (.aload_n 0, 1) := by decide +kernel
theorem dX3_isYear_37 : decode cX3_isYear 37 = .ok (.getfield 15, 3) := by decide +kernel
theorem dX3_isYear_40 : decode cX3_isYear 40 = .ok (.iload_n 1, 1) := by decide +kernel
theorem dX3_isYear_41 : decode cX3_isYear 41 = .ok (.putfield 129, 3) := by decide +kernel
theorem dX3_isYear_44 : decode cX3_isYear 44 = .ok (.aload_n 0, 1) := by decide +kernel
theorem dX3_isYear_45 : decode cX3_isYear 45 = .ok (.invokevirtual 131, 3) := by decide +kernel
theorem dX3_isYear_48 : decode cX3_isYear 48 = .ok (.ireturn, 1) := by decide +kernel
theorem dX3_isEvery_0 : decode cX3_isEvery 0 = .ok (.aload_n 0, 1) := by decide +kernel
theorem dX3_isEvery_1 : decode cX3_isEvery 1 = .ok (.invokevirtual 40, 3) := by decide +kernel
theorem dX3_isEvery_4 : decode cX3_isEvery 4 = .ok (.aload_n 0, 1) := by decide +kernel
theorem dX3_isEvery_5 : decode cX3_isEvery 5 = .ok (.iconst 1, 1) := by decide +kernel
theorem dX3_isEvery_6 : decode cX3_isEvery 6 = .ok (.bipush 60, 2) := by decide +kernel
theorem dX3_isEvery_8 : decode cX3_isEvery 8 = .ok (.invokevirtual 126, 3) := by decide +kernel
theorem dX3_isEvery_11 : decode cX3_isEvery 11 = .ok (.istore_n 1, 1) := by decide +kernel
theorem dX3_isEvery_12 : decode cX3_isEvery 12 = .ok (.iload_n 1, 1) := by decide +kernel
theorem dX3_isEvery_13 : decode cX3_isEvery 13 = .ok (.bipush (-9), 2) := by decide +kernel
theorem dX3_isEvery_15 : decode cX3_isEvery 15 = .ok (.if_icmp .eq 12, 3) := by decide +kernel
theorem dX3_isEvery_18 : decode cX3_isEvery 18 = .ok (.aload_n 0, 1) := by decide +kernel
theorem dX3_isEvery_19 : decode cX3_isEvery 19 = .ok (.ldc 134, 2) := by decide +kernel
theorem dX3_isEvery_21 : decode cX3_isEvery 21 = .ok (.invokevirtual 136, 3) := by decide +kernel
theorem dX3_isEvery_24 : decode cX3_isEvery 24 = .ok (.ifCond .ne 5, 3) := by decide +kernel
theorem dX3_isEvery_27 : decode cX3_isEvery 27 = .ok (.iconst 0, 1) := by decide +kernel
theorem dX3_isEvery_28 : decode cX3_isEvery 28 = .ok (.ireturn, 1) := by decide +kernel
theorem dX3_isEvery_29 : decode cX3_isEvery 29 = .ok (.aload_n 0, 1) := by decide +kernel
theorem dX3_isEvery_30 : decode cX3_isEvery 30 = .ok (.iconst 0, 1) := by decide +kernel
theorem dX3_isEvery_31 : decode cX3_isEvery 31 = .ok (.bipush 59, 2) := by decide +kernel
theorem dX3_isEvery_33 : decode cX3_isEvery 33 = .ok (.invokevirtual 126, 3) := by decide +kernel
theorem dX3_isEvery_36 : decode cX3_isEvery 36 = .ok (.istore_n 2, 1) := by decide +kernel
theorem dX3_isEvery_37 : decode cX3_isEvery 37 = .ok (.iload_n 2, 1) := by decide +kernel
theorem dX3_isEvery_38 : decode cX3_isEvery 38 = .ok (.bipush (-9), 2) := by decide +kernel
theorem dX3_isEvery_40 : decode cX3_isEvery 40 = .ok (.if_icmp .ne 8, 3) := by decide +kernel
theorem dX3_isEvery_43 : decode cX3_isEvery 43 = .ok (.bipush (-9), 2) := by decide +kernel
theorem dX3_isEvery_45 : decode cX3_isEvery 45 = .ok (.goto 7, 3) := by decide +kernel
theorem dX3_isEvery_48 : decode cX3_isEvery 48 = .ok (.aload_n 0, 1) := by decide +kernel
theorem dX3_isEvery_49 : decode cX3_isEvery 49 = .ok (.invokevirtual 139, 3) := by decide +kernel
theorem dX3_isEvery_52 : decode cX3_isEvery 52 = .ok (.istore_n 3, 1) := by decide +kernel
theorem dX3_isEvery_53 : decode cX3_isEvery 53 = .ok (.iload_n 3, 1) := by decide +kernel
theorem dX3_isEvery_54 : decode cX3_isEvery 54 = .ok (.bipush (-9), 2) := by decide +kernel
theorem dX3_isEvery_56 : decode cX3_isEvery 56 = .ok (.if_icmp .ne 5, 3) := by decide +kernel
theorem dX3_isEvery_59 : decode cX3_isEvery 59 = .ok (.iconst 0, 1) := by decide +kernel
theorem dX3_isEvery_60 : decode cX3_isEvery 60 = .ok (.ireturn, 1) := by decide +kernel
theorem dX3_isEvery_61 : decode cX3_isEvery 61 = .ok (.iconst 0, 1) := by decide +kernel
theorem dX3_isEvery_62 : decode cX3_isEvery 62 = .ok (.istore 4, 2) := by decide +kernel
theorem dX3_isEvery_64 : decode cX3_isEvery 64 = .ok (.iload 4, 2) := by decide +kernel
theorem dX3_isEvery_66 : decode cX3_isEvery 66 = .ok (.bipush 60, 2) := by decide +kernel
theorem dX3_isEvery_68 : decode cX3_isEvery 68 = .ok (.if_icmp .ge 34, 3) := by decide +kernel
theorem dX3_isEvery_71 : decode cX3_isEvery 71 = .ok (.iload_n 2, 1) := by decide +kernel
theorem dX3_isEvery_72 : decode cX3_isEvery 72 = .ok (.iload 4, 2) := by decide +kernel
theorem dX3_isEvery_74 : decode cX3_isEvery 74 = .ok (.iload_n 1, 1) := by decide +kernel
theorem dX3_isEvery_75 : decode cX3_isEvery 75 = .ok (.imul, 1) := by decide +kernel
theorem dX3_isEvery_76 : decode cX3_isEvery 76 = .ok (.iadd, 1) := by decide +kernel
theorem dX3_isEvery_77 : decode cX3_isEvery 77 = .ok (.bipush 60, 2) := by decide +kernel
theorem dX3_isEvery_79 : decode cX3_isEvery 79 = .ok (.if_icmp .ge 23, 3) := by decide +kernel
theorem dX3_isEvery_82 : decode cX3_isEvery 82 = .ok (.aload_n 0, 1) := by decide +kernel
theorem dX3_isEvery_83 : decode cX3_isEvery 83 = .ok (.getfield 15, 3) := by decide +kernel
theorem dX3_isEvery_86 : decode cX3_isEvery 86 = .ok (.iload_n 2, 1) := by decide +kernel
theorem dX3_isEvery_87 : decode cX3_isEvery 87 = .ok (.iload 4, 2) := by decide +kernel
theorem dX3_isEvery_89 : decode cX3_isEvery 89 = .ok (.iload_n 1, 1) := by decide +kernel
theorem dX3_isEvery_90 : decode cX3_isEvery 90 = .ok (.imul, 1) := by decide +kernel
theorem dX3_isEvery_91 : decode cX3_isEvery 91 = .ok (.iadd, 1) := by decide +kernel
theorem dX3_isEvery_92 : decode cX3_isEvery 92 = .ok (.iload_n 3, 1) := by decide +kernel
theorem dX3_isEvery_93 : decode cX3_isEvery 93 = .ok (.invokevirtual 142, 3) := by decide +kernel
theorem dX3_isEvery_96 : decode cX3_isEvery 96 = .ok (.iinc 4 1, 3) := by decide +kernel
theorem dX3_isEvery_99 : decode cX3_isEvery 99 = .ok (.goto (-35), 3) := by decide +kernel
theorem dX3_isEvery_102 : decode cX3_isEvery 102 = .ok (.aload_n 0, 1) := by decide +kernel
theorem dX3_isEvery_103 : decode cX3_isEvery 103 = .ok (.invokevirtual 131, 3) := by decide +kernel
theorem dX3_isEvery_106 : decode cX3_isEvery 106 = .ok (.ireturn, 1) := by decide +kernel
theorem dX3_isDays_0 : decode cX3_isDays 0 = .ok (.aload_n 0, 1) := by decide +kernel
theorem dX3_isDays_1 : decode cX3_isDays 1 = .ok (.invokevirtual 40, 3) := by decide +kernel
theorem dX3_isDays_4 : decode cX3_isDays 4 = .ok (.aload_n 0, 1) := by decide +kernel
theorem dX3_isDays_5 : decode cX3_isDays 5 = .ok (.iconst 0, 1) := by decide +kernel
theorem dX3_isDays_6 : decode cX3_isDays 6 = .ok (.bipush 59, 2) := by decide +kernel
theorem dX3_isDays_8 : decode cX3_isDays 8 = .ok (.invokevirtual 126, 3) := by decide +kernel
theorem dX3_isDays_11 : decode cX3_isDays 11 = .ok (.istore_n 1, 1) := by decide +kernel
theorem dX3_isDays_12 : decode cX3_isDays 12 = .ok (.iload_n 1, 1) := by decide +kernel
theorem dX3_isDays_13 : decode cX3_isDays 13 = .ok (.bipush (-9), 2) := by decide +kernel
theorem dX3_isDays_15 : decode cX3_isDays 15 = .ok (.if_icmp .ne 8, 3) := by decide +kernel
theorem dX3_isDays_18 : decode cX3_isDays 18 = .ok (.bipush (-9), 2) := by decide +kernel
theorem dX3_isDays_20 : decode cX3_isDays 20 = .ok (.goto 10, 3) := by decide +kernel
theorem dX3_isDays_23 : decode cX3_isDays 23 = .ok (.aload_n 0, 1) := by decide +kernel
theorem dX3_isDays_24 : decode cX3_isDays 24 = .ok (.iload_n 1, 1) := by decide +kernel
theorem dX3_isDays_25 : decode cX3_isDays 25 = .ok (.bipush 59, 2) := by decide +kernel
theorem dX3_isDays_27 : decode cX3_isDays 27 = .ok (.invokevirtual 126, 3) := by decide +kernel
theorem dX3_isDays_30 : decode cX3_isDays 30 = .ok (.istore_n 2, 1) := by decide +kernel
theorem dX3_isDays_31 : decode cX3_isDays 31 = .ok (.iload_n 2, 1) := by decide +kernel
theorem dX3_isDays_32 : decode cX3_isDays 32 = .ok (.bipush (-9), 2) := by decide +kernel
theorem dX3_isDays_34 : decode cX3_isDays 34 = .ok (.if_icmp .ne 8, 3) := by decide +kernel
theorem dX3_isDays_37 : decode cX3_isDays 37 = .ok (.bipush (-9), 2) := by decide +kernel
theorem dX3_isDays_39 : decode cX3_isDays 39 = .ok (.goto 7, 3) := by decide +kernel
theorem dX3_isDays_42 : decode cX3_isDays 42 = .ok (.aload_n 0, 1) := by decide +kernel
theorem dX3_isDays_43 : decode cX3_isDays 43 = .ok (.invokevirtual 139, 3) := by decide +kernel
theorem dX3_isDays_46 : decode cX3_isDays 46 = .ok (.istore_n 3, 1) := by decide +kernel
theorem dX3_isDays_47 : decode cX3_isDays 47 = .ok (.iload_n 3, 1) := by decide +kernel
theorem dX3_isDays_48 : decode cX3_isDays 48 = .ok (.bipush (-9), 2) := by decide +kernel
theorem dX3_isDays_50 : decode cX3_isDays 50 = .ok (.if_icmp .ne 5, 3) := by decide +kernel
theorem dX3_isDays_53 : decode cX3_isDays 53 = .ok (.iconst 0, 1) := by decide +kernel
theorem dX3_isDays_54 : decode cX3_isDays 54 = .ok (.ireturn, 1) := by decide +kernel
theorem dX3_isDays_55 : decode cX3_isDays 55 = .ok (.iload_n 1, 1) := by decide +kernel
theorem dX3_isDays_56 : decode cX3_isDays 56 = .ok (.istore 4, 2) := by decide +kernel
theorem dX3_isDays_58 : decode cX3_isDays 58 = .ok (.iload 4, 2) := by decide +kernel
theorem dX3_isDays_60 : decode cX3_isDays 60 = .ok (.iload_n 2, 1) := by decide +kernel
theorem dX3_isDays_61 : decode cX3_isDays 61 = .ok (.if_icmp .gt 26, 3) := by decide +kernel
theorem dX3_isDays_64 : decode cX3_isDays 64 = .ok (.iload 4, 2) := by decide +kernel
theorem dX3_isDays_66 : decode cX3_isDays 66 = .ok (.bipush 60, 2) := by decide +kernel
theorem dX3_isDays_68 : decode cX3_isDays 68 = .ok (.if_icmp .ge 19, 3) := by decide +kernel
theorem dX3_isDays_71 : decode cX3_isDays 71 = .ok (.aload_n 0, 1) := by decide +kernel
theorem dX3_isDays_72 : decode cX3_isDays 72 = .ok (.getfield 15, 3) := by decide +kernel
theorem dX3_isDays_75 : decode cX3_isDays 75 = .ok (.iload 4, 2) := by decide +kernel
theorem dX3_isDays_77 : decode cX3_isDays 77 = .ok (.iload_n 3, 1) := by decide +kernel
theorem dX3_isDays_78 : decode cX3_isDays 78 = .ok (.invokevirtual 142, 3) := by decide +kernel
theorem dX3_isDays_81 : decode cX3_isDays 81 = .ok (.iinc 4 1, 3) := by decide +kernel
theorem dX3_isDays_84 : decode cX3_isDays 84 = .ok (.goto (-26), 3) := by decide +kernel
theorem dX3_isDays_87 : decode cX3_isDays 87 = .ok (.aload_n 0, 1) := by decide +kernel
theorem dX3_isDays_88 : decode cX3_isDays 88 = .ok (.invokevirtual 131, 3) := by decide +kernel
theorem dX3_isDays_91 : decode cX3_isDays 91 = .ok (.ireturn, 1) := by decide +kernel
theorem dX3_isBillItem_0 : decode cX3_isBillItem 0 = .ok (.aload_n 0, 1) := by decide +kernel
theorem dX3_isBillItem_1 : decode cX3_isBillItem 1 = .ok (.getfield 15, 3) := by decide +kernel
theorem dX3_isBillItem_4 : decode cX3_isBillItem 4 = .ok (.getfield 146, 3) := by decide +kernel
theorem dX3_isBillItem_7 : decode cX3_isBillItem 7 = .ok (.iconst 2, 1) := by decide +kernel
theorem dX3_isBillItem_8 : decode cX3_isBillItem 8 = .ok (.if_icmp .lt 8, 3) := by decide +kernel
theorem dX3_isBillItem_11 : decode cX3_isBillItem 11 = .ok (.aload_n 0, 1) := by decide +kernel
theorem dX3_isBillItem_12 : decode cX3_isBillItem 12 = .ok (.invokevirtual 76, 3) := by decide +kernel
theorem dX3_isBillItem_15 : decode cX3_isBillItem 15 = .ok (.ireturn, 1) := by decide +kernel
theorem dX3_isBillItem_16 : decode cX3_isBillItem 16 = .ok (.aload_n 0, 1) := by decide +kernel
theorem dX3_isBillItem_17 : decode cX3_isBillItem 17 = .ok (.invokevirtual 40, 3) := by decide +kernel
theorem dX3_isBillItem_20 : decode cX3_isBillItem 20 = .ok (.aload_n 0, 1) := by decide +kernel
theorem dX3_isBillItem_21 : decode cX3_isBillItem 21 = .ok (.getfield 15, 3) := by decide +kernel
theorem dX3_isBillItem_24 : decode cX3_isBillItem 24 = .ok (.dup, 1) := by decide +kernel
theorem dX3_isBillItem_25 : decode cX3_isBillItem 25 = .ok (.getfield 146, 3) := by decide +kernel
theorem dX3_isBillItem_28 : decode cX3_isBillItem 28 = .ok (.iconst 1, 1) := by decide +kernel
theorem dX3_isBillItem_29 : decode cX3_isBillItem 29 = .ok (.iadd, 1) := by decide +kernel
theorem dX3_isBillItem_30 : decode cX3_isBillItem 30 = .ok (.putfield 146, 3) := by decide +kernel
theorem dX3_isBillItem_33 : decode cX3_isBillItem 33 = .ok (.aload_n 0, 1) := by decide +kernel
theorem dX3_isBillItem_34 : decode cX3_isBillItem 34 = .ok (.invokevirtual 131, 3) := by decide +kernel
theorem dX3_isBillItem_37 : decode cX3_isBillItem 37 = .ok (.ireturn, 1) := by decide +kernel
theorem dX3_isStep_0 : decode cX3_isStep 0 = .ok (.aload_n 0, 1) := by decide +kernel
theorem dX3_isStep_1 : decode cX3_isStep 1 = .ok (.getfield 15, 3) := by decide +kernel
theorem dX3_isStep_4 : decode cX3_isStep 4 = .ok (.getfield 146, 3) := by decide +kernel
theorem dX3_isStep_7 : decode cX3_isStep 7 = .ok (.ifCond .eq 23, 3) := by decide +kernel
theorem dX3_isStep_10 : decode cX3_isStep 10 = .ok (.aload_n 0, 1) := by decide +kernel
theorem dX3_isStep_11 : decode cX3_isStep 11 = .ok (.getfield 15, 3) := by decide +kernel
theorem dX3_isStep_14 : decode cX3_isStep 14 = .ok (.aload_n 0, 1) := by decide +kernel
theorem dX3_isStep_15 : decode cX3_isStep 15 = .ok (.getfield 15, 3) := by decide +kernel
theorem dX3_isStep_18 : decode cX3_isStep 18 = .ok (.getfield 146, 3) := by decide +kernel
theorem dX3_isStep_21 : decode cX3_isStep 21 = .ok (.iconst 1, 1) := by decide +kernel
theorem dX3_isStep_22 : decode cX3_isStep 22 = .ok (.isub, 1) := by decide +kernel
theorem dX3_isStep_23 : decode cX3_isStep 23 = .ok (.invokevirtual 149, 3) := by decide +kernel
theorem dX3_isStep_26 : decode cX3_isStep 26 = .ok (.iconst 4, 1) := by decide +kernel
theorem dX3_isStep_27 : decode cX3_isStep 27 = .ok (.if_icmp .lt 8, 3) := by decide +kernel
theorem dX3_isStep_30 : decode cX3_isStep 30 = .ok (.aload_n 0, 1) := by decide +kernel
theorem dX3_isStep_31 : decode cX3_isStep 31 = .ok (.invokevirtual 76, 3) := by decide +kernel
theorem dX3_isStep_34 : decode cX3_isStep 34 = .ok (.ireturn, 1) := by decide +kernel
theorem dX3_isStep_35 : decode cX3_isStep 35 = .ok (.aload_n 0, 1) := by decide +kernel
theorem dX3_isStep_36 : decode cX3_isStep 36 = .ok (.invokevirtual 40, 3) := by decide +kernel
theorem dX3_isStep_39 : decode cX3_isStep 39 = .ok (.aload_n 0, 1) := by decide +kernel
theorem dX3_isStep_40 : decode cX3_isStep 40 = .ok (.getfield 15, 3) := by decide +kernel
theorem dX3_isStep_43 : decode cX3_isStep 43 = .ok (.invokevirtual 152, 3) := by decide +kernel
theorem dX3_isStep_46 : decode cX3_isStep 46 = .ok (.astore_n 1, 1) := by decide +kernel
theorem dX3_isStep_47 : decode cX3_isStep 47 = .ok (.aload_n 0, 1) := by decide +kernel
theorem dX3_isStep_48 : decode cX3_isStep 48 = .ok (.aload_n 1, 1) := by decide +kernel
theorem dX3_isStep_49 : decode cX3_isStep 49 = .ok (.invokevirtual 156, 3) := by decide +kernel
theorem dX3_isStep_52 : decode cX3_isStep 52 = .ok (.ifCond .eq 12, 3) := by decide +kernel
theorem dX3_isStep_55 : decode cX3_isStep 55 = .ok (.aload_n 0, 1) := by decide +kernel
theorem dX3_isStep_56 : decode cX3_isStep 56 = .ok (.ldc 160, 2) := by decide +kernel
theorem dX3_isStep_58 : decode cX3_isStep 58 = .ok (.invokevirtual 136, 3) := by decide +kernel
theorem dX3_isStep_61 : decode cX3_isStep 61 = .ok (.ifCond .ne 5, 3) := by decide +kernel
theorem dX3_isStep_64 : decode cX3_isStep 64 = .ok (.iconst 0, 1) := by decide +kernel
theorem dX3_isStep_65 : decode cX3_isStep 65 = .ok (.ireturn, 1) := by decide +kernel
theorem dX3_isStep_66 : decode cX3_isStep 66 = .ok (.aload_n 1, 1) := by decide +kernel
theorem dX3_isStep_67 : decode cX3_isStep 67 = .ok (.aload_n 0, 1) := by decide +kernel
theorem dX3_isStep_68 : decode cX3_isStep 68 = .ok (.iconst 0, 1) := by decide +kernel
theorem dX3_isStep_69 : decode cX3_isStep 69 = .ok (.bipush 59, 2) := by decide +kernel
theorem dX3_isStep_71 : decode cX3_isStep 71 = .ok (.invokevirtual 126, 3) := by decide +kernel
theorem dX3_isStep_74 : decode cX3_isStep 74 = .ok (.putfield 162, 3) := by decide +kernel
theorem dX3_isStep_77 : decode cX3_isStep 77 = .ok (.aload_n 1, 1) := by decide +kernel
theorem dX3_isStep_78 : decode cX3_isStep 78 = .ok (.getfield 162, 3) := by decide +kernel
theorem dX3_isStep_81 : decode cX3_isStep 81 = .ok (.bipush (-9), 2) := by decide +kernel
theorem dX3_isStep_83 : decode cX3_isStep 83 = .ok (.if_icmp .ne 5, 3) := by decide +kernel
theorem dX3_isStep_86 : decode cX3_isStep 86 = .ok (.iconst 0, 1) := by decide +kernel
theorem dX3_isStep_87 : decode cX3_isStep 87 = .ok (.ireturn, 1) := by decide +kernel
theorem dX3_isStep_88 : decode cX3_isStep 88 = .ok (.aload_n 1, 1) := by decide +kernel
theorem dX3_isStep_89 : decode cX3_isStep 89 = .ok (.aload_n 0, 1) := by decide +kernel
theorem dX3_isStep_90 : decode cX3_isStep 90 = .ok (.ldc 117, 2) := by decide +kernel
theorem dX3_isStep_92 : decode cX3_isStep 92 = .ok (.invokevirtual 166, 3) := by decide +kernel
theorem dX3_isStep_95 : decode cX3_isStep 95 = .ok (.putfield 169, 3) := by decide +kernel
theorem dX3_isStep_98 : decode cX3_isStep 98 = .ok (.aload_n 0, 1) := by decide +kernel
theorem dX3_isStep_99 : decode cX3_isStep 99 = .ok (.ldc 173, 2) := by decide +kernel
theorem dX3_isStep_101 : decode cX3_isStep 101 = .ok (.invokevirtual 166, 3) := by decide +kernel
theorem dX3_isStep_104 : decode cX3_isStep 104 = .ok (.ifCond .eq 25, 3) := by decide +kernel
theorem dX3_isStep_107 : decode cX3_isStep 107 = .ok (.aload_n 1, 1) := by decide +kernel
theorem dX3_isStep_108 : decode cX3_isStep 108 = .ok (.aload_n 0, 1) := by decide +kernel
theorem dX3_isStep_109 : decode cX3_isStep 109 = .ok (.iconst 1, 1) := by decide +kernel
theorem dX3_isStep_110 : decode cX3_isStep 110 = .ok (.bipush 60, 2) := by decide +kernel
theorem dX3_isStep_112 : decode cX3_isStep 112 = .ok (.invokevirtual 126, 3) := by decide +kernel
theorem dX3_isStep_115 : decode cX3_isStep 115 = .ok (.putfield 175, 3) := by decide +kernel
theorem dX3_isStep_118 : decode cX3_isStep 118 = .ok (.aload_n 1, 1) := by decide +kernel
theorem dX3_isStep_119 : decode cX3_isStep 119 = .ok (.getfield 175, 3) := by decide +kernel
theorem dX3_isStep_122 : decode cX3_isStep 122 = .ok (.bipush (-9), 2) := by decide +kernel
theorem dX3_isStep_124 : decode cX3_isStep 124 = .ok (.if_icmp .ne 5, 3) := by decide +kernel
theorem dX3_isStep_127 : decode cX3_isStep 127 = .ok (.iconst 0, 1) := by decide +kernel
theorem dX3_isStep_128 : decode cX3_isStep 128 = .ok (.ireturn, 1) := by decide +kernel
theorem dX3_isStep_129 : decode cX3_isStep 129 = .ok (.aload_n 1, 1) := by decide +kernel
theorem dX3_isStep_130 : decode cX3_isStep 130 = .ok (.aload_n 0, 1) := by decide +kernel
theorem dX3_isStep_131 : decode cX3_isStep 131 = .ok (.ldc 177, 2) := by decide +kernel
theorem dX3_isStep_133 : decode cX3_isStep 133 = .ok (.invokevirtual 166, 3) := by decide +kernel
theorem dX3_isStep_136 : decode cX3_isStep 136 = .ok (.ifCond .eq 7, 3) := by decide +kernel
theorem dX3_isStep_139 : decode cX3_isStep 139 = .ok (.iconst 1, 1) := by decide +kernel
theorem dX3_isStep_140 : decode cX3_isStep 140 = .ok (.goto 4, 3) := by decide +kernel
theorem dX3_isStep_143 : decode cX3_isStep 143 = .ok (.iconst 0, 1) := by decide +kernel
theorem dX3_isStep_144 : decode cX3_isStep 144 = .ok (.putfield 179, 3) := by decide +kernel
theorem dX3_isStep_147 : decode cX3_isStep 147 = .ok (.aload_n 1, 1) := by decide +kernel
theorem dX3_isStep_148 : decode cX3_isStep 148 = .ok (.dup, 1) := by decide +kernel
theorem dX3_isStep_149 : decode cX3_isStep 149 = .ok (.getfield 179, 3) := by decide +kernel
theorem dX3_isStep_152 : decode cX3_isStep 152 = .ok (.aload_n 0, 1) := by decide +kernel
theorem dX3_isStep_153 : decode cX3_isStep 153 = .ok (.ldc 182, 2) := by decide +kernel
theorem dX3_isStep_155 : decode cX3_isStep 155 = .ok (.invokevirtual 166, 3) := by decide +kernel
theorem dX3_isStep_158 : decode cX3_isStep 158 = .ok (.ifCond .eq 7, 3) := by decide +kernel
theorem dX3_isStep_161 : decode cX3_isStep 161 = .ok (.iconst 2, 1) := by decide +kernel
theorem dX3_isStep_162 : decode cX3_isStep 162 = .ok (.goto 4, 3) := by decide +kernel
theorem dX3_isStep_165 : decode cX3_isStep 165 = .ok (.iconst 0, 1) := by decide +kernel
theorem dX3_isStep_166 : decode cX3_isStep 166 = .ok (.ior, 1) := by decide +kernel
theorem dX3_isStep_167 : decode cX3_isStep 167 = .ok (.putfield 179, 3) := by decide +kernel
theorem dX3_isStep_170 : decode cX3_isStep 170 = .ok (.aload_n 0, 1) := by decide +kernel
theorem dX3_isStep_171 : decode cX3_isStep 171 = .ok (.invokevirtual 131, 3) := by decide +kernel
theorem dX3_isStep_174 : decode cX3_isStep 174 = .ok (.ireturn, 1) := by decide +kernel
theorem dX3_areKinds_0 : decode cX3_areKinds 0 = .ok (.iconst 0, 1) := by decide +kernel
theorem dX3_areKinds_1 : decode cX3_areKinds 1 = .ok (.istore_n 2, 1) := by decide +kernel
theorem dX3_areKinds_2 : decode cX3_areKinds 2 = .ok (.iload_n 2, 1) := by decide +kernel
theorem dX3_areKinds_3 : decode cX3_areKinds 3 = .ok (.iconst 3, 1) := by decide +kernel
theorem dX3_areKinds_4 : decode cX3_areKinds 4 = .ok (.if_icmp .gt 53, 3) := by decide +kernel
theorem dX3_areKinds_7 : decode cX3_areKinds 7 = .ok (.aload_n 0, 1) := by decide +kernel
theorem dX3_areKinds_8 : decode cX3_areKinds 8 = .ok (.invokevirtual 123, 3) := by decide +kernel
theorem dX3_areKinds_11 : decode cX3_areKinds 11 = .ok (.bipush (-9), 2) := by decide +kernel
theorem dX3_areKinds_13 : decode cX3_areKinds 13 = .ok (.if_icmp .eq 44, 3) := by decide +kernel
theorem dX3_areKinds_16 : decode cX3_areKinds 16 = .ok (.iconst 1, 1) := by decide +kernel
theorem dX3_areKinds_17 : decode cX3_areKinds 17 = .ok (.aload_n 0, 1) := by decide +kernel
theorem dX3_areKinds_18 : decode cX3_areKinds 18 = .ok (.invokevirtual 123, 3) := by decide +kernel
theorem dX3_areKinds_21 : decode cX3_areKinds 21 = .ok (.ishl, 1) := by decide +kernel
theorem dX3_areKinds_22 : decode cX3_areKinds 22 = .ok (.istore_n 3, 1) := by decide +kernel
theorem dX3_areKinds_23 : decode cX3_areKinds 23 = .ok (.aload_n 1, 1) := by decide +kernel
theorem dX3_areKinds_24 : decode cX3_areKinds 24 = .ok (.getfield 184, 3) := by decide +kernel
theorem dX3_areKinds_27 : decode cX3_areKinds 27 = .ok (.iload_n 3, 1) := by decide +kernel
theorem dX3_areKinds_28 : decode cX3_areKinds 28 = .ok (.iand, 1) := by decide +kernel
theorem dX3_areKinds_29 : decode cX3_areKinds 29 = .ok (.ifCond .eq 8, 3) := by decide +kernel
theorem dX3_areKinds_32 : decode cX3_areKinds 32 = .ok (.aload_n 0, 1) := by decide +kernel
theorem dX3_areKinds_33 : decode cX3_areKinds 33 = .ok (.invokevirtual 76, 3) := by decide +kernel
theorem dX3_areKinds_36 : decode cX3_areKinds 36 = .ok (.ireturn, 1) := by decide +kernel
theorem dX3_areKinds_37 : decode cX3_areKinds 37 = .ok (.aload_n 1, 1) := by decide +kernel
theorem dX3_areKinds_38 : decode cX3_areKinds 38 = .ok (.dup, 1) := by decide +kernel
theorem dX3_areKinds_39 : decode cX3_areKinds 39 = .ok (.getfield 184, 3) := by decide +kernel
theorem dX3_areKinds_42 : decode cX3_areKinds 42 = .ok (.iload_n 3, 1) := by decide +kernel
theorem dX3_areKinds_43 : decode cX3_areKinds 43 = .ok (.ior, 1) := by decide +kernel
theorem dX3_areKinds_44 : decode cX3_areKinds 44 = .ok (.putfield 184, 3) := by decide +kernel
theorem dX3_areKinds_47 : decode cX3_areKinds 47 = .ok (.aload_n 0, 1) := by decide +kernel
theorem dX3_areKinds_48 : decode cX3_areKinds 48 = .ok (.invokevirtual 40, 3) := by decide +kernel
theorem dX3_areKinds_51 : decode cX3_areKinds 51 = .ok (.iinc 2 1, 3) := by decide +kernel
theorem dX3_areKinds_54 : decode cX3_areKinds 54 = .ok (.goto (-52), 3) := by decide +kernel
theorem dX3_areKinds_57 : decode cX3_areKinds 57 = .ok (.aload_n 1, 1) := by decide +kernel
theorem dX3_areKinds_58 : decode cX3_areKinds 58 = .ok (.getfield 184, 3) := by decide +kernel
theorem dX3_areKinds_61 : decode cX3_areKinds 61 = .ok (.ifCond .ne 10, 3) := by decide +kernel
theorem dX3_areKinds_64 : decode cX3_areKinds 64 = .ok (.aload_n 0, 1) := by decide +kernel
theorem dX3_areKinds_65 : decode cX3_areKinds 65 = .ok (.invokevirtual 76, 3) := by decide +kernel
theorem dX3_areKinds_68 : decode cX3_areKinds 68 = .ok (.ifCond .eq 7, 3) := by decide +kernel
theorem dX3_areKinds_71 : decode cX3_areKinds 71 = .ok (.iconst 1, 1) := by decide +kernel
theorem dX3_areKinds_72 : decode cX3_areKinds 72 = .ok (.goto 4, 3) := by decide +kernel
theorem dX3_areKinds_75 : decode cX3_areKinds 75 = .ok (.iconst 0, 1) := by decide +kernel
theorem dX3_areKinds_76 : decode cX3_areKinds 76 = .ok (.ireturn, 1) := by decide +kernel
theorem dX4_init_0 : decode cX4_init 0 = .ok (.aload_n 0, 1) := by decide +kernel
theorem dX4_init_1 : decode cX4_init 1 = .ok (.invokespecial 3, 3) := by decide +kernel
theorem dX4_init_4 : decode cX4_init 4 = .ok (.aload_n 0, 1) := by decide +kernel
theorem dX4_init_5 : decode cX4_init 5 = .ok (.bipush 54, 2) := by decide +kernel
theorem dX4_init_7 : decode cX4_init 7 = .ok (.newarray .int, 2) := by decide +kernel
theorem dX4_init_9 : decode cX4_init 9 = .ok (.putfield 9, 3) := by decide +kernel
theorem dX4_init_12 : decode cX4_init 12 = .ok (.return_, 1) := by decide +kernel
theorem dX4_addGroup_0 : decode cX4_addGroup 0 = .ok (.aload_n 0, 1) := by decide +kernel
theorem dX4_addGroup_1 : decode cX4_addGroup 1 = .ok (.getfield 15, 3) := by decide +kernel
theorem dX4_addGroup_4 : decode cX4_addGroup 4 = .ok (.bipush 9, 2) := by decide +kernel
theorem dX4_addGroup_6 : decode cX4_addGroup 6 = .ok (.if_icmp .lt 6, 3) := by decide +kernel
theorem dX4_addGroup_9 : decode cX4_addGroup 9 = .ok (.bipush (-3), 2) := by decide +kernel
theorem dX4_addGroup_11 : decode cX4_addGroup 11 = .ok (.ireturn, 1) := by decide +kernel
theorem dX4_addGroup_12 : decode cX4_addGroup 12 = .ok (.aload_n 0, 1) := by decide +kernel
theorem dX4_addGroup_13 : decode cX4_addGroup 13 = .ok (.getfield 15, 3) := by decide +kernel
theorem dX4_addGroup_16 : decode cX4_addGroup 16 = .ok (.istore_n 1, 1) := by decide +kernel
theorem dX4_addGroup_17 : decode cX4_addGroup 17 = .ok (.aload_n 0, 1) := by decide +kernel
theorem dX4_addGroup_18 : decode cX4_addGroup 18 = .ok (.dup, 1) := by decide +kernel
theorem dX4_addGroup_19 : decode cX4_addGroup 19 = .ok (.getfield 15, 3) := by decide +kernel
theorem dX4_addGroup_22 : decode cX4_addGroup 22 = .ok (.iconst 1, 1) := by decide +kernel
theorem dX4_addGroup_23 : decode cX4_addGroup 23 = .ok (.iadd, 1) := by decide +kernel
theorem dX4_addGroup_24 : decode cX4_addGroup 24 = .ok (.putfield 15, 3) := by decide +kernel
theorem dX4_addGroup_27 : decode cX4_addGroup 27 = .ok (.iload_n 1, 1) := by decide +kernel
theorem dX4_addGroup_28 : decode cX4_addGroup 28 = .ok (.ireturn, 1) := by decide +kernel
theorem dX4_hasGroup_0 : decode cX4_hasGroup 0 = .ok (.iload_n 1, 1) := by decide +kernel
theorem dX4_hasGroup_1 : decode cX4_hasGroup 1 = .ok (.ifCond .lt 15, 3) := by decide +kernel
theorem dX4_hasGroup_4 : decode cX4_hasGroup 4 = .ok (.iload_n 1, 1) := by decide +kernel
theorem dX4_hasGroup_5 : decode cX4_hasGroup 5 = .ok (.aload_n 0, 1) := by decide +kernel
theorem dX4_hasGroup_6 : decode cX4_hasGroup 6 = .ok (.getfield 15, 3) := by decide +kernel
theorem dX4_hasGroup_9 : decode cX4_hasGroup 9 = .ok (.if_icmp .ge 7, 3) := by decide +kernel
theorem dX4_hasGroup_12 : decode cX4_hasGroup 12 = .ok (.iconst 1, 1) := by decide +kernel
theorem dX4_hasGroup_13 : decode cX4_hasGroup 13 = .ok (.goto 4, 3) := by decide +kernel
theorem dX4_hasGroup_16 : decode cX4_hasGroup 16 = .ok (.iconst 0, 1) := by decide +kernel
theorem dX4_hasGroup_17 : decode cX4_hasGroup 17 = .ok (.ireturn, 1) := by decide +kernel
theorem dX4_setWish_0 : decode cX4_setWish 0 = .ok (.iload_n 1, 1) := by decide +kernel
theorem dX4_setWish_1 : decode cX4_setWish 1 = .ok (.bipush 6, 2) := by decide +kernel
theorem dX4_setWish_3 : decode cX4_setWish 3 = .ok (.imul, 1) := by decide +kernel
theorem dX4_setWish_4 : decode cX4_setWish 4 = .ok (.iload_n 2, 1) := by decide +kernel
theorem dX4_setWish_5 : decode cX4_setWish 5 = .ok (.iadd, 1) := by decide +kernel
theorem dX4_setWish_6 : decode cX4_setWish 6 = .ok (.istore 4, 2) := by decide +kernel
theorem dX4_setWish_8 : decode cX4_setWish 8 = .ok (.aload_n 0, 1) := by decide +kernel
theorem dX4_setWish_9 : decode cX4_setWish 9 = .ok (.getfield 9, 3) := by decide +kernel
theorem dX4_setWish_12 : decode cX4_setWish 12 = .ok (.iload 4, 2) := by decide +kernel
theorem dX4_setWish_14 : decode cX4_setWish 14 = .ok (.invokestatic 19, 3) := by decide +kernel
theorem dX4_setWish_17 : decode cX4_setWish 17 = .ok (.istore 5, 2) := by decide +kernel
theorem dX4_setWish_19 : decode cX4_setWish 19 = .ok (.aload_n 0, 1) := by decide +kernel
theorem dX4_setWish_20 : decode cX4_setWish 20 = .ok (.getfield 9, 3) := by decide +kernel
theorem dX4_setWish_23 : decode cX4_setWish 23 = .ok (.iload 4, 2) := by decide +kernel
theorem dX4_setWish_25 : decode cX4_setWish 25 = .ok (.iload_n 3, 1) := by decide +kernel
theorem dX4_setWish_26 : decode cX4_setWish 26 = .ok (.invokestatic 23, 3) := by decide +kernel
theorem dX4_setWish_29 : decode cX4_setWish 29 = .ok (.iload 5, 2) := by decide +kernel
theorem dX4_setWish_31 : decode cX4_setWish 31 = .ok (.ireturn, 1) := by decide +kernel
theorem dX4_doPass_0 : decode cX4_doPass 0 = .ok (.iconst 0, 1) := by decide +kernel
theorem dX4_doPass_1 : decode cX4_doPass 1 = .ok (.istore_n 2, 1) := by decide +kernel
theorem dX4_doPass_2 : decode cX4_doPass 2 = .ok (.iconst 0, 1) := by decide +kernel
theorem dX4_doPass_3 : decode cX4_doPass 3 = .ok (.istore_n 3, 1) := by decide +kernel
theorem dX4_doPass_4 : decode cX4_doPass 4 = .ok (.iload_n 3, 1) := by decide +kernel
theorem dX4_doPass_5 : decode cX4_doPass 5 = .ok (.aload_n 0, 1) := by decide +kernel
theorem dX4_doPass_6 : decode cX4_doPass 6 = .ok (.getfield 15, 3) := by decide +kernel
theorem dX4_doPass_9 : decode cX4_doPass 9 = .ok (.if_icmp .ge 36, 3) := by decide +kernel
theorem dX4_doPass_12 : decode cX4_doPass 12 = .ok (.aload_n 0, 1) := by decide +kernel
theorem dX4_doPass_13 : decode cX4_doPass 13 = .ok (.iload_n 3, 1) := by decide +kernel
theorem dX4_doPass_14 : decode cX4_doPass 14 = .ok (.iload_n 1, 1) := by decide +kernel
theorem dX4_doPass_15 : decode cX4_doPass 15 = .ok (.invokevirtual 27, 3) := by decide +kernel
theorem dX4_doPass_18 : decode cX4_doPass 18 = .ok (.istore 4, 2) := by decide +kernel
theorem dX4_doPass_20 : decode cX4_doPass 20 = .ok (.iload 4, 2) := by decide +kernel
theorem dX4_doPass_22 : decode cX4_doPass 22 = .ok (.ifCond .le 9, 3) := by decide +kernel
theorem dX4_doPass_25 : decode cX4_doPass 25 = .ok (.iinc 2 1, 3) := by decide +kernel
theorem dX4_doPass_28 : decode cX4_doPass 28 = .ok (.goto 11, 3) := by decide +kernel
theorem dX4_doPass_31 : decode cX4_doPass 31 = .ok (.iload 4, 2) := by decide +kernel
theorem dX4_doPass_33 : decode cX4_doPass 33 = .ok (.ifCond .ge 6, 3) := by decide +kernel
theorem dX4_doPass_36 : decode cX4_doPass 36 = .ok (.iinc 2 (-1), 3) := by decide +kernel
theorem dX4_doPass_39 : decode cX4_doPass 39 = .ok (.iinc 3 1, 3) := by decide +kernel
theorem dX4_doPass_42 : decode cX4_doPass 42 = .ok (.goto (-38), 3) := by decide +kernel
theorem dX4_doPass_45 : decode cX4_doPass 45 = .ok (.iload_n 2, 1) := by decide +kernel
theorem dX4_doPass_46 : decode cX4_doPass 46 = .ok (.ifCond .le 7, 3) := by decide +kernel
theorem dX4_doPass_49 : decode cX4_doPass 49 = .ok (.iconst 1, 1) := by decide +kernel
theorem dX4_doPass_50 : decode cX4_doPass 50 = .ok (.goto 4, 3) := by decide +kernel
theorem dX4_doPass_53 : decode cX4_doPass 53 = .ok (.iconst 0, 1) := by decide +kernel
theorem dX4_doPass_54 : decode cX4_doPass 54 = .ok (.ireturn, 1) := by decide +kernel
theorem dX4_sumOf_0 : decode cX4_sumOf 0 = .ok (.iconst 0, 1) := by decide +kernel
theorem dX4_sumOf_1 : decode cX4_sumOf 1 = .ok (.istore_n 3, 1) := by decide +kernel
theorem dX4_sumOf_2 : decode cX4_sumOf 2 = .ok (.iconst 0, 1) := by decide +kernel
theorem dX4_sumOf_3 : decode cX4_sumOf 3 = .ok (.istore 4, 2) := by decide +kernel
theorem dX4_sumOf_5 : decode cX4_sumOf 5 = .ok (.iload 4, 2) := by decide +kernel
theorem dX4_sumOf_7 : decode cX4_sumOf 7 = .ok (.bipush 6, 2) := by decide +kernel
theorem dX4_sumOf_9 : decode cX4_sumOf 9 = .ok (.if_icmp .ge 36, 3) := by decide +kernel
theorem dX4_sumOf_12 : decode cX4_sumOf 12 = .ok (.iload_n 2, 1) := by decide +kernel
theorem dX4_sumOf_13 : decode cX4_sumOf 13 = .ok (.iload 4, 2) := by decide +kernel
theorem dX4_sumOf_15 : decode cX4_sumOf 15 = .ok (.ishr, 1) := by decide +kernel
theorem dX4_sumOf_16 : decode cX4_sumOf 16 = .ok (.iconst 1, 1) := by decide +kernel
theorem dX4_sumOf_17 : decode cX4_sumOf 17 = .ok (.iand, 1) := by decide +kernel
theorem dX4_sumOf_18 : decode cX4_sumOf 18 = .ok (.iconst 1, 1) := by decide +kernel
theorem dX4_sumOf_19 : decode cX4_sumOf 19 = .ok (.if_icmp .ne 20, 3) := by decide +kernel
theorem dX4_sumOf_22 : decode cX4_sumOf 22 = .ok (.iload_n 3, 1) := by decide +kernel
theorem dX4_sumOf_23 : decode cX4_sumOf 23 = .ok (.aload_n 0, 1) := by decide +kernel
theorem dX4_sumOf_24 : decode cX4_sumOf 24 = .ok (.getfield 9, 3) := by decide +kernel
theorem dX4_sumOf_27 : decode cX4_sumOf 27 = .ok (.iload_n 1, 1) := by decide +kernel
theorem dX4_sumOf_28 : decode cX4_sumOf 28 = .ok (.bipush 6, 2) := by decide +kernel
theorem dX4_sumOf_30 : decode cX4_sumOf 30 = .ok (.imul, 1) := by decide +kernel
theorem dX4_sumOf_31 : decode cX4_sumOf 31 = .ok (.iload 4, 2) := by decide +kernel
theorem dX4_sumOf_33 : decode cX4_sumOf 33 = .ok (.iadd, 1) := by decide +kernel
theorem dX4_sumOf_34 : decode cX4_sumOf 34 = .ok (.invokestatic 19, 3) := by decide +kernel
theorem dX4_sumOf_37 : decode cX4_sumOf 37 = .ok (.iadd, 1) := by decide +kernel
theorem dX4_sumOf_38 : decode cX4_sumOf 38 = .ok (.istore_n 3, 1) := by decide +kernel
theorem dX4_sumOf_39 : decode cX4_sumOf 39 = .ok (.iinc 4 1, 3) := by decide +kernel
theorem dX4_sumOf_42 : decode cX4_sumOf 42 = .ok (.goto (-37), 3) := by decide +kernel
theorem dX4_sumOf_45 : decode cX4_sumOf 45 = .ok (.iload_n 3, 1) := by decide +kernel
theorem dX4_sumOf_46 : decode cX4_sumOf 46 = .ok (.ireturn, 1) := by decide +kernel
theorem dX4_fewestToRideWith_0 : decode cX4_fewestToRideWith 0 = .ok (.bipush (-9), 2) := by decide +kernel
theorem dX4_fewestToRideWith_2 : decode cX4_fewestToRideWith 2 = .ok (.istore_n 2, 1) := by decide +kernel
theorem dX4_fewestToRideWith_3 : decode cX4_fewestToRideWith 3 = .ok (.iconst 0, 1) := by decide +kernel
theorem dX4_fewestToRideWith_4 : decode cX4_fewestToRideWith 4 = .ok (.istore_n 3, 1) := by decide +kernel
theorem dX4_fewestToRideWith_5 : decode cX4_fewestToRideWith 5 = .ok (.iload_n 3, 1) := by decide +kernel
theorem dX4_fewestToRideWith_6 : decode cX4_fewestToRideWith 6 = .ok (.bipush 64, 2) := by decide +kernel
theorem dX4_fewestToRideWith_8 : decode cX4_fewestToRideWith 8 = .ok (.if_icmp .ge 56, 3) := by decide +kernel
theorem dX4_fewestToRideWith_11 : decode cX4_fewestToRideWith 11 = .ok (.iload_n 2, 1) := by decide +kernel
theorem dX4_fewestToRideWith_12 : decode cX4_fewestToRideWith 12 = .ok (.bipush (-9), 2) := by decide +kernel
theorem dX4_fewestToRideWith_14 : decode cX4_fewestToRideWith 14 = .ok (.if_icmp .eq 14, 3) := by decide +kernel
theorem dX4_fewestToRideWith_17 : decode cX4_fewestToRideWith 17 = .ok (.iload_n 3, 1) := by decide +kernel
theorem dX4_fewestToRideWith_18 : decode cX4_fewestToRideWith 18 = .ok (.invokestatic 31, 3) := by decide +kernel
theorem dX4_fewestToRideWith_21 : decode cX4_fewestToRideWith 21 = .ok (.iload_n 2, 1) := by decide +kernel
theorem dX4_fewestToRideWith_22 : decode cX4_fewestToRideWith 22 = .ok (.invokestatic 31, 3) := by decide +kernel
theorem dX4_fewestToRideWith_25 : decode cX4_fewestToRideWith 25 = .ok (.if_icmp .ge 7, 3) := by decide +kernel
theorem dX4_fewestToRideWith_28 : decode cX4_fewestToRideWith 28 = .ok (.iconst 1, 1) := by decide +kernel
theorem dX4_fewestToRideWith_29 : decode cX4_fewestToRideWith 29 = .ok (.goto 4, 3) := by decide +kernel
theorem dX4_fewestToRideWith_32 : decode cX4_fewestToRideWith 32 = .ok (.iconst 0, 1) := by decide +kernel
theorem dX4_fewestToRideWith_33 : decode cX4_fewestToRideWith 33 = .ok (.istore 4, 2) := by decide +kernel
theorem dX4_fewestToRideWith_35 : decode cX4_fewestToRideWith 35 = .ok (.iload_n 3, 1) := by decide +kernel
theorem dX4_fewestToRideWith_36 : decode cX4_fewestToRideWith 36 = .ok (.iload_n 1, 1) := by decide +kernel
theorem dX4_fewestToRideWith_37 : decode cX4_fewestToRideWith 37 = .ok (.iand, 1) := by decide +kernel
theorem dX4_fewestToRideWith_38 : decode cX4_fewestToRideWith 38 = .ok (.ifCond .ne 20, 3) := by decide +kernel
theorem dX4_fewestToRideWith_41 : decode cX4_fewestToRideWith 41 = .ok (.iload 4, 2) := by decide +kernel
theorem dX4_fewestToRideWith_43 : decode cX4_fewestToRideWith 43 = .ok (.ifCond .eq 15, 3) := by decide +kernel
theorem dX4_fewestToRideWith_46 : decode cX4_fewestToRideWith 46 = .ok (.aload_n 0, 1) := by decide +kernel
theorem dX4_fewestToRideWith_47 : decode cX4_fewestToRideWith 47 = .ok (.iload_n 3, 1) := by decide +kernel
theorem dX4_fewestToRideWith_48 : decode cX4_fewestToRideWith 48 = .ok (.iload_n 1, 1) := by decide +kernel
theorem dX4_fewestToRideWith_49 : decode cX4_fewestToRideWith 49 = .ok (.ior, 1) := by decide +kernel
theorem dX4_fewestToRideWith_50 : decode cX4_fewestToRideWith 50 = .ok (.invokevirtual 37, 3) := by decide +kernel
theorem dX4_fewestToRideWith_53 : decode cX4_fewestToRideWith 53 = .ok (.ifCond .eq 5, 3) := by decide +kernel
theorem dX4_fewestToRideWith_56 : decode cX4_fewestToRideWith 56 = .ok (.iload_n 3, 1) := by decide +kernel
theorem dX4_fewestToRideWith_57 : decode cX4_fewestToRideWith 57 = .ok (.istore_n 2, 1) := by decide +kernel
theorem dX4_fewestToRideWith_58 : decode cX4_fewestToRideWith 58 = .ok (.iinc 3 1, 3) := by decide +kernel
theorem dX4_fewestToRideWith_61 : decode cX4_fewestToRideWith 61 = .ok (.goto (-56), 3) := by decide +kernel
theorem dX4_fewestToRideWith_64 : decode cX4_fewestToRideWith 64 = .ok (.iload_n 2, 1) := by decide +kernel
theorem dX4_fewestToRideWith_65 : decode cX4_fewestToRideWith 65 = .ok (.ireturn, 1) := by decide +kernel
theorem dX4_tearsOf_0 : decode cX4_tearsOf 0 = .ok (.aload_n 0, 1) := by decide +kernel
theorem dX4_tearsOf_1 : decode cX4_tearsOf 1 = .ok (.iload_n 1, 1) := by decide +kernel
theorem dX4_tearsOf_2 : decode cX4_tearsOf 2 = .ok (.invokevirtual 37, 3) := by decide +kernel
theorem dX4_tearsOf_5 : decode cX4_tearsOf 5 = .ok (.ifCond .ne 5, 3) := by decide +kernel
theorem dX4_tearsOf_8 : decode cX4_tearsOf 8 = .ok (.iconst 0, 1) := by decide +kernel
theorem dX4_tearsOf_9 : decode cX4_tearsOf 9 = .ok (.ireturn, 1) := by decide +kernel
theorem dX4_tearsOf_10 : decode cX4_tearsOf 10 = .ok (.iconst 0, 1) := by decide +kernel
theorem dX4_tearsOf_11 : decode cX4_tearsOf 11 = .ok (.istore_n 2, 1) := by decide +kernel
theorem dX4_tearsOf_12 : decode cX4_tearsOf 12 = .ok (.iconst 0, 1) := by decide +kernel
theorem dX4_tearsOf_13 : decode cX4_tearsOf 13 = .ok (.istore_n 3, 1) := by decide +kernel
theorem dX4_tearsOf_14 : decode cX4_tearsOf 14 = .ok (.iload_n 3, 1) := by decide +kernel
theorem dX4_tearsOf_15 : decode cX4_tearsOf 15 = .ok (.bipush 6, 2) := by decide +kernel
theorem dX4_tearsOf_17 : decode cX4_tearsOf 17 = .ok (.if_icmp .ge 31, 3) := by decide +kernel
theorem dX4_tearsOf_20 : decode cX4_tearsOf 20 = .ok (.iload_n 1, 1) := by decide +kernel
theorem dX4_tearsOf_21 : decode cX4_tearsOf 21 = .ok (.iload_n 3, 1) := by decide +kernel
theorem dX4_tearsOf_22 : decode cX4_tearsOf 22 = .ok (.ishr, 1) := by decide +kernel
theorem dX4_tearsOf_23 : decode cX4_tearsOf 23 = .ok (.iconst 1, 1) := by decide +kernel
theorem dX4_tearsOf_24 : decode cX4_tearsOf 24 = .ok (.iand, 1) := by decide +kernel
theorem dX4_tearsOf_25 : decode cX4_tearsOf 25 = .ok (.iconst 1, 1) := by decide +kernel
theorem dX4_tearsOf_26 : decode cX4_tearsOf 26 = .ok (.if_icmp .ne 16, 3) := by decide +kernel
theorem dX4_tearsOf_29 : decode cX4_tearsOf 29 = .ok (.aload_n 0, 1) := by decide +kernel
theorem dX4_tearsOf_30 : decode cX4_tearsOf 30 = .ok (.iconst 1, 1) := by decide +kernel
theorem dX4_tearsOf_31 : decode cX4_tearsOf 31 = .ok (.iload_n 3, 1) := by decide +kernel
theorem dX4_tearsOf_32 : decode cX4_tearsOf 32 = .ok (.ishl, 1) := by decide +kernel
theorem dX4_tearsOf_33 : decode cX4_tearsOf 33 = .ok (.invokevirtual 37, 3) := by decide +kernel
theorem dX4_tearsOf_36 : decode cX4_tearsOf 36 = .ok (.ifCond .ne 6, 3) := by decide +kernel
theorem dX4_tearsOf_39 : decode cX4_tearsOf 39 = .ok (.iinc 2 1, 3) := by decide +kernel
theorem dX4_tearsOf_42 : decode cX4_tearsOf 42 = .ok (.iinc 3 1, 3) := by decide +kernel
theorem dX4_tearsOf_45 : decode cX4_tearsOf 45 = .ok (.goto (-31), 3) := by decide +kernel
theorem dX4_tearsOf_48 : decode cX4_tearsOf 48 = .ok (.iload_n 2, 1) := by decide +kernel
theorem dX4_tearsOf_49 : decode cX4_tearsOf 49 = .ok (.ireturn, 1) := by decide +kernel
theorem dX5_init_0 : decode cX5_init 0 = .ok (.aload_n 0, 1) := by decide +kernel
theorem dX5_init_1 : decode cX5_init 1 = .ok (.invokespecial 3, 3) := by decide +kernel
theorem dX5_init_4 : decode cX5_init 4 = .ok (.aload_n 0, 1) := by decide +kernel
theorem dX5_init_5 : decode cX5_init 5 = .ok (.bipush 8, 2) := by decide +kernel
theorem dX5_init_7 : decode cX5_init 7 = .ok (.newarray .int, 2) := by decide +kernel
theorem dX5_init_9 : decode cX5_init 9 = .ok (.putfield 9, 3) := by decide +kernel
theorem dX5_init_12 : decode cX5_init 12 = .ok (.aload_n 0, 1) := by decide +kernel
theorem dX5_init_13 : decode cX5_init 13 = .ok (.bipush 8, 2) := by decide +kernel
theorem dX5_init_15 : decode cX5_init 15 = .ok (.newarray .int, 2) := by decide +kernel
theorem dX5_init_17 : decode cX5_init 17 = .ok (.putfield 15, 3) := by decide +kernel
theorem dX5_init_20 : decode cX5_init 20 = .ok (.return_, 1) := by decide +kernel
theorem dX5_has_0 : decode cX5_has 0 = .ok (.iload_n 1, 1) := by decide +kernel
theorem dX5_has_1 : decode cX5_has 1 = .ok (.ifCond .lt 15, 3) := by decide +kernel
theorem dX5_has_4 : decode cX5_has 4 = .ok (.iload_n 1, 1) := by decide +kernel
theorem dX5_has_5 : decode cX5_has 5 = .ok (.aload_n 0, 1) := by decide +kernel
theorem dX5_has_6 : decode cX5_has 6 = .ok (.getfield 18, 3) := by decide +kernel
theorem dX5_has_9 : decode cX5_has 9 = .ok (.if_icmp .ge 7, 3) := by decide +kernel
theorem dX5_has_12 : decode cX5_has 12 = .ok (.iconst 1, 1) := by decide +kernel
theorem dX5_has_13 : decode cX5_has 13 = .ok (.goto 4, 3) := by decide +kernel
theorem dX5_has_16 : decode cX5_has 16 = .ok (.iconst 0, 1) := by decide +kernel
theorem dX5_has_17 : decode cX5_has 17 = .ok (.ireturn, 1) := by decide +kernel
theorem dX5_officeOf_0 : decode cX5_officeOf 0 = .ok (.aload_n 0, 1) := by decide +kernel
theorem dX5_officeOf_1 : decode cX5_officeOf 1 = .ok (.getfield 9, 3) := by decide +kernel
theorem dX5_officeOf_4 : decode cX5_officeOf 4 = .ok (.iload_n 1, 1) := by decide +kernel
theorem dX5_officeOf_5 : decode cX5_officeOf 5 = .ok (.invokestatic 22, 3) := by decide +kernel
theorem dX5_officeOf_8 : decode cX5_officeOf 8 = .ok (.ireturn, 1) := by decide +kernel
theorem dX5_timesOf_0 : decode cX5_timesOf 0 = .ok (.aload_n 0, 1) := by decide +kernel
theorem dX5_timesOf_1 : decode cX5_timesOf 1 = .ok (.getfield 15, 3) := by decide +kernel
theorem dX5_timesOf_4 : decode cX5_timesOf 4 = .ok (.iload_n 1, 1) := by decide +kernel
theorem dX5_timesOf_5 : decode cX5_timesOf 5 = .ok (.invokestatic 22, 3) := by decide +kernel
theorem dX5_timesOf_8 : decode cX5_timesOf 8 = .ok (.ireturn, 1) := by decide +kernel
theorem dX5_hasRoom_0 : decode cX5_hasRoom 0 = .ok (.aload_n 0, 1) := by decide +kernel
theorem dX5_hasRoom_1 : decode cX5_hasRoom 1 = .ok (.getfield 18, 3) := by decide +kernel
theorem dX5_hasRoom_4 : decode cX5_hasRoom 4 = .ok (.bipush 8, 2) := by decide +kernel
theorem dX5_hasRoom_6 : decode cX5_hasRoom 6 = .ok (.if_icmp .lt 5, 3) := by decide +kernel
theorem dX5_hasRoom_9 : decode cX5_hasRoom 9 = .ok (.iconst 0, 1) := by decide +kernel
theorem dX5_hasRoom_10 : decode cX5_hasRoom 10 = .ok (.ireturn, 1) := by decide +kernel
theorem dX5_hasRoom_11 : decode cX5_hasRoom 11 = .ok (.iload_n 1, 1) := by decide +kernel
theorem dX5_hasRoom_12 : decode cX5_hasRoom 12 = .ok (.ifCond .ne 5, 3) := by decide +kernel
theorem dX5_hasRoom_15 : decode cX5_hasRoom 15 = .ok (.iconst 1, 1) := by decide +kernel
theorem dX5_hasRoom_16 : decode cX5_hasRoom 16 = .ok (.ireturn, 1) := by decide +kernel
theorem dX5_hasRoom_17 : decode cX5_hasRoom 17 = .ok (.iload_n 2, 1) := by decide +kernel
theorem dX5_hasRoom_18 : decode cX5_hasRoom 18 = .ok (.istore_n 3, 1) := by decide +kernel
theorem dX5_hasRoom_19 : decode cX5_hasRoom 19 = .ok (.iconst 0, 1) := by decide +kernel
theorem dX5_hasRoom_20 : decode cX5_hasRoom 20 = .ok (.istore 4, 2) := by decide +kernel
theorem dX5_hasRoom_22 : decode cX5_hasRoom 22 = .ok (.iload 4, 2) := by decide +kernel
theorem dX5_hasRoom_24 : decode cX5_hasRoom 24 = .ok (.aload_n 0, 1) := by decide +kernel
theorem dX5_hasRoom_25 : decode cX5_hasRoom 25 = .ok (.getfield 18, 3) := by decide +kernel
theorem dX5_hasRoom_28 : decode cX5_hasRoom 28 = .ok (.if_icmp .ge 28, 3) := by decide +kernel
theorem dX5_hasRoom_31 : decode cX5_hasRoom 31 = .ok (.aload_n 0, 1) := by decide +kernel
theorem dX5_hasRoom_32 : decode cX5_hasRoom 32 = .ok (.iload 4, 2) := by decide +kernel
theorem dX5_hasRoom_34 : decode cX5_hasRoom 34 = .ok (.invokevirtual 26, 3) := by decide +kernel
theorem dX5_hasRoom_37 : decode cX5_hasRoom 37 = .ok (.iload_n 1, 1) := by decide +kernel
theorem dX5_hasRoom_38 : decode cX5_hasRoom 38 = .ok (.if_icmp .ne 12, 3) := by decide +kernel
theorem dX5_hasRoom_41 : decode cX5_hasRoom 41 = .ok (.iload_n 3, 1) := by decide +kernel
theorem dX5_hasRoom_42 : decode cX5_hasRoom 42 = .ok (.aload_n 0, 1) := by decide +kernel
theorem dX5_hasRoom_43 : decode cX5_hasRoom 43 = .ok (.iload 4, 2) := by decide +kernel
theorem dX5_hasRoom_45 : decode cX5_hasRoom 45 = .ok (.invokevirtual 30, 3) := by decide +kernel
theorem dX5_hasRoom_48 : decode cX5_hasRoom 48 = .ok (.iadd, 1) := by decide +kernel
theorem dX5_hasRoom_49 : decode cX5_hasRoom 49 = .ok (.istore_n 3, 1) := by decide +kernel
theorem dX5_hasRoom_50 : decode cX5_hasRoom 50 = .ok (.iinc 4 1, 3) := by decide +kernel
theorem dX5_hasRoom_53 : decode cX5_hasRoom 53 = .ok (.goto (-31), 3) := by decide +kernel
theorem dX5_hasRoom_56 : decode cX5_hasRoom 56 = .ok (.iload_n 3, 1) := by decide +kernel
theorem dX5_hasRoom_57 : decode cX5_hasRoom 57 = .ok (.bipush 6, 2) := by decide +kernel
theorem dX5_hasRoom_59 : decode cX5_hasRoom 59 = .ok (.if_icmp .gt 7, 3) := by decide +kernel
theorem dX5_hasRoom_62 : decode cX5_hasRoom 62 = .ok (.iconst 1, 1) := by decide +kernel
theorem dX5_hasRoom_63 : decode cX5_hasRoom 63 = .ok (.goto 4, 3) := by decide +kernel
theorem dX5_hasRoom_66 : decode cX5_hasRoom 66 = .ok (.iconst 0, 1) := by decide +kernel
theorem dX5_hasRoom_67 : decode cX5_hasRoom 67 = .ok (.ireturn, 1) := by decide +kernel
theorem dX5_add_0 : decode cX5_add 0 = .ok (.aload_n 0, 1) := by decide +kernel
theorem dX5_add_1 : decode cX5_add 1 = .ok (.getfield 18, 3) := by decide +kernel
theorem dX5_add_4 : decode cX5_add 4 = .ok (.istore_n 3, 1) := by decide +kernel
theorem dX5_add_5 : decode cX5_add 5 = .ok (.aload_n 0, 1) := by decide +kernel
theorem dX5_add_6 : decode cX5_add 6 = .ok (.getfield 9, 3) := by decide +kernel
theorem dX5_add_9 : decode cX5_add 9 = .ok (.iload_n 3, 1) := by decide +kernel
theorem dX5_add_10 : decode cX5_add 10 = .ok (.iload_n 1, 1) := by decide +kernel
theorem dX5_add_11 : decode cX5_add 11 = .ok (.invokestatic 33, 3) := by decide +kernel
theorem dX5_add_14 : decode cX5_add 14 = .ok (.aload_n 0, 1) := by decide +kernel
theorem dX5_add_15 : decode cX5_add 15 = .ok (.getfield 15, 3) := by decide +kernel
theorem dX5_add_18 : decode cX5_add 18 = .ok (.iload_n 3, 1) := by decide +kernel
theorem dX5_add_19 : decode cX5_add 19 = .ok (.iload_n 2, 1) := by decide +kernel
theorem dX5_add_20 : decode cX5_add 20 = .ok (.invokestatic 33, 3) := by decide +kernel
theorem dX5_add_23 : decode cX5_add 23 = .ok (.aload_n 0, 1) := by decide +kernel
theorem dX5_add_24 : decode cX5_add 24 = .ok (.dup, 1) := by decide +kernel
theorem dX5_add_25 : decode cX5_add 25 = .ok (.getfield 18, 3) := by decide +kernel
theorem dX5_add_28 : decode cX5_add 28 = .ok (.iconst 1, 1) := by decide +kernel
theorem dX5_add_29 : decode cX5_add 29 = .ok (.iadd, 1) := by decide +kernel
theorem dX5_add_30 : decode cX5_add 30 = .ok (.putfield 18, 3) := by decide +kernel
theorem dX5_add_33 : decode cX5_add 33 = .ok (.iload_n 3, 1) := by decide +kernel
theorem dX5_add_34 : decode cX5_add 34 = .ok (.ireturn, 1) := by decide +kernel
theorem dX6_init_0 : decode cX6_init 0 = .ok (.aload_n 0, 1) := by decide +kernel
theorem dX6_init_1 : decode cX6_init 1 = .ok (.invokespecial 3, 3) := by decide +kernel
theorem dX6_init_4 : decode cX6_init 4 = .ok (.aload_n 0, 1) := by decide +kernel
theorem dX6_init_5 : decode cX6_init 5 = .ok (.bipush (-9), 2) := by decide +kernel
theorem dX6_init_7 : decode cX6_init 7 = .ok (.putfield 9, 3) := by decide +kernel
theorem dX6_init_10 : decode cX6_init 10 = .ok (.return_, 1) := by decide +kernel
theorem dX6_wipe_0 : decode cX6_wipe 0 = .ok (.aload_n 0, 1) := by decide +kernel
theorem dX6_wipe_1 : decode cX6_wipe 1 = .ok (.iconst 0, 1) := by decide +kernel
theorem dX6_wipe_2 : decode cX6_wipe 2 = .ok (.putfield 15, 3) := by decide +kernel
theorem dX6_wipe_5 : decode cX6_wipe 5 = .ok (.aload_n 0, 1) := by decide +kernel
theorem dX6_wipe_6 : decode cX6_wipe 6 = .ok (.iconst 0, 1) := by decide +kernel
theorem dX6_wipe_7 : decode cX6_wipe 7 = .ok (.putfield 18, 3) := by decide +kernel
theorem dX6_wipe_10 : decode cX6_wipe 10 = .ok (.aload_n 0, 1) := by decide +kernel
theorem dX6_wipe_11 : decode cX6_wipe 11 = .ok (.iconst 0, 1) := by decide +kernel
theorem dX6_wipe_12 : decode cX6_wipe 12 = .ok (.putfield 21, 3) := by decide +kernel
theorem dX6_wipe_15 : decode cX6_wipe 15 = .ok (.aload_n 0, 1) := by decide +kernel
theorem dX6_wipe_16 : decode cX6_wipe 16 = .ok (.bipush (-9), 2) := by decide +kernel
theorem dX6_wipe_18 : decode cX6_wipe 18 = .ok (.putfield 9, 3) := by decide +kernel
theorem dX6_wipe_21 : decode cX6_wipe 21 = .ok (.aload_n 0, 1) := by decide +kernel
theorem dX6_wipe_22 : decode cX6_wipe 22 = .ok (.iconst 0, 1) := by decide +kernel
theorem dX6_wipe_23 : decode cX6_wipe 23 = .ok (.putfield 25, 3) := by decide +kernel
theorem dX6_wipe_26 : decode cX6_wipe 26 = .ok (.return_, 1) := by decide +kernel
theorem dX6_copy_0 : decode cX6_copy 0 = .ok (.aload_n 0, 1) := by decide +kernel
theorem dX6_copy_1 : decode cX6_copy 1 = .ok (.aload_n 1, 1) := by decide +kernel
theorem dX6_copy_2 : decode cX6_copy 2 = .ok (.getfield 15, 3) := by decide +kernel
theorem dX6_copy_5 : decode cX6_copy 5 = .ok (.putfield 15, 3) := by decide +kernel
theorem dX6_copy_8 : decode cX6_copy 8 = .ok (.aload_n 0, 1) := by decide +kernel
theorem dX6_copy_9 : decode cX6_copy 9 = .ok (.aload_n 1, 1) := by decide +kernel
theorem dX6_copy_10 : decode cX6_copy 10 = .ok (.getfield 18, 3) := by decide +kernel
theorem dX6_copy_13 : decode cX6_copy 13 = .ok (.putfield 18, 3) := by decide +kernel
theorem dX6_copy_16 : decode cX6_copy 16 = .ok (.aload_n 0, 1) := by decide +kernel
theorem dX6_copy_17 : decode cX6_copy 17 = .ok (.aload_n 1, 1) := by decide +kernel
theorem dX6_copy_18 : decode cX6_copy 18 = .ok (.getfield 21, 3) := by decide +kernel
theorem dX6_copy_21 : decode cX6_copy 21 = .ok (.putfield 21, 3) := by decide +kernel
theorem dX6_copy_24 : decode cX6_copy 24 = .ok (.aload_n 0, 1) := by decide +kernel
theorem dX6_copy_25 : decode cX6_copy 25 = .ok (.aload_n 1, 1) := by decide +kernel
theorem dX6_copy_26 : decode cX6_copy 26 = .ok (.getfield 9, 3) := by decide +kernel
theorem dX6_copy_29 : decode cX6_copy 29 = .ok (.putfield 9, 3) := by decide +kernel
theorem dX6_copy_32 : decode cX6_copy 32 = .ok (.aload_n 0, 1) := by decide +kernel
theorem dX6_copy_33 : decode cX6_copy 33 = .ok (.aload_n 1, 1) := by decide +kernel
theorem dX6_copy_34 : decode cX6_copy 34 = .ok (.getfield 25, 3) := by decide +kernel
theorem dX6_copy_37 : decode cX6_copy 37 = .ok (.putfield 25, 3) := by decide +kernel
theorem dX6_copy_40 : decode cX6_copy 40 = .ok (.return_, 1) := by decide +kernel
theorem dX7_init_0 : decode cX7_init 0 = .ok (.aload_n 0, 1) := by decide +kernel
theorem dX7_init_1 : decode cX7_init 1 = .ok (.invokespecial 1, 3) := by decide +kernel
theorem dX7_init_4 : decode cX7_init 4 = .ok (.aload_n 0, 1) := by decide +kernel
theorem dX7_init_5 : decode cX7_init 5 = .ok (.sipush 400, 3) := by decide +kernel
theorem dX7_init_8 : decode cX7_init 8 = .ok (.newarray .byte, 2) := by decide +kernel
theorem dX7_init_10 : decode cX7_init 10 = .ok (.putfield 9, 3) := by decide +kernel
theorem dX7_init_13 : decode cX7_init 13 = .ok (.aload_n 0, 1) := by decide +kernel
theorem dX7_init_14 : decode cX7_init 14 = .ok (.new 13, 3) := by decide +kernel
theorem dX7_init_17 : decode cX7_init 17 = .ok (.dup, 1) := by decide +kernel
theorem dX7_init_18 : decode cX7_init 18 = .ok (.invokespecial 15, 3) := by decide +kernel
theorem dX7_init_21 : decode cX7_init 21 = .ok (.putfield 16, 3) := by decide +kernel
theorem dX7_init_24 : decode cX7_init 24 = .ok (.aload_n 0, 1) := by decide +kernel
theorem dX7_init_25 : decode cX7_init 25 = .ok (.new 13, 3) := by decide +kernel
theorem dX7_init_28 : decode cX7_init 28 = .ok (.dup, 1) := by decide +kernel
theorem dX7_init_29 : decode cX7_init 29 = .ok (.invokespecial 15, 3) := by decide +kernel
theorem dX7_init_32 : decode cX7_init 32 = .ok (.putfield 20, 3) := by decide +kernel
theorem dX7_init_35 : decode cX7_init 35 = .ok (.aload_n 0, 1) := by decide +kernel
theorem dX7_init_36 : decode cX7_init 36 = .ok (.new 23, 3) := by decide +kernel
theorem dX7_init_39 : decode cX7_init 39 = .ok (.dup, 1) := by decide +kernel
theorem dX7_init_40 : decode cX7_init 40 = .ok (.aload_n 0, 1) := by decide +kernel
theorem dX7_init_41 : decode cX7_init 41 = .ok (.getfield 9, 3) := by decide +kernel
theorem dX7_init_44 : decode cX7_init 44 = .ok (.aload_n 0, 1) := by decide +kernel
theorem dX7_init_45 : decode cX7_init 45 = .ok (.getfield 20, 3) := by decide +kernel
theorem dX7_init_48 : decode cX7_init 48 = .ok (.invokespecial 25, 3) := by decide +kernel
theorem dX7_init_51 : decode cX7_init 51 = .ok (.putfield 28, 3) := by decide +kernel
theorem dX7_init_54 : decode cX7_init 54 = .ok (.aload_n 0, 1) := by decide +kernel
theorem dX7_init_55 : decode cX7_init 55 = .ok (.new 32, 3) := by decide +kernel
theorem dX7_init_58 : decode cX7_init 58 = .ok (.dup, 1) := by decide +kernel
theorem dX7_init_59 : decode cX7_init 59 = .ok (.invokespecial 34, 3) := by decide +kernel
theorem dX7_init_62 : decode cX7_init 62 = .ok (.putfield 35, 3) := by decide +kernel
theorem dX7_init_65 : decode cX7_init 65 = .ok (.aload_n 0, 1) := by decide +kernel
theorem dX7_init_66 : decode cX7_init 66 = .ok (.new 39, 3) := by decide +kernel
theorem dX7_init_69 : decode cX7_init 69 = .ok (.dup, 1) := by decide +kernel
theorem dX7_init_70 : decode cX7_init 70 = .ok (.invokespecial 41, 3) := by decide +kernel
theorem dX7_init_73 : decode cX7_init 73 = .ok (.putfield 42, 3) := by decide +kernel
theorem dX7_init_76 : decode cX7_init 76 = .ok (.aload_n 0, 1) := by decide +kernel
theorem dX7_init_77 : decode cX7_init 77 = .ok (.new 39, 3) := by decide +kernel
theorem dX7_init_80 : decode cX7_init 80 = .ok (.dup, 1) := by decide +kernel
theorem dX7_init_81 : decode cX7_init 81 = .ok (.invokespecial 41, 3) := by decide +kernel
theorem dX7_init_84 : decode cX7_init 84 = .ok (.putfield 46, 3) := by decide +kernel
theorem dX7_init_87 : decode cX7_init 87 = .ok (.aload_n 0, 1) := by decide +kernel
theorem dX7_init_88 : decode cX7_init 88 = .ok (.iconst 2, 1) := by decide +kernel
theorem dX7_init_89 : decode cX7_init 89 = .ok (.anewarray 39, 3) := by decide +kernel
theorem dX7_init_92 : decode cX7_init 92 = .ok (.putfield 49, 3) := by decide +kernel
theorem dX7_init_95 : decode cX7_init 95 = .ok (.aload_n 0, 1) := by decide +kernel
theorem dX7_init_96 : decode cX7_init 96 = .ok (.new 53, 3) := by decide +kernel
theorem dX7_init_99 : decode cX7_init 99 = .ok (.dup, 1) := by decide +kernel
theorem dX7_init_100 : decode cX7_init 100 = .ok (.aload_n 0, 1) := by decide +kernel
theorem dX7_init_101 : decode cX7_init 101 = .ok (.getfield 16, 3) := by decide +kernel
theorem dX7_init_104 : decode cX7_init 104 = .ok (.invokespecial 55, 3) := by decide +kernel
theorem dX7_init_107 : decode cX7_init 107 = .ok (.putfield 58, 3) := by decide +kernel
theorem dX7_init_110 : decode cX7_init 110 = .ok (.aload_n 0, 1) := by decide +kernel
theorem dX7_init_111 : decode cX7_init 111 = .ok (.new 62, 3) := by decide +kernel
theorem dX7_init_114 : decode cX7_init 114 = .ok (.dup, 1) := by decide +kernel
theorem dX7_init_115 : decode cX7_init 115 = .ok (.invokespecial 64, 3) := by decide +kernel
theorem dX7_init_118 : decode cX7_init 118 = .ok (.putfield 65, 3) := by decide +kernel
theorem dX7_init_121 : decode cX7_init 121 = .ok (.aload_n 0, 1) := by decide +kernel
theorem dX7_init_122 : decode cX7_init 122 = .ok (.iconst 5, 1) := by decide +kernel
theorem dX7_init_123 : decode cX7_init 123 = .ok (.newarray .int, 2) := by decide +kernel
theorem dX7_init_125 : decode cX7_init 125 = .ok (.putfield 69, 3) := by decide +kernel
theorem dX7_init_128 : decode cX7_init 128 = .ok (.aload_n 0, 1) := by decide +kernel
theorem dX7_init_129 : decode cX7_init 129 = .ok (.iconst 5, 1) := by decide +kernel
theorem dX7_init_130 : decode cX7_init 130 = .ok (.newarray .int, 2) := by decide +kernel
theorem dX7_init_132 : decode cX7_init 132 = .ok (.putfield 73, 3) := by decide +kernel
theorem dX7_init_135 : decode cX7_init 135 = .ok (.aload_n 0, 1) := by decide +kernel
theorem dX7_init_136 : decode cX7_init 136 = .ok (.iconst 5, 1) := by decide +kernel
theorem dX7_init_137 : decode cX7_init 137 = .ok (.newarray .int, 2) := by decide +kernel
theorem dX7_init_139 : decode cX7_init 139 = .ok (.putfield 76, 3) := by decide +kernel
theorem dX7_init_142 : decode cX7_init 142 = .ok (.iconst 0, 1) := by decide +kernel
theorem dX7_init_143 : decode cX7_init 143 = .ok (.istore_n 1, 1) := by decide +kernel
theorem dX7_init_144 : decode cX7_init 144 = .ok (.iload_n 1, 1) := by decide +kernel
theorem dX7_init_145 : decode cX7_init 145 = .ok (.aload_n 0, 1) := by decide +kernel
theorem dX7_init_146 : decode cX7_init 146 = .ok (.getfield 49, 3) := by decide +kernel
theorem dX7_init_149 : decode cX7_init 149 = .ok (.arraylength, 1) := by decide +kernel
theorem dX7_init_150 : decode cX7_init 150 = .ok (.if_icmp .ge 22, 3) := by decide +kernel
theorem dX7_init_153 : decode cX7_init 153 = .ok (.aload_n 0, 1) := by decide +kernel
theorem dX7_init_154 : decode cX7_init 154 = .ok (.getfield 49, 3) := by decide +kernel
theorem dX7_init_157 : decode cX7_init 157 = .ok (.iload_n 1, 1) := by decide +kernel
theorem dX7_init_158 : decode cX7_init 158 = .ok (.new 39, 3) := by decide +kernel
theorem dX7_init_161 : decode cX7_init 161 = .ok (.dup, 1) := by decide +kernel
theorem dX7_init_162 : decode cX7_init 162 = .ok (.invokespecial 41, 3) := by decide +kernel
theorem dX7_init_165 : decode cX7_init 165 = .ok (.aastore, 1) := by decide +kernel
theorem dX7_init_166 : decode cX7_init 166 = .ok (.iinc 1 1, 3) := by decide +kernel
theorem dX7_init_169 : decode cX7_init 169 = .ok (.goto (-25), 3) := by decide +kernel
theorem dX7_init_172 : decode cX7_init 172 = .ok (.return_, 1) := by decide +kernel
theorem dX7_type_0 : decode cX7_type 0 = .ok (.iload_n 3, 1) := by decide +kernel
theorem dX7_type_1 : decode cX7_type 1 = .ok (.iconst 1, 1) := by decide +kernel
theorem dX7_type_2 : decode cX7_type 2 = .ok (.if_icmp .lt 9, 3) := by decide +kernel
theorem dX7_type_5 : decode cX7_type 5 = .ok (.iload_n 3, 1) := by decide +kernel
theorem dX7_type_6 : decode cX7_type 6 = .ok (.bipush 8, 2) := by decide +kernel
theorem dX7_type_8 : decode cX7_type 8 = .ok (.if_icmp .le 5, 3) := by decide +kernel
theorem dX7_type_11 : decode cX7_type 11 = .ok (.iconst (-1), 1) := by decide +kernel
theorem dX7_type_12 : decode cX7_type 12 = .ok (.ireturn, 1) := by decide +kernel
theorem dX7_type_13 : decode cX7_type 13 = .ok (.aload_n 0, 1) := by decide +kernel
theorem dX7_type_14 : decode cX7_type 14 = .ok (.getfield 79, 3) := by decide +kernel
theorem dX7_type_17 : decode cX7_type 17 = .ok (.iload_n 3, 1) := by decide +kernel
theorem dX7_type_18 : decode cX7_type 18 = .ok (.iadd, 1) := by decide +kernel
theorem dX7_type_19 : decode cX7_type 19 = .ok (.sipush 400, 3) := by decide +kernel
theorem dX7_type_22 : decode cX7_type 22 = .ok (.if_icmp .le 6, 3) := by decide +kernel
theorem dX7_type_25 : decode cX7_type 25 = .ok (.bipush (-3), 2) := by decide +kernel
theorem dX7_type_27 : decode cX7_type 27 = .ok (.ireturn, 1) := by decide +kernel
theorem dX7_type_28 : decode cX7_type 28 = .ok (.iload_n 3, 1) := by decide +kernel
theorem dX7_type_29 : decode cX7_type 29 = .ok (.iconst 1, 1) := by decide +kernel
theorem dX7_type_30 : decode cX7_type 30 = .ok (.isub, 1) := by decide +kernel
theorem dX7_type_31 : decode cX7_type 31 = .ok (.istore 4, 2) := by decide +kernel
theorem dX7_type_33 : decode cX7_type 33 = .ok (.iload 4, 2) := by decide +kernel
theorem dX7_type_35 : decode cX7_type 35 = .ok (.ifCond .lt 56, 3) := by decide +kernel
theorem dX7_type_38 : decode cX7_type 38 = .ok (.aload_n 0, 1) := by decide +kernel
theorem dX7_type_39 : decode cX7_type 39 = .ok (.getfield 79, 3) := by decide +kernel
theorem dX7_type_42 : decode cX7_type 42 = .ok (.ifCond .lt 43, 3) := by decide +kernel
theorem dX7_type_45 : decode cX7_type 45 = .ok (.aload_n 0, 1) := by decide +kernel
theorem dX7_type_46 : decode cX7_type 46 = .ok (.getfield 79, 3) := by decide +kernel
theorem dX7_type_49 : decode cX7_type 49 = .ok (.aload_n 0, 1) := by decide +kernel
theorem dX7_type_50 : decode cX7_type 50 = .ok (.getfield 9, 3) := by decide +kernel
theorem dX7_type_53 : decode cX7_type 53 = .ok (.arraylength, 1) := by decide +kernel
theorem dX7_type_54 : decode cX7_type 54 = .ok (.if_icmp .ge 31, 3) := by decide +kernel
theorem dX7_type_57 : decode cX7_type 57 = .ok (.aload_n 0, 1) := by decide +kernel
theorem dX7_type_58 : decode cX7_type 58 = .ok (.getfield 9, 3) := by decide +kernel
theorem dX7_type_61 : decode cX7_type 61 = .ok (.aload_n 0, 1) := by decide +kernel
theorem dX7_type_62 : decode cX7_type 62 = .ok (.getfield 79, 3) := by decide +kernel
theorem dX7_type_65 : decode cX7_type 65 = .ok (.lload_n 1, 1) := by decide +kernel
theorem dX7_type_66 : decode cX7_type 66 = .ok (.bipush 8, 2) := by decide +kernel
theorem dX7_type_68 : decode cX7_type 68 = .ok (.iload 4, 2) := by decide +kernel
theorem dX7_type_70 : decode cX7_type 70 = .ok (.imul, 1) := by decide +kernel
theorem dX7_type_71 : decode cX7_type 71 = .ok (.lushr, 1) := by decide +kernel
theorem dX7_type_72 : decode cX7_type 72 = .ok (.l2i, 1) := by decide +kernel
theorem dX7_type_73 : decode cX7_type 73 = .ok (.i2b, 1) := by decide +kernel
theorem dX7_type_74 : decode cX7_type 74 = .ok (.bastore, 1) := by decide +kernel
theorem dX7_type_75 : decode cX7_type 75 = .ok (.aload_n 0, 1) := by decide +kernel
theorem dX7_type_76 : decode cX7_type 76 = .ok (.dup, 1) := by decide +kernel
theorem dX7_type_77 : decode cX7_type 77 = .ok (.getfield 79, 3) := by decide +kernel
theorem dX7_type_80 : decode cX7_type 80 = .ok (.iconst 1, 1) := by decide +kernel
theorem dX7_type_81 : decode cX7_type 81 = .ok (.iadd, 1) := by decide +kernel
theorem dX7_type_82 : decode cX7_type 82 = .ok (.putfield 79, 3) := by decide +kernel
theorem dX7_type_85 : decode cX7_type 85 = .ok (.iinc 4 (-1), 3) := by decide +kernel
theorem dX7_type_88 : decode cX7_type 88 = .ok (.goto (-55), 3) := by decide +kernel
theorem dX7_type_91 : decode cX7_type 91 = .ok (.aload_n 0, 1) := by decide +kernel
theorem dX7_type_92 : decode cX7_type 92 = .ok (.getfield 79, 3) := by decide +kernel
theorem dX7_type_95 : decode cX7_type 95 = .ok (.ireturn, 1) := by decide +kernel
theorem dX7_clear_0 : decode cX7_clear 0 = .ok (.aload_n 0, 1) := by decide +kernel
theorem dX7_clear_1 : decode cX7_clear 1 = .ok (.getfield 79, 3) := by decide +kernel
theorem dX7_clear_4 : decode cX7_clear 4 = .ok (.istore_n 1, 1) := by decide +kernel
theorem dX7_clear_5 : decode cX7_clear 5 = .ok (.aload_n 0, 1) := by decide +kernel
theorem dX7_clear_6 : decode cX7_clear 6 = .ok (.iconst 0, 1) := by decide +kernel
theorem dX7_clear_7 : decode cX7_clear 7 = .ok (.putfield 79, 3) := by decide +kernel
theorem dX7_clear_10 : decode cX7_clear 10 = .ok (.iload_n 1, 1) := by decide +kernel
theorem dX7_clear_11 : decode cX7_clear 11 = .ok (.ireturn, 1) := by decide +kernel
theorem dX7_law_0 : decode cX7_law 0 = .ok (.aload_n 0, 1) := by decide +kernel
theorem dX7_law_1 : decode cX7_law 1 = .ok (.getfield 28, 3) := by decide +kernel
theorem dX7_law_4 : decode cX7_law 4 = .ok (.aload_n 0, 1) := by decide +kernel
theorem dX7_law_5 : decode cX7_law 5 = .ok (.getfield 79, 3) := by decide +kernel
theorem dX7_law_8 : decode cX7_law 8 = .ok (.aload_n 0, 1) := by decide +kernel
theorem dX7_law_9 : decode cX7_law 9 = .ok (.getfield 20, 3) := by decide +kernel
theorem dX7_law_12 : decode cX7_law 12 = .ok (.invokevirtual 83, 3) := by decide +kernel
theorem dX7_law_15 : decode cX7_law 15 = .ok (.istore_n 1, 1) := by decide +kernel
theorem dX7_law_16 : decode cX7_law 16 = .ok (.iload_n 1, 1) := by decide +kernel
theorem dX7_law_17 : decode cX7_law 17 = .ok (.ifCond .lt 8, 3) := by decide +kernel
theorem dX7_law_20 : decode cX7_law 20 = .ok (.bipush (-10), 2) := by decide +kernel
theorem dX7_law_22 : decode cX7_law 22 = .ok (.iload_n 1, 1) := by decide +kernel
theorem dX7_law_23 : decode cX7_law 23 = .ok (.isub, 1) := by decide +kernel
theorem dX7_law_24 : decode cX7_law 24 = .ok (.ireturn, 1) := by decide +kernel
theorem dX7_law_25 : decode cX7_law 25 = .ok (.aload_n 0, 1) := by decide +kernel
theorem dX7_law_26 : decode cX7_law 26 = .ok (.getfield 20, 3) := by decide +kernel
theorem dX7_law_29 : decode cX7_law 29 = .ok (.astore_n 2, 1) := by decide +kernel
theorem dX7_law_30 : decode cX7_law 30 = .ok (.aload_n 0, 1) := by decide +kernel
theorem dX7_law_31 : decode cX7_law 31 = .ok (.aload_n 0, 1) := by decide +kernel
theorem dX7_law_32 : decode cX7_law 32 = .ok (.getfield 16, 3) := by decide +kernel
theorem dX7_law_35 : decode cX7_law 35 = .ok (.putfield 20, 3) := by decide +kernel
theorem dX7_law_38 : decode cX7_law 38 = .ok (.aload_n 0, 1) := by decide +kernel
theorem dX7_law_39 : decode cX7_law 39 = .ok (.aload_n 2, 1) := by decide +kernel
theorem dX7_law_40 : decode cX7_law 40 = .ok (.putfield 16, 3) := by decide +kernel
theorem dX7_law_43 : decode cX7_law 43 = .ok (.aload_n 0, 1) := by decide +kernel
theorem dX7_law_44 : decode cX7_law 44 = .ok (.iconst 0, 1) := by decide +kernel
theorem dX7_law_45 : decode cX7_law 45 = .ok (.putfield 79, 3) := by decide +kernel
theorem dX7_law_48 : decode cX7_law 48 = .ok (.aload_n 0, 1) := by decide +kernel
theorem dX7_law_49 : decode cX7_law 49 = .ok (.getfield 42, 3) := by decide +kernel
theorem dX7_law_52 : decode cX7_law 52 = .ok (.aload_n 0, 1) := by decide +kernel
theorem dX7_law_53 : decode cX7_law 53 = .ok (.getfield 35, 3) := by decide +kernel
theorem dX7_law_56 : decode cX7_law 56 = .ok (.invokevirtual 87, 3) := by decide +kernel
theorem dX7_law_59 : decode cX7_law 59 = .ok (.aload_n 0, 1) := by decide +kernel
theorem dX7_law_60 : decode cX7_law 60 = .ok (.iconst 0, 1) := by decide +kernel
theorem dX7_law_61 : decode cX7_law 61 = .ok (.putfield 91, 3) := by decide +kernel
theorem dX7_law_64 : decode cX7_law 64 = .ok (.aload_n 0, 1) := by decide +kernel
theorem dX7_law_65 : decode cX7_law 65 = .ok (.getfield 16, 3) := by decide +kernel
theorem dX7_law_68 : decode cX7_law 68 = .ok (.getfield 94, 3) := by decide +kernel
theorem dX7_law_71 : decode cX7_law 71 = .ok (.ireturn, 1) := by decide +kernel
theorem dX7_day_0 : decode cX7_day 0 = .ok (.aload_n 0, 1) := by decide +kernel
theorem dX7_day_1 : decode cX7_day 1 = .ok (.iload_n 1, 1) := by decide +kernel
theorem dX7_day_2 : decode cX7_day 2 = .ok (.invokevirtual 97, 3) := by decide +kernel
theorem dX7_day_5 : decode cX7_day 5 = .ok (.ifCond .eq 11, 3) := by decide +kernel
theorem dX7_day_8 : decode cX7_day 8 = .ok (.aload_n 0, 1) := by decide +kernel
theorem dX7_day_9 : decode cX7_day 9 = .ok (.iload_n 1, 1) := by decide +kernel
theorem dX7_day_10 : decode cX7_day 10 = .ok (.invokevirtual 101, 3) := by decide +kernel
theorem dX7_day_13 : decode cX7_day 13 = .ok (.goto 4, 3) := by decide +kernel
theorem dX7_day_16 : decode cX7_day 16 = .ok (.iconst (-1), 1) := by decide +kernel
theorem dX7_day_17 : decode cX7_day 17 = .ok (.ireturn, 1) := by decide +kernel
theorem dX7_days_0 : decode cX7_days 0 = .ok (.iload_n 1, 1) := by decide +kernel
theorem dX7_days_1 : decode cX7_days 1 = .ok (.invokestatic 105, 3) := by decide +kernel
theorem dX7_days_4 : decode cX7_days 4 = .ok (.ifCond .eq 19, 3) := by decide +kernel
theorem dX7_days_7 : decode cX7_days 7 = .ok (.aload_n 0, 1) := by decide +kernel
theorem dX7_days_8 : decode cX7_days 8 = .ok (.iload_n 2, 1) := by decide +kernel
theorem dX7_days_9 : decode cX7_days 9 = .ok (.invokevirtual 97, 3) := by decide +kernel
theorem dX7_days_12 : decode cX7_days 12 = .ok (.ifCond .eq 11, 3) := by decide +kernel
theorem dX7_days_15 : decode cX7_days 15 = .ok (.aload_n 0, 1) := by decide +kernel
theorem dX7_days_16 : decode cX7_days 16 = .ok (.iload_n 3, 1) := by decide +kernel
theorem dX7_days_17 : decode cX7_days 17 = .ok (.invokevirtual 97, 3) := by decide +kernel
theorem dX7_days_20 : decode cX7_days 20 = .ok (.ifCond .ne 5, 3) := by decide +kernel
theorem dX7_days_23 : decode cX7_days 23 = .ok (.iconst (-1), 1) := by decide +kernel
theorem dX7_days_24 : decode cX7_days 24 = .ok (.ireturn, 1) := by decide +kernel
theorem dX7_days_25 : decode cX7_days 25 = .ok (.iconst 0, 1) := by decide +kernel
theorem dX7_days_26 : decode cX7_days 26 = .ok (.istore 4, 2) := by decide +kernel
theorem dX7_days_28 : decode cX7_days 28 = .ok (.iload_n 2, 1) := by decide +kernel
theorem dX7_days_29 : decode cX7_days 29 = .ok (.istore 5, 2) := by decide +kernel
theorem dX7_days_31 : decode cX7_days 31 = .ok (.iload 5, 2) := by decide +kernel
theorem dX7_days_33 : decode cX7_days 33 = .ok (.iload_n 3, 1) := by decide +kernel
theorem dX7_days_34 : decode cX7_days 34 = .ok (.if_icmp .gt 22, 3) := by decide +kernel
theorem dX7_days_37 : decode cX7_days 37 = .ok (.aload_n 0, 1) := by decide +kernel
theorem dX7_days_38 : decode cX7_days 38 = .ok (.iload 5, 2) := by decide +kernel
theorem dX7_days_40 : decode cX7_days 40 = .ok (.invokevirtual 101, 3) := by decide +kernel
theorem dX7_days_43 : decode cX7_days 43 = .ok (.iload_n 1, 1) := by decide +kernel
theorem dX7_days_44 : decode cX7_days 44 = .ok (.if_icmp .ne 6, 3) := by decide +kernel
theorem dX7_days_47 : decode cX7_days 47 = .ok (.iinc 4 1, 3) := by decide +kernel
theorem dX7_days_50 : decode cX7_days 50 = .ok (.iinc 5 1, 3) := by decide +kernel
theorem dX7_days_53 : decode cX7_days 53 = .ok (.goto (-22), 3) := by decide +kernel
theorem dX7_days_56 : decode cX7_days 56 = .ok (.iload 4, 2) := by decide +kernel
theorem dX7_days_58 : decode cX7_days 58 = .ok (.ireturn, 1) := by decide +kernel
theorem dX7_step_0 : decode cX7_step 0 = .ok (.aload_n 0, 1) := by decide +kernel
theorem dX7_step_1 : decode cX7_step 1 = .ok (.getfield 16, 3) := by decide +kernel
theorem dX7_step_4 : decode cX7_step 4 = .ok (.iload_n 1, 1) := by decide +kernel
theorem dX7_step_5 : decode cX7_step 5 = .ok (.iload_n 2, 1) := by decide +kernel
theorem dX7_step_6 : decode cX7_step 6 = .ok (.invokevirtual 108, 3) := by decide +kernel
theorem dX7_step_9 : decode cX7_step 9 = .ok (.ifCond .eq 12, 3) := by decide +kernel
theorem dX7_step_12 : decode cX7_step 12 = .ok (.iload_n 3, 1) := by decide +kernel
theorem dX7_step_13 : decode cX7_step 13 = .ok (.ifCond .lt 8, 3) := by decide +kernel
theorem dX7_step_16 : decode cX7_step 16 = .ok (.iload_n 3, 1) := by decide +kernel
theorem dX7_step_17 : decode cX7_step 17 = .ok (.iconst 4, 1) := by decide +kernel
theorem dX7_step_18 : decode cX7_step 18 = .ok (.if_icmp .le 5, 3) := by decide +kernel
theorem dX7_step_21 : decode cX7_step 21 = .ok (.iconst (-1), 1) := by decide +kernel
theorem dX7_step_22 : decode cX7_step 22 = .ok (.ireturn, 1) := by decide +kernel
theorem dX7_step_23 : decode cX7_step 23 = .ok (.aload_n 0, 1) := by decide +kernel
theorem dX7_step_24 : decode cX7_step 24 = .ok (.getfield 16, 3) := by decide +kernel
theorem dX7_step_27 : decode cX7_step 27 = .ok (.iload_n 1, 1) := by decide +kernel
theorem dX7_step_28 : decode cX7_step 28 = .ok (.iload_n 2, 1) := by decide +kernel
theorem dX7_step_29 : decode cX7_step 29 = .ok (.invokevirtual 112, 3) := by decide +kernel
theorem dX7_step_32 : decode cX7_step 32 = .ok (.astore 4, 2) := by decide +kernel
theorem dX7_step_34 : decode cX7_step 34 = .ok (.iload_n 3, 1) := by decide +kernel
theorem dX7_step_35 : decode cX7_step 35 = .ok (.tableswitch 61 0 3 #[29, 35, 41, 55], 29) := by decide +kernel
theorem dX7_step_64 : decode cX7_step 64 = .ok (.aload 4, 2) := by decide +kernel
theorem dX7_step_66 : decode cX7_step 66 = .ok (.getfield 116, 3) := by decide +kernel
theorem dX7_step_69 : decode cX7_step 69 = .ok (.ireturn, 1) := by decide +kernel
theorem dX7_step_70 : decode cX7_step 70 = .ok (.aload 4, 2) := by decide +kernel
theorem dX7_step_72 : decode cX7_step 72 = .ok (.getfield 121, 3) := by decide +kernel
theorem dX7_step_75 : decode cX7_step 75 = .ok (.ireturn, 1) := by decide +kernel
theorem dX7_step_76 : decode cX7_step 76 = .ok (.aload 4, 2) := by decide +kernel
theorem dX7_step_78 : decode cX7_step 78 = .ok (.getfield 124, 3) := by decide +kernel
theorem dX7_step_81 : decode cX7_step 81 = .ok (.ifCond .eq 7, 3) := by decide +kernel
theorem dX7_step_84 : decode cX7_step 84 = .ok (.iconst 1, 1) := by decide +kernel
theorem dX7_step_85 : decode cX7_step 85 = .ok (.goto 4, 3) := by decide +kernel
theorem dX7_step_88 : decode cX7_step 88 = .ok (.iconst 0, 1) := by decide +kernel
theorem dX7_step_89 : decode cX7_step 89 = .ok (.ireturn, 1) := by decide +kernel
theorem dX7_step_90 : decode cX7_step 90 = .ok (.aload 4, 2) := by decide +kernel
theorem dX7_step_92 : decode cX7_step 92 = .ok (.getfield 128, 3) := by decide +kernel
theorem dX7_step_95 : decode cX7_step 95 = .ok (.ireturn, 1) := by decide +kernel
theorem dX7_step_96 : decode cX7_step 96 = .ok (.aload 4, 2) := by decide +kernel
theorem dX7_step_98 : decode cX7_step 98 = .ok (.getfield 131, 3) := by decide +kernel
theorem dX7_step_101 : decode cX7_step 101 = .ok (.ireturn, 1) := by decide +kernel
theorem dX7_may_0 : decode cX7_may 0 = .ok (.aload_n 0, 1) := by decide +kernel
theorem dX7_may_1 : decode cX7_may 1 = .ok (.getfield 16, 3) := by decide +kernel
theorem dX7_may_4 : decode cX7_may 4 = .ok (.iload_n 1, 1) := by decide +kernel
theorem dX7_may_5 : decode cX7_may 5 = .ok (.iload_n 2, 1) := by decide +kernel
theorem dX7_may_6 : decode cX7_may 6 = .ok (.invokevirtual 108, 3) := by decide +kernel
theorem dX7_may_9 : decode cX7_may 9 = .ok (.ifCond .eq 26, 3) := by decide +kernel
theorem dX7_may_12 : decode cX7_may 12 = .ok (.aload_n 0, 1) := by decide +kernel
theorem dX7_may_13 : decode cX7_may 13 = .ok (.iload 4, 2) := by decide +kernel
theorem dX7_may_15 : decode cX7_may 15 = .ok (.invokevirtual 97, 3) := by decide +kernel
theorem dX7_may_18 : decode cX7_may 18 = .ok (.ifCond .eq 17, 3) := by decide +kernel
theorem dX7_may_21 : decode cX7_may 21 = .ok (.iload_n 3, 1) := by decide +kernel
theorem dX7_may_22 : decode cX7_may 22 = .ok (.bipush (-9), 2) := by decide +kernel
theorem dX7_may_24 : decode cX7_may 24 = .ok (.if_icmp .eq 13, 3) := by decide +kernel
theorem dX7_may_27 : decode cX7_may 27 = .ok (.aload_n 0, 1) := by decide +kernel
theorem dX7_may_28 : decode cX7_may 28 = .ok (.iload_n 3, 1) := by decide +kernel
theorem dX7_may_29 : decode cX7_may 29 = .ok (.invokevirtual 97, 3) := by decide +kernel
theorem dX7_may_32 : decode cX7_may 32 = .ok (.ifCond .ne 5, 3) := by decide +kernel
theorem dX7_may_35 : decode cX7_may 35 = .ok (.iconst (-1), 1) := by decide +kernel
theorem dX7_may_36 : decode cX7_may 36 = .ok (.ireturn, 1) := by decide +kernel
theorem dX7_may_37 : decode cX7_may 37 = .ok (.aload_n 0, 1) := by decide +kernel
theorem dX7_may_38 : decode cX7_may 38 = .ok (.iload_n 1, 1) := by decide +kernel
theorem dX7_may_39 : decode cX7_may 39 = .ok (.iload_n 2, 1) := by decide +kernel
theorem dX7_may_40 : decode cX7_may 40 = .ok (.iload_n 3, 1) := by decide +kernel
theorem dX7_may_41 : decode cX7_may 41 = .ok (.iload 4, 2) := by decide +kernel
theorem dX7_may_43 : decode cX7_may 43 = .ok (.invokevirtual 134, 3) := by decide +kernel
theorem dX7_may_46 : decode cX7_may 46 = .ok (.ifCond .eq 7, 3) := by decide +kernel
theorem dX7_may_49 : decode cX7_may 49 = .ok (.iconst 1, 1) := by decide +kernel
theorem dX7_may_50 : decode cX7_may 50 = .ok (.goto 4, 3) := by decide +kernel
theorem dX7_may_53 : decode cX7_may 53 = .ok (.iconst 0, 1) := by decide +kernel
theorem dX7_may_54 : decode cX7_may 54 = .ok (.ireturn, 1) := by decide +kernel
theorem dX7_isBill_0 : decode cX7_isBill 0 = .ok (.iload_n 0, 1) := by decide +kernel
theorem dX7_isBill_1 : decode cX7_isBill 1 = .ok (.ifCond .lt 12, 3) := by decide +kernel
theorem dX7_isBill_4 : decode cX7_isBill 4 = .ok (.iload_n 0, 1) := by decide +kernel
theorem dX7_isBill_5 : decode cX7_isBill 5 = .ok (.iconst 2, 1) := by decide +kernel
theorem dX7_isBill_6 : decode cX7_isBill 6 = .ok (.if_icmp .ge 7, 3) := by decide +kernel
theorem dX7_isBill_9 : decode cX7_isBill 9 = .ok (.iconst 1, 1) := by decide +kernel
theorem dX7_isBill_10 : decode cX7_isBill 10 = .ok (.goto 4, 3) := by decide +kernel
theorem dX7_isBill_13 : decode cX7_isBill 13 = .ok (.iconst 0, 1) := by decide +kernel
theorem dX7_isBill_14 : decode cX7_isBill 14 = .ok (.ireturn, 1) := by decide +kernel
theorem dX7_isKind_0 : decode cX7_isKind 0 = .ok (.iload_n 0, 1) := by decide +kernel
theorem dX7_isKind_1 : decode cX7_isKind 1 = .ok (.ifCond .lt 12, 3) := by decide +kernel
theorem dX7_isKind_4 : decode cX7_isKind 4 = .ok (.iload_n 0, 1) := by decide +kernel
theorem dX7_isKind_5 : decode cX7_isKind 5 = .ok (.iconst 3, 1) := by decide +kernel
theorem dX7_isKind_6 : decode cX7_isKind 6 = .ok (.if_icmp .gt 7, 3) := by decide +kernel
theorem dX7_isKind_9 : decode cX7_isKind 9 = .ok (.iconst 1, 1) := by decide +kernel
theorem dX7_isKind_10 : decode cX7_isKind 10 = .ok (.goto 4, 3) := by decide +kernel
theorem dX7_isKind_13 : decode cX7_isKind 13 = .ok (.iconst 0, 1) := by decide +kernel
theorem dX7_isKind_14 : decode cX7_isKind 14 = .ok (.ireturn, 1) := by decide +kernel
theorem dX7_isDay_0 : decode cX7_isDay 0 = .ok (.iload_n 1, 1) := by decide +kernel
theorem dX7_isDay_1 : decode cX7_isDay 1 = .ok (.ifCond .lt 18, 3) := by decide +kernel
theorem dX7_isDay_4 : decode cX7_isDay 4 = .ok (.iload_n 1, 1) := by decide +kernel
theorem dX7_isDay_5 : decode cX7_isDay 5 = .ok (.aload_n 0, 1) := by decide +kernel
theorem dX7_isDay_6 : decode cX7_isDay 6 = .ok (.getfield 16, 3) := by decide +kernel
theorem dX7_isDay_9 : decode cX7_isDay 9 = .ok (.getfield 138, 3) := by decide +kernel
theorem dX7_isDay_12 : decode cX7_isDay 12 = .ok (.if_icmp .ge 7, 3) := by decide +kernel
theorem dX7_isDay_15 : decode cX7_isDay 15 = .ok (.iconst 1, 1) := by decide +kernel
theorem dX7_isDay_16 : decode cX7_isDay 16 = .ok (.goto 4, 3) := by decide +kernel
theorem dX7_isDay_19 : decode cX7_isDay 19 = .ok (.iconst 0, 1) := by decide +kernel
theorem dX7_isDay_20 : decode cX7_isDay 20 = .ok (.ireturn, 1) := by decide +kernel
theorem dX7_kindNow_0 : decode cX7_kindNow 0 = .ok (.aload_n 0, 1) := by decide +kernel
theorem dX7_kindNow_1 : decode cX7_kindNow 1 = .ok (.getfield 42, 3) := by decide +kernel
theorem dX7_kindNow_4 : decode cX7_kindNow 4 = .ok (.iload_n 1, 1) := by decide +kernel
theorem dX7_kindNow_5 : decode cX7_kindNow 5 = .ok (.invokevirtual 141, 3) := by decide +kernel
theorem dX7_kindNow_8 : decode cX7_kindNow 8 = .ok (.ifCond .eq 7, 3) := by decide +kernel
theorem dX7_kindNow_11 : decode cX7_kindNow 11 = .ok (.iconst 2, 1) := by decide +kernel
theorem dX7_kindNow_12 : decode cX7_kindNow 12 = .ok (.goto 11, 3) := by decide +kernel
theorem dX7_kindNow_15 : decode cX7_kindNow 15 = .ok (.aload_n 0, 1) := by decide +kernel
theorem dX7_kindNow_16 : decode cX7_kindNow 16 = .ok (.getfield 16, 3) := by decide +kernel
theorem dX7_kindNow_19 : decode cX7_kindNow 19 = .ok (.iload_n 1, 1) := by decide +kernel
theorem dX7_kindNow_20 : decode cX7_kindNow 20 = .ok (.invokevirtual 144, 3) := by decide +kernel
theorem dX7_kindNow_23 : decode cX7_kindNow 23 = .ok (.ireturn, 1) := by decide +kernel
theorem dX7_mayBeDone_0 : decode cX7_mayBeDone 0 = .ok (.aload_n 0, 1) := by decide +kernel
theorem dX7_mayBeDone_1 : decode cX7_mayBeDone 1 = .ok (.getfield 58, 3) := by decide +kernel
theorem dX7_mayBeDone_4 : decode cX7_mayBeDone 4 = .ok (.aload_n 0, 1) := by decide +kernel
theorem dX7_mayBeDone_5 : decode cX7_mayBeDone 5 = .ok (.getfield 16, 3) := by decide +kernel
theorem dX7_mayBeDone_8 : decode cX7_mayBeDone 8 = .ok (.aload_n 0, 1) := by decide +kernel
theorem dX7_mayBeDone_9 : decode cX7_mayBeDone 9 = .ok (.getfield 42, 3) := by decide +kernel
theorem dX7_mayBeDone_12 : decode cX7_mayBeDone 12 = .ok (.invokevirtual 147, 3) := by decide +kernel
theorem dX7_mayBeDone_15 : decode cX7_mayBeDone 15 = .ok (.aload_n 0, 1) := by decide +kernel
theorem dX7_mayBeDone_16 : decode cX7_mayBeDone 16 = .ok (.getfield 16, 3) := by decide +kernel
theorem dX7_mayBeDone_19 : decode cX7_mayBeDone 19 = .ok (.iload_n 1, 1) := by decide +kernel
theorem dX7_mayBeDone_20 : decode cX7_mayBeDone 20 = .ok (.iload_n 2, 1) := by decide +kernel
theorem dX7_mayBeDone_21 : decode cX7_mayBeDone 21 = .ok (.invokevirtual 112, 3) := by decide +kernel
theorem dX7_mayBeDone_24 : decode cX7_mayBeDone 24 = .ok (.astore 5, 2) := by decide +kernel
theorem dX7_mayBeDone_26 : decode cX7_mayBeDone 26 = .ok (.aload_n 0, 1) := by decide +kernel
theorem dX7_mayBeDone_27 : decode cX7_mayBeDone 27 = .ok (.getfield 58, 3) := by decide +kernel
theorem dX7_mayBeDone_30 : decode cX7_mayBeDone 30 = .ok (.aload 5, 2) := by decide +kernel
theorem dX7_mayBeDone_32 : decode cX7_mayBeDone 32 = .ok (.iload 4, 2) := by decide +kernel
theorem dX7_mayBeDone_34 : decode cX7_mayBeDone 34 = .ok (.invokevirtual 151, 3) := by decide +kernel
theorem dX7_mayBeDone_37 : decode cX7_mayBeDone 37 = .ok (.ifCond .eq 31, 3) := by decide +kernel
theorem dX7_mayBeDone_40 : decode cX7_mayBeDone 40 = .ok (.aload_n 0, 1) := by decide +kernel
theorem dX7_mayBeDone_41 : decode cX7_mayBeDone 41 = .ok (.getfield 58, 3) := by decide +kernel
theorem dX7_mayBeDone_44 : decode cX7_mayBeDone 44 = .ok (.aload 5, 2) := by decide +kernel
theorem dX7_mayBeDone_46 : decode cX7_mayBeDone 46 = .ok (.iload_n 2, 1) := by decide +kernel
theorem dX7_mayBeDone_47 : decode cX7_mayBeDone 47 = .ok (.ifCond .ne 8, 3) := by decide +kernel
theorem dX7_mayBeDone_50 : decode cX7_mayBeDone 50 = .ok (.bipush (-9), 2) := by decide +kernel
theorem dX7_mayBeDone_52 : decode cX7_mayBeDone 52 = .ok (.goto 4, 3) := by decide +kernel
theorem dX7_mayBeDone_55 : decode cX7_mayBeDone 55 = .ok (.iload_n 3, 1) := by decide +kernel
theorem dX7_mayBeDone_56 : decode cX7_mayBeDone 56 = .ok (.iload 4, 2) := by decide +kernel
theorem dX7_mayBeDone_58 : decode cX7_mayBeDone 58 = .ok (.invokevirtual 155, 3) := by decide +kernel
theorem dX7_mayBeDone_61 : decode cX7_mayBeDone 61 = .ok (.ifCond .eq 7, 3) := by decide +kernel
theorem dX7_mayBeDone_64 : decode cX7_mayBeDone 64 = .ok (.iconst 1, 1) := by decide +kernel
theorem dX7_mayBeDone_65 : decode cX7_mayBeDone 65 = .ok (.goto 4, 3) := by decide +kernel
theorem dX7_mayBeDone_68 : decode cX7_mayBeDone 68 = .ok (.iconst 0, 1) := by decide +kernel
theorem dX7_mayBeDone_69 : decode cX7_mayBeDone 69 = .ok (.ireturn, 1) := by decide +kernel
theorem dX7_person_0 : decode cX7_person 0 = .ok (.iload_n 1, 1) := by decide +kernel
theorem dX7_person_1 : decode cX7_person 1 = .ok (.ifCond .lt 17, 3) := by decide +kernel
theorem dX7_person_4 : decode cX7_person 4 = .ok (.iload_n 1, 1) := by decide +kernel
theorem dX7_person_5 : decode cX7_person 5 = .ok (.iconst 2, 1) := by decide +kernel
theorem dX7_person_6 : decode cX7_person 6 = .ok (.if_icmp .gt 12, 3) := by decide +kernel
theorem dX7_person_9 : decode cX7_person 9 = .ok (.iload_n 2, 1) := by decide +kernel
theorem dX7_person_10 : decode cX7_person 10 = .ok (.ifCond .lt 8, 3) := by decide +kernel
theorem dX7_person_13 : decode cX7_person 13 = .ok (.iload_n 2, 1) := by decide +kernel
theorem dX7_person_14 : decode cX7_person 14 = .ok (.iconst 3, 1) := by decide +kernel
theorem dX7_person_15 : decode cX7_person 15 = .ok (.if_icmp .le 5, 3) := by decide +kernel
theorem dX7_person_18 : decode cX7_person 18 = .ok (.iconst (-1), 1) := by decide +kernel
theorem dX7_person_19 : decode cX7_person 19 = .ok (.ireturn, 1) := by decide +kernel
theorem dX7_person_20 : decode cX7_person 20 = .ok (.aload_n 0, 1) := by decide +kernel
theorem dX7_person_21 : decode cX7_person 21 = .ok (.getfield 35, 3) := by decide +kernel
theorem dX7_person_24 : decode cX7_person 24 = .ok (.iload_n 1, 1) := by decide +kernel
theorem dX7_person_25 : decode cX7_person 25 = .ok (.iload_n 2, 1) := by decide +kernel
theorem dX7_person_26 : decode cX7_person 26 = .ok (.invokevirtual 159, 3) := by decide +kernel
theorem dX7_person_29 : decode cX7_person 29 = .ok (.ifCond .ne 6, 3) := by decide +kernel
theorem dX7_person_32 : decode cX7_person 32 = .ok (.bipush (-3), 2) := by decide +kernel
theorem dX7_person_34 : decode cX7_person 34 = .ok (.ireturn, 1) := by decide +kernel
theorem dX7_person_35 : decode cX7_person 35 = .ok (.aload_n 0, 1) := by decide +kernel
theorem dX7_person_36 : decode cX7_person 36 = .ok (.getfield 35, 3) := by decide +kernel
theorem dX7_person_39 : decode cX7_person 39 = .ok (.iload_n 1, 1) := by decide +kernel
theorem dX7_person_40 : decode cX7_person 40 = .ok (.iload_n 2, 1) := by decide +kernel
theorem dX7_person_41 : decode cX7_person 41 = .ok (.invokevirtual 162, 3) := by decide +kernel
theorem dX7_person_44 : decode cX7_person 44 = .ok (.istore_n 3, 1) := by decide +kernel
theorem dX7_person_45 : decode cX7_person 45 = .ok (.aload_n 0, 1) := by decide +kernel
theorem dX7_person_46 : decode cX7_person 46 = .ok (.getfield 42, 3) := by decide +kernel
theorem dX7_person_49 : decode cX7_person 49 = .ok (.getfield 166, 3) := by decide +kernel
theorem dX7_person_52 : decode cX7_person 52 = .ok (.iload_n 3, 1) := by decide +kernel
theorem dX7_person_53 : decode cX7_person 53 = .ok (.iload_n 2, 1) := by decide +kernel
theorem dX7_person_54 : decode cX7_person 54 = .ok (.invokestatic 169, 3) := by decide +kernel
theorem dX7_person_57 : decode cX7_person 57 = .ok (.iload_n 3, 1) := by decide +kernel
theorem dX7_person_58 : decode cX7_person 58 = .ok (.ireturn, 1) := by decide +kernel
theorem dX7_who_0 : decode cX7_who 0 = .ok (.aload_n 0, 1) := by decide +kernel
theorem dX7_who_1 : decode cX7_who 1 = .ok (.getfield 35, 3) := by decide +kernel
theorem dX7_who_4 : decode cX7_who 4 = .ok (.iload_n 1, 1) := by decide +kernel
theorem dX7_who_5 : decode cX7_who 5 = .ok (.invokevirtual 173, 3) := by decide +kernel
theorem dX7_who_8 : decode cX7_who 8 = .ok (.ifCond .eq 12, 3) := by decide +kernel
theorem dX7_who_11 : decode cX7_who 11 = .ok (.iload_n 2, 1) := by decide +kernel
theorem dX7_who_12 : decode cX7_who 12 = .ok (.ifCond .lt 8, 3) := by decide +kernel
theorem dX7_who_15 : decode cX7_who 15 = .ok (.iload_n 2, 1) := by decide +kernel
theorem dX7_who_16 : decode cX7_who 16 = .ok (.iconst 2, 1) := by decide +kernel
theorem dX7_who_17 : decode cX7_who 17 = .ok (.if_icmp .le 5, 3) := by decide +kernel
theorem dX7_who_20 : decode cX7_who 20 = .ok (.iconst (-1), 1) := by decide +kernel
theorem dX7_who_21 : decode cX7_who 21 = .ok (.ireturn, 1) := by decide +kernel
theorem dX7_who_22 : decode cX7_who 22 = .ok (.iload_n 2, 1) := by decide +kernel
theorem dX7_who_23 : decode cX7_who 23 = .ok (.lookupswitch 43 #[(0, 25), (1, 34)], 25) := by decide +kernel
theorem dX7_who_48 : decode cX7_who 48 = .ok (.aload_n 0, 1) := by decide +kernel
theorem dX7_who_49 : decode cX7_who 49 = .ok (.getfield 35, 3) := by decide +kernel
theorem dX7_who_52 : decode cX7_who 52 = .ok (.iload_n 1, 1) := by decide +kernel
theorem dX7_who_53 : decode cX7_who 53 = .ok (.invokevirtual 176, 3) := by decide +kernel
theorem dX7_who_56 : decode cX7_who 56 = .ok (.ireturn, 1) := by decide +kernel
theorem dX7_who_57 : decode cX7_who 57 = .ok (.aload_n 0, 1) := by decide +kernel
theorem dX7_who_58 : decode cX7_who 58 = .ok (.getfield 35, 3) := by decide +kernel
theorem dX7_who_61 : decode cX7_who 61 = .ok (.iload_n 1, 1) := by decide +kernel
theorem dX7_who_62 : decode cX7_who 62 = .ok (.invokevirtual 179, 3) := by decide +kernel
theorem dX7_who_65 : decode cX7_who 65 = .ok (.ireturn, 1) := by decide +kernel
theorem dX7_who_66 : decode cX7_who 66 = .ok (.aload_n 0, 1) := by decide +kernel
theorem dX7_who_67 : decode cX7_who 67 = .ok (.getfield 42, 3) := by decide +kernel
theorem dX7_who_70 : decode cX7_who 70 = .ok (.getfield 166, 3) := by decide +kernel
theorem dX7_who_73 : decode cX7_who 73 = .ok (.iload_n 1, 1) := by decide +kernel
theorem dX7_who_74 : decode cX7_who 74 = .ok (.invokestatic 182, 3) := by decide +kernel
theorem dX7_who_77 : decode cX7_who 77 = .ok (.ireturn, 1) := by decide +kernel
theorem dX7_act_0 : decode cX7_act 0 = .ok (.iload_n 1, 1) := by decide +kernel
theorem dX7_act_1 : decode cX7_act 1 = .ok (.ifCond .lt 28, 3) := by decide +kernel
theorem dX7_act_4 : decode cX7_act 4 = .ok (.iload_n 1, 1) := by decide +kernel
theorem dX7_act_5 : decode cX7_act 5 = .ok (.iconst 5, 1) := by decide +kernel
theorem dX7_act_6 : decode cX7_act 6 = .ok (.if_icmp .gt 23, 3) := by decide +kernel
theorem dX7_act_9 : decode cX7_act 9 = .ok (.aload_n 0, 1) := by decide +kernel
theorem dX7_act_10 : decode cX7_act 10 = .ok (.getfield 35, 3) := by decide +kernel
theorem dX7_act_13 : decode cX7_act 13 = .ok (.iload_n 2, 1) := by decide +kernel
theorem dX7_act_14 : decode cX7_act 14 = .ok (.invokevirtual 173, 3) := by decide +kernel
theorem dX7_act_17 : decode cX7_act 17 = .ok (.ifCond .eq 12, 3) := by decide +kernel
theorem dX7_act_20 : decode cX7_act 20 = .ok (.aload_n 0, 1) := by decide +kernel
theorem dX7_act_21 : decode cX7_act 21 = .ok (.iload_n 1, 1) := by decide +kernel
theorem dX7_act_22 : decode cX7_act 22 = .ok (.iload_n 3, 1) := by decide +kernel
theorem dX7_act_23 : decode cX7_act 23 = .ok (.invokevirtual 186, 3) := by decide +kernel
theorem dX7_act_26 : decode cX7_act 26 = .ok (.ifCond .ne 5, 3) := by decide +kernel
theorem dX7_act_29 : decode cX7_act 29 = .ok (.iconst (-1), 1) := by decide +kernel
theorem dX7_act_30 : decode cX7_act 30 = .ok (.ireturn, 1) := by decide +kernel
theorem dX7_act_31 : decode cX7_act 31 = .ok (.aload_n 0, 1) := by decide +kernel
theorem dX7_act_32 : decode cX7_act 32 = .ok (.iload_n 1, 1) := by decide +kernel
theorem dX7_act_33 : decode cX7_act 33 = .ok (.iload_n 2, 1) := by decide +kernel
theorem dX7_act_34 : decode cX7_act 34 = .ok (.iload_n 3, 1) := by decide +kernel
theorem dX7_act_35 : decode cX7_act 35 = .ok (.invokevirtual 189, 3) := by decide +kernel
theorem dX7_act_38 : decode cX7_act 38 = .ok (.istore 4, 2) := by decide +kernel
theorem dX7_act_40 : decode cX7_act 40 = .ok (.iload 4, 2) := by decide +kernel
theorem dX7_act_42 : decode cX7_act 42 = .ok (.ifCond .ne 10, 3) := by decide +kernel
theorem dX7_act_45 : decode cX7_act 45 = .ok (.aload_n 0, 1) := by decide +kernel
theorem dX7_act_46 : decode cX7_act 46 = .ok (.getfield 42, 3) := by decide +kernel
theorem dX7_act_49 : decode cX7_act 49 = .ok (.invokevirtual 193, 3) := by decide +kernel
theorem dX7_act_52 : decode cX7_act 52 = .ok (.aload_n 0, 1) := by decide +kernel
theorem dX7_act_53 : decode cX7_act 53 = .ok (.getfield 42, 3) := by decide +kernel
theorem dX7_act_56 : decode cX7_act 56 = .ok (.iload 4, 2) := by decide +kernel
theorem dX7_act_58 : decode cX7_act 58 = .ok (.ifCond .eq 7, 3) := by decide +kernel
theorem dX7_act_61 : decode cX7_act 61 = .ok (.iload_n 1, 1) := by decide +kernel
theorem dX7_act_62 : decode cX7_act 62 = .ok (.goto 5, 3) := by decide +kernel
theorem dX7_act_65 : decode cX7_act 65 = .ok (.bipush (-9), 2) := by decide +kernel
theorem dX7_act_67 : decode cX7_act 67 = .ok (.putfield 196, 3) := by decide +kernel
theorem dX7_act_70 : decode cX7_act 70 = .ok (.aload_n 0, 1) := by decide +kernel
theorem dX7_act_71 : decode cX7_act 71 = .ok (.getfield 42, 3) := by decide +kernel
theorem dX7_act_74 : decode cX7_act 74 = .ok (.dup, 1) := by decide +kernel
theorem dX7_act_75 : decode cX7_act 75 = .ok (.getfield 199, 3) := by decide +kernel
theorem dX7_act_78 : decode cX7_act 78 = .ok (.iconst 1, 1) := by decide +kernel
theorem dX7_act_79 : decode cX7_act 79 = .ok (.iadd, 1) := by decide +kernel
theorem dX7_act_80 : decode cX7_act 80 = .ok (.putfield 199, 3) := by decide +kernel
theorem dX7_act_83 : decode cX7_act 83 = .ok (.iload 4, 2) := by decide +kernel
theorem dX7_act_85 : decode cX7_act 85 = .ok (.ifCond .eq 7, 3) := by decide +kernel
theorem dX7_act_88 : decode cX7_act 88 = .ok (.iconst 1, 1) := by decide +kernel
theorem dX7_act_89 : decode cX7_act 89 = .ok (.goto 4, 3) := by decide +kernel
theorem dX7_act_92 : decode cX7_act 92 = .ok (.iconst 0, 1) := by decide +kernel
theorem dX7_act_93 : decode cX7_act 93 = .ok (.ireturn, 1) := by decide +kernel
theorem dX7_now_0 : decode cX7_now 0 = .ok (.iload_n 1, 1) := by decide +kernel
theorem dX7_now_1 : decode cX7_now 1 = .ok (.tableswitch 104 0 6 #[43, 51, 59, 67, 75, 91, 96], 43) := by decide +kernel
theorem dX7_now_44 : decode cX7_now 44 = .ok (.aload_n 0, 1) := by decide +kernel
theorem dX7_now_45 : decode cX7_now 45 = .ok (.getfield 42, 3) := by decide +kernel
theorem dX7_now_48 : decode cX7_now 48 = .ok (.getfield 201, 3) := by decide +kernel
theorem dX7_now_51 : decode cX7_now 51 = .ok (.ireturn, 1) := by decide +kernel
theorem dX7_now_52 : decode cX7_now 52 = .ok (.aload_n 0, 1) := by decide +kernel
theorem dX7_now_53 : decode cX7_now 53 = .ok (.getfield 42, 3) := by decide +kernel
theorem dX7_now_56 : decode cX7_now 56 = .ok (.getfield 199, 3) := by decide +kernel
theorem dX7_now_59 : decode cX7_now 59 = .ok (.ireturn, 1) := by decide +kernel
theorem dX7_now_60 : decode cX7_now 60 = .ok (.aload_n 0, 1) := by decide +kernel
theorem dX7_now_61 : decode cX7_now 61 = .ok (.getfield 42, 3) := by decide +kernel
theorem dX7_now_64 : decode cX7_now 64 = .ok (.getfield 204, 3) := by decide +kernel
theorem dX7_now_67 : decode cX7_now 67 = .ok (.ireturn, 1) := by decide +kernel
theorem dX7_now_68 : decode cX7_now 68 = .ok (.aload_n 0, 1) := by decide +kernel
theorem dX7_now_69 : decode cX7_now 69 = .ok (.getfield 42, 3) := by decide +kernel
theorem dX7_now_72 : decode cX7_now 72 = .ok (.getfield 207, 3) := by decide +kernel
theorem dX7_now_75 : decode cX7_now 75 = .ok (.ireturn, 1) := by decide +kernel
theorem dX7_now_76 : decode cX7_now 76 = .ok (.aload_n 0, 1) := by decide +kernel
theorem dX7_now_77 : decode cX7_now 77 = .ok (.getfield 42, 3) := by decide +kernel
theorem dX7_now_80 : decode cX7_now 80 = .ok (.getfield 210, 3) := by decide +kernel
theorem dX7_now_83 : decode cX7_now 83 = .ok (.ifCond .eq 7, 3) := by decide +kernel
theorem dX7_now_86 : decode cX7_now 86 = .ok (.iconst 1, 1) := by decide +kernel
theorem dX7_now_87 : decode cX7_now 87 = .ok (.goto 4, 3) := by decide +kernel
theorem dX7_now_90 : decode cX7_now 90 = .ok (.iconst 0, 1) := by decide +kernel
theorem dX7_now_91 : decode cX7_now 91 = .ok (.ireturn, 1) := by decide +kernel
theorem dX7_now_92 : decode cX7_now 92 = .ok (.aload_n 0, 1) := by decide +kernel
theorem dX7_now_93 : decode cX7_now 93 = .ok (.invokevirtual 213, 3) := by decide +kernel
theorem dX7_now_96 : decode cX7_now 96 = .ok (.ireturn, 1) := by decide +kernel
theorem dX7_now_97 : decode cX7_now 97 = .ok (.aload_n 0, 1) := by decide +kernel
theorem dX7_now_98 : decode cX7_now 98 = .ok (.getfield 42, 3) := by decide +kernel
theorem dX7_now_101 : decode cX7_now 101 = .ok (.getfield 217, 3) := by decide +kernel
theorem dX7_now_104 : decode cX7_now 104 = .ok (.ireturn, 1) := by decide +kernel
theorem dX7_now_105 : decode cX7_now 105 = .ok (.iconst (-1), 1) := by decide +kernel
theorem dX7_now_106 : decode cX7_now 106 = .ok (.ireturn, 1) := by decide +kernel
theorem dX7_bill_0 : decode cX7_bill 0 = .ok (.iload_n 1, 1) := by decide +kernel
theorem dX7_bill_1 : decode cX7_bill 1 = .ok (.invokestatic 220, 3) := by decide +kernel
theorem dX7_bill_4 : decode cX7_bill 4 = .ok (.ifCond .ne 5, 3) := by decide +kernel
theorem dX7_bill_7 : decode cX7_bill 7 = .ok (.iconst (-1), 1) := by decide +kernel
theorem dX7_bill_8 : decode cX7_bill 8 = .ok (.ireturn, 1) := by decide +kernel
theorem dX7_bill_9 : decode cX7_bill 9 = .ok (.iload_n 2, 1) := by decide +kernel
theorem dX7_bill_10 : decode cX7_bill 10 = .ok (.tableswitch 53 0 2 #[26, 35, 44], 26) := by decide +kernel
theorem dX7_bill_36 : decode cX7_bill 36 = .ok (.aload_n 0, 1) := by decide +kernel
theorem dX7_bill_37 : decode cX7_bill 37 = .ok (.getfield 16, 3) := by decide +kernel
theorem dX7_bill_40 : decode cX7_bill 40 = .ok (.iload_n 1, 1) := by decide +kernel
theorem dX7_bill_41 : decode cX7_bill 41 = .ok (.invokevirtual 223, 3) := by decide +kernel
theorem dX7_bill_44 : decode cX7_bill 44 = .ok (.ireturn, 1) := by decide +kernel
theorem dX7_bill_45 : decode cX7_bill 45 = .ok (.aload_n 0, 1) := by decide +kernel
theorem dX7_bill_46 : decode cX7_bill 46 = .ok (.getfield 42, 3) := by decide +kernel
theorem dX7_bill_49 : decode cX7_bill 49 = .ok (.iload_n 1, 1) := by decide +kernel
theorem dX7_bill_50 : decode cX7_bill 50 = .ok (.invokevirtual 226, 3) := by decide +kernel
theorem dX7_bill_53 : decode cX7_bill 53 = .ok (.ireturn, 1) := by decide +kernel
theorem dX7_bill_54 : decode cX7_bill 54 = .ok (.aload_n 0, 1) := by decide +kernel
theorem dX7_bill_55 : decode cX7_bill 55 = .ok (.getfield 42, 3) := by decide +kernel
theorem dX7_bill_58 : decode cX7_bill 58 = .ok (.iload_n 1, 1) := by decide +kernel
theorem dX7_bill_59 : decode cX7_bill 59 = .ok (.invokevirtual 229, 3) := by decide +kernel
theorem dX7_bill_62 : decode cX7_bill 62 = .ok (.ireturn, 1) := by decide +kernel
theorem dX7_bill_63 : decode cX7_bill 63 = .ok (.iconst (-1), 1) := by decide +kernel
theorem dX7_bill_64 : decode cX7_bill 64 = .ok (.ireturn, 1) := by decide +kernel
theorem dX7_canBeOf_0 : decode cX7_canBeOf 0 = .ok (.iload_n 1, 1) := by decide +kernel
theorem dX7_canBeOf_1 : decode cX7_canBeOf 1 = .ok (.ifCond .ne 8, 3) := by decide +kernel
theorem dX7_canBeOf_4 : decode cX7_canBeOf 4 = .ok (.iload_n 2, 1) := by decide +kernel
theorem dX7_canBeOf_5 : decode cX7_canBeOf 5 = .ok (.invokestatic 220, 3) := by decide +kernel
theorem dX7_canBeOf_8 : decode cX7_canBeOf 8 = .ok (.ireturn, 1) := by decide +kernel
theorem dX7_canBeOf_9 : decode cX7_canBeOf 9 = .ok (.iload_n 1, 1) := by decide +kernel
theorem dX7_canBeOf_10 : decode cX7_canBeOf 10 = .ok (.iconst 3, 1) := by decide +kernel
theorem dX7_canBeOf_11 : decode cX7_canBeOf 11 = .ok (.if_icmp .ne 11, 3) := by decide +kernel
theorem dX7_canBeOf_14 : decode cX7_canBeOf 14 = .ok (.aload_n 0, 1) := by decide +kernel
theorem dX7_canBeOf_15 : decode cX7_canBeOf 15 = .ok (.iload_n 2, 1) := by decide +kernel
theorem dX7_canBeOf_16 : decode cX7_canBeOf 16 = .ok (.invokevirtual 97, 3) := by decide +kernel
theorem dX7_canBeOf_19 : decode cX7_canBeOf 19 = .ok (.goto 12, 3) := by decide +kernel
theorem dX7_canBeOf_22 : decode cX7_canBeOf 22 = .ok (.iload_n 2, 1) := by decide +kernel
theorem dX7_canBeOf_23 : decode cX7_canBeOf 23 = .ok (.ifCond .ne 7, 3) := by decide +kernel
theorem dX7_canBeOf_26 : decode cX7_canBeOf 26 = .ok (.iconst 1, 1) := by decide +kernel
theorem dX7_canBeOf_27 : decode cX7_canBeOf 27 = .ok (.goto 4, 3) := by decide +kernel
theorem dX7_canBeOf_30 : decode cX7_canBeOf 30 = .ok (.iconst 0, 1) := by decide +kernel
theorem dX7_canBeOf_31 : decode cX7_canBeOf 31 = .ok (.ireturn, 1) := by decide +kernel
theorem dX7_isDoneLawfully_0 : decode cX7_isDoneLawfully 0 = .ok (.iload_n 1, 1) := by decide +kernel
theorem dX7_isDoneLawfully_1 : decode cX7_isDoneLawfully 1 = .ok (.tableswitch 65 0 4 #[35, 41, 47, 53, 60], 35) := by decide +kernel
theorem dX7_isDoneLawfully_36 : decode cX7_isDoneLawfully 36 = .ok (.aload_n 0, 1) := by decide +kernel
theorem dX7_isDoneLawfully_37 : decode cX7_isDoneLawfully 37 = .ok (.iload_n 3, 1) := by decide +kernel
theorem dX7_isDoneLawfully_38 : decode cX7_isDoneLawfully 38 = .ok (.invokevirtual 232, 3) := by decide +kernel
theorem dX7_isDoneLawfully_41 : decode cX7_isDoneLawfully 41 = .ok (.ireturn, 1) := by decide +kernel
theorem dX7_isDoneLawfully_42 : decode cX7_isDoneLawfully 42 = .ok (.aload_n 0, 1) := by decide +kernel
theorem dX7_isDoneLawfully_43 : decode cX7_isDoneLawfully 43 = .ok (.iload_n 2, 1) := by decide +kernel
theorem dX7_isDoneLawfully_44 : decode cX7_isDoneLawfully 44 = .ok (.invokevirtual 235, 3) := by decide +kernel
theorem dX7_isDoneLawfully_47 : decode cX7_isDoneLawfully 47 = .ok (.ireturn, 1) := by decide +kernel
theorem dX7_isDoneLawfully_48 : decode cX7_isDoneLawfully 48 = .ok (.aload_n 0, 1) := by decide +kernel
theorem dX7_isDoneLawfully_49 : decode cX7_isDoneLawfully 49 = .ok (.iload_n 2, 1) := by decide +kernel
theorem dX7_isDoneLawfully_50 : decode cX7_isDoneLawfully 50 = .ok (.invokevirtual 238, 3) := by decide +kernel
theorem dX7_isDoneLawfully_53 : decode cX7_isDoneLawfully 53 = .ok (.ireturn, 1) := by decide +kernel
theorem dX7_isDoneLawfully_54 : decode cX7_isDoneLawfully 54 = .ok (.aload_n 0, 1) := by decide +kernel
theorem dX7_isDoneLawfully_55 : decode cX7_isDoneLawfully 55 = .ok (.iload_n 2, 1) := by decide +kernel
theorem dX7_isDoneLawfully_56 : decode cX7_isDoneLawfully 56 = .ok (.iload_n 3, 1) := by decide +kernel
theorem dX7_isDoneLawfully_57 : decode cX7_isDoneLawfully 57 = .ok (.invokevirtual 241, 3) := by decide +kernel
theorem dX7_isDoneLawfully_60 : decode cX7_isDoneLawfully 60 = .ok (.ireturn, 1) := by decide +kernel
theorem dX7_isDoneLawfully_61 : decode cX7_isDoneLawfully 61 = .ok (.aload_n 0, 1) := by decide +kernel
theorem dX7_isDoneLawfully_62 : decode cX7_isDoneLawfully 62 = .ok (.invokevirtual 244, 3) := by decide +kernel
theorem dX7_isDoneLawfully_65 : decode cX7_isDoneLawfully 65 = .ok (.ireturn, 1) := by decide +kernel
theorem dX7_isDoneLawfully_66 : decode cX7_isDoneLawfully 66 = .ok (.aload_n 0, 1) := by decide +kernel
theorem dX7_isDoneLawfully_67 : decode cX7_isDoneLawfully 67 = .ok (.invokevirtual 248, 3) := by decide +kernel
theorem dX7_isDoneLawfully_70 : decode cX7_isDoneLawfully 70 = .ok (.ireturn, 1) := by decide +kernel
theorem dX7_callOf_0 : decode cX7_callOf 0 = .ok (.aload_n 0, 1) := by decide +kernel
theorem dX7_callOf_1 : decode cX7_callOf 1 = .ok (.getfield 42, 3) := by decide +kernel
theorem dX7_callOf_4 : decode cX7_callOf 4 = .ok (.iload_n 1, 1) := by decide +kernel
theorem dX7_callOf_5 : decode cX7_callOf 5 = .ok (.invokevirtual 226, 3) := by decide +kernel
theorem dX7_callOf_8 : decode cX7_callOf 8 = .ok (.istore_n 2, 1) := by decide +kernel
theorem dX7_callOf_9 : decode cX7_callOf 9 = .ok (.aload_n 0, 1) := by decide +kernel
theorem dX7_callOf_10 : decode cX7_callOf 10 = .ok (.getfield 42, 3) := by decide +kernel
theorem dX7_callOf_13 : decode cX7_callOf 13 = .ok (.iload_n 1, 1) := by decide +kernel
theorem dX7_callOf_14 : decode cX7_callOf 14 = .ok (.invokevirtual 229, 3) := by decide +kernel
theorem dX7_callOf_17 : decode cX7_callOf 17 = .ok (.istore_n 3, 1) := by decide +kernel
theorem dX7_callOf_18 : decode cX7_callOf 18 = .ok (.aload_n 0, 1) := by decide +kernel
theorem dX7_callOf_19 : decode cX7_callOf 19 = .ok (.getfield 16, 3) := by decide +kernel
theorem dX7_callOf_22 : decode cX7_callOf 22 = .ok (.iload_n 1, 1) := by decide +kernel
theorem dX7_callOf_23 : decode cX7_callOf 23 = .ok (.iload_n 2, 1) := by decide +kernel
theorem dX7_callOf_24 : decode cX7_callOf 24 = .ok (.invokevirtual 108, 3) := by decide +kernel
theorem dX7_callOf_27 : decode cX7_callOf 27 = .ok (.ifCond .eq 30, 3) := by decide +kernel
theorem dX7_callOf_30 : decode cX7_callOf 30 = .ok (.aload_n 0, 1) := by decide +kernel
theorem dX7_callOf_31 : decode cX7_callOf 31 = .ok (.getfield 42, 3) := by decide +kernel
theorem dX7_callOf_34 : decode cX7_callOf 34 = .ok (.getfield 210, 3) := by decide +kernel
theorem dX7_callOf_37 : decode cX7_callOf 37 = .ok (.ifCond .ne 20, 3) := by decide +kernel
theorem dX7_callOf_40 : decode cX7_callOf 40 = .ok (.aload_n 0, 1) := by decide +kernel
theorem dX7_callOf_41 : decode cX7_callOf 41 = .ok (.iload_n 1, 1) := by decide +kernel
theorem dX7_callOf_42 : decode cX7_callOf 42 = .ok (.iload_n 2, 1) := by decide +kernel
theorem dX7_callOf_43 : decode cX7_callOf 43 = .ok (.iload_n 3, 1) := by decide +kernel
theorem dX7_callOf_44 : decode cX7_callOf 44 = .ok (.aload_n 0, 1) := by decide +kernel
theorem dX7_callOf_45 : decode cX7_callOf 45 = .ok (.getfield 42, 3) := by decide +kernel
theorem dX7_callOf_48 : decode cX7_callOf 48 = .ok (.getfield 201, 3) := by decide +kernel
theorem dX7_callOf_51 : decode cX7_callOf 51 = .ok (.invokevirtual 134, 3) := by decide +kernel
theorem dX7_callOf_54 : decode cX7_callOf 54 = .ok (.ifCond .ne 5, 3) := by decide +kernel
theorem dX7_callOf_57 : decode cX7_callOf 57 = .ok (.iconst 0, 1) := by decide +kernel
theorem dX7_callOf_58 : decode cX7_callOf 58 = .ok (.ireturn, 1) := by decide +kernel
theorem dX7_callOf_59 : decode cX7_callOf 59 = .ok (.aload_n 0, 1) := by decide +kernel
theorem dX7_callOf_60 : decode cX7_callOf 60 = .ok (.getfield 42, 3) := by decide +kernel
theorem dX7_callOf_63 : decode cX7_callOf 63 = .ok (.iconst 1, 1) := by decide +kernel
theorem dX7_callOf_64 : decode cX7_callOf 64 = .ok (.putfield 251, 3) := by decide +kernel
theorem dX7_callOf_67 : decode cX7_callOf 67 = .ok (.aload_n 0, 1) := by decide +kernel
theorem dX7_callOf_68 : decode cX7_callOf 68 = .ok (.getfield 42, 3) := by decide +kernel
theorem dX7_callOf_71 : decode cX7_callOf 71 = .ok (.iload_n 1, 1) := by decide +kernel
theorem dX7_callOf_72 : decode cX7_callOf 72 = .ok (.putfield 254, 3) := by decide +kernel
theorem dX7_callOf_75 : decode cX7_callOf 75 = .ok (.aload_n 0, 1) := by decide +kernel
theorem dX7_callOf_76 : decode cX7_callOf 76 = .ok (.getfield 42, 3) := by decide +kernel
theorem dX7_callOf_79 : decode cX7_callOf 79 = .ok (.iload_n 3, 1) := by decide +kernel
theorem dX7_callOf_80 : decode cX7_callOf 80 = .ok (.putfield 257, 3) := by decide +kernel
theorem dX7_callOf_83 : decode cX7_callOf 83 = .ok (.aload_n 0, 1) := by decide +kernel
theorem dX7_callOf_84 : decode cX7_callOf 84 = .ok (.getfield 42, 3) := by decide +kernel
theorem dX7_callOf_87 : decode cX7_callOf 87 = .ok (.iload_n 1, 1) := by decide +kernel
theorem dX7_callOf_88 : decode cX7_callOf 88 = .ok (.iload_n 2, 1) := by decide +kernel
theorem dX7_callOf_89 : decode cX7_callOf 89 = .ok (.iconst 1, 1) := by decide +kernel
theorem dX7_callOf_90 : decode cX7_callOf 90 = .ok (.iadd, 1) := by decide +kernel
theorem dX7_callOf_91 : decode cX7_callOf 91 = .ok (.aload_n 0, 1) := by decide +kernel
theorem dX7_callOf_92 : decode cX7_callOf 92 = .ok (.getfield 42, 3) := by decide +kernel
theorem dX7_callOf_95 : decode cX7_callOf 95 = .ok (.getfield 201, 3) := by decide +kernel
theorem dX7_callOf_98 : decode cX7_callOf 98 = .ok (.invokevirtual 260, 3) := by decide +kernel
theorem dX7_callOf_101 : decode cX7_callOf 101 = .ok (.iconst 1, 1) := by decide +kernel
theorem dX7_callOf_102 : decode cX7_callOf 102 = .ok (.ireturn, 1) := by decide +kernel
theorem dX7_forbidBy_0 : decode cX7_forbidBy 0 = .ok (.aload_n 0, 1) := by decide +kernel
theorem dX7_forbidBy_1 : decode cX7_forbidBy 1 = .ok (.getfield 42, 3) := by decide +kernel
theorem dX7_forbidBy_4 : decode cX7_forbidBy 4 = .ok (.getfield 196, 3) := by decide +kernel
theorem dX7_forbidBy_7 : decode cX7_forbidBy 7 = .ok (.ifCond .ne 17, 3) := by decide +kernel
theorem dX7_forbidBy_10 : decode cX7_forbidBy 10 = .ok (.aload_n 0, 1) := by decide +kernel
theorem dX7_forbidBy_11 : decode cX7_forbidBy 11 = .ok (.getfield 42, 3) := by decide +kernel
theorem dX7_forbidBy_14 : decode cX7_forbidBy 14 = .ok (.getfield 166, 3) := by decide +kernel
theorem dX7_forbidBy_17 : decode cX7_forbidBy 17 = .ok (.iload_n 1, 1) := by decide +kernel
theorem dX7_forbidBy_18 : decode cX7_forbidBy 18 = .ok (.invokestatic 182, 3) := by decide +kernel
theorem dX7_forbidBy_21 : decode cX7_forbidBy 21 = .ok (.ifCond .gt 5, 3) := by decide +kernel
theorem dX7_forbidBy_24 : decode cX7_forbidBy 24 = .ok (.iconst 0, 1) := by decide +kernel
theorem dX7_forbidBy_25 : decode cX7_forbidBy 25 = .ok (.ireturn, 1) := by decide +kernel
theorem dX7_forbidBy_26 : decode cX7_forbidBy 26 = .ok (.aload_n 0, 1) := by decide +kernel
theorem dX7_forbidBy_27 : decode cX7_forbidBy 27 = .ok (.getfield 42, 3) := by decide +kernel
theorem dX7_forbidBy_30 : decode cX7_forbidBy 30 = .ok (.getfield 254, 3) := by decide +kernel
theorem dX7_forbidBy_33 : decode cX7_forbidBy 33 = .ok (.istore_n 2, 1) := by decide +kernel
theorem dX7_forbidBy_34 : decode cX7_forbidBy 34 = .ok (.aload_n 0, 1) := by decide +kernel
theorem dX7_forbidBy_35 : decode cX7_forbidBy 35 = .ok (.getfield 42, 3) := by decide +kernel
theorem dX7_forbidBy_38 : decode cX7_forbidBy 38 = .ok (.iload_n 2, 1) := by decide +kernel
theorem dX7_forbidBy_39 : decode cX7_forbidBy 39 = .ok (.invokevirtual 226, 3) := by decide +kernel
theorem dX7_forbidBy_42 : decode cX7_forbidBy 42 = .ok (.iconst 1, 1) := by decide +kernel
theorem dX7_forbidBy_43 : decode cX7_forbidBy 43 = .ok (.isub, 1) := by decide +kernel
theorem dX7_forbidBy_44 : decode cX7_forbidBy 44 = .ok (.istore_n 3, 1) := by decide +kernel
theorem dX7_forbidBy_45 : decode cX7_forbidBy 45 = .ok (.aload_n 0, 1) := by decide +kernel
theorem dX7_forbidBy_46 : decode cX7_forbidBy 46 = .ok (.getfield 16, 3) := by decide +kernel
theorem dX7_forbidBy_49 : decode cX7_forbidBy 49 = .ok (.iload_n 2, 1) := by decide +kernel
theorem dX7_forbidBy_50 : decode cX7_forbidBy 50 = .ok (.iload_n 3, 1) := by decide +kernel
theorem dX7_forbidBy_51 : decode cX7_forbidBy 51 = .ok (.invokevirtual 112, 3) := by decide +kernel
theorem dX7_forbidBy_54 : decode cX7_forbidBy 54 = .ok (.getfield 131, 3) := by decide +kernel
theorem dX7_forbidBy_57 : decode cX7_forbidBy 57 = .ok (.aload_n 0, 1) := by decide +kernel
theorem dX7_forbidBy_58 : decode cX7_forbidBy 58 = .ok (.getfield 35, 3) := by decide +kernel
theorem dX7_forbidBy_61 : decode cX7_forbidBy 61 = .ok (.iload_n 1, 1) := by decide +kernel
theorem dX7_forbidBy_62 : decode cX7_forbidBy 62 = .ok (.invokevirtual 176, 3) := by decide +kernel
theorem dX7_forbidBy_65 : decode cX7_forbidBy 65 = .ok (.iand, 1) := by decide +kernel
theorem dX7_forbidBy_66 : decode cX7_forbidBy 66 = .ok (.ifCond .ne 5, 3) := by decide +kernel
theorem dX7_forbidBy_69 : decode cX7_forbidBy 69 = .ok (.iconst 0, 1) := by decide +kernel
theorem dX7_forbidBy_70 : decode cX7_forbidBy 70 = .ok (.ireturn, 1) := by decide +kernel
theorem dX7_forbidBy_71 : decode cX7_forbidBy 71 = .ok (.aload_n 0, 1) := by decide +kernel
theorem dX7_forbidBy_72 : decode cX7_forbidBy 72 = .ok (.getfield 42, 3) := by decide +kernel
theorem dX7_forbidBy_75 : decode cX7_forbidBy 75 = .ok (.iload_n 2, 1) := by decide +kernel
theorem dX7_forbidBy_76 : decode cX7_forbidBy 76 = .ok (.iload_n 3, 1) := by decide +kernel
theorem dX7_forbidBy_77 : decode cX7_forbidBy 77 = .ok (.aload_n 0, 1) := by decide +kernel
theorem dX7_forbidBy_78 : decode cX7_forbidBy 78 = .ok (.getfield 42, 3) := by decide +kernel
theorem dX7_forbidBy_81 : decode cX7_forbidBy 81 = .ok (.getfield 257, 3) := by decide +kernel
theorem dX7_forbidBy_84 : decode cX7_forbidBy 84 = .ok (.invokevirtual 260, 3) := by decide +kernel
theorem dX7_forbidBy_87 : decode cX7_forbidBy 87 = .ok (.aload_n 0, 1) := by decide +kernel
theorem dX7_forbidBy_88 : decode cX7_forbidBy 88 = .ok (.getfield 42, 3) := by decide +kernel
theorem dX7_forbidBy_91 : decode cX7_forbidBy 91 = .ok (.iload_n 1, 1) := by decide +kernel
theorem dX7_forbidBy_92 : decode cX7_forbidBy 92 = .ok (.invokevirtual 264, 3) := by decide +kernel
theorem dX7_forbidBy_95 : decode cX7_forbidBy 95 = .ok (.iconst 1, 1) := by decide +kernel
theorem dX7_forbidBy_96 : decode cX7_forbidBy 96 = .ok (.ireturn, 1) := by decide +kernel
theorem dX7_hasSignLeft_0 : decode cX7_hasSignLeft 0 = .ok (.aload_n 0, 1) := by decide +kernel
theorem dX7_hasSignLeft_1 : decode cX7_hasSignLeft 1 = .ok (.getfield 35, 3) := by decide +kernel
theorem dX7_hasSignLeft_4 : decode cX7_hasSignLeft 4 = .ok (.iload_n 1, 1) := by decide +kernel
theorem dX7_hasSignLeft_5 : decode cX7_hasSignLeft 5 = .ok (.invokevirtual 176, 3) := by decide +kernel
theorem dX7_hasSignLeft_8 : decode cX7_hasSignLeft 8 = .ok (.iconst 2, 1) := by decide +kernel
theorem dX7_hasSignLeft_9 : decode cX7_hasSignLeft 9 = .ok (.if_icmp .ne 21, 3) := by decide +kernel
theorem dX7_hasSignLeft_12 : decode cX7_hasSignLeft 12 = .ok (.aload_n 0, 1) := by decide +kernel
theorem dX7_hasSignLeft_13 : decode cX7_hasSignLeft 13 = .ok (.getfield 42, 3) := by decide +kernel
theorem dX7_hasSignLeft_16 : decode cX7_hasSignLeft 16 = .ok (.getfield 166, 3) := by decide +kernel
theorem dX7_hasSignLeft_19 : decode cX7_hasSignLeft 19 = .ok (.iload_n 1, 1) := by decide +kernel
theorem dX7_hasSignLeft_20 : decode cX7_hasSignLeft 20 = .ok (.invokestatic 182, 3) := by decide +kernel
theorem dX7_hasSignLeft_23 : decode cX7_hasSignLeft 23 = .ok (.ifCond .le 7, 3) := by decide +kernel
theorem dX7_hasSignLeft_26 : decode cX7_hasSignLeft 26 = .ok (.iconst 1, 1) := by decide +kernel
theorem dX7_hasSignLeft_27 : decode cX7_hasSignLeft 27 = .ok (.goto 4, 3) := by decide +kernel
theorem dX7_hasSignLeft_30 : decode cX7_hasSignLeft 30 = .ok (.iconst 0, 1) := by decide +kernel
theorem dX7_hasSignLeft_31 : decode cX7_hasSignLeft 31 = .ok (.ireturn, 1) := by decide +kernel
theorem dX7_watchBy_0 : decode cX7_watchBy 0 = .ok (.aload_n 0, 1) := by decide +kernel
theorem dX7_watchBy_1 : decode cX7_watchBy 1 = .ok (.iload_n 1, 1) := by decide +kernel
theorem dX7_watchBy_2 : decode cX7_watchBy 2 = .ok (.invokevirtual 268, 3) := by decide +kernel
theorem dX7_watchBy_5 : decode cX7_watchBy 5 = .ok (.ifCond .eq 23, 3) := by decide +kernel
theorem dX7_watchBy_8 : decode cX7_watchBy 8 = .ok (.aload_n 0, 1) := by decide +kernel
theorem dX7_watchBy_9 : decode cX7_watchBy 9 = .ok (.getfield 42, 3) := by decide +kernel
theorem dX7_watchBy_12 : decode cX7_watchBy 12 = .ok (.getfield 251, 3) := by decide +kernel
theorem dX7_watchBy_15 : decode cX7_watchBy 15 = .ok (.ifCond .ne 13, 3) := by decide +kernel
theorem dX7_watchBy_18 : decode cX7_watchBy 18 = .ok (.aload_n 0, 1) := by decide +kernel
theorem dX7_watchBy_19 : decode cX7_watchBy 19 = .ok (.getfield 42, 3) := by decide +kernel
theorem dX7_watchBy_22 : decode cX7_watchBy 22 = .ok (.getfield 210, 3) := by decide +kernel
theorem dX7_watchBy_25 : decode cX7_watchBy 25 = .ok (.ifCond .eq 5, 3) := by decide +kernel
theorem dX7_watchBy_28 : decode cX7_watchBy 28 = .ok (.iconst 0, 1) := by decide +kernel
theorem dX7_watchBy_29 : decode cX7_watchBy 29 = .ok (.ireturn, 1) := by decide +kernel
theorem dX7_watchBy_30 : decode cX7_watchBy 30 = .ok (.aload_n 0, 1) := by decide +kernel
theorem dX7_watchBy_31 : decode cX7_watchBy 31 = .ok (.getfield 42, 3) := by decide +kernel
theorem dX7_watchBy_34 : decode cX7_watchBy 34 = .ok (.iconst 1, 1) := by decide +kernel
theorem dX7_watchBy_35 : decode cX7_watchBy 35 = .ok (.putfield 210, 3) := by decide +kernel
theorem dX7_watchBy_38 : decode cX7_watchBy 38 = .ok (.aload_n 0, 1) := by decide +kernel
theorem dX7_watchBy_39 : decode cX7_watchBy 39 = .ok (.getfield 42, 3) := by decide +kernel
theorem dX7_watchBy_42 : decode cX7_watchBy 42 = .ok (.iload_n 1, 1) := by decide +kernel
theorem dX7_watchBy_43 : decode cX7_watchBy 43 = .ok (.invokevirtual 264, 3) := by decide +kernel
theorem dX7_watchBy_46 : decode cX7_watchBy 46 = .ok (.iconst 1, 1) := by decide +kernel
theorem dX7_watchBy_47 : decode cX7_watchBy 47 = .ok (.ireturn, 1) := by decide +kernel
theorem dX7_makeHolyBy_0 : decode cX7_makeHolyBy 0 = .ok (.aload_n 0, 1) := by decide +kernel
theorem dX7_makeHolyBy_1 : decode cX7_makeHolyBy 1 = .ok (.iload_n 1, 1) := by decide +kernel
theorem dX7_makeHolyBy_2 : decode cX7_makeHolyBy 2 = .ok (.invokevirtual 268, 3) := by decide +kernel
theorem dX7_makeHolyBy_5 : decode cX7_makeHolyBy 5 = .ok (.ifCond .eq 23, 3) := by decide +kernel
theorem dX7_makeHolyBy_8 : decode cX7_makeHolyBy 8 = .ok (.iload_n 2, 1) := by decide +kernel
theorem dX7_makeHolyBy_9 : decode cX7_makeHolyBy 9 = .ok (.aload_n 0, 1) := by decide +kernel
theorem dX7_makeHolyBy_10 : decode cX7_makeHolyBy 10 = .ok (.getfield 42, 3) := by decide +kernel
theorem dX7_makeHolyBy_13 : decode cX7_makeHolyBy 13 = .ok (.getfield 201, 3) := by decide +kernel
theorem dX7_makeHolyBy_16 : decode cX7_makeHolyBy 16 = .ok (.if_icmp .le 12, 3) := by decide +kernel
theorem dX7_makeHolyBy_19 : decode cX7_makeHolyBy 19 = .ok (.aload_n 0, 1) := by decide +kernel
theorem dX7_makeHolyBy_20 : decode cX7_makeHolyBy 20 = .ok (.iload_n 2, 1) := by decide +kernel
theorem dX7_makeHolyBy_21 : decode cX7_makeHolyBy 21 = .ok (.invokevirtual 101, 3) := by decide +kernel
theorem dX7_makeHolyBy_24 : decode cX7_makeHolyBy 24 = .ok (.iconst 2, 1) := by decide +kernel
theorem dX7_makeHolyBy_25 : decode cX7_makeHolyBy 25 = .ok (.if_icmp .ne 5, 3) := by decide +kernel
theorem dX7_makeHolyBy_28 : decode cX7_makeHolyBy 28 = .ok (.iconst 0, 1) := by decide +kernel
theorem dX7_makeHolyBy_29 : decode cX7_makeHolyBy 29 = .ok (.ireturn, 1) := by decide +kernel
theorem dX7_makeHolyBy_30 : decode cX7_makeHolyBy 30 = .ok (.aload_n 0, 1) := by decide +kernel
theorem dX7_makeHolyBy_31 : decode cX7_makeHolyBy 31 = .ok (.getfield 42, 3) := by decide +kernel
theorem dX7_makeHolyBy_34 : decode cX7_makeHolyBy 34 = .ok (.iload_n 2, 1) := by decide +kernel
theorem dX7_makeHolyBy_35 : decode cX7_makeHolyBy 35 = .ok (.invokevirtual 271, 3) := by decide +kernel
theorem dX7_makeHolyBy_38 : decode cX7_makeHolyBy 38 = .ok (.aload_n 0, 1) := by decide +kernel
theorem dX7_makeHolyBy_39 : decode cX7_makeHolyBy 39 = .ok (.getfield 42, 3) := by decide +kernel
theorem dX7_makeHolyBy_42 : decode cX7_makeHolyBy 42 = .ok (.iload_n 1, 1) := by decide +kernel
theorem dX7_makeHolyBy_43 : decode cX7_makeHolyBy 43 = .ok (.invokevirtual 264, 3) := by decide +kernel
theorem dX7_makeHolyBy_46 : decode cX7_makeHolyBy 46 = .ok (.iconst 1, 1) := by decide +kernel
theorem dX7_makeHolyBy_47 : decode cX7_makeHolyBy 47 = .ok (.ireturn, 1) := by decide +kernel
theorem dX7_forceOn_0 : decode cX7_forceOn 0 = .ok (.aload_n 0, 1) := by decide +kernel
theorem dX7_forceOn_1 : decode cX7_forceOn 1 = .ok (.getfield 42, 3) := by decide +kernel
theorem dX7_forceOn_4 : decode cX7_forceOn 4 = .ok (.getfield 196, 3) := by decide +kernel
theorem dX7_forceOn_7 : decode cX7_forceOn 7 = .ok (.iconst 1, 1) := by decide +kernel
theorem dX7_forceOn_8 : decode cX7_forceOn 8 = .ok (.if_icmp .eq 5, 3) := by decide +kernel
theorem dX7_forceOn_11 : decode cX7_forceOn 11 = .ok (.iconst 0, 1) := by decide +kernel
theorem dX7_forceOn_12 : decode cX7_forceOn 12 = .ok (.ireturn, 1) := by decide +kernel
theorem dX7_forceOn_13 : decode cX7_forceOn 13 = .ok (.aload_n 0, 1) := by decide +kernel
theorem dX7_forceOn_14 : decode cX7_forceOn 14 = .ok (.getfield 42, 3) := by decide +kernel
theorem dX7_forceOn_17 : decode cX7_forceOn 17 = .ok (.getfield 254, 3) := by decide +kernel
theorem dX7_forceOn_20 : decode cX7_forceOn 20 = .ok (.istore_n 1, 1) := by decide +kernel
theorem dX7_forceOn_21 : decode cX7_forceOn 21 = .ok (.aload_n 0, 1) := by decide +kernel
theorem dX7_forceOn_22 : decode cX7_forceOn 22 = .ok (.getfield 42, 3) := by decide +kernel
theorem dX7_forceOn_25 : decode cX7_forceOn 25 = .ok (.iload_n 1, 1) := by decide +kernel
theorem dX7_forceOn_26 : decode cX7_forceOn 26 = .ok (.aload_n 0, 1) := by decide +kernel
theorem dX7_forceOn_27 : decode cX7_forceOn 27 = .ok (.getfield 42, 3) := by decide +kernel
theorem dX7_forceOn_30 : decode cX7_forceOn 30 = .ok (.iload_n 1, 1) := by decide +kernel
theorem dX7_forceOn_31 : decode cX7_forceOn 31 = .ok (.invokevirtual 226, 3) := by decide +kernel
theorem dX7_forceOn_34 : decode cX7_forceOn 34 = .ok (.iconst 1, 1) := by decide +kernel
theorem dX7_forceOn_35 : decode cX7_forceOn 35 = .ok (.iadd, 1) := by decide +kernel
theorem dX7_forceOn_36 : decode cX7_forceOn 36 = .ok (.aload_n 0, 1) := by decide +kernel
theorem dX7_forceOn_37 : decode cX7_forceOn 37 = .ok (.getfield 42, 3) := by decide +kernel
theorem dX7_forceOn_40 : decode cX7_forceOn 40 = .ok (.getfield 201, 3) := by decide +kernel
theorem dX7_forceOn_43 : decode cX7_forceOn 43 = .ok (.invokevirtual 260, 3) := by decide +kernel
theorem dX7_forceOn_46 : decode cX7_forceOn 46 = .ok (.aload_n 0, 1) := by decide +kernel
theorem dX7_forceOn_47 : decode cX7_forceOn 47 = .ok (.getfield 42, 3) := by decide +kernel
theorem dX7_forceOn_50 : decode cX7_forceOn 50 = .ok (.dup, 1) := by decide +kernel
theorem dX7_forceOn_51 : decode cX7_forceOn 51 = .ok (.getfield 217, 3) := by decide +kernel
theorem dX7_forceOn_54 : decode cX7_forceOn 54 = .ok (.iconst 1, 1) := by decide +kernel
theorem dX7_forceOn_55 : decode cX7_forceOn 55 = .ok (.iload_n 1, 1) := by decide +kernel
theorem dX7_forceOn_56 : decode cX7_forceOn 56 = .ok (.ishl, 1) := by decide +kernel
theorem dX7_forceOn_57 : decode cX7_forceOn 57 = .ok (.ior, 1) := by decide +kernel
theorem dX7_forceOn_58 : decode cX7_forceOn 58 = .ok (.putfield 217, 3) := by decide +kernel
theorem dX7_forceOn_61 : decode cX7_forceOn 61 = .ok (.iconst 1, 1) := by decide +kernel
theorem dX7_forceOn_62 : decode cX7_forceOn 62 = .ok (.ireturn, 1) := by decide +kernel
theorem dX7_waitOn_0 : decode cX7_waitOn 0 = .ok (.aload_n 0, 1) := by decide +kernel
theorem dX7_waitOn_1 : decode cX7_waitOn 1 = .ok (.getfield 42, 3) := by decide +kernel
theorem dX7_waitOn_4 : decode cX7_waitOn 4 = .ok (.getfield 201, 3) := by decide +kernel
theorem dX7_waitOn_7 : decode cX7_waitOn 7 = .ok (.iconst 1, 1) := by decide +kernel
theorem dX7_waitOn_8 : decode cX7_waitOn 8 = .ok (.iadd, 1) := by decide +kernel
theorem dX7_waitOn_9 : decode cX7_waitOn 9 = .ok (.aload_n 0, 1) := by decide +kernel
theorem dX7_waitOn_10 : decode cX7_waitOn 10 = .ok (.getfield 16, 3) := by decide +kernel
theorem dX7_waitOn_13 : decode cX7_waitOn 13 = .ok (.getfield 138, 3) := by decide +kernel
theorem dX7_waitOn_16 : decode cX7_waitOn 16 = .ok (.if_icmp .lt 5, 3) := by decide +kernel
theorem dX7_waitOn_19 : decode cX7_waitOn 19 = .ok (.iconst 0, 1) := by decide +kernel
theorem dX7_waitOn_20 : decode cX7_waitOn 20 = .ok (.ireturn, 1) := by decide +kernel
theorem dX7_waitOn_21 : decode cX7_waitOn 21 = .ok (.aload_n 0, 1) := by decide +kernel
theorem dX7_waitOn_22 : decode cX7_waitOn 22 = .ok (.getfield 42, 3) := by decide +kernel
theorem dX7_waitOn_25 : decode cX7_waitOn 25 = .ok (.dup, 1) := by decide +kernel
theorem dX7_waitOn_26 : decode cX7_waitOn 26 = .ok (.getfield 201, 3) := by decide +kernel
theorem dX7_waitOn_29 : decode cX7_waitOn 29 = .ok (.iconst 1, 1) := by decide +kernel
theorem dX7_waitOn_30 : decode cX7_waitOn 30 = .ok (.iadd, 1) := by decide +kernel
theorem dX7_waitOn_31 : decode cX7_waitOn 31 = .ok (.putfield 201, 3) := by decide +kernel
theorem dX7_waitOn_34 : decode cX7_waitOn 34 = .ok (.aload_n 0, 1) := by decide +kernel
theorem dX7_waitOn_35 : decode cX7_waitOn 35 = .ok (.getfield 42, 3) := by decide +kernel
theorem dX7_waitOn_38 : decode cX7_waitOn 38 = .ok (.iconst 0, 1) := by decide +kernel
theorem dX7_waitOn_39 : decode cX7_waitOn 39 = .ok (.putfield 210, 3) := by decide +kernel
theorem dX7_waitOn_42 : decode cX7_waitOn 42 = .ok (.aload_n 0, 1) := by decide +kernel
theorem dX7_waitOn_43 : decode cX7_waitOn 43 = .ok (.getfield 42, 3) := by decide +kernel
theorem dX7_waitOn_46 : decode cX7_waitOn 46 = .ok (.iconst 0, 1) := by decide +kernel
theorem dX7_waitOn_47 : decode cX7_waitOn 47 = .ok (.putfield 251, 3) := by decide +kernel
theorem dX7_waitOn_50 : decode cX7_waitOn 50 = .ok (.iconst 0, 1) := by decide +kernel
theorem dX7_waitOn_51 : decode cX7_waitOn 51 = .ok (.istore_n 1, 1) := by decide +kernel
theorem dX7_waitOn_52 : decode cX7_waitOn 52 = .ok (.iload_n 1, 1) := by decide +kernel
theorem dX7_waitOn_53 : decode cX7_waitOn 53 = .ok (.iconst 2, 1) := by decide +kernel
theorem dX7_waitOn_54 : decode cX7_waitOn 54 = .ok (.if_icmp .ge 14, 3) := by decide +kernel
theorem dX7_waitOn_57 : decode cX7_waitOn 57 = .ok (.aload_n 0, 1) := by decide +kernel
theorem dX7_waitOn_58 : decode cX7_waitOn 58 = .ok (.iload_n 1, 1) := by decide +kernel
theorem dX7_waitOn_59 : decode cX7_waitOn 59 = .ok (.invokevirtual 274, 3) := by decide +kernel
theorem dX7_waitOn_62 : decode cX7_waitOn 62 = .ok (.iinc 1 1, 3) := by decide +kernel
theorem dX7_waitOn_65 : decode cX7_waitOn 65 = .ok (.goto (-13), 3) := by decide +kernel
theorem dX7_waitOn_68 : decode cX7_waitOn 68 = .ok (.iconst 1, 1) := by decide +kernel
theorem dX7_waitOn_69 : decode cX7_waitOn 69 = .ok (.ireturn, 1) := by decide +kernel
theorem dX7_fallBackIfLate_0 : decode cX7_fallBackIfLate 0 = .ok (.aload_n 0, 1) := by decide +kernel
theorem dX7_fallBackIfLate_1 : decode cX7_fallBackIfLate 1 = .ok (.getfield 42, 3) := by decide +kernel
theorem dX7_fallBackIfLate_4 : decode cX7_fallBackIfLate 4 = .ok (.iload_n 1, 1) := by decide +kernel
theorem dX7_fallBackIfLate_5 : decode cX7_fallBackIfLate 5 = .ok (.invokevirtual 226, 3) := by decide +kernel
theorem dX7_fallBackIfLate_8 : decode cX7_fallBackIfLate 8 = .ok (.istore_n 2, 1) := by decide +kernel
theorem dX7_fallBackIfLate_9 : decode cX7_fallBackIfLate 9 = .ok (.iload_n 2, 1) := by decide +kernel
theorem dX7_fallBackIfLate_10 : decode cX7_fallBackIfLate 10 = .ok (.ifCond .eq 15, 3) := by decide +kernel
theorem dX7_fallBackIfLate_13 : decode cX7_fallBackIfLate 13 = .ok (.aload_n 0, 1) := by decide +kernel
theorem dX7_fallBackIfLate_14 : decode cX7_fallBackIfLate 14 = .ok (.getfield 16, 3) := by decide +kernel
theorem dX7_fallBackIfLate_17 : decode cX7_fallBackIfLate 17 = .ok (.iload_n 1, 1) := by decide +kernel
theorem dX7_fallBackIfLate_18 : decode cX7_fallBackIfLate 18 = .ok (.iload_n 2, 1) := by decide +kernel
theorem dX7_fallBackIfLate_19 : decode cX7_fallBackIfLate 19 = .ok (.invokevirtual 108, 3) := by decide +kernel
theorem dX7_fallBackIfLate_22 : decode cX7_fallBackIfLate 22 = .ok (.ifCond .ne 4, 3) := by decide +kernel
theorem dX7_fallBackIfLate_25 : decode cX7_fallBackIfLate 25 = .ok (.return_, 1) := by decide +kernel
theorem dX7_fallBackIfLate_26 : decode cX7_fallBackIfLate 26 = .ok (.aload_n 0, 1) := by decide +kernel
theorem dX7_fallBackIfLate_27 : decode cX7_fallBackIfLate 27 = .ok (.getfield 16, 3) := by decide +kernel
theorem dX7_fallBackIfLate_30 : decode cX7_fallBackIfLate 30 = .ok (.iload_n 1, 1) := by decide +kernel
theorem dX7_fallBackIfLate_31 : decode cX7_fallBackIfLate 31 = .ok (.iload_n 2, 1) := by decide +kernel
theorem dX7_fallBackIfLate_32 : decode cX7_fallBackIfLate 32 = .ok (.invokevirtual 112, 3) := by decide +kernel
theorem dX7_fallBackIfLate_35 : decode cX7_fallBackIfLate 35 = .ok (.getfield 128, 3) := by decide +kernel
theorem dX7_fallBackIfLate_38 : decode cX7_fallBackIfLate 38 = .ok (.istore_n 3, 1) := by decide +kernel
theorem dX7_fallBackIfLate_39 : decode cX7_fallBackIfLate 39 = .ok (.iload_n 3, 1) := by decide +kernel
theorem dX7_fallBackIfLate_40 : decode cX7_fallBackIfLate 40 = .ok (.bipush (-9), 2) := by decide +kernel
theorem dX7_fallBackIfLate_42 : decode cX7_fallBackIfLate 42 = .ok (.if_icmp .eq 34, 3) := by decide +kernel
theorem dX7_fallBackIfLate_45 : decode cX7_fallBackIfLate 45 = .ok (.aload_n 0, 1) := by decide +kernel
theorem dX7_fallBackIfLate_46 : decode cX7_fallBackIfLate 46 = .ok (.getfield 42, 3) := by decide +kernel
theorem dX7_fallBackIfLate_49 : decode cX7_fallBackIfLate 49 = .ok (.getfield 201, 3) := by decide +kernel
theorem dX7_fallBackIfLate_52 : decode cX7_fallBackIfLate 52 = .ok (.aload_n 0, 1) := by decide +kernel
theorem dX7_fallBackIfLate_53 : decode cX7_fallBackIfLate 53 = .ok (.getfield 42, 3) := by decide +kernel
theorem dX7_fallBackIfLate_56 : decode cX7_fallBackIfLate 56 = .ok (.iload_n 1, 1) := by decide +kernel
theorem dX7_fallBackIfLate_57 : decode cX7_fallBackIfLate 57 = .ok (.invokevirtual 229, 3) := by decide +kernel
theorem dX7_fallBackIfLate_60 : decode cX7_fallBackIfLate 60 = .ok (.isub, 1) := by decide +kernel
theorem dX7_fallBackIfLate_61 : decode cX7_fallBackIfLate 61 = .ok (.iload_n 3, 1) := by decide +kernel
theorem dX7_fallBackIfLate_62 : decode cX7_fallBackIfLate 62 = .ok (.if_icmp .le 14, 3) := by decide +kernel
theorem dX7_fallBackIfLate_65 : decode cX7_fallBackIfLate 65 = .ok (.aload_n 0, 1) := by decide +kernel
theorem dX7_fallBackIfLate_66 : decode cX7_fallBackIfLate 66 = .ok (.getfield 42, 3) := by decide +kernel
theorem dX7_fallBackIfLate_69 : decode cX7_fallBackIfLate 69 = .ok (.iload_n 1, 1) := by decide +kernel
theorem dX7_fallBackIfLate_70 : decode cX7_fallBackIfLate 70 = .ok (.iconst 0, 1) := by decide +kernel
theorem dX7_fallBackIfLate_71 : decode cX7_fallBackIfLate 71 = .ok (.bipush (-9), 2) := by decide +kernel
theorem dX7_fallBackIfLate_73 : decode cX7_fallBackIfLate 73 = .ok (.invokevirtual 260, 3) := by decide +kernel
theorem dX7_fallBackIfLate_76 : decode cX7_fallBackIfLate 76 = .ok (.return_, 1) := by decide +kernel
theorem dX7_isVoid_0 : decode cX7_isVoid 0 = .ok (.aload_n 0, 1) := by decide +kernel
theorem dX7_isVoid_1 : decode cX7_isVoid 1 = .ok (.getfield 42, 3) := by decide +kernel
theorem dX7_isVoid_4 : decode cX7_isVoid 4 = .ok (.getfield 217, 3) := by decide +kernel
theorem dX7_isVoid_7 : decode cX7_isVoid 7 = .ok (.iload_n 1, 1) := by decide +kernel
theorem dX7_isVoid_8 : decode cX7_isVoid 8 = .ok (.ishr, 1) := by decide +kernel
theorem dX7_isVoid_9 : decode cX7_isVoid 9 = .ok (.iconst 1, 1) := by decide +kernel
theorem dX7_isVoid_10 : decode cX7_isVoid 10 = .ok (.iand, 1) := by decide +kernel
theorem dX7_isVoid_11 : decode cX7_isVoid 11 = .ok (.iconst 1, 1) := by decide +kernel
theorem dX7_isVoid_12 : decode cX7_isVoid 12 = .ok (.if_icmp .ne 7, 3) := by decide +kernel
theorem dX7_isVoid_15 : decode cX7_isVoid 15 = .ok (.iconst 1, 1) := by decide +kernel
theorem dX7_isVoid_16 : decode cX7_isVoid 16 = .ok (.goto 4, 3) := by decide +kernel
theorem dX7_isVoid_19 : decode cX7_isVoid 19 = .ok (.iconst 0, 1) := by decide +kernel
theorem dX7_isVoid_20 : decode cX7_isVoid 20 = .ok (.ireturn, 1) := by decide +kernel
theorem dX7_isCarried_0 : decode cX7_isCarried 0 = .ok (.aload_n 0, 1) := by decide +kernel
theorem dX7_isCarried_1 : decode cX7_isCarried 1 = .ok (.getfield 16, 3) := by decide +kernel
theorem dX7_isCarried_4 : decode cX7_isCarried 4 = .ok (.iload_n 1, 1) := by decide +kernel
end
section
theorem dX7_isCarried_5 : decode cX7_isCarried 5 = .ok (.invokevirtual 223, 3) := by decide +kernel
theorem dX7_isCarried_8 : decode cX7_isCarried 8 = .ok (.istore_n 2, 1) := by decide +kernel
theorem dX7_isCarried_9 : decode cX7_isCarried 9 = .ok (.iload_n 2, 1) := by decide +kernel
theorem dX7_isCarried_10 : decode cX7_isCarried 10 = .ok (.ifCond .le 27, 3) := by decide +kernel
theorem dX7_isCarried_13 : decode cX7_isCarried 13 = .ok (.aload_n 0, 1) := by decide +kernel
theorem dX7_isCarried_14 : decode cX7_isCarried 14 = .ok (.getfield 42, 3) := by decide +kernel
theorem dX7_isCarried_17 : decode cX7_isCarried 17 = .ok (.iload_n 1, 1) := by decide +kernel
theorem dX7_isCarried_18 : decode cX7_isCarried 18 = .ok (.invokevirtual 226, 3) := by decide +kernel
theorem dX7_isCarried_21 : decode cX7_isCarried 21 = .ok (.iload_n 2, 1) := by decide +kernel
theorem dX7_isCarried_22 : decode cX7_isCarried 22 = .ok (.if_icmp .ne 15, 3) := by decide +kernel
theorem dX7_isCarried_25 : decode cX7_isCarried 25 = .ok (.aload_n 0, 1) := by decide +kernel
theorem dX7_isCarried_26 : decode cX7_isCarried 26 = .ok (.iload_n 1, 1) := by decide +kernel
theorem dX7_isCarried_27 : decode cX7_isCarried 27 = .ok (.invokevirtual 277, 3) := by decide +kernel
theorem dX7_isCarried_30 : decode cX7_isCarried 30 = .ok (.ifCond .ne 7, 3) := by decide +kernel
theorem dX7_isCarried_33 : decode cX7_isCarried 33 = .ok (.iconst 1, 1) := by decide +kernel
theorem dX7_isCarried_34 : decode cX7_isCarried 34 = .ok (.goto 4, 3) := by decide +kernel
theorem dX7_isCarried_37 : decode cX7_isCarried 37 = .ok (.iconst 0, 1) := by decide +kernel
theorem dX7_isCarried_38 : decode cX7_isCarried 38 = .ok (.ireturn, 1) := by decide +kernel
theorem dX7_carriedBills_0 : decode cX7_carriedBills 0 = .ok (.iconst 0, 1) := by decide +kernel
theorem dX7_carriedBills_1 : decode cX7_carriedBills 1 = .ok (.istore_n 1, 1) := by decide +kernel
theorem dX7_carriedBills_2 : decode cX7_carriedBills 2 = .ok (.iconst 0, 1) := by decide +kernel
theorem dX7_carriedBills_3 : decode cX7_carriedBills 3 = .ok (.istore_n 2, 1) := by decide +kernel
theorem dX7_carriedBills_4 : decode cX7_carriedBills 4 = .ok (.iload_n 2, 1) := by decide +kernel
theorem dX7_carriedBills_5 : decode cX7_carriedBills 5 = .ok (.iconst 2, 1) := by decide +kernel
theorem dX7_carriedBills_6 : decode cX7_carriedBills 6 = .ok (.if_icmp .ge 23, 3) := by decide +kernel
theorem dX7_carriedBills_9 : decode cX7_carriedBills 9 = .ok (.aload_n 0, 1) := by decide +kernel
theorem dX7_carriedBills_10 : decode cX7_carriedBills 10 = .ok (.iload_n 2, 1) := by decide +kernel
theorem dX7_carriedBills_11 : decode cX7_carriedBills 11 = .ok (.invokevirtual 280, 3) := by decide +kernel
theorem dX7_carriedBills_14 : decode cX7_carriedBills 14 = .ok (.ifCond .eq 9, 3) := by decide +kernel
theorem dX7_carriedBills_17 : decode cX7_carriedBills 17 = .ok (.iload_n 1, 1) := by decide +kernel
theorem dX7_carriedBills_18 : decode cX7_carriedBills 18 = .ok (.iconst 1, 1) := by decide +kernel
theorem dX7_carriedBills_19 : decode cX7_carriedBills 19 = .ok (.iload_n 2, 1) := by decide +kernel
theorem dX7_carriedBills_20 : decode cX7_carriedBills 20 = .ok (.ishl, 1) := by decide +kernel
theorem dX7_carriedBills_21 : decode cX7_carriedBills 21 = .ok (.ior, 1) := by decide +kernel
theorem dX7_carriedBills_22 : decode cX7_carriedBills 22 = .ok (.istore_n 1, 1) := by decide +kernel
theorem dX7_carriedBills_23 : decode cX7_carriedBills 23 = .ok (.iinc 2 1, 3) := by decide +kernel
theorem dX7_carriedBills_26 : decode cX7_carriedBills 26 = .ok (.goto (-22), 3) := by decide +kernel
theorem dX7_carriedBills_29 : decode cX7_carriedBills 29 = .ok (.iload_n 1, 1) := by decide +kernel
theorem dX7_carriedBills_30 : decode cX7_carriedBills 30 = .ok (.ireturn, 1) := by decide +kernel
theorem dX7_soon_0 : decode cX7_soon 0 = .ok (.iload_n 1, 1) := by decide +kernel
theorem dX7_soon_1 : decode cX7_soon 1 = .ok (.invokestatic 220, 3) := by decide +kernel
theorem dX7_soon_4 : decode cX7_soon 4 = .ok (.ifCond .eq 20, 3) := by decide +kernel
theorem dX7_soon_7 : decode cX7_soon 7 = .ok (.iload_n 2, 1) := by decide +kernel
theorem dX7_soon_8 : decode cX7_soon 8 = .ok (.iconst (-1), 1) := by decide +kernel
theorem dX7_soon_9 : decode cX7_soon 9 = .ok (.if_icmp .lt 15, 3) := by decide +kernel
theorem dX7_soon_12 : decode cX7_soon 12 = .ok (.iload_n 2, 1) := by decide +kernel
theorem dX7_soon_13 : decode cX7_soon 13 = .ok (.aload_n 0, 1) := by decide +kernel
theorem dX7_soon_14 : decode cX7_soon 14 = .ok (.getfield 16, 3) := by decide +kernel
theorem dX7_soon_17 : decode cX7_soon 17 = .ok (.iload_n 1, 1) := by decide +kernel
theorem dX7_soon_18 : decode cX7_soon 18 = .ok (.invokevirtual 223, 3) := by decide +kernel
theorem dX7_soon_21 : decode cX7_soon 21 = .ok (.if_icmp .lt 5, 3) := by decide +kernel
theorem dX7_soon_24 : decode cX7_soon 24 = .ok (.iconst (-1), 1) := by decide +kernel
theorem dX7_soon_25 : decode cX7_soon 25 = .ok (.ireturn, 1) := by decide +kernel
theorem dX7_soon_26 : decode cX7_soon 26 = .ok (.aload_n 0, 1) := by decide +kernel
theorem dX7_soon_27 : decode cX7_soon 27 = .ok (.iload_n 1, 1) := by decide +kernel
theorem dX7_soon_28 : decode cX7_soon 28 = .ok (.invokevirtual 283, 3) := by decide +kernel
theorem dX7_soon_31 : decode cX7_soon 31 = .ok (.ifCond .ne 6, 3) := by decide +kernel
theorem dX7_soon_34 : decode cX7_soon 34 = .ok (.bipush (-2), 2) := by decide +kernel
theorem dX7_soon_36 : decode cX7_soon 36 = .ok (.ireturn, 1) := by decide +kernel
theorem dX7_soon_37 : decode cX7_soon 37 = .ok (.aload_n 0, 1) := by decide +kernel
theorem dX7_soon_38 : decode cX7_soon 38 = .ok (.getfield 58, 3) := by decide +kernel
theorem dX7_soon_41 : decode cX7_soon 41 = .ok (.aload_n 0, 1) := by decide +kernel
theorem dX7_soon_42 : decode cX7_soon 42 = .ok (.getfield 16, 3) := by decide +kernel
theorem dX7_soon_45 : decode cX7_soon 45 = .ok (.aload_n 0, 1) := by decide +kernel
theorem dX7_soon_46 : decode cX7_soon 46 = .ok (.getfield 42, 3) := by decide +kernel
theorem dX7_soon_49 : decode cX7_soon 49 = .ok (.iload_n 1, 1) := by decide +kernel
theorem dX7_soon_50 : decode cX7_soon 50 = .ok (.invokevirtual 286, 3) := by decide +kernel
theorem dX7_soon_53 : decode cX7_soon 53 = .ok (.istore_n 3, 1) := by decide +kernel
theorem dX7_soon_54 : decode cX7_soon 54 = .ok (.iload_n 2, 1) := by decide +kernel
theorem dX7_soon_55 : decode cX7_soon 55 = .ok (.iconst (-1), 1) := by decide +kernel
theorem dX7_soon_56 : decode cX7_soon 56 = .ok (.if_icmp .eq 9, 3) := by decide +kernel
theorem dX7_soon_59 : decode cX7_soon 59 = .ok (.iload_n 3, 1) := by decide +kernel
theorem dX7_soon_60 : decode cX7_soon 60 = .ok (.bipush (-9), 2) := by decide +kernel
theorem dX7_soon_62 : decode cX7_soon 62 = .ok (.if_icmp .ne 5, 3) := by decide +kernel
theorem dX7_soon_65 : decode cX7_soon 65 = .ok (.iload_n 3, 1) := by decide +kernel
theorem dX7_soon_66 : decode cX7_soon 66 = .ok (.ireturn, 1) := by decide +kernel
theorem dX7_soon_67 : decode cX7_soon 67 = .ok (.iload_n 2, 1) := by decide +kernel
theorem dX7_soon_68 : decode cX7_soon 68 = .ok (.aload_n 0, 1) := by decide +kernel
theorem dX7_soon_69 : decode cX7_soon 69 = .ok (.getfield 58, 3) := by decide +kernel
theorem dX7_soon_72 : decode cX7_soon 72 = .ok (.getfield 290, 3) := by decide +kernel
theorem dX7_soon_75 : decode cX7_soon 75 = .ok (.if_icmp .ge 17, 3) := by decide +kernel
theorem dX7_soon_78 : decode cX7_soon 78 = .ok (.aload_n 0, 1) := by decide +kernel
theorem dX7_soon_79 : decode cX7_soon 79 = .ok (.getfield 58, 3) := by decide +kernel
theorem dX7_soon_82 : decode cX7_soon 82 = .ok (.getfield 293, 3) := by decide +kernel
theorem dX7_soon_85 : decode cX7_soon 85 = .ok (.iload_n 2, 1) := by decide +kernel
theorem dX7_soon_86 : decode cX7_soon 86 = .ok (.invokestatic 182, 3) := by decide +kernel
theorem dX7_soon_89 : decode cX7_soon 89 = .ok (.goto 4, 3) := by decide +kernel
theorem dX7_soon_92 : decode cX7_soon 92 = .ok (.iconst (-1), 1) := by decide +kernel
theorem dX7_soon_93 : decode cX7_soon 93 = .ok (.ireturn, 1) := by decide +kernel
theorem dX7_against_0 : decode cX7_against 0 = .ok (.iload_n 1, 1) := by decide +kernel
theorem dX7_against_1 : decode cX7_against 1 = .ok (.invokestatic 220, 3) := by decide +kernel
theorem dX7_against_4 : decode cX7_against 4 = .ok (.ifCond .ne 5, 3) := by decide +kernel
theorem dX7_against_7 : decode cX7_against 7 = .ok (.iconst (-1), 1) := by decide +kernel
theorem dX7_against_8 : decode cX7_against 8 = .ok (.ireturn, 1) := by decide +kernel
theorem dX7_against_9 : decode cX7_against 9 = .ok (.aload_n 0, 1) := by decide +kernel
theorem dX7_against_10 : decode cX7_against 10 = .ok (.iload_n 1, 1) := by decide +kernel
theorem dX7_against_11 : decode cX7_against 11 = .ok (.invokevirtual 283, 3) := by decide +kernel
theorem dX7_against_14 : decode cX7_against 14 = .ok (.ifCond .eq 22, 3) := by decide +kernel
theorem dX7_against_17 : decode cX7_against 17 = .ok (.aload_n 0, 1) := by decide +kernel
theorem dX7_against_18 : decode cX7_against 18 = .ok (.getfield 58, 3) := by decide +kernel
theorem dX7_against_21 : decode cX7_against 21 = .ok (.aload_n 0, 1) := by decide +kernel
theorem dX7_against_22 : decode cX7_against 22 = .ok (.getfield 16, 3) := by decide +kernel
theorem dX7_against_25 : decode cX7_against 25 = .ok (.aload_n 0, 1) := by decide +kernel
theorem dX7_against_26 : decode cX7_against 26 = .ok (.getfield 42, 3) := by decide +kernel
theorem dX7_against_29 : decode cX7_against 29 = .ok (.iload_n 1, 1) := by decide +kernel
theorem dX7_against_30 : decode cX7_against 30 = .ok (.invokevirtual 296, 3) := by decide +kernel
theorem dX7_against_33 : decode cX7_against 33 = .ok (.goto 5, 3) := by decide +kernel
theorem dX7_against_36 : decode cX7_against 36 = .ok (.bipush (-2), 2) := by decide +kernel
theorem dX7_against_38 : decode cX7_against 38 = .ok (.ireturn, 1) := by decide +kernel
theorem dX7_sure_0 : decode cX7_sure 0 = .ok (.iload_n 1, 1) := by decide +kernel
theorem dX7_sure_1 : decode cX7_sure 1 = .ok (.invokestatic 220, 3) := by decide +kernel
theorem dX7_sure_4 : decode cX7_sure 4 = .ok (.ifCond .eq 23, 3) := by decide +kernel
theorem dX7_sure_7 : decode cX7_sure 7 = .ok (.iload_n 2, 1) := by decide +kernel
theorem dX7_sure_8 : decode cX7_sure 8 = .ok (.ifCond .lt 19, 3) := by decide +kernel
theorem dX7_sure_11 : decode cX7_sure 11 = .ok (.iload_n 2, 1) := by decide +kernel
theorem dX7_sure_12 : decode cX7_sure 12 = .ok (.bipush 6, 2) := by decide +kernel
theorem dX7_sure_14 : decode cX7_sure 14 = .ok (.if_icmp .gt 13, 3) := by decide +kernel
theorem dX7_sure_17 : decode cX7_sure 17 = .ok (.iload_n 3, 1) := by decide +kernel
theorem dX7_sure_18 : decode cX7_sure 18 = .ok (.ifCond .lt 9, 3) := by decide +kernel
theorem dX7_sure_21 : decode cX7_sure 21 = .ok (.iload_n 3, 1) := by decide +kernel
theorem dX7_sure_22 : decode cX7_sure 22 = .ok (.bipush 6, 2) := by decide +kernel
theorem dX7_sure_24 : decode cX7_sure 24 = .ok (.if_icmp .le 5, 3) := by decide +kernel
theorem dX7_sure_27 : decode cX7_sure 27 = .ok (.iconst (-1), 1) := by decide +kernel
theorem dX7_sure_28 : decode cX7_sure 28 = .ok (.ireturn, 1) := by decide +kernel
theorem dX7_sure_29 : decode cX7_sure 29 = .ok (.aload_n 0, 1) := by decide +kernel
theorem dX7_sure_30 : decode cX7_sure 30 = .ok (.iload_n 1, 1) := by decide +kernel
theorem dX7_sure_31 : decode cX7_sure 31 = .ok (.invokevirtual 283, 3) := by decide +kernel
theorem dX7_sure_34 : decode cX7_sure 34 = .ok (.ifCond .eq 22, 3) := by decide +kernel
theorem dX7_sure_37 : decode cX7_sure 37 = .ok (.aload_n 0, 1) := by decide +kernel
theorem dX7_sure_38 : decode cX7_sure 38 = .ok (.getfield 58, 3) := by decide +kernel
theorem dX7_sure_41 : decode cX7_sure 41 = .ok (.aload_n 0, 1) := by decide +kernel
theorem dX7_sure_42 : decode cX7_sure 42 = .ok (.getfield 16, 3) := by decide +kernel
theorem dX7_sure_45 : decode cX7_sure 45 = .ok (.aload_n 0, 1) := by decide +kernel
theorem dX7_sure_46 : decode cX7_sure 46 = .ok (.getfield 42, 3) := by decide +kernel
theorem dX7_sure_49 : decode cX7_sure 49 = .ok (.iload_n 1, 1) := by decide +kernel
theorem dX7_sure_50 : decode cX7_sure 50 = .ok (.invokevirtual 286, 3) := by decide +kernel
theorem dX7_sure_53 : decode cX7_sure 53 = .ok (.goto 5, 3) := by decide +kernel
theorem dX7_sure_56 : decode cX7_sure 56 = .ok (.bipush (-2), 2) := by decide +kernel
theorem dX7_sure_58 : decode cX7_sure 58 = .ok (.ireturn, 1) := by decide +kernel
theorem dX7_delay_0 : decode cX7_delay 0 = .ok (.iload_n 1, 1) := by decide +kernel
theorem dX7_delay_1 : decode cX7_delay 1 = .ok (.invokestatic 220, 3) := by decide +kernel
theorem dX7_delay_4 : decode cX7_delay 4 = .ok (.ifCond .eq 14, 3) := by decide +kernel
theorem dX7_delay_7 : decode cX7_delay 7 = .ok (.aload_n 0, 1) := by decide +kernel
theorem dX7_delay_8 : decode cX7_delay 8 = .ok (.getfield 35, 3) := by decide +kernel
theorem dX7_delay_11 : decode cX7_delay 11 = .ok (.iload_n 2, 1) := by decide +kernel
theorem dX7_delay_12 : decode cX7_delay 12 = .ok (.invokevirtual 173, 3) := by decide +kernel
theorem dX7_delay_15 : decode cX7_delay 15 = .ok (.ifCond .ne 5, 3) := by decide +kernel
theorem dX7_delay_18 : decode cX7_delay 18 = .ok (.iconst (-1), 1) := by decide +kernel
theorem dX7_delay_19 : decode cX7_delay 19 = .ok (.ireturn, 1) := by decide +kernel
theorem dX7_delay_20 : decode cX7_delay 20 = .ok (.aload_n 0, 1) := by decide +kernel
theorem dX7_delay_21 : decode cX7_delay 21 = .ok (.iload_n 1, 1) := by decide +kernel
theorem dX7_delay_22 : decode cX7_delay 22 = .ok (.invokevirtual 283, 3) := by decide +kernel
theorem dX7_delay_25 : decode cX7_delay 25 = .ok (.ifCond .eq 28, 3) := by decide +kernel
theorem dX7_delay_28 : decode cX7_delay 28 = .ok (.aload_n 0, 1) := by decide +kernel
theorem dX7_delay_29 : decode cX7_delay 29 = .ok (.getfield 58, 3) := by decide +kernel
theorem dX7_delay_32 : decode cX7_delay 32 = .ok (.aload_n 0, 1) := by decide +kernel
theorem dX7_delay_33 : decode cX7_delay 33 = .ok (.getfield 16, 3) := by decide +kernel
theorem dX7_delay_36 : decode cX7_delay 36 = .ok (.aload_n 0, 1) := by decide +kernel
theorem dX7_delay_37 : decode cX7_delay 37 = .ok (.getfield 42, 3) := by decide +kernel
theorem dX7_delay_40 : decode cX7_delay 40 = .ok (.iload_n 1, 1) := by decide +kernel
theorem dX7_delay_41 : decode cX7_delay 41 = .ok (.invokevirtual 286, 3) := by decide +kernel
theorem dX7_delay_44 : decode cX7_delay 44 = .ok (.bipush (-9), 2) := by decide +kernel
theorem dX7_delay_46 : decode cX7_delay 46 = .ok (.if_icmp .eq 7, 3) := by decide +kernel
theorem dX7_delay_49 : decode cX7_delay 49 = .ok (.iconst 0, 1) := by decide +kernel
theorem dX7_delay_50 : decode cX7_delay 50 = .ok (.goto 5, 3) := by decide +kernel
theorem dX7_delay_53 : decode cX7_delay 53 = .ok (.bipush (-2), 2) := by decide +kernel
theorem dX7_delay_55 : decode cX7_delay 55 = .ok (.ireturn, 1) := by decide +kernel
theorem dX7_stop_0 : decode cX7_stop 0 = .ok (.iload_n 1, 1) := by decide +kernel
theorem dX7_stop_1 : decode cX7_stop 1 = .ok (.invokestatic 220, 3) := by decide +kernel
theorem dX7_stop_4 : decode cX7_stop 4 = .ok (.ifCond .eq 12, 3) := by decide +kernel
theorem dX7_stop_7 : decode cX7_stop 7 = .ok (.iload_n 2, 1) := by decide +kernel
theorem dX7_stop_8 : decode cX7_stop 8 = .ok (.ifCond .lt 8, 3) := by decide +kernel
theorem dX7_stop_11 : decode cX7_stop 11 = .ok (.iload_n 2, 1) := by decide +kernel
theorem dX7_stop_12 : decode cX7_stop 12 = .ok (.iconst 1, 1) := by decide +kernel
theorem dX7_stop_13 : decode cX7_stop 13 = .ok (.if_icmp .le 5, 3) := by decide +kernel
theorem dX7_stop_16 : decode cX7_stop 16 = .ok (.iconst (-1), 1) := by decide +kernel
theorem dX7_stop_17 : decode cX7_stop 17 = .ok (.ireturn, 1) := by decide +kernel
theorem dX7_stop_18 : decode cX7_stop 18 = .ok (.aload_n 0, 1) := by decide +kernel
theorem dX7_stop_19 : decode cX7_stop 19 = .ok (.iload_n 1, 1) := by decide +kernel
theorem dX7_stop_20 : decode cX7_stop 20 = .ok (.invokevirtual 283, 3) := by decide +kernel
theorem dX7_stop_23 : decode cX7_stop 23 = .ok (.ifCond .ne 6, 3) := by decide +kernel
theorem dX7_stop_26 : decode cX7_stop 26 = .ok (.bipush (-2), 2) := by decide +kernel
theorem dX7_stop_28 : decode cX7_stop 28 = .ok (.ireturn, 1) := by decide +kernel
theorem dX7_stop_29 : decode cX7_stop 29 = .ok (.aload_n 0, 1) := by decide +kernel
theorem dX7_stop_30 : decode cX7_stop 30 = .ok (.getfield 58, 3) := by decide +kernel
theorem dX7_stop_33 : decode cX7_stop 33 = .ok (.aload_n 0, 1) := by decide +kernel
theorem dX7_stop_34 : decode cX7_stop 34 = .ok (.getfield 16, 3) := by decide +kernel
theorem dX7_stop_37 : decode cX7_stop 37 = .ok (.aload_n 0, 1) := by decide +kernel
theorem dX7_stop_38 : decode cX7_stop 38 = .ok (.getfield 42, 3) := by decide +kernel
theorem dX7_stop_41 : decode cX7_stop 41 = .ok (.iload_n 1, 1) := by decide +kernel
theorem dX7_stop_42 : decode cX7_stop 42 = .ok (.invokevirtual 286, 3) := by decide +kernel
theorem dX7_stop_45 : decode cX7_stop 45 = .ok (.bipush (-9), 2) := by decide +kernel
theorem dX7_stop_47 : decode cX7_stop 47 = .ok (.if_icmp .ne 7, 3) := by decide +kernel
theorem dX7_stop_50 : decode cX7_stop 50 = .ok (.iconst 0, 1) := by decide +kernel
theorem dX7_stop_51 : decode cX7_stop 51 = .ok (.goto 5, 3) := by decide +kernel
theorem dX7_stop_54 : decode cX7_stop 54 = .ok (.bipush (-9), 2) := by decide +kernel
theorem dX7_stop_56 : decode cX7_stop 56 = .ok (.ireturn, 1) := by decide +kernel
theorem dX7_isOpen_0 : decode cX7_isOpen 0 = .ok (.aload_n 0, 1) := by decide +kernel
theorem dX7_isOpen_1 : decode cX7_isOpen 1 = .ok (.getfield 16, 3) := by decide +kernel
theorem dX7_isOpen_4 : decode cX7_isOpen 4 = .ok (.iload_n 1, 1) := by decide +kernel
theorem dX7_isOpen_5 : decode cX7_isOpen 5 = .ok (.invokevirtual 223, 3) := by decide +kernel
theorem dX7_isOpen_8 : decode cX7_isOpen 8 = .ok (.ifCond .le 23, 3) := by decide +kernel
theorem dX7_isOpen_11 : decode cX7_isOpen 11 = .ok (.aload_n 0, 1) := by decide +kernel
theorem dX7_isOpen_12 : decode cX7_isOpen 12 = .ok (.iload_n 1, 1) := by decide +kernel
theorem dX7_isOpen_13 : decode cX7_isOpen 13 = .ok (.invokevirtual 280, 3) := by decide +kernel
theorem dX7_isOpen_16 : decode cX7_isOpen 16 = .ok (.ifCond .ne 15, 3) := by decide +kernel
theorem dX7_isOpen_19 : decode cX7_isOpen 19 = .ok (.aload_n 0, 1) := by decide +kernel
theorem dX7_isOpen_20 : decode cX7_isOpen 20 = .ok (.iload_n 1, 1) := by decide +kernel
theorem dX7_isOpen_21 : decode cX7_isOpen 21 = .ok (.invokevirtual 277, 3) := by decide +kernel
theorem dX7_isOpen_24 : decode cX7_isOpen 24 = .ok (.ifCond .ne 7, 3) := by decide +kernel
theorem dX7_isOpen_27 : decode cX7_isOpen 27 = .ok (.iconst 1, 1) := by decide +kernel
theorem dX7_isOpen_28 : decode cX7_isOpen 28 = .ok (.goto 4, 3) := by decide +kernel
theorem dX7_isOpen_31 : decode cX7_isOpen 31 = .ok (.iconst 0, 1) := by decide +kernel
theorem dX7_isOpen_32 : decode cX7_isOpen 32 = .ok (.ireturn, 1) := by decide +kernel
theorem dX7_group_0 : decode cX7_group 0 = .ok (.aload_n 0, 1) := by decide +kernel
theorem dX7_group_1 : decode cX7_group 1 = .ok (.getfield 65, 3) := by decide +kernel
theorem dX7_group_4 : decode cX7_group 4 = .ok (.invokevirtual 299, 3) := by decide +kernel
theorem dX7_group_7 : decode cX7_group 7 = .ok (.ireturn, 1) := by decide +kernel
theorem dX7_wish_0 : decode cX7_wish 0 = .ok (.aload_n 0, 1) := by decide +kernel
theorem dX7_wish_1 : decode cX7_wish 1 = .ok (.getfield 65, 3) := by decide +kernel
theorem dX7_wish_4 : decode cX7_wish 4 = .ok (.iload_n 1, 1) := by decide +kernel
theorem dX7_wish_5 : decode cX7_wish 5 = .ok (.invokevirtual 302, 3) := by decide +kernel
theorem dX7_wish_8 : decode cX7_wish 8 = .ok (.ifCond .eq 22, 3) := by decide +kernel
theorem dX7_wish_11 : decode cX7_wish 11 = .ok (.iload_n 2, 1) := by decide +kernel
theorem dX7_wish_12 : decode cX7_wish 12 = .ok (.invokestatic 305, 3) := by decide +kernel
theorem dX7_wish_15 : decode cX7_wish 15 = .ok (.ifCond .eq 15, 3) := by decide +kernel
theorem dX7_wish_18 : decode cX7_wish 18 = .ok (.iload_n 3, 1) := by decide +kernel
theorem dX7_wish_19 : decode cX7_wish 19 = .ok (.bipush (-9), 2) := by decide +kernel
theorem dX7_wish_21 : decode cX7_wish 21 = .ok (.if_icmp .lt 9, 3) := by decide +kernel
theorem dX7_wish_24 : decode cX7_wish 24 = .ok (.iload_n 3, 1) := by decide +kernel
theorem dX7_wish_25 : decode cX7_wish 25 = .ok (.bipush 9, 2) := by decide +kernel
theorem dX7_wish_27 : decode cX7_wish 27 = .ok (.if_icmp .le 6, 3) := by decide +kernel
theorem dX7_wish_30 : decode cX7_wish 30 = .ok (.bipush (-100), 2) := by decide +kernel
theorem dX7_wish_32 : decode cX7_wish 32 = .ok (.ireturn, 1) := by decide +kernel
theorem dX7_wish_33 : decode cX7_wish 33 = .ok (.aload_n 0, 1) := by decide +kernel
theorem dX7_wish_34 : decode cX7_wish 34 = .ok (.getfield 65, 3) := by decide +kernel
theorem dX7_wish_37 : decode cX7_wish 37 = .ok (.iload_n 1, 1) := by decide +kernel
theorem dX7_wish_38 : decode cX7_wish 38 = .ok (.iload_n 2, 1) := by decide +kernel
theorem dX7_wish_39 : decode cX7_wish 39 = .ok (.iload_n 3, 1) := by decide +kernel
theorem dX7_wish_40 : decode cX7_wish 40 = .ok (.invokevirtual 308, 3) := by decide +kernel
theorem dX7_wish_43 : decode cX7_wish 43 = .ok (.ireturn, 1) := by decide +kernel
theorem dX7_passes_0 : decode cX7_passes 0 = .ok (.iload_n 1, 1) := by decide +kernel
theorem dX7_passes_1 : decode cX7_passes 1 = .ok (.invokestatic 312, 3) := by decide +kernel
theorem dX7_passes_4 : decode cX7_passes 4 = .ok (.ifCond .ne 5, 3) := by decide +kernel
theorem dX7_passes_7 : decode cX7_passes 7 = .ok (.iconst (-1), 1) := by decide +kernel
theorem dX7_passes_8 : decode cX7_passes 8 = .ok (.ireturn, 1) := by decide +kernel
theorem dX7_passes_9 : decode cX7_passes 9 = .ok (.aload_n 0, 1) := by decide +kernel
theorem dX7_passes_10 : decode cX7_passes 10 = .ok (.getfield 65, 3) := by decide +kernel
theorem dX7_passes_13 : decode cX7_passes 13 = .ok (.iload_n 1, 1) := by decide +kernel
theorem dX7_passes_14 : decode cX7_passes 14 = .ok (.invokevirtual 315, 3) := by decide +kernel
theorem dX7_passes_17 : decode cX7_passes 17 = .ok (.ifCond .eq 7, 3) := by decide +kernel
theorem dX7_passes_20 : decode cX7_passes 20 = .ok (.iconst 1, 1) := by decide +kernel
theorem dX7_passes_21 : decode cX7_passes 21 = .ok (.goto 4, 3) := by decide +kernel
theorem dX7_passes_24 : decode cX7_passes 24 = .ok (.iconst 0, 1) := by decide +kernel
theorem dX7_passes_25 : decode cX7_passes 25 = .ok (.ireturn, 1) := by decide +kernel
theorem dX7_ride_0 : decode cX7_ride 0 = .ok (.iload_n 1, 1) := by decide +kernel
theorem dX7_ride_1 : decode cX7_ride 1 = .ok (.invokestatic 305, 3) := by decide +kernel
theorem dX7_ride_4 : decode cX7_ride 4 = .ok (.ifCond .eq 12, 3) := by decide +kernel
theorem dX7_ride_7 : decode cX7_ride 7 = .ok (.iload_n 2, 1) := by decide +kernel
theorem dX7_ride_8 : decode cX7_ride 8 = .ok (.ifCond .lt 8, 3) := by decide +kernel
theorem dX7_ride_11 : decode cX7_ride 11 = .ok (.iload_n 2, 1) := by decide +kernel
theorem dX7_ride_12 : decode cX7_ride 12 = .ok (.iconst 1, 1) := by decide +kernel
theorem dX7_ride_13 : decode cX7_ride 13 = .ok (.if_icmp .le 5, 3) := by decide +kernel
theorem dX7_ride_16 : decode cX7_ride 16 = .ok (.iconst (-1), 1) := by decide +kernel
theorem dX7_ride_17 : decode cX7_ride 17 = .ok (.ireturn, 1) := by decide +kernel
theorem dX7_ride_18 : decode cX7_ride 18 = .ok (.aload_n 0, 1) := by decide +kernel
theorem dX7_ride_19 : decode cX7_ride 19 = .ok (.getfield 65, 3) := by decide +kernel
theorem dX7_ride_22 : decode cX7_ride 22 = .ok (.iconst 1, 1) := by decide +kernel
theorem dX7_ride_23 : decode cX7_ride 23 = .ok (.iload_n 1, 1) := by decide +kernel
theorem dX7_ride_24 : decode cX7_ride 24 = .ok (.ishl, 1) := by decide +kernel
theorem dX7_ride_25 : decode cX7_ride 25 = .ok (.invokevirtual 318, 3) := by decide +kernel
theorem dX7_ride_28 : decode cX7_ride 28 = .ok (.istore_n 3, 1) := by decide +kernel
theorem dX7_ride_29 : decode cX7_ride 29 = .ok (.iload_n 3, 1) := by decide +kernel
theorem dX7_ride_30 : decode cX7_ride 30 = .ok (.bipush (-9), 2) := by decide +kernel
theorem dX7_ride_32 : decode cX7_ride 32 = .ok (.if_icmp .eq 8, 3) := by decide +kernel
theorem dX7_ride_35 : decode cX7_ride 35 = .ok (.iload_n 2, 1) := by decide +kernel
theorem dX7_ride_36 : decode cX7_ride 36 = .ok (.iconst 1, 1) := by decide +kernel
theorem dX7_ride_37 : decode cX7_ride 37 = .ok (.if_icmp .ne 5, 3) := by decide +kernel
theorem dX7_ride_40 : decode cX7_ride 40 = .ok (.iload_n 3, 1) := by decide +kernel
theorem dX7_ride_41 : decode cX7_ride 41 = .ok (.ireturn, 1) := by decide +kernel
theorem dX7_ride_42 : decode cX7_ride 42 = .ok (.iload_n 3, 1) := by decide +kernel
theorem dX7_ride_43 : decode cX7_ride 43 = .ok (.invokestatic 321, 3) := by decide +kernel
theorem dX7_ride_46 : decode cX7_ride 46 = .ok (.ireturn, 1) := by decide +kernel
theorem dX7_tears_0 : decode cX7_tears 0 = .ok (.iload_n 1, 1) := by decide +kernel
theorem dX7_tears_1 : decode cX7_tears 1 = .ok (.invokestatic 312, 3) := by decide +kernel
theorem dX7_tears_4 : decode cX7_tears 4 = .ok (.ifCond .eq 14, 3) := by decide +kernel
theorem dX7_tears_7 : decode cX7_tears 7 = .ok (.aload_n 0, 1) := by decide +kernel
theorem dX7_tears_8 : decode cX7_tears 8 = .ok (.getfield 65, 3) := by decide +kernel
theorem dX7_tears_11 : decode cX7_tears 11 = .ok (.iload_n 1, 1) := by decide +kernel
theorem dX7_tears_12 : decode cX7_tears 12 = .ok (.invokevirtual 326, 3) := by decide +kernel
theorem dX7_tears_15 : decode cX7_tears 15 = .ok (.goto 4, 3) := by decide +kernel
theorem dX7_tears_18 : decode cX7_tears 18 = .ok (.iconst (-1), 1) := by decide +kernel
theorem dX7_tears_19 : decode cX7_tears 19 = .ok (.ireturn, 1) := by decide +kernel
theorem dX7_word_0 : decode cX7_word 0 = .ok (.iload_n 1, 1) := by decide +kernel
theorem dX7_word_1 : decode cX7_word 1 = .ok (.ifCond .lt 18, 3) := by decide +kernel
theorem dX7_word_4 : decode cX7_word 4 = .ok (.iload_n 1, 1) := by decide +kernel
theorem dX7_word_5 : decode cX7_word 5 = .ok (.iconst 5, 1) := by decide +kernel
theorem dX7_word_6 : decode cX7_word 6 = .ok (.if_icmp .ge 13, 3) := by decide +kernel
theorem dX7_word_9 : decode cX7_word 9 = .ok (.iload_n 2, 1) := by decide +kernel
theorem dX7_word_10 : decode cX7_word 10 = .ok (.iload_n 3, 1) := by decide +kernel
theorem dX7_word_11 : decode cX7_word 11 = .ok (.iload 4, 2) := by decide +kernel
theorem dX7_word_13 : decode cX7_word 13 = .ok (.invokestatic 329, 3) := by decide +kernel
theorem dX7_word_16 : decode cX7_word 16 = .ok (.ifCond .ne 5, 3) := by decide +kernel
theorem dX7_word_19 : decode cX7_word 19 = .ok (.iconst (-1), 1) := by decide +kernel
theorem dX7_word_20 : decode cX7_word 20 = .ok (.ireturn, 1) := by decide +kernel
theorem dX7_word_21 : decode cX7_word 21 = .ok (.aload_n 0, 1) := by decide +kernel
theorem dX7_word_22 : decode cX7_word 22 = .ok (.getfield 69, 3) := by decide +kernel
theorem dX7_word_25 : decode cX7_word 25 = .ok (.iload_n 1, 1) := by decide +kernel
theorem dX7_word_26 : decode cX7_word 26 = .ok (.invokestatic 182, 3) := by decide +kernel
theorem dX7_word_29 : decode cX7_word 29 = .ok (.istore 5, 2) := by decide +kernel
theorem dX7_word_31 : decode cX7_word 31 = .ok (.aload_n 0, 1) := by decide +kernel
theorem dX7_word_32 : decode cX7_word 32 = .ok (.getfield 69, 3) := by decide +kernel
theorem dX7_word_35 : decode cX7_word 35 = .ok (.iload_n 1, 1) := by decide +kernel
theorem dX7_word_36 : decode cX7_word 36 = .ok (.iload_n 2, 1) := by decide +kernel
theorem dX7_word_37 : decode cX7_word 37 = .ok (.invokestatic 169, 3) := by decide +kernel
theorem dX7_word_40 : decode cX7_word 40 = .ok (.aload_n 0, 1) := by decide +kernel
theorem dX7_word_41 : decode cX7_word 41 = .ok (.getfield 73, 3) := by decide +kernel
theorem dX7_word_44 : decode cX7_word 44 = .ok (.iload_n 1, 1) := by decide +kernel
theorem dX7_word_45 : decode cX7_word 45 = .ok (.iload_n 3, 1) := by decide +kernel
theorem dX7_word_46 : decode cX7_word 46 = .ok (.invokestatic 169, 3) := by decide +kernel
theorem dX7_word_49 : decode cX7_word 49 = .ok (.aload_n 0, 1) := by decide +kernel
theorem dX7_word_50 : decode cX7_word 50 = .ok (.getfield 76, 3) := by decide +kernel
theorem dX7_word_53 : decode cX7_word 53 = .ok (.iload_n 1, 1) := by decide +kernel
theorem dX7_word_54 : decode cX7_word 54 = .ok (.iload 4, 2) := by decide +kernel
theorem dX7_word_56 : decode cX7_word 56 = .ok (.invokestatic 169, 3) := by decide +kernel
theorem dX7_word_59 : decode cX7_word 59 = .ok (.iload 5, 2) := by decide +kernel
theorem dX7_word_61 : decode cX7_word 61 = .ok (.ireturn, 1) := by decide +kernel
theorem dX7_mended_0 : decode cX7_mended 0 = .ok (.iload_n 1, 1) := by decide +kernel
theorem dX7_mended_1 : decode cX7_mended 1 = .ok (.ifCond .lt 8, 3) := by decide +kernel
theorem dX7_mended_4 : decode cX7_mended 4 = .ok (.iload_n 1, 1) := by decide +kernel
theorem dX7_mended_5 : decode cX7_mended 5 = .ok (.iconst 2, 1) := by decide +kernel
theorem dX7_mended_6 : decode cX7_mended 6 = .ok (.if_icmp .le 5, 3) := by decide +kernel
theorem dX7_mended_9 : decode cX7_mended 9 = .ok (.iconst (-1), 1) := by decide +kernel
theorem dX7_mended_10 : decode cX7_mended 10 = .ok (.ireturn, 1) := by decide +kernel
theorem dX7_mended_11 : decode cX7_mended 11 = .ok (.iconst 0, 1) := by decide +kernel
theorem dX7_mended_12 : decode cX7_mended 12 = .ok (.istore_n 2, 1) := by decide +kernel
theorem dX7_mended_13 : decode cX7_mended 13 = .ok (.iload_n 2, 1) := by decide +kernel
theorem dX7_mended_14 : decode cX7_mended 14 = .ok (.iconst 5, 1) := by decide +kernel
theorem dX7_mended_15 : decode cX7_mended 15 = .ok (.if_icmp .gt 79, 3) := by decide +kernel
theorem dX7_mended_18 : decode cX7_mended 18 = .ok (.iconst 0, 1) := by decide +kernel
theorem dX7_mended_19 : decode cX7_mended 19 = .ok (.istore_n 3, 1) := by decide +kernel
theorem dX7_mended_20 : decode cX7_mended 20 = .ok (.bipush (-9), 2) := by decide +kernel
theorem dX7_mended_22 : decode cX7_mended 22 = .ok (.istore 4, 2) := by decide +kernel
theorem dX7_mended_24 : decode cX7_mended 24 = .ok (.bipush 31, 2) := by decide +kernel
theorem dX7_mended_26 : decode cX7_mended 26 = .ok (.istore 5, 2) := by decide +kernel
theorem dX7_mended_28 : decode cX7_mended 28 = .ok (.iload 5, 2) := by decide +kernel
theorem dX7_mended_30 : decode cX7_mended 30 = .ok (.ifCond .lt 34, 3) := by decide +kernel
theorem dX7_mended_33 : decode cX7_mended 33 = .ok (.iload 5, 2) := by decide +kernel
theorem dX7_mended_35 : decode cX7_mended 35 = .ok (.invokestatic 321, 3) := by decide +kernel
theorem dX7_mended_38 : decode cX7_mended 38 = .ok (.iload_n 2, 1) := by decide +kernel
theorem dX7_mended_39 : decode cX7_mended 39 = .ok (.if_icmp .ne 19, 3) := by decide +kernel
theorem dX7_mended_42 : decode cX7_mended 42 = .ok (.aload_n 0, 1) := by decide +kernel
theorem dX7_mended_43 : decode cX7_mended 43 = .ok (.iload 5, 2) := by decide +kernel
theorem dX7_mended_45 : decode cX7_mended 45 = .ok (.invokevirtual 332, 3) := by decide +kernel
theorem dX7_mended_48 : decode cX7_mended 48 = .ok (.ifCond .eq 10, 3) := by decide +kernel
theorem dX7_mended_51 : decode cX7_mended 51 = .ok (.iinc 3 1, 3) := by decide +kernel
theorem dX7_mended_54 : decode cX7_mended 54 = .ok (.iload 5, 2) := by decide +kernel
theorem dX7_mended_56 : decode cX7_mended 56 = .ok (.istore 4, 2) := by decide +kernel
theorem dX7_mended_58 : decode cX7_mended 58 = .ok (.iinc 5 (-1), 3) := by decide +kernel
theorem dX7_mended_61 : decode cX7_mended 61 = .ok (.goto (-33), 3) := by decide +kernel
theorem dX7_mended_64 : decode cX7_mended 64 = .ok (.iload_n 3, 1) := by decide +kernel
theorem dX7_mended_65 : decode cX7_mended 65 = .ok (.ifCond .le 23, 3) := by decide +kernel
theorem dX7_mended_68 : decode cX7_mended 68 = .ok (.iload_n 1, 1) := by decide +kernel
theorem dX7_mended_69 : decode cX7_mended 69 = .ok (.ifCond .ne 7, 3) := by decide +kernel
theorem dX7_mended_72 : decode cX7_mended 72 = .ok (.iload_n 2, 1) := by decide +kernel
theorem dX7_mended_73 : decode cX7_mended 73 = .ok (.goto 14, 3) := by decide +kernel
theorem dX7_mended_76 : decode cX7_mended 76 = .ok (.iload_n 1, 1) := by decide +kernel
theorem dX7_mended_77 : decode cX7_mended 77 = .ok (.iconst 1, 1) := by decide +kernel
theorem dX7_mended_78 : decode cX7_mended 78 = .ok (.if_icmp .ne 8, 3) := by decide +kernel
theorem dX7_mended_81 : decode cX7_mended 81 = .ok (.iload 4, 2) := by decide +kernel
theorem dX7_mended_83 : decode cX7_mended 83 = .ok (.goto 4, 3) := by decide +kernel
theorem dX7_mended_86 : decode cX7_mended 86 = .ok (.iload_n 3, 1) := by decide +kernel
theorem dX7_mended_87 : decode cX7_mended 87 = .ok (.ireturn, 1) := by decide +kernel
theorem dX7_mended_88 : decode cX7_mended 88 = .ok (.iinc 2 1, 3) := by decide +kernel
theorem dX7_mended_91 : decode cX7_mended 91 = .ok (.goto (-78), 3) := by decide +kernel
theorem dX7_mended_94 : decode cX7_mended 94 = .ok (.bipush (-9), 2) := by decide +kernel
theorem dX7_mended_96 : decode cX7_mended 96 = .ok (.ireturn, 1) := by decide +kernel
theorem dX7_isMatter_0 : decode cX7_isMatter 0 = .ok (.iload_n 0, 1) := by decide +kernel
theorem dX7_isMatter_1 : decode cX7_isMatter 1 = .ok (.ifCond .lt 13, 3) := by decide +kernel
theorem dX7_isMatter_4 : decode cX7_isMatter 4 = .ok (.iload_n 0, 1) := by decide +kernel
theorem dX7_isMatter_5 : decode cX7_isMatter 5 = .ok (.bipush 6, 2) := by decide +kernel
theorem dX7_isMatter_7 : decode cX7_isMatter 7 = .ok (.if_icmp .ge 7, 3) := by decide +kernel
theorem dX7_isMatter_10 : decode cX7_isMatter 10 = .ok (.iconst 1, 1) := by decide +kernel
theorem dX7_isMatter_11 : decode cX7_isMatter 11 = .ok (.goto 4, 3) := by decide +kernel
theorem dX7_isMatter_14 : decode cX7_isMatter 14 = .ok (.iconst 0, 1) := by decide +kernel
theorem dX7_isMatter_15 : decode cX7_isMatter 15 = .ok (.ireturn, 1) := by decide +kernel
theorem dX7_isSet_0 : decode cX7_isSet 0 = .ok (.iload_n 0, 1) := by decide +kernel
theorem dX7_isSet_1 : decode cX7_isSet 1 = .ok (.iconst 1, 1) := by decide +kernel
theorem dX7_isSet_2 : decode cX7_isSet 2 = .ok (.if_icmp .lt 13, 3) := by decide +kernel
theorem dX7_isSet_5 : decode cX7_isSet 5 = .ok (.iload_n 0, 1) := by decide +kernel
theorem dX7_isSet_6 : decode cX7_isSet 6 = .ok (.bipush 64, 2) := by decide +kernel
theorem dX7_isSet_8 : decode cX7_isSet 8 = .ok (.if_icmp .ge 7, 3) := by decide +kernel
theorem dX7_isSet_11 : decode cX7_isSet 11 = .ok (.iconst 1, 1) := by decide +kernel
theorem dX7_isSet_12 : decode cX7_isSet 12 = .ok (.goto 4, 3) := by decide +kernel
theorem dX7_isSet_15 : decode cX7_isSet 15 = .ok (.iconst 0, 1) := by decide +kernel
theorem dX7_isSet_16 : decode cX7_isSet 16 = .ok (.ireturn, 1) := by decide +kernel
theorem dX7_isWord_0 : decode cX7_isWord 0 = .ok (.iload_n 0, 1) := by decide +kernel
theorem dX7_isWord_1 : decode cX7_isWord 1 = .ok (.ifCond .lt 16, 3) := by decide +kernel
theorem dX7_isWord_4 : decode cX7_isWord 4 = .ok (.iload_n 0, 1) := by decide +kernel
theorem dX7_isWord_5 : decode cX7_isWord 5 = .ok (.iconst 3, 1) := by decide +kernel
theorem dX7_isWord_6 : decode cX7_isWord 6 = .ok (.if_icmp .gt 11, 3) := by decide +kernel
theorem dX7_isWord_9 : decode cX7_isWord 9 = .ok (.iload_n 1, 1) := by decide +kernel
theorem dX7_isWord_10 : decode cX7_isWord 10 = .ok (.ifCond .lt 7, 3) := by decide +kernel
theorem dX7_isWord_13 : decode cX7_isWord 13 = .ok (.iload_n 2, 1) := by decide +kernel
theorem dX7_isWord_14 : decode cX7_isWord 14 = .ok (.ifCond .ge 5, 3) := by decide +kernel
theorem dX7_isWord_17 : decode cX7_isWord 17 = .ok (.iconst 0, 1) := by decide +kernel
theorem dX7_isWord_18 : decode cX7_isWord 18 = .ok (.ireturn, 1) := by decide +kernel
theorem dX7_isWord_19 : decode cX7_isWord 19 = .ok (.iload_n 0, 1) := by decide +kernel
theorem dX7_isWord_20 : decode cX7_isWord 20 = .ok (.iconst 2, 1) := by decide +kernel
theorem dX7_isWord_21 : decode cX7_isWord 21 = .ok (.if_icmp .eq 8, 3) := by decide +kernel
theorem dX7_isWord_24 : decode cX7_isWord 24 = .ok (.iload_n 0, 1) := by decide +kernel
theorem dX7_isWord_25 : decode cX7_isWord 25 = .ok (.iconst 3, 1) := by decide +kernel
theorem dX7_isWord_26 : decode cX7_isWord 26 = .ok (.if_icmp .ne 7, 3) := by decide +kernel
theorem dX7_isWord_29 : decode cX7_isWord 29 = .ok (.iconst 1, 1) := by decide +kernel
theorem dX7_isWord_30 : decode cX7_isWord 30 = .ok (.goto 4, 3) := by decide +kernel
theorem dX7_isWord_33 : decode cX7_isWord 33 = .ok (.iconst 0, 1) := by decide +kernel
theorem dX7_isWord_34 : decode cX7_isWord 34 = .ok (.istore_n 3, 1) := by decide +kernel
theorem dX7_isWord_35 : decode cX7_isWord 35 = .ok (.iload_n 3, 1) := by decide +kernel
theorem dX7_isWord_36 : decode cX7_isWord 36 = .ok (.ifCond .eq 7, 3) := by decide +kernel
theorem dX7_isWord_39 : decode cX7_isWord 39 = .ok (.iconst 3, 1) := by decide +kernel
theorem dX7_isWord_40 : decode cX7_isWord 40 = .ok (.goto 4, 3) := by decide +kernel
theorem dX7_isWord_43 : decode cX7_isWord 43 = .ok (.iconst 1, 1) := by decide +kernel
theorem dX7_isWord_44 : decode cX7_isWord 44 = .ok (.istore 4, 2) := by decide +kernel
theorem dX7_isWord_46 : decode cX7_isWord 46 = .ok (.iload_n 0, 1) := by decide +kernel
theorem dX7_isWord_47 : decode cX7_isWord 47 = .ok (.iconst 3, 1) := by decide +kernel
theorem dX7_isWord_48 : decode cX7_isWord 48 = .ok (.if_icmp .ne 7, 3) := by decide +kernel
theorem dX7_isWord_51 : decode cX7_isWord 51 = .ok (.iconst 3, 1) := by decide +kernel
theorem dX7_isWord_52 : decode cX7_isWord 52 = .ok (.goto 5, 3) := by decide +kernel
theorem dX7_isWord_55 : decode cX7_isWord 55 = .ok (.bipush 59, 2) := by decide +kernel
theorem dX7_isWord_57 : decode cX7_isWord 57 = .ok (.istore 5, 2) := by decide +kernel
theorem dX7_isWord_59 : decode cX7_isWord 59 = .ok (.iload_n 1, 1) := by decide +kernel
theorem dX7_isWord_60 : decode cX7_isWord 60 = .ok (.iload 4, 2) := by decide +kernel
theorem dX7_isWord_62 : decode cX7_isWord 62 = .ok (.if_icmp .gt 13, 3) := by decide +kernel
theorem dX7_isWord_65 : decode cX7_isWord 65 = .ok (.iload_n 2, 1) := by decide +kernel
theorem dX7_isWord_66 : decode cX7_isWord 66 = .ok (.iload 5, 2) := by decide +kernel
theorem dX7_isWord_68 : decode cX7_isWord 68 = .ok (.if_icmp .gt 7, 3) := by decide +kernel
theorem dX7_isWord_71 : decode cX7_isWord 71 = .ok (.iconst 1, 1) := by decide +kernel
theorem dX7_isWord_72 : decode cX7_isWord 72 = .ok (.goto 4, 3) := by decide +kernel
theorem dX7_isWord_75 : decode cX7_isWord 75 = .ok (.iconst 0, 1) := by decide +kernel
theorem dX7_isWord_76 : decode cX7_isWord 76 = .ok (.ireturn, 1) := by decide +kernel
theorem dX7_doMend_0 : decode cX7_doMend 0 = .ok (.aload_n 0, 1) := by decide +kernel
theorem dX7_doMend_1 : decode cX7_doMend 1 = .ok (.getfield 20, 3) := by decide +kernel
theorem dX7_doMend_4 : decode cX7_doMend 4 = .ok (.aload_n 0, 1) := by decide +kernel
theorem dX7_doMend_5 : decode cX7_doMend 5 = .ok (.getfield 16, 3) := by decide +kernel
theorem dX7_doMend_8 : decode cX7_doMend 8 = .ok (.invokevirtual 335, 3) := by decide +kernel
theorem dX7_doMend_11 : decode cX7_doMend 11 = .ok (.iconst 0, 1) := by decide +kernel
theorem dX7_doMend_12 : decode cX7_doMend 12 = .ok (.istore_n 2, 1) := by decide +kernel
theorem dX7_doMend_13 : decode cX7_doMend 13 = .ok (.iload_n 2, 1) := by decide +kernel
theorem dX7_doMend_14 : decode cX7_doMend 14 = .ok (.iconst 5, 1) := by decide +kernel
theorem dX7_doMend_15 : decode cX7_doMend 15 = .ok (.if_icmp .ge 23, 3) := by decide +kernel
theorem dX7_doMend_18 : decode cX7_doMend 18 = .ok (.iload_n 1, 1) := by decide +kernel
theorem dX7_doMend_19 : decode cX7_doMend 19 = .ok (.iload_n 2, 1) := by decide +kernel
theorem dX7_doMend_20 : decode cX7_doMend 20 = .ok (.ishr, 1) := by decide +kernel
theorem dX7_doMend_21 : decode cX7_doMend 21 = .ok (.iconst 1, 1) := by decide +kernel
theorem dX7_doMend_22 : decode cX7_doMend 22 = .ok (.iand, 1) := by decide +kernel
theorem dX7_doMend_23 : decode cX7_doMend 23 = .ok (.iconst 1, 1) := by decide +kernel
theorem dX7_doMend_24 : decode cX7_doMend 24 = .ok (.if_icmp .ne 8, 3) := by decide +kernel
theorem dX7_doMend_27 : decode cX7_doMend 27 = .ok (.aload_n 0, 1) := by decide +kernel
theorem dX7_doMend_28 : decode cX7_doMend 28 = .ok (.iload_n 2, 1) := by decide +kernel
theorem dX7_doMend_29 : decode cX7_doMend 29 = .ok (.invokevirtual 338, 3) := by decide +kernel
theorem dX7_doMend_32 : decode cX7_doMend 32 = .ok (.iinc 2 1, 3) := by decide +kernel
theorem dX7_doMend_35 : decode cX7_doMend 35 = .ok (.goto (-22), 3) := by decide +kernel
theorem dX7_doMend_38 : decode cX7_doMend 38 = .ok (.aload_n 0, 1) := by decide +kernel
theorem dX7_doMend_39 : decode cX7_doMend 39 = .ok (.getfield 58, 3) := by decide +kernel
theorem dX7_doMend_42 : decode cX7_doMend 42 = .ok (.aload_n 0, 1) := by decide +kernel
theorem dX7_doMend_43 : decode cX7_doMend 43 = .ok (.getfield 20, 3) := by decide +kernel
theorem dX7_doMend_46 : decode cX7_doMend 46 = .ok (.aload_n 0, 1) := by decide +kernel
theorem dX7_doMend_47 : decode cX7_doMend 47 = .ok (.getfield 46, 3) := by decide +kernel
theorem dX7_doMend_50 : decode cX7_doMend 50 = .ok (.iconst 0, 1) := by decide +kernel
theorem dX7_doMend_51 : decode cX7_doMend 51 = .ok (.invokevirtual 341, 3) := by decide +kernel
theorem dX7_doMend_54 : decode cX7_doMend 54 = .ok (.ifCond .eq 26, 3) := by decide +kernel
theorem dX7_doMend_57 : decode cX7_doMend 57 = .ok (.aload_n 0, 1) := by decide +kernel
theorem dX7_doMend_58 : decode cX7_doMend 58 = .ok (.getfield 58, 3) := by decide +kernel
theorem dX7_doMend_61 : decode cX7_doMend 61 = .ok (.aload_n 0, 1) := by decide +kernel
theorem dX7_doMend_62 : decode cX7_doMend 62 = .ok (.getfield 20, 3) := by decide +kernel
theorem dX7_doMend_65 : decode cX7_doMend 65 = .ok (.aload_n 0, 1) := by decide +kernel
theorem dX7_doMend_66 : decode cX7_doMend 66 = .ok (.getfield 46, 3) := by decide +kernel
theorem dX7_doMend_69 : decode cX7_doMend 69 = .ok (.iconst 1, 1) := by decide +kernel
theorem dX7_doMend_70 : decode cX7_doMend 70 = .ok (.invokevirtual 341, 3) := by decide +kernel
theorem dX7_doMend_73 : decode cX7_doMend 73 = .ok (.ifCond .ne 7, 3) := by decide +kernel
theorem dX7_doMend_76 : decode cX7_doMend 76 = .ok (.iconst 1, 1) := by decide +kernel
theorem dX7_doMend_77 : decode cX7_doMend 77 = .ok (.goto 4, 3) := by decide +kernel
theorem dX7_doMend_80 : decode cX7_doMend 80 = .ok (.iconst 0, 1) := by decide +kernel
theorem dX7_doMend_81 : decode cX7_doMend 81 = .ok (.ireturn, 1) := by decide +kernel
theorem dX7_rewriteDraft_0 : decode cX7_rewriteDraft 0 = .ok (.iconst 0, 1) := by decide +kernel
theorem dX7_rewriteDraft_1 : decode cX7_rewriteDraft 1 = .ok (.istore_n 2, 1) := by decide +kernel
theorem dX7_rewriteDraft_2 : decode cX7_rewriteDraft 2 = .ok (.iload_n 2, 1) := by decide +kernel
theorem dX7_rewriteDraft_3 : decode cX7_rewriteDraft 3 = .ok (.iconst 2, 1) := by decide +kernel
theorem dX7_rewriteDraft_4 : decode cX7_rewriteDraft 4 = .ok (.if_icmp .ge 58, 3) := by decide +kernel
theorem dX7_rewriteDraft_7 : decode cX7_rewriteDraft 7 = .ok (.aload_n 0, 1) := by decide +kernel
theorem dX7_rewriteDraft_8 : decode cX7_rewriteDraft 8 = .ok (.getfield 73, 3) := by decide +kernel
theorem dX7_rewriteDraft_11 : decode cX7_rewriteDraft 11 = .ok (.iload_n 1, 1) := by decide +kernel
theorem dX7_rewriteDraft_12 : decode cX7_rewriteDraft 12 = .ok (.invokestatic 182, 3) := by decide +kernel
theorem dX7_rewriteDraft_15 : decode cX7_rewriteDraft 15 = .ok (.istore_n 3, 1) := by decide +kernel
theorem dX7_rewriteDraft_16 : decode cX7_rewriteDraft 16 = .ok (.aload_n 0, 1) := by decide +kernel
theorem dX7_rewriteDraft_17 : decode cX7_rewriteDraft 17 = .ok (.getfield 20, 3) := by decide +kernel
theorem dX7_rewriteDraft_20 : decode cX7_rewriteDraft 20 = .ok (.iload_n 2, 1) := by decide +kernel
theorem dX7_rewriteDraft_21 : decode cX7_rewriteDraft 21 = .ok (.iload_n 3, 1) := by decide +kernel
theorem dX7_rewriteDraft_22 : decode cX7_rewriteDraft 22 = .ok (.invokevirtual 108, 3) := by decide +kernel
theorem dX7_rewriteDraft_25 : decode cX7_rewriteDraft 25 = .ok (.ifCond .eq 31, 3) := by decide +kernel
theorem dX7_rewriteDraft_28 : decode cX7_rewriteDraft 28 = .ok (.aload_n 0, 1) := by decide +kernel
theorem dX7_rewriteDraft_29 : decode cX7_rewriteDraft 29 = .ok (.getfield 20, 3) := by decide +kernel
theorem dX7_rewriteDraft_32 : decode cX7_rewriteDraft 32 = .ok (.iload_n 2, 1) := by decide +kernel
theorem dX7_rewriteDraft_33 : decode cX7_rewriteDraft 33 = .ok (.iload_n 3, 1) := by decide +kernel
theorem dX7_rewriteDraft_34 : decode cX7_rewriteDraft 34 = .ok (.invokevirtual 112, 3) := by decide +kernel
theorem dX7_rewriteDraft_37 : decode cX7_rewriteDraft 37 = .ok (.aload_n 0, 1) := by decide +kernel
theorem dX7_rewriteDraft_38 : decode cX7_rewriteDraft 38 = .ok (.getfield 69, 3) := by decide +kernel
theorem dX7_rewriteDraft_41 : decode cX7_rewriteDraft 41 = .ok (.iload_n 1, 1) := by decide +kernel
theorem dX7_rewriteDraft_42 : decode cX7_rewriteDraft 42 = .ok (.invokestatic 182, 3) := by decide +kernel
theorem dX7_rewriteDraft_45 : decode cX7_rewriteDraft 45 = .ok (.aload_n 0, 1) := by decide +kernel
theorem dX7_rewriteDraft_46 : decode cX7_rewriteDraft 46 = .ok (.getfield 76, 3) := by decide +kernel
theorem dX7_rewriteDraft_49 : decode cX7_rewriteDraft 49 = .ok (.iload_n 1, 1) := by decide +kernel
theorem dX7_rewriteDraft_50 : decode cX7_rewriteDraft 50 = .ok (.invokestatic 182, 3) := by decide +kernel
theorem dX7_rewriteDraft_53 : decode cX7_rewriteDraft 53 = .ok (.invokestatic 345, 3) := by decide +kernel
theorem dX7_rewriteDraft_56 : decode cX7_rewriteDraft 56 = .ok (.iinc 2 1, 3) := by decide +kernel
theorem dX7_rewriteDraft_59 : decode cX7_rewriteDraft 59 = .ok (.goto (-57), 3) := by decide +kernel
theorem dX7_rewriteDraft_62 : decode cX7_rewriteDraft 62 = .ok (.return_, 1) := by decide +kernel
theorem dX7_rewriteStep_0 : decode cX7_rewriteStep 0 = .ok (.iload_n 1, 1) := by decide +kernel
theorem dX7_rewriteStep_1 : decode cX7_rewriteStep 1 = .ok (.iconst 2, 1) := by decide +kernel
theorem dX7_rewriteStep_2 : decode cX7_rewriteStep 2 = .ok (.if_icmp .ne 20, 3) := by decide +kernel
theorem dX7_rewriteStep_5 : decode cX7_rewriteStep 5 = .ok (.aload_n 0, 1) := by decide +kernel
theorem dX7_rewriteStep_6 : decode cX7_rewriteStep 6 = .ok (.iconst 0, 1) := by decide +kernel
theorem dX7_rewriteStep_7 : decode cX7_rewriteStep 7 = .ok (.aload_n 0, 1) := by decide +kernel
theorem dX7_rewriteStep_8 : decode cX7_rewriteStep 8 = .ok (.getfield 121, 3) := by decide +kernel
theorem dX7_rewriteStep_11 : decode cX7_rewriteStep 11 = .ok (.iload_n 2, 1) := by decide +kernel
theorem dX7_rewriteStep_12 : decode cX7_rewriteStep 12 = .ok (.isub, 1) := by decide +kernel
theorem dX7_rewriteStep_13 : decode cX7_rewriteStep 13 = .ok (.invokestatic 349, 3) := by decide +kernel
theorem dX7_rewriteStep_16 : decode cX7_rewriteStep 16 = .ok (.putfield 121, 3) := by decide +kernel
theorem dX7_rewriteStep_19 : decode cX7_rewriteStep 19 = .ok (.goto 20, 3) := by decide +kernel
theorem dX7_rewriteStep_22 : decode cX7_rewriteStep 22 = .ok (.iload_n 1, 1) := by decide +kernel
theorem dX7_rewriteStep_23 : decode cX7_rewriteStep 23 = .ok (.iconst 3, 1) := by decide +kernel
theorem dX7_rewriteStep_24 : decode cX7_rewriteStep 24 = .ok (.if_icmp .ne 15, 3) := by decide +kernel
theorem dX7_rewriteStep_27 : decode cX7_rewriteStep 27 = .ok (.aload_n 0, 1) := by decide +kernel
theorem dX7_rewriteStep_28 : decode cX7_rewriteStep 28 = .ok (.dup, 1) := by decide +kernel
theorem dX7_rewriteStep_29 : decode cX7_rewriteStep 29 = .ok (.getfield 116, 3) := by decide +kernel
theorem dX7_rewriteStep_32 : decode cX7_rewriteStep 32 = .ok (.iconst 1, 1) := by decide +kernel
theorem dX7_rewriteStep_33 : decode cX7_rewriteStep 33 = .ok (.iload_n 2, 1) := by decide +kernel
theorem dX7_rewriteStep_34 : decode cX7_rewriteStep 34 = .ok (.ishl, 1) := by decide +kernel
theorem dX7_rewriteStep_35 : decode cX7_rewriteStep 35 = .ok (.ior, 1) := by decide +kernel
theorem dX7_rewriteStep_36 : decode cX7_rewriteStep 36 = .ok (.putfield 116, 3) := by decide +kernel
theorem dX7_rewriteStep_39 : decode cX7_rewriteStep 39 = .ok (.return_, 1) := by decide +kernel
theorem dX7_price_0 : decode cX7_price 0 = .ok (.iload_n 1, 1) := by decide +kernel
theorem dX7_price_1 : decode cX7_price 1 = .ok (.ifCond .lt 17, 3) := by decide +kernel
theorem dX7_price_4 : decode cX7_price 4 = .ok (.iload_n 1, 1) := by decide +kernel
theorem dX7_price_5 : decode cX7_price 5 = .ok (.bipush 6, 2) := by decide +kernel
theorem dX7_price_7 : decode cX7_price 7 = .ok (.if_icmp .gt 11, 3) := by decide +kernel
theorem dX7_price_10 : decode cX7_price 10 = .ok (.aload_n 0, 1) := by decide +kernel
theorem dX7_price_11 : decode cX7_price 11 = .ok (.iload_n 2, 1) := by decide +kernel
theorem dX7_price_12 : decode cX7_price 12 = .ok (.invokevirtual 97, 3) := by decide +kernel
theorem dX7_price_15 : decode cX7_price 15 = .ok (.ifCond .ne 5, 3) := by decide +kernel
theorem dX7_price_18 : decode cX7_price 18 = .ok (.iconst (-1), 1) := by decide +kernel
theorem dX7_price_19 : decode cX7_price 19 = .ok (.ireturn, 1) := by decide +kernel
theorem dX7_price_20 : decode cX7_price 20 = .ok (.aload_n 0, 1) := by decide +kernel
theorem dX7_price_21 : decode cX7_price 21 = .ok (.iload_n 2, 1) := by decide +kernel
theorem dX7_price_22 : decode cX7_price 22 = .ok (.invokevirtual 354, 3) := by decide +kernel
theorem dX7_price_25 : decode cX7_price 25 = .ok (.istore_n 3, 1) := by decide +kernel
theorem dX7_price_26 : decode cX7_price 26 = .ok (.iload_n 1, 1) := by decide +kernel
theorem dX7_price_27 : decode cX7_price 27 = .ok (.tableswitch 85 1 6 #[37, 44, 50, 61, 68, 79], 37) := by decide +kernel
theorem dX7_price_64 : decode cX7_price 64 = .ok (.aload_n 0, 1) := by decide +kernel
theorem dX7_price_65 : decode cX7_price 65 = .ok (.iload_n 3, 1) := by decide +kernel
theorem dX7_price_66 : decode cX7_price 66 = .ok (.iload_n 2, 1) := by decide +kernel
theorem dX7_price_67 : decode cX7_price 67 = .ok (.invokevirtual 357, 3) := by decide +kernel
theorem dX7_price_70 : decode cX7_price 70 = .ok (.ireturn, 1) := by decide +kernel
theorem dX7_price_71 : decode cX7_price 71 = .ok (.aload_n 0, 1) := by decide +kernel
theorem dX7_price_72 : decode cX7_price 72 = .ok (.iload_n 3, 1) := by decide +kernel
theorem dX7_price_73 : decode cX7_price 73 = .ok (.invokevirtual 360, 3) := by decide +kernel
theorem dX7_price_76 : decode cX7_price 76 = .ok (.ireturn, 1) := by decide +kernel
theorem dX7_price_77 : decode cX7_price 77 = .ok (.aload_n 0, 1) := by decide +kernel
theorem dX7_price_78 : decode cX7_price 78 = .ok (.aload_n 0, 1) := by decide +kernel
theorem dX7_price_79 : decode cX7_price 79 = .ok (.iload_n 3, 1) := by decide +kernel
theorem dX7_price_80 : decode cX7_price 80 = .ok (.invokevirtual 360, 3) := by decide +kernel
theorem dX7_price_83 : decode cX7_price 83 = .ok (.iload_n 2, 1) := by decide +kernel
theorem dX7_price_84 : decode cX7_price 84 = .ok (.invokevirtual 363, 3) := by decide +kernel
theorem dX7_price_87 : decode cX7_price 87 = .ok (.ireturn, 1) := by decide +kernel
theorem dX7_price_88 : decode cX7_price 88 = .ok (.aload_n 0, 1) := by decide +kernel
theorem dX7_price_89 : decode cX7_price 89 = .ok (.iload_n 3, 1) := by decide +kernel
theorem dX7_price_90 : decode cX7_price 90 = .ok (.iload_n 2, 1) := by decide +kernel
theorem dX7_price_91 : decode cX7_price 91 = .ok (.invokevirtual 366, 3) := by decide +kernel
theorem dX7_price_94 : decode cX7_price 94 = .ok (.ireturn, 1) := by decide +kernel
theorem dX7_price_95 : decode cX7_price 95 = .ok (.aload_n 0, 1) := by decide +kernel
theorem dX7_price_96 : decode cX7_price 96 = .ok (.aload_n 0, 1) := by decide +kernel
theorem dX7_price_97 : decode cX7_price 97 = .ok (.iload_n 3, 1) := by decide +kernel
theorem dX7_price_98 : decode cX7_price 98 = .ok (.iload_n 2, 1) := by decide +kernel
theorem dX7_price_99 : decode cX7_price 99 = .ok (.invokevirtual 357, 3) := by decide +kernel
theorem dX7_price_102 : decode cX7_price 102 = .ok (.invokevirtual 369, 3) := by decide +kernel
theorem dX7_price_105 : decode cX7_price 105 = .ok (.ireturn, 1) := by decide +kernel
theorem dX7_price_106 : decode cX7_price 106 = .ok (.aload_n 0, 1) := by decide +kernel
theorem dX7_price_107 : decode cX7_price 107 = .ok (.iload_n 3, 1) := by decide +kernel
theorem dX7_price_108 : decode cX7_price 108 = .ok (.invokevirtual 372, 3) := by decide +kernel
theorem dX7_price_111 : decode cX7_price 111 = .ok (.ireturn, 1) := by decide +kernel
theorem dX7_price_112 : decode cX7_price 112 = .ok (.iload_n 3, 1) := by decide +kernel
theorem dX7_price_113 : decode cX7_price 113 = .ok (.ireturn, 1) := by decide +kernel
theorem dX7_keep_0 : decode cX7_keep 0 = .ok (.aload_n 0, 1) := by decide +kernel
theorem dX7_keep_1 : decode cX7_keep 1 = .ok (.iload_n 1, 1) := by decide +kernel
theorem dX7_keep_2 : decode cX7_keep 2 = .ok (.invokevirtual 375, 3) := by decide +kernel
theorem dX7_keep_5 : decode cX7_keep 5 = .ok (.ifCond .ne 5, 3) := by decide +kernel
theorem dX7_keep_8 : decode cX7_keep 8 = .ok (.iconst (-1), 1) := by decide +kernel
theorem dX7_keep_9 : decode cX7_keep 9 = .ok (.ireturn, 1) := by decide +kernel
theorem dX7_keep_10 : decode cX7_keep 10 = .ok (.aload_n 0, 1) := by decide +kernel
theorem dX7_keep_11 : decode cX7_keep 11 = .ok (.getfield 49, 3) := by decide +kernel
theorem dX7_keep_14 : decode cX7_keep 14 = .ok (.iload_n 1, 1) := by decide +kernel
theorem dX7_keep_15 : decode cX7_keep 15 = .ok (.aaload, 1) := by decide +kernel
theorem dX7_keep_16 : decode cX7_keep 16 = .ok (.astore_n 2, 1) := by decide +kernel
theorem dX7_keep_17 : decode cX7_keep 17 = .ok (.aload_n 2, 1) := by decide +kernel
theorem dX7_keep_18 : decode cX7_keep 18 = .ok (.ifnonnull 5, 3) := by decide +kernel
theorem dX7_keep_21 : decode cX7_keep 21 = .ok (.iconst (-1), 1) := by decide +kernel
theorem dX7_keep_22 : decode cX7_keep 22 = .ok (.ireturn, 1) := by decide +kernel
theorem dX7_keep_23 : decode cX7_keep 23 = .ok (.aload_n 2, 1) := by decide +kernel
theorem dX7_keep_24 : decode cX7_keep 24 = .ok (.aload_n 0, 1) := by decide +kernel
theorem dX7_keep_25 : decode cX7_keep 25 = .ok (.getfield 42, 3) := by decide +kernel
theorem dX7_keep_28 : decode cX7_keep 28 = .ok (.invokevirtual 378, 3) := by decide +kernel
theorem dX7_keep_31 : decode cX7_keep 31 = .ok (.aload_n 2, 1) := by decide +kernel
theorem dX7_keep_32 : decode cX7_keep 32 = .ok (.aload_n 0, 1) := by decide +kernel
theorem dX7_keep_33 : decode cX7_keep 33 = .ok (.getfield 35, 3) := by decide +kernel
theorem dX7_keep_36 : decode cX7_keep 36 = .ok (.getfield 381, 3) := by decide +kernel
theorem dX7_keep_39 : decode cX7_keep 39 = .ok (.putfield 384, 3) := by decide +kernel
theorem dX7_keep_42 : decode cX7_keep 42 = .ok (.aload_n 0, 1) := by decide +kernel
theorem dX7_keep_43 : decode cX7_keep 43 = .ok (.dup, 1) := by decide +kernel
theorem dX7_keep_44 : decode cX7_keep 44 = .ok (.getfield 91, 3) := by decide +kernel
theorem dX7_keep_47 : decode cX7_keep 47 = .ok (.iconst 1, 1) := by decide +kernel
theorem dX7_keep_48 : decode cX7_keep 48 = .ok (.iload_n 1, 1) := by decide +kernel
theorem dX7_keep_49 : decode cX7_keep 49 = .ok (.ishl, 1) := by decide +kernel
theorem dX7_keep_50 : decode cX7_keep 50 = .ok (.ior, 1) := by decide +kernel
theorem dX7_keep_51 : decode cX7_keep 51 = .ok (.putfield 91, 3) := by decide +kernel
theorem dX7_keep_54 : decode cX7_keep 54 = .ok (.aload_n 0, 1) := by decide +kernel
theorem dX7_keep_55 : decode cX7_keep 55 = .ok (.getfield 42, 3) := by decide +kernel
theorem dX7_keep_58 : decode cX7_keep 58 = .ok (.getfield 199, 3) := by decide +kernel
theorem dX7_keep_61 : decode cX7_keep 61 = .ok (.ireturn, 1) := by decide +kernel
theorem dX7_back_0 : decode cX7_back 0 = .ok (.aload_n 0, 1) := by decide +kernel
theorem dX7_back_1 : decode cX7_back 1 = .ok (.iload_n 1, 1) := by decide +kernel
theorem dX7_back_2 : decode cX7_back 2 = .ok (.invokevirtual 375, 3) := by decide +kernel
theorem dX7_back_5 : decode cX7_back 5 = .ok (.ifCond .ne 5, 3) := by decide +kernel
theorem dX7_back_8 : decode cX7_back 8 = .ok (.iconst (-1), 1) := by decide +kernel
theorem dX7_back_9 : decode cX7_back 9 = .ok (.ireturn, 1) := by decide +kernel
theorem dX7_back_10 : decode cX7_back 10 = .ok (.aload_n 0, 1) := by decide +kernel
theorem dX7_back_11 : decode cX7_back 11 = .ok (.getfield 49, 3) := by decide +kernel
theorem dX7_back_14 : decode cX7_back 14 = .ok (.iload_n 1, 1) := by decide +kernel
theorem dX7_back_15 : decode cX7_back 15 = .ok (.aaload, 1) := by decide +kernel
theorem dX7_back_16 : decode cX7_back 16 = .ok (.astore_n 2, 1) := by decide +kernel
theorem dX7_back_17 : decode cX7_back 17 = .ok (.aload_n 0, 1) := by decide +kernel
theorem dX7_back_18 : decode cX7_back 18 = .ok (.getfield 91, 3) := by decide +kernel
theorem dX7_back_21 : decode cX7_back 21 = .ok (.iload_n 1, 1) := by decide +kernel
theorem dX7_back_22 : decode cX7_back 22 = .ok (.ishr, 1) := by decide +kernel
theorem dX7_back_23 : decode cX7_back 23 = .ok (.iconst 1, 1) := by decide +kernel
theorem dX7_back_24 : decode cX7_back 24 = .ok (.iand, 1) := by decide +kernel
theorem dX7_back_25 : decode cX7_back 25 = .ok (.ifCond .eq 7, 3) := by decide +kernel
theorem dX7_back_28 : decode cX7_back 28 = .ok (.aload_n 2, 1) := by decide +kernel
theorem dX7_back_29 : decode cX7_back 29 = .ok (.ifnonnull 6, 3) := by decide +kernel
theorem dX7_back_32 : decode cX7_back 32 = .ok (.bipush (-2), 2) := by decide +kernel
theorem dX7_back_34 : decode cX7_back 34 = .ok (.ireturn, 1) := by decide +kernel
theorem dX7_back_35 : decode cX7_back 35 = .ok (.aload_n 0, 1) := by decide +kernel
theorem dX7_back_36 : decode cX7_back 36 = .ok (.getfield 42, 3) := by decide +kernel
theorem dX7_back_39 : decode cX7_back 39 = .ok (.aload_n 2, 1) := by decide +kernel
theorem dX7_back_40 : decode cX7_back 40 = .ok (.invokevirtual 378, 3) := by decide +kernel
theorem dX7_back_43 : decode cX7_back 43 = .ok (.aload_n 2, 1) := by decide +kernel
theorem dX7_back_44 : decode cX7_back 44 = .ok (.getfield 384, 3) := by decide +kernel
theorem dX7_back_47 : decode cX7_back 47 = .ok (.istore_n 3, 1) := by decide +kernel
theorem dX7_back_48 : decode cX7_back 48 = .ok (.iload_n 3, 1) := by decide +kernel
theorem dX7_back_49 : decode cX7_back 49 = .ok (.aload_n 0, 1) := by decide +kernel
theorem dX7_back_50 : decode cX7_back 50 = .ok (.getfield 35, 3) := by decide +kernel
theorem dX7_back_53 : decode cX7_back 53 = .ok (.getfield 381, 3) := by decide +kernel
theorem dX7_back_56 : decode cX7_back 56 = .ok (.if_icmp .ge 28, 3) := by decide +kernel
theorem dX7_back_59 : decode cX7_back 59 = .ok (.aload_n 0, 1) := by decide +kernel
theorem dX7_back_60 : decode cX7_back 60 = .ok (.getfield 42, 3) := by decide +kernel
theorem dX7_back_63 : decode cX7_back 63 = .ok (.getfield 166, 3) := by decide +kernel
theorem dX7_back_66 : decode cX7_back 66 = .ok (.iload_n 3, 1) := by decide +kernel
theorem dX7_back_67 : decode cX7_back 67 = .ok (.aload_n 0, 1) := by decide +kernel
theorem dX7_back_68 : decode cX7_back 68 = .ok (.getfield 35, 3) := by decide +kernel
theorem dX7_back_71 : decode cX7_back 71 = .ok (.iload_n 3, 1) := by decide +kernel
theorem dX7_back_72 : decode cX7_back 72 = .ok (.invokevirtual 179, 3) := by decide +kernel
theorem dX7_back_75 : decode cX7_back 75 = .ok (.invokestatic 169, 3) := by decide +kernel
theorem dX7_back_78 : decode cX7_back 78 = .ok (.iinc 3 1, 3) := by decide +kernel
theorem dX7_back_81 : decode cX7_back 81 = .ok (.goto (-33), 3) := by decide +kernel
theorem dX7_back_84 : decode cX7_back 84 = .ok (.aload_n 0, 1) := by decide +kernel
theorem dX7_back_85 : decode cX7_back 85 = .ok (.getfield 42, 3) := by decide +kernel
theorem dX7_back_88 : decode cX7_back 88 = .ok (.getfield 199, 3) := by decide +kernel
theorem dX7_back_91 : decode cX7_back 91 = .ok (.ireturn, 1) := by decide +kernel
theorem dX7_count_0 : decode cX7_count 0 = .ok (.iload_n 1, 1) := by decide +kernel
theorem dX7_count_1 : decode cX7_count 1 = .ok (.tableswitch 95 0 6 #[43, 51, 59, 67, 72, 78, 84], 43) := by decide +kernel
theorem dX7_count_44 : decode cX7_count 44 = .ok (.aload_n 0, 1) := by decide +kernel
theorem dX7_count_45 : decode cX7_count 45 = .ok (.getfield 16, 3) := by decide +kernel
theorem dX7_count_48 : decode cX7_count 48 = .ok (.getfield 138, 3) := by decide +kernel
theorem dX7_count_51 : decode cX7_count 51 = .ok (.ireturn, 1) := by decide +kernel
theorem dX7_count_52 : decode cX7_count 52 = .ok (.aload_n 0, 1) := by decide +kernel
theorem dX7_count_53 : decode cX7_count 53 = .ok (.getfield 35, 3) := by decide +kernel
theorem dX7_count_56 : decode cX7_count 56 = .ok (.getfield 381, 3) := by decide +kernel
theorem dX7_count_59 : decode cX7_count 59 = .ok (.ireturn, 1) := by decide +kernel
theorem dX7_count_60 : decode cX7_count 60 = .ok (.aload_n 0, 1) := by decide +kernel
theorem dX7_count_61 : decode cX7_count 61 = .ok (.getfield 65, 3) := by decide +kernel
theorem dX7_count_64 : decode cX7_count 64 = .ok (.getfield 386, 3) := by decide +kernel
theorem dX7_count_67 : decode cX7_count 67 = .ok (.ireturn, 1) := by decide +kernel
theorem dX7_count_68 : decode cX7_count 68 = .ok (.aload_n 0, 1) := by decide +kernel
theorem dX7_count_69 : decode cX7_count 69 = .ok (.getfield 79, 3) := by decide +kernel
theorem dX7_count_72 : decode cX7_count 72 = .ok (.ireturn, 1) := by decide +kernel
theorem dX7_count_73 : decode cX7_count 73 = .ok (.aload_n 0, 1) := by decide +kernel
theorem dX7_count_74 : decode cX7_count 74 = .ok (.iconst 1, 1) := by decide +kernel
theorem dX7_count_75 : decode cX7_count 75 = .ok (.invokevirtual 389, 3) := by decide +kernel
theorem dX7_count_78 : decode cX7_count 78 = .ok (.ireturn, 1) := by decide +kernel
theorem dX7_count_79 : decode cX7_count 79 = .ok (.aload_n 0, 1) := by decide +kernel
theorem dX7_count_80 : decode cX7_count 80 = .ok (.iconst 2, 1) := by decide +kernel
theorem dX7_count_81 : decode cX7_count 81 = .ok (.invokevirtual 389, 3) := by decide +kernel
theorem dX7_count_84 : decode cX7_count 84 = .ok (.ireturn, 1) := by decide +kernel
theorem dX7_count_85 : decode cX7_count 85 = .ok (.aload_n 0, 1) := by decide +kernel
theorem dX7_count_86 : decode cX7_count 86 = .ok (.getfield 42, 3) := by decide +kernel
theorem dX7_count_89 : decode cX7_count 89 = .ok (.getfield 392, 3) := by decide +kernel
theorem dX7_count_92 : decode cX7_count 92 = .ok (.invokestatic 396, 3) := by decide +kernel
theorem dX7_count_95 : decode cX7_count 95 = .ok (.ireturn, 1) := by decide +kernel
theorem dX7_count_96 : decode cX7_count 96 = .ok (.iconst (-1), 1) := by decide +kernel
theorem dX7_count_97 : decode cX7_count 97 = .ok (.ireturn, 1) := by decide +kernel
theorem dX7_trace_0 : decode cX7_trace 0 = .ok (.aload_n 0, 1) := by decide +kernel
theorem dX7_trace_1 : decode cX7_trace 1 = .ok (.getfield 401, 3) := by decide +kernel
theorem dX7_trace_4 : decode cX7_trace 4 = .ok (.lreturn, 1) := by decide +kernel
theorem dX7_isImage_0 : decode cX7_isImage 0 = .ok (.iload_n 1, 1) := by decide +kernel
theorem dX7_isImage_1 : decode cX7_isImage 1 = .ok (.ifCond .lt 16, 3) := by decide +kernel
theorem dX7_isImage_4 : decode cX7_isImage 4 = .ok (.iload_n 1, 1) := by decide +kernel
theorem dX7_isImage_5 : decode cX7_isImage 5 = .ok (.aload_n 0, 1) := by decide +kernel
theorem dX7_isImage_6 : decode cX7_isImage 6 = .ok (.getfield 49, 3) := by decide +kernel
theorem dX7_isImage_9 : decode cX7_isImage 9 = .ok (.arraylength, 1) := by decide +kernel
theorem dX7_isImage_10 : decode cX7_isImage 10 = .ok (.if_icmp .ge 7, 3) := by decide +kernel
theorem dX7_isImage_13 : decode cX7_isImage 13 = .ok (.iconst 1, 1) := by decide +kernel
theorem dX7_isImage_14 : decode cX7_isImage 14 = .ok (.goto 4, 3) := by decide +kernel
theorem dX7_isImage_17 : decode cX7_isImage 17 = .ok (.iconst 0, 1) := by decide +kernel
theorem dX7_isImage_18 : decode cX7_isImage 18 = .ok (.ireturn, 1) := by decide +kernel
theorem dX7_leftOf_0 : decode cX7_leftOf 0 = .ok (.iconst 0, 1) := by decide +kernel
theorem dX7_leftOf_1 : decode cX7_leftOf 1 = .ok (.istore_n 2, 1) := by decide +kernel
theorem dX7_leftOf_2 : decode cX7_leftOf 2 = .ok (.iconst 0, 1) := by decide +kernel
theorem dX7_leftOf_3 : decode cX7_leftOf 3 = .ok (.istore_n 3, 1) := by decide +kernel
theorem dX7_leftOf_4 : decode cX7_leftOf 4 = .ok (.iload_n 3, 1) := by decide +kernel
theorem dX7_leftOf_5 : decode cX7_leftOf 5 = .ok (.aload_n 0, 1) := by decide +kernel
theorem dX7_leftOf_6 : decode cX7_leftOf 6 = .ok (.getfield 35, 3) := by decide +kernel
theorem dX7_leftOf_9 : decode cX7_leftOf 9 = .ok (.getfield 381, 3) := by decide +kernel
theorem dX7_leftOf_12 : decode cX7_leftOf 12 = .ok (.if_icmp .ge 35, 3) := by decide +kernel
theorem dX7_leftOf_15 : decode cX7_leftOf 15 = .ok (.aload_n 0, 1) := by decide +kernel
theorem dX7_leftOf_16 : decode cX7_leftOf 16 = .ok (.getfield 35, 3) := by decide +kernel
theorem dX7_leftOf_19 : decode cX7_leftOf 19 = .ok (.iload_n 3, 1) := by decide +kernel
theorem dX7_leftOf_20 : decode cX7_leftOf 20 = .ok (.invokevirtual 176, 3) := by decide +kernel
theorem dX7_leftOf_23 : decode cX7_leftOf 23 = .ok (.iload_n 1, 1) := by decide +kernel
theorem dX7_leftOf_24 : decode cX7_leftOf 24 = .ok (.if_icmp .ne 17, 3) := by decide +kernel
theorem dX7_leftOf_27 : decode cX7_leftOf 27 = .ok (.iload_n 2, 1) := by decide +kernel
theorem dX7_leftOf_28 : decode cX7_leftOf 28 = .ok (.aload_n 0, 1) := by decide +kernel
theorem dX7_leftOf_29 : decode cX7_leftOf 29 = .ok (.getfield 42, 3) := by decide +kernel
theorem dX7_leftOf_32 : decode cX7_leftOf 32 = .ok (.getfield 166, 3) := by decide +kernel
theorem dX7_leftOf_35 : decode cX7_leftOf 35 = .ok (.iload_n 3, 1) := by decide +kernel
theorem dX7_leftOf_36 : decode cX7_leftOf 36 = .ok (.invokestatic 182, 3) := by decide +kernel
theorem dX7_leftOf_39 : decode cX7_leftOf 39 = .ok (.iadd, 1) := by decide +kernel
theorem dX7_leftOf_40 : decode cX7_leftOf 40 = .ok (.istore_n 2, 1) := by decide +kernel
theorem dX7_leftOf_41 : decode cX7_leftOf 41 = .ok (.iinc 3 1, 3) := by decide +kernel
theorem dX7_leftOf_44 : decode cX7_leftOf 44 = .ok (.goto (-40), 3) := by decide +kernel
theorem dX7_leftOf_47 : decode cX7_leftOf 47 = .ok (.iload_n 2, 1) := by decide +kernel
theorem dX7_leftOf_48 : decode cX7_leftOf 48 = .ok (.ireturn, 1) := by decide +kernel
theorem dX7_priceOfAct_0 : decode cX7_priceOfAct 0 = .ok (.aload_n 0, 1) := by decide +kernel
theorem dX7_priceOfAct_1 : decode cX7_priceOfAct 1 = .ok (.dup, 1) := by decide +kernel
theorem dX7_priceOfAct_2 : decode cX7_priceOfAct 2 = .ok (.getfield 401, 3) := by decide +kernel
theorem dX7_priceOfAct_5 : decode cX7_priceOfAct 5 = .ok (.lconst 1, 1) := by decide +kernel
theorem dX7_priceOfAct_6 : decode cX7_priceOfAct 6 = .ok (.ladd, 1) := by decide +kernel
theorem dX7_priceOfAct_7 : decode cX7_priceOfAct 7 = .ok (.putfield 401, 3) := by decide +kernel
theorem dX7_priceOfAct_10 : decode cX7_priceOfAct 10 = .ok (.aload_n 0, 1) := by decide +kernel
theorem dX7_priceOfAct_11 : decode cX7_priceOfAct 11 = .ok (.iload_n 1, 1) := by decide +kernel
theorem dX7_priceOfAct_12 : decode cX7_priceOfAct 12 = .ok (.invokevirtual 101, 3) := by decide +kernel
theorem dX7_priceOfAct_15 : decode cX7_priceOfAct 15 = .ok (.iconst 1, 1) := by decide +kernel
theorem dX7_priceOfAct_16 : decode cX7_priceOfAct 16 = .ok (.iadd, 1) := by decide +kernel
theorem dX7_priceOfAct_17 : decode cX7_priceOfAct 17 = .ok (.ireturn, 1) := by decide +kernel
theorem dX7_priceOfStep_0 : decode cX7_priceOfStep 0 = .ok (.aload_n 0, 1) := by decide +kernel
theorem dX7_priceOfStep_1 : decode cX7_priceOfStep 1 = .ok (.dup, 1) := by decide +kernel
theorem dX7_priceOfStep_2 : decode cX7_priceOfStep 2 = .ok (.getfield 401, 3) := by decide +kernel
theorem dX7_priceOfStep_5 : decode cX7_priceOfStep 5 = .ok (.ldc2_w 404, 3) := by decide +kernel
theorem dX7_priceOfStep_8 : decode cX7_priceOfStep 8 = .ok (.ladd, 1) := by decide +kernel
theorem dX7_priceOfStep_9 : decode cX7_priceOfStep 9 = .ok (.putfield 401, 3) := by decide +kernel
theorem dX7_priceOfStep_12 : decode cX7_priceOfStep 12 = .ok (.iconst 0, 1) := by decide +kernel
theorem dX7_priceOfStep_13 : decode cX7_priceOfStep 13 = .ok (.istore_n 3, 1) := by decide +kernel
theorem dX7_priceOfStep_14 : decode cX7_priceOfStep 14 = .ok (.iconst 0, 1) := by decide +kernel
theorem dX7_priceOfStep_15 : decode cX7_priceOfStep 15 = .ok (.istore 4, 2) := by decide +kernel
theorem dX7_priceOfStep_17 : decode cX7_priceOfStep 17 = .ok (.iload 4, 2) := by decide +kernel
theorem dX7_priceOfStep_19 : decode cX7_priceOfStep 19 = .ok (.iconst 2, 1) := by decide +kernel
theorem dX7_priceOfStep_20 : decode cX7_priceOfStep 20 = .ok (.if_icmp .ge 57, 3) := by decide +kernel
theorem dX7_priceOfStep_23 : decode cX7_priceOfStep 23 = .ok (.iconst 0, 1) := by decide +kernel
theorem dX7_priceOfStep_24 : decode cX7_priceOfStep 24 = .ok (.istore 5, 2) := by decide +kernel
theorem dX7_priceOfStep_26 : decode cX7_priceOfStep 26 = .ok (.iload 5, 2) := by decide +kernel
theorem dX7_priceOfStep_28 : decode cX7_priceOfStep 28 = .ok (.aload_n 0, 1) := by decide +kernel
theorem dX7_priceOfStep_29 : decode cX7_priceOfStep 29 = .ok (.getfield 16, 3) := by decide +kernel
theorem dX7_priceOfStep_32 : decode cX7_priceOfStep 32 = .ok (.iload 4, 2) := by decide +kernel
theorem dX7_priceOfStep_34 : decode cX7_priceOfStep 34 = .ok (.invokevirtual 223, 3) := by decide +kernel
theorem dX7_priceOfStep_37 : decode cX7_priceOfStep 37 = .ok (.if_icmp .ge 34, 3) := by decide +kernel
theorem dX7_priceOfStep_40 : decode cX7_priceOfStep 40 = .ok (.iload_n 3, 1) := by decide +kernel
theorem dX7_priceOfStep_41 : decode cX7_priceOfStep 41 = .ok (.aload_n 0, 1) := by decide +kernel
theorem dX7_priceOfStep_42 : decode cX7_priceOfStep 42 = .ok (.getfield 16, 3) := by decide +kernel
theorem dX7_priceOfStep_45 : decode cX7_priceOfStep 45 = .ok (.iload 4, 2) := by decide +kernel
theorem dX7_priceOfStep_47 : decode cX7_priceOfStep 47 = .ok (.iload 5, 2) := by decide +kernel
theorem dX7_priceOfStep_49 : decode cX7_priceOfStep 49 = .ok (.invokevirtual 112, 3) := by decide +kernel
theorem dX7_priceOfStep_52 : decode cX7_priceOfStep 52 = .ok (.getfield 116, 3) := by decide +kernel
theorem dX7_priceOfStep_55 : decode cX7_priceOfStep 55 = .ok (.aload_n 0, 1) := by decide +kernel
theorem dX7_priceOfStep_56 : decode cX7_priceOfStep 56 = .ok (.iload_n 2, 1) := by decide +kernel
theorem dX7_priceOfStep_57 : decode cX7_priceOfStep 57 = .ok (.invokevirtual 101, 3) := by decide +kernel
theorem dX7_priceOfStep_60 : decode cX7_priceOfStep 60 = .ok (.ishr, 1) := by decide +kernel
theorem dX7_priceOfStep_61 : decode cX7_priceOfStep 61 = .ok (.iconst 1, 1) := by decide +kernel
theorem dX7_priceOfStep_62 : decode cX7_priceOfStep 62 = .ok (.iand, 1) := by decide +kernel
theorem dX7_priceOfStep_63 : decode cX7_priceOfStep 63 = .ok (.iadd, 1) := by decide +kernel
theorem dX7_priceOfStep_64 : decode cX7_priceOfStep 64 = .ok (.istore_n 3, 1) := by decide +kernel
theorem dX7_priceOfStep_65 : decode cX7_priceOfStep 65 = .ok (.iinc 5 1, 3) := by decide +kernel
theorem dX7_priceOfStep_68 : decode cX7_priceOfStep 68 = .ok (.goto (-42), 3) := by decide +kernel
theorem dX7_priceOfStep_71 : decode cX7_priceOfStep 71 = .ok (.iinc 4 1, 3) := by decide +kernel
theorem dX7_priceOfStep_74 : decode cX7_priceOfStep 74 = .ok (.goto (-57), 3) := by decide +kernel
theorem dX7_priceOfStep_77 : decode cX7_priceOfStep 77 = .ok (.iload_n 1, 1) := by decide +kernel
theorem dX7_priceOfStep_78 : decode cX7_priceOfStep 78 = .ok (.iload_n 3, 1) := by decide +kernel
theorem dX7_priceOfStep_79 : decode cX7_priceOfStep 79 = .ok (.iadd, 1) := by decide +kernel
theorem dX7_priceOfStep_80 : decode cX7_priceOfStep 80 = .ok (.ireturn, 1) := by decide +kernel
theorem dX7_priceOfForbid_0 : decode cX7_priceOfForbid 0 = .ok (.aload_n 0, 1) := by decide +kernel
theorem dX7_priceOfForbid_1 : decode cX7_priceOfForbid 1 = .ok (.dup, 1) := by decide +kernel
theorem dX7_priceOfForbid_2 : decode cX7_priceOfForbid 2 = .ok (.getfield 401, 3) := by decide +kernel
theorem dX7_priceOfForbid_5 : decode cX7_priceOfForbid 5 = .ok (.ldc2_w 406, 3) := by decide +kernel
theorem dX7_priceOfForbid_8 : decode cX7_priceOfForbid 8 = .ok (.ladd, 1) := by decide +kernel
theorem dX7_priceOfForbid_9 : decode cX7_priceOfForbid 9 = .ok (.putfield 401, 3) := by decide +kernel
theorem dX7_priceOfForbid_12 : decode cX7_priceOfForbid 12 = .ok (.iconst 3, 1) := by decide +kernel
theorem dX7_priceOfForbid_13 : decode cX7_priceOfForbid 13 = .ok (.iload_n 1, 1) := by decide +kernel
theorem dX7_priceOfForbid_14 : decode cX7_priceOfForbid 14 = .ok (.imul, 1) := by decide +kernel
theorem dX7_priceOfForbid_15 : decode cX7_priceOfForbid 15 = .ok (.ireturn, 1) := by decide +kernel
theorem dX7_priceOfWatch_0 : decode cX7_priceOfWatch 0 = .ok (.aload_n 0, 1) := by decide +kernel
theorem dX7_priceOfWatch_1 : decode cX7_priceOfWatch 1 = .ok (.dup, 1) := by decide +kernel
theorem dX7_priceOfWatch_2 : decode cX7_priceOfWatch 2 = .ok (.getfield 401, 3) := by decide +kernel
theorem dX7_priceOfWatch_5 : decode cX7_priceOfWatch 5 = .ok (.ldc2_w 408, 3) := by decide +kernel
theorem dX7_priceOfWatch_8 : decode cX7_priceOfWatch 8 = .ok (.ladd, 1) := by decide +kernel
theorem dX7_priceOfWatch_9 : decode cX7_priceOfWatch 9 = .ok (.putfield 401, 3) := by decide +kernel
theorem dX7_priceOfWatch_12 : decode cX7_priceOfWatch 12 = .ok (.iload_n 1, 1) := by decide +kernel
theorem dX7_priceOfWatch_13 : decode cX7_priceOfWatch 13 = .ok (.aload_n 0, 1) := by decide +kernel
theorem dX7_priceOfWatch_14 : decode cX7_priceOfWatch 14 = .ok (.getfield 16, 3) := by decide +kernel
theorem dX7_priceOfWatch_17 : decode cX7_priceOfWatch 17 = .ok (.getfield 138, 3) := by decide +kernel
theorem dX7_priceOfWatch_20 : decode cX7_priceOfWatch 20 = .ok (.iadd, 1) := by decide +kernel
theorem dX7_priceOfWatch_21 : decode cX7_priceOfWatch 21 = .ok (.iconst 1, 1) := by decide +kernel
theorem dX7_priceOfWatch_22 : decode cX7_priceOfWatch 22 = .ok (.isub, 1) := by decide +kernel
theorem dX7_priceOfWatch_23 : decode cX7_priceOfWatch 23 = .ok (.iload_n 2, 1) := by decide +kernel
theorem dX7_priceOfWatch_24 : decode cX7_priceOfWatch 24 = .ok (.isub, 1) := by decide +kernel
theorem dX7_priceOfWatch_25 : decode cX7_priceOfWatch 25 = .ok (.ireturn, 1) := by decide +kernel
theorem dX7_priceOfHoly_0 : decode cX7_priceOfHoly 0 = .ok (.aload_n 0, 1) := by decide +kernel
theorem dX7_priceOfHoly_1 : decode cX7_priceOfHoly 1 = .ok (.dup, 1) := by decide +kernel
theorem dX7_priceOfHoly_2 : decode cX7_priceOfHoly 2 = .ok (.getfield 401, 3) := by decide +kernel
theorem dX7_priceOfHoly_5 : decode cX7_priceOfHoly 5 = .ok (.ldc2_w 410, 3) := by decide +kernel
theorem dX7_priceOfHoly_8 : decode cX7_priceOfHoly 8 = .ok (.ladd, 1) := by decide +kernel
theorem dX7_priceOfHoly_9 : decode cX7_priceOfHoly 9 = .ok (.putfield 401, 3) := by decide +kernel
theorem dX7_priceOfHoly_12 : decode cX7_priceOfHoly 12 = .ok (.aload_n 0, 1) := by decide +kernel
theorem dX7_priceOfHoly_13 : decode cX7_priceOfHoly 13 = .ok (.getfield 42, 3) := by decide +kernel
theorem dX7_priceOfHoly_16 : decode cX7_priceOfHoly 16 = .ok (.iload_n 2, 1) := by decide +kernel
theorem dX7_priceOfHoly_17 : decode cX7_priceOfHoly 17 = .ok (.invokevirtual 141, 3) := by decide +kernel
theorem dX7_priceOfHoly_20 : decode cX7_priceOfHoly 20 = .ok (.ifCond .eq 9, 3) := by decide +kernel
theorem dX7_priceOfHoly_23 : decode cX7_priceOfHoly 23 = .ok (.iload_n 1, 1) := by decide +kernel
theorem dX7_priceOfHoly_24 : decode cX7_priceOfHoly 24 = .ok (.iconst 5, 1) := by decide +kernel
theorem dX7_priceOfHoly_25 : decode cX7_priceOfHoly 25 = .ok (.iadd, 1) := by decide +kernel
theorem dX7_priceOfHoly_26 : decode cX7_priceOfHoly 26 = .ok (.goto 4, 3) := by decide +kernel
theorem dX7_priceOfHoly_29 : decode cX7_priceOfHoly 29 = .ok (.iload_n 1, 1) := by decide +kernel
theorem dX7_priceOfHoly_30 : decode cX7_priceOfHoly 30 = .ok (.ireturn, 1) := by decide +kernel
theorem dX7_priceOfJoin_0 : decode cX7_priceOfJoin 0 = .ok (.aload_n 0, 1) := by decide +kernel
theorem dX7_priceOfJoin_1 : decode cX7_priceOfJoin 1 = .ok (.dup, 1) := by decide +kernel
theorem dX7_priceOfJoin_2 : decode cX7_priceOfJoin 2 = .ok (.getfield 401, 3) := by decide +kernel
theorem dX7_priceOfJoin_5 : decode cX7_priceOfJoin 5 = .ok (.ldc2_w 412, 3) := by decide +kernel
theorem dX7_priceOfJoin_8 : decode cX7_priceOfJoin 8 = .ok (.ladd, 1) := by decide +kernel
theorem dX7_priceOfJoin_9 : decode cX7_priceOfJoin 9 = .ok (.putfield 401, 3) := by decide +kernel
theorem dX7_priceOfJoin_12 : decode cX7_priceOfJoin 12 = .ok (.iconst 0, 1) := by decide +kernel
theorem dX7_priceOfJoin_13 : decode cX7_priceOfJoin 13 = .ok (.istore_n 2, 1) := by decide +kernel
theorem dX7_priceOfJoin_14 : decode cX7_priceOfJoin 14 = .ok (.iconst 0, 1) := by decide +kernel
theorem dX7_priceOfJoin_15 : decode cX7_priceOfJoin 15 = .ok (.istore_n 3, 1) := by decide +kernel
theorem dX7_priceOfJoin_16 : decode cX7_priceOfJoin 16 = .ok (.iload_n 3, 1) := by decide +kernel
theorem dX7_priceOfJoin_17 : decode cX7_priceOfJoin 17 = .ok (.iconst 2, 1) := by decide +kernel
theorem dX7_priceOfJoin_18 : decode cX7_priceOfJoin 18 = .ok (.if_icmp .ge 23, 3) := by decide +kernel
theorem dX7_priceOfJoin_21 : decode cX7_priceOfJoin 21 = .ok (.aload_n 0, 1) := by decide +kernel
theorem dX7_priceOfJoin_22 : decode cX7_priceOfJoin 22 = .ok (.getfield 16, 3) := by decide +kernel
theorem dX7_priceOfJoin_25 : decode cX7_priceOfJoin 25 = .ok (.iload_n 3, 1) := by decide +kernel
theorem dX7_priceOfJoin_26 : decode cX7_priceOfJoin 26 = .ok (.invokevirtual 223, 3) := by decide +kernel
theorem dX7_priceOfJoin_29 : decode cX7_priceOfJoin 29 = .ok (.ifCond .le 6, 3) := by decide +kernel
theorem dX7_priceOfJoin_32 : decode cX7_priceOfJoin 32 = .ok (.iinc 2 1, 3) := by decide +kernel
theorem dX7_priceOfJoin_35 : decode cX7_priceOfJoin 35 = .ok (.iinc 3 1, 3) := by decide +kernel
theorem dX7_priceOfJoin_38 : decode cX7_priceOfJoin 38 = .ok (.goto (-22), 3) := by decide +kernel
theorem dX7_priceOfJoin_41 : decode cX7_priceOfJoin 41 = .ok (.iload_n 1, 1) := by decide +kernel
theorem dX7_priceOfJoin_42 : decode cX7_priceOfJoin 42 = .ok (.iload_n 2, 1) := by decide +kernel
theorem dX7_priceOfJoin_43 : decode cX7_priceOfJoin 43 = .ok (.imul, 1) := by decide +kernel
theorem dX7_priceOfJoin_44 : decode cX7_priceOfJoin 44 = .ok (.ireturn, 1) := by decide +kernel
theorem dX7_priceOfForce_0 : decode cX7_priceOfForce 0 = .ok (.aload_n 0, 1) := by decide +kernel
theorem dX7_priceOfForce_1 : decode cX7_priceOfForce 1 = .ok (.dup, 1) := by decide +kernel
theorem dX7_priceOfForce_2 : decode cX7_priceOfForce 2 = .ok (.getfield 401, 3) := by decide +kernel
theorem dX7_priceOfForce_5 : decode cX7_priceOfForce 5 = .ok (.ldc2_w 414, 3) := by decide +kernel
theorem dX7_priceOfForce_8 : decode cX7_priceOfForce 8 = .ok (.ladd, 1) := by decide +kernel
theorem dX7_priceOfForce_9 : decode cX7_priceOfForce 9 = .ok (.putfield 401, 3) := by decide +kernel
theorem dX7_priceOfForce_12 : decode cX7_priceOfForce 12 = .ok (.iload_n 1, 1) := by decide +kernel
theorem dX7_priceOfForce_13 : decode cX7_priceOfForce 13 = .ok (.iconst 2, 1) := by decide +kernel
theorem dX7_priceOfForce_14 : decode cX7_priceOfForce 14 = .ok (.invokestatic 416, 3) := by decide +kernel
theorem dX7_priceOfForce_17 : decode cX7_priceOfForce 17 = .ok (.ireturn, 1) := by decide +kernel
theorem dX7_at_0 : decode cX7_at 0 = .ok (.iload_n 1, 1) := by decide +kernel
theorem dX7_at_1 : decode cX7_at 1 = .ok (.ifCond .lt 15, 3) := by decide +kernel
theorem dX7_at_4 : decode cX7_at 4 = .ok (.iload_n 1, 1) := by decide +kernel
theorem dX7_at_5 : decode cX7_at 5 = .ok (.aload_n 0, 1) := by decide +kernel
theorem dX7_at_6 : decode cX7_at 6 = .ok (.arraylength, 1) := by decide +kernel
theorem dX7_at_7 : decode cX7_at 7 = .ok (.if_icmp .ge 9, 3) := by decide +kernel
theorem dX7_at_10 : decode cX7_at 10 = .ok (.aload_n 0, 1) := by decide +kernel
theorem dX7_at_11 : decode cX7_at 11 = .ok (.iload_n 1, 1) := by decide +kernel
theorem dX7_at_12 : decode cX7_at 12 = .ok (.iaload, 1) := by decide +kernel
theorem dX7_at_13 : decode cX7_at 13 = .ok (.goto 4, 3) := by decide +kernel
theorem dX7_at_16 : decode cX7_at 16 = .ok (.iconst 0, 1) := by decide +kernel
theorem dX7_at_17 : decode cX7_at 17 = .ok (.ireturn, 1) := by decide +kernel
theorem dX7_put_0 : decode cX7_put 0 = .ok (.iload_n 1, 1) := by decide +kernel
theorem dX7_put_1 : decode cX7_put 1 = .ok (.ifCond .lt 13, 3) := by decide +kernel
theorem dX7_put_4 : decode cX7_put 4 = .ok (.iload_n 1, 1) := by decide +kernel
theorem dX7_put_5 : decode cX7_put 5 = .ok (.aload_n 0, 1) := by decide +kernel
theorem dX7_put_6 : decode cX7_put 6 = .ok (.arraylength, 1) := by decide +kernel
theorem dX7_put_7 : decode cX7_put 7 = .ok (.if_icmp .ge 7, 3) := by decide +kernel
theorem dX7_put_10 : decode cX7_put 10 = .ok (.aload_n 0, 1) := by decide +kernel
theorem dX7_put_11 : decode cX7_put 11 = .ok (.iload_n 1, 1) := by decide +kernel
theorem dX7_put_12 : decode cX7_put 12 = .ok (.iload_n 2, 1) := by decide +kernel
theorem dX7_put_13 : decode cX7_put 13 = .ok (.iastore, 1) := by decide +kernel
theorem dX7_put_14 : decode cX7_put 14 = .ok (.return_, 1) := by decide +kernel
theorem dX8_init_0 : decode cX8_init 0 = .ok (.aload_n 0, 1) := by decide +kernel
theorem dX8_init_1 : decode cX8_init 1 = .ok (.invokespecial 1, 3) := by decide +kernel
theorem dX8_init_4 : decode cX8_init 4 = .ok (.aload_n 0, 1) := by decide +kernel
theorem dX8_init_5 : decode cX8_init 5 = .ok (.iconst 2, 1) := by decide +kernel
theorem dX8_init_6 : decode cX8_init 6 = .ok (.newarray .int, 2) := by decide +kernel
theorem dX8_init_8 : decode cX8_init 8 = .ok (.putfield 7, 3) := by decide +kernel
theorem dX8_init_11 : decode cX8_init 11 = .ok (.aload_n 0, 1) := by decide +kernel
theorem dX8_init_12 : decode cX8_init 12 = .ok (.bipush 120, 2) := by decide +kernel
theorem dX8_init_14 : decode cX8_init 14 = .ok (.newarray .int, 2) := by decide +kernel
theorem dX8_init_16 : decode cX8_init 16 = .ok (.putfield 13, 3) := by decide +kernel
theorem dX8_init_19 : decode cX8_init 19 = .ok (.aload_n 0, 1) := by decide +kernel
theorem dX8_init_20 : decode cX8_init 20 = .ok (.iconst 4, 1) := by decide +kernel
theorem dX8_init_21 : decode cX8_init 21 = .ok (.newarray .int, 2) := by decide +kernel
theorem dX8_init_23 : decode cX8_init 23 = .ok (.putfield 16, 3) := by decide +kernel
theorem dX8_init_26 : decode cX8_init 26 = .ok (.aload_n 0, 1) := by decide +kernel
theorem dX8_init_27 : decode cX8_init 27 = .ok (.bipush 16, 2) := by decide +kernel
theorem dX8_init_29 : decode cX8_init 29 = .ok (.newarray .int, 2) := by decide +kernel
theorem dX8_init_31 : decode cX8_init 31 = .ok (.putfield 19, 3) := by decide +kernel
theorem dX8_init_34 : decode cX8_init 34 = .ok (.aload_n 0, 1) := by decide +kernel
theorem dX8_init_35 : decode cX8_init 35 = .ok (.bipush 16, 2) := by decide +kernel
theorem dX8_init_37 : decode cX8_init 37 = .ok (.newarray .int, 2) := by decide +kernel
theorem dX8_init_39 : decode cX8_init 39 = .ok (.putfield 22, 3) := by decide +kernel
theorem dX8_init_42 : decode cX8_init 42 = .ok (.aload_n 0, 1) := by decide +kernel
theorem dX8_init_43 : decode cX8_init 43 = .ok (.bipush 16, 2) := by decide +kernel
theorem dX8_init_45 : decode cX8_init 45 = .ok (.newarray .int, 2) := by decide +kernel
theorem dX8_init_47 : decode cX8_init 47 = .ok (.putfield 25, 3) := by decide +kernel
theorem dX8_init_50 : decode cX8_init 50 = .ok (.aload_n 0, 1) := by decide +kernel
theorem dX8_init_51 : decode cX8_init 51 = .ok (.bipush 16, 2) := by decide +kernel
theorem dX8_init_53 : decode cX8_init 53 = .ok (.newarray .int, 2) := by decide +kernel
theorem dX8_init_55 : decode cX8_init 55 = .ok (.putfield 28, 3) := by decide +kernel
theorem dX8_init_58 : decode cX8_init 58 = .ok (.aload_n 0, 1) := by decide +kernel
theorem dX8_init_59 : decode cX8_init 59 = .ok (.bipush 16, 2) := by decide +kernel
theorem dX8_init_61 : decode cX8_init 61 = .ok (.newarray .int, 2) := by decide +kernel
theorem dX8_init_63 : decode cX8_init 63 = .ok (.putfield 31, 3) := by decide +kernel
theorem dX8_init_66 : decode cX8_init 66 = .ok (.aload_n 0, 1) := by decide +kernel
theorem dX8_init_67 : decode cX8_init 67 = .ok (.sipush 400, 3) := by decide +kernel
theorem dX8_init_70 : decode cX8_init 70 = .ok (.newarray .byte, 2) := by decide +kernel
theorem dX8_init_72 : decode cX8_init 72 = .ok (.putfield 34, 3) := by decide +kernel
theorem dX8_init_75 : decode cX8_init 75 = .ok (.aload_n 0, 1) := by decide +kernel
theorem dX8_init_76 : decode cX8_init 76 = .ok (.bipush 120, 2) := by decide +kernel
theorem dX8_init_78 : decode cX8_init 78 = .ok (.newarray .int, 2) := by decide +kernel
theorem dX8_init_80 : decode cX8_init 80 = .ok (.putfield 38, 3) := by decide +kernel
theorem dX8_init_83 : decode cX8_init 83 = .ok (.aload_n 0, 1) := by decide +kernel
theorem dX8_init_84 : decode cX8_init 84 = .ok (.iconst 3, 1) := by decide +kernel
theorem dX8_init_85 : decode cX8_init 85 = .ok (.newarray .long, 2) := by decide +kernel
theorem dX8_init_87 : decode cX8_init 87 = .ok (.putfield 41, 3) := by decide +kernel
theorem dX8_init_90 : decode cX8_init 90 = .ok (.aload_n 0, 1) := by decide +kernel
theorem dX8_init_91 : decode cX8_init 91 = .ok (.iconst 2, 1) := by decide +kernel
theorem dX8_init_92 : decode cX8_init 92 = .ok (.newarray .boolean, 2) := by decide +kernel
theorem dX8_init_94 : decode cX8_init 94 = .ok (.putfield 45, 3) := by decide +kernel
theorem dX8_init_97 : decode cX8_init 97 = .ok (.aload_n 0, 1) := by decide +kernel
theorem dX8_init_98 : decode cX8_init 98 = .ok (.iconst 2, 1) := by decide +kernel
theorem dX8_init_99 : decode cX8_init 99 = .ok (.newarray .int, 2) := by decide +kernel
theorem dX8_init_101 : decode cX8_init 101 = .ok (.putfield 49, 3) := by decide +kernel
theorem dX8_init_104 : decode cX8_init 104 = .ok (.aload_n 0, 1) := by decide +kernel
theorem dX8_init_105 : decode cX8_init 105 = .ok (.bipush 8, 2) := by decide +kernel
theorem dX8_init_107 : decode cX8_init 107 = .ok (.newarray .int, 2) := by decide +kernel
theorem dX8_init_109 : decode cX8_init 109 = .ok (.putfield 52, 3) := by decide +kernel
theorem dX8_init_112 : decode cX8_init 112 = .ok (.aload_n 0, 1) := by decide +kernel
theorem dX8_init_113 : decode cX8_init 113 = .ok (.bipush 8, 2) := by decide +kernel
theorem dX8_init_115 : decode cX8_init 115 = .ok (.newarray .int, 2) := by decide +kernel
theorem dX8_init_117 : decode cX8_init 117 = .ok (.putfield 55, 3) := by decide +kernel
theorem dX8_init_120 : decode cX8_init 120 = .ok (.aload_n 0, 1) := by decide +kernel
theorem dX8_init_121 : decode cX8_init 121 = .ok (.bipush 60, 2) := by decide +kernel
theorem dX8_init_123 : decode cX8_init 123 = .ok (.newarray .int, 2) := by decide +kernel
theorem dX8_init_125 : decode cX8_init 125 = .ok (.putfield 58, 3) := by decide +kernel
theorem dX8_init_128 : decode cX8_init 128 = .ok (.aload_n 0, 1) := by decide +kernel
theorem dX8_init_129 : decode cX8_init 129 = .ok (.bipush 61, 2) := by decide +kernel
theorem dX8_init_131 : decode cX8_init 131 = .ok (.newarray .int, 2) := by decide +kernel
theorem dX8_init_133 : decode cX8_init 133 = .ok (.putfield 61, 3) := by decide +kernel
theorem dX8_init_136 : decode cX8_init 136 = .ok (.aload_n 0, 1) := by decide +kernel
theorem dX8_init_137 : decode cX8_init 137 = .ok (.iconst 4, 1) := by decide +kernel
theorem dX8_init_138 : decode cX8_init 138 = .ok (.newarray .int, 2) := by decide +kernel
theorem dX8_init_140 : decode cX8_init 140 = .ok (.putfield 64, 3) := by decide +kernel
theorem dX8_init_143 : decode cX8_init 143 = .ok (.aload_n 0, 1) := by decide +kernel
theorem dX8_init_144 : decode cX8_init 144 = .ok (.iconst 4, 1) := by decide +kernel
theorem dX8_init_145 : decode cX8_init 145 = .ok (.newarray .int, 2) := by decide +kernel
theorem dX8_init_147 : decode cX8_init 147 = .ok (.putfield 67, 3) := by decide +kernel
theorem dX8_init_150 : decode cX8_init 150 = .ok (.aload_n 0, 1) := by decide +kernel
theorem dX8_init_151 : decode cX8_init 151 = .ok (.iconst 4, 1) := by decide +kernel
theorem dX8_init_152 : decode cX8_init 152 = .ok (.newarray .int, 2) := by decide +kernel
theorem dX8_init_154 : decode cX8_init 154 = .ok (.putfield 70, 3) := by decide +kernel
theorem dX8_init_157 : decode cX8_init 157 = .ok (.aload_n 0, 1) := by decide +kernel
theorem dX8_init_158 : decode cX8_init 158 = .ok (.iconst 4, 1) := by decide +kernel
theorem dX8_init_159 : decode cX8_init 159 = .ok (.newarray .int, 2) := by decide +kernel
theorem dX8_init_161 : decode cX8_init 161 = .ok (.putfield 73, 3) := by decide +kernel
theorem dX8_init_164 : decode cX8_init 164 = .ok (.aload_n 0, 1) := by decide +kernel
theorem dX8_init_165 : decode cX8_init 165 = .ok (.iconst 4, 1) := by decide +kernel
theorem dX8_init_166 : decode cX8_init 166 = .ok (.newarray .int, 2) := by decide +kernel
theorem dX8_init_168 : decode cX8_init 168 = .ok (.putfield 76, 3) := by decide +kernel
theorem dX8_init_171 : decode cX8_init 171 = .ok (.aload_n 0, 1) := by decide +kernel
theorem dX8_init_172 : decode cX8_init 172 = .ok (.sipush 240, 3) := by decide +kernel
theorem dX8_init_175 : decode cX8_init 175 = .ok (.newarray .int, 2) := by decide +kernel
theorem dX8_init_177 : decode cX8_init 177 = .ok (.putfield 79, 3) := by decide +kernel
theorem dX8_init_180 : decode cX8_init 180 = .ok (.aload_n 0, 1) := by decide +kernel
theorem dX8_init_181 : decode cX8_init 181 = .ok (.sipush 240, 3) := by decide +kernel
theorem dX8_init_184 : decode cX8_init 184 = .ok (.newarray .int, 2) := by decide +kernel
theorem dX8_init_186 : decode cX8_init 186 = .ok (.putfield 82, 3) := by decide +kernel
theorem dX8_init_189 : decode cX8_init 189 = .ok (.aload_n 0, 1) := by decide +kernel
theorem dX8_init_190 : decode cX8_init 190 = .ok (.sipush 11760, 3) := by decide +kernel
theorem dX8_init_193 : decode cX8_init 193 = .ok (.newarray .int, 2) := by decide +kernel
theorem dX8_init_195 : decode cX8_init 195 = .ok (.putfield 85, 3) := by decide +kernel
theorem dX8_init_198 : decode cX8_init 198 = .ok (.aload_n 0, 1) := by decide +kernel
theorem dX8_init_199 : decode cX8_init 199 = .ok (.sipush 11760, 3) := by decide +kernel
theorem dX8_init_202 : decode cX8_init 202 = .ok (.newarray .int, 2) := by decide +kernel
theorem dX8_init_204 : decode cX8_init 204 = .ok (.putfield 88, 3) := by decide +kernel
theorem dX8_init_207 : decode cX8_init 207 = .ok (.aload_n 0, 1) := by decide +kernel
theorem dX8_init_208 : decode cX8_init 208 = .ok (.bipush 54, 2) := by decide +kernel
theorem dX8_init_210 : decode cX8_init 210 = .ok (.newarray .int, 2) := by decide +kernel
theorem dX8_init_212 : decode cX8_init 212 = .ok (.putfield 91, 3) := by decide +kernel
theorem dX8_init_215 : decode cX8_init 215 = .ok (.aload_n 0, 1) := by decide +kernel
theorem dX8_init_216 : decode cX8_init 216 = .ok (.iconst 5, 1) := by decide +kernel
theorem dX8_init_217 : decode cX8_init 217 = .ok (.newarray .int, 2) := by decide +kernel
theorem dX8_init_219 : decode cX8_init 219 = .ok (.putfield 94, 3) := by decide +kernel
theorem dX8_init_222 : decode cX8_init 222 = .ok (.aload_n 0, 1) := by decide +kernel
theorem dX8_init_223 : decode cX8_init 223 = .ok (.iconst 5, 1) := by decide +kernel
theorem dX8_init_224 : decode cX8_init 224 = .ok (.newarray .int, 2) := by decide +kernel
theorem dX8_init_226 : decode cX8_init 226 = .ok (.putfield 97, 3) := by decide +kernel
theorem dX8_init_229 : decode cX8_init 229 = .ok (.aload_n 0, 1) := by decide +kernel
theorem dX8_init_230 : decode cX8_init 230 = .ok (.iconst 5, 1) := by decide +kernel
theorem dX8_init_231 : decode cX8_init 231 = .ok (.newarray .int, 2) := by decide +kernel
theorem dX8_init_233 : decode cX8_init 233 = .ok (.putfield 100, 3) := by decide +kernel
theorem dX8_init_236 : decode cX8_init 236 = .ok (.aload_n 0, 1) := by decide +kernel
theorem dX8_init_237 : decode cX8_init 237 = .ok (.getfield 7, 3) := by decide +kernel
theorem dX8_init_240 : decode cX8_init 240 = .ok (.iconst 0, 1) := by decide +kernel
theorem dX8_init_241 : decode cX8_init 241 = .ok (.bipush 30, 2) := by decide +kernel
theorem dX8_init_243 : decode cX8_init 243 = .ok (.iastore, 1) := by decide +kernel
theorem dX8_init_244 : decode cX8_init 244 = .ok (.aload_n 0, 1) := by decide +kernel
theorem dX8_init_245 : decode cX8_init 245 = .ok (.invokevirtual 103, 3) := by decide +kernel
theorem dX8_init_248 : decode cX8_init 248 = .ok (.return_, 1) := by decide +kernel
theorem dX8_in_0 : decode cX8_in 0 = .ok (.iload_n 0, 1) := by decide +kernel
theorem dX8_in_1 : decode cX8_in 1 = .ok (.iload_n 1, 1) := by decide +kernel
theorem dX8_in_2 : decode cX8_in 2 = .ok (.if_icmp .lt 12, 3) := by decide +kernel
theorem dX8_in_5 : decode cX8_in 5 = .ok (.iload_n 0, 1) := by decide +kernel
theorem dX8_in_6 : decode cX8_in 6 = .ok (.iload_n 2, 1) := by decide +kernel
theorem dX8_in_7 : decode cX8_in 7 = .ok (.if_icmp .gt 7, 3) := by decide +kernel
theorem dX8_in_10 : decode cX8_in 10 = .ok (.iconst 1, 1) := by decide +kernel
theorem dX8_in_11 : decode cX8_in 11 = .ok (.goto 4, 3) := by decide +kernel
theorem dX8_in_14 : decode cX8_in 14 = .ok (.iconst 0, 1) := by decide +kernel
theorem dX8_in_15 : decode cX8_in 15 = .ok (.ireturn, 1) := by decide +kernel
theorem dX8_type_0 : decode cX8_type 0 = .ok (.iload_n 3, 1) := by decide +kernel
theorem dX8_type_1 : decode cX8_type 1 = .ok (.iconst 1, 1) := by decide +kernel
theorem dX8_type_2 : decode cX8_type 2 = .ok (.bipush 8, 2) := by decide +kernel
theorem dX8_type_4 : decode cX8_type 4 = .ok (.invokestatic 106, 3) := by decide +kernel
theorem dX8_type_7 : decode cX8_type 7 = .ok (.ifCond .ne 5, 3) := by decide +kernel
theorem dX8_type_10 : decode cX8_type 10 = .ok (.iconst (-1), 1) := by decide +kernel
theorem dX8_type_11 : decode cX8_type 11 = .ok (.ireturn, 1) := by decide +kernel
theorem dX8_type_12 : decode cX8_type 12 = .ok (.aload_n 0, 1) := by decide +kernel
theorem dX8_type_13 : decode cX8_type 13 = .ok (.getfield 110, 3) := by decide +kernel
theorem dX8_type_16 : decode cX8_type 16 = .ok (.iload_n 3, 1) := by decide +kernel
theorem dX8_type_17 : decode cX8_type 17 = .ok (.iadd, 1) := by decide +kernel
theorem dX8_type_18 : decode cX8_type 18 = .ok (.sipush 400, 3) := by decide +kernel
theorem dX8_type_21 : decode cX8_type 21 = .ok (.if_icmp .le 6, 3) := by decide +kernel
theorem dX8_type_24 : decode cX8_type 24 = .ok (.bipush (-3), 2) := by decide +kernel
theorem dX8_type_26 : decode cX8_type 26 = .ok (.ireturn, 1) := by decide +kernel
theorem dX8_type_27 : decode cX8_type 27 = .ok (.iload_n 3, 1) := by decide +kernel
theorem dX8_type_28 : decode cX8_type 28 = .ok (.iconst 1, 1) := by decide +kernel
theorem dX8_type_29 : decode cX8_type 29 = .ok (.isub, 1) := by decide +kernel
theorem dX8_type_30 : decode cX8_type 30 = .ok (.istore 4, 2) := by decide +kernel
theorem dX8_type_32 : decode cX8_type 32 = .ok (.iload 4, 2) := by decide +kernel
theorem dX8_type_34 : decode cX8_type 34 = .ok (.ifCond .lt 41, 3) := by decide +kernel
theorem dX8_type_37 : decode cX8_type 37 = .ok (.aload_n 0, 1) := by decide +kernel
theorem dX8_type_38 : decode cX8_type 38 = .ok (.getfield 34, 3) := by decide +kernel
theorem dX8_type_41 : decode cX8_type 41 = .ok (.aload_n 0, 1) := by decide +kernel
theorem dX8_type_42 : decode cX8_type 42 = .ok (.getfield 110, 3) := by decide +kernel
theorem dX8_type_45 : decode cX8_type 45 = .ok (.lload_n 1, 1) := by decide +kernel
theorem dX8_type_46 : decode cX8_type 46 = .ok (.bipush 8, 2) := by decide +kernel
theorem dX8_type_48 : decode cX8_type 48 = .ok (.iload 4, 2) := by decide +kernel
theorem dX8_type_50 : decode cX8_type 50 = .ok (.imul, 1) := by decide +kernel
theorem dX8_type_51 : decode cX8_type 51 = .ok (.lshr, 1) := by decide +kernel
theorem dX8_type_52 : decode cX8_type 52 = .ok (.ldc2_w 114, 3) := by decide +kernel
theorem dX8_type_55 : decode cX8_type 55 = .ok (.land, 1) := by decide +kernel
theorem dX8_type_56 : decode cX8_type 56 = .ok (.l2i, 1) := by decide +kernel
theorem dX8_type_57 : decode cX8_type 57 = .ok (.i2b, 1) := by decide +kernel
theorem dX8_type_58 : decode cX8_type 58 = .ok (.bastore, 1) := by decide +kernel
theorem dX8_type_59 : decode cX8_type 59 = .ok (.aload_n 0, 1) := by decide +kernel
theorem dX8_type_60 : decode cX8_type 60 = .ok (.dup, 1) := by decide +kernel
theorem dX8_type_61 : decode cX8_type 61 = .ok (.getfield 110, 3) := by decide +kernel
theorem dX8_type_64 : decode cX8_type 64 = .ok (.iconst 1, 1) := by decide +kernel
theorem dX8_type_65 : decode cX8_type 65 = .ok (.iadd, 1) := by decide +kernel
theorem dX8_type_66 : decode cX8_type 66 = .ok (.putfield 110, 3) := by decide +kernel
theorem dX8_type_69 : decode cX8_type 69 = .ok (.iinc 4 (-1), 3) := by decide +kernel
theorem dX8_type_72 : decode cX8_type 72 = .ok (.goto (-40), 3) := by decide +kernel
theorem dX8_type_75 : decode cX8_type 75 = .ok (.aload_n 0, 1) := by decide +kernel
theorem dX8_type_76 : decode cX8_type 76 = .ok (.getfield 110, 3) := by decide +kernel
theorem dX8_type_79 : decode cX8_type 79 = .ok (.ireturn, 1) := by decide +kernel
theorem dX8_clear_0 : decode cX8_clear 0 = .ok (.aload_n 0, 1) := by decide +kernel
theorem dX8_clear_1 : decode cX8_clear 1 = .ok (.getfield 110, 3) := by decide +kernel
theorem dX8_clear_4 : decode cX8_clear 4 = .ok (.istore_n 1, 1) := by decide +kernel
theorem dX8_clear_5 : decode cX8_clear 5 = .ok (.aload_n 0, 1) := by decide +kernel
theorem dX8_clear_6 : decode cX8_clear 6 = .ok (.iconst 0, 1) := by decide +kernel
theorem dX8_clear_7 : decode cX8_clear 7 = .ok (.putfield 110, 3) := by decide +kernel
theorem dX8_clear_10 : decode cX8_clear 10 = .ok (.iload_n 1, 1) := by decide +kernel
theorem dX8_clear_11 : decode cX8_clear 11 = .ok (.ireturn, 1) := by decide +kernel
theorem dX8_here_0 : decode cX8_here 0 = .ok (.aload_n 0, 1) := by decide +kernel
theorem dX8_here_1 : decode cX8_here 1 = .ok (.getfield 116, 3) := by decide +kernel
theorem dX8_here_4 : decode cX8_here 4 = .ok (.aload_n 0, 1) := by decide +kernel
theorem dX8_here_5 : decode cX8_here 5 = .ok (.getfield 110, 3) := by decide +kernel
theorem dX8_here_8 : decode cX8_here 8 = .ok (.if_icmp .ge 19, 3) := by decide +kernel
theorem dX8_here_11 : decode cX8_here 11 = .ok (.aload_n 0, 1) := by decide +kernel
theorem dX8_here_12 : decode cX8_here 12 = .ok (.getfield 34, 3) := by decide +kernel
theorem dX8_here_15 : decode cX8_here 15 = .ok (.aload_n 0, 1) := by decide +kernel
theorem dX8_here_16 : decode cX8_here 16 = .ok (.getfield 116, 3) := by decide +kernel
theorem dX8_here_19 : decode cX8_here 19 = .ok (.baload, 1) := by decide +kernel
theorem dX8_here_20 : decode cX8_here 20 = .ok (.sipush 255, 3) := by decide +kernel
theorem dX8_here_23 : decode cX8_here 23 = .ok (.iand, 1) := by decide +kernel
theorem dX8_here_24 : decode cX8_here 24 = .ok (.goto 4, 3) := by decide +kernel
theorem dX8_here_27 : decode cX8_here 27 = .ok (.iconst (-1), 1) := by decide +kernel
theorem dX8_here_28 : decode cX8_here 28 = .ok (.ireturn, 1) := by decide +kernel
theorem dX8_mean_0 : decode cX8_mean 0 = .ok (.aload_n 0, 1) := by decide +kernel
theorem dX8_mean_1 : decode cX8_mean 1 = .ok (.iconst 0, 1) := by decide +kernel
theorem dX8_mean_2 : decode cX8_mean 2 = .ok (.putfield 119, 3) := by decide +kernel
theorem dX8_mean_5 : decode cX8_mean 5 = .ok (.iload_n 1, 1) := by decide +kernel
theorem dX8_mean_6 : decode cX8_mean 6 = .ok (.lookupswitch 263 #[(46263, 154), (79958, 249), (80155, 146), (131360, 207), (131638, 138), (168748, 235), (380741, 198), (388708, 162), (495765, 122), (664272, 171), (3094387, 130), (11993594, 189), (187429700, 221), (335207579, 180)], 122) := by decide +kernel
theorem dX8_mean_128 : decode cX8_mean 128 = .ok (.aload_n 0, 1) := by decide +kernel
theorem dX8_mean_129 : decode cX8_mean 129 = .ok (.iconst 1, 1) := by decide +kernel
theorem dX8_mean_130 : decode cX8_mean 130 = .ok (.putfield 122, 3) := by decide +kernel
theorem dX8_mean_133 : decode cX8_mean 133 = .ok (.goto 142, 3) := by decide +kernel
theorem dX8_mean_136 : decode cX8_mean 136 = .ok (.aload_n 0, 1) := by decide +kernel
theorem dX8_mean_137 : decode cX8_mean 137 = .ok (.iconst 2, 1) := by decide +kernel
theorem dX8_mean_138 : decode cX8_mean 138 = .ok (.putfield 122, 3) := by decide +kernel
theorem dX8_mean_141 : decode cX8_mean 141 = .ok (.goto 134, 3) := by decide +kernel
theorem dX8_mean_144 : decode cX8_mean 144 = .ok (.aload_n 0, 1) := by decide +kernel
theorem dX8_mean_145 : decode cX8_mean 145 = .ok (.iconst 3, 1) := by decide +kernel
theorem dX8_mean_146 : decode cX8_mean 146 = .ok (.putfield 122, 3) := by decide +kernel
theorem dX8_mean_149 : decode cX8_mean 149 = .ok (.goto 126, 3) := by decide +kernel
theorem dX8_mean_152 : decode cX8_mean 152 = .ok (.aload_n 0, 1) := by decide +kernel
theorem dX8_mean_153 : decode cX8_mean 153 = .ok (.iconst 4, 1) := by decide +kernel
theorem dX8_mean_154 : decode cX8_mean 154 = .ok (.putfield 122, 3) := by decide +kernel
theorem dX8_mean_157 : decode cX8_mean 157 = .ok (.goto 118, 3) := by decide +kernel
theorem dX8_mean_160 : decode cX8_mean 160 = .ok (.aload_n 0, 1) := by decide +kernel
theorem dX8_mean_161 : decode cX8_mean 161 = .ok (.iconst 5, 1) := by decide +kernel
theorem dX8_mean_162 : decode cX8_mean 162 = .ok (.putfield 122, 3) := by decide +kernel
theorem dX8_mean_165 : decode cX8_mean 165 = .ok (.goto 110, 3) := by decide +kernel
theorem dX8_mean_168 : decode cX8_mean 168 = .ok (.aload_n 0, 1) := by decide +kernel
theorem dX8_mean_169 : decode cX8_mean 169 = .ok (.bipush 6, 2) := by decide +kernel
theorem dX8_mean_171 : decode cX8_mean 171 = .ok (.putfield 122, 3) := by decide +kernel
theorem dX8_mean_174 : decode cX8_mean 174 = .ok (.goto 101, 3) := by decide +kernel
theorem dX8_mean_177 : decode cX8_mean 177 = .ok (.aload_n 0, 1) := by decide +kernel
theorem dX8_mean_178 : decode cX8_mean 178 = .ok (.bipush 7, 2) := by decide +kernel
theorem dX8_mean_180 : decode cX8_mean 180 = .ok (.putfield 122, 3) := by decide +kernel
theorem dX8_mean_183 : decode cX8_mean 183 = .ok (.goto 92, 3) := by decide +kernel
theorem dX8_mean_186 : decode cX8_mean 186 = .ok (.aload_n 0, 1) := by decide +kernel
theorem dX8_mean_187 : decode cX8_mean 187 = .ok (.bipush 8, 2) := by decide +kernel
theorem dX8_mean_189 : decode cX8_mean 189 = .ok (.putfield 122, 3) := by decide +kernel
theorem dX8_mean_192 : decode cX8_mean 192 = .ok (.goto 83, 3) := by decide +kernel
theorem dX8_mean_195 : decode cX8_mean 195 = .ok (.aload_n 0, 1) := by decide +kernel
theorem dX8_mean_196 : decode cX8_mean 196 = .ok (.bipush 9, 2) := by decide +kernel
theorem dX8_mean_198 : decode cX8_mean 198 = .ok (.putfield 122, 3) := by decide +kernel
theorem dX8_mean_201 : decode cX8_mean 201 = .ok (.goto 74, 3) := by decide +kernel
theorem dX8_mean_204 : decode cX8_mean 204 = .ok (.aload_n 0, 1) := by decide +kernel
theorem dX8_mean_205 : decode cX8_mean 205 = .ok (.bipush 10, 2) := by decide +kernel
theorem dX8_mean_207 : decode cX8_mean 207 = .ok (.putfield 122, 3) := by decide +kernel
theorem dX8_mean_210 : decode cX8_mean 210 = .ok (.goto 65, 3) := by decide +kernel
theorem dX8_mean_213 : decode cX8_mean 213 = .ok (.aload_n 0, 1) := by decide +kernel
theorem dX8_mean_214 : decode cX8_mean 214 = .ok (.bipush 11, 2) := by decide +kernel
theorem dX8_mean_216 : decode cX8_mean 216 = .ok (.putfield 122, 3) := by decide +kernel
theorem dX8_mean_219 : decode cX8_mean 219 = .ok (.aload_n 0, 1) := by decide +kernel
theorem dX8_mean_220 : decode cX8_mean 220 = .ok (.iconst 0, 1) := by decide +kernel
theorem dX8_mean_221 : decode cX8_mean 221 = .ok (.putfield 119, 3) := by decide +kernel
theorem dX8_mean_224 : decode cX8_mean 224 = .ok (.goto 51, 3) := by decide +kernel
theorem dX8_mean_227 : decode cX8_mean 227 = .ok (.aload_n 0, 1) := by decide +kernel
theorem dX8_mean_228 : decode cX8_mean 228 = .ok (.bipush 11, 2) := by decide +kernel
theorem dX8_mean_230 : decode cX8_mean 230 = .ok (.putfield 122, 3) := by decide +kernel
theorem dX8_mean_233 : decode cX8_mean 233 = .ok (.aload_n 0, 1) := by decide +kernel
theorem dX8_mean_234 : decode cX8_mean 234 = .ok (.iconst 1, 1) := by decide +kernel
theorem dX8_mean_235 : decode cX8_mean 235 = .ok (.putfield 119, 3) := by decide +kernel
theorem dX8_mean_238 : decode cX8_mean 238 = .ok (.goto 37, 3) := by decide +kernel
theorem dX8_mean_241 : decode cX8_mean 241 = .ok (.aload_n 0, 1) := by decide +kernel
theorem dX8_mean_242 : decode cX8_mean 242 = .ok (.bipush 11, 2) := by decide +kernel
theorem dX8_mean_244 : decode cX8_mean 244 = .ok (.putfield 122, 3) := by decide +kernel
theorem dX8_mean_247 : decode cX8_mean 247 = .ok (.aload_n 0, 1) := by decide +kernel
theorem dX8_mean_248 : decode cX8_mean 248 = .ok (.iconst 2, 1) := by decide +kernel
theorem dX8_mean_249 : decode cX8_mean 249 = .ok (.putfield 119, 3) := by decide +kernel
theorem dX8_mean_252 : decode cX8_mean 252 = .ok (.goto 23, 3) := by decide +kernel
theorem dX8_mean_255 : decode cX8_mean 255 = .ok (.aload_n 0, 1) := by decide +kernel
theorem dX8_mean_256 : decode cX8_mean 256 = .ok (.bipush 11, 2) := by decide +kernel
theorem dX8_mean_258 : decode cX8_mean 258 = .ok (.putfield 122, 3) := by decide +kernel
theorem dX8_mean_261 : decode cX8_mean 261 = .ok (.aload_n 0, 1) := by decide +kernel
theorem dX8_mean_262 : decode cX8_mean 262 = .ok (.iconst 3, 1) := by decide +kernel
theorem dX8_mean_263 : decode cX8_mean 263 = .ok (.putfield 119, 3) := by decide +kernel
theorem dX8_mean_266 : decode cX8_mean 266 = .ok (.goto 9, 3) := by decide +kernel
theorem dX8_mean_269 : decode cX8_mean 269 = .ok (.aload_n 0, 1) := by decide +kernel
theorem dX8_mean_270 : decode cX8_mean 270 = .ok (.bipush 14, 2) := by decide +kernel
theorem dX8_mean_272 : decode cX8_mean 272 = .ok (.putfield 122, 3) := by decide +kernel
theorem dX8_mean_275 : decode cX8_mean 275 = .ok (.return_, 1) := by decide +kernel
theorem dX8_next_0 : decode cX8_next 0 = .ok (.aload_n 0, 1) := by decide +kernel
theorem dX8_next_1 : decode cX8_next 1 = .ok (.invokevirtual 125, 3) := by decide +kernel
theorem dX8_next_4 : decode cX8_next 4 = .ok (.bipush 32, 2) := by decide +kernel
theorem dX8_next_6 : decode cX8_next 6 = .ok (.if_icmp .ne 16, 3) := by decide +kernel
theorem dX8_next_9 : decode cX8_next 9 = .ok (.aload_n 0, 1) := by decide +kernel
theorem dX8_next_10 : decode cX8_next 10 = .ok (.dup, 1) := by decide +kernel
theorem dX8_next_11 : decode cX8_next 11 = .ok (.getfield 116, 3) := by decide +kernel
theorem dX8_next_14 : decode cX8_next 14 = .ok (.iconst 1, 1) := by decide +kernel
theorem dX8_next_15 : decode cX8_next 15 = .ok (.iadd, 1) := by decide +kernel
theorem dX8_next_16 : decode cX8_next 16 = .ok (.putfield 116, 3) := by decide +kernel
theorem dX8_next_19 : decode cX8_next 19 = .ok (.goto (-19), 3) := by decide +kernel
theorem dX8_next_22 : decode cX8_next 22 = .ok (.aload_n 0, 1) := by decide +kernel
theorem dX8_next_23 : decode cX8_next 23 = .ok (.aload_n 0, 1) := by decide +kernel
theorem dX8_next_24 : decode cX8_next 24 = .ok (.getfield 116, 3) := by decide +kernel
theorem dX8_next_27 : decode cX8_next 27 = .ok (.putfield 128, 3) := by decide +kernel
theorem dX8_next_30 : decode cX8_next 30 = .ok (.aload_n 0, 1) := by decide +kernel
theorem dX8_next_31 : decode cX8_next 31 = .ok (.iconst 0, 1) := by decide +kernel
theorem dX8_next_32 : decode cX8_next 32 = .ok (.putfield 119, 3) := by decide +kernel
theorem dX8_next_35 : decode cX8_next 35 = .ok (.aload_n 0, 1) := by decide +kernel
theorem dX8_next_36 : decode cX8_next 36 = .ok (.invokevirtual 125, 3) := by decide +kernel
theorem dX8_next_39 : decode cX8_next 39 = .ok (.istore_n 1, 1) := by decide +kernel
theorem dX8_next_40 : decode cX8_next 40 = .ok (.iload_n 1, 1) := by decide +kernel
theorem dX8_next_41 : decode cX8_next 41 = .ok (.ifCond .ge 11, 3) := by decide +kernel
theorem dX8_next_44 : decode cX8_next 44 = .ok (.aload_n 0, 1) := by decide +kernel
theorem dX8_next_45 : decode cX8_next 45 = .ok (.iconst 0, 1) := by decide +kernel
theorem dX8_next_46 : decode cX8_next 46 = .ok (.putfield 122, 3) := by decide +kernel
theorem dX8_next_49 : decode cX8_next 49 = .ok (.goto 242, 3) := by decide +kernel
theorem dX8_next_52 : decode cX8_next 52 = .ok (.iload_n 1, 1) := by decide +kernel
theorem dX8_next_53 : decode cX8_next 53 = .ok (.bipush 97, 2) := by decide +kernel
theorem dX8_next_55 : decode cX8_next 55 = .ok (.bipush 122, 2) := by decide +kernel
theorem dX8_next_57 : decode cX8_next 57 = .ok (.invokestatic 106, 3) := by decide +kernel
theorem dX8_next_60 : decode cX8_next 60 = .ok (.ifCond .eq 89, 3) := by decide +kernel
theorem dX8_next_63 : decode cX8_next 63 = .ok (.iconst 0, 1) := by decide +kernel
theorem dX8_next_64 : decode cX8_next 64 = .ok (.istore_n 2, 1) := by decide +kernel
theorem dX8_next_65 : decode cX8_next 65 = .ok (.aload_n 0, 1) := by decide +kernel
theorem dX8_next_66 : decode cX8_next 66 = .ok (.invokevirtual 125, 3) := by decide +kernel
theorem dX8_next_69 : decode cX8_next 69 = .ok (.bipush 97, 2) := by decide +kernel
theorem dX8_next_71 : decode cX8_next 71 = .ok (.bipush 122, 2) := by decide +kernel
theorem dX8_next_73 : decode cX8_next 73 = .ok (.invokestatic 106, 3) := by decide +kernel
theorem dX8_next_76 : decode cX8_next 76 = .ok (.ifCond .eq 47, 3) := by decide +kernel
theorem dX8_next_79 : decode cX8_next 79 = .ok (.aload_n 0, 1) := by decide +kernel
theorem dX8_next_80 : decode cX8_next 80 = .ok (.getfield 116, 3) := by decide +kernel
theorem dX8_next_83 : decode cX8_next 83 = .ok (.aload_n 0, 1) := by decide +kernel
theorem dX8_next_84 : decode cX8_next 84 = .ok (.getfield 128, 3) := by decide +kernel
theorem dX8_next_87 : decode cX8_next 87 = .ok (.isub, 1) := by decide +kernel
theorem dX8_next_88 : decode cX8_next 88 = .ok (.bipush 6, 2) := by decide +kernel
theorem dX8_next_90 : decode cX8_next 90 = .ok (.if_icmp .ge 18, 3) := by decide +kernel
theorem dX8_next_93 : decode cX8_next 93 = .ok (.bipush 27, 2) := by decide +kernel
theorem dX8_next_95 : decode cX8_next 95 = .ok (.iload_n 2, 1) := by decide +kernel
theorem dX8_next_96 : decode cX8_next 96 = .ok (.imul, 1) := by decide +kernel
theorem dX8_next_97 : decode cX8_next 97 = .ok (.aload_n 0, 1) := by decide +kernel
theorem dX8_next_98 : decode cX8_next 98 = .ok (.invokevirtual 125, 3) := by decide +kernel
theorem dX8_next_101 : decode cX8_next 101 = .ok (.iadd, 1) := by decide +kernel
theorem dX8_next_102 : decode cX8_next 102 = .ok (.bipush 96, 2) := by decide +kernel
theorem dX8_next_104 : decode cX8_next 104 = .ok (.isub, 1) := by decide +kernel
theorem dX8_next_105 : decode cX8_next 105 = .ok (.goto 4, 3) := by decide +kernel
theorem dX8_next_108 : decode cX8_next 108 = .ok (.iconst 0, 1) := by decide +kernel
theorem dX8_next_109 : decode cX8_next 109 = .ok (.istore_n 2, 1) := by decide +kernel
theorem dX8_next_110 : decode cX8_next 110 = .ok (.aload_n 0, 1) := by decide +kernel
theorem dX8_next_111 : decode cX8_next 111 = .ok (.dup, 1) := by decide +kernel
theorem dX8_next_112 : decode cX8_next 112 = .ok (.getfield 116, 3) := by decide +kernel
theorem dX8_next_115 : decode cX8_next 115 = .ok (.iconst 1, 1) := by decide +kernel
theorem dX8_next_116 : decode cX8_next 116 = .ok (.iadd, 1) := by decide +kernel
theorem dX8_next_117 : decode cX8_next 117 = .ok (.putfield 116, 3) := by decide +kernel
theorem dX8_next_120 : decode cX8_next 120 = .ok (.goto (-55), 3) := by decide +kernel
theorem dX8_next_123 : decode cX8_next 123 = .ok (.aload_n 0, 1) := by decide +kernel
theorem dX8_next_124 : decode cX8_next 124 = .ok (.aload_n 0, 1) := by decide +kernel
theorem dX8_next_125 : decode cX8_next 125 = .ok (.getfield 116, 3) := by decide +kernel
theorem dX8_next_128 : decode cX8_next 128 = .ok (.aload_n 0, 1) := by decide +kernel
theorem dX8_next_129 : decode cX8_next 129 = .ok (.getfield 128, 3) := by decide +kernel
theorem dX8_next_132 : decode cX8_next 132 = .ok (.isub, 1) := by decide +kernel
theorem dX8_next_133 : decode cX8_next 133 = .ok (.bipush 6, 2) := by decide +kernel
theorem dX8_next_135 : decode cX8_next 135 = .ok (.if_icmp .le 7, 3) := by decide +kernel
theorem dX8_next_138 : decode cX8_next 138 = .ok (.iconst 0, 1) := by decide +kernel
theorem dX8_next_139 : decode cX8_next 139 = .ok (.goto 4, 3) := by decide +kernel
theorem dX8_next_142 : decode cX8_next 142 = .ok (.iload_n 2, 1) := by decide +kernel
theorem dX8_next_143 : decode cX8_next 143 = .ok (.invokevirtual 131, 3) := by decide +kernel
theorem dX8_next_146 : decode cX8_next 146 = .ok (.goto 145, 3) := by decide +kernel
theorem dX8_next_149 : decode cX8_next 149 = .ok (.iload_n 1, 1) := by decide +kernel
theorem dX8_next_150 : decode cX8_next 150 = .ok (.bipush 48, 2) := by decide +kernel
theorem dX8_next_152 : decode cX8_next 152 = .ok (.bipush 57, 2) := by decide +kernel
theorem dX8_next_154 : decode cX8_next 154 = .ok (.invokestatic 106, 3) := by decide +kernel
theorem dX8_next_157 : decode cX8_next 157 = .ok (.ifCond .eq 107, 3) := by decide +kernel
theorem dX8_next_160 : decode cX8_next 160 = .ok (.aload_n 0, 1) := by decide +kernel
theorem dX8_next_161 : decode cX8_next 161 = .ok (.invokevirtual 125, 3) := by decide +kernel
theorem dX8_next_164 : decode cX8_next 164 = .ok (.bipush 48, 2) := by decide +kernel
theorem dX8_next_166 : decode cX8_next 166 = .ok (.bipush 57, 2) := by decide +kernel
theorem dX8_next_168 : decode cX8_next 168 = .ok (.invokestatic 106, 3) := by decide +kernel
theorem dX8_next_171 : decode cX8_next 171 = .ok (.ifCond .eq 51, 3) := by decide +kernel
theorem dX8_next_174 : decode cX8_next 174 = .ok (.aload_n 0, 1) := by decide +kernel
theorem dX8_next_175 : decode cX8_next 175 = .ok (.aload_n 0, 1) := by decide +kernel
theorem dX8_next_176 : decode cX8_next 176 = .ok (.getfield 119, 3) := by decide +kernel
theorem dX8_next_179 : decode cX8_next 179 = .ok (.bipush 99, 2) := by decide +kernel
theorem dX8_next_181 : decode cX8_next 181 = .ok (.if_icmp .le 10, 3) := by decide +kernel
theorem dX8_next_184 : decode cX8_next 184 = .ok (.aload_n 0, 1) := by decide +kernel
theorem dX8_next_185 : decode cX8_next 185 = .ok (.getfield 119, 3) := by decide +kernel
theorem dX8_next_188 : decode cX8_next 188 = .ok (.goto 18, 3) := by decide +kernel
theorem dX8_next_191 : decode cX8_next 191 = .ok (.bipush 10, 2) := by decide +kernel
theorem dX8_next_193 : decode cX8_next 193 = .ok (.aload_n 0, 1) := by decide +kernel
theorem dX8_next_194 : decode cX8_next 194 = .ok (.getfield 119, 3) := by decide +kernel
theorem dX8_next_197 : decode cX8_next 197 = .ok (.imul, 1) := by decide +kernel
theorem dX8_next_198 : decode cX8_next 198 = .ok (.aload_n 0, 1) := by decide +kernel
theorem dX8_next_199 : decode cX8_next 199 = .ok (.invokevirtual 125, 3) := by decide +kernel
theorem dX8_next_202 : decode cX8_next 202 = .ok (.iadd, 1) := by decide +kernel
theorem dX8_next_203 : decode cX8_next 203 = .ok (.bipush 48, 2) := by decide +kernel
theorem dX8_next_205 : decode cX8_next 205 = .ok (.isub, 1) := by decide +kernel
theorem dX8_next_206 : decode cX8_next 206 = .ok (.putfield 119, 3) := by decide +kernel
theorem dX8_next_209 : decode cX8_next 209 = .ok (.aload_n 0, 1) := by decide +kernel
theorem dX8_next_210 : decode cX8_next 210 = .ok (.dup, 1) := by decide +kernel
theorem dX8_next_211 : decode cX8_next 211 = .ok (.getfield 116, 3) := by decide +kernel
theorem dX8_next_214 : decode cX8_next 214 = .ok (.iconst 1, 1) := by decide +kernel
theorem dX8_next_215 : decode cX8_next 215 = .ok (.iadd, 1) := by decide +kernel
theorem dX8_next_216 : decode cX8_next 216 = .ok (.putfield 116, 3) := by decide +kernel
theorem dX8_next_219 : decode cX8_next 219 = .ok (.goto (-59), 3) := by decide +kernel
theorem dX8_next_222 : decode cX8_next 222 = .ok (.aload_n 0, 1) := by decide +kernel
theorem dX8_next_223 : decode cX8_next 223 = .ok (.aload_n 0, 1) := by decide +kernel
theorem dX8_next_224 : decode cX8_next 224 = .ok (.getfield 119, 3) := by decide +kernel
theorem dX8_next_227 : decode cX8_next 227 = .ok (.bipush 99, 2) := by decide +kernel
theorem dX8_next_229 : decode cX8_next 229 = .ok (.if_icmp .gt 22, 3) := by decide +kernel
theorem dX8_next_232 : decode cX8_next 232 = .ok (.iload_n 1, 1) := by decide +kernel
theorem dX8_next_233 : decode cX8_next 233 = .ok (.bipush 48, 2) := by decide +kernel
theorem dX8_next_235 : decode cX8_next 235 = .ok (.if_icmp .ne 21, 3) := by decide +kernel
theorem dX8_next_238 : decode cX8_next 238 = .ok (.aload_n 0, 1) := by decide +kernel
theorem dX8_next_239 : decode cX8_next 239 = .ok (.getfield 116, 3) := by decide +kernel
theorem dX8_next_242 : decode cX8_next 242 = .ok (.aload_n 0, 1) := by decide +kernel
theorem dX8_next_243 : decode cX8_next 243 = .ok (.getfield 128, 3) := by decide +kernel
theorem dX8_next_246 : decode cX8_next 246 = .ok (.isub, 1) := by decide +kernel
theorem dX8_next_247 : decode cX8_next 247 = .ok (.iconst 1, 1) := by decide +kernel
theorem dX8_next_248 : decode cX8_next 248 = .ok (.if_icmp .le 8, 3) := by decide +kernel
theorem dX8_next_251 : decode cX8_next 251 = .ok (.bipush 14, 2) := by decide +kernel
theorem dX8_next_253 : decode cX8_next 253 = .ok (.goto 5, 3) := by decide +kernel
theorem dX8_next_256 : decode cX8_next 256 = .ok (.bipush 12, 2) := by decide +kernel
theorem dX8_next_258 : decode cX8_next 258 = .ok (.putfield 122, 3) := by decide +kernel
theorem dX8_next_261 : decode cX8_next 261 = .ok (.goto 30, 3) := by decide +kernel
theorem dX8_next_264 : decode cX8_next 264 = .ok (.aload_n 0, 1) := by decide +kernel
theorem dX8_next_265 : decode cX8_next 265 = .ok (.dup, 1) := by decide +kernel
theorem dX8_next_266 : decode cX8_next 266 = .ok (.getfield 116, 3) := by decide +kernel
theorem dX8_next_269 : decode cX8_next 269 = .ok (.iconst 1, 1) := by decide +kernel
theorem dX8_next_270 : decode cX8_next 270 = .ok (.iadd, 1) := by decide +kernel
theorem dX8_next_271 : decode cX8_next 271 = .ok (.putfield 116, 3) := by decide +kernel
theorem dX8_next_274 : decode cX8_next 274 = .ok (.aload_n 0, 1) := by decide +kernel
theorem dX8_next_275 : decode cX8_next 275 = .ok (.iload_n 1, 1) := by decide +kernel
theorem dX8_next_276 : decode cX8_next 276 = .ok (.bipush 59, 2) := by decide +kernel
theorem dX8_next_278 : decode cX8_next 278 = .ok (.if_icmp .ne 8, 3) := by decide +kernel
theorem dX8_next_281 : decode cX8_next 281 = .ok (.bipush 13, 2) := by decide +kernel
theorem dX8_next_283 : decode cX8_next 283 = .ok (.goto 5, 3) := by decide +kernel
theorem dX8_next_286 : decode cX8_next 286 = .ok (.bipush 14, 2) := by decide +kernel
theorem dX8_next_288 : decode cX8_next 288 = .ok (.putfield 122, 3) := by decide +kernel
theorem dX8_next_291 : decode cX8_next 291 = .ok (.return_, 1) := by decide +kernel
theorem dX8_due_0 : decode cX8_due 0 = .ok (.aload_n 0, 1) := by decide +kernel
theorem dX8_due_1 : decode cX8_due 1 = .ok (.getfield 119, 3) := by decide +kernel
theorem dX8_due_4 : decode cX8_due 4 = .ok (.istore_n 2, 1) := by decide +kernel
theorem dX8_due_5 : decode cX8_due 5 = .ok (.aload_n 0, 1) := by decide +kernel
theorem dX8_due_6 : decode cX8_due 6 = .ok (.getfield 135, 3) := by decide +kernel
theorem dX8_due_9 : decode cX8_due 9 = .ok (.bipush (-9), 2) := by decide +kernel
theorem dX8_due_11 : decode cX8_due 11 = .ok (.if_icmp .ne 22, 3) := by decide +kernel
theorem dX8_due_14 : decode cX8_due 14 = .ok (.iload_n 1, 1) := by decide +kernel
theorem dX8_due_15 : decode cX8_due 15 = .ok (.ifCond .eq 10, 3) := by decide +kernel
theorem dX8_due_18 : decode cX8_due 18 = .ok (.aload_n 0, 1) := by decide +kernel
theorem dX8_due_19 : decode cX8_due 19 = .ok (.invokevirtual 138, 3) := by decide +kernel
theorem dX8_due_22 : decode cX8_due 22 = .ok (.goto 11, 3) := by decide +kernel
theorem dX8_due_25 : decode cX8_due 25 = .ok (.aload_n 0, 1) := by decide +kernel
theorem dX8_due_26 : decode cX8_due 26 = .ok (.aload_n 0, 1) := by decide +kernel
theorem dX8_due_27 : decode cX8_due 27 = .ok (.getfield 128, 3) := by decide +kernel
theorem dX8_due_30 : decode cX8_due 30 = .ok (.putfield 135, 3) := by decide +kernel
theorem dX8_due_33 : decode cX8_due 33 = .ok (.iload_n 2, 1) := by decide +kernel
theorem dX8_due_34 : decode cX8_due 34 = .ok (.ireturn, 1) := by decide +kernel
theorem dX8_number_0 : decode cX8_number 0 = .ok (.aload_n 0, 1) := by decide +kernel
theorem dX8_number_1 : decode cX8_number 1 = .ok (.aload_n 0, 1) := by decide +kernel
theorem dX8_number_2 : decode cX8_number 2 = .ok (.getfield 122, 3) := by decide +kernel
theorem dX8_number_5 : decode cX8_number 5 = .ok (.bipush 12, 2) := by decide +kernel
theorem dX8_number_7 : decode cX8_number 7 = .ok (.if_icmp .ne 19, 3) := by decide +kernel
theorem dX8_number_10 : decode cX8_number 10 = .ok (.aload_n 0, 1) := by decide +kernel
theorem dX8_number_11 : decode cX8_number 11 = .ok (.getfield 119, 3) := by decide +kernel
theorem dX8_number_14 : decode cX8_number 14 = .ok (.iload_n 1, 1) := by decide +kernel
theorem dX8_number_15 : decode cX8_number 15 = .ok (.iload_n 2, 1) := by decide +kernel
theorem dX8_number_16 : decode cX8_number 16 = .ok (.invokestatic 106, 3) := by decide +kernel
theorem dX8_number_19 : decode cX8_number 19 = .ok (.ifCond .eq 7, 3) := by decide +kernel
theorem dX8_number_22 : decode cX8_number 22 = .ok (.iconst 1, 1) := by decide +kernel
theorem dX8_number_23 : decode cX8_number 23 = .ok (.goto 4, 3) := by decide +kernel
theorem dX8_number_26 : decode cX8_number 26 = .ok (.iconst 0, 1) := by decide +kernel
theorem dX8_number_27 : decode cX8_number 27 = .ok (.invokevirtual 141, 3) := by decide +kernel
theorem dX8_number_30 : decode cX8_number 30 = .ok (.ireturn, 1) := by decide +kernel
theorem dX8_readEvery_0 : decode cX8_readEvery 0 = .ok (.aload_n 0, 1) := by decide +kernel
theorem dX8_readEvery_1 : decode cX8_readEvery 1 = .ok (.iconst 1, 1) := by decide +kernel
theorem dX8_readEvery_2 : decode cX8_readEvery 2 = .ok (.bipush 60, 2) := by decide +kernel
theorem dX8_readEvery_4 : decode cX8_readEvery 4 = .ok (.invokevirtual 145, 3) := by decide +kernel
theorem dX8_readEvery_7 : decode cX8_readEvery 7 = .ok (.istore_n 1, 1) := by decide +kernel
theorem dX8_readEvery_8 : decode cX8_readEvery 8 = .ok (.aload_n 0, 1) := by decide +kernel
theorem dX8_readEvery_9 : decode cX8_readEvery 9 = .ok (.aload_n 0, 1) := by decide +kernel
theorem dX8_readEvery_10 : decode cX8_readEvery 10 = .ok (.getfield 122, 3) := by decide +kernel
theorem dX8_readEvery_13 : decode cX8_readEvery 13 = .ok (.iconst 3, 1) := by decide +kernel
theorem dX8_readEvery_14 : decode cX8_readEvery 14 = .ok (.if_icmp .ne 7, 3) := by decide +kernel
theorem dX8_readEvery_17 : decode cX8_readEvery 17 = .ok (.iconst 1, 1) := by decide +kernel
theorem dX8_readEvery_18 : decode cX8_readEvery 18 = .ok (.goto 4, 3) := by decide +kernel
theorem dX8_readEvery_21 : decode cX8_readEvery 21 = .ok (.iconst 0, 1) := by decide +kernel
theorem dX8_readEvery_22 : decode cX8_readEvery 22 = .ok (.invokevirtual 141, 3) := by decide +kernel
theorem dX8_readEvery_25 : decode cX8_readEvery 25 = .ok (.pop, 1) := by decide +kernel
theorem dX8_readEvery_26 : decode cX8_readEvery 26 = .ok (.aload_n 0, 1) := by decide +kernel
theorem dX8_readEvery_27 : decode cX8_readEvery 27 = .ok (.iconst 0, 1) := by decide +kernel
theorem dX8_readEvery_28 : decode cX8_readEvery 28 = .ok (.bipush 59, 2) := by decide +kernel
theorem dX8_readEvery_30 : decode cX8_readEvery 30 = .ok (.invokevirtual 145, 3) := by decide +kernel
theorem dX8_readEvery_33 : decode cX8_readEvery 33 = .ok (.istore_n 2, 1) := by decide +kernel
theorem dX8_readEvery_34 : decode cX8_readEvery 34 = .ok (.aload_n 0, 1) := by decide +kernel
theorem dX8_readEvery_35 : decode cX8_readEvery 35 = .ok (.aload_n 0, 1) := by decide +kernel
theorem dX8_readEvery_36 : decode cX8_readEvery 36 = .ok (.getfield 122, 3) := by decide +kernel
theorem dX8_readEvery_39 : decode cX8_readEvery 39 = .ok (.bipush 11, 2) := by decide +kernel
theorem dX8_readEvery_41 : decode cX8_readEvery 41 = .ok (.if_icmp .ne 7, 3) := by decide +kernel
theorem dX8_readEvery_44 : decode cX8_readEvery 44 = .ok (.iconst 1, 1) := by decide +kernel
theorem dX8_readEvery_45 : decode cX8_readEvery 45 = .ok (.goto 4, 3) := by decide +kernel
theorem dX8_readEvery_48 : decode cX8_readEvery 48 = .ok (.iconst 0, 1) := by decide +kernel
theorem dX8_readEvery_49 : decode cX8_readEvery 49 = .ok (.invokevirtual 141, 3) := by decide +kernel
theorem dX8_readEvery_52 : decode cX8_readEvery 52 = .ok (.istore_n 3, 1) := by decide +kernel
theorem dX8_readEvery_53 : decode cX8_readEvery 53 = .ok (.iload_n 2, 1) := by decide +kernel
theorem dX8_readEvery_54 : decode cX8_readEvery 54 = .ok (.istore 4, 2) := by decide +kernel
theorem dX8_readEvery_56 : decode cX8_readEvery 56 = .ok (.aload_n 0, 1) := by decide +kernel
theorem dX8_readEvery_57 : decode cX8_readEvery 57 = .ok (.getfield 135, 3) := by decide +kernel
theorem dX8_readEvery_60 : decode cX8_readEvery 60 = .ok (.bipush (-9), 2) := by decide +kernel
theorem dX8_readEvery_62 : decode cX8_readEvery 62 = .ok (.if_icmp .ne 30, 3) := by decide +kernel
theorem dX8_readEvery_65 : decode cX8_readEvery 65 = .ok (.iload 4, 2) := by decide +kernel
theorem dX8_readEvery_67 : decode cX8_readEvery 67 = .ok (.bipush 60, 2) := by decide +kernel
theorem dX8_readEvery_69 : decode cX8_readEvery 69 = .ok (.if_icmp .ge 23, 3) := by decide +kernel
theorem dX8_readEvery_72 : decode cX8_readEvery 72 = .ok (.aload_n 0, 1) := by decide +kernel
theorem dX8_readEvery_73 : decode cX8_readEvery 73 = .ok (.getfield 13, 3) := by decide +kernel
theorem dX8_readEvery_76 : decode cX8_readEvery 76 = .ok (.bipush 60, 2) := by decide +kernel
theorem dX8_readEvery_78 : decode cX8_readEvery 78 = .ok (.iload 4, 2) := by decide +kernel
theorem dX8_readEvery_80 : decode cX8_readEvery 80 = .ok (.iadd, 1) := by decide +kernel
theorem dX8_readEvery_81 : decode cX8_readEvery 81 = .ok (.iload_n 3, 1) := by decide +kernel
theorem dX8_readEvery_82 : decode cX8_readEvery 82 = .ok (.iastore, 1) := by decide +kernel
theorem dX8_readEvery_83 : decode cX8_readEvery 83 = .ok (.iload 4, 2) := by decide +kernel
theorem dX8_readEvery_85 : decode cX8_readEvery 85 = .ok (.iload_n 1, 1) := by decide +kernel
theorem dX8_readEvery_86 : decode cX8_readEvery 86 = .ok (.iadd, 1) := by decide +kernel
theorem dX8_readEvery_87 : decode cX8_readEvery 87 = .ok (.istore 4, 2) := by decide +kernel
theorem dX8_readEvery_89 : decode cX8_readEvery 89 = .ok (.goto (-33), 3) := by decide +kernel
theorem dX8_readEvery_92 : decode cX8_readEvery 92 = .ok (.return_, 1) := by decide +kernel
theorem dX8_readDays_0 : decode cX8_readDays 0 = .ok (.aload_n 0, 1) := by decide +kernel
theorem dX8_readDays_1 : decode cX8_readDays 1 = .ok (.iconst 0, 1) := by decide +kernel
theorem dX8_readDays_2 : decode cX8_readDays 2 = .ok (.bipush 59, 2) := by decide +kernel
theorem dX8_readDays_4 : decode cX8_readDays 4 = .ok (.invokevirtual 145, 3) := by decide +kernel
theorem dX8_readDays_7 : decode cX8_readDays 7 = .ok (.istore_n 1, 1) := by decide +kernel
theorem dX8_readDays_8 : decode cX8_readDays 8 = .ok (.aload_n 0, 1) := by decide +kernel
theorem dX8_readDays_9 : decode cX8_readDays 9 = .ok (.iload_n 1, 1) := by decide +kernel
theorem dX8_readDays_10 : decode cX8_readDays 10 = .ok (.bipush 59, 2) := by decide +kernel
theorem dX8_readDays_12 : decode cX8_readDays 12 = .ok (.invokevirtual 145, 3) := by decide +kernel
theorem dX8_readDays_15 : decode cX8_readDays 15 = .ok (.istore_n 2, 1) := by decide +kernel
theorem dX8_readDays_16 : decode cX8_readDays 16 = .ok (.aload_n 0, 1) := by decide +kernel
theorem dX8_readDays_17 : decode cX8_readDays 17 = .ok (.aload_n 0, 1) := by decide +kernel
theorem dX8_readDays_18 : decode cX8_readDays 18 = .ok (.getfield 122, 3) := by decide +kernel
theorem dX8_readDays_21 : decode cX8_readDays 21 = .ok (.bipush 11, 2) := by decide +kernel
theorem dX8_readDays_23 : decode cX8_readDays 23 = .ok (.if_icmp .ne 7, 3) := by decide +kernel
theorem dX8_readDays_26 : decode cX8_readDays 26 = .ok (.iconst 1, 1) := by decide +kernel
theorem dX8_readDays_27 : decode cX8_readDays 27 = .ok (.goto 4, 3) := by decide +kernel
theorem dX8_readDays_30 : decode cX8_readDays 30 = .ok (.iconst 0, 1) := by decide +kernel
theorem dX8_readDays_31 : decode cX8_readDays 31 = .ok (.invokevirtual 141, 3) := by decide +kernel
theorem dX8_readDays_34 : decode cX8_readDays 34 = .ok (.istore_n 3, 1) := by decide +kernel
theorem dX8_readDays_35 : decode cX8_readDays 35 = .ok (.iload_n 1, 1) := by decide +kernel
theorem dX8_readDays_36 : decode cX8_readDays 36 = .ok (.istore 4, 2) := by decide +kernel
theorem dX8_readDays_38 : decode cX8_readDays 38 = .ok (.aload_n 0, 1) := by decide +kernel
theorem dX8_readDays_39 : decode cX8_readDays 39 = .ok (.getfield 135, 3) := by decide +kernel
theorem dX8_readDays_42 : decode cX8_readDays 42 = .ok (.bipush (-9), 2) := by decide +kernel
theorem dX8_readDays_44 : decode cX8_readDays 44 = .ok (.if_icmp .ne 26, 3) := by decide +kernel
theorem dX8_readDays_47 : decode cX8_readDays 47 = .ok (.iload 4, 2) := by decide +kernel
theorem dX8_readDays_49 : decode cX8_readDays 49 = .ok (.iload_n 2, 1) := by decide +kernel
theorem dX8_readDays_50 : decode cX8_readDays 50 = .ok (.if_icmp .gt 20, 3) := by decide +kernel
theorem dX8_readDays_53 : decode cX8_readDays 53 = .ok (.aload_n 0, 1) := by decide +kernel
theorem dX8_readDays_54 : decode cX8_readDays 54 = .ok (.getfield 13, 3) := by decide +kernel
theorem dX8_readDays_57 : decode cX8_readDays 57 = .ok (.bipush 60, 2) := by decide +kernel
theorem dX8_readDays_59 : decode cX8_readDays 59 = .ok (.iload 4, 2) := by decide +kernel
theorem dX8_readDays_61 : decode cX8_readDays 61 = .ok (.iadd, 1) := by decide +kernel
theorem dX8_readDays_62 : decode cX8_readDays 62 = .ok (.iload_n 3, 1) := by decide +kernel
theorem dX8_readDays_63 : decode cX8_readDays 63 = .ok (.iastore, 1) := by decide +kernel
theorem dX8_readDays_64 : decode cX8_readDays 64 = .ok (.iinc 4 1, 3) := by decide +kernel
theorem dX8_readDays_67 : decode cX8_readDays 67 = .ok (.goto (-29), 3) := by decide +kernel
theorem dX8_readDays_70 : decode cX8_readDays 70 = .ok (.return_, 1) := by decide +kernel
theorem dX8_readStep_0 : decode cX8_readStep 0 = .ok (.iload_n 1, 1) := by decide +kernel
theorem dX8_readStep_1 : decode cX8_readStep 1 = .ok (.iconst 1, 1) := by decide +kernel
theorem dX8_readStep_2 : decode cX8_readStep 2 = .ok (.isub, 1) := by decide +kernel
theorem dX8_readStep_3 : decode cX8_readStep 3 = .ok (.istore_n 2, 1) := by decide +kernel
theorem dX8_readStep_4 : decode cX8_readStep 4 = .ok (.bipush 8, 2) := by decide +kernel
theorem dX8_readStep_6 : decode cX8_readStep 6 = .ok (.iconst 4, 1) := by decide +kernel
theorem dX8_readStep_7 : decode cX8_readStep 7 = .ok (.iload_n 2, 1) := by decide +kernel
theorem dX8_readStep_8 : decode cX8_readStep 8 = .ok (.ifCond .ge 7, 3) := by decide +kernel
theorem dX8_readStep_11 : decode cX8_readStep 11 = .ok (.iconst 0, 1) := by decide +kernel
theorem dX8_readStep_12 : decode cX8_readStep 12 = .ok (.goto 4, 3) := by decide +kernel
theorem dX8_readStep_15 : decode cX8_readStep 15 = .ok (.iload_n 2, 1) := by decide +kernel
theorem dX8_readStep_16 : decode cX8_readStep 16 = .ok (.imul, 1) := by decide +kernel
theorem dX8_readStep_17 : decode cX8_readStep 17 = .ok (.iadd, 1) := by decide +kernel
theorem dX8_readStep_18 : decode cX8_readStep 18 = .ok (.iload_n 2, 1) := by decide +kernel
theorem dX8_readStep_19 : decode cX8_readStep 19 = .ok (.ifCond .lt 15, 3) := by decide +kernel
theorem dX8_readStep_22 : decode cX8_readStep 22 = .ok (.aload_n 0, 1) := by decide +kernel
theorem dX8_readStep_23 : decode cX8_readStep 23 = .ok (.getfield 16, 3) := by decide +kernel
theorem dX8_readStep_26 : decode cX8_readStep 26 = .ok (.iconst 2, 1) := by decide +kernel
theorem dX8_readStep_27 : decode cX8_readStep 27 = .ok (.iload_n 2, 1) := by decide +kernel
theorem dX8_readStep_28 : decode cX8_readStep 28 = .ok (.iadd, 1) := by decide +kernel
theorem dX8_readStep_29 : decode cX8_readStep 29 = .ok (.iaload, 1) := by decide +kernel
theorem dX8_readStep_30 : decode cX8_readStep 30 = .ok (.iconst 4, 1) := by decide +kernel
theorem dX8_readStep_31 : decode cX8_readStep 31 = .ok (.if_icmp .ne 7, 3) := by decide +kernel
theorem dX8_readStep_34 : decode cX8_readStep 34 = .ok (.iconst 0, 1) := by decide +kernel
theorem dX8_readStep_35 : decode cX8_readStep 35 = .ok (.goto 11, 3) := by decide +kernel
theorem dX8_readStep_38 : decode cX8_readStep 38 = .ok (.aload_n 0, 1) := by decide +kernel
theorem dX8_readStep_39 : decode cX8_readStep 39 = .ok (.getfield 16, 3) := by decide +kernel
theorem dX8_readStep_42 : decode cX8_readStep 42 = .ok (.iconst 2, 1) := by decide +kernel
theorem dX8_readStep_43 : decode cX8_readStep 43 = .ok (.iload_n 2, 1) := by decide +kernel
theorem dX8_readStep_44 : decode cX8_readStep 44 = .ok (.iadd, 1) := by decide +kernel
theorem dX8_readStep_45 : decode cX8_readStep 45 = .ok (.iaload, 1) := by decide +kernel
theorem dX8_readStep_46 : decode cX8_readStep 46 = .ok (.iadd, 1) := by decide +kernel
theorem dX8_readStep_47 : decode cX8_readStep 47 = .ok (.istore_n 3, 1) := by decide +kernel
end
section
theorem dX8_readStep_48 : decode cX8_readStep 48 = .ok (.aload_n 0, 1) := by decide +kernel
theorem dX8_readStep_49 : decode cX8_readStep 49 = .ok (.iload_n 2, 1) := by decide +kernel
theorem dX8_readStep_50 : decode cX8_readStep 50 = .ok (.ifCond .lt 19, 3) := by decide +kernel
theorem dX8_readStep_53 : decode cX8_readStep 53 = .ok (.aload_n 0, 1) := by decide +kernel
theorem dX8_readStep_54 : decode cX8_readStep 54 = .ok (.getfield 16, 3) := by decide +kernel
theorem dX8_readStep_57 : decode cX8_readStep 57 = .ok (.iconst 2, 1) := by decide +kernel
theorem dX8_readStep_58 : decode cX8_readStep 58 = .ok (.iload_n 2, 1) := by decide +kernel
theorem dX8_readStep_59 : decode cX8_readStep 59 = .ok (.iadd, 1) := by decide +kernel
theorem dX8_readStep_60 : decode cX8_readStep 60 = .ok (.iaload, 1) := by decide +kernel
theorem dX8_readStep_61 : decode cX8_readStep 61 = .ok (.iconst 4, 1) := by decide +kernel
theorem dX8_readStep_62 : decode cX8_readStep 62 = .ok (.if_icmp .ge 7, 3) := by decide +kernel
theorem dX8_readStep_65 : decode cX8_readStep 65 = .ok (.iconst 1, 1) := by decide +kernel
theorem dX8_readStep_66 : decode cX8_readStep 66 = .ok (.goto 4, 3) := by decide +kernel
theorem dX8_readStep_69 : decode cX8_readStep 69 = .ok (.iconst 0, 1) := by decide +kernel
theorem dX8_readStep_70 : decode cX8_readStep 70 = .ok (.invokevirtual 141, 3) := by decide +kernel
theorem dX8_readStep_73 : decode cX8_readStep 73 = .ok (.pop, 1) := by decide +kernel
theorem dX8_readStep_74 : decode cX8_readStep 74 = .ok (.iconst 0, 1) := by decide +kernel
theorem dX8_readStep_75 : decode cX8_readStep 75 = .ok (.istore 4, 2) := by decide +kernel
theorem dX8_readStep_77 : decode cX8_readStep 77 = .ok (.iload 4, 2) := by decide +kernel
theorem dX8_readStep_79 : decode cX8_readStep 79 = .ok (.iconst 1, 1) := by decide +kernel
theorem dX8_readStep_80 : decode cX8_readStep 80 = .ok (.aload_n 0, 1) := by decide +kernel
theorem dX8_readStep_81 : decode cX8_readStep 81 = .ok (.aload_n 0, 1) := by decide +kernel
theorem dX8_readStep_82 : decode cX8_readStep 82 = .ok (.getfield 122, 3) := by decide +kernel
theorem dX8_readStep_85 : decode cX8_readStep 85 = .ok (.bipush 11, 2) := by decide +kernel
theorem dX8_readStep_87 : decode cX8_readStep 87 = .ok (.if_icmp .ne 7, 3) := by decide +kernel
theorem dX8_readStep_90 : decode cX8_readStep 90 = .ok (.iconst 1, 1) := by decide +kernel
theorem dX8_readStep_91 : decode cX8_readStep 91 = .ok (.goto 4, 3) := by decide +kernel
theorem dX8_readStep_94 : decode cX8_readStep 94 = .ok (.iconst 0, 1) := by decide +kernel
theorem dX8_readStep_95 : decode cX8_readStep 95 = .ok (.invokevirtual 141, 3) := by decide +kernel
theorem dX8_readStep_98 : decode cX8_readStep 98 = .ok (.ishl, 1) := by decide +kernel
theorem dX8_readStep_99 : decode cX8_readStep 99 = .ok (.ior, 1) := by decide +kernel
theorem dX8_readStep_100 : decode cX8_readStep 100 = .ok (.istore 4, 2) := by decide +kernel
theorem dX8_readStep_102 : decode cX8_readStep 102 = .ok (.aload_n 0, 1) := by decide +kernel
theorem dX8_readStep_103 : decode cX8_readStep 103 = .ok (.getfield 135, 3) := by decide +kernel
theorem dX8_readStep_106 : decode cX8_readStep 106 = .ok (.bipush (-9), 2) := by decide +kernel
theorem dX8_readStep_108 : decode cX8_readStep 108 = .ok (.if_icmp .ne 43, 3) := by decide +kernel
theorem dX8_readStep_111 : decode cX8_readStep 111 = .ok (.aload_n 0, 1) := by decide +kernel
theorem dX8_readStep_112 : decode cX8_readStep 112 = .ok (.getfield 122, 3) := by decide +kernel
theorem dX8_readStep_115 : decode cX8_readStep 115 = .ok (.bipush 11, 2) := by decide +kernel
theorem dX8_readStep_117 : decode cX8_readStep 117 = .ok (.if_icmp .ne 34, 3) := by decide +kernel
theorem dX8_readStep_120 : decode cX8_readStep 120 = .ok (.iload 4, 2) := by decide +kernel
theorem dX8_readStep_122 : decode cX8_readStep 122 = .ok (.iconst 1, 1) := by decide +kernel
theorem dX8_readStep_123 : decode cX8_readStep 123 = .ok (.aload_n 0, 1) := by decide +kernel
theorem dX8_readStep_124 : decode cX8_readStep 124 = .ok (.iload 4, 2) := by decide +kernel
theorem dX8_readStep_126 : decode cX8_readStep 126 = .ok (.aload_n 0, 1) := by decide +kernel
theorem dX8_readStep_127 : decode cX8_readStep 127 = .ok (.getfield 119, 3) := by decide +kernel
theorem dX8_readStep_130 : decode cX8_readStep 130 = .ok (.ishr, 1) := by decide +kernel
theorem dX8_readStep_131 : decode cX8_readStep 131 = .ok (.iconst 1, 1) := by decide +kernel
theorem dX8_readStep_132 : decode cX8_readStep 132 = .ok (.iand, 1) := by decide +kernel
theorem dX8_readStep_133 : decode cX8_readStep 133 = .ok (.ifCond .ne 7, 3) := by decide +kernel
theorem dX8_readStep_136 : decode cX8_readStep 136 = .ok (.iconst 1, 1) := by decide +kernel
theorem dX8_readStep_137 : decode cX8_readStep 137 = .ok (.goto 4, 3) := by decide +kernel
theorem dX8_readStep_140 : decode cX8_readStep 140 = .ok (.iconst 0, 1) := by decide +kernel
theorem dX8_readStep_141 : decode cX8_readStep 141 = .ok (.invokevirtual 141, 3) := by decide +kernel
theorem dX8_readStep_144 : decode cX8_readStep 144 = .ok (.ishl, 1) := by decide +kernel
theorem dX8_readStep_145 : decode cX8_readStep 145 = .ok (.ior, 1) := by decide +kernel
theorem dX8_readStep_146 : decode cX8_readStep 146 = .ok (.istore 4, 2) := by decide +kernel
theorem dX8_readStep_148 : decode cX8_readStep 148 = .ok (.goto (-46), 3) := by decide +kernel
theorem dX8_readStep_151 : decode cX8_readStep 151 = .ok (.aload_n 0, 1) := by decide +kernel
theorem dX8_readStep_152 : decode cX8_readStep 152 = .ok (.aload_n 0, 1) := by decide +kernel
theorem dX8_readStep_153 : decode cX8_readStep 153 = .ok (.getfield 122, 3) := by decide +kernel
theorem dX8_readStep_156 : decode cX8_readStep 156 = .ok (.bipush 7, 2) := by decide +kernel
theorem dX8_readStep_158 : decode cX8_readStep 158 = .ok (.if_icmp .ne 7, 3) := by decide +kernel
theorem dX8_readStep_161 : decode cX8_readStep 161 = .ok (.iconst 1, 1) := by decide +kernel
theorem dX8_readStep_162 : decode cX8_readStep 162 = .ok (.goto 4, 3) := by decide +kernel
theorem dX8_readStep_165 : decode cX8_readStep 165 = .ok (.iconst 0, 1) := by decide +kernel
theorem dX8_readStep_166 : decode cX8_readStep 166 = .ok (.invokevirtual 141, 3) := by decide +kernel
theorem dX8_readStep_169 : decode cX8_readStep 169 = .ok (.pop, 1) := by decide +kernel
theorem dX8_readStep_170 : decode cX8_readStep 170 = .ok (.aload_n 0, 1) := by decide +kernel
theorem dX8_readStep_171 : decode cX8_readStep 171 = .ok (.iconst 0, 1) := by decide +kernel
theorem dX8_readStep_172 : decode cX8_readStep 172 = .ok (.bipush 59, 2) := by decide +kernel
theorem dX8_readStep_174 : decode cX8_readStep 174 = .ok (.invokevirtual 145, 3) := by decide +kernel
theorem dX8_readStep_177 : decode cX8_readStep 177 = .ok (.istore 5, 2) := by decide +kernel
theorem dX8_readStep_179 : decode cX8_readStep 179 = .ok (.aload_n 0, 1) := by decide +kernel
theorem dX8_readStep_180 : decode cX8_readStep 180 = .ok (.getfield 122, 3) := by decide +kernel
theorem dX8_readStep_183 : decode cX8_readStep 183 = .ok (.bipush 11, 2) := by decide +kernel
theorem dX8_readStep_185 : decode cX8_readStep 185 = .ok (.if_icmp .ne 15, 3) := by decide +kernel
theorem dX8_readStep_188 : decode cX8_readStep 188 = .ok (.aload_n 0, 1) := by decide +kernel
theorem dX8_readStep_189 : decode cX8_readStep 189 = .ok (.getfield 119, 3) := by decide +kernel
theorem dX8_readStep_192 : decode cX8_readStep 192 = .ok (.iconst 1, 1) := by decide +kernel
theorem dX8_readStep_193 : decode cX8_readStep 193 = .ok (.if_icmp .ne 7, 3) := by decide +kernel
theorem dX8_readStep_196 : decode cX8_readStep 196 = .ok (.iconst 1, 1) := by decide +kernel
theorem dX8_readStep_197 : decode cX8_readStep 197 = .ok (.goto 4, 3) := by decide +kernel
theorem dX8_readStep_200 : decode cX8_readStep 200 = .ok (.iconst 0, 1) := by decide +kernel
theorem dX8_readStep_201 : decode cX8_readStep 201 = .ok (.istore 6, 2) := by decide +kernel
theorem dX8_readStep_203 : decode cX8_readStep 203 = .ok (.iload 6, 2) := by decide +kernel
theorem dX8_readStep_205 : decode cX8_readStep 205 = .ok (.ifCond .eq 9, 3) := by decide +kernel
theorem dX8_readStep_208 : decode cX8_readStep 208 = .ok (.aload_n 0, 1) := by decide +kernel
theorem dX8_readStep_209 : decode cX8_readStep 209 = .ok (.iconst 1, 1) := by decide +kernel
theorem dX8_readStep_210 : decode cX8_readStep 210 = .ok (.invokevirtual 141, 3) := by decide +kernel
theorem dX8_readStep_213 : decode cX8_readStep 213 = .ok (.pop, 1) := by decide +kernel
theorem dX8_readStep_214 : decode cX8_readStep 214 = .ok (.bipush (-9), 2) := by decide +kernel
theorem dX8_readStep_216 : decode cX8_readStep 216 = .ok (.istore 7, 2) := by decide +kernel
theorem dX8_readStep_218 : decode cX8_readStep 218 = .ok (.aload_n 0, 1) := by decide +kernel
theorem dX8_readStep_219 : decode cX8_readStep 219 = .ok (.getfield 122, 3) := by decide +kernel
theorem dX8_readStep_222 : decode cX8_readStep 222 = .ok (.bipush 8, 2) := by decide +kernel
theorem dX8_readStep_224 : decode cX8_readStep 224 = .ok (.if_icmp .ne 18, 3) := by decide +kernel
theorem dX8_readStep_227 : decode cX8_readStep 227 = .ok (.aload_n 0, 1) := by decide +kernel
theorem dX8_readStep_228 : decode cX8_readStep 228 = .ok (.iconst 1, 1) := by decide +kernel
theorem dX8_readStep_229 : decode cX8_readStep 229 = .ok (.invokevirtual 141, 3) := by decide +kernel
theorem dX8_readStep_232 : decode cX8_readStep 232 = .ok (.pop, 1) := by decide +kernel
theorem dX8_readStep_233 : decode cX8_readStep 233 = .ok (.aload_n 0, 1) := by decide +kernel
theorem dX8_readStep_234 : decode cX8_readStep 234 = .ok (.iconst 1, 1) := by decide +kernel
theorem dX8_readStep_235 : decode cX8_readStep 235 = .ok (.bipush 60, 2) := by decide +kernel
theorem dX8_readStep_237 : decode cX8_readStep 237 = .ok (.invokevirtual 145, 3) := by decide +kernel
theorem dX8_readStep_240 : decode cX8_readStep 240 = .ok (.istore 7, 2) := by decide +kernel
theorem dX8_readStep_242 : decode cX8_readStep 242 = .ok (.iconst 0, 1) := by decide +kernel
theorem dX8_readStep_243 : decode cX8_readStep 243 = .ok (.istore 8, 2) := by decide +kernel
theorem dX8_readStep_245 : decode cX8_readStep 245 = .ok (.aload_n 0, 1) := by decide +kernel
theorem dX8_readStep_246 : decode cX8_readStep 246 = .ok (.getfield 122, 3) := by decide +kernel
theorem dX8_readStep_249 : decode cX8_readStep 249 = .ok (.bipush 9, 2) := by decide +kernel
theorem dX8_readStep_251 : decode cX8_readStep 251 = .ok (.if_icmp .ne 12, 3) := by decide +kernel
theorem dX8_readStep_254 : decode cX8_readStep 254 = .ok (.aload_n 0, 1) := by decide +kernel
theorem dX8_readStep_255 : decode cX8_readStep 255 = .ok (.iconst 1, 1) := by decide +kernel
theorem dX8_readStep_256 : decode cX8_readStep 256 = .ok (.invokevirtual 141, 3) := by decide +kernel
theorem dX8_readStep_259 : decode cX8_readStep 259 = .ok (.pop, 1) := by decide +kernel
theorem dX8_readStep_260 : decode cX8_readStep 260 = .ok (.iconst 1, 1) := by decide +kernel
theorem dX8_readStep_261 : decode cX8_readStep 261 = .ok (.istore 8, 2) := by decide +kernel
theorem dX8_readStep_263 : decode cX8_readStep 263 = .ok (.aload_n 0, 1) := by decide +kernel
theorem dX8_readStep_264 : decode cX8_readStep 264 = .ok (.getfield 122, 3) := by decide +kernel
theorem dX8_readStep_267 : decode cX8_readStep 267 = .ok (.bipush 10, 2) := by decide +kernel
theorem dX8_readStep_269 : decode cX8_readStep 269 = .ok (.if_icmp .ne 12, 3) := by decide +kernel
theorem dX8_readStep_272 : decode cX8_readStep 272 = .ok (.aload_n 0, 1) := by decide +kernel
theorem dX8_readStep_273 : decode cX8_readStep 273 = .ok (.iconst 1, 1) := by decide +kernel
theorem dX8_readStep_274 : decode cX8_readStep 274 = .ok (.invokevirtual 141, 3) := by decide +kernel
theorem dX8_readStep_277 : decode cX8_readStep 277 = .ok (.pop, 1) := by decide +kernel
theorem dX8_readStep_278 : decode cX8_readStep 278 = .ok (.iinc 8 2, 3) := by decide +kernel
theorem dX8_readStep_281 : decode cX8_readStep 281 = .ok (.aload_n 0, 1) := by decide +kernel
theorem dX8_readStep_282 : decode cX8_readStep 282 = .ok (.getfield 135, 3) := by decide +kernel
theorem dX8_readStep_285 : decode cX8_readStep 285 = .ok (.bipush (-9), 2) := by decide +kernel
theorem dX8_readStep_287 : decode cX8_readStep 287 = .ok (.if_icmp .ne 63, 3) := by decide +kernel
theorem dX8_readStep_290 : decode cX8_readStep 290 = .ok (.aload_n 0, 1) := by decide +kernel
theorem dX8_readStep_291 : decode cX8_readStep 291 = .ok (.getfield 19, 3) := by decide +kernel
theorem dX8_readStep_294 : decode cX8_readStep 294 = .ok (.iload_n 3, 1) := by decide +kernel
theorem dX8_readStep_295 : decode cX8_readStep 295 = .ok (.iload 4, 2) := by decide +kernel
theorem dX8_readStep_297 : decode cX8_readStep 297 = .ok (.iastore, 1) := by decide +kernel
theorem dX8_readStep_298 : decode cX8_readStep 298 = .ok (.aload_n 0, 1) := by decide +kernel
theorem dX8_readStep_299 : decode cX8_readStep 299 = .ok (.getfield 22, 3) := by decide +kernel
theorem dX8_readStep_302 : decode cX8_readStep 302 = .ok (.iload_n 3, 1) := by decide +kernel
theorem dX8_readStep_303 : decode cX8_readStep 303 = .ok (.iload 5, 2) := by decide +kernel
theorem dX8_readStep_305 : decode cX8_readStep 305 = .ok (.iastore, 1) := by decide +kernel
theorem dX8_readStep_306 : decode cX8_readStep 306 = .ok (.aload_n 0, 1) := by decide +kernel
theorem dX8_readStep_307 : decode cX8_readStep 307 = .ok (.getfield 25, 3) := by decide +kernel
theorem dX8_readStep_310 : decode cX8_readStep 310 = .ok (.iload_n 3, 1) := by decide +kernel
theorem dX8_readStep_311 : decode cX8_readStep 311 = .ok (.iload 6, 2) := by decide +kernel
theorem dX8_readStep_313 : decode cX8_readStep 313 = .ok (.ifCond .eq 7, 3) := by decide +kernel
theorem dX8_readStep_316 : decode cX8_readStep 316 = .ok (.iconst 1, 1) := by decide +kernel
theorem dX8_readStep_317 : decode cX8_readStep 317 = .ok (.goto 4, 3) := by decide +kernel
theorem dX8_readStep_320 : decode cX8_readStep 320 = .ok (.iconst 0, 1) := by decide +kernel
theorem dX8_readStep_321 : decode cX8_readStep 321 = .ok (.iastore, 1) := by decide +kernel
theorem dX8_readStep_322 : decode cX8_readStep 322 = .ok (.aload_n 0, 1) := by decide +kernel
theorem dX8_readStep_323 : decode cX8_readStep 323 = .ok (.getfield 28, 3) := by decide +kernel
theorem dX8_readStep_326 : decode cX8_readStep 326 = .ok (.iload_n 3, 1) := by decide +kernel
theorem dX8_readStep_327 : decode cX8_readStep 327 = .ok (.iload 7, 2) := by decide +kernel
theorem dX8_readStep_329 : decode cX8_readStep 329 = .ok (.iastore, 1) := by decide +kernel
theorem dX8_readStep_330 : decode cX8_readStep 330 = .ok (.aload_n 0, 1) := by decide +kernel
theorem dX8_readStep_331 : decode cX8_readStep 331 = .ok (.getfield 31, 3) := by decide +kernel
theorem dX8_readStep_334 : decode cX8_readStep 334 = .ok (.iload_n 3, 1) := by decide +kernel
theorem dX8_readStep_335 : decode cX8_readStep 335 = .ok (.iload 8, 2) := by decide +kernel
theorem dX8_readStep_337 : decode cX8_readStep 337 = .ok (.iastore, 1) := by decide +kernel
theorem dX8_readStep_338 : decode cX8_readStep 338 = .ok (.aload_n 0, 1) := by decide +kernel
theorem dX8_readStep_339 : decode cX8_readStep 339 = .ok (.getfield 16, 3) := by decide +kernel
theorem dX8_readStep_342 : decode cX8_readStep 342 = .ok (.iconst 2, 1) := by decide +kernel
theorem dX8_readStep_343 : decode cX8_readStep 343 = .ok (.iload_n 2, 1) := by decide +kernel
theorem dX8_readStep_344 : decode cX8_readStep 344 = .ok (.iadd, 1) := by decide +kernel
theorem dX8_readStep_345 : decode cX8_readStep 345 = .ok (.dup2, 1) := by decide +kernel
theorem dX8_readStep_346 : decode cX8_readStep 346 = .ok (.iaload, 1) := by decide +kernel
theorem dX8_readStep_347 : decode cX8_readStep 347 = .ok (.iconst 1, 1) := by decide +kernel
theorem dX8_readStep_348 : decode cX8_readStep 348 = .ok (.iadd, 1) := by decide +kernel
theorem dX8_readStep_349 : decode cX8_readStep 349 = .ok (.iastore, 1) := by decide +kernel
theorem dX8_readStep_350 : decode cX8_readStep 350 = .ok (.return_, 1) := by decide +kernel
theorem dX8_law_0 : decode cX8_law 0 = .ok (.aload_n 0, 1) := by decide +kernel
theorem dX8_law_1 : decode cX8_law 1 = .ok (.iconst 0, 1) := by decide +kernel
theorem dX8_law_2 : decode cX8_law 2 = .ok (.putfield 116, 3) := by decide +kernel
theorem dX8_law_5 : decode cX8_law 5 = .ok (.aload_n 0, 1) := by decide +kernel
theorem dX8_law_6 : decode cX8_law 6 = .ok (.bipush (-9), 2) := by decide +kernel
theorem dX8_law_8 : decode cX8_law 8 = .ok (.putfield 135, 3) := by decide +kernel
theorem dX8_law_11 : decode cX8_law 11 = .ok (.aload_n 0, 1) := by decide +kernel
theorem dX8_law_12 : decode cX8_law 12 = .ok (.getfield 7, 3) := by decide +kernel
theorem dX8_law_15 : decode cX8_law 15 = .ok (.iconst 1, 1) := by decide +kernel
theorem dX8_law_16 : decode cX8_law 16 = .ok (.bipush 30, 2) := by decide +kernel
theorem dX8_law_18 : decode cX8_law 18 = .ok (.iastore, 1) := by decide +kernel
theorem dX8_law_19 : decode cX8_law 19 = .ok (.aload_n 0, 1) := by decide +kernel
theorem dX8_law_20 : decode cX8_law 20 = .ok (.getfield 16, 3) := by decide +kernel
theorem dX8_law_23 : decode cX8_law 23 = .ok (.iconst 2, 1) := by decide +kernel
theorem dX8_law_24 : decode cX8_law 24 = .ok (.iconst 0, 1) := by decide +kernel
theorem dX8_law_25 : decode cX8_law 25 = .ok (.iastore, 1) := by decide +kernel
theorem dX8_law_26 : decode cX8_law 26 = .ok (.aload_n 0, 1) := by decide +kernel
theorem dX8_law_27 : decode cX8_law 27 = .ok (.getfield 16, 3) := by decide +kernel
theorem dX8_law_30 : decode cX8_law 30 = .ok (.iconst 3, 1) := by decide +kernel
theorem dX8_law_31 : decode cX8_law 31 = .ok (.iconst 0, 1) := by decide +kernel
theorem dX8_law_32 : decode cX8_law 32 = .ok (.iastore, 1) := by decide +kernel
theorem dX8_law_33 : decode cX8_law 33 = .ok (.iconst 0, 1) := by decide +kernel
theorem dX8_law_34 : decode cX8_law 34 = .ok (.istore_n 1, 1) := by decide +kernel
theorem dX8_law_35 : decode cX8_law 35 = .ok (.iload_n 1, 1) := by decide +kernel
theorem dX8_law_36 : decode cX8_law 36 = .ok (.bipush 60, 2) := by decide +kernel
theorem dX8_law_38 : decode cX8_law 38 = .ok (.if_icmp .ge 19, 3) := by decide +kernel
theorem dX8_law_41 : decode cX8_law 41 = .ok (.aload_n 0, 1) := by decide +kernel
theorem dX8_law_42 : decode cX8_law 42 = .ok (.getfield 13, 3) := by decide +kernel
theorem dX8_law_45 : decode cX8_law 45 = .ok (.bipush 60, 2) := by decide +kernel
theorem dX8_law_47 : decode cX8_law 47 = .ok (.iload_n 1, 1) := by decide +kernel
theorem dX8_law_48 : decode cX8_law 48 = .ok (.iadd, 1) := by decide +kernel
theorem dX8_law_49 : decode cX8_law 49 = .ok (.iconst 0, 1) := by decide +kernel
theorem dX8_law_50 : decode cX8_law 50 = .ok (.iastore, 1) := by decide +kernel
theorem dX8_law_51 : decode cX8_law 51 = .ok (.iinc 1 1, 3) := by decide +kernel
theorem dX8_law_54 : decode cX8_law 54 = .ok (.goto (-19), 3) := by decide +kernel
theorem dX8_law_57 : decode cX8_law 57 = .ok (.iconst 0, 1) := by decide +kernel
theorem dX8_law_58 : decode cX8_law 58 = .ok (.istore_n 1, 1) := by decide +kernel
theorem dX8_law_59 : decode cX8_law 59 = .ok (.iconst 0, 1) := by decide +kernel
theorem dX8_law_60 : decode cX8_law 60 = .ok (.istore_n 2, 1) := by decide +kernel
theorem dX8_law_61 : decode cX8_law 61 = .ok (.aload_n 0, 1) := by decide +kernel
theorem dX8_law_62 : decode cX8_law 62 = .ok (.invokevirtual 138, 3) := by decide +kernel
theorem dX8_law_65 : decode cX8_law 65 = .ok (.aload_n 0, 1) := by decide +kernel
theorem dX8_law_66 : decode cX8_law 66 = .ok (.getfield 135, 3) := by decide +kernel
theorem dX8_law_69 : decode cX8_law 69 = .ok (.bipush (-9), 2) := by decide +kernel
theorem dX8_law_71 : decode cX8_law 71 = .ok (.if_icmp .ne 150, 3) := by decide +kernel
theorem dX8_law_74 : decode cX8_law 74 = .ok (.aload_n 0, 1) := by decide +kernel
theorem dX8_law_75 : decode cX8_law 75 = .ok (.getfield 122, 3) := by decide +kernel
theorem dX8_law_78 : decode cX8_law 78 = .ok (.ifCond .eq 143, 3) := by decide +kernel
theorem dX8_law_81 : decode cX8_law 81 = .ok (.aload_n 0, 1) := by decide +kernel
theorem dX8_law_82 : decode cX8_law 82 = .ok (.getfield 122, 3) := by decide +kernel
theorem dX8_law_85 : decode cX8_law 85 = .ok (.istore_n 3, 1) := by decide +kernel
theorem dX8_law_86 : decode cX8_law 86 = .ok (.iload_n 3, 1) := by decide +kernel
theorem dX8_law_87 : decode cX8_law 87 = .ok (.bipush 6, 2) := by decide +kernel
theorem dX8_law_89 : decode cX8_law 89 = .ok (.if_icmp .ne 11, 3) := by decide +kernel
theorem dX8_law_92 : decode cX8_law 92 = .ok (.aload_n 0, 1) := by decide +kernel
theorem dX8_law_93 : decode cX8_law 93 = .ok (.iload_n 2, 1) := by decide +kernel
theorem dX8_law_94 : decode cX8_law 94 = .ok (.invokevirtual 149, 3) := by decide +kernel
theorem dX8_law_97 : decode cX8_law 97 = .ok (.goto 99, 3) := by decide +kernel
theorem dX8_law_100 : decode cX8_law 100 = .ok (.aload_n 0, 1) := by decide +kernel
theorem dX8_law_101 : decode cX8_law 101 = .ok (.iload_n 3, 1) := by decide +kernel
theorem dX8_law_102 : decode cX8_law 102 = .ok (.iconst 1, 1) := by decide +kernel
theorem dX8_law_103 : decode cX8_law 103 = .ok (.if_icmp .ne 15, 3) := by decide +kernel
theorem dX8_law_106 : decode cX8_law 106 = .ok (.iload_n 1, 1) := by decide +kernel
theorem dX8_law_107 : decode cX8_law 107 = .ok (.ifCond .ne 7, 3) := by decide +kernel
theorem dX8_law_110 : decode cX8_law 110 = .ok (.iconst 1, 1) := by decide +kernel
theorem dX8_law_111 : decode cX8_law 111 = .ok (.goto 32, 3) := by decide +kernel
theorem dX8_law_114 : decode cX8_law 114 = .ok (.iconst 0, 1) := by decide +kernel
theorem dX8_law_115 : decode cX8_law 115 = .ok (.goto 28, 3) := by decide +kernel
theorem dX8_law_118 : decode cX8_law 118 = .ok (.iload_n 3, 1) := by decide +kernel
theorem dX8_law_119 : decode cX8_law 119 = .ok (.iconst 2, 1) := by decide +kernel
theorem dX8_law_120 : decode cX8_law 120 = .ok (.if_icmp .eq 18, 3) := by decide +kernel
theorem dX8_law_123 : decode cX8_law 123 = .ok (.iload_n 3, 1) := by decide +kernel
theorem dX8_law_124 : decode cX8_law 124 = .ok (.iconst 4, 1) := by decide +kernel
theorem dX8_law_125 : decode cX8_law 125 = .ok (.if_icmp .eq 13, 3) := by decide +kernel
theorem dX8_law_128 : decode cX8_law 128 = .ok (.iload_n 3, 1) := by decide +kernel
theorem dX8_law_129 : decode cX8_law 129 = .ok (.iconst 5, 1) := by decide +kernel
theorem dX8_law_130 : decode cX8_law 130 = .ok (.if_icmp .ne 12, 3) := by decide +kernel
theorem dX8_law_133 : decode cX8_law 133 = .ok (.iload_n 2, 1) := by decide +kernel
theorem dX8_law_134 : decode cX8_law 134 = .ok (.iconst 2, 1) := by decide +kernel
theorem dX8_law_135 : decode cX8_law 135 = .ok (.if_icmp .ge 7, 3) := by decide +kernel
theorem dX8_law_138 : decode cX8_law 138 = .ok (.iconst 1, 1) := by decide +kernel
theorem dX8_law_139 : decode cX8_law 139 = .ok (.goto 4, 3) := by decide +kernel
theorem dX8_law_142 : decode cX8_law 142 = .ok (.iconst 0, 1) := by decide +kernel
theorem dX8_law_143 : decode cX8_law 143 = .ok (.invokevirtual 141, 3) := by decide +kernel
theorem dX8_law_146 : decode cX8_law 146 = .ok (.pop, 1) := by decide +kernel
theorem dX8_law_147 : decode cX8_law 147 = .ok (.iload_n 3, 1) := by decide +kernel
theorem dX8_law_148 : decode cX8_law 148 = .ok (.iconst 1, 1) := by decide +kernel
theorem dX8_law_149 : decode cX8_law 149 = .ok (.if_icmp .ne 20, 3) := by decide +kernel
theorem dX8_law_152 : decode cX8_law 152 = .ok (.aload_n 0, 1) := by decide +kernel
theorem dX8_law_153 : decode cX8_law 153 = .ok (.getfield 7, 3) := by decide +kernel
theorem dX8_law_156 : decode cX8_law 156 = .ok (.iconst 1, 1) := by decide +kernel
theorem dX8_law_157 : decode cX8_law 157 = .ok (.aload_n 0, 1) := by decide +kernel
theorem dX8_law_158 : decode cX8_law 158 = .ok (.bipush 10, 2) := by decide +kernel
theorem dX8_law_160 : decode cX8_law 160 = .ok (.bipush 60, 2) := by decide +kernel
theorem dX8_law_162 : decode cX8_law 162 = .ok (.invokevirtual 145, 3) := by decide +kernel
theorem dX8_law_165 : decode cX8_law 165 = .ok (.iastore, 1) := by decide +kernel
theorem dX8_law_166 : decode cX8_law 166 = .ok (.goto 30, 3) := by decide +kernel
theorem dX8_law_169 : decode cX8_law 169 = .ok (.iload_n 3, 1) := by decide +kernel
theorem dX8_law_170 : decode cX8_law 170 = .ok (.iconst 2, 1) := by decide +kernel
theorem dX8_law_171 : decode cX8_law 171 = .ok (.if_icmp .ne 10, 3) := by decide +kernel
theorem dX8_law_174 : decode cX8_law 174 = .ok (.aload_n 0, 1) := by decide +kernel
theorem dX8_law_175 : decode cX8_law 175 = .ok (.invokevirtual 152, 3) := by decide +kernel
theorem dX8_law_178 : decode cX8_law 178 = .ok (.goto 18, 3) := by decide +kernel
theorem dX8_law_181 : decode cX8_law 181 = .ok (.iload_n 3, 1) := by decide +kernel
theorem dX8_law_182 : decode cX8_law 182 = .ok (.iconst 4, 1) := by decide +kernel
theorem dX8_law_183 : decode cX8_law 183 = .ok (.if_icmp .ne 10, 3) := by decide +kernel
theorem dX8_law_186 : decode cX8_law 186 = .ok (.aload_n 0, 1) := by decide +kernel
theorem dX8_law_187 : decode cX8_law 187 = .ok (.invokevirtual 155, 3) := by decide +kernel
theorem dX8_law_190 : decode cX8_law 190 = .ok (.goto 6, 3) := by decide +kernel
theorem dX8_law_193 : decode cX8_law 193 = .ok (.iinc 2 1, 3) := by decide +kernel
theorem dX8_law_196 : decode cX8_law 196 = .ok (.aload_n 0, 1) := by decide +kernel
theorem dX8_law_197 : decode cX8_law 197 = .ok (.aload_n 0, 1) := by decide +kernel
theorem dX8_law_198 : decode cX8_law 198 = .ok (.getfield 122, 3) := by decide +kernel
theorem dX8_law_201 : decode cX8_law 201 = .ok (.bipush 13, 2) := by decide +kernel
theorem dX8_law_203 : decode cX8_law 203 = .ok (.if_icmp .ne 7, 3) := by decide +kernel
theorem dX8_law_206 : decode cX8_law 206 = .ok (.iconst 1, 1) := by decide +kernel
theorem dX8_law_207 : decode cX8_law 207 = .ok (.goto 4, 3) := by decide +kernel
theorem dX8_law_210 : decode cX8_law 210 = .ok (.iconst 0, 1) := by decide +kernel
theorem dX8_law_211 : decode cX8_law 211 = .ok (.invokevirtual 141, 3) := by decide +kernel
theorem dX8_law_214 : decode cX8_law 214 = .ok (.pop, 1) := by decide +kernel
theorem dX8_law_215 : decode cX8_law 215 = .ok (.iinc 1 1, 3) := by decide +kernel
theorem dX8_law_218 : decode cX8_law 218 = .ok (.goto (-153), 3) := by decide +kernel
theorem dX8_law_221 : decode cX8_law 221 = .ok (.aload_n 0, 1) := by decide +kernel
theorem dX8_law_222 : decode cX8_law 222 = .ok (.getfield 135, 3) := by decide +kernel
theorem dX8_law_225 : decode cX8_law 225 = .ok (.bipush (-9), 2) := by decide +kernel
theorem dX8_law_227 : decode cX8_law 227 = .ok (.if_icmp .eq 11, 3) := by decide +kernel
theorem dX8_law_230 : decode cX8_law 230 = .ok (.bipush (-10), 2) := by decide +kernel
theorem dX8_law_232 : decode cX8_law 232 = .ok (.aload_n 0, 1) := by decide +kernel
theorem dX8_law_233 : decode cX8_law 233 = .ok (.getfield 135, 3) := by decide +kernel
theorem dX8_law_236 : decode cX8_law 236 = .ok (.isub, 1) := by decide +kernel
theorem dX8_law_237 : decode cX8_law 237 = .ok (.ireturn, 1) := by decide +kernel
theorem dX8_law_238 : decode cX8_law 238 = .ok (.aload_n 0, 1) := by decide +kernel
theorem dX8_law_239 : decode cX8_law 239 = .ok (.getfield 7, 3) := by decide +kernel
theorem dX8_law_242 : decode cX8_law 242 = .ok (.iconst 0, 1) := by decide +kernel
theorem dX8_law_243 : decode cX8_law 243 = .ok (.aload_n 0, 1) := by decide +kernel
theorem dX8_law_244 : decode cX8_law 244 = .ok (.getfield 7, 3) := by decide +kernel
theorem dX8_law_247 : decode cX8_law 247 = .ok (.iconst 1, 1) := by decide +kernel
theorem dX8_law_248 : decode cX8_law 248 = .ok (.iaload, 1) := by decide +kernel
theorem dX8_law_249 : decode cX8_law 249 = .ok (.iastore, 1) := by decide +kernel
theorem dX8_law_250 : decode cX8_law 250 = .ok (.aload_n 0, 1) := by decide +kernel
theorem dX8_law_251 : decode cX8_law 251 = .ok (.getfield 16, 3) := by decide +kernel
theorem dX8_law_254 : decode cX8_law 254 = .ok (.iconst 0, 1) := by decide +kernel
theorem dX8_law_255 : decode cX8_law 255 = .ok (.aload_n 0, 1) := by decide +kernel
theorem dX8_law_256 : decode cX8_law 256 = .ok (.getfield 16, 3) := by decide +kernel
theorem dX8_law_259 : decode cX8_law 259 = .ok (.iconst 2, 1) := by decide +kernel
theorem dX8_law_260 : decode cX8_law 260 = .ok (.iaload, 1) := by decide +kernel
theorem dX8_law_261 : decode cX8_law 261 = .ok (.iastore, 1) := by decide +kernel
theorem dX8_law_262 : decode cX8_law 262 = .ok (.aload_n 0, 1) := by decide +kernel
theorem dX8_law_263 : decode cX8_law 263 = .ok (.getfield 16, 3) := by decide +kernel
theorem dX8_law_266 : decode cX8_law 266 = .ok (.iconst 1, 1) := by decide +kernel
theorem dX8_law_267 : decode cX8_law 267 = .ok (.aload_n 0, 1) := by decide +kernel
theorem dX8_law_268 : decode cX8_law 268 = .ok (.getfield 16, 3) := by decide +kernel
theorem dX8_law_271 : decode cX8_law 271 = .ok (.iconst 3, 1) := by decide +kernel
theorem dX8_law_272 : decode cX8_law 272 = .ok (.iaload, 1) := by decide +kernel
theorem dX8_law_273 : decode cX8_law 273 = .ok (.iastore, 1) := by decide +kernel
theorem dX8_law_274 : decode cX8_law 274 = .ok (.iconst 0, 1) := by decide +kernel
theorem dX8_law_275 : decode cX8_law 275 = .ok (.istore_n 3, 1) := by decide +kernel
theorem dX8_law_276 : decode cX8_law 276 = .ok (.iload_n 3, 1) := by decide +kernel
theorem dX8_law_277 : decode cX8_law 277 = .ok (.bipush 60, 2) := by decide +kernel
theorem dX8_law_279 : decode cX8_law 279 = .ok (.if_icmp .ge 24, 3) := by decide +kernel
theorem dX8_law_282 : decode cX8_law 282 = .ok (.aload_n 0, 1) := by decide +kernel
theorem dX8_law_283 : decode cX8_law 283 = .ok (.getfield 13, 3) := by decide +kernel
theorem dX8_law_286 : decode cX8_law 286 = .ok (.iload_n 3, 1) := by decide +kernel
theorem dX8_law_287 : decode cX8_law 287 = .ok (.aload_n 0, 1) := by decide +kernel
theorem dX8_law_288 : decode cX8_law 288 = .ok (.getfield 13, 3) := by decide +kernel
theorem dX8_law_291 : decode cX8_law 291 = .ok (.bipush 60, 2) := by decide +kernel
theorem dX8_law_293 : decode cX8_law 293 = .ok (.iload_n 3, 1) := by decide +kernel
theorem dX8_law_294 : decode cX8_law 294 = .ok (.iadd, 1) := by decide +kernel
theorem dX8_law_295 : decode cX8_law 295 = .ok (.iaload, 1) := by decide +kernel
theorem dX8_law_296 : decode cX8_law 296 = .ok (.iastore, 1) := by decide +kernel
theorem dX8_law_297 : decode cX8_law 297 = .ok (.iinc 3 1, 3) := by decide +kernel
theorem dX8_law_300 : decode cX8_law 300 = .ok (.goto (-24), 3) := by decide +kernel
theorem dX8_law_303 : decode cX8_law 303 = .ok (.iconst 0, 1) := by decide +kernel
theorem dX8_law_304 : decode cX8_law 304 = .ok (.istore_n 3, 1) := by decide +kernel
theorem dX8_law_305 : decode cX8_law 305 = .ok (.iload_n 3, 1) := by decide +kernel
theorem dX8_law_306 : decode cX8_law 306 = .ok (.bipush 8, 2) := by decide +kernel
theorem dX8_law_308 : decode cX8_law 308 = .ok (.if_icmp .ge 84, 3) := by decide +kernel
theorem dX8_law_311 : decode cX8_law 311 = .ok (.aload_n 0, 1) := by decide +kernel
theorem dX8_law_312 : decode cX8_law 312 = .ok (.getfield 19, 3) := by decide +kernel
theorem dX8_law_315 : decode cX8_law 315 = .ok (.iload_n 3, 1) := by decide +kernel
theorem dX8_law_316 : decode cX8_law 316 = .ok (.aload_n 0, 1) := by decide +kernel
theorem dX8_law_317 : decode cX8_law 317 = .ok (.getfield 19, 3) := by decide +kernel
theorem dX8_law_320 : decode cX8_law 320 = .ok (.bipush 8, 2) := by decide +kernel
theorem dX8_law_322 : decode cX8_law 322 = .ok (.iload_n 3, 1) := by decide +kernel
theorem dX8_law_323 : decode cX8_law 323 = .ok (.iadd, 1) := by decide +kernel
theorem dX8_law_324 : decode cX8_law 324 = .ok (.iaload, 1) := by decide +kernel
theorem dX8_law_325 : decode cX8_law 325 = .ok (.iastore, 1) := by decide +kernel
theorem dX8_law_326 : decode cX8_law 326 = .ok (.aload_n 0, 1) := by decide +kernel
theorem dX8_law_327 : decode cX8_law 327 = .ok (.getfield 22, 3) := by decide +kernel
theorem dX8_law_330 : decode cX8_law 330 = .ok (.iload_n 3, 1) := by decide +kernel
theorem dX8_law_331 : decode cX8_law 331 = .ok (.aload_n 0, 1) := by decide +kernel
theorem dX8_law_332 : decode cX8_law 332 = .ok (.getfield 22, 3) := by decide +kernel
theorem dX8_law_335 : decode cX8_law 335 = .ok (.bipush 8, 2) := by decide +kernel
theorem dX8_law_337 : decode cX8_law 337 = .ok (.iload_n 3, 1) := by decide +kernel
theorem dX8_law_338 : decode cX8_law 338 = .ok (.iadd, 1) := by decide +kernel
theorem dX8_law_339 : decode cX8_law 339 = .ok (.iaload, 1) := by decide +kernel
theorem dX8_law_340 : decode cX8_law 340 = .ok (.iastore, 1) := by decide +kernel
theorem dX8_law_341 : decode cX8_law 341 = .ok (.aload_n 0, 1) := by decide +kernel
theorem dX8_law_342 : decode cX8_law 342 = .ok (.getfield 25, 3) := by decide +kernel
theorem dX8_law_345 : decode cX8_law 345 = .ok (.iload_n 3, 1) := by decide +kernel
theorem dX8_law_346 : decode cX8_law 346 = .ok (.aload_n 0, 1) := by decide +kernel
theorem dX8_law_347 : decode cX8_law 347 = .ok (.getfield 25, 3) := by decide +kernel
theorem dX8_law_350 : decode cX8_law 350 = .ok (.bipush 8, 2) := by decide +kernel
theorem dX8_law_352 : decode cX8_law 352 = .ok (.iload_n 3, 1) := by decide +kernel
theorem dX8_law_353 : decode cX8_law 353 = .ok (.iadd, 1) := by decide +kernel
theorem dX8_law_354 : decode cX8_law 354 = .ok (.iaload, 1) := by decide +kernel
theorem dX8_law_355 : decode cX8_law 355 = .ok (.iastore, 1) := by decide +kernel
theorem dX8_law_356 : decode cX8_law 356 = .ok (.aload_n 0, 1) := by decide +kernel
theorem dX8_law_357 : decode cX8_law 357 = .ok (.getfield 28, 3) := by decide +kernel
theorem dX8_law_360 : decode cX8_law 360 = .ok (.iload_n 3, 1) := by decide +kernel
theorem dX8_law_361 : decode cX8_law 361 = .ok (.aload_n 0, 1) := by decide +kernel
theorem dX8_law_362 : decode cX8_law 362 = .ok (.getfield 28, 3) := by decide +kernel
theorem dX8_law_365 : decode cX8_law 365 = .ok (.bipush 8, 2) := by decide +kernel
theorem dX8_law_367 : decode cX8_law 367 = .ok (.iload_n 3, 1) := by decide +kernel
theorem dX8_law_368 : decode cX8_law 368 = .ok (.iadd, 1) := by decide +kernel
theorem dX8_law_369 : decode cX8_law 369 = .ok (.iaload, 1) := by decide +kernel
theorem dX8_law_370 : decode cX8_law 370 = .ok (.iastore, 1) := by decide +kernel
theorem dX8_law_371 : decode cX8_law 371 = .ok (.aload_n 0, 1) := by decide +kernel
theorem dX8_law_372 : decode cX8_law 372 = .ok (.getfield 31, 3) := by decide +kernel
theorem dX8_law_375 : decode cX8_law 375 = .ok (.iload_n 3, 1) := by decide +kernel
theorem dX8_law_376 : decode cX8_law 376 = .ok (.aload_n 0, 1) := by decide +kernel
theorem dX8_law_377 : decode cX8_law 377 = .ok (.getfield 31, 3) := by decide +kernel
theorem dX8_law_380 : decode cX8_law 380 = .ok (.bipush 8, 2) := by decide +kernel
theorem dX8_law_382 : decode cX8_law 382 = .ok (.iload_n 3, 1) := by decide +kernel
theorem dX8_law_383 : decode cX8_law 383 = .ok (.iadd, 1) := by decide +kernel
theorem dX8_law_384 : decode cX8_law 384 = .ok (.iaload, 1) := by decide +kernel
theorem dX8_law_385 : decode cX8_law 385 = .ok (.iastore, 1) := by decide +kernel
theorem dX8_law_386 : decode cX8_law 386 = .ok (.iinc 3 1, 3) := by decide +kernel
theorem dX8_law_389 : decode cX8_law 389 = .ok (.goto (-84), 3) := by decide +kernel
theorem dX8_law_392 : decode cX8_law 392 = .ok (.aload_n 0, 1) := by decide +kernel
theorem dX8_law_393 : decode cX8_law 393 = .ok (.invokevirtual 103, 3) := by decide +kernel
theorem dX8_law_396 : decode cX8_law 396 = .ok (.aload_n 0, 1) := by decide +kernel
theorem dX8_law_397 : decode cX8_law 397 = .ok (.getfield 45, 3) := by decide +kernel
theorem dX8_law_400 : decode cX8_law 400 = .ok (.iconst 0, 1) := by decide +kernel
theorem dX8_law_401 : decode cX8_law 401 = .ok (.iconst 0, 1) := by decide +kernel
theorem dX8_law_402 : decode cX8_law 402 = .ok (.bastore, 1) := by decide +kernel
theorem dX8_law_403 : decode cX8_law 403 = .ok (.aload_n 0, 1) := by decide +kernel
theorem dX8_law_404 : decode cX8_law 404 = .ok (.getfield 45, 3) := by decide +kernel
theorem dX8_law_407 : decode cX8_law 407 = .ok (.iconst 1, 1) := by decide +kernel
theorem dX8_law_408 : decode cX8_law 408 = .ok (.iconst 0, 1) := by decide +kernel
theorem dX8_law_409 : decode cX8_law 409 = .ok (.bastore, 1) := by decide +kernel
theorem dX8_law_410 : decode cX8_law 410 = .ok (.aload_n 0, 1) := by decide +kernel
theorem dX8_law_411 : decode cX8_law 411 = .ok (.iconst 0, 1) := by decide +kernel
theorem dX8_law_412 : decode cX8_law 412 = .ok (.putfield 110, 3) := by decide +kernel
theorem dX8_law_415 : decode cX8_law 415 = .ok (.iload_n 1, 1) := by decide +kernel
theorem dX8_law_416 : decode cX8_law 416 = .ok (.ireturn, 1) := by decide +kernel
theorem dX8_begin_0 : decode cX8_begin 0 = .ok (.iconst 0, 1) := by decide +kernel
theorem dX8_begin_1 : decode cX8_begin 1 = .ok (.istore_n 1, 1) := by decide +kernel
theorem dX8_begin_2 : decode cX8_begin 2 = .ok (.iload_n 1, 1) := by decide +kernel
theorem dX8_begin_3 : decode cX8_begin 3 = .ok (.bipush 40, 2) := by decide +kernel
theorem dX8_begin_5 : decode cX8_begin 5 = .ok (.if_icmp .ge 16, 3) := by decide +kernel
theorem dX8_begin_8 : decode cX8_begin 8 = .ok (.aload_n 0, 1) := by decide +kernel
theorem dX8_begin_9 : decode cX8_begin 9 = .ok (.getfield 38, 3) := by decide +kernel
theorem dX8_begin_12 : decode cX8_begin 12 = .ok (.iload_n 1, 1) := by decide +kernel
theorem dX8_begin_13 : decode cX8_begin 13 = .ok (.iconst 0, 1) := by decide +kernel
theorem dX8_begin_14 : decode cX8_begin 14 = .ok (.iastore, 1) := by decide +kernel
theorem dX8_begin_15 : decode cX8_begin 15 = .ok (.iinc 1 1, 3) := by decide +kernel
theorem dX8_begin_18 : decode cX8_begin 18 = .ok (.goto (-16), 3) := by decide +kernel
theorem dX8_begin_21 : decode cX8_begin 21 = .ok (.aload_n 0, 1) := by decide +kernel
theorem dX8_begin_22 : decode cX8_begin 22 = .ok (.getfield 38, 3) := by decide +kernel
theorem dX8_begin_25 : decode cX8_begin 25 = .ok (.iconst 3, 1) := by decide +kernel
theorem dX8_begin_26 : decode cX8_begin 26 = .ok (.bipush (-9), 2) := by decide +kernel
theorem dX8_begin_28 : decode cX8_begin 28 = .ok (.iastore, 1) := by decide +kernel
theorem dX8_begin_29 : decode cX8_begin 29 = .ok (.aload_n 0, 1) := by decide +kernel
theorem dX8_begin_30 : decode cX8_begin 30 = .ok (.getfield 38, 3) := by decide +kernel
theorem dX8_begin_33 : decode cX8_begin 33 = .ok (.bipush 8, 2) := by decide +kernel
theorem dX8_begin_35 : decode cX8_begin 35 = .ok (.bipush (-9), 2) := by decide +kernel
theorem dX8_begin_37 : decode cX8_begin 37 = .ok (.iastore, 1) := by decide +kernel
theorem dX8_begin_38 : decode cX8_begin 38 = .ok (.aload_n 0, 1) := by decide +kernel
theorem dX8_begin_39 : decode cX8_begin 39 = .ok (.getfield 38, 3) := by decide +kernel
theorem dX8_begin_42 : decode cX8_begin 42 = .ok (.bipush 18, 2) := by decide +kernel
theorem dX8_begin_44 : decode cX8_begin 44 = .ok (.bipush (-9), 2) := by decide +kernel
theorem dX8_begin_46 : decode cX8_begin 46 = .ok (.iastore, 1) := by decide +kernel
theorem dX8_begin_47 : decode cX8_begin 47 = .ok (.aload_n 0, 1) := by decide +kernel
theorem dX8_begin_48 : decode cX8_begin 48 = .ok (.getfield 38, 3) := by decide +kernel
theorem dX8_begin_51 : decode cX8_begin 51 = .ok (.bipush 19, 2) := by decide +kernel
theorem dX8_begin_53 : decode cX8_begin 53 = .ok (.bipush (-9), 2) := by decide +kernel
theorem dX8_begin_55 : decode cX8_begin 55 = .ok (.iastore, 1) := by decide +kernel
theorem dX8_begin_56 : decode cX8_begin 56 = .ok (.iconst 0, 1) := by decide +kernel
theorem dX8_begin_57 : decode cX8_begin 57 = .ok (.istore_n 1, 1) := by decide +kernel
theorem dX8_begin_58 : decode cX8_begin 58 = .ok (.iload_n 1, 1) := by decide +kernel
theorem dX8_begin_59 : decode cX8_begin 59 = .ok (.aload_n 0, 1) := by decide +kernel
theorem dX8_begin_60 : decode cX8_begin 60 = .ok (.getfield 158, 3) := by decide +kernel
theorem dX8_begin_63 : decode cX8_begin 63 = .ok (.if_icmp .ge 24, 3) := by decide +kernel
theorem dX8_begin_66 : decode cX8_begin 66 = .ok (.aload_n 0, 1) := by decide +kernel
theorem dX8_begin_67 : decode cX8_begin 67 = .ok (.getfield 38, 3) := by decide +kernel
theorem dX8_begin_70 : decode cX8_begin 70 = .ok (.bipush 20, 2) := by decide +kernel
theorem dX8_begin_72 : decode cX8_begin 72 = .ok (.iload_n 1, 1) := by decide +kernel
theorem dX8_begin_73 : decode cX8_begin 73 = .ok (.iadd, 1) := by decide +kernel
theorem dX8_begin_74 : decode cX8_begin 74 = .ok (.aload_n 0, 1) := by decide +kernel
theorem dX8_begin_75 : decode cX8_begin 75 = .ok (.getfield 55, 3) := by decide +kernel
theorem dX8_begin_78 : decode cX8_begin 78 = .ok (.iload_n 1, 1) := by decide +kernel
theorem dX8_begin_79 : decode cX8_begin 79 = .ok (.iaload, 1) := by decide +kernel
theorem dX8_begin_80 : decode cX8_begin 80 = .ok (.iastore, 1) := by decide +kernel
theorem dX8_begin_81 : decode cX8_begin 81 = .ok (.iinc 1 1, 3) := by decide +kernel
theorem dX8_begin_84 : decode cX8_begin 84 = .ok (.goto (-26), 3) := by decide +kernel
theorem dX8_begin_87 : decode cX8_begin 87 = .ok (.aload_n 0, 1) := by decide +kernel
theorem dX8_begin_88 : decode cX8_begin 88 = .ok (.getfield 41, 3) := by decide +kernel
theorem dX8_begin_91 : decode cX8_begin 91 = .ok (.iconst 0, 1) := by decide +kernel
theorem dX8_begin_92 : decode cX8_begin 92 = .ok (.lconst 0, 1) := by decide +kernel
theorem dX8_begin_93 : decode cX8_begin 93 = .ok (.lastore, 1) := by decide +kernel
theorem dX8_begin_94 : decode cX8_begin 94 = .ok (.return_, 1) := by decide +kernel
theorem dX8_kindNow_0 : decode cX8_kindNow 0 = .ok (.aload_n 0, 1) := by decide +kernel
theorem dX8_kindNow_1 : decode cX8_kindNow 1 = .ok (.getfield 41, 3) := by decide +kernel
theorem dX8_kindNow_4 : decode cX8_kindNow 4 = .ok (.iconst 0, 1) := by decide +kernel
theorem dX8_kindNow_5 : decode cX8_kindNow 5 = .ok (.laload, 1) := by decide +kernel
theorem dX8_kindNow_6 : decode cX8_kindNow 6 = .ok (.iload_n 1, 1) := by decide +kernel
theorem dX8_kindNow_7 : decode cX8_kindNow 7 = .ok (.lshr, 1) := by decide +kernel
theorem dX8_kindNow_8 : decode cX8_kindNow 8 = .ok (.lconst 1, 1) := by decide +kernel
theorem dX8_kindNow_9 : decode cX8_kindNow 9 = .ok (.land, 1) := by decide +kernel
theorem dX8_kindNow_10 : decode cX8_kindNow 10 = .ok (.lconst 1, 1) := by decide +kernel
theorem dX8_kindNow_11 : decode cX8_kindNow 11 = .ok (.lcmp, 1) := by decide +kernel
theorem dX8_kindNow_12 : decode cX8_kindNow 12 = .ok (.ifCond .ne 7, 3) := by decide +kernel
theorem dX8_kindNow_15 : decode cX8_kindNow 15 = .ok (.iconst 2, 1) := by decide +kernel
theorem dX8_kindNow_16 : decode cX8_kindNow 16 = .ok (.goto 9, 3) := by decide +kernel
theorem dX8_kindNow_19 : decode cX8_kindNow 19 = .ok (.aload_n 0, 1) := by decide +kernel
theorem dX8_kindNow_20 : decode cX8_kindNow 20 = .ok (.getfield 13, 3) := by decide +kernel
theorem dX8_kindNow_23 : decode cX8_kindNow 23 = .ok (.iload_n 1, 1) := by decide +kernel
theorem dX8_kindNow_24 : decode cX8_kindNow 24 = .ok (.iaload, 1) := by decide +kernel
theorem dX8_kindNow_25 : decode cX8_kindNow 25 = .ok (.ireturn, 1) := by decide +kernel
theorem dX8_isDay_0 : decode cX8_isDay 0 = .ok (.iload_n 1, 1) := by decide +kernel
theorem dX8_isDay_1 : decode cX8_isDay 1 = .ok (.iconst 0, 1) := by decide +kernel
theorem dX8_isDay_2 : decode cX8_isDay 2 = .ok (.aload_n 0, 1) := by decide +kernel
theorem dX8_isDay_3 : decode cX8_isDay 3 = .ok (.getfield 7, 3) := by decide +kernel
theorem dX8_isDay_6 : decode cX8_isDay 6 = .ok (.iconst 0, 1) := by decide +kernel
theorem dX8_isDay_7 : decode cX8_isDay 7 = .ok (.iaload, 1) := by decide +kernel
theorem dX8_isDay_8 : decode cX8_isDay 8 = .ok (.iconst 1, 1) := by decide +kernel
theorem dX8_isDay_9 : decode cX8_isDay 9 = .ok (.isub, 1) := by decide +kernel
theorem dX8_isDay_10 : decode cX8_isDay 10 = .ok (.invokestatic 106, 3) := by decide +kernel
theorem dX8_isDay_13 : decode cX8_isDay 13 = .ok (.ireturn, 1) := by decide +kernel
theorem dX8_isBill_0 : decode cX8_isBill 0 = .ok (.iload_n 0, 1) := by decide +kernel
theorem dX8_isBill_1 : decode cX8_isBill 1 = .ok (.iconst 0, 1) := by decide +kernel
theorem dX8_isBill_2 : decode cX8_isBill 2 = .ok (.iconst 1, 1) := by decide +kernel
theorem dX8_isBill_3 : decode cX8_isBill 3 = .ok (.invokestatic 106, 3) := by decide +kernel
theorem dX8_isBill_6 : decode cX8_isBill 6 = .ok (.ireturn, 1) := by decide +kernel
theorem dX8_day_0 : decode cX8_day 0 = .ok (.aload_n 0, 1) := by decide +kernel
theorem dX8_day_1 : decode cX8_day 1 = .ok (.iload_n 1, 1) := by decide +kernel
theorem dX8_day_2 : decode cX8_day 2 = .ok (.invokevirtual 161, 3) := by decide +kernel
theorem dX8_day_5 : decode cX8_day 5 = .ok (.ifCond .eq 11, 3) := by decide +kernel
theorem dX8_day_8 : decode cX8_day 8 = .ok (.aload_n 0, 1) := by decide +kernel
theorem dX8_day_9 : decode cX8_day 9 = .ok (.iload_n 1, 1) := by decide +kernel
theorem dX8_day_10 : decode cX8_day 10 = .ok (.invokevirtual 165, 3) := by decide +kernel
theorem dX8_day_13 : decode cX8_day 13 = .ok (.goto 4, 3) := by decide +kernel
theorem dX8_day_16 : decode cX8_day 16 = .ok (.iconst (-1), 1) := by decide +kernel
theorem dX8_day_17 : decode cX8_day 17 = .ok (.ireturn, 1) := by decide +kernel
theorem dX8_days_0 : decode cX8_days 0 = .ok (.iload_n 1, 1) := by decide +kernel
theorem dX8_days_1 : decode cX8_days 1 = .ok (.iconst 0, 1) := by decide +kernel
theorem dX8_days_2 : decode cX8_days 2 = .ok (.iconst 3, 1) := by decide +kernel
theorem dX8_days_3 : decode cX8_days 3 = .ok (.invokestatic 106, 3) := by decide +kernel
theorem dX8_days_6 : decode cX8_days 6 = .ok (.ifCond .eq 19, 3) := by decide +kernel
theorem dX8_days_9 : decode cX8_days 9 = .ok (.aload_n 0, 1) := by decide +kernel
theorem dX8_days_10 : decode cX8_days 10 = .ok (.iload_n 2, 1) := by decide +kernel
theorem dX8_days_11 : decode cX8_days 11 = .ok (.invokevirtual 161, 3) := by decide +kernel
theorem dX8_days_14 : decode cX8_days 14 = .ok (.ifCond .eq 11, 3) := by decide +kernel
theorem dX8_days_17 : decode cX8_days 17 = .ok (.aload_n 0, 1) := by decide +kernel
theorem dX8_days_18 : decode cX8_days 18 = .ok (.iload_n 3, 1) := by decide +kernel
theorem dX8_days_19 : decode cX8_days 19 = .ok (.invokevirtual 161, 3) := by decide +kernel
theorem dX8_days_22 : decode cX8_days 22 = .ok (.ifCond .ne 5, 3) := by decide +kernel
theorem dX8_days_25 : decode cX8_days 25 = .ok (.iconst (-1), 1) := by decide +kernel
theorem dX8_days_26 : decode cX8_days 26 = .ok (.ireturn, 1) := by decide +kernel
theorem dX8_days_27 : decode cX8_days 27 = .ok (.iconst 0, 1) := by decide +kernel
theorem dX8_days_28 : decode cX8_days 28 = .ok (.istore 4, 2) := by decide +kernel
theorem dX8_days_30 : decode cX8_days 30 = .ok (.iload_n 2, 1) := by decide +kernel
theorem dX8_days_31 : decode cX8_days 31 = .ok (.istore 5, 2) := by decide +kernel
theorem dX8_days_33 : decode cX8_days 33 = .ok (.iload 5, 2) := by decide +kernel
theorem dX8_days_35 : decode cX8_days 35 = .ok (.iload_n 3, 1) := by decide +kernel
theorem dX8_days_36 : decode cX8_days 36 = .ok (.if_icmp .gt 29, 3) := by decide +kernel
theorem dX8_days_39 : decode cX8_days 39 = .ok (.iload 4, 2) := by decide +kernel
theorem dX8_days_41 : decode cX8_days 41 = .ok (.aload_n 0, 1) := by decide +kernel
theorem dX8_days_42 : decode cX8_days 42 = .ok (.iload 5, 2) := by decide +kernel
theorem dX8_days_44 : decode cX8_days 44 = .ok (.invokevirtual 165, 3) := by decide +kernel
theorem dX8_days_47 : decode cX8_days 47 = .ok (.iload_n 1, 1) := by decide +kernel
theorem dX8_days_48 : decode cX8_days 48 = .ok (.if_icmp .ne 7, 3) := by decide +kernel
theorem dX8_days_51 : decode cX8_days 51 = .ok (.iconst 1, 1) := by decide +kernel
theorem dX8_days_52 : decode cX8_days 52 = .ok (.goto 4, 3) := by decide +kernel
theorem dX8_days_55 : decode cX8_days 55 = .ok (.iconst 0, 1) := by decide +kernel
theorem dX8_days_56 : decode cX8_days 56 = .ok (.iadd, 1) := by decide +kernel
theorem dX8_days_57 : decode cX8_days 57 = .ok (.istore 4, 2) := by decide +kernel
theorem dX8_days_59 : decode cX8_days 59 = .ok (.iinc 5 1, 3) := by decide +kernel
theorem dX8_days_62 : decode cX8_days 62 = .ok (.goto (-29), 3) := by decide +kernel
theorem dX8_days_65 : decode cX8_days 65 = .ok (.iload 4, 2) := by decide +kernel
theorem dX8_days_67 : decode cX8_days 67 = .ok (.ireturn, 1) := by decide +kernel
theorem dX8_isStep_0 : decode cX8_isStep 0 = .ok (.iload_n 1, 1) := by decide +kernel
theorem dX8_isStep_1 : decode cX8_isStep 1 = .ok (.invokestatic 169, 3) := by decide +kernel
theorem dX8_isStep_4 : decode cX8_isStep 4 = .ok (.ifCond .eq 23, 3) := by decide +kernel
theorem dX8_isStep_7 : decode cX8_isStep 7 = .ok (.iload_n 2, 1) := by decide +kernel
theorem dX8_isStep_8 : decode cX8_isStep 8 = .ok (.iconst 0, 1) := by decide +kernel
theorem dX8_isStep_9 : decode cX8_isStep 9 = .ok (.aload_n 0, 1) := by decide +kernel
theorem dX8_isStep_10 : decode cX8_isStep 10 = .ok (.getfield 16, 3) := by decide +kernel
theorem dX8_isStep_13 : decode cX8_isStep 13 = .ok (.iload_n 1, 1) := by decide +kernel
theorem dX8_isStep_14 : decode cX8_isStep 14 = .ok (.iaload, 1) := by decide +kernel
theorem dX8_isStep_15 : decode cX8_isStep 15 = .ok (.iconst 1, 1) := by decide +kernel
theorem dX8_isStep_16 : decode cX8_isStep 16 = .ok (.isub, 1) := by decide +kernel
theorem dX8_isStep_17 : decode cX8_isStep 17 = .ok (.invokestatic 106, 3) := by decide +kernel
theorem dX8_isStep_20 : decode cX8_isStep 20 = .ok (.ifCond .eq 7, 3) := by decide +kernel
theorem dX8_isStep_23 : decode cX8_isStep 23 = .ok (.iconst 1, 1) := by decide +kernel
theorem dX8_isStep_24 : decode cX8_isStep 24 = .ok (.goto 4, 3) := by decide +kernel
theorem dX8_isStep_27 : decode cX8_isStep 27 = .ok (.iconst 0, 1) := by decide +kernel
theorem dX8_isStep_28 : decode cX8_isStep 28 = .ok (.ireturn, 1) := by decide +kernel
theorem dX8_step_0 : decode cX8_step 0 = .ok (.aload_n 0, 1) := by decide +kernel
theorem dX8_step_1 : decode cX8_step 1 = .ok (.iload_n 1, 1) := by decide +kernel
theorem dX8_step_2 : decode cX8_step 2 = .ok (.iload_n 2, 1) := by decide +kernel
theorem dX8_step_3 : decode cX8_step 3 = .ok (.invokevirtual 172, 3) := by decide +kernel
theorem dX8_step_6 : decode cX8_step 6 = .ok (.ifCond .ne 5, 3) := by decide +kernel
theorem dX8_step_9 : decode cX8_step 9 = .ok (.iconst (-1), 1) := by decide +kernel
theorem dX8_step_10 : decode cX8_step 10 = .ok (.ireturn, 1) := by decide +kernel
theorem dX8_step_11 : decode cX8_step 11 = .ok (.iconst 4, 1) := by decide +kernel
theorem dX8_step_12 : decode cX8_step 12 = .ok (.iload_n 1, 1) := by decide +kernel
theorem dX8_step_13 : decode cX8_step 13 = .ok (.imul, 1) := by decide +kernel
theorem dX8_step_14 : decode cX8_step 14 = .ok (.iload_n 2, 1) := by decide +kernel
theorem dX8_step_15 : decode cX8_step 15 = .ok (.iadd, 1) := by decide +kernel
theorem dX8_step_16 : decode cX8_step 16 = .ok (.istore 4, 2) := by decide +kernel
theorem dX8_step_18 : decode cX8_step 18 = .ok (.iload_n 3, 1) := by decide +kernel
theorem dX8_step_19 : decode cX8_step 19 = .ok (.tableswitch 73 0 4 #[33, 41, 49, 57, 65], 33) := by decide +kernel
theorem dX8_step_52 : decode cX8_step 52 = .ok (.aload_n 0, 1) := by decide +kernel
theorem dX8_step_53 : decode cX8_step 53 = .ok (.getfield 19, 3) := by decide +kernel
theorem dX8_step_56 : decode cX8_step 56 = .ok (.iload 4, 2) := by decide +kernel
theorem dX8_step_58 : decode cX8_step 58 = .ok (.iaload, 1) := by decide +kernel
theorem dX8_step_59 : decode cX8_step 59 = .ok (.ireturn, 1) := by decide +kernel
theorem dX8_step_60 : decode cX8_step 60 = .ok (.aload_n 0, 1) := by decide +kernel
theorem dX8_step_61 : decode cX8_step 61 = .ok (.getfield 22, 3) := by decide +kernel
theorem dX8_step_64 : decode cX8_step 64 = .ok (.iload 4, 2) := by decide +kernel
theorem dX8_step_66 : decode cX8_step 66 = .ok (.iaload, 1) := by decide +kernel
theorem dX8_step_67 : decode cX8_step 67 = .ok (.ireturn, 1) := by decide +kernel
theorem dX8_step_68 : decode cX8_step 68 = .ok (.aload_n 0, 1) := by decide +kernel
theorem dX8_step_69 : decode cX8_step 69 = .ok (.getfield 25, 3) := by decide +kernel
theorem dX8_step_72 : decode cX8_step 72 = .ok (.iload 4, 2) := by decide +kernel
theorem dX8_step_74 : decode cX8_step 74 = .ok (.iaload, 1) := by decide +kernel
theorem dX8_step_75 : decode cX8_step 75 = .ok (.ireturn, 1) := by decide +kernel
theorem dX8_step_76 : decode cX8_step 76 = .ok (.aload_n 0, 1) := by decide +kernel
theorem dX8_step_77 : decode cX8_step 77 = .ok (.getfield 28, 3) := by decide +kernel
theorem dX8_step_80 : decode cX8_step 80 = .ok (.iload 4, 2) := by decide +kernel
theorem dX8_step_82 : decode cX8_step 82 = .ok (.iaload, 1) := by decide +kernel
theorem dX8_step_83 : decode cX8_step 83 = .ok (.ireturn, 1) := by decide +kernel
theorem dX8_step_84 : decode cX8_step 84 = .ok (.aload_n 0, 1) := by decide +kernel
theorem dX8_step_85 : decode cX8_step 85 = .ok (.getfield 31, 3) := by decide +kernel
theorem dX8_step_88 : decode cX8_step 88 = .ok (.iload 4, 2) := by decide +kernel
theorem dX8_step_90 : decode cX8_step 90 = .ok (.iaload, 1) := by decide +kernel
theorem dX8_step_91 : decode cX8_step 91 = .ok (.ireturn, 1) := by decide +kernel
theorem dX8_step_92 : decode cX8_step 92 = .ok (.iconst (-1), 1) := by decide +kernel
theorem dX8_step_93 : decode cX8_step 93 = .ok (.ireturn, 1) := by decide +kernel
theorem dX8_lay_0 : decode cX8_lay 0 = .ok (.aload_n 0, 1) := by decide +kernel
theorem dX8_lay_1 : decode cX8_lay 1 = .ok (.aload_n 0, 1) := by decide +kernel
theorem dX8_lay_2 : decode cX8_lay 2 = .ok (.getfield 7, 3) := by decide +kernel
theorem dX8_lay_5 : decode cX8_lay 5 = .ok (.iconst 0, 1) := by decide +kernel
theorem dX8_lay_6 : decode cX8_lay 6 = .ok (.iaload, 1) := by decide +kernel
theorem dX8_lay_7 : decode cX8_lay 7 = .ok (.putfield 176, 3) := by decide +kernel
theorem dX8_lay_10 : decode cX8_lay 10 = .ok (.aload_n 0, 1) := by decide +kernel
theorem dX8_lay_11 : decode cX8_lay 11 = .ok (.aload_n 0, 1) := by decide +kernel
theorem dX8_lay_12 : decode cX8_lay 12 = .ok (.getfield 16, 3) := by decide +kernel
theorem dX8_lay_15 : decode cX8_lay 15 = .ok (.iload_n 1, 1) := by decide +kernel
theorem dX8_lay_16 : decode cX8_lay 16 = .ok (.iaload, 1) := by decide +kernel
theorem dX8_lay_17 : decode cX8_lay 17 = .ok (.putfield 179, 3) := by decide +kernel
theorem dX8_lay_20 : decode cX8_lay 20 = .ok (.aload_n 0, 1) := by decide +kernel
theorem dX8_lay_21 : decode cX8_lay 21 = .ok (.getfield 61, 3) := by decide +kernel
theorem dX8_lay_24 : decode cX8_lay 24 = .ok (.iconst 0, 1) := by decide +kernel
theorem dX8_lay_25 : decode cX8_lay 25 = .ok (.iconst 0, 1) := by decide +kernel
theorem dX8_lay_26 : decode cX8_lay 26 = .ok (.iastore, 1) := by decide +kernel
theorem dX8_lay_27 : decode cX8_lay 27 = .ok (.iconst 0, 1) := by decide +kernel
theorem dX8_lay_28 : decode cX8_lay 28 = .ok (.istore_n 3, 1) := by decide +kernel
theorem dX8_lay_29 : decode cX8_lay 29 = .ok (.iload_n 3, 1) := by decide +kernel
theorem dX8_lay_30 : decode cX8_lay 30 = .ok (.aload_n 0, 1) := by decide +kernel
theorem dX8_lay_31 : decode cX8_lay 31 = .ok (.getfield 176, 3) := by decide +kernel
theorem dX8_lay_34 : decode cX8_lay 34 = .ok (.if_icmp .ge 63, 3) := by decide +kernel
theorem dX8_lay_37 : decode cX8_lay 37 = .ok (.aload_n 0, 1) := by decide +kernel
theorem dX8_lay_38 : decode cX8_lay 38 = .ok (.getfield 58, 3) := by decide +kernel
theorem dX8_lay_41 : decode cX8_lay 41 = .ok (.iload_n 3, 1) := by decide +kernel
theorem dX8_lay_42 : decode cX8_lay 42 = .ok (.iload_n 2, 1) := by decide +kernel
theorem dX8_lay_43 : decode cX8_lay 43 = .ok (.ifCond .eq 11, 3) := by decide +kernel
theorem dX8_lay_46 : decode cX8_lay 46 = .ok (.aload_n 0, 1) := by decide +kernel
theorem dX8_lay_47 : decode cX8_lay 47 = .ok (.iload_n 3, 1) := by decide +kernel
theorem dX8_lay_48 : decode cX8_lay 48 = .ok (.invokevirtual 165, 3) := by decide +kernel
theorem dX8_lay_51 : decode cX8_lay 51 = .ok (.goto 9, 3) := by decide +kernel
theorem dX8_lay_54 : decode cX8_lay 54 = .ok (.aload_n 0, 1) := by decide +kernel
theorem dX8_lay_55 : decode cX8_lay 55 = .ok (.getfield 13, 3) := by decide +kernel
theorem dX8_lay_58 : decode cX8_lay 58 = .ok (.iload_n 3, 1) := by decide +kernel
theorem dX8_lay_59 : decode cX8_lay 59 = .ok (.iaload, 1) := by decide +kernel
theorem dX8_lay_60 : decode cX8_lay 60 = .ok (.iastore, 1) := by decide +kernel
theorem dX8_lay_61 : decode cX8_lay 61 = .ok (.aload_n 0, 1) := by decide +kernel
theorem dX8_lay_62 : decode cX8_lay 62 = .ok (.getfield 61, 3) := by decide +kernel
theorem dX8_lay_65 : decode cX8_lay 65 = .ok (.iload_n 3, 1) := by decide +kernel
theorem dX8_lay_66 : decode cX8_lay 66 = .ok (.iconst 1, 1) := by decide +kernel
theorem dX8_lay_67 : decode cX8_lay 67 = .ok (.iadd, 1) := by decide +kernel
theorem dX8_lay_68 : decode cX8_lay 68 = .ok (.aload_n 0, 1) := by decide +kernel
theorem dX8_lay_69 : decode cX8_lay 69 = .ok (.getfield 61, 3) := by decide +kernel
theorem dX8_lay_72 : decode cX8_lay 72 = .ok (.iload_n 3, 1) := by decide +kernel
theorem dX8_lay_73 : decode cX8_lay 73 = .ok (.iaload, 1) := by decide +kernel
theorem dX8_lay_74 : decode cX8_lay 74 = .ok (.aload_n 0, 1) := by decide +kernel
theorem dX8_lay_75 : decode cX8_lay 75 = .ok (.getfield 58, 3) := by decide +kernel
theorem dX8_lay_78 : decode cX8_lay 78 = .ok (.iload_n 3, 1) := by decide +kernel
theorem dX8_lay_79 : decode cX8_lay 79 = .ok (.iaload, 1) := by decide +kernel
theorem dX8_lay_80 : decode cX8_lay 80 = .ok (.iconst 1, 1) := by decide +kernel
theorem dX8_lay_81 : decode cX8_lay 81 = .ok (.if_icmp .ne 7, 3) := by decide +kernel
theorem dX8_lay_84 : decode cX8_lay 84 = .ok (.iconst 1, 1) := by decide +kernel
theorem dX8_lay_85 : decode cX8_lay 85 = .ok (.goto 4, 3) := by decide +kernel
theorem dX8_lay_88 : decode cX8_lay 88 = .ok (.iconst 0, 1) := by decide +kernel
theorem dX8_lay_89 : decode cX8_lay 89 = .ok (.iadd, 1) := by decide +kernel
theorem dX8_lay_90 : decode cX8_lay 90 = .ok (.iastore, 1) := by decide +kernel
theorem dX8_lay_91 : decode cX8_lay 91 = .ok (.iinc 3 1, 3) := by decide +kernel
theorem dX8_lay_94 : decode cX8_lay 94 = .ok (.goto (-65), 3) := by decide +kernel
theorem dX8_lay_97 : decode cX8_lay 97 = .ok (.iconst 0, 1) := by decide +kernel
theorem dX8_lay_98 : decode cX8_lay 98 = .ok (.istore_n 3, 1) := by decide +kernel
theorem dX8_lay_99 : decode cX8_lay 99 = .ok (.iload_n 3, 1) := by decide +kernel
theorem dX8_lay_100 : decode cX8_lay 100 = .ok (.iconst 4, 1) := by decide +kernel
theorem dX8_lay_101 : decode cX8_lay 101 = .ok (.if_icmp .ge 89, 3) := by decide +kernel
theorem dX8_lay_104 : decode cX8_lay 104 = .ok (.aload_n 0, 1) := by decide +kernel
theorem dX8_lay_105 : decode cX8_lay 105 = .ok (.getfield 64, 3) := by decide +kernel
theorem dX8_lay_108 : decode cX8_lay 108 = .ok (.iload_n 3, 1) := by decide +kernel
theorem dX8_lay_109 : decode cX8_lay 109 = .ok (.aload_n 0, 1) := by decide +kernel
theorem dX8_lay_110 : decode cX8_lay 110 = .ok (.getfield 19, 3) := by decide +kernel
theorem dX8_lay_113 : decode cX8_lay 113 = .ok (.iconst 4, 1) := by decide +kernel
theorem dX8_lay_114 : decode cX8_lay 114 = .ok (.iload_n 1, 1) := by decide +kernel
theorem dX8_lay_115 : decode cX8_lay 115 = .ok (.imul, 1) := by decide +kernel
theorem dX8_lay_116 : decode cX8_lay 116 = .ok (.iload_n 3, 1) := by decide +kernel
theorem dX8_lay_117 : decode cX8_lay 117 = .ok (.iadd, 1) := by decide +kernel
theorem dX8_lay_118 : decode cX8_lay 118 = .ok (.iaload, 1) := by decide +kernel
theorem dX8_lay_119 : decode cX8_lay 119 = .ok (.iastore, 1) := by decide +kernel
theorem dX8_lay_120 : decode cX8_lay 120 = .ok (.aload_n 0, 1) := by decide +kernel
theorem dX8_lay_121 : decode cX8_lay 121 = .ok (.getfield 67, 3) := by decide +kernel
theorem dX8_lay_124 : decode cX8_lay 124 = .ok (.iload_n 3, 1) := by decide +kernel
theorem dX8_lay_125 : decode cX8_lay 125 = .ok (.aload_n 0, 1) := by decide +kernel
theorem dX8_lay_126 : decode cX8_lay 126 = .ok (.getfield 22, 3) := by decide +kernel
theorem dX8_lay_129 : decode cX8_lay 129 = .ok (.iconst 4, 1) := by decide +kernel
theorem dX8_lay_130 : decode cX8_lay 130 = .ok (.iload_n 1, 1) := by decide +kernel
theorem dX8_lay_131 : decode cX8_lay 131 = .ok (.imul, 1) := by decide +kernel
theorem dX8_lay_132 : decode cX8_lay 132 = .ok (.iload_n 3, 1) := by decide +kernel
theorem dX8_lay_133 : decode cX8_lay 133 = .ok (.iadd, 1) := by decide +kernel
theorem dX8_lay_134 : decode cX8_lay 134 = .ok (.iaload, 1) := by decide +kernel
theorem dX8_lay_135 : decode cX8_lay 135 = .ok (.iastore, 1) := by decide +kernel
theorem dX8_lay_136 : decode cX8_lay 136 = .ok (.aload_n 0, 1) := by decide +kernel
theorem dX8_lay_137 : decode cX8_lay 137 = .ok (.getfield 70, 3) := by decide +kernel
theorem dX8_lay_140 : decode cX8_lay 140 = .ok (.iload_n 3, 1) := by decide +kernel
theorem dX8_lay_141 : decode cX8_lay 141 = .ok (.aload_n 0, 1) := by decide +kernel
theorem dX8_lay_142 : decode cX8_lay 142 = .ok (.getfield 25, 3) := by decide +kernel
theorem dX8_lay_145 : decode cX8_lay 145 = .ok (.iconst 4, 1) := by decide +kernel
theorem dX8_lay_146 : decode cX8_lay 146 = .ok (.iload_n 1, 1) := by decide +kernel
theorem dX8_lay_147 : decode cX8_lay 147 = .ok (.imul, 1) := by decide +kernel
theorem dX8_lay_148 : decode cX8_lay 148 = .ok (.iload_n 3, 1) := by decide +kernel
theorem dX8_lay_149 : decode cX8_lay 149 = .ok (.iadd, 1) := by decide +kernel
theorem dX8_lay_150 : decode cX8_lay 150 = .ok (.iaload, 1) := by decide +kernel
theorem dX8_lay_151 : decode cX8_lay 151 = .ok (.iastore, 1) := by decide +kernel
theorem dX8_lay_152 : decode cX8_lay 152 = .ok (.aload_n 0, 1) := by decide +kernel
theorem dX8_lay_153 : decode cX8_lay 153 = .ok (.getfield 73, 3) := by decide +kernel
theorem dX8_lay_156 : decode cX8_lay 156 = .ok (.iload_n 3, 1) := by decide +kernel
theorem dX8_lay_157 : decode cX8_lay 157 = .ok (.aload_n 0, 1) := by decide +kernel
theorem dX8_lay_158 : decode cX8_lay 158 = .ok (.getfield 28, 3) := by decide +kernel
theorem dX8_lay_161 : decode cX8_lay 161 = .ok (.iconst 4, 1) := by decide +kernel
theorem dX8_lay_162 : decode cX8_lay 162 = .ok (.iload_n 1, 1) := by decide +kernel
theorem dX8_lay_163 : decode cX8_lay 163 = .ok (.imul, 1) := by decide +kernel
theorem dX8_lay_164 : decode cX8_lay 164 = .ok (.iload_n 3, 1) := by decide +kernel
theorem dX8_lay_165 : decode cX8_lay 165 = .ok (.iadd, 1) := by decide +kernel
theorem dX8_lay_166 : decode cX8_lay 166 = .ok (.iaload, 1) := by decide +kernel
theorem dX8_lay_167 : decode cX8_lay 167 = .ok (.iastore, 1) := by decide +kernel
theorem dX8_lay_168 : decode cX8_lay 168 = .ok (.aload_n 0, 1) := by decide +kernel
theorem dX8_lay_169 : decode cX8_lay 169 = .ok (.getfield 76, 3) := by decide +kernel
theorem dX8_lay_172 : decode cX8_lay 172 = .ok (.iload_n 3, 1) := by decide +kernel
theorem dX8_lay_173 : decode cX8_lay 173 = .ok (.aload_n 0, 1) := by decide +kernel
theorem dX8_lay_174 : decode cX8_lay 174 = .ok (.getfield 31, 3) := by decide +kernel
theorem dX8_lay_177 : decode cX8_lay 177 = .ok (.iconst 4, 1) := by decide +kernel
theorem dX8_lay_178 : decode cX8_lay 178 = .ok (.iload_n 1, 1) := by decide +kernel
theorem dX8_lay_179 : decode cX8_lay 179 = .ok (.imul, 1) := by decide +kernel
theorem dX8_lay_180 : decode cX8_lay 180 = .ok (.iload_n 3, 1) := by decide +kernel
theorem dX8_lay_181 : decode cX8_lay 181 = .ok (.iadd, 1) := by decide +kernel
theorem dX8_lay_182 : decode cX8_lay 182 = .ok (.iaload, 1) := by decide +kernel
theorem dX8_lay_183 : decode cX8_lay 183 = .ok (.iastore, 1) := by decide +kernel
theorem dX8_lay_184 : decode cX8_lay 184 = .ok (.iinc 3 1, 3) := by decide +kernel
theorem dX8_lay_187 : decode cX8_lay 187 = .ok (.goto (-88), 3) := by decide +kernel
theorem dX8_lay_190 : decode cX8_lay 190 = .ok (.return_, 1) := by decide +kernel
theorem dX8_isKind_0 : decode cX8_isKind 0 = .ok (.aload_n 0, 1) := by decide +kernel
theorem dX8_isKind_1 : decode cX8_isKind 1 = .ok (.getfield 64, 3) := by decide +kernel
theorem dX8_isKind_4 : decode cX8_isKind 4 = .ok (.iload_n 1, 1) := by decide +kernel
theorem dX8_isKind_5 : decode cX8_isKind 5 = .ok (.iaload, 1) := by decide +kernel
theorem dX8_isKind_6 : decode cX8_isKind 6 = .ok (.aload_n 0, 1) := by decide +kernel
theorem dX8_isKind_7 : decode cX8_isKind 7 = .ok (.getfield 58, 3) := by decide +kernel
theorem dX8_isKind_10 : decode cX8_isKind 10 = .ok (.iload_n 2, 1) := by decide +kernel
theorem dX8_isKind_11 : decode cX8_isKind 11 = .ok (.iaload, 1) := by decide +kernel
theorem dX8_isKind_12 : decode cX8_isKind 12 = .ok (.ishr, 1) := by decide +kernel
theorem dX8_isKind_13 : decode cX8_isKind 13 = .ok (.iconst 1, 1) := by decide +kernel
theorem dX8_isKind_14 : decode cX8_isKind 14 = .ok (.iand, 1) := by decide +kernel
theorem dX8_isKind_15 : decode cX8_isKind 15 = .ok (.iconst 1, 1) := by decide +kernel
theorem dX8_isKind_16 : decode cX8_isKind 16 = .ok (.if_icmp .ne 7, 3) := by decide +kernel
theorem dX8_isKind_19 : decode cX8_isKind 19 = .ok (.iconst 1, 1) := by decide +kernel
theorem dX8_isKind_20 : decode cX8_isKind 20 = .ok (.goto 4, 3) := by decide +kernel
theorem dX8_isKind_23 : decode cX8_isKind 23 = .ok (.iconst 0, 1) := by decide +kernel
theorem dX8_isKind_24 : decode cX8_isKind 24 = .ok (.ireturn, 1) := by decide +kernel
theorem dX8_isFar_0 : decode cX8_isFar 0 = .ok (.iload_n 1, 1) := by decide +kernel
theorem dX8_isFar_1 : decode cX8_isFar 1 = .ok (.ifCond .ne 5, 3) := by decide +kernel
theorem dX8_isFar_4 : decode cX8_isFar 4 = .ok (.iconst 1, 1) := by decide +kernel
theorem dX8_isFar_5 : decode cX8_isFar 5 = .ok (.ireturn, 1) := by decide +kernel
theorem dX8_isFar_6 : decode cX8_isFar 6 = .ok (.iload_n 3, 1) := by decide +kernel
theorem dX8_isFar_7 : decode cX8_isFar 7 = .ok (.iload_n 2, 1) := by decide +kernel
theorem dX8_isFar_8 : decode cX8_isFar 8 = .ok (.if_icmp .ge 5, 3) := by decide +kernel
theorem dX8_isFar_11 : decode cX8_isFar 11 = .ok (.iconst 0, 1) := by decide +kernel
theorem dX8_isFar_12 : decode cX8_isFar 12 = .ok (.ireturn, 1) := by decide +kernel
theorem dX8_isFar_13 : decode cX8_isFar 13 = .ok (.aload_n 0, 1) := by decide +kernel
theorem dX8_isFar_14 : decode cX8_isFar 14 = .ok (.getfield 70, 3) := by decide +kernel
theorem dX8_isFar_17 : decode cX8_isFar 17 = .ok (.iload_n 1, 1) := by decide +kernel
theorem dX8_isFar_18 : decode cX8_isFar 18 = .ok (.iaload, 1) := by decide +kernel
theorem dX8_isFar_19 : decode cX8_isFar 19 = .ok (.iconst 1, 1) := by decide +kernel
theorem dX8_isFar_20 : decode cX8_isFar 20 = .ok (.if_icmp .ne 23, 3) := by decide +kernel
theorem dX8_isFar_23 : decode cX8_isFar 23 = .ok (.aload_n 0, 1) := by decide +kernel
theorem dX8_isFar_24 : decode cX8_isFar 24 = .ok (.getfield 61, 3) := by decide +kernel
theorem dX8_isFar_27 : decode cX8_isFar 27 = .ok (.iload_n 3, 1) := by decide +kernel
theorem dX8_isFar_28 : decode cX8_isFar 28 = .ok (.iconst 1, 1) := by decide +kernel
theorem dX8_isFar_29 : decode cX8_isFar 29 = .ok (.iadd, 1) := by decide +kernel
theorem dX8_isFar_30 : decode cX8_isFar 30 = .ok (.iaload, 1) := by decide +kernel
theorem dX8_isFar_31 : decode cX8_isFar 31 = .ok (.aload_n 0, 1) := by decide +kernel
theorem dX8_isFar_32 : decode cX8_isFar 32 = .ok (.getfield 61, 3) := by decide +kernel
theorem dX8_isFar_35 : decode cX8_isFar 35 = .ok (.iload_n 2, 1) := by decide +kernel
theorem dX8_isFar_36 : decode cX8_isFar 36 = .ok (.iconst 1, 1) := by decide +kernel
theorem dX8_isFar_37 : decode cX8_isFar 37 = .ok (.iadd, 1) := by decide +kernel
theorem dX8_isFar_38 : decode cX8_isFar 38 = .ok (.iaload, 1) := by decide +kernel
theorem dX8_isFar_39 : decode cX8_isFar 39 = .ok (.isub, 1) := by decide +kernel
theorem dX8_isFar_40 : decode cX8_isFar 40 = .ok (.goto 6, 3) := by decide +kernel
theorem dX8_isFar_43 : decode cX8_isFar 43 = .ok (.iload_n 3, 1) := by decide +kernel
theorem dX8_isFar_44 : decode cX8_isFar 44 = .ok (.iload_n 2, 1) := by decide +kernel
theorem dX8_isFar_45 : decode cX8_isFar 45 = .ok (.isub, 1) := by decide +kernel
theorem dX8_isFar_46 : decode cX8_isFar 46 = .ok (.istore 4, 2) := by decide +kernel
theorem dX8_isFar_48 : decode cX8_isFar 48 = .ok (.iload 4, 2) := by decide +kernel
theorem dX8_isFar_50 : decode cX8_isFar 50 = .ok (.aload_n 0, 1) := by decide +kernel
theorem dX8_isFar_51 : decode cX8_isFar 51 = .ok (.getfield 67, 3) := by decide +kernel
theorem dX8_isFar_54 : decode cX8_isFar 54 = .ok (.iload_n 1, 1) := by decide +kernel
theorem dX8_isFar_55 : decode cX8_isFar 55 = .ok (.iaload, 1) := by decide +kernel
theorem dX8_isFar_56 : decode cX8_isFar 56 = .ok (.if_icmp .lt 30, 3) := by decide +kernel
theorem dX8_isFar_59 : decode cX8_isFar 59 = .ok (.aload_n 0, 1) := by decide +kernel
theorem dX8_isFar_60 : decode cX8_isFar 60 = .ok (.getfield 73, 3) := by decide +kernel
theorem dX8_isFar_63 : decode cX8_isFar 63 = .ok (.iload_n 1, 1) := by decide +kernel
theorem dX8_isFar_64 : decode cX8_isFar 64 = .ok (.iaload, 1) := by decide +kernel
theorem dX8_isFar_65 : decode cX8_isFar 65 = .ok (.bipush (-9), 2) := by decide +kernel
theorem dX8_isFar_67 : decode cX8_isFar 67 = .ok (.if_icmp .eq 15, 3) := by decide +kernel
theorem dX8_isFar_70 : decode cX8_isFar 70 = .ok (.iload_n 3, 1) := by decide +kernel
theorem dX8_isFar_71 : decode cX8_isFar 71 = .ok (.iload_n 2, 1) := by decide +kernel
theorem dX8_isFar_72 : decode cX8_isFar 72 = .ok (.isub, 1) := by decide +kernel
theorem dX8_isFar_73 : decode cX8_isFar 73 = .ok (.aload_n 0, 1) := by decide +kernel
theorem dX8_isFar_74 : decode cX8_isFar 74 = .ok (.getfield 73, 3) := by decide +kernel
theorem dX8_isFar_77 : decode cX8_isFar 77 = .ok (.iload_n 1, 1) := by decide +kernel
theorem dX8_isFar_78 : decode cX8_isFar 78 = .ok (.iaload, 1) := by decide +kernel
theorem dX8_isFar_79 : decode cX8_isFar 79 = .ok (.if_icmp .gt 7, 3) := by decide +kernel
theorem dX8_isFar_82 : decode cX8_isFar 82 = .ok (.iconst 1, 1) := by decide +kernel
theorem dX8_isFar_83 : decode cX8_isFar 83 = .ok (.goto 4, 3) := by decide +kernel
theorem dX8_isFar_86 : decode cX8_isFar 86 = .ok (.iconst 0, 1) := by decide +kernel
theorem dX8_isFar_87 : decode cX8_isFar 87 = .ok (.ireturn, 1) := by decide +kernel
theorem dX8_isFallen_0 : decode cX8_isFallen 0 = .ok (.iload_n 1, 1) := by decide +kernel
theorem dX8_isFallen_1 : decode cX8_isFallen 1 = .ok (.ifCond .le 30, 3) := by decide +kernel
theorem dX8_isFallen_4 : decode cX8_isFallen 4 = .ok (.aload_n 0, 1) := by decide +kernel
theorem dX8_isFallen_5 : decode cX8_isFallen 5 = .ok (.getfield 73, 3) := by decide +kernel
theorem dX8_isFallen_8 : decode cX8_isFallen 8 = .ok (.iload_n 1, 1) := by decide +kernel
theorem dX8_isFallen_9 : decode cX8_isFallen 9 = .ok (.iaload, 1) := by decide +kernel
theorem dX8_isFallen_10 : decode cX8_isFallen 10 = .ok (.bipush (-9), 2) := by decide +kernel
theorem dX8_isFallen_12 : decode cX8_isFallen 12 = .ok (.if_icmp .eq 19, 3) := by decide +kernel
theorem dX8_isFallen_15 : decode cX8_isFallen 15 = .ok (.iload_n 3, 1) := by decide +kernel
theorem dX8_isFallen_16 : decode cX8_isFallen 16 = .ok (.iload_n 2, 1) := by decide +kernel
theorem dX8_isFallen_17 : decode cX8_isFallen 17 = .ok (.isub, 1) := by decide +kernel
theorem dX8_isFallen_18 : decode cX8_isFallen 18 = .ok (.aload_n 0, 1) := by decide +kernel
theorem dX8_isFallen_19 : decode cX8_isFallen 19 = .ok (.getfield 73, 3) := by decide +kernel
theorem dX8_isFallen_22 : decode cX8_isFallen 22 = .ok (.iload_n 1, 1) := by decide +kernel
theorem dX8_isFallen_23 : decode cX8_isFallen 23 = .ok (.iaload, 1) := by decide +kernel
theorem dX8_isFallen_24 : decode cX8_isFallen 24 = .ok (.if_icmp .le 7, 3) := by decide +kernel
theorem dX8_isFallen_27 : decode cX8_isFallen 27 = .ok (.iconst 1, 1) := by decide +kernel
theorem dX8_isFallen_28 : decode cX8_isFallen 28 = .ok (.goto 4, 3) := by decide +kernel
theorem dX8_isFallen_31 : decode cX8_isFallen 31 = .ok (.iconst 0, 1) := by decide +kernel
theorem dX8_isFallen_32 : decode cX8_isFallen 32 = .ok (.ireturn, 1) := by decide +kernel
theorem dX8_canOn_0 : decode cX8_canOn 0 = .ok (.aload_n 0, 1) := by decide +kernel
theorem dX8_canOn_1 : decode cX8_canOn 1 = .ok (.iload_n 1, 1) := by decide +kernel
theorem dX8_canOn_2 : decode cX8_canOn 2 = .ok (.iload_n 3, 1) := by decide +kernel
theorem dX8_canOn_3 : decode cX8_canOn 3 = .ok (.invokevirtual 182, 3) := by decide +kernel
theorem dX8_canOn_6 : decode cX8_canOn 6 = .ok (.ifCond .eq 17, 3) := by decide +kernel
theorem dX8_canOn_9 : decode cX8_canOn 9 = .ok (.aload_n 0, 1) := by decide +kernel
theorem dX8_canOn_10 : decode cX8_canOn 10 = .ok (.iload_n 1, 1) := by decide +kernel
theorem dX8_canOn_11 : decode cX8_canOn 11 = .ok (.iload_n 2, 1) := by decide +kernel
theorem dX8_canOn_12 : decode cX8_canOn 12 = .ok (.iload_n 3, 1) := by decide +kernel
theorem dX8_canOn_13 : decode cX8_canOn 13 = .ok (.invokevirtual 185, 3) := by decide +kernel
theorem dX8_canOn_16 : decode cX8_canOn 16 = .ok (.ifCond .eq 7, 3) := by decide +kernel
theorem dX8_canOn_19 : decode cX8_canOn 19 = .ok (.iconst 1, 1) := by decide +kernel
theorem dX8_canOn_20 : decode cX8_canOn 20 = .ok (.goto 4, 3) := by decide +kernel
theorem dX8_canOn_23 : decode cX8_canOn 23 = .ok (.iconst 0, 1) := by decide +kernel
theorem dX8_canOn_24 : decode cX8_canOn 24 = .ok (.ireturn, 1) := by decide +kernel
theorem dX8_may_0 : decode cX8_may 0 = .ok (.aload_n 0, 1) := by decide +kernel
theorem dX8_may_1 : decode cX8_may 1 = .ok (.iload_n 1, 1) := by decide +kernel
theorem dX8_may_2 : decode cX8_may 2 = .ok (.iload_n 2, 1) := by decide +kernel
theorem dX8_may_3 : decode cX8_may 3 = .ok (.invokevirtual 172, 3) := by decide +kernel
theorem dX8_may_6 : decode cX8_may 6 = .ok (.ifCond .eq 26, 3) := by decide +kernel
theorem dX8_may_9 : decode cX8_may 9 = .ok (.aload_n 0, 1) := by decide +kernel
theorem dX8_may_10 : decode cX8_may 10 = .ok (.iload 4, 2) := by decide +kernel
theorem dX8_may_12 : decode cX8_may 12 = .ok (.invokevirtual 161, 3) := by decide +kernel
theorem dX8_may_15 : decode cX8_may 15 = .ok (.ifCond .eq 17, 3) := by decide +kernel
theorem dX8_may_18 : decode cX8_may 18 = .ok (.iload_n 3, 1) := by decide +kernel
theorem dX8_may_19 : decode cX8_may 19 = .ok (.bipush (-9), 2) := by decide +kernel
theorem dX8_may_21 : decode cX8_may 21 = .ok (.if_icmp .eq 13, 3) := by decide +kernel
theorem dX8_may_24 : decode cX8_may 24 = .ok (.aload_n 0, 1) := by decide +kernel
theorem dX8_may_25 : decode cX8_may 25 = .ok (.iload_n 3, 1) := by decide +kernel
theorem dX8_may_26 : decode cX8_may 26 = .ok (.invokevirtual 161, 3) := by decide +kernel
theorem dX8_may_29 : decode cX8_may 29 = .ok (.ifCond .ne 5, 3) := by decide +kernel
theorem dX8_may_32 : decode cX8_may 32 = .ok (.iconst (-1), 1) := by decide +kernel
theorem dX8_may_33 : decode cX8_may 33 = .ok (.ireturn, 1) := by decide +kernel
theorem dX8_may_34 : decode cX8_may 34 = .ok (.aload_n 0, 1) := by decide +kernel
theorem dX8_may_35 : decode cX8_may 35 = .ok (.iload_n 1, 1) := by decide +kernel
theorem dX8_may_36 : decode cX8_may 36 = .ok (.iconst 1, 1) := by decide +kernel
theorem dX8_may_37 : decode cX8_may 37 = .ok (.invokevirtual 188, 3) := by decide +kernel
theorem dX8_may_40 : decode cX8_may 40 = .ok (.aload_n 0, 1) := by decide +kernel
theorem dX8_may_41 : decode cX8_may 41 = .ok (.iload_n 2, 1) := by decide +kernel
theorem dX8_may_42 : decode cX8_may 42 = .ok (.iload 4, 2) := by decide +kernel
theorem dX8_may_44 : decode cX8_may 44 = .ok (.invokevirtual 182, 3) := by decide +kernel
theorem dX8_may_47 : decode cX8_may 47 = .ok (.ifCond .eq 24, 3) := by decide +kernel
theorem dX8_may_50 : decode cX8_may 50 = .ok (.iload_n 3, 1) := by decide +kernel
theorem dX8_may_51 : decode cX8_may 51 = .ok (.bipush (-9), 2) := by decide +kernel
theorem dX8_may_53 : decode cX8_may 53 = .ok (.if_icmp .eq 14, 3) := by decide +kernel
theorem dX8_may_56 : decode cX8_may 56 = .ok (.aload_n 0, 1) := by decide +kernel
theorem dX8_may_57 : decode cX8_may 57 = .ok (.iload_n 2, 1) := by decide +kernel
theorem dX8_may_58 : decode cX8_may 58 = .ok (.iload_n 3, 1) := by decide +kernel
theorem dX8_may_59 : decode cX8_may 59 = .ok (.iload 4, 2) := by decide +kernel
theorem dX8_may_61 : decode cX8_may 61 = .ok (.invokevirtual 185, 3) := by decide +kernel
theorem dX8_may_64 : decode cX8_may 64 = .ok (.ifCond .eq 7, 3) := by decide +kernel
theorem dX8_may_67 : decode cX8_may 67 = .ok (.iconst 1, 1) := by decide +kernel
theorem dX8_may_68 : decode cX8_may 68 = .ok (.goto 4, 3) := by decide +kernel
theorem dX8_may_71 : decode cX8_may 71 = .ok (.iconst 0, 1) := by decide +kernel
theorem dX8_may_72 : decode cX8_may 72 = .ok (.ireturn, 1) := by decide +kernel
theorem dX8_timesOf_0 : decode cX8_timesOf 0 = .ok (.iconst 0, 1) := by decide +kernel
theorem dX8_timesOf_1 : decode cX8_timesOf 1 = .ok (.istore_n 2, 1) := by decide +kernel
theorem dX8_timesOf_2 : decode cX8_timesOf 2 = .ok (.iconst 0, 1) := by decide +kernel
theorem dX8_timesOf_3 : decode cX8_timesOf 3 = .ok (.istore_n 3, 1) := by decide +kernel
theorem dX8_timesOf_4 : decode cX8_timesOf 4 = .ok (.iload_n 3, 1) := by decide +kernel
theorem dX8_timesOf_5 : decode cX8_timesOf 5 = .ok (.aload_n 0, 1) := by decide +kernel
theorem dX8_timesOf_6 : decode cX8_timesOf 6 = .ok (.getfield 158, 3) := by decide +kernel
theorem dX8_timesOf_9 : decode cX8_timesOf 9 = .ok (.if_icmp .ge 32, 3) := by decide +kernel
theorem dX8_timesOf_12 : decode cX8_timesOf 12 = .ok (.iload_n 2, 1) := by decide +kernel
theorem dX8_timesOf_13 : decode cX8_timesOf 13 = .ok (.aload_n 0, 1) := by decide +kernel
theorem dX8_timesOf_14 : decode cX8_timesOf 14 = .ok (.getfield 52, 3) := by decide +kernel
theorem dX8_timesOf_17 : decode cX8_timesOf 17 = .ok (.iload_n 3, 1) := by decide +kernel
theorem dX8_timesOf_18 : decode cX8_timesOf 18 = .ok (.iaload, 1) := by decide +kernel
theorem dX8_timesOf_19 : decode cX8_timesOf 19 = .ok (.iload_n 1, 1) := by decide +kernel
theorem dX8_timesOf_20 : decode cX8_timesOf 20 = .ok (.if_icmp .ne 12, 3) := by decide +kernel
theorem dX8_timesOf_23 : decode cX8_timesOf 23 = .ok (.aload_n 0, 1) := by decide +kernel
theorem dX8_timesOf_24 : decode cX8_timesOf 24 = .ok (.getfield 55, 3) := by decide +kernel
theorem dX8_timesOf_27 : decode cX8_timesOf 27 = .ok (.iload_n 3, 1) := by decide +kernel
theorem dX8_timesOf_28 : decode cX8_timesOf 28 = .ok (.iaload, 1) := by decide +kernel
theorem dX8_timesOf_29 : decode cX8_timesOf 29 = .ok (.goto 4, 3) := by decide +kernel
theorem dX8_timesOf_32 : decode cX8_timesOf 32 = .ok (.iconst 0, 1) := by decide +kernel
theorem dX8_timesOf_33 : decode cX8_timesOf 33 = .ok (.iadd, 1) := by decide +kernel
theorem dX8_timesOf_34 : decode cX8_timesOf 34 = .ok (.istore_n 2, 1) := by decide +kernel
theorem dX8_timesOf_35 : decode cX8_timesOf 35 = .ok (.iinc 3 1, 3) := by decide +kernel
theorem dX8_timesOf_38 : decode cX8_timesOf 38 = .ok (.goto (-34), 3) := by decide +kernel
theorem dX8_timesOf_41 : decode cX8_timesOf 41 = .ok (.iload_n 2, 1) := by decide +kernel
theorem dX8_timesOf_42 : decode cX8_timesOf 42 = .ok (.ireturn, 1) := by decide +kernel
theorem dX8_leftOf_0 : decode cX8_leftOf 0 = .ok (.iconst 0, 1) := by decide +kernel
theorem dX8_leftOf_1 : decode cX8_leftOf 1 = .ok (.istore_n 2, 1) := by decide +kernel
theorem dX8_leftOf_2 : decode cX8_leftOf 2 = .ok (.iconst 0, 1) := by decide +kernel
theorem dX8_leftOf_3 : decode cX8_leftOf 3 = .ok (.istore_n 3, 1) := by decide +kernel
theorem dX8_leftOf_4 : decode cX8_leftOf 4 = .ok (.iload_n 3, 1) := by decide +kernel
theorem dX8_leftOf_5 : decode cX8_leftOf 5 = .ok (.aload_n 0, 1) := by decide +kernel
theorem dX8_leftOf_6 : decode cX8_leftOf 6 = .ok (.getfield 158, 3) := by decide +kernel
theorem dX8_leftOf_9 : decode cX8_leftOf 9 = .ok (.if_icmp .ge 35, 3) := by decide +kernel
theorem dX8_leftOf_12 : decode cX8_leftOf 12 = .ok (.iload_n 2, 1) := by decide +kernel
theorem dX8_leftOf_13 : decode cX8_leftOf 13 = .ok (.aload_n 0, 1) := by decide +kernel
theorem dX8_leftOf_14 : decode cX8_leftOf 14 = .ok (.getfield 52, 3) := by decide +kernel
theorem dX8_leftOf_17 : decode cX8_leftOf 17 = .ok (.iload_n 3, 1) := by decide +kernel
theorem dX8_leftOf_18 : decode cX8_leftOf 18 = .ok (.iaload, 1) := by decide +kernel
theorem dX8_leftOf_19 : decode cX8_leftOf 19 = .ok (.iload_n 1, 1) := by decide +kernel
theorem dX8_leftOf_20 : decode cX8_leftOf 20 = .ok (.if_icmp .ne 15, 3) := by decide +kernel
theorem dX8_leftOf_23 : decode cX8_leftOf 23 = .ok (.aload_n 0, 1) := by decide +kernel
theorem dX8_leftOf_24 : decode cX8_leftOf 24 = .ok (.getfield 38, 3) := by decide +kernel
theorem dX8_leftOf_27 : decode cX8_leftOf 27 = .ok (.bipush 20, 2) := by decide +kernel
theorem dX8_leftOf_29 : decode cX8_leftOf 29 = .ok (.iload_n 3, 1) := by decide +kernel
theorem dX8_leftOf_30 : decode cX8_leftOf 30 = .ok (.iadd, 1) := by decide +kernel
theorem dX8_leftOf_31 : decode cX8_leftOf 31 = .ok (.iaload, 1) := by decide +kernel
theorem dX8_leftOf_32 : decode cX8_leftOf 32 = .ok (.goto 4, 3) := by decide +kernel
theorem dX8_leftOf_35 : decode cX8_leftOf 35 = .ok (.iconst 0, 1) := by decide +kernel
theorem dX8_leftOf_36 : decode cX8_leftOf 36 = .ok (.iadd, 1) := by decide +kernel
theorem dX8_leftOf_37 : decode cX8_leftOf 37 = .ok (.istore_n 2, 1) := by decide +kernel
theorem dX8_leftOf_38 : decode cX8_leftOf 38 = .ok (.iinc 3 1, 3) := by decide +kernel
theorem dX8_leftOf_41 : decode cX8_leftOf 41 = .ok (.goto (-37), 3) := by decide +kernel
theorem dX8_leftOf_44 : decode cX8_leftOf 44 = .ok (.iload_n 2, 1) := by decide +kernel
theorem dX8_leftOf_45 : decode cX8_leftOf 45 = .ok (.ireturn, 1) := by decide +kernel
theorem dX8_person_0 : decode cX8_person 0 = .ok (.iload_n 1, 1) := by decide +kernel
theorem dX8_person_1 : decode cX8_person 1 = .ok (.iconst 0, 1) := by decide +kernel
theorem dX8_person_2 : decode cX8_person 2 = .ok (.iconst 2, 1) := by decide +kernel
theorem dX8_person_3 : decode cX8_person 3 = .ok (.invokestatic 106, 3) := by decide +kernel
theorem dX8_person_6 : decode cX8_person 6 = .ok (.ifCond .eq 12, 3) := by decide +kernel
theorem dX8_person_9 : decode cX8_person 9 = .ok (.iload_n 2, 1) := by decide +kernel
theorem dX8_person_10 : decode cX8_person 10 = .ok (.iconst 0, 1) := by decide +kernel
theorem dX8_person_11 : decode cX8_person 11 = .ok (.iconst 3, 1) := by decide +kernel
theorem dX8_person_12 : decode cX8_person 12 = .ok (.invokestatic 106, 3) := by decide +kernel
theorem dX8_person_15 : decode cX8_person 15 = .ok (.ifCond .ne 5, 3) := by decide +kernel
theorem dX8_person_18 : decode cX8_person 18 = .ok (.iconst (-1), 1) := by decide +kernel
theorem dX8_person_19 : decode cX8_person 19 = .ok (.ireturn, 1) := by decide +kernel
theorem dX8_person_20 : decode cX8_person 20 = .ok (.aload_n 0, 1) := by decide +kernel
theorem dX8_person_21 : decode cX8_person 21 = .ok (.getfield 158, 3) := by decide +kernel
theorem dX8_person_24 : decode cX8_person 24 = .ok (.bipush 8, 2) := by decide +kernel
theorem dX8_person_26 : decode cX8_person 26 = .ok (.if_icmp .eq 19, 3) := by decide +kernel
theorem dX8_person_29 : decode cX8_person 29 = .ok (.iload_n 1, 1) := by decide +kernel
theorem dX8_person_30 : decode cX8_person 30 = .ok (.ifCond .le 18, 3) := by decide +kernel
theorem dX8_person_33 : decode cX8_person 33 = .ok (.aload_n 0, 1) := by decide +kernel
theorem dX8_person_34 : decode cX8_person 34 = .ok (.iload_n 1, 1) := by decide +kernel
theorem dX8_person_35 : decode cX8_person 35 = .ok (.invokevirtual 192, 3) := by decide +kernel
theorem dX8_person_38 : decode cX8_person 38 = .ok (.iload_n 2, 1) := by decide +kernel
theorem dX8_person_39 : decode cX8_person 39 = .ok (.iadd, 1) := by decide +kernel
theorem dX8_person_40 : decode cX8_person 40 = .ok (.bipush 6, 2) := by decide +kernel
theorem dX8_person_42 : decode cX8_person 42 = .ok (.if_icmp .le 6, 3) := by decide +kernel
theorem dX8_person_45 : decode cX8_person 45 = .ok (.bipush (-3), 2) := by decide +kernel
theorem dX8_person_47 : decode cX8_person 47 = .ok (.ireturn, 1) := by decide +kernel
theorem dX8_person_48 : decode cX8_person 48 = .ok (.aload_n 0, 1) := by decide +kernel
theorem dX8_person_49 : decode cX8_person 49 = .ok (.getfield 52, 3) := by decide +kernel
theorem dX8_person_52 : decode cX8_person 52 = .ok (.aload_n 0, 1) := by decide +kernel
theorem dX8_person_53 : decode cX8_person 53 = .ok (.getfield 158, 3) := by decide +kernel
theorem dX8_person_56 : decode cX8_person 56 = .ok (.iload_n 1, 1) := by decide +kernel
theorem dX8_person_57 : decode cX8_person 57 = .ok (.iastore, 1) := by decide +kernel
theorem dX8_person_58 : decode cX8_person 58 = .ok (.aload_n 0, 1) := by decide +kernel
theorem dX8_person_59 : decode cX8_person 59 = .ok (.getfield 55, 3) := by decide +kernel
theorem dX8_person_62 : decode cX8_person 62 = .ok (.aload_n 0, 1) := by decide +kernel
theorem dX8_person_63 : decode cX8_person 63 = .ok (.getfield 158, 3) := by decide +kernel
theorem dX8_person_66 : decode cX8_person 66 = .ok (.iload_n 2, 1) := by decide +kernel
theorem dX8_person_67 : decode cX8_person 67 = .ok (.iastore, 1) := by decide +kernel
theorem dX8_person_68 : decode cX8_person 68 = .ok (.aload_n 0, 1) := by decide +kernel
theorem dX8_person_69 : decode cX8_person 69 = .ok (.getfield 38, 3) := by decide +kernel
theorem dX8_person_72 : decode cX8_person 72 = .ok (.bipush 20, 2) := by decide +kernel
theorem dX8_person_74 : decode cX8_person 74 = .ok (.aload_n 0, 1) := by decide +kernel
theorem dX8_person_75 : decode cX8_person 75 = .ok (.getfield 158, 3) := by decide +kernel
theorem dX8_person_78 : decode cX8_person 78 = .ok (.iadd, 1) := by decide +kernel
theorem dX8_person_79 : decode cX8_person 79 = .ok (.iload_n 2, 1) := by decide +kernel
theorem dX8_person_80 : decode cX8_person 80 = .ok (.iastore, 1) := by decide +kernel
theorem dX8_person_81 : decode cX8_person 81 = .ok (.aload_n 0, 1) := by decide +kernel
theorem dX8_person_82 : decode cX8_person 82 = .ok (.dup, 1) := by decide +kernel
theorem dX8_person_83 : decode cX8_person 83 = .ok (.getfield 158, 3) := by decide +kernel
theorem dX8_person_86 : decode cX8_person 86 = .ok (.iconst 1, 1) := by decide +kernel
theorem dX8_person_87 : decode cX8_person 87 = .ok (.iadd, 1) := by decide +kernel
theorem dX8_person_88 : decode cX8_person 88 = .ok (.putfield 158, 3) := by decide +kernel
theorem dX8_person_91 : decode cX8_person 91 = .ok (.aload_n 0, 1) := by decide +kernel
theorem dX8_person_92 : decode cX8_person 92 = .ok (.getfield 158, 3) := by decide +kernel
theorem dX8_person_95 : decode cX8_person 95 = .ok (.iconst 1, 1) := by decide +kernel
theorem dX8_person_96 : decode cX8_person 96 = .ok (.isub, 1) := by decide +kernel
theorem dX8_person_97 : decode cX8_person 97 = .ok (.ireturn, 1) := by decide +kernel
theorem dX8_isPerson_0 : decode cX8_isPerson 0 = .ok (.iload_n 1, 1) := by decide +kernel
theorem dX8_isPerson_1 : decode cX8_isPerson 1 = .ok (.iconst 0, 1) := by decide +kernel
theorem dX8_isPerson_2 : decode cX8_isPerson 2 = .ok (.aload_n 0, 1) := by decide +kernel
theorem dX8_isPerson_3 : decode cX8_isPerson 3 = .ok (.getfield 158, 3) := by decide +kernel
theorem dX8_isPerson_6 : decode cX8_isPerson 6 = .ok (.iconst 1, 1) := by decide +kernel
theorem dX8_isPerson_7 : decode cX8_isPerson 7 = .ok (.isub, 1) := by decide +kernel
theorem dX8_isPerson_8 : decode cX8_isPerson 8 = .ok (.invokestatic 106, 3) := by decide +kernel
theorem dX8_isPerson_11 : decode cX8_isPerson 11 = .ok (.ireturn, 1) := by decide +kernel
theorem dX8_who_0 : decode cX8_who 0 = .ok (.aload_n 0, 1) := by decide +kernel
theorem dX8_who_1 : decode cX8_who 1 = .ok (.iload_n 1, 1) := by decide +kernel
theorem dX8_who_2 : decode cX8_who 2 = .ok (.invokevirtual 195, 3) := by decide +kernel
theorem dX8_who_5 : decode cX8_who 5 = .ok (.ifCond .ne 5, 3) := by decide +kernel
theorem dX8_who_8 : decode cX8_who 8 = .ok (.iconst (-1), 1) := by decide +kernel
theorem dX8_who_9 : decode cX8_who 9 = .ok (.ireturn, 1) := by decide +kernel
theorem dX8_who_10 : decode cX8_who 10 = .ok (.iload_n 2, 1) := by decide +kernel
theorem dX8_who_11 : decode cX8_who 11 = .ok (.ifCond .ne 12, 3) := by decide +kernel
theorem dX8_who_14 : decode cX8_who 14 = .ok (.aload_n 0, 1) := by decide +kernel
theorem dX8_who_15 : decode cX8_who 15 = .ok (.getfield 52, 3) := by decide +kernel
theorem dX8_who_18 : decode cX8_who 18 = .ok (.iload_n 1, 1) := by decide +kernel
theorem dX8_who_19 : decode cX8_who 19 = .ok (.iaload, 1) := by decide +kernel
theorem dX8_who_20 : decode cX8_who 20 = .ok (.goto 35, 3) := by decide +kernel
theorem dX8_who_23 : decode cX8_who 23 = .ok (.iload_n 2, 1) := by decide +kernel
theorem dX8_who_24 : decode cX8_who 24 = .ok (.iconst 1, 1) := by decide +kernel
theorem dX8_who_25 : decode cX8_who 25 = .ok (.if_icmp .ne 12, 3) := by decide +kernel
theorem dX8_who_28 : decode cX8_who 28 = .ok (.aload_n 0, 1) := by decide +kernel
theorem dX8_who_29 : decode cX8_who 29 = .ok (.getfield 55, 3) := by decide +kernel
theorem dX8_who_32 : decode cX8_who 32 = .ok (.iload_n 1, 1) := by decide +kernel
theorem dX8_who_33 : decode cX8_who 33 = .ok (.iaload, 1) := by decide +kernel
theorem dX8_who_34 : decode cX8_who 34 = .ok (.goto 21, 3) := by decide +kernel
theorem dX8_who_37 : decode cX8_who 37 = .ok (.iload_n 2, 1) := by decide +kernel
theorem dX8_who_38 : decode cX8_who 38 = .ok (.iconst 2, 1) := by decide +kernel
theorem dX8_who_39 : decode cX8_who 39 = .ok (.if_icmp .ne 15, 3) := by decide +kernel
theorem dX8_who_42 : decode cX8_who 42 = .ok (.aload_n 0, 1) := by decide +kernel
theorem dX8_who_43 : decode cX8_who 43 = .ok (.getfield 38, 3) := by decide +kernel
theorem dX8_who_46 : decode cX8_who 46 = .ok (.bipush 20, 2) := by decide +kernel
theorem dX8_who_48 : decode cX8_who 48 = .ok (.iload_n 1, 1) := by decide +kernel
theorem dX8_who_49 : decode cX8_who 49 = .ok (.iadd, 1) := by decide +kernel
theorem dX8_who_50 : decode cX8_who 50 = .ok (.iaload, 1) := by decide +kernel
theorem dX8_who_51 : decode cX8_who 51 = .ok (.goto 4, 3) := by decide +kernel
theorem dX8_who_54 : decode cX8_who 54 = .ok (.iconst (-1), 1) := by decide +kernel
theorem dX8_who_55 : decode cX8_who 55 = .ok (.ireturn, 1) := by decide +kernel
theorem dX8_doneOf_0 : decode cX8_doneOf 0 = .ok (.aload_n 0, 1) := by decide +kernel
theorem dX8_doneOf_1 : decode cX8_doneOf 1 = .ok (.getfield 38, 3) := by decide +kernel
theorem dX8_doneOf_4 : decode cX8_doneOf 4 = .ok (.bipush 16, 2) := by decide +kernel
theorem dX8_doneOf_6 : decode cX8_doneOf 6 = .ok (.iload_n 1, 1) := by decide +kernel
theorem dX8_doneOf_7 : decode cX8_doneOf 7 = .ok (.iadd, 1) := by decide +kernel
theorem dX8_doneOf_8 : decode cX8_doneOf 8 = .ok (.iaload, 1) := by decide +kernel
theorem dX8_doneOf_9 : decode cX8_doneOf 9 = .ok (.istore_n 2, 1) := by decide +kernel
theorem dX8_doneOf_10 : decode cX8_doneOf 10 = .ok (.iload_n 2, 1) := by decide +kernel
theorem dX8_doneOf_11 : decode cX8_doneOf 11 = .ok (.ifCond .le 61, 3) := by decide +kernel
theorem dX8_doneOf_14 : decode cX8_doneOf 14 = .ok (.iload_n 2, 1) := by decide +kernel
theorem dX8_doneOf_15 : decode cX8_doneOf 15 = .ok (.aload_n 0, 1) := by decide +kernel
theorem dX8_doneOf_16 : decode cX8_doneOf 16 = .ok (.getfield 16, 3) := by decide +kernel
theorem dX8_doneOf_19 : decode cX8_doneOf 19 = .ok (.iload_n 1, 1) := by decide +kernel
theorem dX8_doneOf_20 : decode cX8_doneOf 20 = .ok (.iaload, 1) := by decide +kernel
theorem dX8_doneOf_21 : decode cX8_doneOf 21 = .ok (.if_icmp .ge 51, 3) := by decide +kernel
theorem dX8_doneOf_24 : decode cX8_doneOf 24 = .ok (.aload_n 0, 1) := by decide +kernel
theorem dX8_doneOf_25 : decode cX8_doneOf 25 = .ok (.getfield 28, 3) := by decide +kernel
theorem dX8_doneOf_28 : decode cX8_doneOf 28 = .ok (.iconst 4, 1) := by decide +kernel
theorem dX8_doneOf_29 : decode cX8_doneOf 29 = .ok (.iload_n 1, 1) := by decide +kernel
theorem dX8_doneOf_30 : decode cX8_doneOf 30 = .ok (.imul, 1) := by decide +kernel
theorem dX8_doneOf_31 : decode cX8_doneOf 31 = .ok (.iload_n 2, 1) := by decide +kernel
theorem dX8_doneOf_32 : decode cX8_doneOf 32 = .ok (.iadd, 1) := by decide +kernel
theorem dX8_doneOf_33 : decode cX8_doneOf 33 = .ok (.iaload, 1) := by decide +kernel
theorem dX8_doneOf_34 : decode cX8_doneOf 34 = .ok (.bipush (-9), 2) := by decide +kernel
theorem dX8_doneOf_36 : decode cX8_doneOf 36 = .ok (.if_icmp .eq 36, 3) := by decide +kernel
theorem dX8_doneOf_39 : decode cX8_doneOf 39 = .ok (.aload_n 0, 1) := by decide +kernel
theorem dX8_doneOf_40 : decode cX8_doneOf 40 = .ok (.getfield 38, 3) := by decide +kernel
theorem dX8_doneOf_43 : decode cX8_doneOf 43 = .ok (.iconst 0, 1) := by decide +kernel
theorem dX8_doneOf_44 : decode cX8_doneOf 44 = .ok (.iaload, 1) := by decide +kernel
theorem dX8_doneOf_45 : decode cX8_doneOf 45 = .ok (.aload_n 0, 1) := by decide +kernel
theorem dX8_doneOf_46 : decode cX8_doneOf 46 = .ok (.getfield 38, 3) := by decide +kernel
theorem dX8_doneOf_49 : decode cX8_doneOf 49 = .ok (.bipush 18, 2) := by decide +kernel
theorem dX8_doneOf_51 : decode cX8_doneOf 51 = .ok (.iload_n 1, 1) := by decide +kernel
theorem dX8_doneOf_52 : decode cX8_doneOf 52 = .ok (.iadd, 1) := by decide +kernel
theorem dX8_doneOf_53 : decode cX8_doneOf 53 = .ok (.iaload, 1) := by decide +kernel
theorem dX8_doneOf_54 : decode cX8_doneOf 54 = .ok (.isub, 1) := by decide +kernel
theorem dX8_doneOf_55 : decode cX8_doneOf 55 = .ok (.aload_n 0, 1) := by decide +kernel
theorem dX8_doneOf_56 : decode cX8_doneOf 56 = .ok (.getfield 28, 3) := by decide +kernel
theorem dX8_doneOf_59 : decode cX8_doneOf 59 = .ok (.iconst 4, 1) := by decide +kernel
theorem dX8_doneOf_60 : decode cX8_doneOf 60 = .ok (.iload_n 1, 1) := by decide +kernel
theorem dX8_doneOf_61 : decode cX8_doneOf 61 = .ok (.imul, 1) := by decide +kernel
theorem dX8_doneOf_62 : decode cX8_doneOf 62 = .ok (.iload_n 2, 1) := by decide +kernel
theorem dX8_doneOf_63 : decode cX8_doneOf 63 = .ok (.iadd, 1) := by decide +kernel
theorem dX8_doneOf_64 : decode cX8_doneOf 64 = .ok (.iaload, 1) := by decide +kernel
theorem dX8_doneOf_65 : decode cX8_doneOf 65 = .ok (.if_icmp .le 7, 3) := by decide +kernel
theorem dX8_doneOf_68 : decode cX8_doneOf 68 = .ok (.iconst 1, 1) := by decide +kernel
theorem dX8_doneOf_69 : decode cX8_doneOf 69 = .ok (.goto 4, 3) := by decide +kernel
theorem dX8_doneOf_72 : decode cX8_doneOf 72 = .ok (.iconst 0, 1) := by decide +kernel
theorem dX8_doneOf_73 : decode cX8_doneOf 73 = .ok (.istore_n 3, 1) := by decide +kernel
theorem dX8_doneOf_74 : decode cX8_doneOf 74 = .ok (.iload_n 3, 1) := by decide +kernel
theorem dX8_doneOf_75 : decode cX8_doneOf 75 = .ok (.ifCond .eq 7, 3) := by decide +kernel
theorem dX8_doneOf_78 : decode cX8_doneOf 78 = .ok (.iconst 0, 1) := by decide +kernel
theorem dX8_doneOf_79 : decode cX8_doneOf 79 = .ok (.goto 4, 3) := by decide +kernel
theorem dX8_doneOf_82 : decode cX8_doneOf 82 = .ok (.iload_n 2, 1) := by decide +kernel
theorem dX8_doneOf_83 : decode cX8_doneOf 83 = .ok (.ireturn, 1) := by decide +kernel
theorem dX8_isCarried_0 : decode cX8_isCarried 0 = .ok (.aload_n 0, 1) := by decide +kernel
theorem dX8_isCarried_1 : decode cX8_isCarried 1 = .ok (.getfield 38, 3) := by decide +kernel
theorem dX8_isCarried_4 : decode cX8_isCarried 4 = .ok (.iconst 5, 1) := by decide +kernel
theorem dX8_isCarried_5 : decode cX8_isCarried 5 = .ok (.iaload, 1) := by decide +kernel
theorem dX8_isCarried_6 : decode cX8_isCarried 6 = .ok (.iload_n 1, 1) := by decide +kernel
theorem dX8_isCarried_7 : decode cX8_isCarried 7 = .ok (.ishr, 1) := by decide +kernel
theorem dX8_isCarried_8 : decode cX8_isCarried 8 = .ok (.iconst 1, 1) := by decide +kernel
theorem dX8_isCarried_9 : decode cX8_isCarried 9 = .ok (.iand, 1) := by decide +kernel
theorem dX8_isCarried_10 : decode cX8_isCarried 10 = .ok (.iconst 1, 1) := by decide +kernel
theorem dX8_isCarried_11 : decode cX8_isCarried 11 = .ok (.if_icmp .ne 7, 3) := by decide +kernel
theorem dX8_isCarried_14 : decode cX8_isCarried 14 = .ok (.iconst 1, 1) := by decide +kernel
theorem dX8_isCarried_15 : decode cX8_isCarried 15 = .ok (.goto 4, 3) := by decide +kernel
theorem dX8_isCarried_18 : decode cX8_isCarried 18 = .ok (.iconst 0, 1) := by decide +kernel
theorem dX8_isCarried_19 : decode cX8_isCarried 19 = .ok (.ireturn, 1) := by decide +kernel
theorem dX8_isVoid_0 : decode cX8_isVoid 0 = .ok (.aload_n 0, 1) := by decide +kernel
theorem dX8_isVoid_1 : decode cX8_isVoid 1 = .ok (.getfield 38, 3) := by decide +kernel
theorem dX8_isVoid_4 : decode cX8_isVoid 4 = .ok (.bipush 6, 2) := by decide +kernel
theorem dX8_isVoid_6 : decode cX8_isVoid 6 = .ok (.iaload, 1) := by decide +kernel
theorem dX8_isVoid_7 : decode cX8_isVoid 7 = .ok (.iload_n 1, 1) := by decide +kernel
theorem dX8_isVoid_8 : decode cX8_isVoid 8 = .ok (.ishr, 1) := by decide +kernel
theorem dX8_isVoid_9 : decode cX8_isVoid 9 = .ok (.iconst 1, 1) := by decide +kernel
theorem dX8_isVoid_10 : decode cX8_isVoid 10 = .ok (.iand, 1) := by decide +kernel
theorem dX8_isVoid_11 : decode cX8_isVoid 11 = .ok (.iconst 1, 1) := by decide +kernel
theorem dX8_isVoid_12 : decode cX8_isVoid 12 = .ok (.if_icmp .ne 7, 3) := by decide +kernel
theorem dX8_isVoid_15 : decode cX8_isVoid 15 = .ok (.iconst 1, 1) := by decide +kernel
theorem dX8_isVoid_16 : decode cX8_isVoid 16 = .ok (.goto 4, 3) := by decide +kernel
theorem dX8_isVoid_19 : decode cX8_isVoid 19 = .ok (.iconst 0, 1) := by decide +kernel
theorem dX8_isVoid_20 : decode cX8_isVoid 20 = .ok (.ireturn, 1) := by decide +kernel
theorem dX8_call_0 : decode cX8_call 0 = .ok (.aload_n 0, 1) := by decide +kernel
theorem dX8_call_1 : decode cX8_call 1 = .ok (.iload_n 1, 1) := by decide +kernel
theorem dX8_call_2 : decode cX8_call 2 = .ok (.invokevirtual 198, 3) := by decide +kernel
theorem dX8_call_5 : decode cX8_call 5 = .ok (.istore_n 2, 1) := by decide +kernel
theorem dX8_call_6 : decode cX8_call 6 = .ok (.iload_n 2, 1) := by decide +kernel
theorem dX8_call_7 : decode cX8_call 7 = .ok (.aload_n 0, 1) := by decide +kernel
theorem dX8_call_8 : decode cX8_call 8 = .ok (.getfield 16, 3) := by decide +kernel
theorem dX8_call_11 : decode cX8_call 11 = .ok (.iload_n 1, 1) := by decide +kernel
theorem dX8_call_12 : decode cX8_call 12 = .ok (.iaload, 1) := by decide +kernel
theorem dX8_call_13 : decode cX8_call 13 = .ok (.if_icmp .eq 13, 3) := by decide +kernel
theorem dX8_call_16 : decode cX8_call 16 = .ok (.aload_n 0, 1) := by decide +kernel
theorem dX8_call_17 : decode cX8_call 17 = .ok (.getfield 38, 3) := by decide +kernel
theorem dX8_call_20 : decode cX8_call 20 = .ok (.iconst 4, 1) := by decide +kernel
theorem dX8_call_21 : decode cX8_call 21 = .ok (.iaload, 1) := by decide +kernel
theorem dX8_call_22 : decode cX8_call 22 = .ok (.iconst 1, 1) := by decide +kernel
theorem dX8_call_23 : decode cX8_call 23 = .ok (.if_icmp .ne 5, 3) := by decide +kernel
theorem dX8_call_26 : decode cX8_call 26 = .ok (.iconst 0, 1) := by decide +kernel
theorem dX8_call_27 : decode cX8_call 27 = .ok (.ireturn, 1) := by decide +kernel
theorem dX8_call_28 : decode cX8_call 28 = .ok (.aload_n 0, 1) := by decide +kernel
theorem dX8_call_29 : decode cX8_call 29 = .ok (.iload_n 1, 1) := by decide +kernel
theorem dX8_call_30 : decode cX8_call 30 = .ok (.iconst 1, 1) := by decide +kernel
theorem dX8_call_31 : decode cX8_call 31 = .ok (.invokevirtual 188, 3) := by decide +kernel
theorem dX8_call_34 : decode cX8_call 34 = .ok (.aload_n 0, 1) := by decide +kernel
theorem dX8_call_35 : decode cX8_call 35 = .ok (.getfield 38, 3) := by decide +kernel
theorem dX8_call_38 : decode cX8_call 38 = .ok (.iconst 0, 1) := by decide +kernel
theorem dX8_call_39 : decode cX8_call 39 = .ok (.iaload, 1) := by decide +kernel
theorem dX8_call_40 : decode cX8_call 40 = .ok (.istore_n 3, 1) := by decide +kernel
theorem dX8_call_41 : decode cX8_call 41 = .ok (.aload_n 0, 1) := by decide +kernel
theorem dX8_call_42 : decode cX8_call 42 = .ok (.iload_n 2, 1) := by decide +kernel
theorem dX8_call_43 : decode cX8_call 43 = .ok (.aload_n 0, 1) := by decide +kernel
theorem dX8_call_44 : decode cX8_call 44 = .ok (.getfield 38, 3) := by decide +kernel
theorem dX8_call_47 : decode cX8_call 47 = .ok (.bipush 18, 2) := by decide +kernel
theorem dX8_call_49 : decode cX8_call 49 = .ok (.iload_n 1, 1) := by decide +kernel
theorem dX8_call_50 : decode cX8_call 50 = .ok (.iadd, 1) := by decide +kernel
theorem dX8_call_51 : decode cX8_call 51 = .ok (.iaload, 1) := by decide +kernel
theorem dX8_call_52 : decode cX8_call 52 = .ok (.iload_n 3, 1) := by decide +kernel
theorem dX8_call_53 : decode cX8_call 53 = .ok (.invokevirtual 201, 3) := by decide +kernel
theorem dX8_call_56 : decode cX8_call 56 = .ok (.ifCond .ne 5, 3) := by decide +kernel
theorem dX8_call_59 : decode cX8_call 59 = .ok (.iconst 0, 1) := by decide +kernel
theorem dX8_call_60 : decode cX8_call 60 = .ok (.ireturn, 1) := by decide +kernel
theorem dX8_call_61 : decode cX8_call 61 = .ok (.aload_n 0, 1) := by decide +kernel
theorem dX8_call_62 : decode cX8_call 62 = .ok (.getfield 38, 3) := by decide +kernel
theorem dX8_call_65 : decode cX8_call 65 = .ok (.bipush 9, 2) := by decide +kernel
theorem dX8_call_67 : decode cX8_call 67 = .ok (.iload_n 1, 1) := by decide +kernel
theorem dX8_call_68 : decode cX8_call 68 = .ok (.iastore, 1) := by decide +kernel
theorem dX8_call_69 : decode cX8_call 69 = .ok (.aload_n 0, 1) := by decide +kernel
theorem dX8_call_70 : decode cX8_call 70 = .ok (.getfield 38, 3) := by decide +kernel
theorem dX8_call_73 : decode cX8_call 73 = .ok (.bipush 10, 2) := by decide +kernel
theorem dX8_call_75 : decode cX8_call 75 = .ok (.iload_n 2, 1) := by decide +kernel
theorem dX8_call_76 : decode cX8_call 76 = .ok (.iastore, 1) := by decide +kernel
theorem dX8_call_77 : decode cX8_call 77 = .ok (.aload_n 0, 1) := by decide +kernel
theorem dX8_call_78 : decode cX8_call 78 = .ok (.getfield 38, 3) := by decide +kernel
theorem dX8_call_81 : decode cX8_call 81 = .ok (.bipush 11, 2) := by decide +kernel
theorem dX8_call_83 : decode cX8_call 83 = .ok (.aload_n 0, 1) := by decide +kernel
theorem dX8_call_84 : decode cX8_call 84 = .ok (.getfield 38, 3) := by decide +kernel
theorem dX8_call_87 : decode cX8_call 87 = .ok (.bipush 16, 2) := by decide +kernel
theorem dX8_call_89 : decode cX8_call 89 = .ok (.iload_n 1, 1) := by decide +kernel
theorem dX8_call_90 : decode cX8_call 90 = .ok (.iadd, 1) := by decide +kernel
theorem dX8_call_91 : decode cX8_call 91 = .ok (.iaload, 1) := by decide +kernel
theorem dX8_call_92 : decode cX8_call 92 = .ok (.iastore, 1) := by decide +kernel
theorem dX8_call_93 : decode cX8_call 93 = .ok (.aload_n 0, 1) := by decide +kernel
theorem dX8_call_94 : decode cX8_call 94 = .ok (.getfield 38, 3) := by decide +kernel
theorem dX8_call_97 : decode cX8_call 97 = .ok (.bipush 12, 2) := by decide +kernel
theorem dX8_call_99 : decode cX8_call 99 = .ok (.aload_n 0, 1) := by decide +kernel
theorem dX8_call_100 : decode cX8_call 100 = .ok (.getfield 38, 3) := by decide +kernel
theorem dX8_call_103 : decode cX8_call 103 = .ok (.bipush 18, 2) := by decide +kernel
theorem dX8_call_105 : decode cX8_call 105 = .ok (.iload_n 1, 1) := by decide +kernel
theorem dX8_call_106 : decode cX8_call 106 = .ok (.iadd, 1) := by decide +kernel
theorem dX8_call_107 : decode cX8_call 107 = .ok (.iaload, 1) := by decide +kernel
theorem dX8_call_108 : decode cX8_call 108 = .ok (.iastore, 1) := by decide +kernel
theorem dX8_call_109 : decode cX8_call 109 = .ok (.aload_n 0, 1) := by decide +kernel
theorem dX8_call_110 : decode cX8_call 110 = .ok (.getfield 38, 3) := by decide +kernel
theorem dX8_call_113 : decode cX8_call 113 = .ok (.bipush 13, 2) := by decide +kernel
theorem dX8_call_115 : decode cX8_call 115 = .ok (.iload_n 2, 1) := by decide +kernel
theorem dX8_call_116 : decode cX8_call 116 = .ok (.iconst 1, 1) := by decide +kernel
theorem dX8_call_117 : decode cX8_call 117 = .ok (.iadd, 1) := by decide +kernel
theorem dX8_call_118 : decode cX8_call 118 = .ok (.iastore, 1) := by decide +kernel
theorem dX8_call_119 : decode cX8_call 119 = .ok (.aload_n 0, 1) := by decide +kernel
theorem dX8_call_120 : decode cX8_call 120 = .ok (.getfield 38, 3) := by decide +kernel
theorem dX8_call_123 : decode cX8_call 123 = .ok (.bipush 14, 2) := by decide +kernel
theorem dX8_call_125 : decode cX8_call 125 = .ok (.iload_n 3, 1) := by decide +kernel
theorem dX8_call_126 : decode cX8_call 126 = .ok (.iastore, 1) := by decide +kernel
theorem dX8_call_127 : decode cX8_call 127 = .ok (.aload_n 0, 1) := by decide +kernel
theorem dX8_call_128 : decode cX8_call 128 = .ok (.getfield 38, 3) := by decide +kernel
theorem dX8_call_131 : decode cX8_call 131 = .ok (.bipush 16, 2) := by decide +kernel
theorem dX8_call_133 : decode cX8_call 133 = .ok (.iload_n 1, 1) := by decide +kernel
theorem dX8_call_134 : decode cX8_call 134 = .ok (.iadd, 1) := by decide +kernel
theorem dX8_call_135 : decode cX8_call 135 = .ok (.iload_n 2, 1) := by decide +kernel
theorem dX8_call_136 : decode cX8_call 136 = .ok (.iconst 1, 1) := by decide +kernel
theorem dX8_call_137 : decode cX8_call 137 = .ok (.iadd, 1) := by decide +kernel
theorem dX8_call_138 : decode cX8_call 138 = .ok (.iastore, 1) := by decide +kernel
theorem dX8_call_139 : decode cX8_call 139 = .ok (.aload_n 0, 1) := by decide +kernel
theorem dX8_call_140 : decode cX8_call 140 = .ok (.getfield 38, 3) := by decide +kernel
theorem dX8_call_143 : decode cX8_call 143 = .ok (.bipush 18, 2) := by decide +kernel
theorem dX8_call_145 : decode cX8_call 145 = .ok (.iload_n 1, 1) := by decide +kernel
theorem dX8_call_146 : decode cX8_call 146 = .ok (.iadd, 1) := by decide +kernel
theorem dX8_call_147 : decode cX8_call 147 = .ok (.iload_n 3, 1) := by decide +kernel
theorem dX8_call_148 : decode cX8_call 148 = .ok (.iastore, 1) := by decide +kernel
theorem dX8_call_149 : decode cX8_call 149 = .ok (.aload_n 0, 1) := by decide +kernel
theorem dX8_call_150 : decode cX8_call 150 = .ok (.getfield 38, 3) := by decide +kernel
theorem dX8_call_153 : decode cX8_call 153 = .ok (.bipush 7, 2) := by decide +kernel
theorem dX8_call_155 : decode cX8_call 155 = .ok (.iconst 1, 1) := by decide +kernel
theorem dX8_call_156 : decode cX8_call 156 = .ok (.iastore, 1) := by decide +kernel
theorem dX8_call_157 : decode cX8_call 157 = .ok (.aload_n 0, 1) := by decide +kernel
theorem dX8_call_158 : decode cX8_call 158 = .ok (.getfield 38, 3) := by decide +kernel
theorem dX8_call_161 : decode cX8_call 161 = .ok (.iconst 5, 1) := by decide +kernel
theorem dX8_call_162 : decode cX8_call 162 = .ok (.dup2, 1) := by decide +kernel
theorem dX8_call_163 : decode cX8_call 163 = .ok (.iaload, 1) := by decide +kernel
theorem dX8_call_164 : decode cX8_call 164 = .ok (.iload_n 2, 1) := by decide +kernel
theorem dX8_call_165 : decode cX8_call 165 = .ok (.iconst 1, 1) := by decide +kernel
theorem dX8_call_166 : decode cX8_call 166 = .ok (.iadd, 1) := by decide +kernel
theorem dX8_call_167 : decode cX8_call 167 = .ok (.aload_n 0, 1) := by decide +kernel
theorem dX8_call_168 : decode cX8_call 168 = .ok (.getfield 16, 3) := by decide +kernel
theorem dX8_call_171 : decode cX8_call 171 = .ok (.iload_n 1, 1) := by decide +kernel
theorem dX8_call_172 : decode cX8_call 172 = .ok (.iaload, 1) := by decide +kernel
theorem dX8_call_173 : decode cX8_call 173 = .ok (.if_icmp .ne 17, 3) := by decide +kernel
theorem dX8_call_176 : decode cX8_call 176 = .ok (.aload_n 0, 1) := by decide +kernel
theorem dX8_call_177 : decode cX8_call 177 = .ok (.iload_n 1, 1) := by decide +kernel
theorem dX8_call_178 : decode cX8_call 178 = .ok (.invokevirtual 204, 3) := by decide +kernel
theorem dX8_call_181 : decode cX8_call 181 = .ok (.ifCond .ne 9, 3) := by decide +kernel
theorem dX8_call_184 : decode cX8_call 184 = .ok (.iconst 1, 1) := by decide +kernel
theorem dX8_call_185 : decode cX8_call 185 = .ok (.iload_n 1, 1) := by decide +kernel
theorem dX8_call_186 : decode cX8_call 186 = .ok (.ishl, 1) := by decide +kernel
theorem dX8_call_187 : decode cX8_call 187 = .ok (.goto 4, 3) := by decide +kernel
theorem dX8_call_190 : decode cX8_call 190 = .ok (.iconst 0, 1) := by decide +kernel
theorem dX8_call_191 : decode cX8_call 191 = .ok (.ior, 1) := by decide +kernel
theorem dX8_call_192 : decode cX8_call 192 = .ok (.iastore, 1) := by decide +kernel
theorem dX8_call_193 : decode cX8_call 193 = .ok (.iconst 1, 1) := by decide +kernel
theorem dX8_call_194 : decode cX8_call 194 = .ok (.ireturn, 1) := by decide +kernel
theorem dX8_forbids_0 : decode cX8_forbids 0 = .ok (.aload_n 0, 1) := by decide +kernel
theorem dX8_forbids_1 : decode cX8_forbids 1 = .ok (.getfield 38, 3) := by decide +kernel
theorem dX8_forbids_4 : decode cX8_forbids 4 = .ok (.bipush 9, 2) := by decide +kernel
theorem dX8_forbids_6 : decode cX8_forbids 6 = .ok (.iaload, 1) := by decide +kernel
theorem dX8_forbids_7 : decode cX8_forbids 7 = .ok (.istore_n 2, 1) := by decide +kernel
theorem dX8_forbids_8 : decode cX8_forbids 8 = .ok (.aload_n 0, 1) := by decide +kernel
theorem dX8_forbids_9 : decode cX8_forbids 9 = .ok (.getfield 38, 3) := by decide +kernel
theorem dX8_forbids_12 : decode cX8_forbids 12 = .ok (.bipush 8, 2) := by decide +kernel
theorem dX8_forbids_14 : decode cX8_forbids 14 = .ok (.iaload, 1) := by decide +kernel
theorem dX8_forbids_15 : decode cX8_forbids 15 = .ok (.ifCond .ne 28, 3) := by decide +kernel
theorem dX8_forbids_18 : decode cX8_forbids 18 = .ok (.aload_n 0, 1) := by decide +kernel
theorem dX8_forbids_19 : decode cX8_forbids 19 = .ok (.getfield 52, 3) := by decide +kernel
theorem dX8_forbids_22 : decode cX8_forbids 22 = .ok (.iload_n 1, 1) := by decide +kernel
theorem dX8_forbids_23 : decode cX8_forbids 23 = .ok (.iaload, 1) := by decide +kernel
theorem dX8_forbids_24 : decode cX8_forbids 24 = .ok (.ifCond .le 19, 3) := by decide +kernel
theorem dX8_forbids_27 : decode cX8_forbids 27 = .ok (.aload_n 0, 1) := by decide +kernel
theorem dX8_forbids_28 : decode cX8_forbids 28 = .ok (.getfield 38, 3) := by decide +kernel
theorem dX8_forbids_31 : decode cX8_forbids 31 = .ok (.bipush 20, 2) := by decide +kernel
theorem dX8_forbids_33 : decode cX8_forbids 33 = .ok (.iload_n 1, 1) := by decide +kernel
theorem dX8_forbids_34 : decode cX8_forbids 34 = .ok (.iadd, 1) := by decide +kernel
theorem dX8_forbids_35 : decode cX8_forbids 35 = .ok (.iaload, 1) := by decide +kernel
theorem dX8_forbids_36 : decode cX8_forbids 36 = .ok (.ifCond .le 7, 3) := by decide +kernel
theorem dX8_forbids_39 : decode cX8_forbids 39 = .ok (.iconst 1, 1) := by decide +kernel
theorem dX8_forbids_40 : decode cX8_forbids 40 = .ok (.goto 4, 3) := by decide +kernel
theorem dX8_forbids_43 : decode cX8_forbids 43 = .ok (.iconst 0, 1) := by decide +kernel
theorem dX8_forbids_44 : decode cX8_forbids 44 = .ok (.istore_n 3, 1) := by decide +kernel
theorem dX8_forbids_45 : decode cX8_forbids 45 = .ok (.iload_n 3, 1) := by decide +kernel
theorem dX8_forbids_46 : decode cX8_forbids 46 = .ok (.ifCond .eq 29, 3) := by decide +kernel
theorem dX8_forbids_49 : decode cX8_forbids 49 = .ok (.aload_n 0, 1) := by decide +kernel
theorem dX8_forbids_50 : decode cX8_forbids 50 = .ok (.getfield 31, 3) := by decide +kernel
theorem dX8_forbids_53 : decode cX8_forbids 53 = .ok (.iconst 4, 1) := by decide +kernel
theorem dX8_forbids_54 : decode cX8_forbids 54 = .ok (.iload_n 2, 1) := by decide +kernel
theorem dX8_forbids_55 : decode cX8_forbids 55 = .ok (.imul, 1) := by decide +kernel
theorem dX8_forbids_56 : decode cX8_forbids 56 = .ok (.aload_n 0, 1) := by decide +kernel
theorem dX8_forbids_57 : decode cX8_forbids 57 = .ok (.getfield 38, 3) := by decide +kernel
theorem dX8_forbids_60 : decode cX8_forbids 60 = .ok (.bipush 10, 2) := by decide +kernel
theorem dX8_forbids_62 : decode cX8_forbids 62 = .ok (.iaload, 1) := by decide +kernel
theorem dX8_forbids_63 : decode cX8_forbids 63 = .ok (.iadd, 1) := by decide +kernel
theorem dX8_forbids_64 : decode cX8_forbids 64 = .ok (.iaload, 1) := by decide +kernel
theorem dX8_forbids_65 : decode cX8_forbids 65 = .ok (.aload_n 0, 1) := by decide +kernel
theorem dX8_forbids_66 : decode cX8_forbids 66 = .ok (.getfield 52, 3) := by decide +kernel
theorem dX8_forbids_69 : decode cX8_forbids 69 = .ok (.iload_n 1, 1) := by decide +kernel
theorem dX8_forbids_70 : decode cX8_forbids 70 = .ok (.iaload, 1) := by decide +kernel
theorem dX8_forbids_71 : decode cX8_forbids 71 = .ok (.iand, 1) := by decide +kernel
theorem dX8_forbids_72 : decode cX8_forbids 72 = .ok (.ifCond .ne 5, 3) := by decide +kernel
theorem dX8_forbids_75 : decode cX8_forbids 75 = .ok (.iconst 0, 1) := by decide +kernel
theorem dX8_forbids_76 : decode cX8_forbids 76 = .ok (.ireturn, 1) := by decide +kernel
theorem dX8_forbids_77 : decode cX8_forbids 77 = .ok (.aload_n 0, 1) := by decide +kernel
theorem dX8_forbids_78 : decode cX8_forbids 78 = .ok (.getfield 38, 3) := by decide +kernel
theorem dX8_forbids_81 : decode cX8_forbids 81 = .ok (.bipush 16, 2) := by decide +kernel
theorem dX8_forbids_83 : decode cX8_forbids 83 = .ok (.iload_n 2, 1) := by decide +kernel
theorem dX8_forbids_84 : decode cX8_forbids 84 = .ok (.iadd, 1) := by decide +kernel
theorem dX8_forbids_85 : decode cX8_forbids 85 = .ok (.aload_n 0, 1) := by decide +kernel
theorem dX8_forbids_86 : decode cX8_forbids 86 = .ok (.getfield 38, 3) := by decide +kernel
theorem dX8_forbids_89 : decode cX8_forbids 89 = .ok (.bipush 11, 2) := by decide +kernel
theorem dX8_forbids_91 : decode cX8_forbids 91 = .ok (.iaload, 1) := by decide +kernel
theorem dX8_forbids_92 : decode cX8_forbids 92 = .ok (.iastore, 1) := by decide +kernel
theorem dX8_forbids_93 : decode cX8_forbids 93 = .ok (.aload_n 0, 1) := by decide +kernel
theorem dX8_forbids_94 : decode cX8_forbids 94 = .ok (.getfield 38, 3) := by decide +kernel
theorem dX8_forbids_97 : decode cX8_forbids 97 = .ok (.bipush 18, 2) := by decide +kernel
theorem dX8_forbids_99 : decode cX8_forbids 99 = .ok (.iload_n 2, 1) := by decide +kernel
theorem dX8_forbids_100 : decode cX8_forbids 100 = .ok (.iadd, 1) := by decide +kernel
theorem dX8_forbids_101 : decode cX8_forbids 101 = .ok (.aload_n 0, 1) := by decide +kernel
theorem dX8_forbids_102 : decode cX8_forbids 102 = .ok (.getfield 38, 3) := by decide +kernel
theorem dX8_forbids_105 : decode cX8_forbids 105 = .ok (.bipush 12, 2) := by decide +kernel
theorem dX8_forbids_107 : decode cX8_forbids 107 = .ok (.iaload, 1) := by decide +kernel
theorem dX8_forbids_108 : decode cX8_forbids 108 = .ok (.iastore, 1) := by decide +kernel
theorem dX8_forbids_109 : decode cX8_forbids 109 = .ok (.aload_n 0, 1) := by decide +kernel
theorem dX8_forbids_110 : decode cX8_forbids 110 = .ok (.getfield 38, 3) := by decide +kernel
theorem dX8_forbids_113 : decode cX8_forbids 113 = .ok (.iconst 5, 1) := by decide +kernel
theorem dX8_forbids_114 : decode cX8_forbids 114 = .ok (.dup2, 1) := by decide +kernel
theorem dX8_forbids_115 : decode cX8_forbids 115 = .ok (.iaload, 1) := by decide +kernel
theorem dX8_forbids_116 : decode cX8_forbids 116 = .ok (.iconst 1, 1) := by decide +kernel
theorem dX8_forbids_117 : decode cX8_forbids 117 = .ok (.iload_n 2, 1) := by decide +kernel
theorem dX8_forbids_118 : decode cX8_forbids 118 = .ok (.ishl, 1) := by decide +kernel
theorem dX8_forbids_119 : decode cX8_forbids 119 = .ok (.iconst (-1), 1) := by decide +kernel
theorem dX8_forbids_120 : decode cX8_forbids 120 = .ok (.ixor, 1) := by decide +kernel
theorem dX8_forbids_121 : decode cX8_forbids 121 = .ok (.iand, 1) := by decide +kernel
theorem dX8_forbids_122 : decode cX8_forbids 122 = .ok (.iastore, 1) := by decide +kernel
theorem dX8_forbids_123 : decode cX8_forbids 123 = .ok (.aload_n 0, 1) := by decide +kernel
theorem dX8_forbids_124 : decode cX8_forbids 124 = .ok (.getfield 38, 3) := by decide +kernel
theorem dX8_forbids_127 : decode cX8_forbids 127 = .ok (.bipush 20, 2) := by decide +kernel
theorem dX8_forbids_129 : decode cX8_forbids 129 = .ok (.iload_n 1, 1) := by decide +kernel
theorem dX8_forbids_130 : decode cX8_forbids 130 = .ok (.iadd, 1) := by decide +kernel
theorem dX8_forbids_131 : decode cX8_forbids 131 = .ok (.dup2, 1) := by decide +kernel
theorem dX8_forbids_132 : decode cX8_forbids 132 = .ok (.iaload, 1) := by decide +kernel
theorem dX8_forbids_133 : decode cX8_forbids 133 = .ok (.iconst 1, 1) := by decide +kernel
theorem dX8_forbids_134 : decode cX8_forbids 134 = .ok (.isub, 1) := by decide +kernel
theorem dX8_forbids_135 : decode cX8_forbids 135 = .ok (.iastore, 1) := by decide +kernel
theorem dX8_forbids_136 : decode cX8_forbids 136 = .ok (.iconst 1, 1) := by decide +kernel
theorem dX8_forbids_137 : decode cX8_forbids 137 = .ok (.ireturn, 1) := by decide +kernel
theorem dX8_isSigner_0 : decode cX8_isSigner 0 = .ok (.aload_n 0, 1) := by decide +kernel
theorem dX8_isSigner_1 : decode cX8_isSigner 1 = .ok (.getfield 52, 3) := by decide +kernel
theorem dX8_isSigner_4 : decode cX8_isSigner 4 = .ok (.iload_n 1, 1) := by decide +kernel
theorem dX8_isSigner_5 : decode cX8_isSigner 5 = .ok (.iaload, 1) := by decide +kernel
theorem dX8_isSigner_6 : decode cX8_isSigner 6 = .ok (.iconst 2, 1) := by decide +kernel
theorem dX8_isSigner_7 : decode cX8_isSigner 7 = .ok (.if_icmp .ne 19, 3) := by decide +kernel
theorem dX8_isSigner_10 : decode cX8_isSigner 10 = .ok (.aload_n 0, 1) := by decide +kernel
theorem dX8_isSigner_11 : decode cX8_isSigner 11 = .ok (.getfield 38, 3) := by decide +kernel
theorem dX8_isSigner_14 : decode cX8_isSigner 14 = .ok (.bipush 20, 2) := by decide +kernel
theorem dX8_isSigner_16 : decode cX8_isSigner 16 = .ok (.iload_n 1, 1) := by decide +kernel
theorem dX8_isSigner_17 : decode cX8_isSigner 17 = .ok (.iadd, 1) := by decide +kernel
theorem dX8_isSigner_18 : decode cX8_isSigner 18 = .ok (.iaload, 1) := by decide +kernel
theorem dX8_isSigner_19 : decode cX8_isSigner 19 = .ok (.ifCond .le 7, 3) := by decide +kernel
theorem dX8_isSigner_22 : decode cX8_isSigner 22 = .ok (.iconst 1, 1) := by decide +kernel
theorem dX8_isSigner_23 : decode cX8_isSigner 23 = .ok (.goto 4, 3) := by decide +kernel
theorem dX8_isSigner_26 : decode cX8_isSigner 26 = .ok (.iconst 0, 1) := by decide +kernel
theorem dX8_isSigner_27 : decode cX8_isSigner 27 = .ok (.ireturn, 1) := by decide +kernel
theorem dX8_isLawful_0 : decode cX8_isLawful 0 = .ok (.iload_n 1, 1) := by decide +kernel
theorem dX8_isLawful_1 : decode cX8_isLawful 1 = .ok (.tableswitch 234 0 4 #[35, 41, 47, 100, 156], 35) := by decide +kernel
theorem dX8_isLawful_36 : decode cX8_isLawful 36 = .ok (.aload_n 0, 1) := by decide +kernel
theorem dX8_isLawful_37 : decode cX8_isLawful 37 = .ok (.iload_n 3, 1) := by decide +kernel
theorem dX8_isLawful_38 : decode cX8_isLawful 38 = .ok (.invokevirtual 207, 3) := by decide +kernel
theorem dX8_isLawful_41 : decode cX8_isLawful 41 = .ok (.ireturn, 1) := by decide +kernel
theorem dX8_isLawful_42 : decode cX8_isLawful 42 = .ok (.aload_n 0, 1) := by decide +kernel
theorem dX8_isLawful_43 : decode cX8_isLawful 43 = .ok (.iload_n 2, 1) := by decide +kernel
theorem dX8_isLawful_44 : decode cX8_isLawful 44 = .ok (.invokevirtual 210, 3) := by decide +kernel
theorem dX8_isLawful_47 : decode cX8_isLawful 47 = .ok (.ireturn, 1) := by decide +kernel
theorem dX8_isLawful_48 : decode cX8_isLawful 48 = .ok (.aload_n 0, 1) := by decide +kernel
theorem dX8_isLawful_49 : decode cX8_isLawful 49 = .ok (.iload_n 2, 1) := by decide +kernel
theorem dX8_isLawful_50 : decode cX8_isLawful 50 = .ok (.invokevirtual 213, 3) := by decide +kernel
theorem dX8_isLawful_53 : decode cX8_isLawful 53 = .ok (.ifCond .eq 24, 3) := by decide +kernel
theorem dX8_isLawful_56 : decode cX8_isLawful 56 = .ok (.aload_n 0, 1) := by decide +kernel
theorem dX8_isLawful_57 : decode cX8_isLawful 57 = .ok (.getfield 38, 3) := by decide +kernel
theorem dX8_isLawful_60 : decode cX8_isLawful 60 = .ok (.bipush 7, 2) := by decide +kernel
theorem dX8_isLawful_62 : decode cX8_isLawful 62 = .ok (.iaload, 1) := by decide +kernel
theorem dX8_isLawful_63 : decode cX8_isLawful 63 = .ok (.iconst 1, 1) := by decide +kernel
theorem dX8_isLawful_64 : decode cX8_isLawful 64 = .ok (.if_icmp .eq 13, 3) := by decide +kernel
theorem dX8_isLawful_67 : decode cX8_isLawful 67 = .ok (.aload_n 0, 1) := by decide +kernel
theorem dX8_isLawful_68 : decode cX8_isLawful 68 = .ok (.getfield 38, 3) := by decide +kernel
theorem dX8_isLawful_71 : decode cX8_isLawful 71 = .ok (.iconst 4, 1) := by decide +kernel
theorem dX8_isLawful_72 : decode cX8_isLawful 72 = .ok (.iaload, 1) := by decide +kernel
theorem dX8_isLawful_73 : decode cX8_isLawful 73 = .ok (.iconst 1, 1) := by decide +kernel
theorem dX8_isLawful_74 : decode cX8_isLawful 74 = .ok (.if_icmp .ne 5, 3) := by decide +kernel
theorem dX8_isLawful_77 : decode cX8_isLawful 77 = .ok (.iconst 0, 1) := by decide +kernel
theorem dX8_isLawful_78 : decode cX8_isLawful 78 = .ok (.ireturn, 1) := by decide +kernel
theorem dX8_isLawful_79 : decode cX8_isLawful 79 = .ok (.aload_n 0, 1) := by decide +kernel
theorem dX8_isLawful_80 : decode cX8_isLawful 80 = .ok (.getfield 38, 3) := by decide +kernel
theorem dX8_isLawful_83 : decode cX8_isLawful 83 = .ok (.iconst 4, 1) := by decide +kernel
theorem dX8_isLawful_84 : decode cX8_isLawful 84 = .ok (.iconst 1, 1) := by decide +kernel
theorem dX8_isLawful_85 : decode cX8_isLawful 85 = .ok (.iastore, 1) := by decide +kernel
theorem dX8_isLawful_86 : decode cX8_isLawful 86 = .ok (.aload_n 0, 1) := by decide +kernel
theorem dX8_isLawful_87 : decode cX8_isLawful 87 = .ok (.getfield 38, 3) := by decide +kernel
theorem dX8_isLawful_90 : decode cX8_isLawful 90 = .ok (.bipush 20, 2) := by decide +kernel
theorem dX8_isLawful_92 : decode cX8_isLawful 92 = .ok (.iload_n 2, 1) := by decide +kernel
theorem dX8_isLawful_93 : decode cX8_isLawful 93 = .ok (.iadd, 1) := by decide +kernel
theorem dX8_isLawful_94 : decode cX8_isLawful 94 = .ok (.dup2, 1) := by decide +kernel
theorem dX8_isLawful_95 : decode cX8_isLawful 95 = .ok (.iaload, 1) := by decide +kernel
theorem dX8_isLawful_96 : decode cX8_isLawful 96 = .ok (.iconst 1, 1) := by decide +kernel
theorem dX8_isLawful_97 : decode cX8_isLawful 97 = .ok (.isub, 1) := by decide +kernel
theorem dX8_isLawful_98 : decode cX8_isLawful 98 = .ok (.iastore, 1) := by decide +kernel
theorem dX8_isLawful_99 : decode cX8_isLawful 99 = .ok (.iconst 1, 1) := by decide +kernel
theorem dX8_isLawful_100 : decode cX8_isLawful 100 = .ok (.ireturn, 1) := by decide +kernel
theorem dX8_isLawful_101 : decode cX8_isLawful 101 = .ok (.aload_n 0, 1) := by decide +kernel
theorem dX8_isLawful_102 : decode cX8_isLawful 102 = .ok (.iload_n 2, 1) := by decide +kernel
theorem dX8_isLawful_103 : decode cX8_isLawful 103 = .ok (.invokevirtual 213, 3) := by decide +kernel
theorem dX8_isLawful_106 : decode cX8_isLawful 106 = .ok (.ifCond .eq 22, 3) := by decide +kernel
theorem dX8_isLawful_109 : decode cX8_isLawful 109 = .ok (.iload_n 3, 1) := by decide +kernel
theorem dX8_isLawful_110 : decode cX8_isLawful 110 = .ok (.aload_n 0, 1) := by decide +kernel
theorem dX8_isLawful_111 : decode cX8_isLawful 111 = .ok (.getfield 38, 3) := by decide +kernel
theorem dX8_isLawful_114 : decode cX8_isLawful 114 = .ok (.iconst 0, 1) := by decide +kernel
theorem dX8_isLawful_115 : decode cX8_isLawful 115 = .ok (.iaload, 1) := by decide +kernel
theorem dX8_isLawful_116 : decode cX8_isLawful 116 = .ok (.if_icmp .le 12, 3) := by decide +kernel
theorem dX8_isLawful_119 : decode cX8_isLawful 119 = .ok (.aload_n 0, 1) := by decide +kernel
theorem dX8_isLawful_120 : decode cX8_isLawful 120 = .ok (.iload_n 3, 1) := by decide +kernel
theorem dX8_isLawful_121 : decode cX8_isLawful 121 = .ok (.invokevirtual 165, 3) := by decide +kernel
theorem dX8_isLawful_124 : decode cX8_isLawful 124 = .ok (.iconst 2, 1) := by decide +kernel
theorem dX8_isLawful_125 : decode cX8_isLawful 125 = .ok (.if_icmp .ne 5, 3) := by decide +kernel
theorem dX8_isLawful_128 : decode cX8_isLawful 128 = .ok (.iconst 0, 1) := by decide +kernel
theorem dX8_isLawful_129 : decode cX8_isLawful 129 = .ok (.ireturn, 1) := by decide +kernel
theorem dX8_isLawful_130 : decode cX8_isLawful 130 = .ok (.aload_n 0, 1) := by decide +kernel
theorem dX8_isLawful_131 : decode cX8_isLawful 131 = .ok (.getfield 41, 3) := by decide +kernel
theorem dX8_isLawful_134 : decode cX8_isLawful 134 = .ok (.iconst 0, 1) := by decide +kernel
theorem dX8_isLawful_135 : decode cX8_isLawful 135 = .ok (.dup2, 1) := by decide +kernel
theorem dX8_isLawful_136 : decode cX8_isLawful 136 = .ok (.laload, 1) := by decide +kernel
theorem dX8_isLawful_137 : decode cX8_isLawful 137 = .ok (.lconst 1, 1) := by decide +kernel
theorem dX8_isLawful_138 : decode cX8_isLawful 138 = .ok (.iload_n 3, 1) := by decide +kernel
theorem dX8_isLawful_139 : decode cX8_isLawful 139 = .ok (.lshl, 1) := by decide +kernel
theorem dX8_isLawful_140 : decode cX8_isLawful 140 = .ok (.lor, 1) := by decide +kernel
theorem dX8_isLawful_141 : decode cX8_isLawful 141 = .ok (.lastore, 1) := by decide +kernel
theorem dX8_isLawful_142 : decode cX8_isLawful 142 = .ok (.aload_n 0, 1) := by decide +kernel
theorem dX8_isLawful_143 : decode cX8_isLawful 143 = .ok (.getfield 38, 3) := by decide +kernel
theorem dX8_isLawful_146 : decode cX8_isLawful 146 = .ok (.bipush 20, 2) := by decide +kernel
theorem dX8_isLawful_148 : decode cX8_isLawful 148 = .ok (.iload_n 2, 1) := by decide +kernel
theorem dX8_isLawful_149 : decode cX8_isLawful 149 = .ok (.iadd, 1) := by decide +kernel
theorem dX8_isLawful_150 : decode cX8_isLawful 150 = .ok (.dup2, 1) := by decide +kernel
theorem dX8_isLawful_151 : decode cX8_isLawful 151 = .ok (.iaload, 1) := by decide +kernel
theorem dX8_isLawful_152 : decode cX8_isLawful 152 = .ok (.iconst 1, 1) := by decide +kernel
theorem dX8_isLawful_153 : decode cX8_isLawful 153 = .ok (.isub, 1) := by decide +kernel
theorem dX8_isLawful_154 : decode cX8_isLawful 154 = .ok (.iastore, 1) := by decide +kernel
theorem dX8_isLawful_155 : decode cX8_isLawful 155 = .ok (.iconst 1, 1) := by decide +kernel
theorem dX8_isLawful_156 : decode cX8_isLawful 156 = .ok (.ireturn, 1) := by decide +kernel
theorem dX8_isLawful_157 : decode cX8_isLawful 157 = .ok (.aload_n 0, 1) := by decide +kernel
theorem dX8_isLawful_158 : decode cX8_isLawful 158 = .ok (.getfield 38, 3) := by decide +kernel
theorem dX8_isLawful_161 : decode cX8_isLawful 161 = .ok (.bipush 8, 2) := by decide +kernel
theorem dX8_isLawful_163 : decode cX8_isLawful 163 = .ok (.iaload, 1) := by decide +kernel
theorem dX8_isLawful_164 : decode cX8_isLawful 164 = .ok (.iconst 1, 1) := by decide +kernel
theorem dX8_isLawful_165 : decode cX8_isLawful 165 = .ok (.if_icmp .eq 5, 3) := by decide +kernel
theorem dX8_isLawful_168 : decode cX8_isLawful 168 = .ok (.iconst 0, 1) := by decide +kernel
theorem dX8_isLawful_169 : decode cX8_isLawful 169 = .ok (.ireturn, 1) := by decide +kernel
theorem dX8_isLawful_170 : decode cX8_isLawful 170 = .ok (.aload_n 0, 1) := by decide +kernel
theorem dX8_isLawful_171 : decode cX8_isLawful 171 = .ok (.getfield 38, 3) := by decide +kernel
theorem dX8_isLawful_174 : decode cX8_isLawful 174 = .ok (.bipush 16, 2) := by decide +kernel
theorem dX8_isLawful_176 : decode cX8_isLawful 176 = .ok (.aload_n 0, 1) := by decide +kernel
theorem dX8_isLawful_177 : decode cX8_isLawful 177 = .ok (.getfield 38, 3) := by decide +kernel
theorem dX8_isLawful_180 : decode cX8_isLawful 180 = .ok (.bipush 9, 2) := by decide +kernel
theorem dX8_isLawful_182 : decode cX8_isLawful 182 = .ok (.iaload, 1) := by decide +kernel
theorem dX8_isLawful_183 : decode cX8_isLawful 183 = .ok (.iadd, 1) := by decide +kernel
theorem dX8_isLawful_184 : decode cX8_isLawful 184 = .ok (.aload_n 0, 1) := by decide +kernel
theorem dX8_isLawful_185 : decode cX8_isLawful 185 = .ok (.getfield 38, 3) := by decide +kernel
theorem dX8_isLawful_188 : decode cX8_isLawful 188 = .ok (.bipush 13, 2) := by decide +kernel
theorem dX8_isLawful_190 : decode cX8_isLawful 190 = .ok (.iaload, 1) := by decide +kernel
theorem dX8_isLawful_191 : decode cX8_isLawful 191 = .ok (.iastore, 1) := by decide +kernel
theorem dX8_isLawful_192 : decode cX8_isLawful 192 = .ok (.aload_n 0, 1) := by decide +kernel
theorem dX8_isLawful_193 : decode cX8_isLawful 193 = .ok (.getfield 38, 3) := by decide +kernel
theorem dX8_isLawful_196 : decode cX8_isLawful 196 = .ok (.bipush 18, 2) := by decide +kernel
theorem dX8_isLawful_198 : decode cX8_isLawful 198 = .ok (.aload_n 0, 1) := by decide +kernel
theorem dX8_isLawful_199 : decode cX8_isLawful 199 = .ok (.getfield 38, 3) := by decide +kernel
theorem dX8_isLawful_202 : decode cX8_isLawful 202 = .ok (.bipush 9, 2) := by decide +kernel
theorem dX8_isLawful_204 : decode cX8_isLawful 204 = .ok (.iaload, 1) := by decide +kernel
theorem dX8_isLawful_205 : decode cX8_isLawful 205 = .ok (.iadd, 1) := by decide +kernel
theorem dX8_isLawful_206 : decode cX8_isLawful 206 = .ok (.aload_n 0, 1) := by decide +kernel
theorem dX8_isLawful_207 : decode cX8_isLawful 207 = .ok (.getfield 38, 3) := by decide +kernel
theorem dX8_isLawful_210 : decode cX8_isLawful 210 = .ok (.bipush 14, 2) := by decide +kernel
theorem dX8_isLawful_212 : decode cX8_isLawful 212 = .ok (.iaload, 1) := by decide +kernel
theorem dX8_isLawful_213 : decode cX8_isLawful 213 = .ok (.iastore, 1) := by decide +kernel
theorem dX8_isLawful_214 : decode cX8_isLawful 214 = .ok (.aload_n 0, 1) := by decide +kernel
theorem dX8_isLawful_215 : decode cX8_isLawful 215 = .ok (.getfield 38, 3) := by decide +kernel
theorem dX8_isLawful_218 : decode cX8_isLawful 218 = .ok (.bipush 6, 2) := by decide +kernel
theorem dX8_isLawful_220 : decode cX8_isLawful 220 = .ok (.dup2, 1) := by decide +kernel
theorem dX8_isLawful_221 : decode cX8_isLawful 221 = .ok (.iaload, 1) := by decide +kernel
theorem dX8_isLawful_222 : decode cX8_isLawful 222 = .ok (.iconst 1, 1) := by decide +kernel
theorem dX8_isLawful_223 : decode cX8_isLawful 223 = .ok (.aload_n 0, 1) := by decide +kernel
theorem dX8_isLawful_224 : decode cX8_isLawful 224 = .ok (.getfield 38, 3) := by decide +kernel
theorem dX8_isLawful_227 : decode cX8_isLawful 227 = .ok (.bipush 9, 2) := by decide +kernel
theorem dX8_isLawful_229 : decode cX8_isLawful 229 = .ok (.iaload, 1) := by decide +kernel
theorem dX8_isLawful_230 : decode cX8_isLawful 230 = .ok (.ishl, 1) := by decide +kernel
theorem dX8_isLawful_231 : decode cX8_isLawful 231 = .ok (.ior, 1) := by decide +kernel
theorem dX8_isLawful_232 : decode cX8_isLawful 232 = .ok (.iastore, 1) := by decide +kernel
theorem dX8_isLawful_233 : decode cX8_isLawful 233 = .ok (.iconst 1, 1) := by decide +kernel
theorem dX8_isLawful_234 : decode cX8_isLawful 234 = .ok (.ireturn, 1) := by decide +kernel
theorem dX8_isLawful_235 : decode cX8_isLawful 235 = .ok (.aload_n 0, 1) := by decide +kernel
theorem dX8_isLawful_236 : decode cX8_isLawful 236 = .ok (.getfield 38, 3) := by decide +kernel
theorem dX8_isLawful_239 : decode cX8_isLawful 239 = .ok (.iconst 0, 1) := by decide +kernel
theorem dX8_isLawful_240 : decode cX8_isLawful 240 = .ok (.iaload, 1) := by decide +kernel
end
section
theorem dX8_isLawful_241 : decode cX8_isLawful 241 = .ok (.aload_n 0, 1) := by decide +kernel
theorem dX8_isLawful_242 : decode cX8_isLawful 242 = .ok (.getfield 7, 3) := by decide +kernel
theorem dX8_isLawful_245 : decode cX8_isLawful 245 = .ok (.iconst 0, 1) := by decide +kernel
theorem dX8_isLawful_246 : decode cX8_isLawful 246 = .ok (.iaload, 1) := by decide +kernel
theorem dX8_isLawful_247 : decode cX8_isLawful 247 = .ok (.iconst 1, 1) := by decide +kernel
theorem dX8_isLawful_248 : decode cX8_isLawful 248 = .ok (.isub, 1) := by decide +kernel
theorem dX8_isLawful_249 : decode cX8_isLawful 249 = .ok (.if_icmp .ne 5, 3) := by decide +kernel
theorem dX8_isLawful_252 : decode cX8_isLawful 252 = .ok (.iconst 0, 1) := by decide +kernel
theorem dX8_isLawful_253 : decode cX8_isLawful 253 = .ok (.ireturn, 1) := by decide +kernel
theorem dX8_isLawful_254 : decode cX8_isLawful 254 = .ok (.aload_n 0, 1) := by decide +kernel
theorem dX8_isLawful_255 : decode cX8_isLawful 255 = .ok (.getfield 38, 3) := by decide +kernel
theorem dX8_isLawful_258 : decode cX8_isLawful 258 = .ok (.iconst 0, 1) := by decide +kernel
theorem dX8_isLawful_259 : decode cX8_isLawful 259 = .ok (.dup2, 1) := by decide +kernel
theorem dX8_isLawful_260 : decode cX8_isLawful 260 = .ok (.iaload, 1) := by decide +kernel
theorem dX8_isLawful_261 : decode cX8_isLawful 261 = .ok (.iconst 1, 1) := by decide +kernel
theorem dX8_isLawful_262 : decode cX8_isLawful 262 = .ok (.iadd, 1) := by decide +kernel
theorem dX8_isLawful_263 : decode cX8_isLawful 263 = .ok (.iastore, 1) := by decide +kernel
theorem dX8_isLawful_264 : decode cX8_isLawful 264 = .ok (.aload_n 0, 1) := by decide +kernel
theorem dX8_isLawful_265 : decode cX8_isLawful 265 = .ok (.getfield 38, 3) := by decide +kernel
theorem dX8_isLawful_268 : decode cX8_isLawful 268 = .ok (.iconst 4, 1) := by decide +kernel
theorem dX8_isLawful_269 : decode cX8_isLawful 269 = .ok (.iconst 0, 1) := by decide +kernel
theorem dX8_isLawful_270 : decode cX8_isLawful 270 = .ok (.iastore, 1) := by decide +kernel
theorem dX8_isLawful_271 : decode cX8_isLawful 271 = .ok (.aload_n 0, 1) := by decide +kernel
theorem dX8_isLawful_272 : decode cX8_isLawful 272 = .ok (.getfield 38, 3) := by decide +kernel
theorem dX8_isLawful_275 : decode cX8_isLawful 275 = .ok (.bipush 7, 2) := by decide +kernel
theorem dX8_isLawful_277 : decode cX8_isLawful 277 = .ok (.iconst 0, 1) := by decide +kernel
theorem dX8_isLawful_278 : decode cX8_isLawful 278 = .ok (.iastore, 1) := by decide +kernel
theorem dX8_isLawful_279 : decode cX8_isLawful 279 = .ok (.iconst 1, 1) := by decide +kernel
theorem dX8_isLawful_280 : decode cX8_isLawful 280 = .ok (.ireturn, 1) := by decide +kernel
theorem dX8_act_0 : decode cX8_act 0 = .ok (.iload_n 1, 1) := by decide +kernel
theorem dX8_act_1 : decode cX8_act 1 = .ok (.iconst 0, 1) := by decide +kernel
theorem dX8_act_2 : decode cX8_act 2 = .ok (.iconst 5, 1) := by decide +kernel
theorem dX8_act_3 : decode cX8_act 3 = .ok (.invokestatic 106, 3) := by decide +kernel
theorem dX8_act_6 : decode cX8_act 6 = .ok (.ifCond .eq 45, 3) := by decide +kernel
theorem dX8_act_9 : decode cX8_act 9 = .ok (.aload_n 0, 1) := by decide +kernel
theorem dX8_act_10 : decode cX8_act 10 = .ok (.iload_n 2, 1) := by decide +kernel
theorem dX8_act_11 : decode cX8_act 11 = .ok (.invokevirtual 195, 3) := by decide +kernel
theorem dX8_act_14 : decode cX8_act 14 = .ok (.ifCond .eq 37, 3) := by decide +kernel
theorem dX8_act_17 : decode cX8_act 17 = .ok (.iload_n 1, 1) := by decide +kernel
theorem dX8_act_18 : decode cX8_act 18 = .ok (.ifCond .ne 13, 3) := by decide +kernel
theorem dX8_act_21 : decode cX8_act 21 = .ok (.iload_n 3, 1) := by decide +kernel
theorem dX8_act_22 : decode cX8_act 22 = .ok (.invokestatic 169, 3) := by decide +kernel
theorem dX8_act_25 : decode cX8_act 25 = .ok (.ifCond .eq 26, 3) := by decide +kernel
theorem dX8_act_28 : decode cX8_act 28 = .ok (.goto 25, 3) := by decide +kernel
theorem dX8_act_31 : decode cX8_act 31 = .ok (.iload_n 1, 1) := by decide +kernel
theorem dX8_act_32 : decode cX8_act 32 = .ok (.iconst 3, 1) := by decide +kernel
theorem dX8_act_33 : decode cX8_act 33 = .ok (.if_icmp .ne 14, 3) := by decide +kernel
theorem dX8_act_36 : decode cX8_act 36 = .ok (.aload_n 0, 1) := by decide +kernel
theorem dX8_act_37 : decode cX8_act 37 = .ok (.iload_n 3, 1) := by decide +kernel
theorem dX8_act_38 : decode cX8_act 38 = .ok (.invokevirtual 161, 3) := by decide +kernel
theorem dX8_act_41 : decode cX8_act 41 = .ok (.ifCond .eq 10, 3) := by decide +kernel
theorem dX8_act_44 : decode cX8_act 44 = .ok (.goto 9, 3) := by decide +kernel
theorem dX8_act_47 : decode cX8_act 47 = .ok (.iload_n 3, 1) := by decide +kernel
theorem dX8_act_48 : decode cX8_act 48 = .ok (.ifCond .eq 5, 3) := by decide +kernel
theorem dX8_act_51 : decode cX8_act 51 = .ok (.iconst (-1), 1) := by decide +kernel
theorem dX8_act_52 : decode cX8_act 52 = .ok (.ireturn, 1) := by decide +kernel
theorem dX8_act_53 : decode cX8_act 53 = .ok (.aload_n 0, 1) := by decide +kernel
theorem dX8_act_54 : decode cX8_act 54 = .ok (.iload_n 1, 1) := by decide +kernel
theorem dX8_act_55 : decode cX8_act 55 = .ok (.iload_n 2, 1) := by decide +kernel
theorem dX8_act_56 : decode cX8_act 56 = .ok (.iload_n 3, 1) := by decide +kernel
theorem dX8_act_57 : decode cX8_act 57 = .ok (.invokevirtual 216, 3) := by decide +kernel
theorem dX8_act_60 : decode cX8_act 60 = .ok (.istore 4, 2) := by decide +kernel
theorem dX8_act_62 : decode cX8_act 62 = .ok (.aload_n 0, 1) := by decide +kernel
theorem dX8_act_63 : decode cX8_act 63 = .ok (.getfield 38, 3) := by decide +kernel
theorem dX8_act_66 : decode cX8_act 66 = .ok (.bipush 8, 2) := by decide +kernel
theorem dX8_act_68 : decode cX8_act 68 = .ok (.iload 4, 2) := by decide +kernel
theorem dX8_act_70 : decode cX8_act 70 = .ok (.ifCond .eq 7, 3) := by decide +kernel
theorem dX8_act_73 : decode cX8_act 73 = .ok (.iload_n 1, 1) := by decide +kernel
theorem dX8_act_74 : decode cX8_act 74 = .ok (.goto 5, 3) := by decide +kernel
theorem dX8_act_77 : decode cX8_act 77 = .ok (.bipush (-9), 2) := by decide +kernel
theorem dX8_act_79 : decode cX8_act 79 = .ok (.iastore, 1) := by decide +kernel
theorem dX8_act_80 : decode cX8_act 80 = .ok (.iload 4, 2) := by decide +kernel
theorem dX8_act_82 : decode cX8_act 82 = .ok (.ifCond .ne 43, 3) := by decide +kernel
theorem dX8_act_85 : decode cX8_act 85 = .ok (.aload_n 0, 1) := by decide +kernel
theorem dX8_act_86 : decode cX8_act 86 = .ok (.getfield 38, 3) := by decide +kernel
theorem dX8_act_89 : decode cX8_act 89 = .ok (.iconst 3, 1) := by decide +kernel
theorem dX8_act_90 : decode cX8_act 90 = .ok (.aload_n 0, 1) := by decide +kernel
theorem dX8_act_91 : decode cX8_act 91 = .ok (.getfield 38, 3) := by decide +kernel
theorem dX8_act_94 : decode cX8_act 94 = .ok (.iconst 2, 1) := by decide +kernel
theorem dX8_act_95 : decode cX8_act 95 = .ok (.iaload, 1) := by decide +kernel
theorem dX8_act_96 : decode cX8_act 96 = .ok (.ifCond .ne 12, 3) := by decide +kernel
theorem dX8_act_99 : decode cX8_act 99 = .ok (.aload_n 0, 1) := by decide +kernel
theorem dX8_act_100 : decode cX8_act 100 = .ok (.getfield 38, 3) := by decide +kernel
theorem dX8_act_103 : decode cX8_act 103 = .ok (.iconst 1, 1) := by decide +kernel
theorem dX8_act_104 : decode cX8_act 104 = .ok (.iaload, 1) := by decide +kernel
theorem dX8_act_105 : decode cX8_act 105 = .ok (.goto 9, 3) := by decide +kernel
theorem dX8_act_108 : decode cX8_act 108 = .ok (.aload_n 0, 1) := by decide +kernel
theorem dX8_act_109 : decode cX8_act 109 = .ok (.getfield 38, 3) := by decide +kernel
theorem dX8_act_112 : decode cX8_act 112 = .ok (.iconst 3, 1) := by decide +kernel
theorem dX8_act_113 : decode cX8_act 113 = .ok (.iaload, 1) := by decide +kernel
theorem dX8_act_114 : decode cX8_act 114 = .ok (.iastore, 1) := by decide +kernel
theorem dX8_act_115 : decode cX8_act 115 = .ok (.aload_n 0, 1) := by decide +kernel
theorem dX8_act_116 : decode cX8_act 116 = .ok (.getfield 38, 3) := by decide +kernel
theorem dX8_act_119 : decode cX8_act 119 = .ok (.iconst 2, 1) := by decide +kernel
theorem dX8_act_120 : decode cX8_act 120 = .ok (.dup2, 1) := by decide +kernel
theorem dX8_act_121 : decode cX8_act 121 = .ok (.iaload, 1) := by decide +kernel
theorem dX8_act_122 : decode cX8_act 122 = .ok (.iconst 1, 1) := by decide +kernel
theorem dX8_act_123 : decode cX8_act 123 = .ok (.iadd, 1) := by decide +kernel
theorem dX8_act_124 : decode cX8_act 124 = .ok (.iastore, 1) := by decide +kernel
theorem dX8_act_125 : decode cX8_act 125 = .ok (.aload_n 0, 1) := by decide +kernel
theorem dX8_act_126 : decode cX8_act 126 = .ok (.getfield 38, 3) := by decide +kernel
theorem dX8_act_129 : decode cX8_act 129 = .ok (.iconst 1, 1) := by decide +kernel
theorem dX8_act_130 : decode cX8_act 130 = .ok (.dup2, 1) := by decide +kernel
theorem dX8_act_131 : decode cX8_act 131 = .ok (.iaload, 1) := by decide +kernel
theorem dX8_act_132 : decode cX8_act 132 = .ok (.iconst 1, 1) := by decide +kernel
theorem dX8_act_133 : decode cX8_act 133 = .ok (.iadd, 1) := by decide +kernel
theorem dX8_act_134 : decode cX8_act 134 = .ok (.iastore, 1) := by decide +kernel
theorem dX8_act_135 : decode cX8_act 135 = .ok (.iload 4, 2) := by decide +kernel
theorem dX8_act_137 : decode cX8_act 137 = .ok (.ifCond .eq 7, 3) := by decide +kernel
theorem dX8_act_140 : decode cX8_act 140 = .ok (.iconst 1, 1) := by decide +kernel
theorem dX8_act_141 : decode cX8_act 141 = .ok (.goto 4, 3) := by decide +kernel
theorem dX8_act_144 : decode cX8_act 144 = .ok (.iconst 0, 1) := by decide +kernel
theorem dX8_act_145 : decode cX8_act 145 = .ok (.ireturn, 1) := by decide +kernel
theorem dX8_now_0 : decode cX8_now 0 = .ok (.iload_n 1, 1) := by decide +kernel
theorem dX8_now_1 : decode cX8_now 1 = .ok (.iconst 0, 1) := by decide +kernel
theorem dX8_now_2 : decode cX8_now 2 = .ok (.bipush 6, 2) := by decide +kernel
theorem dX8_now_4 : decode cX8_now 4 = .ok (.invokestatic 106, 3) := by decide +kernel
theorem dX8_now_7 : decode cX8_now 7 = .ok (.ifCond .eq 12, 3) := by decide +kernel
theorem dX8_now_10 : decode cX8_now 10 = .ok (.aload_n 0, 1) := by decide +kernel
theorem dX8_now_11 : decode cX8_now 11 = .ok (.getfield 38, 3) := by decide +kernel
theorem dX8_now_14 : decode cX8_now 14 = .ok (.iload_n 1, 1) := by decide +kernel
theorem dX8_now_15 : decode cX8_now 15 = .ok (.iaload, 1) := by decide +kernel
theorem dX8_now_16 : decode cX8_now 16 = .ok (.goto 4, 3) := by decide +kernel
theorem dX8_now_19 : decode cX8_now 19 = .ok (.iconst (-1), 1) := by decide +kernel
theorem dX8_now_20 : decode cX8_now 20 = .ok (.ireturn, 1) := by decide +kernel
theorem dX8_bill_0 : decode cX8_bill 0 = .ok (.iload_n 1, 1) := by decide +kernel
theorem dX8_bill_1 : decode cX8_bill 1 = .ok (.invokestatic 169, 3) := by decide +kernel
theorem dX8_bill_4 : decode cX8_bill 4 = .ok (.ifCond .eq 12, 3) := by decide +kernel
theorem dX8_bill_7 : decode cX8_bill 7 = .ok (.iload_n 2, 1) := by decide +kernel
theorem dX8_bill_8 : decode cX8_bill 8 = .ok (.iconst 0, 1) := by decide +kernel
theorem dX8_bill_9 : decode cX8_bill 9 = .ok (.iconst 2, 1) := by decide +kernel
theorem dX8_bill_10 : decode cX8_bill 10 = .ok (.invokestatic 106, 3) := by decide +kernel
theorem dX8_bill_13 : decode cX8_bill 13 = .ok (.ifCond .ne 5, 3) := by decide +kernel
theorem dX8_bill_16 : decode cX8_bill 16 = .ok (.iconst (-1), 1) := by decide +kernel
theorem dX8_bill_17 : decode cX8_bill 17 = .ok (.ireturn, 1) := by decide +kernel
theorem dX8_bill_18 : decode cX8_bill 18 = .ok (.aload_n 0, 1) := by decide +kernel
theorem dX8_bill_19 : decode cX8_bill 19 = .ok (.iload_n 1, 1) := by decide +kernel
theorem dX8_bill_20 : decode cX8_bill 20 = .ok (.invokevirtual 198, 3) := by decide +kernel
theorem dX8_bill_23 : decode cX8_bill 23 = .ok (.istore_n 3, 1) := by decide +kernel
theorem dX8_bill_24 : decode cX8_bill 24 = .ok (.iload_n 2, 1) := by decide +kernel
theorem dX8_bill_25 : decode cX8_bill 25 = .ok (.ifCond .ne 12, 3) := by decide +kernel
theorem dX8_bill_28 : decode cX8_bill 28 = .ok (.aload_n 0, 1) := by decide +kernel
theorem dX8_bill_29 : decode cX8_bill 29 = .ok (.getfield 16, 3) := by decide +kernel
theorem dX8_bill_32 : decode cX8_bill 32 = .ok (.iload_n 1, 1) := by decide +kernel
theorem dX8_bill_33 : decode cX8_bill 33 = .ok (.iaload, 1) := by decide +kernel
theorem dX8_bill_34 : decode cX8_bill 34 = .ok (.goto 30, 3) := by decide +kernel
theorem dX8_bill_37 : decode cX8_bill 37 = .ok (.iload_n 2, 1) := by decide +kernel
theorem dX8_bill_38 : decode cX8_bill 38 = .ok (.iconst 1, 1) := by decide +kernel
theorem dX8_bill_39 : decode cX8_bill 39 = .ok (.if_icmp .ne 7, 3) := by decide +kernel
theorem dX8_bill_42 : decode cX8_bill 42 = .ok (.iload_n 3, 1) := by decide +kernel
theorem dX8_bill_43 : decode cX8_bill 43 = .ok (.goto 21, 3) := by decide +kernel
theorem dX8_bill_46 : decode cX8_bill 46 = .ok (.iload_n 3, 1) := by decide +kernel
theorem dX8_bill_47 : decode cX8_bill 47 = .ok (.ifCond .ne 8, 3) := by decide +kernel
theorem dX8_bill_50 : decode cX8_bill 50 = .ok (.bipush (-9), 2) := by decide +kernel
theorem dX8_bill_52 : decode cX8_bill 52 = .ok (.goto 12, 3) := by decide +kernel
theorem dX8_bill_55 : decode cX8_bill 55 = .ok (.aload_n 0, 1) := by decide +kernel
theorem dX8_bill_56 : decode cX8_bill 56 = .ok (.getfield 38, 3) := by decide +kernel
theorem dX8_bill_59 : decode cX8_bill 59 = .ok (.bipush 18, 2) := by decide +kernel
theorem dX8_bill_61 : decode cX8_bill 61 = .ok (.iload_n 1, 1) := by decide +kernel
theorem dX8_bill_62 : decode cX8_bill 62 = .ok (.iadd, 1) := by decide +kernel
theorem dX8_bill_63 : decode cX8_bill 63 = .ok (.iaload, 1) := by decide +kernel
theorem dX8_bill_64 : decode cX8_bill 64 = .ok (.ireturn, 1) := by decide +kernel
theorem dX8_isOpen_0 : decode cX8_isOpen 0 = .ok (.aload_n 0, 1) := by decide +kernel
theorem dX8_isOpen_1 : decode cX8_isOpen 1 = .ok (.getfield 16, 3) := by decide +kernel
theorem dX8_isOpen_4 : decode cX8_isOpen 4 = .ok (.iload_n 1, 1) := by decide +kernel
theorem dX8_isOpen_5 : decode cX8_isOpen 5 = .ok (.iaload, 1) := by decide +kernel
theorem dX8_isOpen_6 : decode cX8_isOpen 6 = .ok (.ifCond .le 23, 3) := by decide +kernel
theorem dX8_isOpen_9 : decode cX8_isOpen 9 = .ok (.aload_n 0, 1) := by decide +kernel
theorem dX8_isOpen_10 : decode cX8_isOpen 10 = .ok (.iload_n 1, 1) := by decide +kernel
theorem dX8_isOpen_11 : decode cX8_isOpen 11 = .ok (.invokevirtual 219, 3) := by decide +kernel
theorem dX8_isOpen_14 : decode cX8_isOpen 14 = .ok (.ifCond .ne 15, 3) := by decide +kernel
theorem dX8_isOpen_17 : decode cX8_isOpen 17 = .ok (.aload_n 0, 1) := by decide +kernel
theorem dX8_isOpen_18 : decode cX8_isOpen 18 = .ok (.iload_n 1, 1) := by decide +kernel
theorem dX8_isOpen_19 : decode cX8_isOpen 19 = .ok (.invokevirtual 204, 3) := by decide +kernel
theorem dX8_isOpen_22 : decode cX8_isOpen 22 = .ok (.ifCond .ne 7, 3) := by decide +kernel
theorem dX8_isOpen_25 : decode cX8_isOpen 25 = .ok (.iconst 1, 1) := by decide +kernel
theorem dX8_isOpen_26 : decode cX8_isOpen 26 = .ok (.goto 4, 3) := by decide +kernel
theorem dX8_isOpen_29 : decode cX8_isOpen 29 = .ok (.iconst 0, 1) := by decide +kernel
theorem dX8_isOpen_30 : decode cX8_isOpen 30 = .ok (.ireturn, 1) := by decide +kernel
theorem dX8_findEnds_0 : decode cX8_findEnds 0 = .ok (.aload_n 0, 1) := by decide +kernel
theorem dX8_findEnds_1 : decode cX8_findEnds 1 = .ok (.getfield 179, 3) := by decide +kernel
theorem dX8_findEnds_4 : decode cX8_findEnds 4 = .ok (.iconst 1, 1) := by decide +kernel
theorem dX8_findEnds_5 : decode cX8_findEnds 5 = .ok (.isub, 1) := by decide +kernel
theorem dX8_findEnds_6 : decode cX8_findEnds 6 = .ok (.istore_n 1, 1) := by decide +kernel
theorem dX8_findEnds_7 : decode cX8_findEnds 7 = .ok (.iload_n 1, 1) := by decide +kernel
theorem dX8_findEnds_8 : decode cX8_findEnds 8 = .ok (.ifCond .lt 229, 3) := by decide +kernel
theorem dX8_findEnds_11 : decode cX8_findEnds 11 = .ok (.iconst 0, 1) := by decide +kernel
theorem dX8_findEnds_12 : decode cX8_findEnds 12 = .ok (.istore_n 2, 1) := by decide +kernel
theorem dX8_findEnds_13 : decode cX8_findEnds 13 = .ok (.iload_n 2, 1) := by decide +kernel
theorem dX8_findEnds_14 : decode cX8_findEnds 14 = .ok (.aload_n 0, 1) := by decide +kernel
theorem dX8_findEnds_15 : decode cX8_findEnds 15 = .ok (.getfield 176, 3) := by decide +kernel
theorem dX8_findEnds_18 : decode cX8_findEnds 18 = .ok (.if_icmp .ge 213, 3) := by decide +kernel
theorem dX8_findEnds_21 : decode cX8_findEnds 21 = .ok (.iload_n 1, 1) := by decide +kernel
theorem dX8_findEnds_22 : decode cX8_findEnds 22 = .ok (.iconst 1, 1) := by decide +kernel
theorem dX8_findEnds_23 : decode cX8_findEnds 23 = .ok (.iadd, 1) := by decide +kernel
theorem dX8_findEnds_24 : decode cX8_findEnds 24 = .ok (.aload_n 0, 1) := by decide +kernel
theorem dX8_findEnds_25 : decode cX8_findEnds 25 = .ok (.getfield 179, 3) := by decide +kernel
theorem dX8_findEnds_28 : decode cX8_findEnds 28 = .ok (.if_icmp .ne 7, 3) := by decide +kernel
theorem dX8_findEnds_31 : decode cX8_findEnds 31 = .ok (.iload_n 2, 1) := by decide +kernel
theorem dX8_findEnds_32 : decode cX8_findEnds 32 = .ok (.goto 6, 3) := by decide +kernel
theorem dX8_findEnds_35 : decode cX8_findEnds 35 = .ok (.sipush 9999, 3) := by decide +kernel
theorem dX8_findEnds_38 : decode cX8_findEnds 38 = .ok (.istore_n 3, 1) := by decide +kernel
theorem dX8_findEnds_39 : decode cX8_findEnds 39 = .ok (.iload_n 1, 1) := by decide +kernel
theorem dX8_findEnds_40 : decode cX8_findEnds 40 = .ok (.iconst 1, 1) := by decide +kernel
theorem dX8_findEnds_41 : decode cX8_findEnds 41 = .ok (.iadd, 1) := by decide +kernel
theorem dX8_findEnds_42 : decode cX8_findEnds 42 = .ok (.aload_n 0, 1) := by decide +kernel
theorem dX8_findEnds_43 : decode cX8_findEnds 43 = .ok (.getfield 179, 3) := by decide +kernel
theorem dX8_findEnds_46 : decode cX8_findEnds 46 = .ok (.if_icmp .eq 16, 3) := by decide +kernel
theorem dX8_findEnds_49 : decode cX8_findEnds 49 = .ok (.aload_n 0, 1) := by decide +kernel
theorem dX8_findEnds_50 : decode cX8_findEnds 50 = .ok (.getfield 73, 3) := by decide +kernel
theorem dX8_findEnds_53 : decode cX8_findEnds 53 = .ok (.iload_n 1, 1) := by decide +kernel
theorem dX8_findEnds_54 : decode cX8_findEnds 54 = .ok (.iconst 1, 1) := by decide +kernel
theorem dX8_findEnds_55 : decode cX8_findEnds 55 = .ok (.iadd, 1) := by decide +kernel
theorem dX8_findEnds_56 : decode cX8_findEnds 56 = .ok (.iaload, 1) := by decide +kernel
theorem dX8_findEnds_57 : decode cX8_findEnds 57 = .ok (.bipush (-9), 2) := by decide +kernel
theorem dX8_findEnds_59 : decode cX8_findEnds 59 = .ok (.if_icmp .ne 9, 3) := by decide +kernel
theorem dX8_findEnds_62 : decode cX8_findEnds 62 = .ok (.sipush 9999, 3) := by decide +kernel
theorem dX8_findEnds_65 : decode cX8_findEnds 65 = .ok (.goto 15, 3) := by decide +kernel
theorem dX8_findEnds_68 : decode cX8_findEnds 68 = .ok (.iload_n 2, 1) := by decide +kernel
theorem dX8_findEnds_69 : decode cX8_findEnds 69 = .ok (.aload_n 0, 1) := by decide +kernel
theorem dX8_findEnds_70 : decode cX8_findEnds 70 = .ok (.getfield 73, 3) := by decide +kernel
theorem dX8_findEnds_73 : decode cX8_findEnds 73 = .ok (.iload_n 1, 1) := by decide +kernel
theorem dX8_findEnds_74 : decode cX8_findEnds 74 = .ok (.iconst 1, 1) := by decide +kernel
theorem dX8_findEnds_75 : decode cX8_findEnds 75 = .ok (.iadd, 1) := by decide +kernel
theorem dX8_findEnds_76 : decode cX8_findEnds 76 = .ok (.iaload, 1) := by decide +kernel
theorem dX8_findEnds_77 : decode cX8_findEnds 77 = .ok (.iadd, 1) := by decide +kernel
theorem dX8_findEnds_78 : decode cX8_findEnds 78 = .ok (.iconst 1, 1) := by decide +kernel
theorem dX8_findEnds_79 : decode cX8_findEnds 79 = .ok (.iadd, 1) := by decide +kernel
theorem dX8_findEnds_80 : decode cX8_findEnds 80 = .ok (.istore 4, 2) := by decide +kernel
theorem dX8_findEnds_82 : decode cX8_findEnds 82 = .ok (.iload_n 2, 1) := by decide +kernel
theorem dX8_findEnds_83 : decode cX8_findEnds 83 = .ok (.istore 5, 2) := by decide +kernel
theorem dX8_findEnds_85 : decode cX8_findEnds 85 = .ok (.iload 5, 2) := by decide +kernel
theorem dX8_findEnds_87 : decode cX8_findEnds 87 = .ok (.aload_n 0, 1) := by decide +kernel
theorem dX8_findEnds_88 : decode cX8_findEnds 88 = .ok (.getfield 176, 3) := by decide +kernel
theorem dX8_findEnds_91 : decode cX8_findEnds 91 = .ok (.if_icmp .ge 109, 3) := by decide +kernel
theorem dX8_findEnds_94 : decode cX8_findEnds 94 = .ok (.iload_n 1, 1) := by decide +kernel
theorem dX8_findEnds_95 : decode cX8_findEnds 95 = .ok (.iconst 1, 1) := by decide +kernel
theorem dX8_findEnds_96 : decode cX8_findEnds 96 = .ok (.iadd, 1) := by decide +kernel
theorem dX8_findEnds_97 : decode cX8_findEnds 97 = .ok (.aload_n 0, 1) := by decide +kernel
theorem dX8_findEnds_98 : decode cX8_findEnds 98 = .ok (.getfield 179, 3) := by decide +kernel
theorem dX8_findEnds_101 : decode cX8_findEnds 101 = .ok (.if_icmp .ge 99, 3) := by decide +kernel
theorem dX8_findEnds_104 : decode cX8_findEnds 104 = .ok (.aload_n 0, 1) := by decide +kernel
theorem dX8_findEnds_105 : decode cX8_findEnds 105 = .ok (.iload_n 1, 1) := by decide +kernel
theorem dX8_findEnds_106 : decode cX8_findEnds 106 = .ok (.iconst 1, 1) := by decide +kernel
theorem dX8_findEnds_107 : decode cX8_findEnds 107 = .ok (.iadd, 1) := by decide +kernel
theorem dX8_findEnds_108 : decode cX8_findEnds 108 = .ok (.iload_n 2, 1) := by decide +kernel
theorem dX8_findEnds_109 : decode cX8_findEnds 109 = .ok (.iload 5, 2) := by decide +kernel
theorem dX8_findEnds_111 : decode cX8_findEnds 111 = .ok (.invokevirtual 201, 3) := by decide +kernel
theorem dX8_findEnds_114 : decode cX8_findEnds 114 = .ok (.ifCond .eq 80, 3) := by decide +kernel
theorem dX8_findEnds_117 : decode cX8_findEnds 117 = .ok (.aload_n 0, 1) := by decide +kernel
theorem dX8_findEnds_118 : decode cX8_findEnds 118 = .ok (.getfield 79, 3) := by decide +kernel
theorem dX8_findEnds_121 : decode cX8_findEnds 121 = .ok (.bipush 60, 2) := by decide +kernel
theorem dX8_findEnds_123 : decode cX8_findEnds 123 = .ok (.iload_n 1, 1) := by decide +kernel
theorem dX8_findEnds_124 : decode cX8_findEnds 124 = .ok (.iconst 1, 1) := by decide +kernel
theorem dX8_findEnds_125 : decode cX8_findEnds 125 = .ok (.iadd, 1) := by decide +kernel
theorem dX8_findEnds_126 : decode cX8_findEnds 126 = .ok (.imul, 1) := by decide +kernel
theorem dX8_findEnds_127 : decode cX8_findEnds 127 = .ok (.iload 5, 2) := by decide +kernel
theorem dX8_findEnds_129 : decode cX8_findEnds 129 = .ok (.iadd, 1) := by decide +kernel
theorem dX8_findEnds_130 : decode cX8_findEnds 130 = .ok (.iaload, 1) := by decide +kernel
theorem dX8_findEnds_131 : decode cX8_findEnds 131 = .ok (.iload_n 3, 1) := by decide +kernel
theorem dX8_findEnds_132 : decode cX8_findEnds 132 = .ok (.if_icmp .ge 20, 3) := by decide +kernel
theorem dX8_findEnds_135 : decode cX8_findEnds 135 = .ok (.aload_n 0, 1) := by decide +kernel
theorem dX8_findEnds_136 : decode cX8_findEnds 136 = .ok (.getfield 79, 3) := by decide +kernel
theorem dX8_findEnds_139 : decode cX8_findEnds 139 = .ok (.bipush 60, 2) := by decide +kernel
theorem dX8_findEnds_141 : decode cX8_findEnds 141 = .ok (.iload_n 1, 1) := by decide +kernel
theorem dX8_findEnds_142 : decode cX8_findEnds 142 = .ok (.iconst 1, 1) := by decide +kernel
theorem dX8_findEnds_143 : decode cX8_findEnds 143 = .ok (.iadd, 1) := by decide +kernel
theorem dX8_findEnds_144 : decode cX8_findEnds 144 = .ok (.imul, 1) := by decide +kernel
theorem dX8_findEnds_145 : decode cX8_findEnds 145 = .ok (.iload 5, 2) := by decide +kernel
theorem dX8_findEnds_147 : decode cX8_findEnds 147 = .ok (.iadd, 1) := by decide +kernel
theorem dX8_findEnds_148 : decode cX8_findEnds 148 = .ok (.iaload, 1) := by decide +kernel
theorem dX8_findEnds_149 : decode cX8_findEnds 149 = .ok (.goto 4, 3) := by decide +kernel
theorem dX8_findEnds_152 : decode cX8_findEnds 152 = .ok (.iload_n 3, 1) := by decide +kernel
theorem dX8_findEnds_153 : decode cX8_findEnds 153 = .ok (.istore_n 3, 1) := by decide +kernel
theorem dX8_findEnds_154 : decode cX8_findEnds 154 = .ok (.aload_n 0, 1) := by decide +kernel
theorem dX8_findEnds_155 : decode cX8_findEnds 155 = .ok (.getfield 82, 3) := by decide +kernel
theorem dX8_findEnds_158 : decode cX8_findEnds 158 = .ok (.bipush 60, 2) := by decide +kernel
theorem dX8_findEnds_160 : decode cX8_findEnds 160 = .ok (.iload_n 1, 1) := by decide +kernel
theorem dX8_findEnds_161 : decode cX8_findEnds 161 = .ok (.iconst 1, 1) := by decide +kernel
theorem dX8_findEnds_162 : decode cX8_findEnds 162 = .ok (.iadd, 1) := by decide +kernel
theorem dX8_findEnds_163 : decode cX8_findEnds 163 = .ok (.imul, 1) := by decide +kernel
theorem dX8_findEnds_164 : decode cX8_findEnds 164 = .ok (.iload 5, 2) := by decide +kernel
theorem dX8_findEnds_166 : decode cX8_findEnds 166 = .ok (.iadd, 1) := by decide +kernel
theorem dX8_findEnds_167 : decode cX8_findEnds 167 = .ok (.iaload, 1) := by decide +kernel
theorem dX8_findEnds_168 : decode cX8_findEnds 168 = .ok (.iload 4, 2) := by decide +kernel
theorem dX8_findEnds_170 : decode cX8_findEnds 170 = .ok (.if_icmp .ge 20, 3) := by decide +kernel
theorem dX8_findEnds_173 : decode cX8_findEnds 173 = .ok (.aload_n 0, 1) := by decide +kernel
theorem dX8_findEnds_174 : decode cX8_findEnds 174 = .ok (.getfield 82, 3) := by decide +kernel
theorem dX8_findEnds_177 : decode cX8_findEnds 177 = .ok (.bipush 60, 2) := by decide +kernel
theorem dX8_findEnds_179 : decode cX8_findEnds 179 = .ok (.iload_n 1, 1) := by decide +kernel
theorem dX8_findEnds_180 : decode cX8_findEnds 180 = .ok (.iconst 1, 1) := by decide +kernel
theorem dX8_findEnds_181 : decode cX8_findEnds 181 = .ok (.iadd, 1) := by decide +kernel
theorem dX8_findEnds_182 : decode cX8_findEnds 182 = .ok (.imul, 1) := by decide +kernel
theorem dX8_findEnds_183 : decode cX8_findEnds 183 = .ok (.iload 5, 2) := by decide +kernel
theorem dX8_findEnds_185 : decode cX8_findEnds 185 = .ok (.iadd, 1) := by decide +kernel
theorem dX8_findEnds_186 : decode cX8_findEnds 186 = .ok (.iaload, 1) := by decide +kernel
theorem dX8_findEnds_187 : decode cX8_findEnds 187 = .ok (.goto 5, 3) := by decide +kernel
theorem dX8_findEnds_190 : decode cX8_findEnds 190 = .ok (.iload 4, 2) := by decide +kernel
theorem dX8_findEnds_192 : decode cX8_findEnds 192 = .ok (.istore 4, 2) := by decide +kernel
theorem dX8_findEnds_194 : decode cX8_findEnds 194 = .ok (.iinc 5 1, 3) := by decide +kernel
theorem dX8_findEnds_197 : decode cX8_findEnds 197 = .ok (.goto (-112), 3) := by decide +kernel
theorem dX8_findEnds_200 : decode cX8_findEnds 200 = .ok (.aload_n 0, 1) := by decide +kernel
theorem dX8_findEnds_201 : decode cX8_findEnds 201 = .ok (.getfield 79, 3) := by decide +kernel
theorem dX8_findEnds_204 : decode cX8_findEnds 204 = .ok (.bipush 60, 2) := by decide +kernel
theorem dX8_findEnds_206 : decode cX8_findEnds 206 = .ok (.iload_n 1, 1) := by decide +kernel
theorem dX8_findEnds_207 : decode cX8_findEnds 207 = .ok (.imul, 1) := by decide +kernel
theorem dX8_findEnds_208 : decode cX8_findEnds 208 = .ok (.iload_n 2, 1) := by decide +kernel
theorem dX8_findEnds_209 : decode cX8_findEnds 209 = .ok (.iadd, 1) := by decide +kernel
theorem dX8_findEnds_210 : decode cX8_findEnds 210 = .ok (.iload_n 3, 1) := by decide +kernel
theorem dX8_findEnds_211 : decode cX8_findEnds 211 = .ok (.iastore, 1) := by decide +kernel
theorem dX8_findEnds_212 : decode cX8_findEnds 212 = .ok (.aload_n 0, 1) := by decide +kernel
theorem dX8_findEnds_213 : decode cX8_findEnds 213 = .ok (.getfield 82, 3) := by decide +kernel
theorem dX8_findEnds_216 : decode cX8_findEnds 216 = .ok (.bipush 60, 2) := by decide +kernel
theorem dX8_findEnds_218 : decode cX8_findEnds 218 = .ok (.iload_n 1, 1) := by decide +kernel
theorem dX8_findEnds_219 : decode cX8_findEnds 219 = .ok (.imul, 1) := by decide +kernel
theorem dX8_findEnds_220 : decode cX8_findEnds 220 = .ok (.iload_n 2, 1) := by decide +kernel
theorem dX8_findEnds_221 : decode cX8_findEnds 221 = .ok (.iadd, 1) := by decide +kernel
theorem dX8_findEnds_222 : decode cX8_findEnds 222 = .ok (.iload 4, 2) := by decide +kernel
theorem dX8_findEnds_224 : decode cX8_findEnds 224 = .ok (.iastore, 1) := by decide +kernel
theorem dX8_findEnds_225 : decode cX8_findEnds 225 = .ok (.iinc 2 1, 3) := by decide +kernel
theorem dX8_findEnds_228 : decode cX8_findEnds 228 = .ok (.goto (-215), 3) := by decide +kernel
theorem dX8_findEnds_231 : decode cX8_findEnds 231 = .ok (.iinc 1 (-1), 3) := by decide +kernel
theorem dX8_findEnds_234 : decode cX8_findEnds 234 = .ok (.goto (-227), 3) := by decide +kernel
theorem dX8_findEnds_237 : decode cX8_findEnds 237 = .ok (.return_, 1) := by decide +kernel
theorem dX8_endFrom_0 : decode cX8_endFrom 0 = .ok (.sipush 9999, 3) := by decide +kernel
theorem dX8_endFrom_3 : decode cX8_endFrom 3 = .ok (.istore 4, 2) := by decide +kernel
theorem dX8_endFrom_5 : decode cX8_endFrom 5 = .ok (.iload_n 3, 1) := by decide +kernel
theorem dX8_endFrom_6 : decode cX8_endFrom 6 = .ok (.istore 5, 2) := by decide +kernel
theorem dX8_endFrom_8 : decode cX8_endFrom 8 = .ok (.iload 5, 2) := by decide +kernel
theorem dX8_endFrom_10 : decode cX8_endFrom 10 = .ok (.aload_n 0, 1) := by decide +kernel
theorem dX8_endFrom_11 : decode cX8_endFrom 11 = .ok (.getfield 176, 3) := by decide +kernel
theorem dX8_endFrom_14 : decode cX8_endFrom 14 = .ok (.if_icmp .ge 56, 3) := by decide +kernel
theorem dX8_endFrom_17 : decode cX8_endFrom 17 = .ok (.aload_n 0, 1) := by decide +kernel
theorem dX8_endFrom_18 : decode cX8_endFrom 18 = .ok (.iload_n 1, 1) := by decide +kernel
theorem dX8_endFrom_19 : decode cX8_endFrom 19 = .ok (.iload_n 2, 1) := by decide +kernel
theorem dX8_endFrom_20 : decode cX8_endFrom 20 = .ok (.iload 5, 2) := by decide +kernel
theorem dX8_endFrom_22 : decode cX8_endFrom 22 = .ok (.invokevirtual 201, 3) := by decide +kernel
theorem dX8_endFrom_25 : decode cX8_endFrom 25 = .ok (.ifCond .eq 35, 3) := by decide +kernel
theorem dX8_endFrom_28 : decode cX8_endFrom 28 = .ok (.aload_n 0, 1) := by decide +kernel
theorem dX8_endFrom_29 : decode cX8_endFrom 29 = .ok (.getfield 79, 3) := by decide +kernel
theorem dX8_endFrom_32 : decode cX8_endFrom 32 = .ok (.bipush 60, 2) := by decide +kernel
theorem dX8_endFrom_34 : decode cX8_endFrom 34 = .ok (.iload_n 1, 1) := by decide +kernel
theorem dX8_endFrom_35 : decode cX8_endFrom 35 = .ok (.imul, 1) := by decide +kernel
theorem dX8_endFrom_36 : decode cX8_endFrom 36 = .ok (.iload 5, 2) := by decide +kernel
theorem dX8_endFrom_38 : decode cX8_endFrom 38 = .ok (.iadd, 1) := by decide +kernel
theorem dX8_endFrom_39 : decode cX8_endFrom 39 = .ok (.iaload, 1) := by decide +kernel
theorem dX8_endFrom_40 : decode cX8_endFrom 40 = .ok (.iload 4, 2) := by decide +kernel
theorem dX8_endFrom_42 : decode cX8_endFrom 42 = .ok (.if_icmp .ge 18, 3) := by decide +kernel
theorem dX8_endFrom_45 : decode cX8_endFrom 45 = .ok (.aload_n 0, 1) := by decide +kernel
theorem dX8_endFrom_46 : decode cX8_endFrom 46 = .ok (.getfield 79, 3) := by decide +kernel
theorem dX8_endFrom_49 : decode cX8_endFrom 49 = .ok (.bipush 60, 2) := by decide +kernel
theorem dX8_endFrom_51 : decode cX8_endFrom 51 = .ok (.iload_n 1, 1) := by decide +kernel
theorem dX8_endFrom_52 : decode cX8_endFrom 52 = .ok (.imul, 1) := by decide +kernel
theorem dX8_endFrom_53 : decode cX8_endFrom 53 = .ok (.iload 5, 2) := by decide +kernel
theorem dX8_endFrom_55 : decode cX8_endFrom 55 = .ok (.iadd, 1) := by decide +kernel
theorem dX8_endFrom_56 : decode cX8_endFrom 56 = .ok (.iaload, 1) := by decide +kernel
theorem dX8_endFrom_57 : decode cX8_endFrom 57 = .ok (.goto 5, 3) := by decide +kernel
theorem dX8_endFrom_60 : decode cX8_endFrom 60 = .ok (.iload 4, 2) := by decide +kernel
theorem dX8_endFrom_62 : decode cX8_endFrom 62 = .ok (.istore 4, 2) := by decide +kernel
theorem dX8_endFrom_64 : decode cX8_endFrom 64 = .ok (.iinc 5 1, 3) := by decide +kernel
theorem dX8_endFrom_67 : decode cX8_endFrom 67 = .ok (.goto (-59), 3) := by decide +kernel
theorem dX8_endFrom_70 : decode cX8_endFrom 70 = .ok (.iload 4, 2) := by decide +kernel
theorem dX8_endFrom_72 : decode cX8_endFrom 72 = .ok (.ireturn, 1) := by decide +kernel
theorem dX8_findSoon_0 : decode cX8_findSoon 0 = .ok (.aload_n 0, 1) := by decide +kernel
theorem dX8_findSoon_1 : decode cX8_findSoon 1 = .ok (.iload_n 1, 1) := by decide +kernel
theorem dX8_findSoon_2 : decode cX8_findSoon 2 = .ok (.iconst 1, 1) := by decide +kernel
theorem dX8_findSoon_3 : decode cX8_findSoon 3 = .ok (.invokevirtual 188, 3) := by decide +kernel
theorem dX8_findSoon_6 : decode cX8_findSoon 6 = .ok (.aload_n 0, 1) := by decide +kernel
theorem dX8_findSoon_7 : decode cX8_findSoon 7 = .ok (.invokevirtual 222, 3) := by decide +kernel
theorem dX8_findSoon_10 : decode cX8_findSoon 10 = .ok (.aload_n 0, 1) := by decide +kernel
theorem dX8_findSoon_11 : decode cX8_findSoon 11 = .ok (.aload_n 0, 1) := by decide +kernel
theorem dX8_findSoon_12 : decode cX8_findSoon 12 = .ok (.iload_n 1, 1) := by decide +kernel
theorem dX8_findSoon_13 : decode cX8_findSoon 13 = .ok (.invokevirtual 198, 3) := by decide +kernel
theorem dX8_findSoon_16 : decode cX8_findSoon 16 = .ok (.putfield 225, 3) := by decide +kernel
theorem dX8_findSoon_19 : decode cX8_findSoon 19 = .ok (.aload_n 0, 1) := by decide +kernel
theorem dX8_findSoon_20 : decode cX8_findSoon 20 = .ok (.aload_n 0, 1) := by decide +kernel
theorem dX8_findSoon_21 : decode cX8_findSoon 21 = .ok (.getfield 38, 3) := by decide +kernel
theorem dX8_findSoon_24 : decode cX8_findSoon 24 = .ok (.bipush 18, 2) := by decide +kernel
theorem dX8_findSoon_26 : decode cX8_findSoon 26 = .ok (.iload_n 1, 1) := by decide +kernel
theorem dX8_findSoon_27 : decode cX8_findSoon 27 = .ok (.iadd, 1) := by decide +kernel
theorem dX8_findSoon_28 : decode cX8_findSoon 28 = .ok (.iaload, 1) := by decide +kernel
theorem dX8_findSoon_29 : decode cX8_findSoon 29 = .ok (.putfield 228, 3) := by decide +kernel
theorem dX8_findSoon_32 : decode cX8_findSoon 32 = .ok (.aload_n 0, 1) := by decide +kernel
theorem dX8_findSoon_33 : decode cX8_findSoon 33 = .ok (.aload_n 0, 1) := by decide +kernel
theorem dX8_findSoon_34 : decode cX8_findSoon 34 = .ok (.getfield 38, 3) := by decide +kernel
theorem dX8_findSoon_37 : decode cX8_findSoon 37 = .ok (.iconst 0, 1) := by decide +kernel
theorem dX8_findSoon_38 : decode cX8_findSoon 38 = .ok (.iaload, 1) := by decide +kernel
theorem dX8_findSoon_39 : decode cX8_findSoon 39 = .ok (.aload_n 0, 1) := by decide +kernel
theorem dX8_findSoon_40 : decode cX8_findSoon 40 = .ok (.getfield 38, 3) := by decide +kernel
theorem dX8_findSoon_43 : decode cX8_findSoon 43 = .ok (.iconst 4, 1) := by decide +kernel
theorem dX8_findSoon_44 : decode cX8_findSoon 44 = .ok (.iaload, 1) := by decide +kernel
theorem dX8_findSoon_45 : decode cX8_findSoon 45 = .ok (.iadd, 1) := by decide +kernel
theorem dX8_findSoon_46 : decode cX8_findSoon 46 = .ok (.putfield 231, 3) := by decide +kernel
theorem dX8_findSoon_49 : decode cX8_findSoon 49 = .ok (.aload_n 0, 1) := by decide +kernel
theorem dX8_findSoon_50 : decode cX8_findSoon 50 = .ok (.aload_n 0, 1) := by decide +kernel
theorem dX8_findSoon_51 : decode cX8_findSoon 51 = .ok (.getfield 225, 3) := by decide +kernel
theorem dX8_findSoon_54 : decode cX8_findSoon 54 = .ok (.aload_n 0, 1) := by decide +kernel
theorem dX8_findSoon_55 : decode cX8_findSoon 55 = .ok (.getfield 228, 3) := by decide +kernel
theorem dX8_findSoon_58 : decode cX8_findSoon 58 = .ok (.aload_n 0, 1) := by decide +kernel
theorem dX8_findSoon_59 : decode cX8_findSoon 59 = .ok (.getfield 231, 3) := by decide +kernel
theorem dX8_findSoon_62 : decode cX8_findSoon 62 = .ok (.invokevirtual 234, 3) := by decide +kernel
theorem dX8_findSoon_65 : decode cX8_findSoon 65 = .ok (.istore_n 2, 1) := by decide +kernel
theorem dX8_findSoon_66 : decode cX8_findSoon 66 = .ok (.aload_n 0, 1) := by decide +kernel
theorem dX8_findSoon_67 : decode cX8_findSoon 67 = .ok (.getfield 225, 3) := by decide +kernel
theorem dX8_findSoon_70 : decode cX8_findSoon 70 = .ok (.ifCond .le 167, 3) := by decide +kernel
theorem dX8_findSoon_73 : decode cX8_findSoon 73 = .ok (.aload_n 0, 1) := by decide +kernel
theorem dX8_findSoon_74 : decode cX8_findSoon 74 = .ok (.getfield 73, 3) := by decide +kernel
theorem dX8_findSoon_77 : decode cX8_findSoon 77 = .ok (.aload_n 0, 1) := by decide +kernel
theorem dX8_findSoon_78 : decode cX8_findSoon 78 = .ok (.getfield 225, 3) := by decide +kernel
theorem dX8_findSoon_81 : decode cX8_findSoon 81 = .ok (.iaload, 1) := by decide +kernel
theorem dX8_findSoon_82 : decode cX8_findSoon 82 = .ok (.bipush (-9), 2) := by decide +kernel
theorem dX8_findSoon_84 : decode cX8_findSoon 84 = .ok (.if_icmp .ne 9, 3) := by decide +kernel
theorem dX8_findSoon_87 : decode cX8_findSoon 87 = .ok (.sipush 9999, 3) := by decide +kernel
theorem dX8_findSoon_90 : decode cX8_findSoon 90 = .ok (.goto 19, 3) := by decide +kernel
theorem dX8_findSoon_93 : decode cX8_findSoon 93 = .ok (.aload_n 0, 1) := by decide +kernel
theorem dX8_findSoon_94 : decode cX8_findSoon 94 = .ok (.getfield 228, 3) := by decide +kernel
theorem dX8_findSoon_97 : decode cX8_findSoon 97 = .ok (.aload_n 0, 1) := by decide +kernel
theorem dX8_findSoon_98 : decode cX8_findSoon 98 = .ok (.getfield 73, 3) := by decide +kernel
theorem dX8_findSoon_101 : decode cX8_findSoon 101 = .ok (.aload_n 0, 1) := by decide +kernel
theorem dX8_findSoon_102 : decode cX8_findSoon 102 = .ok (.getfield 225, 3) := by decide +kernel
theorem dX8_findSoon_105 : decode cX8_findSoon 105 = .ok (.iaload, 1) := by decide +kernel
theorem dX8_findSoon_106 : decode cX8_findSoon 106 = .ok (.iadd, 1) := by decide +kernel
theorem dX8_findSoon_107 : decode cX8_findSoon 107 = .ok (.iconst 1, 1) := by decide +kernel
theorem dX8_findSoon_108 : decode cX8_findSoon 108 = .ok (.iadd, 1) := by decide +kernel
theorem dX8_findSoon_109 : decode cX8_findSoon 109 = .ok (.istore_n 3, 1) := by decide +kernel
theorem dX8_findSoon_110 : decode cX8_findSoon 110 = .ok (.aload_n 0, 1) := by decide +kernel
theorem dX8_findSoon_111 : decode cX8_findSoon 111 = .ok (.getfield 231, 3) := by decide +kernel
theorem dX8_findSoon_114 : decode cX8_findSoon 114 = .ok (.istore 4, 2) := by decide +kernel
theorem dX8_findSoon_116 : decode cX8_findSoon 116 = .ok (.iload 4, 2) := by decide +kernel
theorem dX8_findSoon_118 : decode cX8_findSoon 118 = .ok (.aload_n 0, 1) := by decide +kernel
theorem dX8_findSoon_119 : decode cX8_findSoon 119 = .ok (.getfield 176, 3) := by decide +kernel
theorem dX8_findSoon_122 : decode cX8_findSoon 122 = .ok (.if_icmp .ge 65, 3) := by decide +kernel
theorem dX8_findSoon_125 : decode cX8_findSoon 125 = .ok (.aload_n 0, 1) := by decide +kernel
theorem dX8_findSoon_126 : decode cX8_findSoon 126 = .ok (.aload_n 0, 1) := by decide +kernel
theorem dX8_findSoon_127 : decode cX8_findSoon 127 = .ok (.getfield 225, 3) := by decide +kernel
theorem dX8_findSoon_130 : decode cX8_findSoon 130 = .ok (.aload_n 0, 1) := by decide +kernel
theorem dX8_findSoon_131 : decode cX8_findSoon 131 = .ok (.getfield 228, 3) := by decide +kernel
theorem dX8_findSoon_134 : decode cX8_findSoon 134 = .ok (.iload 4, 2) := by decide +kernel
theorem dX8_findSoon_136 : decode cX8_findSoon 136 = .ok (.invokevirtual 201, 3) := by decide +kernel
theorem dX8_findSoon_139 : decode cX8_findSoon 139 = .ok (.ifCond .eq 40, 3) := by decide +kernel
theorem dX8_findSoon_142 : decode cX8_findSoon 142 = .ok (.aload_n 0, 1) := by decide +kernel
theorem dX8_findSoon_143 : decode cX8_findSoon 143 = .ok (.getfield 82, 3) := by decide +kernel
theorem dX8_findSoon_146 : decode cX8_findSoon 146 = .ok (.bipush 60, 2) := by decide +kernel
theorem dX8_findSoon_148 : decode cX8_findSoon 148 = .ok (.aload_n 0, 1) := by decide +kernel
theorem dX8_findSoon_149 : decode cX8_findSoon 149 = .ok (.getfield 225, 3) := by decide +kernel
theorem dX8_findSoon_152 : decode cX8_findSoon 152 = .ok (.imul, 1) := by decide +kernel
theorem dX8_findSoon_153 : decode cX8_findSoon 153 = .ok (.iload 4, 2) := by decide +kernel
theorem dX8_findSoon_155 : decode cX8_findSoon 155 = .ok (.iadd, 1) := by decide +kernel
theorem dX8_findSoon_156 : decode cX8_findSoon 156 = .ok (.iaload, 1) := by decide +kernel
theorem dX8_findSoon_157 : decode cX8_findSoon 157 = .ok (.iload_n 3, 1) := by decide +kernel
theorem dX8_findSoon_158 : decode cX8_findSoon 158 = .ok (.if_icmp .ge 21, 3) := by decide +kernel
theorem dX8_findSoon_161 : decode cX8_findSoon 161 = .ok (.aload_n 0, 1) := by decide +kernel
theorem dX8_findSoon_162 : decode cX8_findSoon 162 = .ok (.getfield 82, 3) := by decide +kernel
theorem dX8_findSoon_165 : decode cX8_findSoon 165 = .ok (.bipush 60, 2) := by decide +kernel
theorem dX8_findSoon_167 : decode cX8_findSoon 167 = .ok (.aload_n 0, 1) := by decide +kernel
theorem dX8_findSoon_168 : decode cX8_findSoon 168 = .ok (.getfield 225, 3) := by decide +kernel
theorem dX8_findSoon_171 : decode cX8_findSoon 171 = .ok (.imul, 1) := by decide +kernel
theorem dX8_findSoon_172 : decode cX8_findSoon 172 = .ok (.iload 4, 2) := by decide +kernel
theorem dX8_findSoon_174 : decode cX8_findSoon 174 = .ok (.iadd, 1) := by decide +kernel
theorem dX8_findSoon_175 : decode cX8_findSoon 175 = .ok (.iaload, 1) := by decide +kernel
theorem dX8_findSoon_176 : decode cX8_findSoon 176 = .ok (.goto 4, 3) := by decide +kernel
theorem dX8_findSoon_179 : decode cX8_findSoon 179 = .ok (.iload_n 3, 1) := by decide +kernel
theorem dX8_findSoon_180 : decode cX8_findSoon 180 = .ok (.istore_n 3, 1) := by decide +kernel
theorem dX8_findSoon_181 : decode cX8_findSoon 181 = .ok (.iinc 4 1, 3) := by decide +kernel
theorem dX8_findSoon_184 : decode cX8_findSoon 184 = .ok (.goto (-68), 3) := by decide +kernel
theorem dX8_findSoon_187 : decode cX8_findSoon 187 = .ok (.aload_n 0, 1) := by decide +kernel
theorem dX8_findSoon_188 : decode cX8_findSoon 188 = .ok (.iconst 0, 1) := by decide +kernel
theorem dX8_findSoon_189 : decode cX8_findSoon 189 = .ok (.bipush (-9), 2) := by decide +kernel
theorem dX8_findSoon_191 : decode cX8_findSoon 191 = .ok (.iload_n 3, 1) := by decide +kernel
theorem dX8_findSoon_192 : decode cX8_findSoon 192 = .ok (.aload_n 0, 1) := by decide +kernel
theorem dX8_findSoon_193 : decode cX8_findSoon 193 = .ok (.getfield 231, 3) := by decide +kernel
theorem dX8_findSoon_196 : decode cX8_findSoon 196 = .ok (.if_icmp .ge 10, 3) := by decide +kernel
theorem dX8_findSoon_199 : decode cX8_findSoon 199 = .ok (.aload_n 0, 1) := by decide +kernel
theorem dX8_findSoon_200 : decode cX8_findSoon 200 = .ok (.getfield 231, 3) := by decide +kernel
theorem dX8_findSoon_203 : decode cX8_findSoon 203 = .ok (.goto 4, 3) := by decide +kernel
theorem dX8_findSoon_206 : decode cX8_findSoon 206 = .ok (.iload_n 3, 1) := by decide +kernel
theorem dX8_findSoon_207 : decode cX8_findSoon 207 = .ok (.invokevirtual 234, 3) := by decide +kernel
theorem dX8_findSoon_210 : decode cX8_findSoon 210 = .ok (.istore 4, 2) := by decide +kernel
theorem dX8_findSoon_212 : decode cX8_findSoon 212 = .ok (.iload 4, 2) := by decide +kernel
theorem dX8_findSoon_214 : decode cX8_findSoon 214 = .ok (.iload_n 2, 1) := by decide +kernel
theorem dX8_findSoon_215 : decode cX8_findSoon 215 = .ok (.if_icmp .ge 22, 3) := by decide +kernel
theorem dX8_findSoon_218 : decode cX8_findSoon 218 = .ok (.iload 4, 2) := by decide +kernel
theorem dX8_findSoon_220 : decode cX8_findSoon 220 = .ok (.istore_n 2, 1) := by decide +kernel
theorem dX8_findSoon_221 : decode cX8_findSoon 221 = .ok (.aload_n 0, 1) := by decide +kernel
theorem dX8_findSoon_222 : decode cX8_findSoon 222 = .ok (.iconst 0, 1) := by decide +kernel
theorem dX8_findSoon_223 : decode cX8_findSoon 223 = .ok (.putfield 225, 3) := by decide +kernel
theorem dX8_findSoon_226 : decode cX8_findSoon 226 = .ok (.aload_n 0, 1) := by decide +kernel
theorem dX8_findSoon_227 : decode cX8_findSoon 227 = .ok (.bipush (-9), 2) := by decide +kernel
theorem dX8_findSoon_229 : decode cX8_findSoon 229 = .ok (.putfield 228, 3) := by decide +kernel
theorem dX8_findSoon_232 : decode cX8_findSoon 232 = .ok (.aload_n 0, 1) := by decide +kernel
theorem dX8_findSoon_233 : decode cX8_findSoon 233 = .ok (.iload_n 3, 1) := by decide +kernel
theorem dX8_findSoon_234 : decode cX8_findSoon 234 = .ok (.putfield 231, 3) := by decide +kernel
theorem dX8_findSoon_237 : decode cX8_findSoon 237 = .ok (.iload_n 2, 1) := by decide +kernel
theorem dX8_findSoon_238 : decode cX8_findSoon 238 = .ok (.ireturn, 1) := by decide +kernel
theorem dX8_soon_0 : decode cX8_soon 0 = .ok (.iload_n 1, 1) := by decide +kernel
theorem dX8_soon_1 : decode cX8_soon 1 = .ok (.invokestatic 169, 3) := by decide +kernel
theorem dX8_soon_4 : decode cX8_soon 4 = .ok (.ifCond .eq 8, 3) := by decide +kernel
theorem dX8_soon_7 : decode cX8_soon 7 = .ok (.iload_n 2, 1) := by decide +kernel
theorem dX8_soon_8 : decode cX8_soon 8 = .ok (.iconst (-1), 1) := by decide +kernel
theorem dX8_soon_9 : decode cX8_soon 9 = .ok (.if_icmp .ge 5, 3) := by decide +kernel
theorem dX8_soon_12 : decode cX8_soon 12 = .ok (.iconst (-1), 1) := by decide +kernel
theorem dX8_soon_13 : decode cX8_soon 13 = .ok (.ireturn, 1) := by decide +kernel
theorem dX8_soon_14 : decode cX8_soon 14 = .ok (.aload_n 0, 1) := by decide +kernel
theorem dX8_soon_15 : decode cX8_soon 15 = .ok (.iload_n 1, 1) := by decide +kernel
theorem dX8_soon_16 : decode cX8_soon 16 = .ok (.invokevirtual 238, 3) := by decide +kernel
theorem dX8_soon_19 : decode cX8_soon 19 = .ok (.ifCond .ne 6, 3) := by decide +kernel
theorem dX8_soon_22 : decode cX8_soon 22 = .ok (.bipush (-2), 2) := by decide +kernel
theorem dX8_soon_24 : decode cX8_soon 24 = .ok (.ireturn, 1) := by decide +kernel
theorem dX8_soon_25 : decode cX8_soon 25 = .ok (.aload_n 0, 1) := by decide +kernel
theorem dX8_soon_26 : decode cX8_soon 26 = .ok (.iload_n 1, 1) := by decide +kernel
theorem dX8_soon_27 : decode cX8_soon 27 = .ok (.invokevirtual 241, 3) := by decide +kernel
theorem dX8_soon_30 : decode cX8_soon 30 = .ok (.istore_n 3, 1) := by decide +kernel
theorem dX8_soon_31 : decode cX8_soon 31 = .ok (.iload_n 3, 1) := by decide +kernel
theorem dX8_soon_32 : decode cX8_soon 32 = .ok (.sipush 9999, 3) := by decide +kernel
theorem dX8_soon_35 : decode cX8_soon 35 = .ok (.if_icmp .eq 7, 3) := by decide +kernel
theorem dX8_soon_38 : decode cX8_soon 38 = .ok (.iload_n 2, 1) := by decide +kernel
theorem dX8_soon_39 : decode cX8_soon 39 = .ok (.ifCond .ge 17, 3) := by decide +kernel
theorem dX8_soon_42 : decode cX8_soon 42 = .ok (.iload_n 3, 1) := by decide +kernel
theorem dX8_soon_43 : decode cX8_soon 43 = .ok (.sipush 9999, 3) := by decide +kernel
theorem dX8_soon_46 : decode cX8_soon 46 = .ok (.if_icmp .ne 8, 3) := by decide +kernel
theorem dX8_soon_49 : decode cX8_soon 49 = .ok (.bipush (-9), 2) := by decide +kernel
theorem dX8_soon_51 : decode cX8_soon 51 = .ok (.goto 4, 3) := by decide +kernel
theorem dX8_soon_54 : decode cX8_soon 54 = .ok (.iload_n 3, 1) := by decide +kernel
theorem dX8_soon_55 : decode cX8_soon 55 = .ok (.ireturn, 1) := by decide +kernel
theorem dX8_soon_56 : decode cX8_soon 56 = .ok (.iload_n 2, 1) := by decide +kernel
theorem dX8_soon_57 : decode cX8_soon 57 = .ok (.aload_n 0, 1) := by decide +kernel
theorem dX8_soon_58 : decode cX8_soon 58 = .ok (.getfield 179, 3) := by decide +kernel
theorem dX8_soon_61 : decode cX8_soon 61 = .ok (.aload_n 0, 1) := by decide +kernel
theorem dX8_soon_62 : decode cX8_soon 62 = .ok (.getfield 225, 3) := by decide +kernel
theorem dX8_soon_65 : decode cX8_soon 65 = .ok (.isub, 1) := by decide +kernel
theorem dX8_soon_66 : decode cX8_soon 66 = .ok (.if_icmp .lt 5, 3) := by decide +kernel
theorem dX8_soon_69 : decode cX8_soon 69 = .ok (.iconst (-1), 1) := by decide +kernel
theorem dX8_soon_70 : decode cX8_soon 70 = .ok (.ireturn, 1) := by decide +kernel
theorem dX8_soon_71 : decode cX8_soon 71 = .ok (.aload_n 0, 1) := by decide +kernel
theorem dX8_soon_72 : decode cX8_soon 72 = .ok (.getfield 231, 3) := by decide +kernel
theorem dX8_soon_75 : decode cX8_soon 75 = .ok (.istore 4, 2) := by decide +kernel
theorem dX8_soon_77 : decode cX8_soon 77 = .ok (.aload_n 0, 1) := by decide +kernel
theorem dX8_soon_78 : decode cX8_soon 78 = .ok (.getfield 228, 3) := by decide +kernel
theorem dX8_soon_81 : decode cX8_soon 81 = .ok (.istore 5, 2) := by decide +kernel
theorem dX8_soon_83 : decode cX8_soon 83 = .ok (.aload_n 0, 1) := by decide +kernel
theorem dX8_soon_84 : decode cX8_soon 84 = .ok (.getfield 225, 3) := by decide +kernel
theorem dX8_soon_87 : decode cX8_soon 87 = .ok (.istore 6, 2) := by decide +kernel
theorem dX8_soon_89 : decode cX8_soon 89 = .ok (.iload 6, 2) := by decide +kernel
theorem dX8_soon_91 : decode cX8_soon 91 = .ok (.aload_n 0, 1) := by decide +kernel
theorem dX8_soon_92 : decode cX8_soon 92 = .ok (.getfield 225, 3) := by decide +kernel
theorem dX8_soon_95 : decode cX8_soon 95 = .ok (.iload_n 2, 1) := by decide +kernel
theorem dX8_soon_96 : decode cX8_soon 96 = .ok (.iadd, 1) := by decide +kernel
theorem dX8_soon_97 : decode cX8_soon 97 = .ok (.if_icmp .gt 49, 3) := by decide +kernel
theorem dX8_soon_100 : decode cX8_soon 100 = .ok (.aload_n 0, 1) := by decide +kernel
theorem dX8_soon_101 : decode cX8_soon 101 = .ok (.iload 6, 2) := by decide +kernel
theorem dX8_soon_103 : decode cX8_soon 103 = .ok (.iload 5, 2) := by decide +kernel
theorem dX8_soon_105 : decode cX8_soon 105 = .ok (.iload 4, 2) := by decide +kernel
theorem dX8_soon_107 : decode cX8_soon 107 = .ok (.invokevirtual 201, 3) := by decide +kernel
theorem dX8_soon_110 : decode cX8_soon 110 = .ok (.ifCond .eq 20, 3) := by decide +kernel
theorem dX8_soon_113 : decode cX8_soon 113 = .ok (.aload_n 0, 1) := by decide +kernel
theorem dX8_soon_114 : decode cX8_soon 114 = .ok (.getfield 79, 3) := by decide +kernel
theorem dX8_soon_117 : decode cX8_soon 117 = .ok (.bipush 60, 2) := by decide +kernel
theorem dX8_soon_119 : decode cX8_soon 119 = .ok (.iload 6, 2) := by decide +kernel
theorem dX8_soon_121 : decode cX8_soon 121 = .ok (.imul, 1) := by decide +kernel
theorem dX8_soon_122 : decode cX8_soon 122 = .ok (.iload 4, 2) := by decide +kernel
theorem dX8_soon_124 : decode cX8_soon 124 = .ok (.iadd, 1) := by decide +kernel
theorem dX8_soon_125 : decode cX8_soon 125 = .ok (.iaload, 1) := by decide +kernel
theorem dX8_soon_126 : decode cX8_soon 126 = .ok (.iload_n 3, 1) := by decide +kernel
theorem dX8_soon_127 : decode cX8_soon 127 = .ok (.if_icmp .le 9, 3) := by decide +kernel
theorem dX8_soon_130 : decode cX8_soon 130 = .ok (.iinc 4 1, 3) := by decide +kernel
theorem dX8_soon_133 : decode cX8_soon 133 = .ok (.goto (-33), 3) := by decide +kernel
theorem dX8_soon_136 : decode cX8_soon 136 = .ok (.iload 4, 2) := by decide +kernel
theorem dX8_soon_138 : decode cX8_soon 138 = .ok (.istore 5, 2) := by decide +kernel
theorem dX8_soon_140 : decode cX8_soon 140 = .ok (.iinc 6 1, 3) := by decide +kernel
theorem dX8_soon_143 : decode cX8_soon 143 = .ok (.goto (-54), 3) := by decide +kernel
theorem dX8_soon_146 : decode cX8_soon 146 = .ok (.iload 5, 2) := by decide +kernel
theorem dX8_soon_148 : decode cX8_soon 148 = .ok (.ireturn, 1) := by decide +kernel
theorem dX8_place_0 : decode cX8_place 0 = .ok (.bipush 60, 2) := by decide +kernel
theorem dX8_place_2 : decode cX8_place 2 = .ok (.iload_n 0, 1) := by decide +kernel
theorem dX8_place_3 : decode cX8_place 3 = .ok (.imul, 1) := by decide +kernel
theorem dX8_place_4 : decode cX8_place 4 = .ok (.iload_n 0, 1) := by decide +kernel
theorem dX8_place_5 : decode cX8_place 5 = .ok (.ifCond .ne 7, 3) := by decide +kernel
theorem dX8_place_8 : decode cX8_place 8 = .ok (.iconst 0, 1) := by decide +kernel
theorem dX8_place_9 : decode cX8_place 9 = .ok (.goto 4, 3) := by decide +kernel
theorem dX8_place_12 : decode cX8_place 12 = .ok (.iload_n 1, 1) := by decide +kernel
theorem dX8_place_13 : decode cX8_place 13 = .ok (.iadd, 1) := by decide +kernel
theorem dX8_place_14 : decode cX8_place 14 = .ok (.bipush 7, 2) := by decide +kernel
theorem dX8_place_16 : decode cX8_place 16 = .ok (.imul, 1) := by decide +kernel
theorem dX8_place_17 : decode cX8_place 17 = .ok (.iload_n 2, 1) := by decide +kernel
theorem dX8_place_18 : decode cX8_place 18 = .ok (.iadd, 1) := by decide +kernel
theorem dX8_place_19 : decode cX8_place 19 = .ok (.bipush 7, 2) := by decide +kernel
theorem dX8_place_21 : decode cX8_place 21 = .ok (.imul, 1) := by decide +kernel
theorem dX8_place_22 : decode cX8_place 22 = .ok (.iload_n 3, 1) := by decide +kernel
theorem dX8_place_23 : decode cX8_place 23 = .ok (.iadd, 1) := by decide +kernel
theorem dX8_place_24 : decode cX8_place 24 = .ok (.ireturn, 1) := by decide +kernel
theorem dX8_closeDay_0 : decode cX8_closeDay 0 = .ok (.iconst 0, 1) := by decide +kernel
theorem dX8_closeDay_1 : decode cX8_closeDay 1 = .ok (.istore_n 1, 1) := by decide +kernel
theorem dX8_closeDay_2 : decode cX8_closeDay 2 = .ok (.iload_n 1, 1) := by decide +kernel
theorem dX8_closeDay_3 : decode cX8_closeDay 3 = .ok (.sipush 2940, 3) := by decide +kernel
theorem dX8_closeDay_6 : decode cX8_closeDay 6 = .ok (.aload_n 0, 1) := by decide +kernel
theorem dX8_closeDay_7 : decode cX8_closeDay 7 = .ok (.getfield 179, 3) := by decide +kernel
theorem dX8_closeDay_10 : decode cX8_closeDay 10 = .ok (.imul, 1) := by decide +kernel
theorem dX8_closeDay_11 : decode cX8_closeDay 11 = .ok (.if_icmp .ge 21, 3) := by decide +kernel
theorem dX8_closeDay_14 : decode cX8_closeDay 14 = .ok (.aload_n 0, 1) := by decide +kernel
theorem dX8_closeDay_15 : decode cX8_closeDay 15 = .ok (.getfield 88, 3) := by decide +kernel
theorem dX8_closeDay_18 : decode cX8_closeDay 18 = .ok (.iload_n 1, 1) := by decide +kernel
theorem dX8_closeDay_19 : decode cX8_closeDay 19 = .ok (.aload_n 0, 1) := by decide +kernel
theorem dX8_closeDay_20 : decode cX8_closeDay 20 = .ok (.getfield 85, 3) := by decide +kernel
theorem dX8_closeDay_23 : decode cX8_closeDay 23 = .ok (.iload_n 1, 1) := by decide +kernel
theorem dX8_closeDay_24 : decode cX8_closeDay 24 = .ok (.iaload, 1) := by decide +kernel
theorem dX8_closeDay_25 : decode cX8_closeDay 25 = .ok (.iastore, 1) := by decide +kernel
theorem dX8_closeDay_26 : decode cX8_closeDay 26 = .ok (.iinc 1 1, 3) := by decide +kernel
theorem dX8_closeDay_29 : decode cX8_closeDay 29 = .ok (.goto (-27), 3) := by decide +kernel
theorem dX8_closeDay_32 : decode cX8_closeDay 32 = .ok (.return_, 1) := by decide +kernel
theorem dX8_fallBack_0 : decode cX8_fallBack 0 = .ok (.iconst 1, 1) := by decide +kernel
theorem dX8_fallBack_1 : decode cX8_fallBack 1 = .ok (.istore 4, 2) := by decide +kernel
theorem dX8_fallBack_3 : decode cX8_fallBack 3 = .ok (.iload 4, 2) := by decide +kernel
theorem dX8_fallBack_5 : decode cX8_fallBack 5 = .ok (.aload_n 0, 1) := by decide +kernel
theorem dX8_fallBack_6 : decode cX8_fallBack 6 = .ok (.getfield 179, 3) := by decide +kernel
theorem dX8_fallBack_9 : decode cX8_fallBack 9 = .ok (.if_icmp .ge 96, 3) := by decide +kernel
theorem dX8_fallBack_12 : decode cX8_fallBack 12 = .ok (.iconst 0, 1) := by decide +kernel
theorem dX8_fallBack_13 : decode cX8_fallBack 13 = .ok (.istore 5, 2) := by decide +kernel
theorem dX8_fallBack_15 : decode cX8_fallBack 15 = .ok (.iload 5, 2) := by decide +kernel
theorem dX8_fallBack_17 : decode cX8_fallBack 17 = .ok (.iload_n 1, 1) := by decide +kernel
theorem dX8_fallBack_18 : decode cX8_fallBack 18 = .ok (.if_icmp .gt 81, 3) := by decide +kernel
theorem dX8_fallBack_21 : decode cX8_fallBack 21 = .ok (.iconst 0, 1) := by decide +kernel
theorem dX8_fallBack_22 : decode cX8_fallBack 22 = .ok (.istore 6, 2) := by decide +kernel
theorem dX8_fallBack_24 : decode cX8_fallBack 24 = .ok (.iload 6, 2) := by decide +kernel
theorem dX8_fallBack_26 : decode cX8_fallBack 26 = .ok (.iload_n 2, 1) := by decide +kernel
theorem dX8_fallBack_27 : decode cX8_fallBack 27 = .ok (.if_icmp .gt 66, 3) := by decide +kernel
theorem dX8_fallBack_30 : decode cX8_fallBack 30 = .ok (.aload_n 0, 1) := by decide +kernel
theorem dX8_fallBack_31 : decode cX8_fallBack 31 = .ok (.iload 4, 2) := by decide +kernel
theorem dX8_fallBack_33 : decode cX8_fallBack 33 = .ok (.iload 5, 2) := by decide +kernel
theorem dX8_fallBack_35 : decode cX8_fallBack 35 = .ok (.iload_n 1, 1) := by decide +kernel
theorem dX8_fallBack_36 : decode cX8_fallBack 36 = .ok (.invokevirtual 244, 3) := by decide +kernel
theorem dX8_fallBack_39 : decode cX8_fallBack 39 = .ok (.ifCond .eq 54, 3) := by decide +kernel
theorem dX8_fallBack_42 : decode cX8_fallBack 42 = .ok (.iconst 0, 1) := by decide +kernel
theorem dX8_fallBack_43 : decode cX8_fallBack 43 = .ok (.istore 7, 2) := by decide +kernel
theorem dX8_fallBack_45 : decode cX8_fallBack 45 = .ok (.iload 7, 2) := by decide +kernel
theorem dX8_fallBack_47 : decode cX8_fallBack 47 = .ok (.iload_n 3, 1) := by decide +kernel
theorem dX8_fallBack_48 : decode cX8_fallBack 48 = .ok (.if_icmp .gt 39, 3) := by decide +kernel
theorem dX8_fallBack_51 : decode cX8_fallBack 51 = .ok (.aload_n 0, 1) := by decide +kernel
theorem dX8_fallBack_52 : decode cX8_fallBack 52 = .ok (.getfield 85, 3) := by decide +kernel
theorem dX8_fallBack_55 : decode cX8_fallBack 55 = .ok (.iload 4, 2) := by decide +kernel
theorem dX8_fallBack_57 : decode cX8_fallBack 57 = .ok (.iload 5, 2) := by decide +kernel
theorem dX8_fallBack_59 : decode cX8_fallBack 59 = .ok (.iload 6, 2) := by decide +kernel
theorem dX8_fallBack_61 : decode cX8_fallBack 61 = .ok (.iload 7, 2) := by decide +kernel
theorem dX8_fallBack_63 : decode cX8_fallBack 63 = .ok (.invokestatic 247, 3) := by decide +kernel
theorem dX8_fallBack_66 : decode cX8_fallBack 66 = .ok (.aload_n 0, 1) := by decide +kernel
theorem dX8_fallBack_67 : decode cX8_fallBack 67 = .ok (.getfield 85, 3) := by decide +kernel
theorem dX8_fallBack_70 : decode cX8_fallBack 70 = .ok (.iconst 0, 1) := by decide +kernel
theorem dX8_fallBack_71 : decode cX8_fallBack 71 = .ok (.iconst 0, 1) := by decide +kernel
theorem dX8_fallBack_72 : decode cX8_fallBack 72 = .ok (.iload 6, 2) := by decide +kernel
theorem dX8_fallBack_74 : decode cX8_fallBack 74 = .ok (.iload 7, 2) := by decide +kernel
theorem dX8_fallBack_76 : decode cX8_fallBack 76 = .ok (.invokestatic 247, 3) := by decide +kernel
theorem dX8_fallBack_79 : decode cX8_fallBack 79 = .ok (.iaload, 1) := by decide +kernel
theorem dX8_fallBack_80 : decode cX8_fallBack 80 = .ok (.iastore, 1) := by decide +kernel
theorem dX8_fallBack_81 : decode cX8_fallBack 81 = .ok (.iinc 7 1, 3) := by decide +kernel
theorem dX8_fallBack_84 : decode cX8_fallBack 84 = .ok (.goto (-39), 3) := by decide +kernel
theorem dX8_fallBack_87 : decode cX8_fallBack 87 = .ok (.iinc 6 1, 3) := by decide +kernel
theorem dX8_fallBack_90 : decode cX8_fallBack 90 = .ok (.goto (-66), 3) := by decide +kernel
theorem dX8_fallBack_93 : decode cX8_fallBack 93 = .ok (.iinc 5 1, 3) := by decide +kernel
theorem dX8_fallBack_96 : decode cX8_fallBack 96 = .ok (.goto (-81), 3) := by decide +kernel
theorem dX8_fallBack_99 : decode cX8_fallBack 99 = .ok (.iinc 4 1, 3) := by decide +kernel
theorem dX8_fallBack_102 : decode cX8_fallBack 102 = .ok (.goto (-99), 3) := by decide +kernel
theorem dX8_fallBack_105 : decode cX8_fallBack 105 = .ok (.return_, 1) := by decide +kernel
theorem dX8_callAt_0 : decode cX8_callAt 0 = .ok (.iload_n 1, 1) := by decide +kernel
theorem dX8_callAt_1 : decode cX8_callAt 1 = .ok (.iconst 1, 1) := by decide +kernel
theorem dX8_callAt_2 : decode cX8_callAt 2 = .ok (.iadd, 1) := by decide +kernel
theorem dX8_callAt_3 : decode cX8_callAt 3 = .ok (.aload_n 0, 1) := by decide +kernel
theorem dX8_callAt_4 : decode cX8_callAt 4 = .ok (.getfield 179, 3) := by decide +kernel
theorem dX8_callAt_7 : decode cX8_callAt 7 = .ok (.if_icmp .ne 7, 3) := by decide +kernel
theorem dX8_callAt_10 : decode cX8_callAt 10 = .ok (.iload_n 3, 1) := by decide +kernel
theorem dX8_callAt_11 : decode cX8_callAt 11 = .ok (.goto 19, 3) := by decide +kernel
theorem dX8_callAt_14 : decode cX8_callAt 14 = .ok (.aload_n 0, 1) := by decide +kernel
theorem dX8_callAt_15 : decode cX8_callAt 15 = .ok (.getfield 85, 3) := by decide +kernel
theorem dX8_callAt_18 : decode cX8_callAt 18 = .ok (.iload_n 1, 1) := by decide +kernel
theorem dX8_callAt_19 : decode cX8_callAt 19 = .ok (.iconst 1, 1) := by decide +kernel
theorem dX8_callAt_20 : decode cX8_callAt 20 = .ok (.iadd, 1) := by decide +kernel
theorem dX8_callAt_21 : decode cX8_callAt 21 = .ok (.iload_n 3, 1) := by decide +kernel
theorem dX8_callAt_22 : decode cX8_callAt 22 = .ok (.iload 4, 2) := by decide +kernel
theorem dX8_callAt_24 : decode cX8_callAt 24 = .ok (.iload 5, 2) := by decide +kernel
theorem dX8_callAt_26 : decode cX8_callAt 26 = .ok (.invokestatic 247, 3) := by decide +kernel
theorem dX8_callAt_29 : decode cX8_callAt 29 = .ok (.iaload, 1) := by decide +kernel
theorem dX8_callAt_30 : decode cX8_callAt 30 = .ok (.istore 6, 2) := by decide +kernel
theorem dX8_callAt_32 : decode cX8_callAt 32 = .ok (.iload 4, 2) := by decide +kernel
theorem dX8_callAt_34 : decode cX8_callAt 34 = .ok (.ifCond .le 54, 3) := by decide +kernel
theorem dX8_callAt_37 : decode cX8_callAt 37 = .ok (.aload_n 0, 1) := by decide +kernel
theorem dX8_callAt_38 : decode cX8_callAt 38 = .ok (.getfield 76, 3) := by decide +kernel
theorem dX8_callAt_41 : decode cX8_callAt 41 = .ok (.iload_n 1, 1) := by decide +kernel
theorem dX8_callAt_42 : decode cX8_callAt 42 = .ok (.iaload, 1) := by decide +kernel
theorem dX8_callAt_43 : decode cX8_callAt 43 = .ok (.iconst 1, 1) := by decide +kernel
theorem dX8_callAt_44 : decode cX8_callAt 44 = .ok (.iand, 1) := by decide +kernel
theorem dX8_callAt_45 : decode cX8_callAt 45 = .ok (.iconst 1, 1) := by decide +kernel
theorem dX8_callAt_46 : decode cX8_callAt 46 = .ok (.if_icmp .ne 42, 3) := by decide +kernel
theorem dX8_callAt_49 : decode cX8_callAt 49 = .ok (.aload_n 0, 1) := by decide +kernel
theorem dX8_callAt_50 : decode cX8_callAt 50 = .ok (.getfield 85, 3) := by decide +kernel
theorem dX8_callAt_53 : decode cX8_callAt 53 = .ok (.iload_n 1, 1) := by decide +kernel
theorem dX8_callAt_54 : decode cX8_callAt 54 = .ok (.iload_n 2, 1) := by decide +kernel
theorem dX8_callAt_55 : decode cX8_callAt 55 = .ok (.iload 4, 2) := by decide +kernel
theorem dX8_callAt_57 : decode cX8_callAt 57 = .ok (.iconst 1, 1) := by decide +kernel
theorem dX8_callAt_58 : decode cX8_callAt 58 = .ok (.isub, 1) := by decide +kernel
theorem dX8_callAt_59 : decode cX8_callAt 59 = .ok (.iload 5, 2) := by decide +kernel
theorem dX8_callAt_61 : decode cX8_callAt 61 = .ok (.invokestatic 247, 3) := by decide +kernel
theorem dX8_callAt_64 : decode cX8_callAt 64 = .ok (.iaload, 1) := by decide +kernel
theorem dX8_callAt_65 : decode cX8_callAt 65 = .ok (.iload 6, 2) := by decide +kernel
theorem dX8_callAt_67 : decode cX8_callAt 67 = .ok (.if_icmp .le 21, 3) := by decide +kernel
theorem dX8_callAt_70 : decode cX8_callAt 70 = .ok (.aload_n 0, 1) := by decide +kernel
theorem dX8_callAt_71 : decode cX8_callAt 71 = .ok (.getfield 85, 3) := by decide +kernel
theorem dX8_callAt_74 : decode cX8_callAt 74 = .ok (.iload_n 1, 1) := by decide +kernel
theorem dX8_callAt_75 : decode cX8_callAt 75 = .ok (.iload_n 2, 1) := by decide +kernel
theorem dX8_callAt_76 : decode cX8_callAt 76 = .ok (.iload 4, 2) := by decide +kernel
theorem dX8_callAt_78 : decode cX8_callAt 78 = .ok (.iconst 1, 1) := by decide +kernel
theorem dX8_callAt_79 : decode cX8_callAt 79 = .ok (.isub, 1) := by decide +kernel
theorem dX8_callAt_80 : decode cX8_callAt 80 = .ok (.iload 5, 2) := by decide +kernel
theorem dX8_callAt_82 : decode cX8_callAt 82 = .ok (.invokestatic 247, 3) := by decide +kernel
theorem dX8_callAt_85 : decode cX8_callAt 85 = .ok (.iaload, 1) := by decide +kernel
theorem dX8_callAt_86 : decode cX8_callAt 86 = .ok (.istore 6, 2) := by decide +kernel
theorem dX8_callAt_88 : decode cX8_callAt 88 = .ok (.iload 5, 2) := by decide +kernel
theorem dX8_callAt_90 : decode cX8_callAt 90 = .ok (.ifCond .le 54, 3) := by decide +kernel
theorem dX8_callAt_93 : decode cX8_callAt 93 = .ok (.aload_n 0, 1) := by decide +kernel
theorem dX8_callAt_94 : decode cX8_callAt 94 = .ok (.getfield 76, 3) := by decide +kernel
theorem dX8_callAt_97 : decode cX8_callAt 97 = .ok (.iload_n 1, 1) := by decide +kernel
theorem dX8_callAt_98 : decode cX8_callAt 98 = .ok (.iaload, 1) := by decide +kernel
theorem dX8_callAt_99 : decode cX8_callAt 99 = .ok (.iconst 2, 1) := by decide +kernel
theorem dX8_callAt_100 : decode cX8_callAt 100 = .ok (.iand, 1) := by decide +kernel
theorem dX8_callAt_101 : decode cX8_callAt 101 = .ok (.iconst 2, 1) := by decide +kernel
theorem dX8_callAt_102 : decode cX8_callAt 102 = .ok (.if_icmp .ne 42, 3) := by decide +kernel
theorem dX8_callAt_105 : decode cX8_callAt 105 = .ok (.aload_n 0, 1) := by decide +kernel
theorem dX8_callAt_106 : decode cX8_callAt 106 = .ok (.getfield 85, 3) := by decide +kernel
theorem dX8_callAt_109 : decode cX8_callAt 109 = .ok (.iload_n 1, 1) := by decide +kernel
theorem dX8_callAt_110 : decode cX8_callAt 110 = .ok (.iload_n 2, 1) := by decide +kernel
theorem dX8_callAt_111 : decode cX8_callAt 111 = .ok (.iload 4, 2) := by decide +kernel
theorem dX8_callAt_113 : decode cX8_callAt 113 = .ok (.iload 5, 2) := by decide +kernel
theorem dX8_callAt_115 : decode cX8_callAt 115 = .ok (.iconst 1, 1) := by decide +kernel
theorem dX8_callAt_116 : decode cX8_callAt 116 = .ok (.isub, 1) := by decide +kernel
theorem dX8_callAt_117 : decode cX8_callAt 117 = .ok (.invokestatic 247, 3) := by decide +kernel
theorem dX8_callAt_120 : decode cX8_callAt 120 = .ok (.iaload, 1) := by decide +kernel
theorem dX8_callAt_121 : decode cX8_callAt 121 = .ok (.iload 6, 2) := by decide +kernel
theorem dX8_callAt_123 : decode cX8_callAt 123 = .ok (.if_icmp .le 21, 3) := by decide +kernel
theorem dX8_callAt_126 : decode cX8_callAt 126 = .ok (.aload_n 0, 1) := by decide +kernel
theorem dX8_callAt_127 : decode cX8_callAt 127 = .ok (.getfield 85, 3) := by decide +kernel
theorem dX8_callAt_130 : decode cX8_callAt 130 = .ok (.iload_n 1, 1) := by decide +kernel
theorem dX8_callAt_131 : decode cX8_callAt 131 = .ok (.iload_n 2, 1) := by decide +kernel
theorem dX8_callAt_132 : decode cX8_callAt 132 = .ok (.iload 4, 2) := by decide +kernel
theorem dX8_callAt_134 : decode cX8_callAt 134 = .ok (.iload 5, 2) := by decide +kernel
theorem dX8_callAt_136 : decode cX8_callAt 136 = .ok (.iconst 1, 1) := by decide +kernel
theorem dX8_callAt_137 : decode cX8_callAt 137 = .ok (.isub, 1) := by decide +kernel
theorem dX8_callAt_138 : decode cX8_callAt 138 = .ok (.invokestatic 247, 3) := by decide +kernel
theorem dX8_callAt_141 : decode cX8_callAt 141 = .ok (.iaload, 1) := by decide +kernel
theorem dX8_callAt_142 : decode cX8_callAt 142 = .ok (.istore 6, 2) := by decide +kernel
theorem dX8_callAt_144 : decode cX8_callAt 144 = .ok (.iload 6, 2) := by decide +kernel
theorem dX8_callAt_146 : decode cX8_callAt 146 = .ok (.ireturn, 1) := by decide +kernel
theorem dX8_play_0 : decode cX8_play 0 = .ok (.iconst 0, 1) := by decide +kernel
theorem dX8_play_1 : decode cX8_play 1 = .ok (.istore 5, 2) := by decide +kernel
theorem dX8_play_3 : decode cX8_play 3 = .ok (.iload 5, 2) := by decide +kernel
theorem dX8_play_5 : decode cX8_play 5 = .ok (.sipush 11760, 3) := by decide +kernel
theorem dX8_play_8 : decode cX8_play 8 = .ok (.if_icmp .ge 19, 3) := by decide +kernel
theorem dX8_play_11 : decode cX8_play 11 = .ok (.aload_n 0, 1) := by decide +kernel
theorem dX8_play_12 : decode cX8_play 12 = .ok (.getfield 88, 3) := by decide +kernel
theorem dX8_play_15 : decode cX8_play 15 = .ok (.iload 5, 2) := by decide +kernel
theorem dX8_play_17 : decode cX8_play 17 = .ok (.sipush 9999, 3) := by decide +kernel
theorem dX8_play_20 : decode cX8_play 20 = .ok (.iastore, 1) := by decide +kernel
theorem dX8_play_21 : decode cX8_play 21 = .ok (.iinc 5 1, 3) := by decide +kernel
theorem dX8_play_24 : decode cX8_play 24 = .ok (.goto (-21), 3) := by decide +kernel
theorem dX8_play_27 : decode cX8_play 27 = .ok (.aload_n 0, 1) := by decide +kernel
theorem dX8_play_28 : decode cX8_play 28 = .ok (.getfield 176, 3) := by decide +kernel
theorem dX8_play_31 : decode cX8_play 31 = .ok (.iconst 1, 1) := by decide +kernel
theorem dX8_play_32 : decode cX8_play 32 = .ok (.isub, 1) := by decide +kernel
theorem dX8_play_33 : decode cX8_play 33 = .ok (.istore 5, 2) := by decide +kernel
theorem dX8_play_35 : decode cX8_play 35 = .ok (.iload 5, 2) := by decide +kernel
theorem dX8_play_37 : decode cX8_play 37 = .ok (.iload_n 1, 1) := by decide +kernel
theorem dX8_play_38 : decode cX8_play 38 = .ok (.if_icmp .lt 210, 3) := by decide +kernel
theorem dX8_play_41 : decode cX8_play 41 = .ok (.aload_n 0, 1) := by decide +kernel
theorem dX8_play_42 : decode cX8_play 42 = .ok (.getfield 179, 3) := by decide +kernel
theorem dX8_play_45 : decode cX8_play 45 = .ok (.iconst 1, 1) := by decide +kernel
theorem dX8_play_46 : decode cX8_play 46 = .ok (.isub, 1) := by decide +kernel
theorem dX8_play_47 : decode cX8_play 47 = .ok (.istore 6, 2) := by decide +kernel
theorem dX8_play_49 : decode cX8_play 49 = .ok (.iload 6, 2) := by decide +kernel
theorem dX8_play_51 : decode cX8_play 51 = .ok (.ifCond .lt 178, 3) := by decide +kernel
theorem dX8_play_54 : decode cX8_play 54 = .ok (.iconst 0, 1) := by decide +kernel
theorem dX8_play_55 : decode cX8_play 55 = .ok (.istore 7, 2) := by decide +kernel
theorem dX8_play_57 : decode cX8_play 57 = .ok (.iload 7, 2) := by decide +kernel
theorem dX8_play_59 : decode cX8_play 59 = .ok (.iload 6, 2) := by decide +kernel
theorem dX8_play_61 : decode cX8_play 61 = .ok (.ifCond .ne 7, 3) := by decide +kernel
theorem dX8_play_64 : decode cX8_play 64 = .ok (.iconst 0, 1) := by decide +kernel
theorem dX8_play_65 : decode cX8_play 65 = .ok (.goto 5, 3) := by decide +kernel
theorem dX8_play_68 : decode cX8_play 68 = .ok (.iload 5, 2) := by decide +kernel
theorem dX8_play_70 : decode cX8_play 70 = .ok (.if_icmp .gt 153, 3) := by decide +kernel
theorem dX8_play_73 : decode cX8_play 73 = .ok (.aload_n 0, 1) := by decide +kernel
theorem dX8_play_74 : decode cX8_play 74 = .ok (.iload 6, 2) := by decide +kernel
theorem dX8_play_76 : decode cX8_play 76 = .ok (.iload 7, 2) := by decide +kernel
theorem dX8_play_78 : decode cX8_play 78 = .ok (.iload 5, 2) := by decide +kernel
theorem dX8_play_80 : decode cX8_play 80 = .ok (.invokevirtual 244, 3) := by decide +kernel
theorem dX8_play_83 : decode cX8_play 83 = .ok (.ifCond .ne 134, 3) := by decide +kernel
theorem dX8_play_86 : decode cX8_play 86 = .ok (.iload_n 2, 1) := by decide +kernel
theorem dX8_play_87 : decode cX8_play 87 = .ok (.ifCond .eq 9, 3) := by decide +kernel
theorem dX8_play_90 : decode cX8_play 90 = .ok (.iload 5, 2) := by decide +kernel
theorem dX8_play_92 : decode cX8_play 92 = .ok (.iload_n 1, 1) := by decide +kernel
theorem dX8_play_93 : decode cX8_play 93 = .ok (.if_icmp .eq 20, 3) := by decide +kernel
theorem dX8_play_96 : decode cX8_play 96 = .ok (.aload_n 0, 1) := by decide +kernel
theorem dX8_play_97 : decode cX8_play 97 = .ok (.iload 6, 2) := by decide +kernel
theorem dX8_play_99 : decode cX8_play 99 = .ok (.iload 7, 2) := by decide +kernel
theorem dX8_play_101 : decode cX8_play 101 = .ok (.iload 5, 2) := by decide +kernel
theorem dX8_play_103 : decode cX8_play 103 = .ok (.invokevirtual 201, 3) := by decide +kernel
theorem dX8_play_106 : decode cX8_play 106 = .ok (.ifCond .eq 7, 3) := by decide +kernel
theorem dX8_play_109 : decode cX8_play 109 = .ok (.iconst 1, 1) := by decide +kernel
theorem dX8_play_110 : decode cX8_play 110 = .ok (.goto 4, 3) := by decide +kernel
theorem dX8_play_113 : decode cX8_play 113 = .ok (.iconst 0, 1) := by decide +kernel
theorem dX8_play_114 : decode cX8_play 114 = .ok (.istore 8, 2) := by decide +kernel
theorem dX8_play_116 : decode cX8_play 116 = .ok (.iconst 0, 1) := by decide +kernel
theorem dX8_play_117 : decode cX8_play 117 = .ok (.istore 9, 2) := by decide +kernel
theorem dX8_play_119 : decode cX8_play 119 = .ok (.iload 9, 2) := by decide +kernel
theorem dX8_play_121 : decode cX8_play 121 = .ok (.iload_n 3, 1) := by decide +kernel
theorem dX8_play_122 : decode cX8_play 122 = .ok (.if_icmp .gt 95, 3) := by decide +kernel
theorem dX8_play_125 : decode cX8_play 125 = .ok (.iconst 0, 1) := by decide +kernel
theorem dX8_play_126 : decode cX8_play 126 = .ok (.istore 10, 2) := by decide +kernel
theorem dX8_play_128 : decode cX8_play 128 = .ok (.iload 10, 2) := by decide +kernel
theorem dX8_play_130 : decode cX8_play 130 = .ok (.iload 4, 2) := by decide +kernel
theorem dX8_play_132 : decode cX8_play 132 = .ok (.if_icmp .gt 79, 3) := by decide +kernel
theorem dX8_play_135 : decode cX8_play 135 = .ok (.iload 6, 2) := by decide +kernel
theorem dX8_play_137 : decode cX8_play 137 = .ok (.iload 7, 2) := by decide +kernel
theorem dX8_play_139 : decode cX8_play 139 = .ok (.iload 9, 2) := by decide +kernel
theorem dX8_play_141 : decode cX8_play 141 = .ok (.iload 10, 2) := by decide +kernel
theorem dX8_play_143 : decode cX8_play 143 = .ok (.invokestatic 247, 3) := by decide +kernel
theorem dX8_play_146 : decode cX8_play 146 = .ok (.istore 11, 2) := by decide +kernel
theorem dX8_play_148 : decode cX8_play 148 = .ok (.aload_n 0, 1) := by decide +kernel
theorem dX8_play_149 : decode cX8_play 149 = .ok (.getfield 88, 3) := by decide +kernel
theorem dX8_play_152 : decode cX8_play 152 = .ok (.iload 11, 2) := by decide +kernel
theorem dX8_play_154 : decode cX8_play 154 = .ok (.iaload, 1) := by decide +kernel
theorem dX8_play_155 : decode cX8_play 155 = .ok (.istore 12, 2) := by decide +kernel
theorem dX8_play_157 : decode cX8_play 157 = .ok (.iload 8, 2) := by decide +kernel
theorem dX8_play_159 : decode cX8_play 159 = .ok (.ifCond .eq 20, 3) := by decide +kernel
theorem dX8_play_162 : decode cX8_play 162 = .ok (.aload_n 0, 1) := by decide +kernel
theorem dX8_play_163 : decode cX8_play 163 = .ok (.iload 6, 2) := by decide +kernel
theorem dX8_play_165 : decode cX8_play 165 = .ok (.iload 7, 2) := by decide +kernel
theorem dX8_play_167 : decode cX8_play 167 = .ok (.iload 5, 2) := by decide +kernel
theorem dX8_play_169 : decode cX8_play 169 = .ok (.iload 9, 2) := by decide +kernel
theorem dX8_play_171 : decode cX8_play 171 = .ok (.iload 10, 2) := by decide +kernel
theorem dX8_play_173 : decode cX8_play 173 = .ok (.invokevirtual 251, 3) := by decide +kernel
theorem dX8_play_176 : decode cX8_play 176 = .ok (.goto 6, 3) := by decide +kernel
theorem dX8_play_179 : decode cX8_play 179 = .ok (.sipush 9999, 3) := by decide +kernel
theorem dX8_play_182 : decode cX8_play 182 = .ok (.istore 13, 2) := by decide +kernel
theorem dX8_play_184 : decode cX8_play 184 = .ok (.aload_n 0, 1) := by decide +kernel
theorem dX8_play_185 : decode cX8_play 185 = .ok (.getfield 85, 3) := by decide +kernel
theorem dX8_play_188 : decode cX8_play 188 = .ok (.iload 11, 2) := by decide +kernel
theorem dX8_play_190 : decode cX8_play 190 = .ok (.iload 13, 2) := by decide +kernel
theorem dX8_play_192 : decode cX8_play 192 = .ok (.iload 12, 2) := by decide +kernel
theorem dX8_play_194 : decode cX8_play 194 = .ok (.if_icmp .ge 8, 3) := by decide +kernel
theorem dX8_play_197 : decode cX8_play 197 = .ok (.iload 13, 2) := by decide +kernel
theorem dX8_play_199 : decode cX8_play 199 = .ok (.goto 5, 3) := by decide +kernel
theorem dX8_play_202 : decode cX8_play 202 = .ok (.iload 12, 2) := by decide +kernel
theorem dX8_play_204 : decode cX8_play 204 = .ok (.iastore, 1) := by decide +kernel
theorem dX8_play_205 : decode cX8_play 205 = .ok (.iinc 10 1, 3) := by decide +kernel
theorem dX8_play_208 : decode cX8_play 208 = .ok (.goto (-80), 3) := by decide +kernel
theorem dX8_play_211 : decode cX8_play 211 = .ok (.iinc 9 1, 3) := by decide +kernel
theorem dX8_play_214 : decode cX8_play 214 = .ok (.goto (-95), 3) := by decide +kernel
theorem dX8_play_217 : decode cX8_play 217 = .ok (.iinc 7 1, 3) := by decide +kernel
theorem dX8_play_220 : decode cX8_play 220 = .ok (.goto (-163), 3) := by decide +kernel
theorem dX8_play_223 : decode cX8_play 223 = .ok (.iinc 6 (-1), 3) := by decide +kernel
theorem dX8_play_226 : decode cX8_play 226 = .ok (.goto (-177), 3) := by decide +kernel
theorem dX8_play_229 : decode cX8_play 229 = .ok (.aload_n 0, 1) := by decide +kernel
theorem dX8_play_230 : decode cX8_play 230 = .ok (.iload 5, 2) := by decide +kernel
theorem dX8_play_232 : decode cX8_play 232 = .ok (.iload_n 3, 1) := by decide +kernel
theorem dX8_play_233 : decode cX8_play 233 = .ok (.iload 4, 2) := by decide +kernel
theorem dX8_play_235 : decode cX8_play 235 = .ok (.invokevirtual 255, 3) := by decide +kernel
theorem dX8_play_238 : decode cX8_play 238 = .ok (.aload_n 0, 1) := by decide +kernel
theorem dX8_play_239 : decode cX8_play 239 = .ok (.invokevirtual 259, 3) := by decide +kernel
theorem dX8_play_242 : decode cX8_play 242 = .ok (.iinc 5 (-1), 3) := by decide +kernel
theorem dX8_play_245 : decode cX8_play 245 = .ok (.goto (-210), 3) := by decide +kernel
theorem dX8_play_248 : decode cX8_play 248 = .ok (.return_, 1) := by decide +kernel
theorem dX8_playNow_0 : decode cX8_playNow 0 = .ok (.aload_n 0, 1) := by decide +kernel
theorem dX8_playNow_1 : decode cX8_playNow 1 = .ok (.iload_n 1, 1) := by decide +kernel
theorem dX8_playNow_2 : decode cX8_playNow 2 = .ok (.iconst 1, 1) := by decide +kernel
theorem dX8_playNow_3 : decode cX8_playNow 3 = .ok (.invokevirtual 188, 3) := by decide +kernel
theorem dX8_playNow_6 : decode cX8_playNow 6 = .ok (.aload_n 0, 1) := by decide +kernel
theorem dX8_playNow_7 : decode cX8_playNow 7 = .ok (.aload_n 0, 1) := by decide +kernel
theorem dX8_playNow_8 : decode cX8_playNow 8 = .ok (.getfield 38, 3) := by decide +kernel
theorem dX8_playNow_11 : decode cX8_playNow 11 = .ok (.iconst 0, 1) := by decide +kernel
theorem dX8_playNow_12 : decode cX8_playNow 12 = .ok (.iaload, 1) := by decide +kernel
theorem dX8_playNow_13 : decode cX8_playNow 13 = .ok (.aload_n 0, 1) := by decide +kernel
theorem dX8_playNow_14 : decode cX8_playNow 14 = .ok (.getfield 38, 3) := by decide +kernel
theorem dX8_playNow_17 : decode cX8_playNow 17 = .ok (.iconst 4, 1) := by decide +kernel
theorem dX8_playNow_18 : decode cX8_playNow 18 = .ok (.iaload, 1) := by decide +kernel
theorem dX8_playNow_19 : decode cX8_playNow 19 = .ok (.iconst 1, 1) := by decide +kernel
theorem dX8_playNow_20 : decode cX8_playNow 20 = .ok (.if_icmp .ne 7, 3) := by decide +kernel
theorem dX8_playNow_23 : decode cX8_playNow 23 = .ok (.iconst 1, 1) := by decide +kernel
theorem dX8_playNow_24 : decode cX8_playNow 24 = .ok (.goto 4, 3) := by decide +kernel
theorem dX8_playNow_27 : decode cX8_playNow 27 = .ok (.iconst 0, 1) := by decide +kernel
theorem dX8_playNow_28 : decode cX8_playNow 28 = .ok (.iload_n 2, 1) := by decide +kernel
theorem dX8_playNow_29 : decode cX8_playNow 29 = .ok (.iload_n 3, 1) := by decide +kernel
theorem dX8_playNow_30 : decode cX8_playNow 30 = .ok (.invokevirtual 262, 3) := by decide +kernel
theorem dX8_playNow_33 : decode cX8_playNow 33 = .ok (.return_, 1) := by decide +kernel
theorem dX8_tells_0 : decode cX8_tells 0 = .ok (.aload_n 0, 1) := by decide +kernel
theorem dX8_tells_1 : decode cX8_tells 1 = .ok (.iload_n 1, 1) := by decide +kernel
theorem dX8_tells_2 : decode cX8_tells 2 = .ok (.invokevirtual 198, 3) := by decide +kernel
theorem dX8_tells_5 : decode cX8_tells 5 = .ok (.istore 4, 2) := by decide +kernel
theorem dX8_tells_7 : decode cX8_tells 7 = .ok (.aload_n 0, 1) := by decide +kernel
theorem dX8_tells_8 : decode cX8_tells 8 = .ok (.getfield 88, 3) := by decide +kernel
theorem dX8_tells_11 : decode cX8_tells 11 = .ok (.iload 4, 2) := by decide +kernel
theorem dX8_tells_13 : decode cX8_tells 13 = .ok (.iload 4, 2) := by decide +kernel
theorem dX8_tells_15 : decode cX8_tells 15 = .ok (.ifCond .ne 7, 3) := by decide +kernel
theorem dX8_tells_18 : decode cX8_tells 18 = .ok (.iconst 0, 1) := by decide +kernel
theorem dX8_tells_19 : decode cX8_tells 19 = .ok (.goto 12, 3) := by decide +kernel
theorem dX8_tells_22 : decode cX8_tells 22 = .ok (.aload_n 0, 1) := by decide +kernel
theorem dX8_tells_23 : decode cX8_tells 23 = .ok (.getfield 38, 3) := by decide +kernel
theorem dX8_tells_26 : decode cX8_tells 26 = .ok (.bipush 18, 2) := by decide +kernel
theorem dX8_tells_28 : decode cX8_tells 28 = .ok (.iload_n 1, 1) := by decide +kernel
theorem dX8_tells_29 : decode cX8_tells 29 = .ok (.iadd, 1) := by decide +kernel
theorem dX8_tells_30 : decode cX8_tells 30 = .ok (.iaload, 1) := by decide +kernel
theorem dX8_tells_31 : decode cX8_tells 31 = .ok (.iload_n 2, 1) := by decide +kernel
theorem dX8_tells_32 : decode cX8_tells 32 = .ok (.iload_n 3, 1) := by decide +kernel
theorem dX8_tells_33 : decode cX8_tells 33 = .ok (.invokestatic 247, 3) := by decide +kernel
theorem dX8_tells_36 : decode cX8_tells 36 = .ok (.iaload, 1) := by decide +kernel
theorem dX8_tells_37 : decode cX8_tells 37 = .ok (.ireturn, 1) := by decide +kernel
theorem dX8_against_0 : decode cX8_against 0 = .ok (.iload_n 1, 1) := by decide +kernel
theorem dX8_against_1 : decode cX8_against 1 = .ok (.invokestatic 169, 3) := by decide +kernel
theorem dX8_against_4 : decode cX8_against 4 = .ok (.ifCond .ne 5, 3) := by decide +kernel
theorem dX8_against_7 : decode cX8_against 7 = .ok (.iconst (-1), 1) := by decide +kernel
theorem dX8_against_8 : decode cX8_against 8 = .ok (.ireturn, 1) := by decide +kernel
theorem dX8_against_9 : decode cX8_against 9 = .ok (.aload_n 0, 1) := by decide +kernel
theorem dX8_against_10 : decode cX8_against 10 = .ok (.iload_n 1, 1) := by decide +kernel
theorem dX8_against_11 : decode cX8_against 11 = .ok (.invokevirtual 238, 3) := by decide +kernel
theorem dX8_against_14 : decode cX8_against 14 = .ok (.ifCond .ne 6, 3) := by decide +kernel
theorem dX8_against_17 : decode cX8_against 17 = .ok (.bipush (-2), 2) := by decide +kernel
theorem dX8_against_19 : decode cX8_against 19 = .ok (.ireturn, 1) := by decide +kernel
theorem dX8_against_20 : decode cX8_against 20 = .ok (.aload_n 0, 1) := by decide +kernel
theorem dX8_against_21 : decode cX8_against 21 = .ok (.iload_n 1, 1) := by decide +kernel
theorem dX8_against_22 : decode cX8_against 22 = .ok (.iconst 1, 1) := by decide +kernel
theorem dX8_against_23 : decode cX8_against 23 = .ok (.invokevirtual 188, 3) := by decide +kernel
theorem dX8_against_26 : decode cX8_against 26 = .ok (.iconst 0, 1) := by decide +kernel
theorem dX8_against_27 : decode cX8_against 27 = .ok (.istore_n 2, 1) := by decide +kernel
theorem dX8_against_28 : decode cX8_against 28 = .ok (.iload_n 2, 1) := by decide +kernel
theorem dX8_against_29 : decode cX8_against 29 = .ok (.sipush 11760, 3) := by decide +kernel
theorem dX8_against_32 : decode cX8_against 32 = .ok (.if_icmp .ge 18, 3) := by decide +kernel
theorem dX8_against_35 : decode cX8_against 35 = .ok (.aload_n 0, 1) := by decide +kernel
theorem dX8_against_36 : decode cX8_against 36 = .ok (.getfield 88, 3) := by decide +kernel
theorem dX8_against_39 : decode cX8_against 39 = .ok (.iload_n 2, 1) := by decide +kernel
theorem dX8_against_40 : decode cX8_against 40 = .ok (.sipush 9999, 3) := by decide +kernel
theorem dX8_against_43 : decode cX8_against 43 = .ok (.iastore, 1) := by decide +kernel
theorem dX8_against_44 : decode cX8_against 44 = .ok (.iinc 2 1, 3) := by decide +kernel
theorem dX8_against_47 : decode cX8_against 47 = .ok (.goto (-19), 3) := by decide +kernel
theorem dX8_against_50 : decode cX8_against 50 = .ok (.aload_n 0, 1) := by decide +kernel
theorem dX8_against_51 : decode cX8_against 51 = .ok (.getfield 176, 3) := by decide +kernel
theorem dX8_against_54 : decode cX8_against 54 = .ok (.iconst 1, 1) := by decide +kernel
theorem dX8_against_55 : decode cX8_against 55 = .ok (.isub, 1) := by decide +kernel
theorem dX8_against_56 : decode cX8_against 56 = .ok (.istore_n 2, 1) := by decide +kernel
theorem dX8_against_57 : decode cX8_against 57 = .ok (.iload_n 2, 1) := by decide +kernel
theorem dX8_against_58 : decode cX8_against 58 = .ok (.aload_n 0, 1) := by decide +kernel
theorem dX8_against_59 : decode cX8_against 59 = .ok (.getfield 38, 3) := by decide +kernel
theorem dX8_against_62 : decode cX8_against 62 = .ok (.iconst 0, 1) := by decide +kernel
theorem dX8_against_63 : decode cX8_against 63 = .ok (.iaload, 1) := by decide +kernel
theorem dX8_against_64 : decode cX8_against 64 = .ok (.if_icmp .lt 219, 3) := by decide +kernel
theorem dX8_against_67 : decode cX8_against 67 = .ok (.aload_n 0, 1) := by decide +kernel
theorem dX8_against_68 : decode cX8_against 68 = .ok (.getfield 179, 3) := by decide +kernel
theorem dX8_against_71 : decode cX8_against 71 = .ok (.iconst 1, 1) := by decide +kernel
theorem dX8_against_72 : decode cX8_against 72 = .ok (.isub, 1) := by decide +kernel
theorem dX8_against_73 : decode cX8_against 73 = .ok (.istore_n 3, 1) := by decide +kernel
theorem dX8_against_74 : decode cX8_against 74 = .ok (.iload_n 3, 1) := by decide +kernel
theorem dX8_against_75 : decode cX8_against 75 = .ok (.ifCond .lt 191, 3) := by decide +kernel
theorem dX8_against_78 : decode cX8_against 78 = .ok (.iconst 0, 1) := by decide +kernel
theorem dX8_against_79 : decode cX8_against 79 = .ok (.istore 4, 2) := by decide +kernel
theorem dX8_against_81 : decode cX8_against 81 = .ok (.iload 4, 2) := by decide +kernel
theorem dX8_against_83 : decode cX8_against 83 = .ok (.iload_n 3, 1) := by decide +kernel
theorem dX8_against_84 : decode cX8_against 84 = .ok (.ifCond .ne 7, 3) := by decide +kernel
theorem dX8_against_87 : decode cX8_against 87 = .ok (.iconst 0, 1) := by decide +kernel
theorem dX8_against_88 : decode cX8_against 88 = .ok (.goto 4, 3) := by decide +kernel
theorem dX8_against_91 : decode cX8_against 91 = .ok (.iload_n 2, 1) := by decide +kernel
theorem dX8_against_92 : decode cX8_against 92 = .ok (.if_icmp .gt 168, 3) := by decide +kernel
theorem dX8_against_95 : decode cX8_against 95 = .ok (.aload_n 0, 1) := by decide +kernel
theorem dX8_against_96 : decode cX8_against 96 = .ok (.iload_n 3, 1) := by decide +kernel
theorem dX8_against_97 : decode cX8_against 97 = .ok (.iload 4, 2) := by decide +kernel
theorem dX8_against_99 : decode cX8_against 99 = .ok (.iload_n 2, 1) := by decide +kernel
theorem dX8_against_100 : decode cX8_against 100 = .ok (.invokevirtual 244, 3) := by decide +kernel
theorem dX8_against_103 : decode cX8_against 103 = .ok (.ifCond .ne 151, 3) := by decide +kernel
theorem dX8_against_106 : decode cX8_against 106 = .ok (.iload_n 3, 1) := by decide +kernel
theorem dX8_against_107 : decode cX8_against 107 = .ok (.iload 4, 2) := by decide +kernel
theorem dX8_against_109 : decode cX8_against 109 = .ok (.iconst 0, 1) := by decide +kernel
theorem dX8_against_110 : decode cX8_against 110 = .ok (.iconst 0, 1) := by decide +kernel
theorem dX8_against_111 : decode cX8_against 111 = .ok (.invokestatic 247, 3) := by decide +kernel
theorem dX8_against_114 : decode cX8_against 114 = .ok (.istore 5, 2) := by decide +kernel
theorem dX8_against_116 : decode cX8_against 116 = .ok (.aload_n 0, 1) := by decide +kernel
theorem dX8_against_117 : decode cX8_against 117 = .ok (.getfield 85, 3) := by decide +kernel
theorem dX8_against_120 : decode cX8_against 120 = .ok (.iload 5, 2) := by decide +kernel
theorem dX8_against_122 : decode cX8_against 122 = .ok (.aload_n 0, 1) := by decide +kernel
theorem dX8_against_123 : decode cX8_against 123 = .ok (.getfield 88, 3) := by decide +kernel
theorem dX8_against_126 : decode cX8_against 126 = .ok (.iload 5, 2) := by decide +kernel
theorem dX8_against_128 : decode cX8_against 128 = .ok (.iaload, 1) := by decide +kernel
theorem dX8_against_129 : decode cX8_against 129 = .ok (.iastore, 1) := by decide +kernel
theorem dX8_against_130 : decode cX8_against 130 = .ok (.aload_n 0, 1) := by decide +kernel
theorem dX8_against_131 : decode cX8_against 131 = .ok (.getfield 38, 3) := by decide +kernel
theorem dX8_against_134 : decode cX8_against 134 = .ok (.iconst 4, 1) := by decide +kernel
theorem dX8_against_135 : decode cX8_against 135 = .ok (.iaload, 1) := by decide +kernel
theorem dX8_against_136 : decode cX8_against 136 = .ok (.iconst 1, 1) := by decide +kernel
theorem dX8_against_137 : decode cX8_against 137 = .ok (.if_icmp .ne 13, 3) := by decide +kernel
theorem dX8_against_140 : decode cX8_against 140 = .ok (.iload_n 2, 1) := by decide +kernel
theorem dX8_against_141 : decode cX8_against 141 = .ok (.aload_n 0, 1) := by decide +kernel
theorem dX8_against_142 : decode cX8_against 142 = .ok (.getfield 38, 3) := by decide +kernel
theorem dX8_against_145 : decode cX8_against 145 = .ok (.iconst 0, 1) := by decide +kernel
theorem dX8_against_146 : decode cX8_against 146 = .ok (.iaload, 1) := by decide +kernel
theorem dX8_against_147 : decode cX8_against 147 = .ok (.if_icmp .eq 18, 3) := by decide +kernel
theorem dX8_against_150 : decode cX8_against 150 = .ok (.aload_n 0, 1) := by decide +kernel
theorem dX8_against_151 : decode cX8_against 151 = .ok (.iload_n 3, 1) := by decide +kernel
theorem dX8_against_152 : decode cX8_against 152 = .ok (.iload 4, 2) := by decide +kernel
theorem dX8_against_154 : decode cX8_against 154 = .ok (.iload_n 2, 1) := by decide +kernel
theorem dX8_against_155 : decode cX8_against 155 = .ok (.invokevirtual 185, 3) := by decide +kernel
theorem dX8_against_158 : decode cX8_against 158 = .ok (.ifCond .eq 7, 3) := by decide +kernel
theorem dX8_against_161 : decode cX8_against 161 = .ok (.iconst 1, 1) := by decide +kernel
theorem dX8_against_162 : decode cX8_against 162 = .ok (.goto 4, 3) := by decide +kernel
theorem dX8_against_165 : decode cX8_against 165 = .ok (.iconst 0, 1) := by decide +kernel
theorem dX8_against_166 : decode cX8_against 166 = .ok (.istore 6, 2) := by decide +kernel
theorem dX8_against_168 : decode cX8_against 168 = .ok (.aload_n 0, 1) := by decide +kernel
theorem dX8_against_169 : decode cX8_against 169 = .ok (.iload_n 3, 1) := by decide +kernel
theorem dX8_against_170 : decode cX8_against 170 = .ok (.iload_n 2, 1) := by decide +kernel
theorem dX8_against_171 : decode cX8_against 171 = .ok (.invokevirtual 182, 3) := by decide +kernel
theorem dX8_against_174 : decode cX8_against 174 = .ok (.ifCond .eq 7, 3) := by decide +kernel
theorem dX8_against_177 : decode cX8_against 177 = .ok (.iconst 0, 1) := by decide +kernel
theorem dX8_against_178 : decode cX8_against 178 = .ok (.goto 4, 3) := by decide +kernel
theorem dX8_against_181 : decode cX8_against 181 = .ok (.iconst 1, 1) := by decide +kernel
theorem dX8_against_182 : decode cX8_against 182 = .ok (.iload_n 3, 1) := by decide +kernel
theorem dX8_against_183 : decode cX8_against 183 = .ok (.iconst 1, 1) := by decide +kernel
theorem dX8_against_184 : decode cX8_against 184 = .ok (.iadd, 1) := by decide +kernel
theorem dX8_against_185 : decode cX8_against 185 = .ok (.aload_n 0, 1) := by decide +kernel
theorem dX8_against_186 : decode cX8_against 186 = .ok (.getfield 179, 3) := by decide +kernel
theorem dX8_against_189 : decode cX8_against 189 = .ok (.if_icmp .eq 8, 3) := by decide +kernel
theorem dX8_against_192 : decode cX8_against 192 = .ok (.iload 6, 2) := by decide +kernel
theorem dX8_against_194 : decode cX8_against 194 = .ok (.ifCond .ne 7, 3) := by decide +kernel
theorem dX8_against_197 : decode cX8_against 197 = .ok (.iconst 0, 1) := by decide +kernel
theorem dX8_against_198 : decode cX8_against 198 = .ok (.goto 17, 3) := by decide +kernel
theorem dX8_against_201 : decode cX8_against 201 = .ok (.aload_n 0, 1) := by decide +kernel
theorem dX8_against_202 : decode cX8_against 202 = .ok (.getfield 85, 3) := by decide +kernel
theorem dX8_against_205 : decode cX8_against 205 = .ok (.iload_n 3, 1) := by decide +kernel
theorem dX8_against_206 : decode cX8_against 206 = .ok (.iconst 1, 1) := by decide +kernel
theorem dX8_against_207 : decode cX8_against 207 = .ok (.iadd, 1) := by decide +kernel
theorem dX8_against_208 : decode cX8_against 208 = .ok (.iload_n 2, 1) := by decide +kernel
theorem dX8_against_209 : decode cX8_against 209 = .ok (.iconst 0, 1) := by decide +kernel
theorem dX8_against_210 : decode cX8_against 210 = .ok (.iconst 0, 1) := by decide +kernel
theorem dX8_against_211 : decode cX8_against 211 = .ok (.invokestatic 247, 3) := by decide +kernel
theorem dX8_against_214 : decode cX8_against 214 = .ok (.iaload, 1) := by decide +kernel
theorem dX8_against_215 : decode cX8_against 215 = .ok (.iadd, 1) := by decide +kernel
theorem dX8_against_216 : decode cX8_against 216 = .ok (.istore 7, 2) := by decide +kernel
theorem dX8_against_218 : decode cX8_against 218 = .ok (.aload_n 0, 1) := by decide +kernel
theorem dX8_against_219 : decode cX8_against 219 = .ok (.getfield 85, 3) := by decide +kernel
theorem dX8_against_222 : decode cX8_against 222 = .ok (.iload 5, 2) := by decide +kernel
theorem dX8_against_224 : decode cX8_against 224 = .ok (.iload 6, 2) := by decide +kernel
theorem dX8_against_226 : decode cX8_against 226 = .ok (.ifCond .eq 20, 3) := by decide +kernel
theorem dX8_against_229 : decode cX8_against 229 = .ok (.iload 7, 2) := by decide +kernel
theorem dX8_against_231 : decode cX8_against 231 = .ok (.aload_n 0, 1) := by decide +kernel
theorem dX8_against_232 : decode cX8_against 232 = .ok (.getfield 85, 3) := by decide +kernel
theorem dX8_against_235 : decode cX8_against 235 = .ok (.iload 5, 2) := by decide +kernel
theorem dX8_against_237 : decode cX8_against 237 = .ok (.iaload, 1) := by decide +kernel
theorem dX8_against_238 : decode cX8_against 238 = .ok (.if_icmp .ge 8, 3) := by decide +kernel
theorem dX8_against_241 : decode cX8_against 241 = .ok (.iload 7, 2) := by decide +kernel
theorem dX8_against_243 : decode cX8_against 243 = .ok (.goto 10, 3) := by decide +kernel
theorem dX8_against_246 : decode cX8_against 246 = .ok (.aload_n 0, 1) := by decide +kernel
theorem dX8_against_247 : decode cX8_against 247 = .ok (.getfield 85, 3) := by decide +kernel
theorem dX8_against_250 : decode cX8_against 250 = .ok (.iload 5, 2) := by decide +kernel
theorem dX8_against_252 : decode cX8_against 252 = .ok (.iaload, 1) := by decide +kernel
theorem dX8_against_253 : decode cX8_against 253 = .ok (.iastore, 1) := by decide +kernel
theorem dX8_against_254 : decode cX8_against 254 = .ok (.iinc 4 1, 3) := by decide +kernel
theorem dX8_against_257 : decode cX8_against 257 = .ok (.goto (-176), 3) := by decide +kernel
theorem dX8_against_260 : decode cX8_against 260 = .ok (.iinc 3 (-1), 3) := by decide +kernel
theorem dX8_against_263 : decode cX8_against 263 = .ok (.goto (-189), 3) := by decide +kernel
theorem dX8_against_266 : decode cX8_against 266 = .ok (.aload_n 0, 1) := by decide +kernel
theorem dX8_against_267 : decode cX8_against 267 = .ok (.iload_n 2, 1) := by decide +kernel
theorem dX8_against_268 : decode cX8_against 268 = .ok (.iconst 0, 1) := by decide +kernel
theorem dX8_against_269 : decode cX8_against 269 = .ok (.iconst 0, 1) := by decide +kernel
theorem dX8_against_270 : decode cX8_against 270 = .ok (.invokevirtual 255, 3) := by decide +kernel
theorem dX8_against_273 : decode cX8_against 273 = .ok (.aload_n 0, 1) := by decide +kernel
theorem dX8_against_274 : decode cX8_against 274 = .ok (.invokevirtual 259, 3) := by decide +kernel
theorem dX8_against_277 : decode cX8_against 277 = .ok (.iinc 2 (-1), 3) := by decide +kernel
theorem dX8_against_280 : decode cX8_against 280 = .ok (.goto (-223), 3) := by decide +kernel
theorem dX8_against_283 : decode cX8_against 283 = .ok (.aload_n 0, 1) := by decide +kernel
theorem dX8_against_284 : decode cX8_against 284 = .ok (.iload_n 1, 1) := by decide +kernel
theorem dX8_against_285 : decode cX8_against 285 = .ok (.iconst 0, 1) := by decide +kernel
theorem dX8_against_286 : decode cX8_against 286 = .ok (.iconst 0, 1) := by decide +kernel
theorem dX8_against_287 : decode cX8_against 287 = .ok (.invokevirtual 266, 3) := by decide +kernel
theorem dX8_against_290 : decode cX8_against 290 = .ok (.istore_n 2, 1) := by decide +kernel
theorem dX8_against_291 : decode cX8_against 291 = .ok (.iload_n 2, 1) := by decide +kernel
theorem dX8_against_292 : decode cX8_against 292 = .ok (.sipush 9999, 3) := by decide +kernel
theorem dX8_against_295 : decode cX8_against 295 = .ok (.if_icmp .lt 8, 3) := by decide +kernel
theorem dX8_against_298 : decode cX8_against 298 = .ok (.bipush (-9), 2) := by decide +kernel
theorem dX8_against_300 : decode cX8_against 300 = .ok (.goto 4, 3) := by decide +kernel
theorem dX8_against_303 : decode cX8_against 303 = .ok (.iload_n 2, 1) := by decide +kernel
theorem dX8_against_304 : decode cX8_against 304 = .ok (.ireturn, 1) := by decide +kernel
theorem dX8_sure_0 : decode cX8_sure 0 = .ok (.iload_n 1, 1) := by decide +kernel
theorem dX8_sure_1 : decode cX8_sure 1 = .ok (.invokestatic 169, 3) := by decide +kernel
theorem dX8_sure_4 : decode cX8_sure 4 = .ok (.ifCond .eq 23, 3) := by decide +kernel
theorem dX8_sure_7 : decode cX8_sure 7 = .ok (.iload_n 2, 1) := by decide +kernel
theorem dX8_sure_8 : decode cX8_sure 8 = .ok (.iconst 0, 1) := by decide +kernel
theorem dX8_sure_9 : decode cX8_sure 9 = .ok (.bipush 6, 2) := by decide +kernel
theorem dX8_sure_11 : decode cX8_sure 11 = .ok (.invokestatic 106, 3) := by decide +kernel
theorem dX8_sure_14 : decode cX8_sure 14 = .ok (.ifCond .eq 13, 3) := by decide +kernel
theorem dX8_sure_17 : decode cX8_sure 17 = .ok (.iload_n 3, 1) := by decide +kernel
theorem dX8_sure_18 : decode cX8_sure 18 = .ok (.iconst 0, 1) := by decide +kernel
theorem dX8_sure_19 : decode cX8_sure 19 = .ok (.bipush 6, 2) := by decide +kernel
theorem dX8_sure_21 : decode cX8_sure 21 = .ok (.invokestatic 106, 3) := by decide +kernel
theorem dX8_sure_24 : decode cX8_sure 24 = .ok (.ifCond .ne 5, 3) := by decide +kernel
theorem dX8_sure_27 : decode cX8_sure 27 = .ok (.iconst (-1), 1) := by decide +kernel
theorem dX8_sure_28 : decode cX8_sure 28 = .ok (.ireturn, 1) := by decide +kernel
theorem dX8_sure_29 : decode cX8_sure 29 = .ok (.aload_n 0, 1) := by decide +kernel
theorem dX8_sure_30 : decode cX8_sure 30 = .ok (.iload_n 1, 1) := by decide +kernel
theorem dX8_sure_31 : decode cX8_sure 31 = .ok (.invokevirtual 238, 3) := by decide +kernel
theorem dX8_sure_34 : decode cX8_sure 34 = .ok (.ifCond .ne 6, 3) := by decide +kernel
theorem dX8_sure_37 : decode cX8_sure 37 = .ok (.bipush (-2), 2) := by decide +kernel
theorem dX8_sure_39 : decode cX8_sure 39 = .ok (.ireturn, 1) := by decide +kernel
theorem dX8_sure_40 : decode cX8_sure 40 = .ok (.aload_n 0, 1) := by decide +kernel
theorem dX8_sure_41 : decode cX8_sure 41 = .ok (.iload_n 1, 1) := by decide +kernel
theorem dX8_sure_42 : decode cX8_sure 42 = .ok (.iload_n 2, 1) := by decide +kernel
theorem dX8_sure_43 : decode cX8_sure 43 = .ok (.iload_n 3, 1) := by decide +kernel
theorem dX8_sure_44 : decode cX8_sure 44 = .ok (.invokevirtual 269, 3) := by decide +kernel
theorem dX8_sure_47 : decode cX8_sure 47 = .ok (.aload_n 0, 1) := by decide +kernel
theorem dX8_sure_48 : decode cX8_sure 48 = .ok (.iload_n 1, 1) := by decide +kernel
theorem dX8_sure_49 : decode cX8_sure 49 = .ok (.iload_n 2, 1) := by decide +kernel
theorem dX8_sure_50 : decode cX8_sure 50 = .ok (.iload_n 3, 1) := by decide +kernel
theorem dX8_sure_51 : decode cX8_sure 51 = .ok (.invokevirtual 266, 3) := by decide +kernel
theorem dX8_sure_54 : decode cX8_sure 54 = .ok (.istore 4, 2) := by decide +kernel
theorem dX8_sure_56 : decode cX8_sure 56 = .ok (.iload 4, 2) := by decide +kernel
theorem dX8_sure_58 : decode cX8_sure 58 = .ok (.sipush 9999, 3) := by decide +kernel
theorem dX8_sure_61 : decode cX8_sure 61 = .ok (.if_icmp .ne 8, 3) := by decide +kernel
theorem dX8_sure_64 : decode cX8_sure 64 = .ok (.bipush (-9), 2) := by decide +kernel
theorem dX8_sure_66 : decode cX8_sure 66 = .ok (.goto 5, 3) := by decide +kernel
theorem dX8_sure_69 : decode cX8_sure 69 = .ok (.iload 4, 2) := by decide +kernel
theorem dX8_sure_71 : decode cX8_sure 71 = .ok (.ireturn, 1) := by decide +kernel
theorem dX8_delay_0 : decode cX8_delay 0 = .ok (.iload_n 1, 1) := by decide +kernel
theorem dX8_delay_1 : decode cX8_delay 1 = .ok (.invokestatic 169, 3) := by decide +kernel
theorem dX8_delay_4 : decode cX8_delay 4 = .ok (.ifCond .eq 11, 3) := by decide +kernel
theorem dX8_delay_7 : decode cX8_delay 7 = .ok (.aload_n 0, 1) := by decide +kernel
theorem dX8_delay_8 : decode cX8_delay 8 = .ok (.iload_n 2, 1) := by decide +kernel
theorem dX8_delay_9 : decode cX8_delay 9 = .ok (.invokevirtual 195, 3) := by decide +kernel
theorem dX8_delay_12 : decode cX8_delay 12 = .ok (.ifCond .ne 5, 3) := by decide +kernel
theorem dX8_delay_15 : decode cX8_delay 15 = .ok (.iconst (-1), 1) := by decide +kernel
theorem dX8_delay_16 : decode cX8_delay 16 = .ok (.ireturn, 1) := by decide +kernel
theorem dX8_delay_17 : decode cX8_delay 17 = .ok (.aload_n 0, 1) := by decide +kernel
theorem dX8_delay_18 : decode cX8_delay 18 = .ok (.iload_n 1, 1) := by decide +kernel
theorem dX8_delay_19 : decode cX8_delay 19 = .ok (.invokevirtual 238, 3) := by decide +kernel
theorem dX8_delay_22 : decode cX8_delay 22 = .ok (.ifCond .ne 6, 3) := by decide +kernel
theorem dX8_delay_25 : decode cX8_delay 25 = .ok (.bipush (-2), 2) := by decide +kernel
theorem dX8_delay_27 : decode cX8_delay 27 = .ok (.ireturn, 1) := by decide +kernel
theorem dX8_delay_28 : decode cX8_delay 28 = .ok (.aload_n 0, 1) := by decide +kernel
theorem dX8_delay_29 : decode cX8_delay 29 = .ok (.getfield 38, 3) := by decide +kernel
theorem dX8_delay_32 : decode cX8_delay 32 = .ok (.bipush 20, 2) := by decide +kernel
theorem dX8_delay_34 : decode cX8_delay 34 = .ok (.iload_n 2, 1) := by decide +kernel
theorem dX8_delay_35 : decode cX8_delay 35 = .ok (.iadd, 1) := by decide +kernel
theorem dX8_delay_36 : decode cX8_delay 36 = .ok (.iaload, 1) := by decide +kernel
theorem dX8_delay_37 : decode cX8_delay 37 = .ok (.istore_n 3, 1) := by decide +kernel
theorem dX8_delay_38 : decode cX8_delay 38 = .ok (.aload_n 0, 1) := by decide +kernel
theorem dX8_delay_39 : decode cX8_delay 39 = .ok (.iload_n 1, 1) := by decide +kernel
theorem dX8_delay_40 : decode cX8_delay 40 = .ok (.aload_n 0, 1) := by decide +kernel
theorem dX8_delay_41 : decode cX8_delay 41 = .ok (.getfield 52, 3) := by decide +kernel
theorem dX8_delay_44 : decode cX8_delay 44 = .ok (.iload_n 2, 1) := by decide +kernel
theorem dX8_delay_45 : decode cX8_delay 45 = .ok (.iaload, 1) := by decide +kernel
theorem dX8_delay_46 : decode cX8_delay 46 = .ok (.iconst 1, 1) := by decide +kernel
theorem dX8_delay_47 : decode cX8_delay 47 = .ok (.if_icmp .ne 7, 3) := by decide +kernel
theorem dX8_delay_50 : decode cX8_delay 50 = .ok (.iload_n 3, 1) := by decide +kernel
theorem dX8_delay_51 : decode cX8_delay 51 = .ok (.goto 4, 3) := by decide +kernel
theorem dX8_delay_54 : decode cX8_delay 54 = .ok (.iconst 0, 1) := by decide +kernel
theorem dX8_delay_55 : decode cX8_delay 55 = .ok (.aload_n 0, 1) := by decide +kernel
theorem dX8_delay_56 : decode cX8_delay 56 = .ok (.getfield 52, 3) := by decide +kernel
theorem dX8_delay_59 : decode cX8_delay 59 = .ok (.iload_n 2, 1) := by decide +kernel
theorem dX8_delay_60 : decode cX8_delay 60 = .ok (.iaload, 1) := by decide +kernel
theorem dX8_delay_61 : decode cX8_delay 61 = .ok (.iconst 2, 1) := by decide +kernel
theorem dX8_delay_62 : decode cX8_delay 62 = .ok (.if_icmp .ne 7, 3) := by decide +kernel
theorem dX8_delay_65 : decode cX8_delay 65 = .ok (.iload_n 3, 1) := by decide +kernel
theorem dX8_delay_66 : decode cX8_delay 66 = .ok (.goto 4, 3) := by decide +kernel
theorem dX8_delay_69 : decode cX8_delay 69 = .ok (.iconst 0, 1) := by decide +kernel
theorem dX8_delay_70 : decode cX8_delay 70 = .ok (.invokevirtual 269, 3) := by decide +kernel
theorem dX8_delay_73 : decode cX8_delay 73 = .ok (.aload_n 0, 1) := by decide +kernel
theorem dX8_delay_74 : decode cX8_delay 74 = .ok (.iload_n 1, 1) := by decide +kernel
theorem dX8_delay_75 : decode cX8_delay 75 = .ok (.iconst 0, 1) := by decide +kernel
theorem dX8_delay_76 : decode cX8_delay 76 = .ok (.iconst 0, 1) := by decide +kernel
theorem dX8_delay_77 : decode cX8_delay 77 = .ok (.invokevirtual 266, 3) := by decide +kernel
theorem dX8_delay_80 : decode cX8_delay 80 = .ok (.istore 4, 2) := by decide +kernel
theorem dX8_delay_82 : decode cX8_delay 82 = .ok (.aload_n 0, 1) := by decide +kernel
theorem dX8_delay_83 : decode cX8_delay 83 = .ok (.iload_n 1, 1) := by decide +kernel
theorem dX8_delay_84 : decode cX8_delay 84 = .ok (.aload_n 0, 1) := by decide +kernel
theorem dX8_delay_85 : decode cX8_delay 85 = .ok (.getfield 52, 3) := by decide +kernel
theorem dX8_delay_88 : decode cX8_delay 88 = .ok (.iload_n 2, 1) := by decide +kernel
theorem dX8_delay_89 : decode cX8_delay 89 = .ok (.iaload, 1) := by decide +kernel
theorem dX8_delay_90 : decode cX8_delay 90 = .ok (.iconst 1, 1) := by decide +kernel
theorem dX8_delay_91 : decode cX8_delay 91 = .ok (.if_icmp .ne 7, 3) := by decide +kernel
theorem dX8_delay_94 : decode cX8_delay 94 = .ok (.iload_n 3, 1) := by decide +kernel
theorem dX8_delay_95 : decode cX8_delay 95 = .ok (.goto 4, 3) := by decide +kernel
theorem dX8_delay_98 : decode cX8_delay 98 = .ok (.iconst 0, 1) := by decide +kernel
theorem dX8_delay_99 : decode cX8_delay 99 = .ok (.aload_n 0, 1) := by decide +kernel
theorem dX8_delay_100 : decode cX8_delay 100 = .ok (.getfield 52, 3) := by decide +kernel
theorem dX8_delay_103 : decode cX8_delay 103 = .ok (.iload_n 2, 1) := by decide +kernel
theorem dX8_delay_104 : decode cX8_delay 104 = .ok (.iaload, 1) := by decide +kernel
theorem dX8_delay_105 : decode cX8_delay 105 = .ok (.iconst 2, 1) := by decide +kernel
theorem dX8_delay_106 : decode cX8_delay 106 = .ok (.if_icmp .ne 7, 3) := by decide +kernel
theorem dX8_delay_109 : decode cX8_delay 109 = .ok (.iload_n 3, 1) := by decide +kernel
theorem dX8_delay_110 : decode cX8_delay 110 = .ok (.goto 4, 3) := by decide +kernel
theorem dX8_delay_113 : decode cX8_delay 113 = .ok (.iconst 0, 1) := by decide +kernel
theorem dX8_delay_114 : decode cX8_delay 114 = .ok (.invokevirtual 266, 3) := by decide +kernel
theorem dX8_delay_117 : decode cX8_delay 117 = .ok (.istore 5, 2) := by decide +kernel
theorem dX8_delay_119 : decode cX8_delay 119 = .ok (.iload 4, 2) := by decide +kernel
theorem dX8_delay_121 : decode cX8_delay 121 = .ok (.sipush 9999, 3) := by decide +kernel
theorem dX8_delay_124 : decode cX8_delay 124 = .ok (.if_icmp .ne 8, 3) := by decide +kernel
theorem dX8_delay_127 : decode cX8_delay 127 = .ok (.bipush (-2), 2) := by decide +kernel
theorem dX8_delay_129 : decode cX8_delay 129 = .ok (.goto 21, 3) := by decide +kernel
theorem dX8_delay_132 : decode cX8_delay 132 = .ok (.iload 5, 2) := by decide +kernel
theorem dX8_delay_134 : decode cX8_delay 134 = .ok (.sipush 9999, 3) := by decide +kernel
theorem dX8_delay_137 : decode cX8_delay 137 = .ok (.if_icmp .ne 8, 3) := by decide +kernel
theorem dX8_delay_140 : decode cX8_delay 140 = .ok (.bipush (-9), 2) := by decide +kernel
theorem dX8_delay_142 : decode cX8_delay 142 = .ok (.goto 8, 3) := by decide +kernel
theorem dX8_delay_145 : decode cX8_delay 145 = .ok (.iload 5, 2) := by decide +kernel
theorem dX8_delay_147 : decode cX8_delay 147 = .ok (.iload 4, 2) := by decide +kernel
theorem dX8_delay_149 : decode cX8_delay 149 = .ok (.isub, 1) := by decide +kernel
theorem dX8_delay_150 : decode cX8_delay 150 = .ok (.ireturn, 1) := by decide +kernel
theorem dX8_bitsIn_0 : decode cX8_bitsIn 0 = .ok (.iconst 0, 1) := by decide +kernel
theorem dX8_bitsIn_1 : decode cX8_bitsIn 1 = .ok (.istore_n 1, 1) := by decide +kernel
theorem dX8_bitsIn_2 : decode cX8_bitsIn 2 = .ok (.iconst 0, 1) := by decide +kernel
theorem dX8_bitsIn_3 : decode cX8_bitsIn 3 = .ok (.istore_n 2, 1) := by decide +kernel
theorem dX8_bitsIn_4 : decode cX8_bitsIn 4 = .ok (.iload_n 2, 1) := by decide +kernel
theorem dX8_bitsIn_5 : decode cX8_bitsIn 5 = .ok (.bipush 9, 2) := by decide +kernel
theorem dX8_bitsIn_7 : decode cX8_bitsIn 7 = .ok (.if_icmp .ge 17, 3) := by decide +kernel
theorem dX8_bitsIn_10 : decode cX8_bitsIn 10 = .ok (.iload_n 1, 1) := by decide +kernel
theorem dX8_bitsIn_11 : decode cX8_bitsIn 11 = .ok (.iload_n 0, 1) := by decide +kernel
theorem dX8_bitsIn_12 : decode cX8_bitsIn 12 = .ok (.iload_n 2, 1) := by decide +kernel
theorem dX8_bitsIn_13 : decode cX8_bitsIn 13 = .ok (.ishr, 1) := by decide +kernel
theorem dX8_bitsIn_14 : decode cX8_bitsIn 14 = .ok (.iconst 1, 1) := by decide +kernel
theorem dX8_bitsIn_15 : decode cX8_bitsIn 15 = .ok (.iand, 1) := by decide +kernel
theorem dX8_bitsIn_16 : decode cX8_bitsIn 16 = .ok (.iadd, 1) := by decide +kernel
theorem dX8_bitsIn_17 : decode cX8_bitsIn 17 = .ok (.istore_n 1, 1) := by decide +kernel
theorem dX8_bitsIn_18 : decode cX8_bitsIn 18 = .ok (.iinc 2 1, 3) := by decide +kernel
theorem dX8_bitsIn_21 : decode cX8_bitsIn 21 = .ok (.goto (-17), 3) := by decide +kernel
theorem dX8_bitsIn_24 : decode cX8_bitsIn 24 = .ok (.iload_n 1, 1) := by decide +kernel
theorem dX8_bitsIn_25 : decode cX8_bitsIn 25 = .ok (.ireturn, 1) := by decide +kernel
theorem dX8_stop_0 : decode cX8_stop 0 = .ok (.iload_n 1, 1) := by decide +kernel
theorem dX8_stop_1 : decode cX8_stop 1 = .ok (.invokestatic 169, 3) := by decide +kernel
theorem dX8_stop_4 : decode cX8_stop 4 = .ok (.ifCond .eq 12, 3) := by decide +kernel
theorem dX8_stop_7 : decode cX8_stop 7 = .ok (.iload_n 2, 1) := by decide +kernel
theorem dX8_stop_8 : decode cX8_stop 8 = .ok (.iconst 0, 1) := by decide +kernel
theorem dX8_stop_9 : decode cX8_stop 9 = .ok (.iconst 1, 1) := by decide +kernel
theorem dX8_stop_10 : decode cX8_stop 10 = .ok (.invokestatic 106, 3) := by decide +kernel
theorem dX8_stop_13 : decode cX8_stop 13 = .ok (.ifCond .ne 5, 3) := by decide +kernel
theorem dX8_stop_16 : decode cX8_stop 16 = .ok (.iconst (-1), 1) := by decide +kernel
theorem dX8_stop_17 : decode cX8_stop 17 = .ok (.ireturn, 1) := by decide +kernel
theorem dX8_stop_18 : decode cX8_stop 18 = .ok (.aload_n 0, 1) := by decide +kernel
theorem dX8_stop_19 : decode cX8_stop 19 = .ok (.iload_n 1, 1) := by decide +kernel
theorem dX8_stop_20 : decode cX8_stop 20 = .ok (.invokevirtual 238, 3) := by decide +kernel
theorem dX8_stop_23 : decode cX8_stop 23 = .ok (.ifCond .ne 6, 3) := by decide +kernel
theorem dX8_stop_26 : decode cX8_stop 26 = .ok (.bipush (-2), 2) := by decide +kernel
theorem dX8_stop_28 : decode cX8_stop 28 = .ok (.ireturn, 1) := by decide +kernel
theorem dX8_stop_29 : decode cX8_stop 29 = .ok (.aload_n 0, 1) := by decide +kernel
theorem dX8_stop_30 : decode cX8_stop 30 = .ok (.iload_n 1, 1) := by decide +kernel
theorem dX8_stop_31 : decode cX8_stop 31 = .ok (.bipush 6, 2) := by decide +kernel
theorem dX8_stop_33 : decode cX8_stop 33 = .ok (.bipush 6, 2) := by decide +kernel
theorem dX8_stop_35 : decode cX8_stop 35 = .ok (.invokevirtual 269, 3) := by decide +kernel
theorem dX8_stop_38 : decode cX8_stop 38 = .ok (.bipush (-9), 2) := by decide +kernel
theorem dX8_stop_40 : decode cX8_stop 40 = .ok (.istore_n 3, 1) := by decide +kernel
theorem dX8_stop_41 : decode cX8_stop 41 = .ok (.iconst 0, 1) := by decide +kernel
theorem dX8_stop_42 : decode cX8_stop 42 = .ok (.istore 4, 2) := by decide +kernel
theorem dX8_stop_44 : decode cX8_stop 44 = .ok (.iload 4, 2) := by decide +kernel
theorem dX8_stop_46 : decode cX8_stop 46 = .ok (.iconst 1, 1) := by decide +kernel
theorem dX8_stop_47 : decode cX8_stop 47 = .ok (.aload_n 0, 1) := by decide +kernel
theorem dX8_stop_48 : decode cX8_stop 48 = .ok (.getfield 158, 3) := by decide +kernel
theorem dX8_stop_51 : decode cX8_stop 51 = .ok (.ishl, 1) := by decide +kernel
theorem dX8_stop_52 : decode cX8_stop 52 = .ok (.if_icmp .ge 167, 3) := by decide +kernel
theorem dX8_stop_55 : decode cX8_stop 55 = .ok (.iconst 0, 1) := by decide +kernel
theorem dX8_stop_56 : decode cX8_stop 56 = .ok (.istore 5, 2) := by decide +kernel
theorem dX8_stop_58 : decode cX8_stop 58 = .ok (.iconst 0, 1) := by decide +kernel
theorem dX8_stop_59 : decode cX8_stop 59 = .ok (.istore 6, 2) := by decide +kernel
theorem dX8_stop_61 : decode cX8_stop 61 = .ok (.iconst 0, 1) := by decide +kernel
theorem dX8_stop_62 : decode cX8_stop 62 = .ok (.istore 7, 2) := by decide +kernel
theorem dX8_stop_64 : decode cX8_stop 64 = .ok (.iload 7, 2) := by decide +kernel
theorem dX8_stop_66 : decode cX8_stop 66 = .ok (.aload_n 0, 1) := by decide +kernel
theorem dX8_stop_67 : decode cX8_stop 67 = .ok (.getfield 158, 3) := by decide +kernel
theorem dX8_stop_70 : decode cX8_stop 70 = .ok (.if_icmp .ge 91, 3) := by decide +kernel
theorem dX8_stop_73 : decode cX8_stop 73 = .ok (.iload 5, 2) := by decide +kernel
theorem dX8_stop_75 : decode cX8_stop 75 = .ok (.iload 4, 2) := by decide +kernel
theorem dX8_stop_77 : decode cX8_stop 77 = .ok (.iload 7, 2) := by decide +kernel
theorem dX8_stop_79 : decode cX8_stop 79 = .ok (.ishr, 1) := by decide +kernel
theorem dX8_stop_80 : decode cX8_stop 80 = .ok (.iconst 1, 1) := by decide +kernel
theorem dX8_stop_81 : decode cX8_stop 81 = .ok (.iand, 1) := by decide +kernel
theorem dX8_stop_82 : decode cX8_stop 82 = .ok (.iconst 1, 1) := by decide +kernel
theorem dX8_stop_83 : decode cX8_stop 83 = .ok (.if_icmp .ne 27, 3) := by decide +kernel
theorem dX8_stop_86 : decode cX8_stop 86 = .ok (.aload_n 0, 1) := by decide +kernel
theorem dX8_stop_87 : decode cX8_stop 87 = .ok (.getfield 52, 3) := by decide +kernel
theorem dX8_stop_90 : decode cX8_stop 90 = .ok (.iload 7, 2) := by decide +kernel
theorem dX8_stop_92 : decode cX8_stop 92 = .ok (.iaload, 1) := by decide +kernel
theorem dX8_stop_93 : decode cX8_stop 93 = .ok (.iconst 1, 1) := by decide +kernel
theorem dX8_stop_94 : decode cX8_stop 94 = .ok (.if_icmp .ne 16, 3) := by decide +kernel
theorem dX8_stop_97 : decode cX8_stop 97 = .ok (.aload_n 0, 1) := by decide +kernel
theorem dX8_stop_98 : decode cX8_stop 98 = .ok (.getfield 38, 3) := by decide +kernel
theorem dX8_stop_101 : decode cX8_stop 101 = .ok (.bipush 20, 2) := by decide +kernel
theorem dX8_stop_103 : decode cX8_stop 103 = .ok (.iload 7, 2) := by decide +kernel
theorem dX8_stop_105 : decode cX8_stop 105 = .ok (.iadd, 1) := by decide +kernel
theorem dX8_stop_106 : decode cX8_stop 106 = .ok (.iaload, 1) := by decide +kernel
theorem dX8_stop_107 : decode cX8_stop 107 = .ok (.goto 4, 3) := by decide +kernel
theorem dX8_stop_110 : decode cX8_stop 110 = .ok (.iconst 0, 1) := by decide +kernel
theorem dX8_stop_111 : decode cX8_stop 111 = .ok (.iadd, 1) := by decide +kernel
theorem dX8_stop_112 : decode cX8_stop 112 = .ok (.istore 5, 2) := by decide +kernel
theorem dX8_stop_114 : decode cX8_stop 114 = .ok (.iload 6, 2) := by decide +kernel
theorem dX8_stop_116 : decode cX8_stop 116 = .ok (.iload 4, 2) := by decide +kernel
theorem dX8_stop_118 : decode cX8_stop 118 = .ok (.iload 7, 2) := by decide +kernel
theorem dX8_stop_120 : decode cX8_stop 120 = .ok (.ishr, 1) := by decide +kernel
theorem dX8_stop_121 : decode cX8_stop 121 = .ok (.iconst 1, 1) := by decide +kernel
theorem dX8_stop_122 : decode cX8_stop 122 = .ok (.iand, 1) := by decide +kernel
theorem dX8_stop_123 : decode cX8_stop 123 = .ok (.iconst 1, 1) := by decide +kernel
theorem dX8_stop_124 : decode cX8_stop 124 = .ok (.if_icmp .ne 27, 3) := by decide +kernel
theorem dX8_stop_127 : decode cX8_stop 127 = .ok (.aload_n 0, 1) := by decide +kernel
theorem dX8_stop_128 : decode cX8_stop 128 = .ok (.getfield 52, 3) := by decide +kernel
theorem dX8_stop_131 : decode cX8_stop 131 = .ok (.iload 7, 2) := by decide +kernel
theorem dX8_stop_133 : decode cX8_stop 133 = .ok (.iaload, 1) := by decide +kernel
theorem dX8_stop_134 : decode cX8_stop 134 = .ok (.iconst 2, 1) := by decide +kernel
theorem dX8_stop_135 : decode cX8_stop 135 = .ok (.if_icmp .ne 16, 3) := by decide +kernel
theorem dX8_stop_138 : decode cX8_stop 138 = .ok (.aload_n 0, 1) := by decide +kernel
theorem dX8_stop_139 : decode cX8_stop 139 = .ok (.getfield 38, 3) := by decide +kernel
theorem dX8_stop_142 : decode cX8_stop 142 = .ok (.bipush 20, 2) := by decide +kernel
theorem dX8_stop_144 : decode cX8_stop 144 = .ok (.iload 7, 2) := by decide +kernel
theorem dX8_stop_146 : decode cX8_stop 146 = .ok (.iadd, 1) := by decide +kernel
theorem dX8_stop_147 : decode cX8_stop 147 = .ok (.iaload, 1) := by decide +kernel
theorem dX8_stop_148 : decode cX8_stop 148 = .ok (.goto 4, 3) := by decide +kernel
theorem dX8_stop_151 : decode cX8_stop 151 = .ok (.iconst 0, 1) := by decide +kernel
theorem dX8_stop_152 : decode cX8_stop 152 = .ok (.iadd, 1) := by decide +kernel
theorem dX8_stop_153 : decode cX8_stop 153 = .ok (.istore 6, 2) := by decide +kernel
theorem dX8_stop_155 : decode cX8_stop 155 = .ok (.iinc 7 1, 3) := by decide +kernel
theorem dX8_stop_158 : decode cX8_stop 158 = .ok (.goto (-94), 3) := by decide +kernel
theorem dX8_stop_161 : decode cX8_stop 161 = .ok (.iload_n 3, 1) := by decide +kernel
theorem dX8_stop_162 : decode cX8_stop 162 = .ok (.bipush (-9), 2) := by decide +kernel
theorem dX8_stop_164 : decode cX8_stop 164 = .ok (.if_icmp .eq 15, 3) := by decide +kernel
theorem dX8_stop_167 : decode cX8_stop 167 = .ok (.iload 4, 2) := by decide +kernel
theorem dX8_stop_169 : decode cX8_stop 169 = .ok (.invokestatic 272, 3) := by decide +kernel
theorem dX8_stop_172 : decode cX8_stop 172 = .ok (.iload_n 3, 1) := by decide +kernel
theorem dX8_stop_173 : decode cX8_stop 173 = .ok (.invokestatic 272, 3) := by decide +kernel
theorem dX8_stop_176 : decode cX8_stop 176 = .ok (.if_icmp .ge 7, 3) := by decide +kernel
theorem dX8_stop_179 : decode cX8_stop 179 = .ok (.iconst 1, 1) := by decide +kernel
theorem dX8_stop_180 : decode cX8_stop 180 = .ok (.goto 4, 3) := by decide +kernel
theorem dX8_stop_183 : decode cX8_stop 183 = .ok (.iconst 0, 1) := by decide +kernel
theorem dX8_stop_184 : decode cX8_stop 184 = .ok (.istore 7, 2) := by decide +kernel
theorem dX8_stop_186 : decode cX8_stop 186 = .ok (.iload 7, 2) := by decide +kernel
theorem dX8_stop_188 : decode cX8_stop 188 = .ok (.ifCond .eq 23, 3) := by decide +kernel
theorem dX8_stop_191 : decode cX8_stop 191 = .ok (.aload_n 0, 1) := by decide +kernel
theorem dX8_stop_192 : decode cX8_stop 192 = .ok (.iload_n 1, 1) := by decide +kernel
theorem dX8_stop_193 : decode cX8_stop 193 = .ok (.iload 5, 2) := by decide +kernel
theorem dX8_stop_195 : decode cX8_stop 195 = .ok (.iload 6, 2) := by decide +kernel
theorem dX8_stop_197 : decode cX8_stop 197 = .ok (.invokevirtual 266, 3) := by decide +kernel
theorem dX8_stop_200 : decode cX8_stop 200 = .ok (.sipush 9999, 3) := by decide +kernel
theorem dX8_stop_203 : decode cX8_stop 203 = .ok (.if_icmp .ne 8, 3) := by decide +kernel
theorem dX8_stop_206 : decode cX8_stop 206 = .ok (.iload 4, 2) := by decide +kernel
theorem dX8_stop_208 : decode cX8_stop 208 = .ok (.goto 4, 3) := by decide +kernel
theorem dX8_stop_211 : decode cX8_stop 211 = .ok (.iload_n 3, 1) := by decide +kernel
theorem dX8_stop_212 : decode cX8_stop 212 = .ok (.istore_n 3, 1) := by decide +kernel
theorem dX8_stop_213 : decode cX8_stop 213 = .ok (.iinc 4 1, 3) := by decide +kernel
theorem dX8_stop_216 : decode cX8_stop 216 = .ok (.goto (-172), 3) := by decide +kernel
theorem dX8_stop_219 : decode cX8_stop 219 = .ok (.iload_n 3, 1) := by decide +kernel
theorem dX8_stop_220 : decode cX8_stop 220 = .ok (.bipush (-9), 2) := by decide +kernel
theorem dX8_stop_222 : decode cX8_stop 222 = .ok (.if_icmp .eq 8, 3) := by decide +kernel
theorem dX8_stop_225 : decode cX8_stop 225 = .ok (.iload_n 2, 1) := by decide +kernel
theorem dX8_stop_226 : decode cX8_stop 226 = .ok (.iconst 1, 1) := by decide +kernel
theorem dX8_stop_227 : decode cX8_stop 227 = .ok (.if_icmp .ne 7, 3) := by decide +kernel
theorem dX8_stop_230 : decode cX8_stop 230 = .ok (.iload_n 3, 1) := by decide +kernel
theorem dX8_stop_231 : decode cX8_stop 231 = .ok (.goto 7, 3) := by decide +kernel
theorem dX8_stop_234 : decode cX8_stop 234 = .ok (.iload_n 3, 1) := by decide +kernel
theorem dX8_stop_235 : decode cX8_stop 235 = .ok (.invokestatic 272, 3) := by decide +kernel
theorem dX8_stop_238 : decode cX8_stop 238 = .ok (.ireturn, 1) := by decide +kernel
theorem dX8_group_0 : decode cX8_group 0 = .ok (.aload_n 0, 1) := by decide +kernel
theorem dX8_group_1 : decode cX8_group 1 = .ok (.getfield 275, 3) := by decide +kernel
theorem dX8_group_4 : decode cX8_group 4 = .ok (.bipush 9, 2) := by decide +kernel
theorem dX8_group_6 : decode cX8_group 6 = .ok (.if_icmp .ne 6, 3) := by decide +kernel
theorem dX8_group_9 : decode cX8_group 9 = .ok (.bipush (-3), 2) := by decide +kernel
theorem dX8_group_11 : decode cX8_group 11 = .ok (.ireturn, 1) := by decide +kernel
theorem dX8_group_12 : decode cX8_group 12 = .ok (.iconst 0, 1) := by decide +kernel
theorem dX8_group_13 : decode cX8_group 13 = .ok (.istore_n 1, 1) := by decide +kernel
theorem dX8_group_14 : decode cX8_group 14 = .ok (.iload_n 1, 1) := by decide +kernel
theorem dX8_group_15 : decode cX8_group 15 = .ok (.bipush 6, 2) := by decide +kernel
theorem dX8_group_17 : decode cX8_group 17 = .ok (.if_icmp .ge 24, 3) := by decide +kernel
theorem dX8_group_20 : decode cX8_group 20 = .ok (.aload_n 0, 1) := by decide +kernel
theorem dX8_group_21 : decode cX8_group 21 = .ok (.getfield 91, 3) := by decide +kernel
theorem dX8_group_24 : decode cX8_group 24 = .ok (.bipush 6, 2) := by decide +kernel
theorem dX8_group_26 : decode cX8_group 26 = .ok (.aload_n 0, 1) := by decide +kernel
theorem dX8_group_27 : decode cX8_group 27 = .ok (.getfield 275, 3) := by decide +kernel
theorem dX8_group_30 : decode cX8_group 30 = .ok (.imul, 1) := by decide +kernel
theorem dX8_group_31 : decode cX8_group 31 = .ok (.iload_n 1, 1) := by decide +kernel
theorem dX8_group_32 : decode cX8_group 32 = .ok (.iadd, 1) := by decide +kernel
theorem dX8_group_33 : decode cX8_group 33 = .ok (.iconst 0, 1) := by decide +kernel
theorem dX8_group_34 : decode cX8_group 34 = .ok (.iastore, 1) := by decide +kernel
theorem dX8_group_35 : decode cX8_group 35 = .ok (.iinc 1 1, 3) := by decide +kernel
theorem dX8_group_38 : decode cX8_group 38 = .ok (.goto (-24), 3) := by decide +kernel
theorem dX8_group_41 : decode cX8_group 41 = .ok (.aload_n 0, 1) := by decide +kernel
theorem dX8_group_42 : decode cX8_group 42 = .ok (.dup, 1) := by decide +kernel
theorem dX8_group_43 : decode cX8_group 43 = .ok (.getfield 275, 3) := by decide +kernel
theorem dX8_group_46 : decode cX8_group 46 = .ok (.iconst 1, 1) := by decide +kernel
theorem dX8_group_47 : decode cX8_group 47 = .ok (.iadd, 1) := by decide +kernel
theorem dX8_group_48 : decode cX8_group 48 = .ok (.putfield 275, 3) := by decide +kernel
theorem dX8_group_51 : decode cX8_group 51 = .ok (.aload_n 0, 1) := by decide +kernel
theorem dX8_group_52 : decode cX8_group 52 = .ok (.getfield 275, 3) := by decide +kernel
theorem dX8_group_55 : decode cX8_group 55 = .ok (.iconst 1, 1) := by decide +kernel
theorem dX8_group_56 : decode cX8_group 56 = .ok (.isub, 1) := by decide +kernel
theorem dX8_group_57 : decode cX8_group 57 = .ok (.ireturn, 1) := by decide +kernel
theorem dX8_wish_0 : decode cX8_wish 0 = .ok (.iload_n 1, 1) := by decide +kernel
theorem dX8_wish_1 : decode cX8_wish 1 = .ok (.iconst 0, 1) := by decide +kernel
theorem dX8_wish_2 : decode cX8_wish 2 = .ok (.aload_n 0, 1) := by decide +kernel
theorem dX8_wish_3 : decode cX8_wish 3 = .ok (.getfield 275, 3) := by decide +kernel
theorem dX8_wish_6 : decode cX8_wish 6 = .ok (.iconst 1, 1) := by decide +kernel
theorem dX8_wish_7 : decode cX8_wish 7 = .ok (.isub, 1) := by decide +kernel
theorem dX8_wish_8 : decode cX8_wish 8 = .ok (.invokestatic 106, 3) := by decide +kernel
theorem dX8_wish_11 : decode cX8_wish 11 = .ok (.ifCond .eq 23, 3) := by decide +kernel
theorem dX8_wish_14 : decode cX8_wish 14 = .ok (.iload_n 2, 1) := by decide +kernel
theorem dX8_wish_15 : decode cX8_wish 15 = .ok (.iconst 0, 1) := by decide +kernel
theorem dX8_wish_16 : decode cX8_wish 16 = .ok (.iconst 5, 1) := by decide +kernel
theorem dX8_wish_17 : decode cX8_wish 17 = .ok (.invokestatic 106, 3) := by decide +kernel
theorem dX8_wish_20 : decode cX8_wish 20 = .ok (.ifCond .eq 14, 3) := by decide +kernel
theorem dX8_wish_23 : decode cX8_wish 23 = .ok (.iload_n 3, 1) := by decide +kernel
theorem dX8_wish_24 : decode cX8_wish 24 = .ok (.bipush (-9), 2) := by decide +kernel
theorem dX8_wish_26 : decode cX8_wish 26 = .ok (.bipush 9, 2) := by decide +kernel
theorem dX8_wish_28 : decode cX8_wish 28 = .ok (.invokestatic 106, 3) := by decide +kernel
theorem dX8_wish_31 : decode cX8_wish 31 = .ok (.ifCond .ne 6, 3) := by decide +kernel
theorem dX8_wish_34 : decode cX8_wish 34 = .ok (.bipush (-100), 2) := by decide +kernel
theorem dX8_wish_36 : decode cX8_wish 36 = .ok (.ireturn, 1) := by decide +kernel
theorem dX8_wish_37 : decode cX8_wish 37 = .ok (.aload_n 0, 1) := by decide +kernel
theorem dX8_wish_38 : decode cX8_wish 38 = .ok (.getfield 91, 3) := by decide +kernel
theorem dX8_wish_41 : decode cX8_wish 41 = .ok (.bipush 6, 2) := by decide +kernel
theorem dX8_wish_43 : decode cX8_wish 43 = .ok (.iload_n 1, 1) := by decide +kernel
theorem dX8_wish_44 : decode cX8_wish 44 = .ok (.imul, 1) := by decide +kernel
theorem dX8_wish_45 : decode cX8_wish 45 = .ok (.iload_n 2, 1) := by decide +kernel
theorem dX8_wish_46 : decode cX8_wish 46 = .ok (.iadd, 1) := by decide +kernel
theorem dX8_wish_47 : decode cX8_wish 47 = .ok (.iaload, 1) := by decide +kernel
theorem dX8_wish_48 : decode cX8_wish 48 = .ok (.istore 4, 2) := by decide +kernel
theorem dX8_wish_50 : decode cX8_wish 50 = .ok (.aload_n 0, 1) := by decide +kernel
theorem dX8_wish_51 : decode cX8_wish 51 = .ok (.getfield 91, 3) := by decide +kernel
theorem dX8_wish_54 : decode cX8_wish 54 = .ok (.bipush 6, 2) := by decide +kernel
theorem dX8_wish_56 : decode cX8_wish 56 = .ok (.iload_n 1, 1) := by decide +kernel
theorem dX8_wish_57 : decode cX8_wish 57 = .ok (.imul, 1) := by decide +kernel
theorem dX8_wish_58 : decode cX8_wish 58 = .ok (.iload_n 2, 1) := by decide +kernel
theorem dX8_wish_59 : decode cX8_wish 59 = .ok (.iadd, 1) := by decide +kernel
theorem dX8_wish_60 : decode cX8_wish 60 = .ok (.iload_n 3, 1) := by decide +kernel
theorem dX8_wish_61 : decode cX8_wish 61 = .ok (.iastore, 1) := by decide +kernel
theorem dX8_wish_62 : decode cX8_wish 62 = .ok (.iload 4, 2) := by decide +kernel
theorem dX8_wish_64 : decode cX8_wish 64 = .ok (.ireturn, 1) := by decide +kernel
theorem dX8_doesPass_0 : decode cX8_doesPass 0 = .ok (.iconst 0, 1) := by decide +kernel
theorem dX8_doesPass_1 : decode cX8_doesPass 1 = .ok (.istore_n 2, 1) := by decide +kernel
theorem dX8_doesPass_2 : decode cX8_doesPass 2 = .ok (.iconst 0, 1) := by decide +kernel
theorem dX8_doesPass_3 : decode cX8_doesPass 3 = .ok (.istore_n 3, 1) := by decide +kernel
theorem dX8_doesPass_4 : decode cX8_doesPass 4 = .ok (.iload_n 3, 1) := by decide +kernel
theorem dX8_doesPass_5 : decode cX8_doesPass 5 = .ok (.aload_n 0, 1) := by decide +kernel
theorem dX8_doesPass_6 : decode cX8_doesPass 6 = .ok (.getfield 275, 3) := by decide +kernel
theorem dX8_doesPass_9 : decode cX8_doesPass 9 = .ok (.if_icmp .ge 81, 3) := by decide +kernel
theorem dX8_doesPass_12 : decode cX8_doesPass 12 = .ok (.iconst 0, 1) := by decide +kernel
theorem dX8_doesPass_13 : decode cX8_doesPass 13 = .ok (.istore 4, 2) := by decide +kernel
theorem dX8_doesPass_15 : decode cX8_doesPass 15 = .ok (.iconst 0, 1) := by decide +kernel
theorem dX8_doesPass_16 : decode cX8_doesPass 16 = .ok (.istore 5, 2) := by decide +kernel
theorem dX8_doesPass_18 : decode cX8_doesPass 18 = .ok (.iload 5, 2) := by decide +kernel
theorem dX8_doesPass_20 : decode cX8_doesPass 20 = .ok (.bipush 6, 2) := by decide +kernel
theorem dX8_doesPass_22 : decode cX8_doesPass 22 = .ok (.if_icmp .ge 40, 3) := by decide +kernel
theorem dX8_doesPass_25 : decode cX8_doesPass 25 = .ok (.iload 4, 2) := by decide +kernel
theorem dX8_doesPass_27 : decode cX8_doesPass 27 = .ok (.iload_n 1, 1) := by decide +kernel
theorem dX8_doesPass_28 : decode cX8_doesPass 28 = .ok (.iload 5, 2) := by decide +kernel
theorem dX8_doesPass_30 : decode cX8_doesPass 30 = .ok (.ishr, 1) := by decide +kernel
theorem dX8_doesPass_31 : decode cX8_doesPass 31 = .ok (.iconst 1, 1) := by decide +kernel
theorem dX8_doesPass_32 : decode cX8_doesPass 32 = .ok (.iand, 1) := by decide +kernel
theorem dX8_doesPass_33 : decode cX8_doesPass 33 = .ok (.iconst 1, 1) := by decide +kernel
theorem dX8_doesPass_34 : decode cX8_doesPass 34 = .ok (.if_icmp .ne 18, 3) := by decide +kernel
theorem dX8_doesPass_37 : decode cX8_doesPass 37 = .ok (.aload_n 0, 1) := by decide +kernel
theorem dX8_doesPass_38 : decode cX8_doesPass 38 = .ok (.getfield 91, 3) := by decide +kernel
theorem dX8_doesPass_41 : decode cX8_doesPass 41 = .ok (.bipush 6, 2) := by decide +kernel
theorem dX8_doesPass_43 : decode cX8_doesPass 43 = .ok (.iload_n 3, 1) := by decide +kernel
theorem dX8_doesPass_44 : decode cX8_doesPass 44 = .ok (.imul, 1) := by decide +kernel
theorem dX8_doesPass_45 : decode cX8_doesPass 45 = .ok (.iload 5, 2) := by decide +kernel
theorem dX8_doesPass_47 : decode cX8_doesPass 47 = .ok (.iadd, 1) := by decide +kernel
theorem dX8_doesPass_48 : decode cX8_doesPass 48 = .ok (.iaload, 1) := by decide +kernel
theorem dX8_doesPass_49 : decode cX8_doesPass 49 = .ok (.goto 4, 3) := by decide +kernel
theorem dX8_doesPass_52 : decode cX8_doesPass 52 = .ok (.iconst 0, 1) := by decide +kernel
theorem dX8_doesPass_53 : decode cX8_doesPass 53 = .ok (.iadd, 1) := by decide +kernel
theorem dX8_doesPass_54 : decode cX8_doesPass 54 = .ok (.istore 4, 2) := by decide +kernel
theorem dX8_doesPass_56 : decode cX8_doesPass 56 = .ok (.iinc 5 1, 3) := by decide +kernel
theorem dX8_doesPass_59 : decode cX8_doesPass 59 = .ok (.goto (-41), 3) := by decide +kernel
theorem dX8_doesPass_62 : decode cX8_doesPass 62 = .ok (.iload_n 2, 1) := by decide +kernel
theorem dX8_doesPass_63 : decode cX8_doesPass 63 = .ok (.iload 4, 2) := by decide +kernel
theorem dX8_doesPass_65 : decode cX8_doesPass 65 = .ok (.ifCond .le 7, 3) := by decide +kernel
theorem dX8_doesPass_68 : decode cX8_doesPass 68 = .ok (.iconst 1, 1) := by decide +kernel
theorem dX8_doesPass_69 : decode cX8_doesPass 69 = .ok (.goto 13, 3) := by decide +kernel
theorem dX8_doesPass_72 : decode cX8_doesPass 72 = .ok (.iload 4, 2) := by decide +kernel
theorem dX8_doesPass_74 : decode cX8_doesPass 74 = .ok (.ifCond .ge 7, 3) := by decide +kernel
theorem dX8_doesPass_77 : decode cX8_doesPass 77 = .ok (.iconst (-1), 1) := by decide +kernel
theorem dX8_doesPass_78 : decode cX8_doesPass 78 = .ok (.goto 4, 3) := by decide +kernel
theorem dX8_doesPass_81 : decode cX8_doesPass 81 = .ok (.iconst 0, 1) := by decide +kernel
theorem dX8_doesPass_82 : decode cX8_doesPass 82 = .ok (.iadd, 1) := by decide +kernel
theorem dX8_doesPass_83 : decode cX8_doesPass 83 = .ok (.istore_n 2, 1) := by decide +kernel
theorem dX8_doesPass_84 : decode cX8_doesPass 84 = .ok (.iinc 3 1, 3) := by decide +kernel
theorem dX8_doesPass_87 : decode cX8_doesPass 87 = .ok (.goto (-83), 3) := by decide +kernel
theorem dX8_doesPass_90 : decode cX8_doesPass 90 = .ok (.iload_n 2, 1) := by decide +kernel
theorem dX8_doesPass_91 : decode cX8_doesPass 91 = .ok (.ifCond .le 7, 3) := by decide +kernel
theorem dX8_doesPass_94 : decode cX8_doesPass 94 = .ok (.iconst 1, 1) := by decide +kernel
theorem dX8_doesPass_95 : decode cX8_doesPass 95 = .ok (.goto 4, 3) := by decide +kernel
theorem dX8_doesPass_98 : decode cX8_doesPass 98 = .ok (.iconst 0, 1) := by decide +kernel
theorem dX8_doesPass_99 : decode cX8_doesPass 99 = .ok (.ireturn, 1) := by decide +kernel
theorem dX8_passes_0 : decode cX8_passes 0 = .ok (.iload_n 1, 1) := by decide +kernel
theorem dX8_passes_1 : decode cX8_passes 1 = .ok (.iconst 1, 1) := by decide +kernel
theorem dX8_passes_2 : decode cX8_passes 2 = .ok (.bipush 63, 2) := by decide +kernel
theorem dX8_passes_4 : decode cX8_passes 4 = .ok (.invokestatic 106, 3) := by decide +kernel
theorem dX8_passes_7 : decode cX8_passes 7 = .ok (.ifCond .ne 7, 3) := by decide +kernel
theorem dX8_passes_10 : decode cX8_passes 10 = .ok (.iconst (-1), 1) := by decide +kernel
theorem dX8_passes_11 : decode cX8_passes 11 = .ok (.goto 16, 3) := by decide +kernel
theorem dX8_passes_14 : decode cX8_passes 14 = .ok (.aload_n 0, 1) := by decide +kernel
theorem dX8_passes_15 : decode cX8_passes 15 = .ok (.iload_n 1, 1) := by decide +kernel
theorem dX8_passes_16 : decode cX8_passes 16 = .ok (.invokevirtual 278, 3) := by decide +kernel
theorem dX8_passes_19 : decode cX8_passes 19 = .ok (.ifCond .eq 7, 3) := by decide +kernel
theorem dX8_passes_22 : decode cX8_passes 22 = .ok (.iconst 1, 1) := by decide +kernel
theorem dX8_passes_23 : decode cX8_passes 23 = .ok (.goto 4, 3) := by decide +kernel
theorem dX8_passes_26 : decode cX8_passes 26 = .ok (.iconst 0, 1) := by decide +kernel
theorem dX8_passes_27 : decode cX8_passes 27 = .ok (.ireturn, 1) := by decide +kernel
theorem dX8_ride_0 : decode cX8_ride 0 = .ok (.iload_n 1, 1) := by decide +kernel
theorem dX8_ride_1 : decode cX8_ride 1 = .ok (.iconst 0, 1) := by decide +kernel
end
section
theorem dX8_ride_2 : decode cX8_ride 2 = .ok (.iconst 5, 1) := by decide +kernel
theorem dX8_ride_3 : decode cX8_ride 3 = .ok (.invokestatic 106, 3) := by decide +kernel
theorem dX8_ride_6 : decode cX8_ride 6 = .ok (.ifCond .eq 12, 3) := by decide +kernel
theorem dX8_ride_9 : decode cX8_ride 9 = .ok (.iload_n 2, 1) := by decide +kernel
theorem dX8_ride_10 : decode cX8_ride 10 = .ok (.iconst 0, 1) := by decide +kernel
theorem dX8_ride_11 : decode cX8_ride 11 = .ok (.iconst 1, 1) := by decide +kernel
theorem dX8_ride_12 : decode cX8_ride 12 = .ok (.invokestatic 106, 3) := by decide +kernel
theorem dX8_ride_15 : decode cX8_ride 15 = .ok (.ifCond .ne 5, 3) := by decide +kernel
theorem dX8_ride_18 : decode cX8_ride 18 = .ok (.iconst (-1), 1) := by decide +kernel
theorem dX8_ride_19 : decode cX8_ride 19 = .ok (.ireturn, 1) := by decide +kernel
theorem dX8_ride_20 : decode cX8_ride 20 = .ok (.bipush (-9), 2) := by decide +kernel
theorem dX8_ride_22 : decode cX8_ride 22 = .ok (.istore_n 3, 1) := by decide +kernel
theorem dX8_ride_23 : decode cX8_ride 23 = .ok (.iconst 0, 1) := by decide +kernel
theorem dX8_ride_24 : decode cX8_ride 24 = .ok (.istore 4, 2) := by decide +kernel
theorem dX8_ride_26 : decode cX8_ride 26 = .ok (.iload 4, 2) := by decide +kernel
theorem dX8_ride_28 : decode cX8_ride 28 = .ok (.bipush 64, 2) := by decide +kernel
theorem dX8_ride_30 : decode cX8_ride 30 = .ok (.if_icmp .ge 68, 3) := by decide +kernel
theorem dX8_ride_33 : decode cX8_ride 33 = .ok (.iload_n 3, 1) := by decide +kernel
theorem dX8_ride_34 : decode cX8_ride 34 = .ok (.bipush (-9), 2) := by decide +kernel
theorem dX8_ride_36 : decode cX8_ride 36 = .ok (.if_icmp .eq 15, 3) := by decide +kernel
theorem dX8_ride_39 : decode cX8_ride 39 = .ok (.iload 4, 2) := by decide +kernel
theorem dX8_ride_41 : decode cX8_ride 41 = .ok (.invokestatic 272, 3) := by decide +kernel
theorem dX8_ride_44 : decode cX8_ride 44 = .ok (.iload_n 3, 1) := by decide +kernel
theorem dX8_ride_45 : decode cX8_ride 45 = .ok (.invokestatic 272, 3) := by decide +kernel
theorem dX8_ride_48 : decode cX8_ride 48 = .ok (.if_icmp .ge 7, 3) := by decide +kernel
theorem dX8_ride_51 : decode cX8_ride 51 = .ok (.iconst 1, 1) := by decide +kernel
theorem dX8_ride_52 : decode cX8_ride 52 = .ok (.goto 4, 3) := by decide +kernel
theorem dX8_ride_55 : decode cX8_ride 55 = .ok (.iconst 0, 1) := by decide +kernel
theorem dX8_ride_56 : decode cX8_ride 56 = .ok (.istore 5, 2) := by decide +kernel
theorem dX8_ride_58 : decode cX8_ride 58 = .ok (.iload 4, 2) := by decide +kernel
theorem dX8_ride_60 : decode cX8_ride 60 = .ok (.iload_n 1, 1) := by decide +kernel
theorem dX8_ride_61 : decode cX8_ride 61 = .ok (.ishr, 1) := by decide +kernel
theorem dX8_ride_62 : decode cX8_ride 62 = .ok (.iconst 1, 1) := by decide +kernel
theorem dX8_ride_63 : decode cX8_ride 63 = .ok (.iand, 1) := by decide +kernel
theorem dX8_ride_64 : decode cX8_ride 64 = .ok (.ifCond .ne 26, 3) := by decide +kernel
theorem dX8_ride_67 : decode cX8_ride 67 = .ok (.iload 5, 2) := by decide +kernel
theorem dX8_ride_69 : decode cX8_ride 69 = .ok (.ifCond .eq 21, 3) := by decide +kernel
theorem dX8_ride_72 : decode cX8_ride 72 = .ok (.aload_n 0, 1) := by decide +kernel
theorem dX8_ride_73 : decode cX8_ride 73 = .ok (.iload 4, 2) := by decide +kernel
theorem dX8_ride_75 : decode cX8_ride 75 = .ok (.iconst 1, 1) := by decide +kernel
theorem dX8_ride_76 : decode cX8_ride 76 = .ok (.iload_n 1, 1) := by decide +kernel
theorem dX8_ride_77 : decode cX8_ride 77 = .ok (.ishl, 1) := by decide +kernel
theorem dX8_ride_78 : decode cX8_ride 78 = .ok (.ior, 1) := by decide +kernel
theorem dX8_ride_79 : decode cX8_ride 79 = .ok (.invokevirtual 278, 3) := by decide +kernel
theorem dX8_ride_82 : decode cX8_ride 82 = .ok (.ifCond .eq 8, 3) := by decide +kernel
theorem dX8_ride_85 : decode cX8_ride 85 = .ok (.iload 4, 2) := by decide +kernel
theorem dX8_ride_87 : decode cX8_ride 87 = .ok (.goto 4, 3) := by decide +kernel
theorem dX8_ride_90 : decode cX8_ride 90 = .ok (.iload_n 3, 1) := by decide +kernel
theorem dX8_ride_91 : decode cX8_ride 91 = .ok (.istore_n 3, 1) := by decide +kernel
theorem dX8_ride_92 : decode cX8_ride 92 = .ok (.iinc 4 1, 3) := by decide +kernel
theorem dX8_ride_95 : decode cX8_ride 95 = .ok (.goto (-69), 3) := by decide +kernel
theorem dX8_ride_98 : decode cX8_ride 98 = .ok (.iload_n 3, 1) := by decide +kernel
theorem dX8_ride_99 : decode cX8_ride 99 = .ok (.bipush (-9), 2) := by decide +kernel
theorem dX8_ride_101 : decode cX8_ride 101 = .ok (.if_icmp .eq 8, 3) := by decide +kernel
theorem dX8_ride_104 : decode cX8_ride 104 = .ok (.iload_n 2, 1) := by decide +kernel
theorem dX8_ride_105 : decode cX8_ride 105 = .ok (.iconst 1, 1) := by decide +kernel
theorem dX8_ride_106 : decode cX8_ride 106 = .ok (.if_icmp .ne 7, 3) := by decide +kernel
theorem dX8_ride_109 : decode cX8_ride 109 = .ok (.iload_n 3, 1) := by decide +kernel
theorem dX8_ride_110 : decode cX8_ride 110 = .ok (.goto 7, 3) := by decide +kernel
theorem dX8_ride_113 : decode cX8_ride 113 = .ok (.iload_n 3, 1) := by decide +kernel
theorem dX8_ride_114 : decode cX8_ride 114 = .ok (.invokestatic 272, 3) := by decide +kernel
theorem dX8_ride_117 : decode cX8_ride 117 = .ok (.ireturn, 1) := by decide +kernel
theorem dX8_tears_0 : decode cX8_tears 0 = .ok (.iload_n 1, 1) := by decide +kernel
theorem dX8_tears_1 : decode cX8_tears 1 = .ok (.iconst 1, 1) := by decide +kernel
theorem dX8_tears_2 : decode cX8_tears 2 = .ok (.bipush 63, 2) := by decide +kernel
theorem dX8_tears_4 : decode cX8_tears 4 = .ok (.invokestatic 106, 3) := by decide +kernel
theorem dX8_tears_7 : decode cX8_tears 7 = .ok (.ifCond .ne 5, 3) := by decide +kernel
theorem dX8_tears_10 : decode cX8_tears 10 = .ok (.iconst (-1), 1) := by decide +kernel
theorem dX8_tears_11 : decode cX8_tears 11 = .ok (.ireturn, 1) := by decide +kernel
theorem dX8_tears_12 : decode cX8_tears 12 = .ok (.iconst 0, 1) := by decide +kernel
theorem dX8_tears_13 : decode cX8_tears 13 = .ok (.istore_n 2, 1) := by decide +kernel
theorem dX8_tears_14 : decode cX8_tears 14 = .ok (.iconst 0, 1) := by decide +kernel
theorem dX8_tears_15 : decode cX8_tears 15 = .ok (.istore_n 3, 1) := by decide +kernel
theorem dX8_tears_16 : decode cX8_tears 16 = .ok (.iload_n 3, 1) := by decide +kernel
theorem dX8_tears_17 : decode cX8_tears 17 = .ok (.bipush 6, 2) := by decide +kernel
theorem dX8_tears_19 : decode cX8_tears 19 = .ok (.if_icmp .ge 44, 3) := by decide +kernel
theorem dX8_tears_22 : decode cX8_tears 22 = .ok (.aload_n 0, 1) := by decide +kernel
theorem dX8_tears_23 : decode cX8_tears 23 = .ok (.iload_n 1, 1) := by decide +kernel
theorem dX8_tears_24 : decode cX8_tears 24 = .ok (.invokevirtual 278, 3) := by decide +kernel
theorem dX8_tears_27 : decode cX8_tears 27 = .ok (.ifCond .eq 36, 3) := by decide +kernel
theorem dX8_tears_30 : decode cX8_tears 30 = .ok (.iload_n 2, 1) := by decide +kernel
theorem dX8_tears_31 : decode cX8_tears 31 = .ok (.iload_n 1, 1) := by decide +kernel
theorem dX8_tears_32 : decode cX8_tears 32 = .ok (.iload_n 3, 1) := by decide +kernel
theorem dX8_tears_33 : decode cX8_tears 33 = .ok (.ishr, 1) := by decide +kernel
theorem dX8_tears_34 : decode cX8_tears 34 = .ok (.iconst 1, 1) := by decide +kernel
theorem dX8_tears_35 : decode cX8_tears 35 = .ok (.iand, 1) := by decide +kernel
theorem dX8_tears_36 : decode cX8_tears 36 = .ok (.iconst 1, 1) := by decide +kernel
theorem dX8_tears_37 : decode cX8_tears 37 = .ok (.if_icmp .ne 17, 3) := by decide +kernel
theorem dX8_tears_40 : decode cX8_tears 40 = .ok (.aload_n 0, 1) := by decide +kernel
theorem dX8_tears_41 : decode cX8_tears 41 = .ok (.iconst 1, 1) := by decide +kernel
theorem dX8_tears_42 : decode cX8_tears 42 = .ok (.iload_n 3, 1) := by decide +kernel
theorem dX8_tears_43 : decode cX8_tears 43 = .ok (.ishl, 1) := by decide +kernel
theorem dX8_tears_44 : decode cX8_tears 44 = .ok (.invokevirtual 278, 3) := by decide +kernel
theorem dX8_tears_47 : decode cX8_tears 47 = .ok (.ifCond .ne 7, 3) := by decide +kernel
theorem dX8_tears_50 : decode cX8_tears 50 = .ok (.iconst 1, 1) := by decide +kernel
theorem dX8_tears_51 : decode cX8_tears 51 = .ok (.goto 4, 3) := by decide +kernel
theorem dX8_tears_54 : decode cX8_tears 54 = .ok (.iconst 0, 1) := by decide +kernel
theorem dX8_tears_55 : decode cX8_tears 55 = .ok (.iadd, 1) := by decide +kernel
theorem dX8_tears_56 : decode cX8_tears 56 = .ok (.istore_n 2, 1) := by decide +kernel
theorem dX8_tears_57 : decode cX8_tears 57 = .ok (.iinc 3 1, 3) := by decide +kernel
theorem dX8_tears_60 : decode cX8_tears 60 = .ok (.goto (-44), 3) := by decide +kernel
theorem dX8_tears_63 : decode cX8_tears 63 = .ok (.iload_n 2, 1) := by decide +kernel
theorem dX8_tears_64 : decode cX8_tears 64 = .ok (.ireturn, 1) := by decide +kernel
theorem dX8_word_0 : decode cX8_word 0 = .ok (.iload_n 1, 1) := by decide +kernel
theorem dX8_word_1 : decode cX8_word 1 = .ok (.iconst 0, 1) := by decide +kernel
theorem dX8_word_2 : decode cX8_word 2 = .ok (.iconst 4, 1) := by decide +kernel
theorem dX8_word_3 : decode cX8_word 3 = .ok (.invokestatic 106, 3) := by decide +kernel
theorem dX8_word_6 : decode cX8_word 6 = .ok (.ifCond .eq 54, 3) := by decide +kernel
theorem dX8_word_9 : decode cX8_word 9 = .ok (.iload_n 2, 1) := by decide +kernel
theorem dX8_word_10 : decode cX8_word 10 = .ok (.iconst 0, 1) := by decide +kernel
theorem dX8_word_11 : decode cX8_word 11 = .ok (.iconst 3, 1) := by decide +kernel
theorem dX8_word_12 : decode cX8_word 12 = .ok (.invokestatic 106, 3) := by decide +kernel
theorem dX8_word_15 : decode cX8_word 15 = .ok (.ifCond .eq 45, 3) := by decide +kernel
theorem dX8_word_18 : decode cX8_word 18 = .ok (.iload_n 3, 1) := by decide +kernel
theorem dX8_word_19 : decode cX8_word 19 = .ok (.iconst 0, 1) := by decide +kernel
theorem dX8_word_20 : decode cX8_word 20 = .ok (.iload_n 2, 1) := by decide +kernel
theorem dX8_word_21 : decode cX8_word 21 = .ok (.iconst 2, 1) := by decide +kernel
theorem dX8_word_22 : decode cX8_word 22 = .ok (.if_icmp .ge 7, 3) := by decide +kernel
theorem dX8_word_25 : decode cX8_word 25 = .ok (.iconst 1, 1) := by decide +kernel
theorem dX8_word_26 : decode cX8_word 26 = .ok (.goto 4, 3) := by decide +kernel
theorem dX8_word_29 : decode cX8_word 29 = .ok (.iconst 3, 1) := by decide +kernel
theorem dX8_word_30 : decode cX8_word 30 = .ok (.invokestatic 106, 3) := by decide +kernel
theorem dX8_word_33 : decode cX8_word 33 = .ok (.ifCond .eq 27, 3) := by decide +kernel
theorem dX8_word_36 : decode cX8_word 36 = .ok (.iload 4, 2) := by decide +kernel
theorem dX8_word_38 : decode cX8_word 38 = .ok (.iconst 0, 1) := by decide +kernel
theorem dX8_word_39 : decode cX8_word 39 = .ok (.iload_n 2, 1) := by decide +kernel
theorem dX8_word_40 : decode cX8_word 40 = .ok (.iconst 3, 1) := by decide +kernel
theorem dX8_word_41 : decode cX8_word 41 = .ok (.if_icmp .ne 7, 3) := by decide +kernel
theorem dX8_word_44 : decode cX8_word 44 = .ok (.iconst 3, 1) := by decide +kernel
theorem dX8_word_45 : decode cX8_word 45 = .ok (.goto 5, 3) := by decide +kernel
theorem dX8_word_48 : decode cX8_word 48 = .ok (.bipush 59, 2) := by decide +kernel
theorem dX8_word_50 : decode cX8_word 50 = .ok (.invokestatic 106, 3) := by decide +kernel
theorem dX8_word_53 : decode cX8_word 53 = .ok (.ifCond .eq 7, 3) := by decide +kernel
theorem dX8_word_56 : decode cX8_word 56 = .ok (.iconst 1, 1) := by decide +kernel
theorem dX8_word_57 : decode cX8_word 57 = .ok (.goto 4, 3) := by decide +kernel
theorem dX8_word_60 : decode cX8_word 60 = .ok (.iconst 0, 1) := by decide +kernel
theorem dX8_word_61 : decode cX8_word 61 = .ok (.istore 5, 2) := by decide +kernel
theorem dX8_word_63 : decode cX8_word 63 = .ok (.iload 5, 2) := by decide +kernel
theorem dX8_word_65 : decode cX8_word 65 = .ok (.ifCond .ne 5, 3) := by decide +kernel
theorem dX8_word_68 : decode cX8_word 68 = .ok (.iconst (-1), 1) := by decide +kernel
theorem dX8_word_69 : decode cX8_word 69 = .ok (.ireturn, 1) := by decide +kernel
theorem dX8_word_70 : decode cX8_word 70 = .ok (.aload_n 0, 1) := by decide +kernel
theorem dX8_word_71 : decode cX8_word 71 = .ok (.getfield 94, 3) := by decide +kernel
theorem dX8_word_74 : decode cX8_word 74 = .ok (.iload_n 1, 1) := by decide +kernel
theorem dX8_word_75 : decode cX8_word 75 = .ok (.iaload, 1) := by decide +kernel
theorem dX8_word_76 : decode cX8_word 76 = .ok (.istore 6, 2) := by decide +kernel
theorem dX8_word_78 : decode cX8_word 78 = .ok (.aload_n 0, 1) := by decide +kernel
theorem dX8_word_79 : decode cX8_word 79 = .ok (.getfield 94, 3) := by decide +kernel
theorem dX8_word_82 : decode cX8_word 82 = .ok (.iload_n 1, 1) := by decide +kernel
theorem dX8_word_83 : decode cX8_word 83 = .ok (.iload_n 2, 1) := by decide +kernel
theorem dX8_word_84 : decode cX8_word 84 = .ok (.iastore, 1) := by decide +kernel
theorem dX8_word_85 : decode cX8_word 85 = .ok (.aload_n 0, 1) := by decide +kernel
theorem dX8_word_86 : decode cX8_word 86 = .ok (.getfield 97, 3) := by decide +kernel
theorem dX8_word_89 : decode cX8_word 89 = .ok (.iload_n 1, 1) := by decide +kernel
theorem dX8_word_90 : decode cX8_word 90 = .ok (.iload_n 3, 1) := by decide +kernel
theorem dX8_word_91 : decode cX8_word 91 = .ok (.iastore, 1) := by decide +kernel
theorem dX8_word_92 : decode cX8_word 92 = .ok (.aload_n 0, 1) := by decide +kernel
theorem dX8_word_93 : decode cX8_word 93 = .ok (.getfield 100, 3) := by decide +kernel
theorem dX8_word_96 : decode cX8_word 96 = .ok (.iload_n 1, 1) := by decide +kernel
theorem dX8_word_97 : decode cX8_word 97 = .ok (.iload 4, 2) := by decide +kernel
theorem dX8_word_99 : decode cX8_word 99 = .ok (.iastore, 1) := by decide +kernel
theorem dX8_word_100 : decode cX8_word 100 = .ok (.iload 6, 2) := by decide +kernel
theorem dX8_word_102 : decode cX8_word 102 = .ok (.ireturn, 1) := by decide +kernel
theorem dX8_less_0 : decode cX8_less 0 = .ok (.iload_n 0, 1) := by decide +kernel
theorem dX8_less_1 : decode cX8_less 1 = .ok (.iload_n 1, 1) := by decide +kernel
theorem dX8_less_2 : decode cX8_less 2 = .ok (.if_icmp .le 9, 3) := by decide +kernel
theorem dX8_less_5 : decode cX8_less 5 = .ok (.iload_n 0, 1) := by decide +kernel
theorem dX8_less_6 : decode cX8_less 6 = .ok (.iload_n 1, 1) := by decide +kernel
theorem dX8_less_7 : decode cX8_less 7 = .ok (.isub, 1) := by decide +kernel
theorem dX8_less_8 : decode cX8_less 8 = .ok (.goto 4, 3) := by decide +kernel
theorem dX8_less_11 : decode cX8_less 11 = .ok (.iconst 0, 1) := by decide +kernel
theorem dX8_less_12 : decode cX8_less 12 = .ok (.ireturn, 1) := by decide +kernel
theorem dX8_sureWith_0 : decode cX8_sureWith 0 = .ok (.aload_n 0, 1) := by decide +kernel
theorem dX8_sureWith_1 : decode cX8_sureWith 1 = .ok (.iload_n 1, 1) := by decide +kernel
theorem dX8_sureWith_2 : decode cX8_sureWith 2 = .ok (.iconst 0, 1) := by decide +kernel
theorem dX8_sureWith_3 : decode cX8_sureWith 3 = .ok (.invokevirtual 188, 3) := by decide +kernel
theorem dX8_sureWith_6 : decode cX8_sureWith 6 = .ok (.aload_n 0, 1) := by decide +kernel
theorem dX8_sureWith_7 : decode cX8_sureWith 7 = .ok (.iconst 1, 1) := by decide +kernel
theorem dX8_sureWith_8 : decode cX8_sureWith 8 = .ok (.invokevirtual 192, 3) := by decide +kernel
theorem dX8_sureWith_11 : decode cX8_sureWith 11 = .ok (.istore_n 3, 1) := by decide +kernel
theorem dX8_sureWith_12 : decode cX8_sureWith 12 = .ok (.aload_n 0, 1) := by decide +kernel
theorem dX8_sureWith_13 : decode cX8_sureWith 13 = .ok (.iconst 2, 1) := by decide +kernel
theorem dX8_sureWith_14 : decode cX8_sureWith 14 = .ok (.invokevirtual 192, 3) := by decide +kernel
theorem dX8_sureWith_17 : decode cX8_sureWith 17 = .ok (.istore 4, 2) := by decide +kernel
theorem dX8_sureWith_19 : decode cX8_sureWith 19 = .ok (.iconst 0, 1) := by decide +kernel
theorem dX8_sureWith_20 : decode cX8_sureWith 20 = .ok (.istore 5, 2) := by decide +kernel
theorem dX8_sureWith_22 : decode cX8_sureWith 22 = .ok (.iload 5, 2) := by decide +kernel
theorem dX8_sureWith_24 : decode cX8_sureWith 24 = .ok (.iconst 5, 1) := by decide +kernel
theorem dX8_sureWith_25 : decode cX8_sureWith 25 = .ok (.if_icmp .ge 164, 3) := by decide +kernel
theorem dX8_sureWith_28 : decode cX8_sureWith 28 = .ok (.iload_n 2, 1) := by decide +kernel
theorem dX8_sureWith_29 : decode cX8_sureWith 29 = .ok (.iload 5, 2) := by decide +kernel
theorem dX8_sureWith_31 : decode cX8_sureWith 31 = .ok (.ishr, 1) := by decide +kernel
theorem dX8_sureWith_32 : decode cX8_sureWith 32 = .ok (.iconst 1, 1) := by decide +kernel
theorem dX8_sureWith_33 : decode cX8_sureWith 33 = .ok (.iand, 1) := by decide +kernel
theorem dX8_sureWith_34 : decode cX8_sureWith 34 = .ok (.iconst 1, 1) := by decide +kernel
theorem dX8_sureWith_35 : decode cX8_sureWith 35 = .ok (.if_icmp .ne 148, 3) := by decide +kernel
theorem dX8_sureWith_38 : decode cX8_sureWith 38 = .ok (.aload_n 0, 1) := by decide +kernel
theorem dX8_sureWith_39 : decode cX8_sureWith 39 = .ok (.getfield 97, 3) := by decide +kernel
theorem dX8_sureWith_42 : decode cX8_sureWith 42 = .ok (.iload 5, 2) := by decide +kernel
theorem dX8_sureWith_44 : decode cX8_sureWith 44 = .ok (.iaload, 1) := by decide +kernel
theorem dX8_sureWith_45 : decode cX8_sureWith 45 = .ok (.istore 6, 2) := by decide +kernel
theorem dX8_sureWith_47 : decode cX8_sureWith 47 = .ok (.aload_n 0, 1) := by decide +kernel
theorem dX8_sureWith_48 : decode cX8_sureWith 48 = .ok (.getfield 100, 3) := by decide +kernel
theorem dX8_sureWith_51 : decode cX8_sureWith 51 = .ok (.iload 5, 2) := by decide +kernel
theorem dX8_sureWith_53 : decode cX8_sureWith 53 = .ok (.iaload, 1) := by decide +kernel
theorem dX8_sureWith_54 : decode cX8_sureWith 54 = .ok (.istore 7, 2) := by decide +kernel
theorem dX8_sureWith_56 : decode cX8_sureWith 56 = .ok (.aload_n 0, 1) := by decide +kernel
theorem dX8_sureWith_57 : decode cX8_sureWith 57 = .ok (.getfield 94, 3) := by decide +kernel
theorem dX8_sureWith_60 : decode cX8_sureWith 60 = .ok (.iload 5, 2) := by decide +kernel
theorem dX8_sureWith_62 : decode cX8_sureWith 62 = .ok (.iaload, 1) := by decide +kernel
theorem dX8_sureWith_63 : decode cX8_sureWith 63 = .ok (.iconst 1, 1) := by decide +kernel
theorem dX8_sureWith_64 : decode cX8_sureWith 64 = .ok (.if_icmp .ne 17, 3) := by decide +kernel
theorem dX8_sureWith_67 : decode cX8_sureWith 67 = .ok (.iload 6, 2) := by decide +kernel
theorem dX8_sureWith_69 : decode cX8_sureWith 69 = .ok (.ifCond .ne 12, 3) := by decide +kernel
theorem dX8_sureWith_72 : decode cX8_sureWith 72 = .ok (.iload_n 3, 1) := by decide +kernel
theorem dX8_sureWith_73 : decode cX8_sureWith 73 = .ok (.iload 7, 2) := by decide +kernel
theorem dX8_sureWith_75 : decode cX8_sureWith 75 = .ok (.invokestatic 281, 3) := by decide +kernel
theorem dX8_sureWith_78 : decode cX8_sureWith 78 = .ok (.goto 4, 3) := by decide +kernel
theorem dX8_sureWith_81 : decode cX8_sureWith 81 = .ok (.iload_n 3, 1) := by decide +kernel
theorem dX8_sureWith_82 : decode cX8_sureWith 82 = .ok (.istore_n 3, 1) := by decide +kernel
theorem dX8_sureWith_83 : decode cX8_sureWith 83 = .ok (.aload_n 0, 1) := by decide +kernel
theorem dX8_sureWith_84 : decode cX8_sureWith 84 = .ok (.getfield 94, 3) := by decide +kernel
theorem dX8_sureWith_87 : decode cX8_sureWith 87 = .ok (.iload 5, 2) := by decide +kernel
theorem dX8_sureWith_89 : decode cX8_sureWith 89 = .ok (.iaload, 1) := by decide +kernel
theorem dX8_sureWith_90 : decode cX8_sureWith 90 = .ok (.iconst 1, 1) := by decide +kernel
theorem dX8_sureWith_91 : decode cX8_sureWith 91 = .ok (.if_icmp .ne 19, 3) := by decide +kernel
theorem dX8_sureWith_94 : decode cX8_sureWith 94 = .ok (.iload 6, 2) := by decide +kernel
theorem dX8_sureWith_96 : decode cX8_sureWith 96 = .ok (.iconst 1, 1) := by decide +kernel
theorem dX8_sureWith_97 : decode cX8_sureWith 97 = .ok (.if_icmp .ne 13, 3) := by decide +kernel
theorem dX8_sureWith_100 : decode cX8_sureWith 100 = .ok (.iload 4, 2) := by decide +kernel
theorem dX8_sureWith_102 : decode cX8_sureWith 102 = .ok (.iload 7, 2) := by decide +kernel
theorem dX8_sureWith_104 : decode cX8_sureWith 104 = .ok (.invokestatic 281, 3) := by decide +kernel
theorem dX8_sureWith_107 : decode cX8_sureWith 107 = .ok (.goto 5, 3) := by decide +kernel
theorem dX8_sureWith_110 : decode cX8_sureWith 110 = .ok (.iload 4, 2) := by decide +kernel
theorem dX8_sureWith_112 : decode cX8_sureWith 112 = .ok (.istore 4, 2) := by decide +kernel
theorem dX8_sureWith_114 : decode cX8_sureWith 114 = .ok (.aload_n 0, 1) := by decide +kernel
theorem dX8_sureWith_115 : decode cX8_sureWith 115 = .ok (.getfield 67, 3) := by decide +kernel
theorem dX8_sureWith_118 : decode cX8_sureWith 118 = .ok (.iload 6, 2) := by decide +kernel
theorem dX8_sureWith_120 : decode cX8_sureWith 120 = .ok (.aload_n 0, 1) := by decide +kernel
theorem dX8_sureWith_121 : decode cX8_sureWith 121 = .ok (.getfield 94, 3) := by decide +kernel
theorem dX8_sureWith_124 : decode cX8_sureWith 124 = .ok (.iload 5, 2) := by decide +kernel
theorem dX8_sureWith_126 : decode cX8_sureWith 126 = .ok (.iaload, 1) := by decide +kernel
theorem dX8_sureWith_127 : decode cX8_sureWith 127 = .ok (.iconst 2, 1) := by decide +kernel
theorem dX8_sureWith_128 : decode cX8_sureWith 128 = .ok (.if_icmp .ne 18, 3) := by decide +kernel
theorem dX8_sureWith_131 : decode cX8_sureWith 131 = .ok (.aload_n 0, 1) := by decide +kernel
theorem dX8_sureWith_132 : decode cX8_sureWith 132 = .ok (.getfield 67, 3) := by decide +kernel
theorem dX8_sureWith_135 : decode cX8_sureWith 135 = .ok (.iload 6, 2) := by decide +kernel
theorem dX8_sureWith_137 : decode cX8_sureWith 137 = .ok (.iaload, 1) := by decide +kernel
theorem dX8_sureWith_138 : decode cX8_sureWith 138 = .ok (.iload 7, 2) := by decide +kernel
theorem dX8_sureWith_140 : decode cX8_sureWith 140 = .ok (.invokestatic 281, 3) := by decide +kernel
theorem dX8_sureWith_143 : decode cX8_sureWith 143 = .ok (.goto 10, 3) := by decide +kernel
theorem dX8_sureWith_146 : decode cX8_sureWith 146 = .ok (.aload_n 0, 1) := by decide +kernel
theorem dX8_sureWith_147 : decode cX8_sureWith 147 = .ok (.getfield 67, 3) := by decide +kernel
theorem dX8_sureWith_150 : decode cX8_sureWith 150 = .ok (.iload 6, 2) := by decide +kernel
theorem dX8_sureWith_152 : decode cX8_sureWith 152 = .ok (.iaload, 1) := by decide +kernel
theorem dX8_sureWith_153 : decode cX8_sureWith 153 = .ok (.iastore, 1) := by decide +kernel
theorem dX8_sureWith_154 : decode cX8_sureWith 154 = .ok (.aload_n 0, 1) := by decide +kernel
theorem dX8_sureWith_155 : decode cX8_sureWith 155 = .ok (.getfield 64, 3) := by decide +kernel
theorem dX8_sureWith_158 : decode cX8_sureWith 158 = .ok (.iload 6, 2) := by decide +kernel
theorem dX8_sureWith_160 : decode cX8_sureWith 160 = .ok (.dup2, 1) := by decide +kernel
theorem dX8_sureWith_161 : decode cX8_sureWith 161 = .ok (.iaload, 1) := by decide +kernel
theorem dX8_sureWith_162 : decode cX8_sureWith 162 = .ok (.aload_n 0, 1) := by decide +kernel
theorem dX8_sureWith_163 : decode cX8_sureWith 163 = .ok (.getfield 94, 3) := by decide +kernel
theorem dX8_sureWith_166 : decode cX8_sureWith 166 = .ok (.iload 5, 2) := by decide +kernel
theorem dX8_sureWith_168 : decode cX8_sureWith 168 = .ok (.iaload, 1) := by decide +kernel
theorem dX8_sureWith_169 : decode cX8_sureWith 169 = .ok (.iconst 3, 1) := by decide +kernel
theorem dX8_sureWith_170 : decode cX8_sureWith 170 = .ok (.if_icmp .ne 10, 3) := by decide +kernel
theorem dX8_sureWith_173 : decode cX8_sureWith 173 = .ok (.iconst 1, 1) := by decide +kernel
theorem dX8_sureWith_174 : decode cX8_sureWith 174 = .ok (.iload 7, 2) := by decide +kernel
theorem dX8_sureWith_176 : decode cX8_sureWith 176 = .ok (.ishl, 1) := by decide +kernel
theorem dX8_sureWith_177 : decode cX8_sureWith 177 = .ok (.goto 4, 3) := by decide +kernel
theorem dX8_sureWith_180 : decode cX8_sureWith 180 = .ok (.iconst 0, 1) := by decide +kernel
theorem dX8_sureWith_181 : decode cX8_sureWith 181 = .ok (.ior, 1) := by decide +kernel
theorem dX8_sureWith_182 : decode cX8_sureWith 182 = .ok (.iastore, 1) := by decide +kernel
theorem dX8_sureWith_183 : decode cX8_sureWith 183 = .ok (.iinc 5 1, 3) := by decide +kernel
theorem dX8_sureWith_186 : decode cX8_sureWith 186 = .ok (.goto (-164), 3) := by decide +kernel
theorem dX8_sureWith_189 : decode cX8_sureWith 189 = .ok (.aload_n 0, 1) := by decide +kernel
theorem dX8_sureWith_190 : decode cX8_sureWith 190 = .ok (.getfield 179, 3) := by decide +kernel
theorem dX8_sureWith_193 : decode cX8_sureWith 193 = .ok (.ifCond .ne 5, 3) := by decide +kernel
theorem dX8_sureWith_196 : decode cX8_sureWith 196 = .ok (.iconst 0, 1) := by decide +kernel
theorem dX8_sureWith_197 : decode cX8_sureWith 197 = .ok (.ireturn, 1) := by decide +kernel
theorem dX8_sureWith_198 : decode cX8_sureWith 198 = .ok (.aload_n 0, 1) := by decide +kernel
theorem dX8_sureWith_199 : decode cX8_sureWith 199 = .ok (.iconst 0, 1) := by decide +kernel
theorem dX8_sureWith_200 : decode cX8_sureWith 200 = .ok (.iconst 0, 1) := by decide +kernel
theorem dX8_sureWith_201 : decode cX8_sureWith 201 = .ok (.iload_n 3, 1) := by decide +kernel
theorem dX8_sureWith_202 : decode cX8_sureWith 202 = .ok (.iload 4, 2) := by decide +kernel
theorem dX8_sureWith_204 : decode cX8_sureWith 204 = .ok (.invokevirtual 262, 3) := by decide +kernel
theorem dX8_sureWith_207 : decode cX8_sureWith 207 = .ok (.aload_n 0, 1) := by decide +kernel
theorem dX8_sureWith_208 : decode cX8_sureWith 208 = .ok (.getfield 88, 3) := by decide +kernel
theorem dX8_sureWith_211 : decode cX8_sureWith 211 = .ok (.iconst 0, 1) := by decide +kernel
theorem dX8_sureWith_212 : decode cX8_sureWith 212 = .ok (.iconst 0, 1) := by decide +kernel
theorem dX8_sureWith_213 : decode cX8_sureWith 213 = .ok (.iload_n 3, 1) := by decide +kernel
theorem dX8_sureWith_214 : decode cX8_sureWith 214 = .ok (.iload 4, 2) := by decide +kernel
theorem dX8_sureWith_216 : decode cX8_sureWith 216 = .ok (.invokestatic 247, 3) := by decide +kernel
theorem dX8_sureWith_219 : decode cX8_sureWith 219 = .ok (.iaload, 1) := by decide +kernel
theorem dX8_sureWith_220 : decode cX8_sureWith 220 = .ok (.ireturn, 1) := by decide +kernel
theorem dX8_mended_0 : decode cX8_mended 0 = .ok (.iload_n 1, 1) := by decide +kernel
theorem dX8_mended_1 : decode cX8_mended 1 = .ok (.iconst 0, 1) := by decide +kernel
theorem dX8_mended_2 : decode cX8_mended 2 = .ok (.iconst 2, 1) := by decide +kernel
theorem dX8_mended_3 : decode cX8_mended 3 = .ok (.invokestatic 106, 3) := by decide +kernel
theorem dX8_mended_6 : decode cX8_mended 6 = .ok (.ifCond .ne 5, 3) := by decide +kernel
theorem dX8_mended_9 : decode cX8_mended 9 = .ok (.iconst (-1), 1) := by decide +kernel
theorem dX8_mended_10 : decode cX8_mended 10 = .ok (.ireturn, 1) := by decide +kernel
theorem dX8_mended_11 : decode cX8_mended 11 = .ok (.iconst 0, 1) := by decide +kernel
theorem dX8_mended_12 : decode cX8_mended 12 = .ok (.istore_n 2, 1) := by decide +kernel
theorem dX8_mended_13 : decode cX8_mended 13 = .ok (.iload_n 2, 1) := by decide +kernel
theorem dX8_mended_14 : decode cX8_mended 14 = .ok (.iconst 5, 1) := by decide +kernel
theorem dX8_mended_15 : decode cX8_mended 15 = .ok (.if_icmp .gt 107, 3) := by decide +kernel
theorem dX8_mended_18 : decode cX8_mended 18 = .ok (.bipush (-9), 2) := by decide +kernel
theorem dX8_mended_20 : decode cX8_mended 20 = .ok (.istore_n 3, 1) := by decide +kernel
theorem dX8_mended_21 : decode cX8_mended 21 = .ok (.iconst 0, 1) := by decide +kernel
theorem dX8_mended_22 : decode cX8_mended 22 = .ok (.istore 4, 2) := by decide +kernel
theorem dX8_mended_24 : decode cX8_mended 24 = .ok (.iconst 0, 1) := by decide +kernel
theorem dX8_mended_25 : decode cX8_mended 25 = .ok (.istore 5, 2) := by decide +kernel
theorem dX8_mended_27 : decode cX8_mended 27 = .ok (.iload 5, 2) := by decide +kernel
theorem dX8_mended_29 : decode cX8_mended 29 = .ok (.bipush 32, 2) := by decide +kernel
theorem dX8_mended_31 : decode cX8_mended 31 = .ok (.if_icmp .ge 60, 3) := by decide +kernel
theorem dX8_mended_34 : decode cX8_mended 34 = .ok (.iload 5, 2) := by decide +kernel
theorem dX8_mended_36 : decode cX8_mended 36 = .ok (.invokestatic 272, 3) := by decide +kernel
theorem dX8_mended_39 : decode cX8_mended 39 = .ok (.iload_n 2, 1) := by decide +kernel
theorem dX8_mended_40 : decode cX8_mended 40 = .ok (.if_icmp .ne 45, 3) := by decide +kernel
theorem dX8_mended_43 : decode cX8_mended 43 = .ok (.aload_n 0, 1) := by decide +kernel
theorem dX8_mended_44 : decode cX8_mended 44 = .ok (.iconst 0, 1) := by decide +kernel
theorem dX8_mended_45 : decode cX8_mended 45 = .ok (.iload 5, 2) := by decide +kernel
theorem dX8_mended_47 : decode cX8_mended 47 = .ok (.invokevirtual 284, 3) := by decide +kernel
theorem dX8_mended_50 : decode cX8_mended 50 = .ok (.sipush 9999, 3) := by decide +kernel
theorem dX8_mended_53 : decode cX8_mended 53 = .ok (.if_icmp .eq 32, 3) := by decide +kernel
theorem dX8_mended_56 : decode cX8_mended 56 = .ok (.aload_n 0, 1) := by decide +kernel
theorem dX8_mended_57 : decode cX8_mended 57 = .ok (.iconst 1, 1) := by decide +kernel
theorem dX8_mended_58 : decode cX8_mended 58 = .ok (.iload 5, 2) := by decide +kernel
theorem dX8_mended_60 : decode cX8_mended 60 = .ok (.invokevirtual 284, 3) := by decide +kernel
theorem dX8_mended_63 : decode cX8_mended 63 = .ok (.sipush 9999, 3) := by decide +kernel
theorem dX8_mended_66 : decode cX8_mended 66 = .ok (.if_icmp .ne 19, 3) := by decide +kernel
theorem dX8_mended_69 : decode cX8_mended 69 = .ok (.iload_n 3, 1) := by decide +kernel
theorem dX8_mended_70 : decode cX8_mended 70 = .ok (.bipush (-9), 2) := by decide +kernel
theorem dX8_mended_72 : decode cX8_mended 72 = .ok (.if_icmp .ne 8, 3) := by decide +kernel
theorem dX8_mended_75 : decode cX8_mended 75 = .ok (.iload 5, 2) := by decide +kernel
theorem dX8_mended_77 : decode cX8_mended 77 = .ok (.goto 4, 3) := by decide +kernel
theorem dX8_mended_80 : decode cX8_mended 80 = .ok (.iload_n 3, 1) := by decide +kernel
theorem dX8_mended_81 : decode cX8_mended 81 = .ok (.istore_n 3, 1) := by decide +kernel
theorem dX8_mended_82 : decode cX8_mended 82 = .ok (.iinc 4 1, 3) := by decide +kernel
theorem dX8_mended_85 : decode cX8_mended 85 = .ok (.iinc 5 1, 3) := by decide +kernel
theorem dX8_mended_88 : decode cX8_mended 88 = .ok (.goto (-61), 3) := by decide +kernel
theorem dX8_mended_91 : decode cX8_mended 91 = .ok (.iload 4, 2) := by decide +kernel
theorem dX8_mended_93 : decode cX8_mended 93 = .ok (.ifCond .le 23, 3) := by decide +kernel
theorem dX8_mended_96 : decode cX8_mended 96 = .ok (.iload_n 1, 1) := by decide +kernel
theorem dX8_mended_97 : decode cX8_mended 97 = .ok (.ifCond .ne 7, 3) := by decide +kernel
theorem dX8_mended_100 : decode cX8_mended 100 = .ok (.iload_n 2, 1) := by decide +kernel
theorem dX8_mended_101 : decode cX8_mended 101 = .ok (.goto 14, 3) := by decide +kernel
theorem dX8_mended_104 : decode cX8_mended 104 = .ok (.iload_n 1, 1) := by decide +kernel
theorem dX8_mended_105 : decode cX8_mended 105 = .ok (.iconst 1, 1) := by decide +kernel
theorem dX8_mended_106 : decode cX8_mended 106 = .ok (.if_icmp .ne 7, 3) := by decide +kernel
theorem dX8_mended_109 : decode cX8_mended 109 = .ok (.iload_n 3, 1) := by decide +kernel
theorem dX8_mended_110 : decode cX8_mended 110 = .ok (.goto 5, 3) := by decide +kernel
theorem dX8_mended_113 : decode cX8_mended 113 = .ok (.iload 4, 2) := by decide +kernel
theorem dX8_mended_115 : decode cX8_mended 115 = .ok (.ireturn, 1) := by decide +kernel
theorem dX8_mended_116 : decode cX8_mended 116 = .ok (.iinc 2 1, 3) := by decide +kernel
theorem dX8_mended_119 : decode cX8_mended 119 = .ok (.goto (-106), 3) := by decide +kernel
theorem dX8_mended_122 : decode cX8_mended 122 = .ok (.bipush (-9), 2) := by decide +kernel
theorem dX8_mended_124 : decode cX8_mended 124 = .ok (.ireturn, 1) := by decide +kernel
theorem dX8_price_0 : decode cX8_price 0 = .ok (.iload_n 1, 1) := by decide +kernel
theorem dX8_price_1 : decode cX8_price 1 = .ok (.iconst 0, 1) := by decide +kernel
theorem dX8_price_2 : decode cX8_price 2 = .ok (.bipush 6, 2) := by decide +kernel
theorem dX8_price_4 : decode cX8_price 4 = .ok (.invokestatic 106, 3) := by decide +kernel
theorem dX8_price_7 : decode cX8_price 7 = .ok (.ifCond .eq 11, 3) := by decide +kernel
theorem dX8_price_10 : decode cX8_price 10 = .ok (.aload_n 0, 1) := by decide +kernel
theorem dX8_price_11 : decode cX8_price 11 = .ok (.iload_n 2, 1) := by decide +kernel
theorem dX8_price_12 : decode cX8_price 12 = .ok (.invokevirtual 161, 3) := by decide +kernel
theorem dX8_price_15 : decode cX8_price 15 = .ok (.ifCond .ne 5, 3) := by decide +kernel
theorem dX8_price_18 : decode cX8_price 18 = .ok (.iconst (-1), 1) := by decide +kernel
theorem dX8_price_19 : decode cX8_price 19 = .ok (.ireturn, 1) := by decide +kernel
theorem dX8_price_20 : decode cX8_price 20 = .ok (.aload_n 0, 1) := by decide +kernel
theorem dX8_price_21 : decode cX8_price 21 = .ok (.iload_n 2, 1) := by decide +kernel
theorem dX8_price_22 : decode cX8_price 22 = .ok (.invokevirtual 165, 3) := by decide +kernel
theorem dX8_price_25 : decode cX8_price 25 = .ok (.iconst 1, 1) := by decide +kernel
theorem dX8_price_26 : decode cX8_price 26 = .ok (.iadd, 1) := by decide +kernel
theorem dX8_price_27 : decode cX8_price 27 = .ok (.istore_n 3, 1) := by decide +kernel
theorem dX8_price_28 : decode cX8_price 28 = .ok (.iconst 0, 1) := by decide +kernel
theorem dX8_price_29 : decode cX8_price 29 = .ok (.istore 4, 2) := by decide +kernel
theorem dX8_price_31 : decode cX8_price 31 = .ok (.iconst 0, 1) := by decide +kernel
theorem dX8_price_32 : decode cX8_price 32 = .ok (.istore 5, 2) := by decide +kernel
theorem dX8_price_34 : decode cX8_price 34 = .ok (.iconst 0, 1) := by decide +kernel
theorem dX8_price_35 : decode cX8_price 35 = .ok (.istore 6, 2) := by decide +kernel
theorem dX8_price_37 : decode cX8_price 37 = .ok (.iload 6, 2) := by decide +kernel
theorem dX8_price_39 : decode cX8_price 39 = .ok (.iconst 2, 1) := by decide +kernel
theorem dX8_price_40 : decode cX8_price 40 = .ok (.if_icmp .ge 75, 3) := by decide +kernel
theorem dX8_price_43 : decode cX8_price 43 = .ok (.iload 5, 2) := by decide +kernel
theorem dX8_price_45 : decode cX8_price 45 = .ok (.aload_n 0, 1) := by decide +kernel
theorem dX8_price_46 : decode cX8_price 46 = .ok (.getfield 16, 3) := by decide +kernel
theorem dX8_price_49 : decode cX8_price 49 = .ok (.iload 6, 2) := by decide +kernel
theorem dX8_price_51 : decode cX8_price 51 = .ok (.iaload, 1) := by decide +kernel
theorem dX8_price_52 : decode cX8_price 52 = .ok (.ifCond .le 7, 3) := by decide +kernel
theorem dX8_price_55 : decode cX8_price 55 = .ok (.iconst 1, 1) := by decide +kernel
theorem dX8_price_56 : decode cX8_price 56 = .ok (.goto 4, 3) := by decide +kernel
theorem dX8_price_59 : decode cX8_price 59 = .ok (.iconst 0, 1) := by decide +kernel
theorem dX8_price_60 : decode cX8_price 60 = .ok (.iadd, 1) := by decide +kernel
theorem dX8_price_61 : decode cX8_price 61 = .ok (.istore 5, 2) := by decide +kernel
theorem dX8_price_63 : decode cX8_price 63 = .ok (.iconst 0, 1) := by decide +kernel
theorem dX8_price_64 : decode cX8_price 64 = .ok (.istore 7, 2) := by decide +kernel
theorem dX8_price_66 : decode cX8_price 66 = .ok (.iload 7, 2) := by decide +kernel
theorem dX8_price_68 : decode cX8_price 68 = .ok (.aload_n 0, 1) := by decide +kernel
theorem dX8_price_69 : decode cX8_price 69 = .ok (.getfield 16, 3) := by decide +kernel
theorem dX8_price_72 : decode cX8_price 72 = .ok (.iload 6, 2) := by decide +kernel
theorem dX8_price_74 : decode cX8_price 74 = .ok (.iaload, 1) := by decide +kernel
theorem dX8_price_75 : decode cX8_price 75 = .ok (.if_icmp .ge 34, 3) := by decide +kernel
theorem dX8_price_78 : decode cX8_price 78 = .ok (.iload 4, 2) := by decide +kernel
theorem dX8_price_80 : decode cX8_price 80 = .ok (.aload_n 0, 1) := by decide +kernel
theorem dX8_price_81 : decode cX8_price 81 = .ok (.getfield 19, 3) := by decide +kernel
theorem dX8_price_84 : decode cX8_price 84 = .ok (.iconst 4, 1) := by decide +kernel
theorem dX8_price_85 : decode cX8_price 85 = .ok (.iload 6, 2) := by decide +kernel
theorem dX8_price_87 : decode cX8_price 87 = .ok (.imul, 1) := by decide +kernel
theorem dX8_price_88 : decode cX8_price 88 = .ok (.iload 7, 2) := by decide +kernel
theorem dX8_price_90 : decode cX8_price 90 = .ok (.iadd, 1) := by decide +kernel
theorem dX8_price_91 : decode cX8_price 91 = .ok (.iaload, 1) := by decide +kernel
theorem dX8_price_92 : decode cX8_price 92 = .ok (.aload_n 0, 1) := by decide +kernel
theorem dX8_price_93 : decode cX8_price 93 = .ok (.iload_n 2, 1) := by decide +kernel
theorem dX8_price_94 : decode cX8_price 94 = .ok (.invokevirtual 165, 3) := by decide +kernel
theorem dX8_price_97 : decode cX8_price 97 = .ok (.ishr, 1) := by decide +kernel
theorem dX8_price_98 : decode cX8_price 98 = .ok (.iconst 1, 1) := by decide +kernel
theorem dX8_price_99 : decode cX8_price 99 = .ok (.iand, 1) := by decide +kernel
theorem dX8_price_100 : decode cX8_price 100 = .ok (.iadd, 1) := by decide +kernel
theorem dX8_price_101 : decode cX8_price 101 = .ok (.istore 4, 2) := by decide +kernel
theorem dX8_price_103 : decode cX8_price 103 = .ok (.iinc 7 1, 3) := by decide +kernel
theorem dX8_price_106 : decode cX8_price 106 = .ok (.goto (-40), 3) := by decide +kernel
theorem dX8_price_109 : decode cX8_price 109 = .ok (.iinc 6 1, 3) := by decide +kernel
theorem dX8_price_112 : decode cX8_price 112 = .ok (.goto (-75), 3) := by decide +kernel
theorem dX8_price_115 : decode cX8_price 115 = .ok (.iload_n 1, 1) := by decide +kernel
theorem dX8_price_116 : decode cX8_price 116 = .ok (.tableswitch 167 0 5 #[40, 52, 69, 85, 112, 147], 40) := by decide +kernel
theorem dX8_price_156 : decode cX8_price 156 = .ok (.aload_n 0, 1) := by decide +kernel
theorem dX8_price_157 : decode cX8_price 157 = .ok (.dup, 1) := by decide +kernel
theorem dX8_price_158 : decode cX8_price 158 = .ok (.getfield 287, 3) := by decide +kernel
theorem dX8_price_161 : decode cX8_price 161 = .ok (.lconst 1, 1) := by decide +kernel
theorem dX8_price_162 : decode cX8_price 162 = .ok (.ladd, 1) := by decide +kernel
theorem dX8_price_163 : decode cX8_price 163 = .ok (.putfield 287, 3) := by decide +kernel
theorem dX8_price_166 : decode cX8_price 166 = .ok (.iload_n 3, 1) := by decide +kernel
theorem dX8_price_167 : decode cX8_price 167 = .ok (.ireturn, 1) := by decide +kernel
theorem dX8_price_168 : decode cX8_price 168 = .ok (.aload_n 0, 1) := by decide +kernel
theorem dX8_price_169 : decode cX8_price 169 = .ok (.dup, 1) := by decide +kernel
theorem dX8_price_170 : decode cX8_price 170 = .ok (.getfield 287, 3) := by decide +kernel
theorem dX8_price_173 : decode cX8_price 173 = .ok (.ldc2_w 291, 3) := by decide +kernel
theorem dX8_price_176 : decode cX8_price 176 = .ok (.ladd, 1) := by decide +kernel
theorem dX8_price_177 : decode cX8_price 177 = .ok (.putfield 287, 3) := by decide +kernel
theorem dX8_price_180 : decode cX8_price 180 = .ok (.iload_n 3, 1) := by decide +kernel
theorem dX8_price_181 : decode cX8_price 181 = .ok (.iload 4, 2) := by decide +kernel
theorem dX8_price_183 : decode cX8_price 183 = .ok (.iadd, 1) := by decide +kernel
theorem dX8_price_184 : decode cX8_price 184 = .ok (.ireturn, 1) := by decide +kernel
theorem dX8_price_185 : decode cX8_price 185 = .ok (.aload_n 0, 1) := by decide +kernel
theorem dX8_price_186 : decode cX8_price 186 = .ok (.dup, 1) := by decide +kernel
theorem dX8_price_187 : decode cX8_price 187 = .ok (.getfield 287, 3) := by decide +kernel
theorem dX8_price_190 : decode cX8_price 190 = .ok (.ldc2_w 293, 3) := by decide +kernel
theorem dX8_price_193 : decode cX8_price 193 = .ok (.ladd, 1) := by decide +kernel
theorem dX8_price_194 : decode cX8_price 194 = .ok (.putfield 287, 3) := by decide +kernel
theorem dX8_price_197 : decode cX8_price 197 = .ok (.iconst 3, 1) := by decide +kernel
theorem dX8_price_198 : decode cX8_price 198 = .ok (.iload_n 3, 1) := by decide +kernel
theorem dX8_price_199 : decode cX8_price 199 = .ok (.imul, 1) := by decide +kernel
theorem dX8_price_200 : decode cX8_price 200 = .ok (.ireturn, 1) := by decide +kernel
theorem dX8_price_201 : decode cX8_price 201 = .ok (.aload_n 0, 1) := by decide +kernel
theorem dX8_price_202 : decode cX8_price 202 = .ok (.dup, 1) := by decide +kernel
theorem dX8_price_203 : decode cX8_price 203 = .ok (.getfield 287, 3) := by decide +kernel
theorem dX8_price_206 : decode cX8_price 206 = .ok (.ldc2_w 295, 3) := by decide +kernel
theorem dX8_price_209 : decode cX8_price 209 = .ok (.ladd, 1) := by decide +kernel
theorem dX8_price_210 : decode cX8_price 210 = .ok (.putfield 287, 3) := by decide +kernel
theorem dX8_price_213 : decode cX8_price 213 = .ok (.iconst 3, 1) := by decide +kernel
theorem dX8_price_214 : decode cX8_price 214 = .ok (.iload_n 3, 1) := by decide +kernel
theorem dX8_price_215 : decode cX8_price 215 = .ok (.imul, 1) := by decide +kernel
theorem dX8_price_216 : decode cX8_price 216 = .ok (.aload_n 0, 1) := by decide +kernel
theorem dX8_price_217 : decode cX8_price 217 = .ok (.getfield 7, 3) := by decide +kernel
theorem dX8_price_220 : decode cX8_price 220 = .ok (.iconst 0, 1) := by decide +kernel
theorem dX8_price_221 : decode cX8_price 221 = .ok (.iaload, 1) := by decide +kernel
theorem dX8_price_222 : decode cX8_price 222 = .ok (.iadd, 1) := by decide +kernel
theorem dX8_price_223 : decode cX8_price 223 = .ok (.iconst 1, 1) := by decide +kernel
theorem dX8_price_224 : decode cX8_price 224 = .ok (.isub, 1) := by decide +kernel
theorem dX8_price_225 : decode cX8_price 225 = .ok (.iload_n 2, 1) := by decide +kernel
theorem dX8_price_226 : decode cX8_price 226 = .ok (.isub, 1) := by decide +kernel
theorem dX8_price_227 : decode cX8_price 227 = .ok (.ireturn, 1) := by decide +kernel
theorem dX8_price_228 : decode cX8_price 228 = .ok (.aload_n 0, 1) := by decide +kernel
theorem dX8_price_229 : decode cX8_price 229 = .ok (.dup, 1) := by decide +kernel
theorem dX8_price_230 : decode cX8_price 230 = .ok (.getfield 287, 3) := by decide +kernel
theorem dX8_price_233 : decode cX8_price 233 = .ok (.ldc2_w 297, 3) := by decide +kernel
theorem dX8_price_236 : decode cX8_price 236 = .ok (.ladd, 1) := by decide +kernel
theorem dX8_price_237 : decode cX8_price 237 = .ok (.putfield 287, 3) := by decide +kernel
theorem dX8_price_240 : decode cX8_price 240 = .ok (.iload_n 3, 1) := by decide +kernel
theorem dX8_price_241 : decode cX8_price 241 = .ok (.aload_n 0, 1) := by decide +kernel
theorem dX8_price_242 : decode cX8_price 242 = .ok (.getfield 41, 3) := by decide +kernel
theorem dX8_price_245 : decode cX8_price 245 = .ok (.iconst 0, 1) := by decide +kernel
theorem dX8_price_246 : decode cX8_price 246 = .ok (.laload, 1) := by decide +kernel
theorem dX8_price_247 : decode cX8_price 247 = .ok (.iload_n 2, 1) := by decide +kernel
theorem dX8_price_248 : decode cX8_price 248 = .ok (.lshr, 1) := by decide +kernel
theorem dX8_price_249 : decode cX8_price 249 = .ok (.lconst 1, 1) := by decide +kernel
theorem dX8_price_250 : decode cX8_price 250 = .ok (.land, 1) := by decide +kernel
theorem dX8_price_251 : decode cX8_price 251 = .ok (.lconst 1, 1) := by decide +kernel
theorem dX8_price_252 : decode cX8_price 252 = .ok (.lcmp, 1) := by decide +kernel
theorem dX8_price_253 : decode cX8_price 253 = .ok (.ifCond .ne 7, 3) := by decide +kernel
theorem dX8_price_256 : decode cX8_price 256 = .ok (.iconst 5, 1) := by decide +kernel
theorem dX8_price_257 : decode cX8_price 257 = .ok (.goto 4, 3) := by decide +kernel
theorem dX8_price_260 : decode cX8_price 260 = .ok (.iconst 0, 1) := by decide +kernel
theorem dX8_price_261 : decode cX8_price 261 = .ok (.iadd, 1) := by decide +kernel
theorem dX8_price_262 : decode cX8_price 262 = .ok (.ireturn, 1) := by decide +kernel
theorem dX8_price_263 : decode cX8_price 263 = .ok (.aload_n 0, 1) := by decide +kernel
theorem dX8_price_264 : decode cX8_price 264 = .ok (.dup, 1) := by decide +kernel
theorem dX8_price_265 : decode cX8_price 265 = .ok (.getfield 287, 3) := by decide +kernel
theorem dX8_price_268 : decode cX8_price 268 = .ok (.ldc2_w 299, 3) := by decide +kernel
theorem dX8_price_271 : decode cX8_price 271 = .ok (.ladd, 1) := by decide +kernel
theorem dX8_price_272 : decode cX8_price 272 = .ok (.putfield 287, 3) := by decide +kernel
theorem dX8_price_275 : decode cX8_price 275 = .ok (.iload_n 3, 1) := by decide +kernel
theorem dX8_price_276 : decode cX8_price 276 = .ok (.iload 4, 2) := by decide +kernel
theorem dX8_price_278 : decode cX8_price 278 = .ok (.iadd, 1) := by decide +kernel
theorem dX8_price_279 : decode cX8_price 279 = .ok (.iload 5, 2) := by decide +kernel
theorem dX8_price_281 : decode cX8_price 281 = .ok (.imul, 1) := by decide +kernel
theorem dX8_price_282 : decode cX8_price 282 = .ok (.ireturn, 1) := by decide +kernel
theorem dX8_price_283 : decode cX8_price 283 = .ok (.aload_n 0, 1) := by decide +kernel
theorem dX8_price_284 : decode cX8_price 284 = .ok (.dup, 1) := by decide +kernel
theorem dX8_price_285 : decode cX8_price 285 = .ok (.getfield 287, 3) := by decide +kernel
theorem dX8_price_288 : decode cX8_price 288 = .ok (.ldc2_w 301, 3) := by decide +kernel
theorem dX8_price_291 : decode cX8_price 291 = .ok (.ladd, 1) := by decide +kernel
theorem dX8_price_292 : decode cX8_price 292 = .ok (.putfield 287, 3) := by decide +kernel
theorem dX8_price_295 : decode cX8_price 295 = .ok (.iload_n 3, 1) := by decide +kernel
theorem dX8_price_296 : decode cX8_price 296 = .ok (.iconst 2, 1) := by decide +kernel
theorem dX8_price_297 : decode cX8_price 297 = .ok (.idiv, 1) := by decide +kernel
theorem dX8_price_298 : decode cX8_price 298 = .ok (.ireturn, 1) := by decide +kernel
theorem dX8_copy_0 : decode cX8_copy 0 = .ok (.iconst 0, 1) := by decide +kernel
theorem dX8_copy_1 : decode cX8_copy 1 = .ok (.istore_n 3, 1) := by decide +kernel
theorem dX8_copy_2 : decode cX8_copy 2 = .ok (.iload_n 3, 1) := by decide +kernel
theorem dX8_copy_3 : decode cX8_copy 3 = .ok (.bipush 40, 2) := by decide +kernel
theorem dX8_copy_5 : decode cX8_copy 5 = .ok (.if_icmp .ge 31, 3) := by decide +kernel
theorem dX8_copy_8 : decode cX8_copy 8 = .ok (.aload_n 0, 1) := by decide +kernel
theorem dX8_copy_9 : decode cX8_copy 9 = .ok (.getfield 38, 3) := by decide +kernel
theorem dX8_copy_12 : decode cX8_copy 12 = .ok (.bipush 40, 2) := by decide +kernel
theorem dX8_copy_14 : decode cX8_copy 14 = .ok (.iload_n 2, 1) := by decide +kernel
theorem dX8_copy_15 : decode cX8_copy 15 = .ok (.imul, 1) := by decide +kernel
theorem dX8_copy_16 : decode cX8_copy 16 = .ok (.iload_n 3, 1) := by decide +kernel
theorem dX8_copy_17 : decode cX8_copy 17 = .ok (.iadd, 1) := by decide +kernel
theorem dX8_copy_18 : decode cX8_copy 18 = .ok (.aload_n 0, 1) := by decide +kernel
theorem dX8_copy_19 : decode cX8_copy 19 = .ok (.getfield 38, 3) := by decide +kernel
theorem dX8_copy_22 : decode cX8_copy 22 = .ok (.bipush 40, 2) := by decide +kernel
theorem dX8_copy_24 : decode cX8_copy 24 = .ok (.iload_n 1, 1) := by decide +kernel
theorem dX8_copy_25 : decode cX8_copy 25 = .ok (.imul, 1) := by decide +kernel
theorem dX8_copy_26 : decode cX8_copy 26 = .ok (.iload_n 3, 1) := by decide +kernel
theorem dX8_copy_27 : decode cX8_copy 27 = .ok (.iadd, 1) := by decide +kernel
theorem dX8_copy_28 : decode cX8_copy 28 = .ok (.iaload, 1) := by decide +kernel
theorem dX8_copy_29 : decode cX8_copy 29 = .ok (.iastore, 1) := by decide +kernel
theorem dX8_copy_30 : decode cX8_copy 30 = .ok (.iinc 3 1, 3) := by decide +kernel
theorem dX8_copy_33 : decode cX8_copy 33 = .ok (.goto (-31), 3) := by decide +kernel
theorem dX8_copy_36 : decode cX8_copy 36 = .ok (.aload_n 0, 1) := by decide +kernel
theorem dX8_copy_37 : decode cX8_copy 37 = .ok (.getfield 41, 3) := by decide +kernel
theorem dX8_copy_40 : decode cX8_copy 40 = .ok (.iload_n 2, 1) := by decide +kernel
theorem dX8_copy_41 : decode cX8_copy 41 = .ok (.aload_n 0, 1) := by decide +kernel
theorem dX8_copy_42 : decode cX8_copy 42 = .ok (.getfield 41, 3) := by decide +kernel
theorem dX8_copy_45 : decode cX8_copy 45 = .ok (.iload_n 1, 1) := by decide +kernel
theorem dX8_copy_46 : decode cX8_copy 46 = .ok (.laload, 1) := by decide +kernel
theorem dX8_copy_47 : decode cX8_copy 47 = .ok (.lastore, 1) := by decide +kernel
theorem dX8_copy_48 : decode cX8_copy 48 = .ok (.return_, 1) := by decide +kernel
theorem dX8_keep_0 : decode cX8_keep 0 = .ok (.iload_n 1, 1) := by decide +kernel
theorem dX8_keep_1 : decode cX8_keep 1 = .ok (.iconst 0, 1) := by decide +kernel
theorem dX8_keep_2 : decode cX8_keep 2 = .ok (.iconst 1, 1) := by decide +kernel
theorem dX8_keep_3 : decode cX8_keep 3 = .ok (.invokestatic 106, 3) := by decide +kernel
theorem dX8_keep_6 : decode cX8_keep 6 = .ok (.ifCond .ne 5, 3) := by decide +kernel
theorem dX8_keep_9 : decode cX8_keep 9 = .ok (.iconst (-1), 1) := by decide +kernel
theorem dX8_keep_10 : decode cX8_keep 10 = .ok (.ireturn, 1) := by decide +kernel
theorem dX8_keep_11 : decode cX8_keep 11 = .ok (.aload_n 0, 1) := by decide +kernel
theorem dX8_keep_12 : decode cX8_keep 12 = .ok (.iconst 0, 1) := by decide +kernel
theorem dX8_keep_13 : decode cX8_keep 13 = .ok (.iconst 1, 1) := by decide +kernel
theorem dX8_keep_14 : decode cX8_keep 14 = .ok (.iload_n 1, 1) := by decide +kernel
theorem dX8_keep_15 : decode cX8_keep 15 = .ok (.iadd, 1) := by decide +kernel
theorem dX8_keep_16 : decode cX8_keep 16 = .ok (.invokevirtual 303, 3) := by decide +kernel
theorem dX8_keep_19 : decode cX8_keep 19 = .ok (.aload_n 0, 1) := by decide +kernel
theorem dX8_keep_20 : decode cX8_keep 20 = .ok (.getfield 45, 3) := by decide +kernel
theorem dX8_keep_23 : decode cX8_keep 23 = .ok (.iload_n 1, 1) := by decide +kernel
theorem dX8_keep_24 : decode cX8_keep 24 = .ok (.iconst 1, 1) := by decide +kernel
theorem dX8_keep_25 : decode cX8_keep 25 = .ok (.bastore, 1) := by decide +kernel
theorem dX8_keep_26 : decode cX8_keep 26 = .ok (.aload_n 0, 1) := by decide +kernel
theorem dX8_keep_27 : decode cX8_keep 27 = .ok (.getfield 49, 3) := by decide +kernel
theorem dX8_keep_30 : decode cX8_keep 30 = .ok (.iload_n 1, 1) := by decide +kernel
theorem dX8_keep_31 : decode cX8_keep 31 = .ok (.aload_n 0, 1) := by decide +kernel
theorem dX8_keep_32 : decode cX8_keep 32 = .ok (.getfield 158, 3) := by decide +kernel
theorem dX8_keep_35 : decode cX8_keep 35 = .ok (.iastore, 1) := by decide +kernel
theorem dX8_keep_36 : decode cX8_keep 36 = .ok (.aload_n 0, 1) := by decide +kernel
theorem dX8_keep_37 : decode cX8_keep 37 = .ok (.getfield 38, 3) := by decide +kernel
theorem dX8_keep_40 : decode cX8_keep 40 = .ok (.iconst 1, 1) := by decide +kernel
theorem dX8_keep_41 : decode cX8_keep 41 = .ok (.iaload, 1) := by decide +kernel
theorem dX8_keep_42 : decode cX8_keep 42 = .ok (.ireturn, 1) := by decide +kernel
theorem dX8_back_0 : decode cX8_back 0 = .ok (.iload_n 1, 1) := by decide +kernel
theorem dX8_back_1 : decode cX8_back 1 = .ok (.iconst 0, 1) := by decide +kernel
theorem dX8_back_2 : decode cX8_back 2 = .ok (.iconst 1, 1) := by decide +kernel
theorem dX8_back_3 : decode cX8_back 3 = .ok (.invokestatic 106, 3) := by decide +kernel
theorem dX8_back_6 : decode cX8_back 6 = .ok (.ifCond .ne 5, 3) := by decide +kernel
theorem dX8_back_9 : decode cX8_back 9 = .ok (.iconst (-1), 1) := by decide +kernel
theorem dX8_back_10 : decode cX8_back 10 = .ok (.ireturn, 1) := by decide +kernel
theorem dX8_back_11 : decode cX8_back 11 = .ok (.aload_n 0, 1) := by decide +kernel
theorem dX8_back_12 : decode cX8_back 12 = .ok (.getfield 45, 3) := by decide +kernel
theorem dX8_back_15 : decode cX8_back 15 = .ok (.iload_n 1, 1) := by decide +kernel
theorem dX8_back_16 : decode cX8_back 16 = .ok (.baload, 1) := by decide +kernel
theorem dX8_back_17 : decode cX8_back 17 = .ok (.ifCond .ne 6, 3) := by decide +kernel
theorem dX8_back_20 : decode cX8_back 20 = .ok (.bipush (-2), 2) := by decide +kernel
theorem dX8_back_22 : decode cX8_back 22 = .ok (.ireturn, 1) := by decide +kernel
theorem dX8_back_23 : decode cX8_back 23 = .ok (.aload_n 0, 1) := by decide +kernel
theorem dX8_back_24 : decode cX8_back 24 = .ok (.iconst 1, 1) := by decide +kernel
theorem dX8_back_25 : decode cX8_back 25 = .ok (.iload_n 1, 1) := by decide +kernel
theorem dX8_back_26 : decode cX8_back 26 = .ok (.iadd, 1) := by decide +kernel
theorem dX8_back_27 : decode cX8_back 27 = .ok (.iconst 0, 1) := by decide +kernel
theorem dX8_back_28 : decode cX8_back 28 = .ok (.invokevirtual 303, 3) := by decide +kernel
theorem dX8_back_31 : decode cX8_back 31 = .ok (.aload_n 0, 1) := by decide +kernel
theorem dX8_back_32 : decode cX8_back 32 = .ok (.getfield 49, 3) := by decide +kernel
theorem dX8_back_35 : decode cX8_back 35 = .ok (.iload_n 1, 1) := by decide +kernel
theorem dX8_back_36 : decode cX8_back 36 = .ok (.iaload, 1) := by decide +kernel
theorem dX8_back_37 : decode cX8_back 37 = .ok (.istore_n 2, 1) := by decide +kernel
theorem dX8_back_38 : decode cX8_back 38 = .ok (.iload_n 2, 1) := by decide +kernel
theorem dX8_back_39 : decode cX8_back 39 = .ok (.aload_n 0, 1) := by decide +kernel
theorem dX8_back_40 : decode cX8_back 40 = .ok (.getfield 158, 3) := by decide +kernel
theorem dX8_back_43 : decode cX8_back 43 = .ok (.if_icmp .ge 24, 3) := by decide +kernel
theorem dX8_back_46 : decode cX8_back 46 = .ok (.aload_n 0, 1) := by decide +kernel
theorem dX8_back_47 : decode cX8_back 47 = .ok (.getfield 38, 3) := by decide +kernel
theorem dX8_back_50 : decode cX8_back 50 = .ok (.bipush 20, 2) := by decide +kernel
theorem dX8_back_52 : decode cX8_back 52 = .ok (.iload_n 2, 1) := by decide +kernel
theorem dX8_back_53 : decode cX8_back 53 = .ok (.iadd, 1) := by decide +kernel
theorem dX8_back_54 : decode cX8_back 54 = .ok (.aload_n 0, 1) := by decide +kernel
theorem dX8_back_55 : decode cX8_back 55 = .ok (.getfield 55, 3) := by decide +kernel
theorem dX8_back_58 : decode cX8_back 58 = .ok (.iload_n 2, 1) := by decide +kernel
theorem dX8_back_59 : decode cX8_back 59 = .ok (.iaload, 1) := by decide +kernel
theorem dX8_back_60 : decode cX8_back 60 = .ok (.iastore, 1) := by decide +kernel
theorem dX8_back_61 : decode cX8_back 61 = .ok (.iinc 2 1, 3) := by decide +kernel
theorem dX8_back_64 : decode cX8_back 64 = .ok (.goto (-26), 3) := by decide +kernel
theorem dX8_back_67 : decode cX8_back 67 = .ok (.aload_n 0, 1) := by decide +kernel
theorem dX8_back_68 : decode cX8_back 68 = .ok (.getfield 38, 3) := by decide +kernel
theorem dX8_back_71 : decode cX8_back 71 = .ok (.iconst 1, 1) := by decide +kernel
theorem dX8_back_72 : decode cX8_back 72 = .ok (.iaload, 1) := by decide +kernel
theorem dX8_back_73 : decode cX8_back 73 = .ok (.ireturn, 1) := by decide +kernel
theorem dX8_count_0 : decode cX8_count 0 = .ok (.iconst 0, 1) := by decide +kernel
theorem dX8_count_1 : decode cX8_count 1 = .ok (.istore_n 2, 1) := by decide +kernel
theorem dX8_count_2 : decode cX8_count 2 = .ok (.iload_n 1, 1) := by decide +kernel
theorem dX8_count_3 : decode cX8_count 3 = .ok (.tableswitch 105 0 6 #[41, 48, 53, 58, 63, 69, 75], 41) := by decide +kernel
theorem dX8_count_44 : decode cX8_count 44 = .ok (.aload_n 0, 1) := by decide +kernel
theorem dX8_count_45 : decode cX8_count 45 = .ok (.getfield 7, 3) := by decide +kernel
theorem dX8_count_48 : decode cX8_count 48 = .ok (.iconst 0, 1) := by decide +kernel
theorem dX8_count_49 : decode cX8_count 49 = .ok (.iaload, 1) := by decide +kernel
theorem dX8_count_50 : decode cX8_count 50 = .ok (.ireturn, 1) := by decide +kernel
theorem dX8_count_51 : decode cX8_count 51 = .ok (.aload_n 0, 1) := by decide +kernel
theorem dX8_count_52 : decode cX8_count 52 = .ok (.getfield 158, 3) := by decide +kernel
theorem dX8_count_55 : decode cX8_count 55 = .ok (.ireturn, 1) := by decide +kernel
theorem dX8_count_56 : decode cX8_count 56 = .ok (.aload_n 0, 1) := by decide +kernel
theorem dX8_count_57 : decode cX8_count 57 = .ok (.getfield 275, 3) := by decide +kernel
theorem dX8_count_60 : decode cX8_count 60 = .ok (.ireturn, 1) := by decide +kernel
theorem dX8_count_61 : decode cX8_count 61 = .ok (.aload_n 0, 1) := by decide +kernel
theorem dX8_count_62 : decode cX8_count 62 = .ok (.getfield 110, 3) := by decide +kernel
theorem dX8_count_65 : decode cX8_count 65 = .ok (.ireturn, 1) := by decide +kernel
theorem dX8_count_66 : decode cX8_count 66 = .ok (.aload_n 0, 1) := by decide +kernel
theorem dX8_count_67 : decode cX8_count 67 = .ok (.iconst 1, 1) := by decide +kernel
theorem dX8_count_68 : decode cX8_count 68 = .ok (.invokevirtual 307, 3) := by decide +kernel
theorem dX8_count_71 : decode cX8_count 71 = .ok (.ireturn, 1) := by decide +kernel
theorem dX8_count_72 : decode cX8_count 72 = .ok (.aload_n 0, 1) := by decide +kernel
theorem dX8_count_73 : decode cX8_count 73 = .ok (.iconst 2, 1) := by decide +kernel
theorem dX8_count_74 : decode cX8_count 74 = .ok (.invokevirtual 307, 3) := by decide +kernel
theorem dX8_count_77 : decode cX8_count 77 = .ok (.ireturn, 1) := by decide +kernel
theorem dX8_count_78 : decode cX8_count 78 = .ok (.iconst 0, 1) := by decide +kernel
theorem dX8_count_79 : decode cX8_count 79 = .ok (.istore_n 3, 1) := by decide +kernel
theorem dX8_count_80 : decode cX8_count 80 = .ok (.iload_n 3, 1) := by decide +kernel
theorem dX8_count_81 : decode cX8_count 81 = .ok (.bipush 60, 2) := by decide +kernel
theorem dX8_count_83 : decode cX8_count 83 = .ok (.if_icmp .ge 23, 3) := by decide +kernel
theorem dX8_count_86 : decode cX8_count 86 = .ok (.iload_n 2, 1) := by decide +kernel
theorem dX8_count_87 : decode cX8_count 87 = .ok (.aload_n 0, 1) := by decide +kernel
theorem dX8_count_88 : decode cX8_count 88 = .ok (.getfield 41, 3) := by decide +kernel
theorem dX8_count_91 : decode cX8_count 91 = .ok (.iconst 0, 1) := by decide +kernel
theorem dX8_count_92 : decode cX8_count 92 = .ok (.laload, 1) := by decide +kernel
theorem dX8_count_93 : decode cX8_count 93 = .ok (.iload_n 3, 1) := by decide +kernel
theorem dX8_count_94 : decode cX8_count 94 = .ok (.lshr, 1) := by decide +kernel
theorem dX8_count_95 : decode cX8_count 95 = .ok (.lconst 1, 1) := by decide +kernel
theorem dX8_count_96 : decode cX8_count 96 = .ok (.land, 1) := by decide +kernel
theorem dX8_count_97 : decode cX8_count 97 = .ok (.l2i, 1) := by decide +kernel
theorem dX8_count_98 : decode cX8_count 98 = .ok (.iadd, 1) := by decide +kernel
theorem dX8_count_99 : decode cX8_count 99 = .ok (.istore_n 2, 1) := by decide +kernel
theorem dX8_count_100 : decode cX8_count 100 = .ok (.iinc 3 1, 3) := by decide +kernel
theorem dX8_count_103 : decode cX8_count 103 = .ok (.goto (-23), 3) := by decide +kernel
theorem dX8_count_106 : decode cX8_count 106 = .ok (.iload_n 2, 1) := by decide +kernel
theorem dX8_count_107 : decode cX8_count 107 = .ok (.ireturn, 1) := by decide +kernel
theorem dX8_count_108 : decode cX8_count 108 = .ok (.iconst (-1), 1) := by decide +kernel
theorem dX8_count_109 : decode cX8_count 109 = .ok (.ireturn, 1) := by decide +kernel
theorem dX8_trace_0 : decode cX8_trace 0 = .ok (.aload_n 0, 1) := by decide +kernel
theorem dX8_trace_1 : decode cX8_trace 1 = .ok (.getfield 287, 3) := by decide +kernel
theorem dX8_trace_4 : decode cX8_trace 4 = .ok (.lreturn, 1) := by decide +kernel
theorem dJ6_bitCount_0f7a4_0 : decode cJ6_bitCount_0f7a4 0 = .ok (.iload_n 0, 1) := by decide +kernel
theorem dJ6_bitCount_0f7a4_1 : decode cJ6_bitCount_0f7a4 1 = .ok (.iload_n 0, 1) := by decide +kernel
theorem dJ6_bitCount_0f7a4_2 : decode cJ6_bitCount_0f7a4 2 = .ok (.iconst 1, 1) := by decide +kernel
theorem dJ6_bitCount_0f7a4_3 : decode cJ6_bitCount_0f7a4 3 = .ok (.iushr, 1) := by decide +kernel
theorem dJ6_bitCount_0f7a4_4 : decode cJ6_bitCount_0f7a4 4 = .ok (.ldc_w 265, 3) := by decide +kernel
theorem dJ6_bitCount_0f7a4_7 : decode cJ6_bitCount_0f7a4 7 = .ok (.iand, 1) := by decide +kernel
theorem dJ6_bitCount_0f7a4_8 : decode cJ6_bitCount_0f7a4 8 = .ok (.isub, 1) := by decide +kernel
theorem dJ6_bitCount_0f7a4_9 : decode cJ6_bitCount_0f7a4 9 = .ok (.istore_n 0, 1) := by decide +kernel
theorem dJ6_bitCount_0f7a4_10 : decode cJ6_bitCount_0f7a4 10 = .ok (.iload_n 0, 1) := by decide +kernel
theorem dJ6_bitCount_0f7a4_11 : decode cJ6_bitCount_0f7a4 11 = .ok (.ldc_w 266, 3) := by decide +kernel
theorem dJ6_bitCount_0f7a4_14 : decode cJ6_bitCount_0f7a4 14 = .ok (.iand, 1) := by decide +kernel
theorem dJ6_bitCount_0f7a4_15 : decode cJ6_bitCount_0f7a4 15 = .ok (.iload_n 0, 1) := by decide +kernel
theorem dJ6_bitCount_0f7a4_16 : decode cJ6_bitCount_0f7a4 16 = .ok (.iconst 2, 1) := by decide +kernel
theorem dJ6_bitCount_0f7a4_17 : decode cJ6_bitCount_0f7a4 17 = .ok (.iushr, 1) := by decide +kernel
theorem dJ6_bitCount_0f7a4_18 : decode cJ6_bitCount_0f7a4 18 = .ok (.ldc_w 266, 3) := by decide +kernel
theorem dJ6_bitCount_0f7a4_21 : decode cJ6_bitCount_0f7a4 21 = .ok (.iand, 1) := by decide +kernel
theorem dJ6_bitCount_0f7a4_22 : decode cJ6_bitCount_0f7a4 22 = .ok (.iadd, 1) := by decide +kernel
theorem dJ6_bitCount_0f7a4_23 : decode cJ6_bitCount_0f7a4 23 = .ok (.istore_n 0, 1) := by decide +kernel
theorem dJ6_bitCount_0f7a4_24 : decode cJ6_bitCount_0f7a4 24 = .ok (.iload_n 0, 1) := by decide +kernel
theorem dJ6_bitCount_0f7a4_25 : decode cJ6_bitCount_0f7a4 25 = .ok (.iload_n 0, 1) := by decide +kernel
theorem dJ6_bitCount_0f7a4_26 : decode cJ6_bitCount_0f7a4 26 = .ok (.iconst 4, 1) := by decide +kernel
theorem dJ6_bitCount_0f7a4_27 : decode cJ6_bitCount_0f7a4 27 = .ok (.iushr, 1) := by decide +kernel
theorem dJ6_bitCount_0f7a4_28 : decode cJ6_bitCount_0f7a4 28 = .ok (.iadd, 1) := by decide +kernel
theorem dJ6_bitCount_0f7a4_29 : decode cJ6_bitCount_0f7a4 29 = .ok (.ldc_w 267, 3) := by decide +kernel
theorem dJ6_bitCount_0f7a4_32 : decode cJ6_bitCount_0f7a4 32 = .ok (.iand, 1) := by decide +kernel
theorem dJ6_bitCount_0f7a4_33 : decode cJ6_bitCount_0f7a4 33 = .ok (.istore_n 0, 1) := by decide +kernel
theorem dJ6_bitCount_0f7a4_34 : decode cJ6_bitCount_0f7a4 34 = .ok (.iload_n 0, 1) := by decide +kernel
theorem dJ6_bitCount_0f7a4_35 : decode cJ6_bitCount_0f7a4 35 = .ok (.iload_n 0, 1) := by decide +kernel
theorem dJ6_bitCount_0f7a4_36 : decode cJ6_bitCount_0f7a4 36 = .ok (.bipush 8, 2) := by decide +kernel
theorem dJ6_bitCount_0f7a4_38 : decode cJ6_bitCount_0f7a4 38 = .ok (.iushr, 1) := by decide +kernel
theorem dJ6_bitCount_0f7a4_39 : decode cJ6_bitCount_0f7a4 39 = .ok (.iadd, 1) := by decide +kernel
theorem dJ6_bitCount_0f7a4_40 : decode cJ6_bitCount_0f7a4 40 = .ok (.istore_n 0, 1) := by decide +kernel
theorem dJ6_bitCount_0f7a4_41 : decode cJ6_bitCount_0f7a4 41 = .ok (.iload_n 0, 1) := by decide +kernel
theorem dJ6_bitCount_0f7a4_42 : decode cJ6_bitCount_0f7a4 42 = .ok (.iload_n 0, 1) := by decide +kernel
theorem dJ6_bitCount_0f7a4_43 : decode cJ6_bitCount_0f7a4 43 = .ok (.bipush 16, 2) := by decide +kernel
theorem dJ6_bitCount_0f7a4_45 : decode cJ6_bitCount_0f7a4 45 = .ok (.iushr, 1) := by decide +kernel
theorem dJ6_bitCount_0f7a4_46 : decode cJ6_bitCount_0f7a4 46 = .ok (.iadd, 1) := by decide +kernel
theorem dJ6_bitCount_0f7a4_47 : decode cJ6_bitCount_0f7a4 47 = .ok (.istore_n 0, 1) := by decide +kernel
theorem dJ6_bitCount_0f7a4_48 : decode cJ6_bitCount_0f7a4 48 = .ok (.iload_n 0, 1) := by decide +kernel
theorem dJ6_bitCount_0f7a4_49 : decode cJ6_bitCount_0f7a4 49 = .ok (.bipush 63, 2) := by decide +kernel
theorem dJ6_bitCount_0f7a4_51 : decode cJ6_bitCount_0f7a4 51 = .ok (.iand, 1) := by decide +kernel
theorem dJ6_bitCount_0f7a4_52 : decode cJ6_bitCount_0f7a4 52 = .ok (.ireturn, 1) := by decide +kernel
theorem dJ13_bitCount_95d88_0 : decode cJ13_bitCount_95d88 0 = .ok (.lload_n 0, 1) := by decide +kernel
theorem dJ13_bitCount_95d88_1 : decode cJ13_bitCount_95d88 1 = .ok (.lload_n 0, 1) := by decide +kernel
theorem dJ13_bitCount_95d88_2 : decode cJ13_bitCount_95d88 2 = .ok (.iconst 1, 1) := by decide +kernel
theorem dJ13_bitCount_95d88_3 : decode cJ13_bitCount_95d88 3 = .ok (.lushr, 1) := by decide +kernel
theorem dJ13_bitCount_95d88_4 : decode cJ13_bitCount_95d88 4 = .ok (.ldc2_w 314, 3) := by decide +kernel
theorem dJ13_bitCount_95d88_7 : decode cJ13_bitCount_95d88 7 = .ok (.land, 1) := by decide +kernel
theorem dJ13_bitCount_95d88_8 : decode cJ13_bitCount_95d88 8 = .ok (.lsub, 1) := by decide +kernel
theorem dJ13_bitCount_95d88_9 : decode cJ13_bitCount_95d88 9 = .ok (.lstore_n 0, 1) := by decide +kernel
theorem dJ13_bitCount_95d88_10 : decode cJ13_bitCount_95d88 10 = .ok (.lload_n 0, 1) := by decide +kernel
theorem dJ13_bitCount_95d88_11 : decode cJ13_bitCount_95d88 11 = .ok (.ldc2_w 316, 3) := by decide +kernel
theorem dJ13_bitCount_95d88_14 : decode cJ13_bitCount_95d88 14 = .ok (.land, 1) := by decide +kernel
theorem dJ13_bitCount_95d88_15 : decode cJ13_bitCount_95d88 15 = .ok (.lload_n 0, 1) := by decide +kernel
theorem dJ13_bitCount_95d88_16 : decode cJ13_bitCount_95d88 16 = .ok (.iconst 2, 1) := by decide +kernel
theorem dJ13_bitCount_95d88_17 : decode cJ13_bitCount_95d88 17 = .ok (.lushr, 1) := by decide +kernel
theorem dJ13_bitCount_95d88_18 : decode cJ13_bitCount_95d88 18 = .ok (.ldc2_w 316, 3) := by decide +kernel
theorem dJ13_bitCount_95d88_21 : decode cJ13_bitCount_95d88 21 = .ok (.land, 1) := by decide +kernel
theorem dJ13_bitCount_95d88_22 : decode cJ13_bitCount_95d88 22 = .ok (.ladd, 1) := by decide +kernel
theorem dJ13_bitCount_95d88_23 : decode cJ13_bitCount_95d88 23 = .ok (.lstore_n 0, 1) := by decide +kernel
theorem dJ13_bitCount_95d88_24 : decode cJ13_bitCount_95d88 24 = .ok (.lload_n 0, 1) := by decide +kernel
theorem dJ13_bitCount_95d88_25 : decode cJ13_bitCount_95d88 25 = .ok (.lload_n 0, 1) := by decide +kernel
theorem dJ13_bitCount_95d88_26 : decode cJ13_bitCount_95d88 26 = .ok (.iconst 4, 1) := by decide +kernel
theorem dJ13_bitCount_95d88_27 : decode cJ13_bitCount_95d88 27 = .ok (.lushr, 1) := by decide +kernel
theorem dJ13_bitCount_95d88_28 : decode cJ13_bitCount_95d88 28 = .ok (.ladd, 1) := by decide +kernel
theorem dJ13_bitCount_95d88_29 : decode cJ13_bitCount_95d88 29 = .ok (.ldc2_w 318, 3) := by decide +kernel
theorem dJ13_bitCount_95d88_32 : decode cJ13_bitCount_95d88 32 = .ok (.land, 1) := by decide +kernel
theorem dJ13_bitCount_95d88_33 : decode cJ13_bitCount_95d88 33 = .ok (.lstore_n 0, 1) := by decide +kernel
theorem dJ13_bitCount_95d88_34 : decode cJ13_bitCount_95d88 34 = .ok (.lload_n 0, 1) := by decide +kernel
theorem dJ13_bitCount_95d88_35 : decode cJ13_bitCount_95d88 35 = .ok (.lload_n 0, 1) := by decide +kernel
theorem dJ13_bitCount_95d88_36 : decode cJ13_bitCount_95d88 36 = .ok (.bipush 8, 2) := by decide +kernel
theorem dJ13_bitCount_95d88_38 : decode cJ13_bitCount_95d88 38 = .ok (.lushr, 1) := by decide +kernel
theorem dJ13_bitCount_95d88_39 : decode cJ13_bitCount_95d88 39 = .ok (.ladd, 1) := by decide +kernel
theorem dJ13_bitCount_95d88_40 : decode cJ13_bitCount_95d88 40 = .ok (.lstore_n 0, 1) := by decide +kernel
theorem dJ13_bitCount_95d88_41 : decode cJ13_bitCount_95d88 41 = .ok (.lload_n 0, 1) := by decide +kernel
theorem dJ13_bitCount_95d88_42 : decode cJ13_bitCount_95d88 42 = .ok (.lload_n 0, 1) := by decide +kernel
theorem dJ13_bitCount_95d88_43 : decode cJ13_bitCount_95d88 43 = .ok (.bipush 16, 2) := by decide +kernel
theorem dJ13_bitCount_95d88_45 : decode cJ13_bitCount_95d88 45 = .ok (.lushr, 1) := by decide +kernel
theorem dJ13_bitCount_95d88_46 : decode cJ13_bitCount_95d88 46 = .ok (.ladd, 1) := by decide +kernel
theorem dJ13_bitCount_95d88_47 : decode cJ13_bitCount_95d88 47 = .ok (.lstore_n 0, 1) := by decide +kernel
theorem dJ13_bitCount_95d88_48 : decode cJ13_bitCount_95d88 48 = .ok (.lload_n 0, 1) := by decide +kernel
theorem dJ13_bitCount_95d88_49 : decode cJ13_bitCount_95d88 49 = .ok (.lload_n 0, 1) := by decide +kernel
theorem dJ13_bitCount_95d88_50 : decode cJ13_bitCount_95d88 50 = .ok (.bipush 32, 2) := by decide +kernel
theorem dJ13_bitCount_95d88_52 : decode cJ13_bitCount_95d88 52 = .ok (.lushr, 1) := by decide +kernel
theorem dJ13_bitCount_95d88_53 : decode cJ13_bitCount_95d88 53 = .ok (.ladd, 1) := by decide +kernel
theorem dJ13_bitCount_95d88_54 : decode cJ13_bitCount_95d88 54 = .ok (.lstore_n 0, 1) := by decide +kernel
theorem dJ13_bitCount_95d88_55 : decode cJ13_bitCount_95d88 55 = .ok (.lload_n 0, 1) := by decide +kernel
theorem dJ13_bitCount_95d88_56 : decode cJ13_bitCount_95d88 56 = .ok (.l2i, 1) := by decide +kernel
theorem dJ13_bitCount_95d88_57 : decode cJ13_bitCount_95d88 57 = .ok (.bipush 127, 2) := by decide +kernel
theorem dJ13_bitCount_95d88_59 : decode cJ13_bitCount_95d88 59 = .ok (.iand, 1) := by decide +kernel
theorem dJ13_bitCount_95d88_60 : decode cJ13_bitCount_95d88 60 = .ok (.ireturn, 1) := by decide +kernel
theorem dJ9_floorDiv_7cf53_0 : decode cJ9_floorDiv_7cf53 0 = .ok (.iload_n 0, 1) := by decide +kernel
theorem dJ9_floorDiv_7cf53_1 : decode cJ9_floorDiv_7cf53 1 = .ok (.iload_n 1, 1) := by decide +kernel
theorem dJ9_floorDiv_7cf53_2 : decode cJ9_floorDiv_7cf53 2 = .ok (.idiv, 1) := by decide +kernel
theorem dJ9_floorDiv_7cf53_3 : decode cJ9_floorDiv_7cf53 3 = .ok (.istore_n 2, 1) := by decide +kernel
theorem dJ9_floorDiv_7cf53_4 : decode cJ9_floorDiv_7cf53 4 = .ok (.iload_n 0, 1) := by decide +kernel
theorem dJ9_floorDiv_7cf53_5 : decode cJ9_floorDiv_7cf53 5 = .ok (.iload_n 1, 1) := by decide +kernel
theorem dJ9_floorDiv_7cf53_6 : decode cJ9_floorDiv_7cf53 6 = .ok (.ixor, 1) := by decide +kernel
theorem dJ9_floorDiv_7cf53_7 : decode cJ9_floorDiv_7cf53 7 = .ok (.ifCond .ge 14, 3) := by decide +kernel
theorem dJ9_floorDiv_7cf53_10 : decode cJ9_floorDiv_7cf53 10 = .ok (.iload_n 2, 1) := by decide +kernel
theorem dJ9_floorDiv_7cf53_11 : decode cJ9_floorDiv_7cf53 11 = .ok (.iload_n 1, 1) := by decide +kernel
theorem dJ9_floorDiv_7cf53_12 : decode cJ9_floorDiv_7cf53 12 = .ok (.imul, 1) := by decide +kernel
theorem dJ9_floorDiv_7cf53_13 : decode cJ9_floorDiv_7cf53 13 = .ok (.iload_n 0, 1) := by decide +kernel
theorem dJ9_floorDiv_7cf53_14 : decode cJ9_floorDiv_7cf53 14 = .ok (.if_icmp .eq 7, 3) := by decide +kernel
theorem dJ9_floorDiv_7cf53_17 : decode cJ9_floorDiv_7cf53 17 = .ok (.iload_n 2, 1) := by decide +kernel
theorem dJ9_floorDiv_7cf53_18 : decode cJ9_floorDiv_7cf53 18 = .ok (.iconst 1, 1) := by decide +kernel
theorem dJ9_floorDiv_7cf53_19 : decode cJ9_floorDiv_7cf53 19 = .ok (.isub, 1) := by decide +kernel
theorem dJ9_floorDiv_7cf53_20 : decode cJ9_floorDiv_7cf53 20 = .ok (.ireturn, 1) := by decide +kernel
theorem dJ9_floorDiv_7cf53_21 : decode cJ9_floorDiv_7cf53 21 = .ok (.iload_n 2, 1) := by decide +kernel
theorem dJ9_floorDiv_7cf53_22 : decode cJ9_floorDiv_7cf53 22 = .ok (.ireturn, 1) := by decide +kernel
theorem dJ9_max_7cf53_0 : decode cJ9_max_7cf53 0 = .ok (.iload_n 0, 1) := by decide +kernel
theorem dJ9_max_7cf53_1 : decode cJ9_max_7cf53 1 = .ok (.iload_n 1, 1) := by decide +kernel
theorem dJ9_max_7cf53_2 : decode cJ9_max_7cf53 2 = .ok (.if_icmp .lt 7, 3) := by decide +kernel
theorem dJ9_max_7cf53_5 : decode cJ9_max_7cf53 5 = .ok (.iload_n 0, 1) := by decide +kernel
theorem dJ9_max_7cf53_6 : decode cJ9_max_7cf53 6 = .ok (.goto 4, 3) := by decide +kernel
theorem dJ9_max_7cf53_9 : decode cJ9_max_7cf53 9 = .ok (.iload_n 1, 1) := by decide +kernel
theorem dJ9_max_7cf53_10 : decode cJ9_max_7cf53 10 = .ok (.ireturn, 1) := by decide +kernel
theorem dJ9_min_7cf53_0 : decode cJ9_min_7cf53 0 = .ok (.iload_n 0, 1) := by decide +kernel
theorem dJ9_min_7cf53_1 : decode cJ9_min_7cf53 1 = .ok (.iload_n 1, 1) := by decide +kernel
theorem dJ9_min_7cf53_2 : decode cJ9_min_7cf53 2 = .ok (.if_icmp .gt 7, 3) := by decide +kernel
theorem dJ9_min_7cf53_5 : decode cJ9_min_7cf53 5 = .ok (.iload_n 0, 1) := by decide +kernel
theorem dJ9_min_7cf53_6 : decode cJ9_min_7cf53 6 = .ok (.goto 4, 3) := by decide +kernel
theorem dJ9_min_7cf53_9 : decode cJ9_min_7cf53 9 = .ok (.iload_n 1, 1) := by decide +kernel
theorem dJ9_min_7cf53_10 : decode cJ9_min_7cf53 10 = .ok (.ireturn, 1) := by decide +kernel
theorem dJ0_length_8abf5_0 : decode cJ0_length_8abf5 0 = .ok (.aload_n 0, 1) := by decide +kernel
theorem dJ0_length_8abf5_1 : decode cJ0_length_8abf5 1 = .ok (.getfield 9, 3) := by decide +kernel
theorem dJ0_length_8abf5_4 : decode cJ0_length_8abf5 4 = .ok (.arraylength, 1) := by decide +kernel
theorem dJ0_length_8abf5_5 : decode cJ0_length_8abf5 5 = .ok (.aload_n 0, 1) := by decide +kernel
theorem dJ0_length_8abf5_6 : decode cJ0_length_8abf5 6 = .ok (.invokevirtual 335, 3) := by decide +kernel
theorem dJ0_length_8abf5_9 : decode cJ0_length_8abf5 9 = .ok (.ishr, 1) := by decide +kernel
theorem dJ0_length_8abf5_10 : decode cJ0_length_8abf5 10 = .ok (.ireturn, 1) := by decide +kernel
theorem dJ0_charAt_5068e_0 : decode cJ0_charAt_5068e 0 = .ok (.aload_n 0, 1) := by decide +kernel
theorem dJ0_charAt_5068e_1 : decode cJ0_charAt_5068e 1 = .ok (.invokevirtual 492, 3) := by decide +kernel
theorem dJ0_charAt_5068e_4 : decode cJ0_charAt_5068e 4 = .ok (.ifCond .eq 12, 3) := by decide +kernel
theorem dJ0_charAt_5068e_7 : decode cJ0_charAt_5068e 7 = .ok (.aload_n 0, 1) := by decide +kernel
theorem dJ0_charAt_5068e_8 : decode cJ0_charAt_5068e 8 = .ok (.getfield 9, 3) := by decide +kernel
theorem dJ0_charAt_5068e_11 : decode cJ0_charAt_5068e 11 = .ok (.iload_n 1, 1) := by decide +kernel
theorem dJ0_charAt_5068e_12 : decode cJ0_charAt_5068e 12 = .ok (.invokestatic 495, 3) := by decide +kernel
theorem dJ0_charAt_5068e_15 : decode cJ0_charAt_5068e 15 = .ok (.ireturn, 1) := by decide +kernel
theorem dJ0_charAt_5068e_16 : decode cJ0_charAt_5068e 16 = .ok (.aload_n 0, 1) := by decide +kernel
theorem dJ0_charAt_5068e_17 : decode cJ0_charAt_5068e 17 = .ok (.getfield 9, 3) := by decide +kernel
theorem dJ0_charAt_5068e_20 : decode cJ0_charAt_5068e 20 = .ok (.iload_n 1, 1) := by decide +kernel
theorem dJ0_charAt_5068e_21 : decode cJ0_charAt_5068e 21 = .ok (.invokestatic 498, 3) := by decide +kernel
theorem dJ0_charAt_5068e_24 : decode cJ0_charAt_5068e 24 = .ok (.ireturn, 1) := by decide +kernel
theorem dJ0_coder_7d493_0 : decode cJ0_coder_7d493 0 = .ok (.getstatic 38, 3) := by decide +kernel
theorem dJ0_coder_7d493_3 : decode cJ0_coder_7d493 3 = .ok (.ifCond .eq 10, 3) := by decide +kernel
theorem dJ0_coder_7d493_6 : decode cJ0_coder_7d493 6 = .ok (.aload_n 0, 1) := by decide +kernel
theorem dJ0_coder_7d493_7 : decode cJ0_coder_7d493 7 = .ok (.getfield 15, 3) := by decide +kernel
theorem dJ0_coder_7d493_10 : decode cJ0_coder_7d493 10 = .ok (.goto 4, 3) := by decide +kernel
theorem dJ0_coder_7d493_13 : decode cJ0_coder_7d493 13 = .ok (.iconst 1, 1) := by decide +kernel
theorem dJ0_coder_7d493_14 : decode cJ0_coder_7d493 14 = .ok (.ireturn, 1) := by decide +kernel
theorem dJ0_isLatin1_aae02_0 : decode cJ0_isLatin1_aae02 0 = .ok (.getstatic 38, 3) := by decide +kernel
theorem dJ0_isLatin1_aae02_3 : decode cJ0_isLatin1_aae02 3 = .ok (.ifCond .eq 14, 3) := by decide +kernel
theorem dJ0_isLatin1_aae02_6 : decode cJ0_isLatin1_aae02 6 = .ok (.aload_n 0, 1) := by decide +kernel
theorem dJ0_isLatin1_aae02_7 : decode cJ0_isLatin1_aae02 7 = .ok (.getfield 15, 3) := by decide +kernel
theorem dJ0_isLatin1_aae02_10 : decode cJ0_isLatin1_aae02 10 = .ok (.ifCond .ne 7, 3) := by decide +kernel
theorem dJ0_isLatin1_aae02_13 : decode cJ0_isLatin1_aae02 13 = .ok (.iconst 1, 1) := by decide +kernel
theorem dJ0_isLatin1_aae02_14 : decode cJ0_isLatin1_aae02 14 = .ok (.goto 4, 3) := by decide +kernel
theorem dJ0_isLatin1_aae02_17 : decode cJ0_isLatin1_aae02 17 = .ok (.iconst 0, 1) := by decide +kernel
theorem dJ0_isLatin1_aae02_18 : decode cJ0_isLatin1_aae02 18 = .ok (.ireturn, 1) := by decide +kernel
theorem dJ0_checkIndex_df160_0 : decode cJ0_checkIndex_df160 0 = .ok (.iload_n 0, 1) := by decide +kernel
theorem dJ0_checkIndex_df160_1 : decode cJ0_checkIndex_df160 1 = .ok (.iload_n 1, 1) := by decide +kernel
theorem dJ0_checkIndex_df160_2 : decode cJ0_checkIndex_df160 2 = .ok (.getstatic 1053, 3) := by decide +kernel
theorem dJ0_checkIndex_df160_5 : decode cJ0_checkIndex_df160 5 = .ok (.invokestatic 1059, 3) := by decide +kernel
theorem dJ0_checkIndex_df160_8 : decode cJ0_checkIndex_df160 8 = .ok (.pop, 1) := by decide +kernel
theorem dJ0_checkIndex_df160_9 : decode cJ0_checkIndex_df160 9 = .ok (.return_, 1) := by decide +kernel
theorem dJ1_charAt_3b067_0 : decode cJ1_charAt_3b067 0 = .ok (.iload_n 1, 1) := by decide +kernel
theorem dJ1_charAt_3b067_1 : decode cJ1_charAt_3b067 1 = .ok (.aload_n 0, 1) := by decide +kernel
theorem dJ1_charAt_3b067_2 : decode cJ1_charAt_3b067 2 = .ok (.arraylength, 1) := by decide +kernel
theorem dJ1_charAt_3b067_3 : decode cJ1_charAt_3b067 3 = .ok (.invokestatic 9, 3) := by decide +kernel
theorem dJ1_charAt_3b067_6 : decode cJ1_charAt_3b067 6 = .ok (.aload_n 0, 1) := by decide +kernel
theorem dJ1_charAt_3b067_7 : decode cJ1_charAt_3b067 7 = .ok (.iload_n 1, 1) := by decide +kernel
theorem dJ1_charAt_3b067_8 : decode cJ1_charAt_3b067 8 = .ok (.baload, 1) := by decide +kernel
theorem dJ1_charAt_3b067_9 : decode cJ1_charAt_3b067 9 = .ok (.sipush 255, 3) := by decide +kernel
theorem dJ1_charAt_3b067_12 : decode cJ1_charAt_3b067 12 = .ok (.iand, 1) := by decide +kernel
theorem dJ1_charAt_3b067_13 : decode cJ1_charAt_3b067 13 = .ok (.i2c, 1) := by decide +kernel
theorem dJ1_charAt_3b067_14 : decode cJ1_charAt_3b067 14 = .ok (.ireturn, 1) := by decide +kernel
theorem dJ2_getChar_3b067_0 : decode cJ2_getChar_3b067 0 = .ok (.getstatic 44, 3) := by decide +kernel
theorem dJ2_getChar_3b067_3 : decode cJ2_getChar_3b067 3 = .ok (.ifCond .ne 25, 3) := by decide +kernel
theorem dJ2_getChar_3b067_6 : decode cJ2_getChar_3b067 6 = .ok (.iload_n 1, 1) := by decide +kernel
theorem dJ2_getChar_3b067_7 : decode cJ2_getChar_3b067 7 = .ok (.ifCond .lt 11, 3) := by decide +kernel
theorem dJ2_getChar_3b067_10 : decode cJ2_getChar_3b067 10 = .ok (.iload_n 1, 1) := by decide +kernel
theorem dJ2_getChar_3b067_11 : decode cJ2_getChar_3b067 11 = .ok (.aload_n 0, 1) := by decide +kernel
theorem dJ2_getChar_3b067_12 : decode cJ2_getChar_3b067 12 = .ok (.invokestatic 48, 3) := by decide +kernel
theorem dJ2_getChar_3b067_15 : decode cJ2_getChar_3b067 15 = .ok (.if_icmp .lt 13, 3) := by decide +kernel
theorem dJ2_getChar_3b067_18 : decode cJ2_getChar_3b067 18 = .ok (.new 52, 3) := by decide +kernel
theorem dJ2_getChar_3b067_21 : decode cJ2_getChar_3b067 21 = .ok (.dup, 1) := by decide +kernel
theorem dJ2_getChar_3b067_22 : decode cJ2_getChar_3b067 22 = .ok (.ldc 54, 2) := by decide +kernel
theorem dJ2_getChar_3b067_24 : decode cJ2_getChar_3b067 24 = .ok (.invokespecial 56, 3) := by decide +kernel
theorem dJ2_getChar_3b067_27 : decode cJ2_getChar_3b067 27 = .ok (.athrow, 1) := by decide +kernel
theorem dJ2_getChar_3b067_28 : decode cJ2_getChar_3b067 28 = .ok (.iload_n 1, 1) := by decide +kernel
theorem dJ2_getChar_3b067_29 : decode cJ2_getChar_3b067 29 = .ok (.iconst 1, 1) := by decide +kernel
theorem dJ2_getChar_3b067_30 : decode cJ2_getChar_3b067 30 = .ok (.ishl, 1) := by decide +kernel
theorem dJ2_getChar_3b067_31 : decode cJ2_getChar_3b067 31 = .ok (.istore_n 1, 1) := by decide +kernel
theorem dJ2_getChar_3b067_32 : decode cJ2_getChar_3b067 32 = .ok (.aload_n 0, 1) := by decide +kernel
theorem dJ2_getChar_3b067_33 : decode cJ2_getChar_3b067 33 = .ok (.iload_n 1, 1) := by decide +kernel
theorem dJ2_getChar_3b067_34 : decode cJ2_getChar_3b067 34 = .ok (.iinc 1 1, 3) := by decide +kernel
theorem dJ2_getChar_3b067_37 : decode cJ2_getChar_3b067 37 = .ok (.baload, 1) := by decide +kernel
theorem dJ2_getChar_3b067_38 : decode cJ2_getChar_3b067 38 = .ok (.sipush 255, 3) := by decide +kernel
theorem dJ2_getChar_3b067_41 : decode cJ2_getChar_3b067 41 = .ok (.iand, 1) := by decide +kernel
theorem dJ2_getChar_3b067_42 : decode cJ2_getChar_3b067 42 = .ok (.getstatic 59, 3) := by decide +kernel
theorem dJ2_getChar_3b067_45 : decode cJ2_getChar_3b067 45 = .ok (.ishl, 1) := by decide +kernel
theorem dJ2_getChar_3b067_46 : decode cJ2_getChar_3b067 46 = .ok (.aload_n 0, 1) := by decide +kernel
theorem dJ2_getChar_3b067_47 : decode cJ2_getChar_3b067 47 = .ok (.iload_n 1, 1) := by decide +kernel
theorem dJ2_getChar_3b067_48 : decode cJ2_getChar_3b067 48 = .ok (.baload, 1) := by decide +kernel
theorem dJ2_getChar_3b067_49 : decode cJ2_getChar_3b067 49 = .ok (.sipush 255, 3) := by decide +kernel
theorem dJ2_getChar_3b067_52 : decode cJ2_getChar_3b067 52 = .ok (.iand, 1) := by decide +kernel
theorem dJ2_getChar_3b067_53 : decode cJ2_getChar_3b067 53 = .ok (.getstatic 63, 3) := by decide +kernel
theorem dJ2_getChar_3b067_56 : decode cJ2_getChar_3b067 56 = .ok (.ishl, 1) := by decide +kernel
theorem dJ2_getChar_3b067_57 : decode cJ2_getChar_3b067 57 = .ok (.ior, 1) := by decide +kernel
theorem dJ2_getChar_3b067_58 : decode cJ2_getChar_3b067 58 = .ok (.i2c, 1) := by decide +kernel
theorem dJ2_getChar_3b067_59 : decode cJ2_getChar_3b067 59 = .ok (.ireturn, 1) := by decide +kernel
theorem dJ2_length_9d52b_0 : decode cJ2_length_9d52b 0 = .ok (.aload_n 0, 1) := by decide +kernel
theorem dJ2_length_9d52b_1 : decode cJ2_length_9d52b 1 = .ok (.arraylength, 1) := by decide +kernel
theorem dJ2_length_9d52b_2 : decode cJ2_length_9d52b 2 = .ok (.iconst 1, 1) := by decide +kernel
theorem dJ2_length_9d52b_3 : decode cJ2_length_9d52b 3 = .ok (.ishr, 1) := by decide +kernel
theorem dJ2_length_9d52b_4 : decode cJ2_length_9d52b 4 = .ok (.ireturn, 1) := by decide +kernel
theorem dJ2_charAt_3b067_0 : decode cJ2_charAt_3b067 0 = .ok (.iload_n 1, 1) := by decide +kernel
theorem dJ2_charAt_3b067_1 : decode cJ2_charAt_3b067 1 = .ok (.aload_n 0, 1) := by decide +kernel
theorem dJ2_charAt_3b067_2 : decode cJ2_charAt_3b067 2 = .ok (.invokestatic 67, 3) := by decide +kernel
theorem dJ2_charAt_3b067_5 : decode cJ2_charAt_3b067 5 = .ok (.aload_n 0, 1) := by decide +kernel
theorem dJ2_charAt_3b067_6 : decode cJ2_charAt_3b067 6 = .ok (.iload_n 1, 1) := by decide +kernel
theorem dJ2_charAt_3b067_7 : decode cJ2_charAt_3b067 7 = .ok (.invokestatic 71, 3) := by decide +kernel
theorem dJ2_charAt_3b067_10 : decode cJ2_charAt_3b067 10 = .ok (.ireturn, 1) := by decide +kernel
theorem dJ2_checkIndex_2214a_0 : decode cJ2_checkIndex_2214a 0 = .ok (.iload_n 0, 1) := by decide +kernel
theorem dJ2_checkIndex_2214a_1 : decode cJ2_checkIndex_2214a 1 = .ok (.aload_n 1, 1) := by decide +kernel
theorem dJ2_checkIndex_2214a_2 : decode cJ2_checkIndex_2214a 2 = .ok (.invokestatic 48, 3) := by decide +kernel
theorem dJ2_checkIndex_2214a_5 : decode cJ2_checkIndex_2214a 5 = .ok (.invokestatic 414, 3) := by decide +kernel
theorem dJ2_checkIndex_2214a_8 : decode cJ2_checkIndex_2214a 8 = .ok (.return_, 1) := by decide +kernel
theorem dJ7_fill_53178_0 : decode cJ7_fill_53178 0 = .ok (.iconst 0, 1) := by decide +kernel
theorem dJ7_fill_53178_1 : decode cJ7_fill_53178 1 = .ok (.istore_n 2, 1) := by decide +kernel
theorem dJ7_fill_53178_2 : decode cJ7_fill_53178 2 = .ok (.aload_n 0, 1) := by decide +kernel
theorem dJ7_fill_53178_3 : decode cJ7_fill_53178 3 = .ok (.arraylength, 1) := by decide +kernel
theorem dJ7_fill_53178_4 : decode cJ7_fill_53178 4 = .ok (.istore_n 3, 1) := by decide +kernel
theorem dJ7_fill_53178_5 : decode cJ7_fill_53178 5 = .ok (.iload_n 2, 1) := by decide +kernel
theorem dJ7_fill_53178_6 : decode cJ7_fill_53178 6 = .ok (.iload_n 3, 1) := by decide +kernel
theorem dJ7_fill_53178_7 : decode cJ7_fill_53178 7 = .ok (.if_icmp .ge 13, 3) := by decide +kernel
theorem dJ7_fill_53178_10 : decode cJ7_fill_53178 10 = .ok (.aload_n 0, 1) := by decide +kernel
theorem dJ7_fill_53178_11 : decode cJ7_fill_53178 11 = .ok (.iload_n 2, 1) := by decide +kernel
theorem dJ7_fill_53178_12 : decode cJ7_fill_53178 12 = .ok (.iload_n 1, 1) := by decide +kernel
theorem dJ7_fill_53178_13 : decode cJ7_fill_53178 13 = .ok (.iastore, 1) := by decide +kernel
theorem dJ7_fill_53178_14 : decode cJ7_fill_53178 14 = .ok (.iinc 2 1, 3) := by decide +kernel
theorem dJ7_fill_53178_17 : decode cJ7_fill_53178 17 = .ok (.goto (-12), 3) := by decide +kernel
theorem dJ7_fill_53178_20 : decode cJ7_fill_53178 20 = .ok (.return_, 1) := by decide +kernel
theorem dJ3_checkIndex_8e157_0 : decode cJ3_checkIndex_8e157 0 = .ok (.iload_n 0, 1) := by decide +kernel
theorem dJ3_checkIndex_8e157_1 : decode cJ3_checkIndex_8e157 1 = .ok (.ifCond .lt 8, 3) := by decide +kernel
theorem dJ3_checkIndex_8e157_4 : decode cJ3_checkIndex_8e157 4 = .ok (.iload_n 0, 1) := by decide +kernel
theorem dJ3_checkIndex_8e157_5 : decode cJ3_checkIndex_8e157 5 = .ok (.iload_n 1, 1) := by decide +kernel
theorem dJ3_checkIndex_8e157_6 : decode cJ3_checkIndex_8e157 6 = .ok (.if_icmp .lt 10, 3) := by decide +kernel
theorem dJ3_checkIndex_8e157_9 : decode cJ3_checkIndex_8e157 9 = .ok (.aload_n 2, 1) := by decide +kernel
theorem dJ3_checkIndex_8e157_10 : decode cJ3_checkIndex_8e157 10 = .ok (.iload_n 0, 1) := by decide +kernel
theorem dJ3_checkIndex_8e157_11 : decode cJ3_checkIndex_8e157 11 = .ok (.iload_n 1, 1) := by decide +kernel
theorem dJ3_checkIndex_8e157_12 : decode cJ3_checkIndex_8e157 12 = .ok (.invokestatic 95, 3) := by decide +kernel
theorem dJ3_checkIndex_8e157_15 : decode cJ3_checkIndex_8e157 15 = .ok (.athrow, 1) := by decide +kernel
theorem dJ3_checkIndex_8e157_16 : decode cJ3_checkIndex_8e157 16 = .ok (.iload_n 0, 1) := by decide +kernel
theorem dJ3_checkIndex_8e157_17 : decode cJ3_checkIndex_8e157 17 = .ok (.ireturn, 1) := by decide +kernel
theorem dL_law_0 : decode cL_law 0 = .ok (.new 7, 3) := by decide +kernel
theorem dL_law_3 : decode cL_law 3 = .ok (.dup, 1) := by decide +kernel
theorem dL_law_4 : decode cL_law 4 = .ok (.invokespecial 9, 3) := by decide +kernel
theorem dL_law_7 : decode cL_law 7 = .ok (.astore_n 1, 1) := by decide +kernel
theorem dL_law_8 : decode cL_law 8 = .ok (.new 10, 3) := by decide +kernel
theorem dL_law_11 : decode cL_law 11 = .ok (.dup, 1) := by decide +kernel
theorem dL_law_12 : decode cL_law 12 = .ok (.invokespecial 12, 3) := by decide +kernel
theorem dL_law_15 : decode cL_law 15 = .ok (.astore_n 2, 1) := by decide +kernel
theorem dL_law_16 : decode cL_law 16 = .ok (.iconst 0, 1) := by decide +kernel
theorem dL_law_17 : decode cL_law 17 = .ok (.istore_n 3, 1) := by decide +kernel
theorem dL_law_18 : decode cL_law 18 = .ok (.iload_n 3, 1) := by decide +kernel
theorem dL_law_19 : decode cL_law 19 = .ok (.aload_n 0, 1) := by decide +kernel
theorem dL_law_20 : decode cL_law 20 = .ok (.arraylength, 1) := by decide +kernel
theorem dL_law_21 : decode cL_law 21 = .ok (.iconst 5, 1) := by decide +kernel
theorem dL_law_22 : decode cL_law 22 = .ok (.isub, 1) := by decide +kernel
theorem dL_law_23 : decode cL_law 23 = .ok (.if_icmp .gt 1054, 3) := by decide +kernel
theorem dL_law_26 : decode cL_law 26 = .ok (.aload_n 0, 1) := by decide +kernel
theorem dL_law_27 : decode cL_law 27 = .ok (.iload_n 3, 1) := by decide +kernel
theorem dL_law_28 : decode cL_law 28 = .ok (.iaload, 1) := by decide +kernel
theorem dL_law_29 : decode cL_law 29 = .ok (.bipush 31, 2) := by decide +kernel
theorem dL_law_31 : decode cL_law 31 = .ok (.iand, 1) := by decide +kernel
theorem dL_law_32 : decode cL_law 32 = .ok (.tableswitch 1039 0 28 #[132, 195, 208, 221, 244, 287, 330, 383, 416, 449, 492, 515, 548, 581, 604, 647, 680, 713, 726, 769, 792, 825, 848, 901, 924, 957, 980, 1003, 1026], 132) := by decide +kernel
theorem dL_law_164 : decode cL_law 164 = .ok (.aload_n 1, 1) := by decide +kernel
theorem dL_law_165 : decode cL_law 165 = .ok (.aload_n 0, 1) := by decide +kernel
theorem dL_law_166 : decode cL_law 166 = .ok (.iload_n 3, 1) := by decide +kernel
theorem dL_law_167 : decode cL_law 167 = .ok (.iconst 1, 1) := by decide +kernel
theorem dL_law_168 : decode cL_law 168 = .ok (.iadd, 1) := by decide +kernel
theorem dL_law_169 : decode cL_law 169 = .ok (.iaload, 1) := by decide +kernel
theorem dL_law_170 : decode cL_law 170 = .ok (.i2l, 1) := by decide +kernel
theorem dL_law_171 : decode cL_law 171 = .ok (.bipush 32, 2) := by decide +kernel
theorem dL_law_173 : decode cL_law 173 = .ok (.lshl, 1) := by decide +kernel
theorem dL_law_174 : decode cL_law 174 = .ok (.aload_n 0, 1) := by decide +kernel
theorem dL_law_175 : decode cL_law 175 = .ok (.iload_n 3, 1) := by decide +kernel
theorem dL_law_176 : decode cL_law 176 = .ok (.iconst 2, 1) := by decide +kernel
theorem dL_law_177 : decode cL_law 177 = .ok (.iadd, 1) := by decide +kernel
theorem dL_law_178 : decode cL_law 178 = .ok (.iaload, 1) := by decide +kernel
theorem dL_law_179 : decode cL_law 179 = .ok (.i2l, 1) := by decide +kernel
theorem dL_law_180 : decode cL_law 180 = .ok (.ldc2_w 13, 3) := by decide +kernel
theorem dL_law_183 : decode cL_law 183 = .ok (.land, 1) := by decide +kernel
theorem dL_law_184 : decode cL_law 184 = .ok (.lor, 1) := by decide +kernel
theorem dL_law_185 : decode cL_law 185 = .ok (.aload_n 0, 1) := by decide +kernel
theorem dL_law_186 : decode cL_law 186 = .ok (.iload_n 3, 1) := by decide +kernel
theorem dL_law_187 : decode cL_law 187 = .ok (.iconst 3, 1) := by decide +kernel
theorem dL_law_188 : decode cL_law 188 = .ok (.iadd, 1) := by decide +kernel
theorem dL_law_189 : decode cL_law 189 = .ok (.iaload, 1) := by decide +kernel
theorem dL_law_190 : decode cL_law 190 = .ok (.invokevirtual 15, 3) := by decide +kernel
theorem dL_law_193 : decode cL_law 193 = .ok (.pop, 1) := by decide +kernel
theorem dL_law_194 : decode cL_law 194 = .ok (.aload_n 2, 1) := by decide +kernel
theorem dL_law_195 : decode cL_law 195 = .ok (.aload_n 0, 1) := by decide +kernel
theorem dL_law_196 : decode cL_law 196 = .ok (.iload_n 3, 1) := by decide +kernel
theorem dL_law_197 : decode cL_law 197 = .ok (.iconst 1, 1) := by decide +kernel
theorem dL_law_198 : decode cL_law 198 = .ok (.iadd, 1) := by decide +kernel
theorem dL_law_199 : decode cL_law 199 = .ok (.iaload, 1) := by decide +kernel
theorem dL_law_200 : decode cL_law 200 = .ok (.i2l, 1) := by decide +kernel
theorem dL_law_201 : decode cL_law 201 = .ok (.bipush 32, 2) := by decide +kernel
theorem dL_law_203 : decode cL_law 203 = .ok (.lshl, 1) := by decide +kernel
theorem dL_law_204 : decode cL_law 204 = .ok (.aload_n 0, 1) := by decide +kernel
theorem dL_law_205 : decode cL_law 205 = .ok (.iload_n 3, 1) := by decide +kernel
theorem dL_law_206 : decode cL_law 206 = .ok (.iconst 2, 1) := by decide +kernel
theorem dL_law_207 : decode cL_law 207 = .ok (.iadd, 1) := by decide +kernel
theorem dL_law_208 : decode cL_law 208 = .ok (.iaload, 1) := by decide +kernel
theorem dL_law_209 : decode cL_law 209 = .ok (.i2l, 1) := by decide +kernel
theorem dL_law_210 : decode cL_law 210 = .ok (.ldc2_w 13, 3) := by decide +kernel
theorem dL_law_213 : decode cL_law 213 = .ok (.land, 1) := by decide +kernel
theorem dL_law_214 : decode cL_law 214 = .ok (.lor, 1) := by decide +kernel
theorem dL_law_215 : decode cL_law 215 = .ok (.aload_n 0, 1) := by decide +kernel
theorem dL_law_216 : decode cL_law 216 = .ok (.iload_n 3, 1) := by decide +kernel
theorem dL_law_217 : decode cL_law 217 = .ok (.iconst 3, 1) := by decide +kernel
theorem dL_law_218 : decode cL_law 218 = .ok (.iadd, 1) := by decide +kernel
theorem dL_law_219 : decode cL_law 219 = .ok (.iaload, 1) := by decide +kernel
theorem dL_law_220 : decode cL_law 220 = .ok (.invokevirtual 19, 3) := by decide +kernel
theorem dL_law_223 : decode cL_law 223 = .ok (.pop, 1) := by decide +kernel
theorem dL_law_224 : decode cL_law 224 = .ok (.goto 847, 3) := by decide +kernel
theorem dL_law_227 : decode cL_law 227 = .ok (.aload_n 1, 1) := by decide +kernel
theorem dL_law_228 : decode cL_law 228 = .ok (.invokevirtual 20, 3) := by decide +kernel
theorem dL_law_231 : decode cL_law 231 = .ok (.pop, 1) := by decide +kernel
theorem dL_law_232 : decode cL_law 232 = .ok (.aload_n 2, 1) := by decide +kernel
theorem dL_law_233 : decode cL_law 233 = .ok (.invokevirtual 24, 3) := by decide +kernel
theorem dL_law_236 : decode cL_law 236 = .ok (.pop, 1) := by decide +kernel
theorem dL_law_237 : decode cL_law 237 = .ok (.goto 834, 3) := by decide +kernel
theorem dL_law_240 : decode cL_law 240 = .ok (.aload_n 1, 1) := by decide +kernel
theorem dL_law_241 : decode cL_law 241 = .ok (.invokevirtual 25, 3) := by decide +kernel
theorem dL_law_244 : decode cL_law 244 = .ok (.pop, 1) := by decide +kernel
theorem dL_law_245 : decode cL_law 245 = .ok (.aload_n 2, 1) := by decide +kernel
theorem dL_law_246 : decode cL_law 246 = .ok (.invokevirtual 28, 3) := by decide +kernel
theorem dL_law_249 : decode cL_law 249 = .ok (.pop, 1) := by decide +kernel
theorem dL_law_250 : decode cL_law 250 = .ok (.goto 821, 3) := by decide +kernel
theorem dL_law_253 : decode cL_law 253 = .ok (.aload_n 1, 1) := by decide +kernel
theorem dL_law_254 : decode cL_law 254 = .ok (.aload_n 0, 1) := by decide +kernel
theorem dL_law_255 : decode cL_law 255 = .ok (.iload_n 3, 1) := by decide +kernel
theorem dL_law_256 : decode cL_law 256 = .ok (.iconst 1, 1) := by decide +kernel
theorem dL_law_257 : decode cL_law 257 = .ok (.iadd, 1) := by decide +kernel
theorem dL_law_258 : decode cL_law 258 = .ok (.iaload, 1) := by decide +kernel
theorem dL_law_259 : decode cL_law 259 = .ok (.invokevirtual 29, 3) := by decide +kernel
theorem dL_law_262 : decode cL_law 262 = .ok (.pop, 1) := by decide +kernel
theorem dL_law_263 : decode cL_law 263 = .ok (.aload_n 2, 1) := by decide +kernel
theorem dL_law_264 : decode cL_law 264 = .ok (.aload_n 0, 1) := by decide +kernel
theorem dL_law_265 : decode cL_law 265 = .ok (.iload_n 3, 1) := by decide +kernel
theorem dL_law_266 : decode cL_law 266 = .ok (.iconst 1, 1) := by decide +kernel
theorem dL_law_267 : decode cL_law 267 = .ok (.iadd, 1) := by decide +kernel
theorem dL_law_268 : decode cL_law 268 = .ok (.iaload, 1) := by decide +kernel
theorem dL_law_269 : decode cL_law 269 = .ok (.invokevirtual 33, 3) := by decide +kernel
theorem dL_law_272 : decode cL_law 272 = .ok (.pop, 1) := by decide +kernel
theorem dL_law_273 : decode cL_law 273 = .ok (.goto 798, 3) := by decide +kernel
theorem dL_law_276 : decode cL_law 276 = .ok (.aload_n 1, 1) := by decide +kernel
theorem dL_law_277 : decode cL_law 277 = .ok (.aload_n 0, 1) := by decide +kernel
theorem dL_law_278 : decode cL_law 278 = .ok (.iload_n 3, 1) := by decide +kernel
theorem dL_law_279 : decode cL_law 279 = .ok (.iconst 1, 1) := by decide +kernel
theorem dL_law_280 : decode cL_law 280 = .ok (.iadd, 1) := by decide +kernel
theorem dL_law_281 : decode cL_law 281 = .ok (.iaload, 1) := by decide +kernel
theorem dL_law_282 : decode cL_law 282 = .ok (.aload_n 0, 1) := by decide +kernel
theorem dL_law_283 : decode cL_law 283 = .ok (.iload_n 3, 1) := by decide +kernel
theorem dL_law_284 : decode cL_law 284 = .ok (.iconst 2, 1) := by decide +kernel
theorem dL_law_285 : decode cL_law 285 = .ok (.iadd, 1) := by decide +kernel
theorem dL_law_286 : decode cL_law 286 = .ok (.iaload, 1) := by decide +kernel
theorem dL_law_287 : decode cL_law 287 = .ok (.aload_n 0, 1) := by decide +kernel
theorem dL_law_288 : decode cL_law 288 = .ok (.iload_n 3, 1) := by decide +kernel
theorem dL_law_289 : decode cL_law 289 = .ok (.iconst 3, 1) := by decide +kernel
theorem dL_law_290 : decode cL_law 290 = .ok (.iadd, 1) := by decide +kernel
theorem dL_law_291 : decode cL_law 291 = .ok (.iaload, 1) := by decide +kernel
theorem dL_law_292 : decode cL_law 292 = .ok (.invokevirtual 34, 3) := by decide +kernel
theorem dL_law_295 : decode cL_law 295 = .ok (.pop, 1) := by decide +kernel
theorem dL_law_296 : decode cL_law 296 = .ok (.aload_n 2, 1) := by decide +kernel
theorem dL_law_297 : decode cL_law 297 = .ok (.aload_n 0, 1) := by decide +kernel
theorem dL_law_298 : decode cL_law 298 = .ok (.iload_n 3, 1) := by decide +kernel
theorem dL_law_299 : decode cL_law 299 = .ok (.iconst 1, 1) := by decide +kernel
theorem dL_law_300 : decode cL_law 300 = .ok (.iadd, 1) := by decide +kernel
theorem dL_law_301 : decode cL_law 301 = .ok (.iaload, 1) := by decide +kernel
theorem dL_law_302 : decode cL_law 302 = .ok (.aload_n 0, 1) := by decide +kernel
theorem dL_law_303 : decode cL_law 303 = .ok (.iload_n 3, 1) := by decide +kernel
theorem dL_law_304 : decode cL_law 304 = .ok (.iconst 2, 1) := by decide +kernel
theorem dL_law_305 : decode cL_law 305 = .ok (.iadd, 1) := by decide +kernel
theorem dL_law_306 : decode cL_law 306 = .ok (.iaload, 1) := by decide +kernel
theorem dL_law_307 : decode cL_law 307 = .ok (.aload_n 0, 1) := by decide +kernel
theorem dL_law_308 : decode cL_law 308 = .ok (.iload_n 3, 1) := by decide +kernel
theorem dL_law_309 : decode cL_law 309 = .ok (.iconst 3, 1) := by decide +kernel
theorem dL_law_310 : decode cL_law 310 = .ok (.iadd, 1) := by decide +kernel
theorem dL_law_311 : decode cL_law 311 = .ok (.iaload, 1) := by decide +kernel
theorem dL_law_312 : decode cL_law 312 = .ok (.invokevirtual 38, 3) := by decide +kernel
theorem dL_law_315 : decode cL_law 315 = .ok (.pop, 1) := by decide +kernel
theorem dL_law_316 : decode cL_law 316 = .ok (.goto 755, 3) := by decide +kernel
theorem dL_law_319 : decode cL_law 319 = .ok (.aload_n 1, 1) := by decide +kernel
theorem dL_law_320 : decode cL_law 320 = .ok (.aload_n 0, 1) := by decide +kernel
theorem dL_law_321 : decode cL_law 321 = .ok (.iload_n 3, 1) := by decide +kernel
theorem dL_law_322 : decode cL_law 322 = .ok (.iconst 1, 1) := by decide +kernel
theorem dL_law_323 : decode cL_law 323 = .ok (.iadd, 1) := by decide +kernel
theorem dL_law_324 : decode cL_law 324 = .ok (.iaload, 1) := by decide +kernel
theorem dL_law_325 : decode cL_law 325 = .ok (.aload_n 0, 1) := by decide +kernel
theorem dL_law_326 : decode cL_law 326 = .ok (.iload_n 3, 1) := by decide +kernel
theorem dL_law_327 : decode cL_law 327 = .ok (.iconst 2, 1) := by decide +kernel
theorem dL_law_328 : decode cL_law 328 = .ok (.iadd, 1) := by decide +kernel
theorem dL_law_329 : decode cL_law 329 = .ok (.iaload, 1) := by decide +kernel
theorem dL_law_330 : decode cL_law 330 = .ok (.aload_n 0, 1) := by decide +kernel
theorem dL_law_331 : decode cL_law 331 = .ok (.iload_n 3, 1) := by decide +kernel
theorem dL_law_332 : decode cL_law 332 = .ok (.iconst 3, 1) := by decide +kernel
theorem dL_law_333 : decode cL_law 333 = .ok (.iadd, 1) := by decide +kernel
theorem dL_law_334 : decode cL_law 334 = .ok (.iaload, 1) := by decide +kernel
theorem dL_law_335 : decode cL_law 335 = .ok (.invokevirtual 39, 3) := by decide +kernel
theorem dL_law_338 : decode cL_law 338 = .ok (.pop, 1) := by decide +kernel
theorem dL_law_339 : decode cL_law 339 = .ok (.aload_n 2, 1) := by decide +kernel
theorem dL_law_340 : decode cL_law 340 = .ok (.aload_n 0, 1) := by decide +kernel
theorem dL_law_341 : decode cL_law 341 = .ok (.iload_n 3, 1) := by decide +kernel
theorem dL_law_342 : decode cL_law 342 = .ok (.iconst 1, 1) := by decide +kernel
theorem dL_law_343 : decode cL_law 343 = .ok (.iadd, 1) := by decide +kernel
theorem dL_law_344 : decode cL_law 344 = .ok (.iaload, 1) := by decide +kernel
theorem dL_law_345 : decode cL_law 345 = .ok (.aload_n 0, 1) := by decide +kernel
theorem dL_law_346 : decode cL_law 346 = .ok (.iload_n 3, 1) := by decide +kernel
theorem dL_law_347 : decode cL_law 347 = .ok (.iconst 2, 1) := by decide +kernel
theorem dL_law_348 : decode cL_law 348 = .ok (.iadd, 1) := by decide +kernel
theorem dL_law_349 : decode cL_law 349 = .ok (.iaload, 1) := by decide +kernel
theorem dL_law_350 : decode cL_law 350 = .ok (.aload_n 0, 1) := by decide +kernel
theorem dL_law_351 : decode cL_law 351 = .ok (.iload_n 3, 1) := by decide +kernel
theorem dL_law_352 : decode cL_law 352 = .ok (.iconst 3, 1) := by decide +kernel
theorem dL_law_353 : decode cL_law 353 = .ok (.iadd, 1) := by decide +kernel
theorem dL_law_354 : decode cL_law 354 = .ok (.iaload, 1) := by decide +kernel
theorem dL_law_355 : decode cL_law 355 = .ok (.invokevirtual 42, 3) := by decide +kernel
theorem dL_law_358 : decode cL_law 358 = .ok (.pop, 1) := by decide +kernel
theorem dL_law_359 : decode cL_law 359 = .ok (.goto 712, 3) := by decide +kernel
theorem dL_law_362 : decode cL_law 362 = .ok (.aload_n 1, 1) := by decide +kernel
theorem dL_law_363 : decode cL_law 363 = .ok (.aload_n 0, 1) := by decide +kernel
theorem dL_law_364 : decode cL_law 364 = .ok (.iload_n 3, 1) := by decide +kernel
theorem dL_law_365 : decode cL_law 365 = .ok (.iconst 1, 1) := by decide +kernel
theorem dL_law_366 : decode cL_law 366 = .ok (.iadd, 1) := by decide +kernel
theorem dL_law_367 : decode cL_law 367 = .ok (.iaload, 1) := by decide +kernel
theorem dL_law_368 : decode cL_law 368 = .ok (.aload_n 0, 1) := by decide +kernel
theorem dL_law_369 : decode cL_law 369 = .ok (.iload_n 3, 1) := by decide +kernel
theorem dL_law_370 : decode cL_law 370 = .ok (.iconst 2, 1) := by decide +kernel
theorem dL_law_371 : decode cL_law 371 = .ok (.iadd, 1) := by decide +kernel
theorem dL_law_372 : decode cL_law 372 = .ok (.iaload, 1) := by decide +kernel
theorem dL_law_373 : decode cL_law 373 = .ok (.aload_n 0, 1) := by decide +kernel
theorem dL_law_374 : decode cL_law 374 = .ok (.iload_n 3, 1) := by decide +kernel
theorem dL_law_375 : decode cL_law 375 = .ok (.iconst 3, 1) := by decide +kernel
theorem dL_law_376 : decode cL_law 376 = .ok (.iadd, 1) := by decide +kernel
theorem dL_law_377 : decode cL_law 377 = .ok (.iaload, 1) := by decide +kernel
theorem dL_law_378 : decode cL_law 378 = .ok (.aload_n 0, 1) := by decide +kernel
theorem dL_law_379 : decode cL_law 379 = .ok (.iload_n 3, 1) := by decide +kernel
theorem dL_law_380 : decode cL_law 380 = .ok (.iconst 4, 1) := by decide +kernel
theorem dL_law_381 : decode cL_law 381 = .ok (.iadd, 1) := by decide +kernel
theorem dL_law_382 : decode cL_law 382 = .ok (.iaload, 1) := by decide +kernel
theorem dL_law_383 : decode cL_law 383 = .ok (.invokevirtual 43, 3) := by decide +kernel
theorem dL_law_386 : decode cL_law 386 = .ok (.pop, 1) := by decide +kernel
theorem dL_law_387 : decode cL_law 387 = .ok (.aload_n 2, 1) := by decide +kernel
theorem dL_law_388 : decode cL_law 388 = .ok (.aload_n 0, 1) := by decide +kernel
theorem dL_law_389 : decode cL_law 389 = .ok (.iload_n 3, 1) := by decide +kernel
theorem dL_law_390 : decode cL_law 390 = .ok (.iconst 1, 1) := by decide +kernel
theorem dL_law_391 : decode cL_law 391 = .ok (.iadd, 1) := by decide +kernel
theorem dL_law_392 : decode cL_law 392 = .ok (.iaload, 1) := by decide +kernel
theorem dL_law_393 : decode cL_law 393 = .ok (.aload_n 0, 1) := by decide +kernel
theorem dL_law_394 : decode cL_law 394 = .ok (.iload_n 3, 1) := by decide +kernel
theorem dL_law_395 : decode cL_law 395 = .ok (.iconst 2, 1) := by decide +kernel
theorem dL_law_396 : decode cL_law 396 = .ok (.iadd, 1) := by decide +kernel
theorem dL_law_397 : decode cL_law 397 = .ok (.iaload, 1) := by decide +kernel
theorem dL_law_398 : decode cL_law 398 = .ok (.aload_n 0, 1) := by decide +kernel
theorem dL_law_399 : decode cL_law 399 = .ok (.iload_n 3, 1) := by decide +kernel
theorem dL_law_400 : decode cL_law 400 = .ok (.iconst 3, 1) := by decide +kernel
theorem dL_law_401 : decode cL_law 401 = .ok (.iadd, 1) := by decide +kernel
theorem dL_law_402 : decode cL_law 402 = .ok (.iaload, 1) := by decide +kernel
theorem dL_law_403 : decode cL_law 403 = .ok (.aload_n 0, 1) := by decide +kernel
theorem dL_law_404 : decode cL_law 404 = .ok (.iload_n 3, 1) := by decide +kernel
theorem dL_law_405 : decode cL_law 405 = .ok (.iconst 4, 1) := by decide +kernel
theorem dL_law_406 : decode cL_law 406 = .ok (.iadd, 1) := by decide +kernel
theorem dL_law_407 : decode cL_law 407 = .ok (.iaload, 1) := by decide +kernel
theorem dL_law_408 : decode cL_law 408 = .ok (.invokevirtual 47, 3) := by decide +kernel
theorem dL_law_411 : decode cL_law 411 = .ok (.pop, 1) := by decide +kernel
theorem dL_law_412 : decode cL_law 412 = .ok (.goto 659, 3) := by decide +kernel
theorem dL_law_415 : decode cL_law 415 = .ok (.aload_n 1, 1) := by decide +kernel
theorem dL_law_416 : decode cL_law 416 = .ok (.aload_n 0, 1) := by decide +kernel
theorem dL_law_417 : decode cL_law 417 = .ok (.iload_n 3, 1) := by decide +kernel
theorem dL_law_418 : decode cL_law 418 = .ok (.iconst 1, 1) := by decide +kernel
theorem dL_law_419 : decode cL_law 419 = .ok (.iadd, 1) := by decide +kernel
theorem dL_law_420 : decode cL_law 420 = .ok (.iaload, 1) := by decide +kernel
theorem dL_law_421 : decode cL_law 421 = .ok (.aload_n 0, 1) := by decide +kernel
theorem dL_law_422 : decode cL_law 422 = .ok (.iload_n 3, 1) := by decide +kernel
theorem dL_law_423 : decode cL_law 423 = .ok (.iconst 2, 1) := by decide +kernel
theorem dL_law_424 : decode cL_law 424 = .ok (.iadd, 1) := by decide +kernel
theorem dL_law_425 : decode cL_law 425 = .ok (.iaload, 1) := by decide +kernel
theorem dL_law_426 : decode cL_law 426 = .ok (.invokevirtual 48, 3) := by decide +kernel
theorem dL_law_429 : decode cL_law 429 = .ok (.pop, 1) := by decide +kernel
theorem dL_law_430 : decode cL_law 430 = .ok (.aload_n 2, 1) := by decide +kernel
theorem dL_law_431 : decode cL_law 431 = .ok (.aload_n 0, 1) := by decide +kernel
theorem dL_law_432 : decode cL_law 432 = .ok (.iload_n 3, 1) := by decide +kernel
theorem dL_law_433 : decode cL_law 433 = .ok (.iconst 1, 1) := by decide +kernel
theorem dL_law_434 : decode cL_law 434 = .ok (.iadd, 1) := by decide +kernel
theorem dL_law_435 : decode cL_law 435 = .ok (.iaload, 1) := by decide +kernel
theorem dL_law_436 : decode cL_law 436 = .ok (.aload_n 0, 1) := by decide +kernel
theorem dL_law_437 : decode cL_law 437 = .ok (.iload_n 3, 1) := by decide +kernel
theorem dL_law_438 : decode cL_law 438 = .ok (.iconst 2, 1) := by decide +kernel
theorem dL_law_439 : decode cL_law 439 = .ok (.iadd, 1) := by decide +kernel
theorem dL_law_440 : decode cL_law 440 = .ok (.iaload, 1) := by decide +kernel
theorem dL_law_441 : decode cL_law 441 = .ok (.invokevirtual 52, 3) := by decide +kernel
theorem dL_law_444 : decode cL_law 444 = .ok (.pop, 1) := by decide +kernel
theorem dL_law_445 : decode cL_law 445 = .ok (.goto 626, 3) := by decide +kernel
theorem dL_law_448 : decode cL_law 448 = .ok (.aload_n 1, 1) := by decide +kernel
theorem dL_law_449 : decode cL_law 449 = .ok (.aload_n 0, 1) := by decide +kernel
theorem dL_law_450 : decode cL_law 450 = .ok (.iload_n 3, 1) := by decide +kernel
theorem dL_law_451 : decode cL_law 451 = .ok (.iconst 1, 1) := by decide +kernel
theorem dL_law_452 : decode cL_law 452 = .ok (.iadd, 1) := by decide +kernel
theorem dL_law_453 : decode cL_law 453 = .ok (.iaload, 1) := by decide +kernel
theorem dL_law_454 : decode cL_law 454 = .ok (.aload_n 0, 1) := by decide +kernel
theorem dL_law_455 : decode cL_law 455 = .ok (.iload_n 3, 1) := by decide +kernel
theorem dL_law_456 : decode cL_law 456 = .ok (.iconst 2, 1) := by decide +kernel
theorem dL_law_457 : decode cL_law 457 = .ok (.iadd, 1) := by decide +kernel
theorem dL_law_458 : decode cL_law 458 = .ok (.iaload, 1) := by decide +kernel
theorem dL_law_459 : decode cL_law 459 = .ok (.invokevirtual 53, 3) := by decide +kernel
theorem dL_law_462 : decode cL_law 462 = .ok (.pop, 1) := by decide +kernel
theorem dL_law_463 : decode cL_law 463 = .ok (.aload_n 2, 1) := by decide +kernel
theorem dL_law_464 : decode cL_law 464 = .ok (.aload_n 0, 1) := by decide +kernel
theorem dL_law_465 : decode cL_law 465 = .ok (.iload_n 3, 1) := by decide +kernel
theorem dL_law_466 : decode cL_law 466 = .ok (.iconst 1, 1) := by decide +kernel
theorem dL_law_467 : decode cL_law 467 = .ok (.iadd, 1) := by decide +kernel
theorem dL_law_468 : decode cL_law 468 = .ok (.iaload, 1) := by decide +kernel
theorem dL_law_469 : decode cL_law 469 = .ok (.aload_n 0, 1) := by decide +kernel
theorem dL_law_470 : decode cL_law 470 = .ok (.iload_n 3, 1) := by decide +kernel
theorem dL_law_471 : decode cL_law 471 = .ok (.iconst 2, 1) := by decide +kernel
theorem dL_law_472 : decode cL_law 472 = .ok (.iadd, 1) := by decide +kernel
theorem dL_law_473 : decode cL_law 473 = .ok (.iaload, 1) := by decide +kernel
theorem dL_law_474 : decode cL_law 474 = .ok (.invokevirtual 56, 3) := by decide +kernel
theorem dL_law_477 : decode cL_law 477 = .ok (.pop, 1) := by decide +kernel
theorem dL_law_478 : decode cL_law 478 = .ok (.goto 593, 3) := by decide +kernel
theorem dL_law_481 : decode cL_law 481 = .ok (.aload_n 1, 1) := by decide +kernel
theorem dL_law_482 : decode cL_law 482 = .ok (.aload_n 0, 1) := by decide +kernel
theorem dL_law_483 : decode cL_law 483 = .ok (.iload_n 3, 1) := by decide +kernel
theorem dL_law_484 : decode cL_law 484 = .ok (.iconst 1, 1) := by decide +kernel
theorem dL_law_485 : decode cL_law 485 = .ok (.iadd, 1) := by decide +kernel
theorem dL_law_486 : decode cL_law 486 = .ok (.iaload, 1) := by decide +kernel
theorem dL_law_487 : decode cL_law 487 = .ok (.aload_n 0, 1) := by decide +kernel
theorem dL_law_488 : decode cL_law 488 = .ok (.iload_n 3, 1) := by decide +kernel
theorem dL_law_489 : decode cL_law 489 = .ok (.iconst 2, 1) := by decide +kernel
theorem dL_law_490 : decode cL_law 490 = .ok (.iadd, 1) := by decide +kernel
theorem dL_law_491 : decode cL_law 491 = .ok (.iaload, 1) := by decide +kernel
theorem dL_law_492 : decode cL_law 492 = .ok (.aload_n 0, 1) := by decide +kernel
theorem dL_law_493 : decode cL_law 493 = .ok (.iload_n 3, 1) := by decide +kernel
theorem dL_law_494 : decode cL_law 494 = .ok (.iconst 3, 1) := by decide +kernel
theorem dL_law_495 : decode cL_law 495 = .ok (.iadd, 1) := by decide +kernel
theorem dL_law_496 : decode cL_law 496 = .ok (.iaload, 1) := by decide +kernel
theorem dL_law_497 : decode cL_law 497 = .ok (.invokevirtual 57, 3) := by decide +kernel
theorem dL_law_500 : decode cL_law 500 = .ok (.pop, 1) := by decide +kernel
theorem dL_law_501 : decode cL_law 501 = .ok (.aload_n 2, 1) := by decide +kernel
theorem dL_law_502 : decode cL_law 502 = .ok (.aload_n 0, 1) := by decide +kernel
theorem dL_law_503 : decode cL_law 503 = .ok (.iload_n 3, 1) := by decide +kernel
theorem dL_law_504 : decode cL_law 504 = .ok (.iconst 1, 1) := by decide +kernel
theorem dL_law_505 : decode cL_law 505 = .ok (.iadd, 1) := by decide +kernel
theorem dL_law_506 : decode cL_law 506 = .ok (.iaload, 1) := by decide +kernel
theorem dL_law_507 : decode cL_law 507 = .ok (.aload_n 0, 1) := by decide +kernel
theorem dL_law_508 : decode cL_law 508 = .ok (.iload_n 3, 1) := by decide +kernel
theorem dL_law_509 : decode cL_law 509 = .ok (.iconst 2, 1) := by decide +kernel
theorem dL_law_510 : decode cL_law 510 = .ok (.iadd, 1) := by decide +kernel
theorem dL_law_511 : decode cL_law 511 = .ok (.iaload, 1) := by decide +kernel
theorem dL_law_512 : decode cL_law 512 = .ok (.aload_n 0, 1) := by decide +kernel
theorem dL_law_513 : decode cL_law 513 = .ok (.iload_n 3, 1) := by decide +kernel
theorem dL_law_514 : decode cL_law 514 = .ok (.iconst 3, 1) := by decide +kernel
theorem dL_law_515 : decode cL_law 515 = .ok (.iadd, 1) := by decide +kernel
theorem dL_law_516 : decode cL_law 516 = .ok (.iaload, 1) := by decide +kernel
theorem dL_law_517 : decode cL_law 517 = .ok (.invokevirtual 60, 3) := by decide +kernel
theorem dL_law_520 : decode cL_law 520 = .ok (.pop, 1) := by decide +kernel
theorem dL_law_521 : decode cL_law 521 = .ok (.goto 550, 3) := by decide +kernel
theorem dL_law_524 : decode cL_law 524 = .ok (.aload_n 1, 1) := by decide +kernel
theorem dL_law_525 : decode cL_law 525 = .ok (.aload_n 0, 1) := by decide +kernel
theorem dL_law_526 : decode cL_law 526 = .ok (.iload_n 3, 1) := by decide +kernel
theorem dL_law_527 : decode cL_law 527 = .ok (.iconst 1, 1) := by decide +kernel
theorem dL_law_528 : decode cL_law 528 = .ok (.iadd, 1) := by decide +kernel
theorem dL_law_529 : decode cL_law 529 = .ok (.iaload, 1) := by decide +kernel
theorem dL_law_530 : decode cL_law 530 = .ok (.invokevirtual 61, 3) := by decide +kernel
theorem dL_law_533 : decode cL_law 533 = .ok (.pop, 1) := by decide +kernel
theorem dL_law_534 : decode cL_law 534 = .ok (.aload_n 2, 1) := by decide +kernel
theorem dL_law_535 : decode cL_law 535 = .ok (.aload_n 0, 1) := by decide +kernel
theorem dL_law_536 : decode cL_law 536 = .ok (.iload_n 3, 1) := by decide +kernel
theorem dL_law_537 : decode cL_law 537 = .ok (.iconst 1, 1) := by decide +kernel
theorem dL_law_538 : decode cL_law 538 = .ok (.iadd, 1) := by decide +kernel
theorem dL_law_539 : decode cL_law 539 = .ok (.iaload, 1) := by decide +kernel
theorem dL_law_540 : decode cL_law 540 = .ok (.invokevirtual 64, 3) := by decide +kernel
theorem dL_law_543 : decode cL_law 543 = .ok (.pop, 1) := by decide +kernel
theorem dL_law_544 : decode cL_law 544 = .ok (.goto 527, 3) := by decide +kernel
theorem dL_law_547 : decode cL_law 547 = .ok (.aload_n 1, 1) := by decide +kernel
theorem dL_law_548 : decode cL_law 548 = .ok (.aload_n 0, 1) := by decide +kernel
theorem dL_law_549 : decode cL_law 549 = .ok (.iload_n 3, 1) := by decide +kernel
theorem dL_law_550 : decode cL_law 550 = .ok (.iconst 1, 1) := by decide +kernel
theorem dL_law_551 : decode cL_law 551 = .ok (.iadd, 1) := by decide +kernel
theorem dL_law_552 : decode cL_law 552 = .ok (.iaload, 1) := by decide +kernel
theorem dL_law_553 : decode cL_law 553 = .ok (.aload_n 0, 1) := by decide +kernel
theorem dL_law_554 : decode cL_law 554 = .ok (.iload_n 3, 1) := by decide +kernel
theorem dL_law_555 : decode cL_law 555 = .ok (.iconst 2, 1) := by decide +kernel
theorem dL_law_556 : decode cL_law 556 = .ok (.iadd, 1) := by decide +kernel
theorem dL_law_557 : decode cL_law 557 = .ok (.iaload, 1) := by decide +kernel
theorem dL_law_558 : decode cL_law 558 = .ok (.invokevirtual 65, 3) := by decide +kernel
theorem dL_law_561 : decode cL_law 561 = .ok (.pop, 1) := by decide +kernel
theorem dL_law_562 : decode cL_law 562 = .ok (.aload_n 2, 1) := by decide +kernel
theorem dL_law_563 : decode cL_law 563 = .ok (.aload_n 0, 1) := by decide +kernel
theorem dL_law_564 : decode cL_law 564 = .ok (.iload_n 3, 1) := by decide +kernel
theorem dL_law_565 : decode cL_law 565 = .ok (.iconst 1, 1) := by decide +kernel
theorem dL_law_566 : decode cL_law 566 = .ok (.iadd, 1) := by decide +kernel
theorem dL_law_567 : decode cL_law 567 = .ok (.iaload, 1) := by decide +kernel
theorem dL_law_568 : decode cL_law 568 = .ok (.aload_n 0, 1) := by decide +kernel
theorem dL_law_569 : decode cL_law 569 = .ok (.iload_n 3, 1) := by decide +kernel
theorem dL_law_570 : decode cL_law 570 = .ok (.iconst 2, 1) := by decide +kernel
theorem dL_law_571 : decode cL_law 571 = .ok (.iadd, 1) := by decide +kernel
theorem dL_law_572 : decode cL_law 572 = .ok (.iaload, 1) := by decide +kernel
theorem dL_law_573 : decode cL_law 573 = .ok (.invokevirtual 68, 3) := by decide +kernel
theorem dL_law_576 : decode cL_law 576 = .ok (.pop, 1) := by decide +kernel
theorem dL_law_577 : decode cL_law 577 = .ok (.goto 494, 3) := by decide +kernel
theorem dL_law_580 : decode cL_law 580 = .ok (.aload_n 1, 1) := by decide +kernel
theorem dL_law_581 : decode cL_law 581 = .ok (.aload_n 0, 1) := by decide +kernel
theorem dL_law_582 : decode cL_law 582 = .ok (.iload_n 3, 1) := by decide +kernel
theorem dL_law_583 : decode cL_law 583 = .ok (.iconst 1, 1) := by decide +kernel
theorem dL_law_584 : decode cL_law 584 = .ok (.iadd, 1) := by decide +kernel
theorem dL_law_585 : decode cL_law 585 = .ok (.iaload, 1) := by decide +kernel
theorem dL_law_586 : decode cL_law 586 = .ok (.aload_n 0, 1) := by decide +kernel
theorem dL_law_587 : decode cL_law 587 = .ok (.iload_n 3, 1) := by decide +kernel
theorem dL_law_588 : decode cL_law 588 = .ok (.iconst 2, 1) := by decide +kernel
theorem dL_law_589 : decode cL_law 589 = .ok (.iadd, 1) := by decide +kernel
theorem dL_law_590 : decode cL_law 590 = .ok (.iaload, 1) := by decide +kernel
theorem dL_law_591 : decode cL_law 591 = .ok (.invokevirtual 69, 3) := by decide +kernel
theorem dL_law_594 : decode cL_law 594 = .ok (.pop, 1) := by decide +kernel
theorem dL_law_595 : decode cL_law 595 = .ok (.aload_n 2, 1) := by decide +kernel
theorem dL_law_596 : decode cL_law 596 = .ok (.aload_n 0, 1) := by decide +kernel
theorem dL_law_597 : decode cL_law 597 = .ok (.iload_n 3, 1) := by decide +kernel
theorem dL_law_598 : decode cL_law 598 = .ok (.iconst 1, 1) := by decide +kernel
theorem dL_law_599 : decode cL_law 599 = .ok (.iadd, 1) := by decide +kernel
theorem dL_law_600 : decode cL_law 600 = .ok (.iaload, 1) := by decide +kernel
theorem dL_law_601 : decode cL_law 601 = .ok (.aload_n 0, 1) := by decide +kernel
theorem dL_law_602 : decode cL_law 602 = .ok (.iload_n 3, 1) := by decide +kernel
theorem dL_law_603 : decode cL_law 603 = .ok (.iconst 2, 1) := by decide +kernel
theorem dL_law_604 : decode cL_law 604 = .ok (.iadd, 1) := by decide +kernel
theorem dL_law_605 : decode cL_law 605 = .ok (.iaload, 1) := by decide +kernel
theorem dL_law_606 : decode cL_law 606 = .ok (.invokevirtual 72, 3) := by decide +kernel
theorem dL_law_609 : decode cL_law 609 = .ok (.pop, 1) := by decide +kernel
theorem dL_law_610 : decode cL_law 610 = .ok (.goto 461, 3) := by decide +kernel
theorem dL_law_613 : decode cL_law 613 = .ok (.aload_n 1, 1) := by decide +kernel
theorem dL_law_614 : decode cL_law 614 = .ok (.aload_n 0, 1) := by decide +kernel
theorem dL_law_615 : decode cL_law 615 = .ok (.iload_n 3, 1) := by decide +kernel
theorem dL_law_616 : decode cL_law 616 = .ok (.iconst 1, 1) := by decide +kernel
theorem dL_law_617 : decode cL_law 617 = .ok (.iadd, 1) := by decide +kernel
theorem dL_law_618 : decode cL_law 618 = .ok (.iaload, 1) := by decide +kernel
theorem dL_law_619 : decode cL_law 619 = .ok (.invokevirtual 73, 3) := by decide +kernel
theorem dL_law_622 : decode cL_law 622 = .ok (.pop, 1) := by decide +kernel
theorem dL_law_623 : decode cL_law 623 = .ok (.aload_n 2, 1) := by decide +kernel
theorem dL_law_624 : decode cL_law 624 = .ok (.aload_n 0, 1) := by decide +kernel
theorem dL_law_625 : decode cL_law 625 = .ok (.iload_n 3, 1) := by decide +kernel
theorem dL_law_626 : decode cL_law 626 = .ok (.iconst 1, 1) := by decide +kernel
theorem dL_law_627 : decode cL_law 627 = .ok (.iadd, 1) := by decide +kernel
theorem dL_law_628 : decode cL_law 628 = .ok (.iaload, 1) := by decide +kernel
theorem dL_law_629 : decode cL_law 629 = .ok (.invokevirtual 76, 3) := by decide +kernel
theorem dL_law_632 : decode cL_law 632 = .ok (.pop, 1) := by decide +kernel
theorem dL_law_633 : decode cL_law 633 = .ok (.goto 438, 3) := by decide +kernel
theorem dL_law_636 : decode cL_law 636 = .ok (.aload_n 1, 1) := by decide +kernel
theorem dL_law_637 : decode cL_law 637 = .ok (.aload_n 0, 1) := by decide +kernel
theorem dL_law_638 : decode cL_law 638 = .ok (.iload_n 3, 1) := by decide +kernel
theorem dL_law_639 : decode cL_law 639 = .ok (.iconst 1, 1) := by decide +kernel
theorem dL_law_640 : decode cL_law 640 = .ok (.iadd, 1) := by decide +kernel
theorem dL_law_641 : decode cL_law 641 = .ok (.iaload, 1) := by decide +kernel
theorem dL_law_642 : decode cL_law 642 = .ok (.aload_n 0, 1) := by decide +kernel
theorem dL_law_643 : decode cL_law 643 = .ok (.iload_n 3, 1) := by decide +kernel
theorem dL_law_644 : decode cL_law 644 = .ok (.iconst 2, 1) := by decide +kernel
theorem dL_law_645 : decode cL_law 645 = .ok (.iadd, 1) := by decide +kernel
theorem dL_law_646 : decode cL_law 646 = .ok (.iaload, 1) := by decide +kernel
theorem dL_law_647 : decode cL_law 647 = .ok (.aload_n 0, 1) := by decide +kernel
theorem dL_law_648 : decode cL_law 648 = .ok (.iload_n 3, 1) := by decide +kernel
theorem dL_law_649 : decode cL_law 649 = .ok (.iconst 3, 1) := by decide +kernel
theorem dL_law_650 : decode cL_law 650 = .ok (.iadd, 1) := by decide +kernel
theorem dL_law_651 : decode cL_law 651 = .ok (.iaload, 1) := by decide +kernel
theorem dL_law_652 : decode cL_law 652 = .ok (.invokevirtual 77, 3) := by decide +kernel
theorem dL_law_655 : decode cL_law 655 = .ok (.pop, 1) := by decide +kernel
theorem dL_law_656 : decode cL_law 656 = .ok (.aload_n 2, 1) := by decide +kernel
theorem dL_law_657 : decode cL_law 657 = .ok (.aload_n 0, 1) := by decide +kernel
theorem dL_law_658 : decode cL_law 658 = .ok (.iload_n 3, 1) := by decide +kernel
theorem dL_law_659 : decode cL_law 659 = .ok (.iconst 1, 1) := by decide +kernel
theorem dL_law_660 : decode cL_law 660 = .ok (.iadd, 1) := by decide +kernel
theorem dL_law_661 : decode cL_law 661 = .ok (.iaload, 1) := by decide +kernel
theorem dL_law_662 : decode cL_law 662 = .ok (.aload_n 0, 1) := by decide +kernel
theorem dL_law_663 : decode cL_law 663 = .ok (.iload_n 3, 1) := by decide +kernel
theorem dL_law_664 : decode cL_law 664 = .ok (.iconst 2, 1) := by decide +kernel
theorem dL_law_665 : decode cL_law 665 = .ok (.iadd, 1) := by decide +kernel
theorem dL_law_666 : decode cL_law 666 = .ok (.iaload, 1) := by decide +kernel
theorem dL_law_667 : decode cL_law 667 = .ok (.aload_n 0, 1) := by decide +kernel
theorem dL_law_668 : decode cL_law 668 = .ok (.iload_n 3, 1) := by decide +kernel
theorem dL_law_669 : decode cL_law 669 = .ok (.iconst 3, 1) := by decide +kernel
theorem dL_law_670 : decode cL_law 670 = .ok (.iadd, 1) := by decide +kernel
theorem dL_law_671 : decode cL_law 671 = .ok (.iaload, 1) := by decide +kernel
theorem dL_law_672 : decode cL_law 672 = .ok (.invokevirtual 80, 3) := by decide +kernel
theorem dL_law_675 : decode cL_law 675 = .ok (.pop, 1) := by decide +kernel
theorem dL_law_676 : decode cL_law 676 = .ok (.goto 395, 3) := by decide +kernel
theorem dL_law_679 : decode cL_law 679 = .ok (.aload_n 1, 1) := by decide +kernel
theorem dL_law_680 : decode cL_law 680 = .ok (.aload_n 0, 1) := by decide +kernel
theorem dL_law_681 : decode cL_law 681 = .ok (.iload_n 3, 1) := by decide +kernel
theorem dL_law_682 : decode cL_law 682 = .ok (.iconst 1, 1) := by decide +kernel
theorem dL_law_683 : decode cL_law 683 = .ok (.iadd, 1) := by decide +kernel
theorem dL_law_684 : decode cL_law 684 = .ok (.iaload, 1) := by decide +kernel
theorem dL_law_685 : decode cL_law 685 = .ok (.aload_n 0, 1) := by decide +kernel
theorem dL_law_686 : decode cL_law 686 = .ok (.iload_n 3, 1) := by decide +kernel
theorem dL_law_687 : decode cL_law 687 = .ok (.iconst 2, 1) := by decide +kernel
theorem dL_law_688 : decode cL_law 688 = .ok (.iadd, 1) := by decide +kernel
theorem dL_law_689 : decode cL_law 689 = .ok (.iaload, 1) := by decide +kernel
theorem dL_law_690 : decode cL_law 690 = .ok (.invokevirtual 81, 3) := by decide +kernel
theorem dL_law_693 : decode cL_law 693 = .ok (.pop, 1) := by decide +kernel
theorem dL_law_694 : decode cL_law 694 = .ok (.aload_n 2, 1) := by decide +kernel
theorem dL_law_695 : decode cL_law 695 = .ok (.aload_n 0, 1) := by decide +kernel
theorem dL_law_696 : decode cL_law 696 = .ok (.iload_n 3, 1) := by decide +kernel
theorem dL_law_697 : decode cL_law 697 = .ok (.iconst 1, 1) := by decide +kernel
theorem dL_law_698 : decode cL_law 698 = .ok (.iadd, 1) := by decide +kernel
theorem dL_law_699 : decode cL_law 699 = .ok (.iaload, 1) := by decide +kernel
theorem dL_law_700 : decode cL_law 700 = .ok (.aload_n 0, 1) := by decide +kernel
theorem dL_law_701 : decode cL_law 701 = .ok (.iload_n 3, 1) := by decide +kernel
theorem dL_law_702 : decode cL_law 702 = .ok (.iconst 2, 1) := by decide +kernel
theorem dL_law_703 : decode cL_law 703 = .ok (.iadd, 1) := by decide +kernel
theorem dL_law_704 : decode cL_law 704 = .ok (.iaload, 1) := by decide +kernel
theorem dL_law_705 : decode cL_law 705 = .ok (.invokevirtual 84, 3) := by decide +kernel
theorem dL_law_708 : decode cL_law 708 = .ok (.pop, 1) := by decide +kernel
theorem dL_law_709 : decode cL_law 709 = .ok (.goto 362, 3) := by decide +kernel
theorem dL_law_712 : decode cL_law 712 = .ok (.aload_n 1, 1) := by decide +kernel
theorem dL_law_713 : decode cL_law 713 = .ok (.aload_n 0, 1) := by decide +kernel
theorem dL_law_714 : decode cL_law 714 = .ok (.iload_n 3, 1) := by decide +kernel
theorem dL_law_715 : decode cL_law 715 = .ok (.iconst 1, 1) := by decide +kernel
theorem dL_law_716 : decode cL_law 716 = .ok (.iadd, 1) := by decide +kernel
theorem dL_law_717 : decode cL_law 717 = .ok (.iaload, 1) := by decide +kernel
theorem dL_law_718 : decode cL_law 718 = .ok (.aload_n 0, 1) := by decide +kernel
theorem dL_law_719 : decode cL_law 719 = .ok (.iload_n 3, 1) := by decide +kernel
theorem dL_law_720 : decode cL_law 720 = .ok (.iconst 2, 1) := by decide +kernel
theorem dL_law_721 : decode cL_law 721 = .ok (.iadd, 1) := by decide +kernel
theorem dL_law_722 : decode cL_law 722 = .ok (.iaload, 1) := by decide +kernel
theorem dL_law_723 : decode cL_law 723 = .ok (.invokevirtual 85, 3) := by decide +kernel
theorem dL_law_726 : decode cL_law 726 = .ok (.pop, 1) := by decide +kernel
theorem dL_law_727 : decode cL_law 727 = .ok (.aload_n 2, 1) := by decide +kernel
theorem dL_law_728 : decode cL_law 728 = .ok (.aload_n 0, 1) := by decide +kernel
theorem dL_law_729 : decode cL_law 729 = .ok (.iload_n 3, 1) := by decide +kernel
theorem dL_law_730 : decode cL_law 730 = .ok (.iconst 1, 1) := by decide +kernel
theorem dL_law_731 : decode cL_law 731 = .ok (.iadd, 1) := by decide +kernel
theorem dL_law_732 : decode cL_law 732 = .ok (.iaload, 1) := by decide +kernel
theorem dL_law_733 : decode cL_law 733 = .ok (.aload_n 0, 1) := by decide +kernel
theorem dL_law_734 : decode cL_law 734 = .ok (.iload_n 3, 1) := by decide +kernel
theorem dL_law_735 : decode cL_law 735 = .ok (.iconst 2, 1) := by decide +kernel
theorem dL_law_736 : decode cL_law 736 = .ok (.iadd, 1) := by decide +kernel
theorem dL_law_737 : decode cL_law 737 = .ok (.iaload, 1) := by decide +kernel
theorem dL_law_738 : decode cL_law 738 = .ok (.invokevirtual 88, 3) := by decide +kernel
theorem dL_law_741 : decode cL_law 741 = .ok (.pop, 1) := by decide +kernel
theorem dL_law_742 : decode cL_law 742 = .ok (.goto 329, 3) := by decide +kernel
theorem dL_law_745 : decode cL_law 745 = .ok (.aload_n 1, 1) := by decide +kernel
theorem dL_law_746 : decode cL_law 746 = .ok (.invokevirtual 89, 3) := by decide +kernel
theorem dL_law_749 : decode cL_law 749 = .ok (.aload_n 2, 1) := by decide +kernel
theorem dL_law_750 : decode cL_law 750 = .ok (.invokevirtual 92, 3) := by decide +kernel
theorem dL_law_753 : decode cL_law 753 = .ok (.if_icmp .eq 318, 3) := by decide +kernel
theorem dL_law_756 : decode cL_law 756 = .ok (.iconst 0, 1) := by decide +kernel
theorem dL_law_757 : decode cL_law 757 = .ok (.ireturn, 1) := by decide +kernel
theorem dL_law_758 : decode cL_law 758 = .ok (.aload_n 1, 1) := by decide +kernel
theorem dL_law_759 : decode cL_law 759 = .ok (.aload_n 0, 1) := by decide +kernel
theorem dL_law_760 : decode cL_law 760 = .ok (.iload_n 3, 1) := by decide +kernel
theorem dL_law_761 : decode cL_law 761 = .ok (.iconst 1, 1) := by decide +kernel
theorem dL_law_762 : decode cL_law 762 = .ok (.iadd, 1) := by decide +kernel
theorem dL_law_763 : decode cL_law 763 = .ok (.iaload, 1) := by decide +kernel
theorem dL_law_764 : decode cL_law 764 = .ok (.aload_n 0, 1) := by decide +kernel
theorem dL_law_765 : decode cL_law 765 = .ok (.iload_n 3, 1) := by decide +kernel
theorem dL_law_766 : decode cL_law 766 = .ok (.iconst 2, 1) := by decide +kernel
theorem dL_law_767 : decode cL_law 767 = .ok (.iadd, 1) := by decide +kernel
theorem dL_law_768 : decode cL_law 768 = .ok (.iaload, 1) := by decide +kernel
theorem dL_law_769 : decode cL_law 769 = .ok (.aload_n 0, 1) := by decide +kernel
theorem dL_law_770 : decode cL_law 770 = .ok (.iload_n 3, 1) := by decide +kernel
theorem dL_law_771 : decode cL_law 771 = .ok (.iconst 3, 1) := by decide +kernel
theorem dL_law_772 : decode cL_law 772 = .ok (.iadd, 1) := by decide +kernel
theorem dL_law_773 : decode cL_law 773 = .ok (.iaload, 1) := by decide +kernel
theorem dL_law_774 : decode cL_law 774 = .ok (.invokevirtual 93, 3) := by decide +kernel
theorem dL_law_777 : decode cL_law 777 = .ok (.pop, 1) := by decide +kernel
theorem dL_law_778 : decode cL_law 778 = .ok (.aload_n 2, 1) := by decide +kernel
theorem dL_law_779 : decode cL_law 779 = .ok (.aload_n 0, 1) := by decide +kernel
theorem dL_law_780 : decode cL_law 780 = .ok (.iload_n 3, 1) := by decide +kernel
theorem dL_law_781 : decode cL_law 781 = .ok (.iconst 1, 1) := by decide +kernel
theorem dL_law_782 : decode cL_law 782 = .ok (.iadd, 1) := by decide +kernel
theorem dL_law_783 : decode cL_law 783 = .ok (.iaload, 1) := by decide +kernel
theorem dL_law_784 : decode cL_law 784 = .ok (.aload_n 0, 1) := by decide +kernel
theorem dL_law_785 : decode cL_law 785 = .ok (.iload_n 3, 1) := by decide +kernel
theorem dL_law_786 : decode cL_law 786 = .ok (.iconst 2, 1) := by decide +kernel
theorem dL_law_787 : decode cL_law 787 = .ok (.iadd, 1) := by decide +kernel
theorem dL_law_788 : decode cL_law 788 = .ok (.iaload, 1) := by decide +kernel
theorem dL_law_789 : decode cL_law 789 = .ok (.aload_n 0, 1) := by decide +kernel
theorem dL_law_790 : decode cL_law 790 = .ok (.iload_n 3, 1) := by decide +kernel
theorem dL_law_791 : decode cL_law 791 = .ok (.iconst 3, 1) := by decide +kernel
theorem dL_law_792 : decode cL_law 792 = .ok (.iadd, 1) := by decide +kernel
theorem dL_law_793 : decode cL_law 793 = .ok (.iaload, 1) := by decide +kernel
theorem dL_law_794 : decode cL_law 794 = .ok (.invokevirtual 96, 3) := by decide +kernel
theorem dL_law_797 : decode cL_law 797 = .ok (.pop, 1) := by decide +kernel
theorem dL_law_798 : decode cL_law 798 = .ok (.goto 273, 3) := by decide +kernel
theorem dL_law_801 : decode cL_law 801 = .ok (.aload_n 1, 1) := by decide +kernel
theorem dL_law_802 : decode cL_law 802 = .ok (.aload_n 0, 1) := by decide +kernel
theorem dL_law_803 : decode cL_law 803 = .ok (.iload_n 3, 1) := by decide +kernel
theorem dL_law_804 : decode cL_law 804 = .ok (.iconst 1, 1) := by decide +kernel
theorem dL_law_805 : decode cL_law 805 = .ok (.iadd, 1) := by decide +kernel
theorem dL_law_806 : decode cL_law 806 = .ok (.iaload, 1) := by decide +kernel
theorem dL_law_807 : decode cL_law 807 = .ok (.invokevirtual 97, 3) := by decide +kernel
theorem dL_law_810 : decode cL_law 810 = .ok (.pop, 1) := by decide +kernel
theorem dL_law_811 : decode cL_law 811 = .ok (.aload_n 2, 1) := by decide +kernel
theorem dL_law_812 : decode cL_law 812 = .ok (.aload_n 0, 1) := by decide +kernel
theorem dL_law_813 : decode cL_law 813 = .ok (.iload_n 3, 1) := by decide +kernel
theorem dL_law_814 : decode cL_law 814 = .ok (.iconst 1, 1) := by decide +kernel
theorem dL_law_815 : decode cL_law 815 = .ok (.iadd, 1) := by decide +kernel
theorem dL_law_816 : decode cL_law 816 = .ok (.iaload, 1) := by decide +kernel
theorem dL_law_817 : decode cL_law 817 = .ok (.invokevirtual 100, 3) := by decide +kernel
theorem dL_law_820 : decode cL_law 820 = .ok (.pop, 1) := by decide +kernel
theorem dL_law_821 : decode cL_law 821 = .ok (.goto 250, 3) := by decide +kernel
theorem dL_law_824 : decode cL_law 824 = .ok (.aload_n 1, 1) := by decide +kernel
theorem dL_law_825 : decode cL_law 825 = .ok (.aload_n 0, 1) := by decide +kernel
theorem dL_law_826 : decode cL_law 826 = .ok (.iload_n 3, 1) := by decide +kernel
theorem dL_law_827 : decode cL_law 827 = .ok (.iconst 1, 1) := by decide +kernel
theorem dL_law_828 : decode cL_law 828 = .ok (.iadd, 1) := by decide +kernel
theorem dL_law_829 : decode cL_law 829 = .ok (.iaload, 1) := by decide +kernel
theorem dL_law_830 : decode cL_law 830 = .ok (.aload_n 0, 1) := by decide +kernel
theorem dL_law_831 : decode cL_law 831 = .ok (.iload_n 3, 1) := by decide +kernel
theorem dL_law_832 : decode cL_law 832 = .ok (.iconst 2, 1) := by decide +kernel
end
section
theorem dL_law_833 : decode cL_law 833 = .ok (.iadd, 1) := by decide +kernel
theorem dL_law_834 : decode cL_law 834 = .ok (.iaload, 1) := by decide +kernel
theorem dL_law_835 : decode cL_law 835 = .ok (.invokevirtual 101, 3) := by decide +kernel
theorem dL_law_838 : decode cL_law 838 = .ok (.pop, 1) := by decide +kernel
theorem dL_law_839 : decode cL_law 839 = .ok (.aload_n 2, 1) := by decide +kernel
theorem dL_law_840 : decode cL_law 840 = .ok (.aload_n 0, 1) := by decide +kernel
theorem dL_law_841 : decode cL_law 841 = .ok (.iload_n 3, 1) := by decide +kernel
theorem dL_law_842 : decode cL_law 842 = .ok (.iconst 1, 1) := by decide +kernel
theorem dL_law_843 : decode cL_law 843 = .ok (.iadd, 1) := by decide +kernel
theorem dL_law_844 : decode cL_law 844 = .ok (.iaload, 1) := by decide +kernel
theorem dL_law_845 : decode cL_law 845 = .ok (.aload_n 0, 1) := by decide +kernel
theorem dL_law_846 : decode cL_law 846 = .ok (.iload_n 3, 1) := by decide +kernel
theorem dL_law_847 : decode cL_law 847 = .ok (.iconst 2, 1) := by decide +kernel
theorem dL_law_848 : decode cL_law 848 = .ok (.iadd, 1) := by decide +kernel
theorem dL_law_849 : decode cL_law 849 = .ok (.iaload, 1) := by decide +kernel
theorem dL_law_850 : decode cL_law 850 = .ok (.invokevirtual 104, 3) := by decide +kernel
theorem dL_law_853 : decode cL_law 853 = .ok (.pop, 1) := by decide +kernel
theorem dL_law_854 : decode cL_law 854 = .ok (.goto 217, 3) := by decide +kernel
theorem dL_law_857 : decode cL_law 857 = .ok (.aload_n 1, 1) := by decide +kernel
theorem dL_law_858 : decode cL_law 858 = .ok (.aload_n 0, 1) := by decide +kernel
theorem dL_law_859 : decode cL_law 859 = .ok (.iload_n 3, 1) := by decide +kernel
theorem dL_law_860 : decode cL_law 860 = .ok (.iconst 1, 1) := by decide +kernel
theorem dL_law_861 : decode cL_law 861 = .ok (.iadd, 1) := by decide +kernel
theorem dL_law_862 : decode cL_law 862 = .ok (.iaload, 1) := by decide +kernel
theorem dL_law_863 : decode cL_law 863 = .ok (.invokevirtual 105, 3) := by decide +kernel
theorem dL_law_866 : decode cL_law 866 = .ok (.pop, 1) := by decide +kernel
theorem dL_law_867 : decode cL_law 867 = .ok (.aload_n 2, 1) := by decide +kernel
theorem dL_law_868 : decode cL_law 868 = .ok (.aload_n 0, 1) := by decide +kernel
theorem dL_law_869 : decode cL_law 869 = .ok (.iload_n 3, 1) := by decide +kernel
theorem dL_law_870 : decode cL_law 870 = .ok (.iconst 1, 1) := by decide +kernel
theorem dL_law_871 : decode cL_law 871 = .ok (.iadd, 1) := by decide +kernel
theorem dL_law_872 : decode cL_law 872 = .ok (.iaload, 1) := by decide +kernel
theorem dL_law_873 : decode cL_law 873 = .ok (.invokevirtual 108, 3) := by decide +kernel
theorem dL_law_876 : decode cL_law 876 = .ok (.pop, 1) := by decide +kernel
theorem dL_law_877 : decode cL_law 877 = .ok (.goto 194, 3) := by decide +kernel
theorem dL_law_880 : decode cL_law 880 = .ok (.aload_n 1, 1) := by decide +kernel
theorem dL_law_881 : decode cL_law 881 = .ok (.aload_n 0, 1) := by decide +kernel
theorem dL_law_882 : decode cL_law 882 = .ok (.iload_n 3, 1) := by decide +kernel
theorem dL_law_883 : decode cL_law 883 = .ok (.iconst 1, 1) := by decide +kernel
theorem dL_law_884 : decode cL_law 884 = .ok (.iadd, 1) := by decide +kernel
theorem dL_law_885 : decode cL_law 885 = .ok (.iaload, 1) := by decide +kernel
theorem dL_law_886 : decode cL_law 886 = .ok (.aload_n 0, 1) := by decide +kernel
theorem dL_law_887 : decode cL_law 887 = .ok (.iload_n 3, 1) := by decide +kernel
theorem dL_law_888 : decode cL_law 888 = .ok (.iconst 2, 1) := by decide +kernel
theorem dL_law_889 : decode cL_law 889 = .ok (.iadd, 1) := by decide +kernel
theorem dL_law_890 : decode cL_law 890 = .ok (.iaload, 1) := by decide +kernel
theorem dL_law_891 : decode cL_law 891 = .ok (.aload_n 0, 1) := by decide +kernel
theorem dL_law_892 : decode cL_law 892 = .ok (.iload_n 3, 1) := by decide +kernel
theorem dL_law_893 : decode cL_law 893 = .ok (.iconst 3, 1) := by decide +kernel
theorem dL_law_894 : decode cL_law 894 = .ok (.iadd, 1) := by decide +kernel
theorem dL_law_895 : decode cL_law 895 = .ok (.iaload, 1) := by decide +kernel
theorem dL_law_896 : decode cL_law 896 = .ok (.aload_n 0, 1) := by decide +kernel
theorem dL_law_897 : decode cL_law 897 = .ok (.iload_n 3, 1) := by decide +kernel
theorem dL_law_898 : decode cL_law 898 = .ok (.iconst 4, 1) := by decide +kernel
theorem dL_law_899 : decode cL_law 899 = .ok (.iadd, 1) := by decide +kernel
theorem dL_law_900 : decode cL_law 900 = .ok (.iaload, 1) := by decide +kernel
theorem dL_law_901 : decode cL_law 901 = .ok (.invokevirtual 109, 3) := by decide +kernel
theorem dL_law_904 : decode cL_law 904 = .ok (.pop, 1) := by decide +kernel
theorem dL_law_905 : decode cL_law 905 = .ok (.aload_n 2, 1) := by decide +kernel
theorem dL_law_906 : decode cL_law 906 = .ok (.aload_n 0, 1) := by decide +kernel
theorem dL_law_907 : decode cL_law 907 = .ok (.iload_n 3, 1) := by decide +kernel
theorem dL_law_908 : decode cL_law 908 = .ok (.iconst 1, 1) := by decide +kernel
theorem dL_law_909 : decode cL_law 909 = .ok (.iadd, 1) := by decide +kernel
theorem dL_law_910 : decode cL_law 910 = .ok (.iaload, 1) := by decide +kernel
theorem dL_law_911 : decode cL_law 911 = .ok (.aload_n 0, 1) := by decide +kernel
theorem dL_law_912 : decode cL_law 912 = .ok (.iload_n 3, 1) := by decide +kernel
theorem dL_law_913 : decode cL_law 913 = .ok (.iconst 2, 1) := by decide +kernel
theorem dL_law_914 : decode cL_law 914 = .ok (.iadd, 1) := by decide +kernel
theorem dL_law_915 : decode cL_law 915 = .ok (.iaload, 1) := by decide +kernel
theorem dL_law_916 : decode cL_law 916 = .ok (.aload_n 0, 1) := by decide +kernel
theorem dL_law_917 : decode cL_law 917 = .ok (.iload_n 3, 1) := by decide +kernel
theorem dL_law_918 : decode cL_law 918 = .ok (.iconst 3, 1) := by decide +kernel
theorem dL_law_919 : decode cL_law 919 = .ok (.iadd, 1) := by decide +kernel
theorem dL_law_920 : decode cL_law 920 = .ok (.iaload, 1) := by decide +kernel
theorem dL_law_921 : decode cL_law 921 = .ok (.aload_n 0, 1) := by decide +kernel
theorem dL_law_922 : decode cL_law 922 = .ok (.iload_n 3, 1) := by decide +kernel
theorem dL_law_923 : decode cL_law 923 = .ok (.iconst 4, 1) := by decide +kernel
theorem dL_law_924 : decode cL_law 924 = .ok (.iadd, 1) := by decide +kernel
theorem dL_law_925 : decode cL_law 925 = .ok (.iaload, 1) := by decide +kernel
theorem dL_law_926 : decode cL_law 926 = .ok (.invokevirtual 112, 3) := by decide +kernel
theorem dL_law_929 : decode cL_law 929 = .ok (.pop, 1) := by decide +kernel
theorem dL_law_930 : decode cL_law 930 = .ok (.goto 141, 3) := by decide +kernel
theorem dL_law_933 : decode cL_law 933 = .ok (.aload_n 1, 1) := by decide +kernel
theorem dL_law_934 : decode cL_law 934 = .ok (.aload_n 0, 1) := by decide +kernel
theorem dL_law_935 : decode cL_law 935 = .ok (.iload_n 3, 1) := by decide +kernel
theorem dL_law_936 : decode cL_law 936 = .ok (.iconst 1, 1) := by decide +kernel
theorem dL_law_937 : decode cL_law 937 = .ok (.iadd, 1) := by decide +kernel
theorem dL_law_938 : decode cL_law 938 = .ok (.iaload, 1) := by decide +kernel
theorem dL_law_939 : decode cL_law 939 = .ok (.invokevirtual 113, 3) := by decide +kernel
theorem dL_law_942 : decode cL_law 942 = .ok (.pop, 1) := by decide +kernel
theorem dL_law_943 : decode cL_law 943 = .ok (.aload_n 2, 1) := by decide +kernel
theorem dL_law_944 : decode cL_law 944 = .ok (.aload_n 0, 1) := by decide +kernel
theorem dL_law_945 : decode cL_law 945 = .ok (.iload_n 3, 1) := by decide +kernel
theorem dL_law_946 : decode cL_law 946 = .ok (.iconst 1, 1) := by decide +kernel
theorem dL_law_947 : decode cL_law 947 = .ok (.iadd, 1) := by decide +kernel
theorem dL_law_948 : decode cL_law 948 = .ok (.iaload, 1) := by decide +kernel
theorem dL_law_949 : decode cL_law 949 = .ok (.invokevirtual 116, 3) := by decide +kernel
theorem dL_law_952 : decode cL_law 952 = .ok (.pop, 1) := by decide +kernel
theorem dL_law_953 : decode cL_law 953 = .ok (.goto 118, 3) := by decide +kernel
theorem dL_law_956 : decode cL_law 956 = .ok (.aload_n 1, 1) := by decide +kernel
theorem dL_law_957 : decode cL_law 957 = .ok (.aload_n 0, 1) := by decide +kernel
theorem dL_law_958 : decode cL_law 958 = .ok (.iload_n 3, 1) := by decide +kernel
theorem dL_law_959 : decode cL_law 959 = .ok (.iconst 1, 1) := by decide +kernel
theorem dL_law_960 : decode cL_law 960 = .ok (.iadd, 1) := by decide +kernel
theorem dL_law_961 : decode cL_law 961 = .ok (.iaload, 1) := by decide +kernel
theorem dL_law_962 : decode cL_law 962 = .ok (.aload_n 0, 1) := by decide +kernel
theorem dL_law_963 : decode cL_law 963 = .ok (.iload_n 3, 1) := by decide +kernel
theorem dL_law_964 : decode cL_law 964 = .ok (.iconst 2, 1) := by decide +kernel
theorem dL_law_965 : decode cL_law 965 = .ok (.iadd, 1) := by decide +kernel
theorem dL_law_966 : decode cL_law 966 = .ok (.iaload, 1) := by decide +kernel
theorem dL_law_967 : decode cL_law 967 = .ok (.invokevirtual 117, 3) := by decide +kernel
theorem dL_law_970 : decode cL_law 970 = .ok (.pop, 1) := by decide +kernel
theorem dL_law_971 : decode cL_law 971 = .ok (.aload_n 2, 1) := by decide +kernel
theorem dL_law_972 : decode cL_law 972 = .ok (.aload_n 0, 1) := by decide +kernel
theorem dL_law_973 : decode cL_law 973 = .ok (.iload_n 3, 1) := by decide +kernel
theorem dL_law_974 : decode cL_law 974 = .ok (.iconst 1, 1) := by decide +kernel
theorem dL_law_975 : decode cL_law 975 = .ok (.iadd, 1) := by decide +kernel
theorem dL_law_976 : decode cL_law 976 = .ok (.iaload, 1) := by decide +kernel
theorem dL_law_977 : decode cL_law 977 = .ok (.aload_n 0, 1) := by decide +kernel
theorem dL_law_978 : decode cL_law 978 = .ok (.iload_n 3, 1) := by decide +kernel
theorem dL_law_979 : decode cL_law 979 = .ok (.iconst 2, 1) := by decide +kernel
theorem dL_law_980 : decode cL_law 980 = .ok (.iadd, 1) := by decide +kernel
theorem dL_law_981 : decode cL_law 981 = .ok (.iaload, 1) := by decide +kernel
theorem dL_law_982 : decode cL_law 982 = .ok (.invokevirtual 120, 3) := by decide +kernel
theorem dL_law_985 : decode cL_law 985 = .ok (.pop, 1) := by decide +kernel
theorem dL_law_986 : decode cL_law 986 = .ok (.goto 85, 3) := by decide +kernel
theorem dL_law_989 : decode cL_law 989 = .ok (.aload_n 1, 1) := by decide +kernel
theorem dL_law_990 : decode cL_law 990 = .ok (.aload_n 0, 1) := by decide +kernel
theorem dL_law_991 : decode cL_law 991 = .ok (.iload_n 3, 1) := by decide +kernel
theorem dL_law_992 : decode cL_law 992 = .ok (.iconst 1, 1) := by decide +kernel
theorem dL_law_993 : decode cL_law 993 = .ok (.iadd, 1) := by decide +kernel
theorem dL_law_994 : decode cL_law 994 = .ok (.iaload, 1) := by decide +kernel
theorem dL_law_995 : decode cL_law 995 = .ok (.invokevirtual 121, 3) := by decide +kernel
theorem dL_law_998 : decode cL_law 998 = .ok (.pop, 1) := by decide +kernel
theorem dL_law_999 : decode cL_law 999 = .ok (.aload_n 2, 1) := by decide +kernel
theorem dL_law_1000 : decode cL_law 1000 = .ok (.aload_n 0, 1) := by decide +kernel
theorem dL_law_1001 : decode cL_law 1001 = .ok (.iload_n 3, 1) := by decide +kernel
theorem dL_law_1002 : decode cL_law 1002 = .ok (.iconst 1, 1) := by decide +kernel
theorem dL_law_1003 : decode cL_law 1003 = .ok (.iadd, 1) := by decide +kernel
theorem dL_law_1004 : decode cL_law 1004 = .ok (.iaload, 1) := by decide +kernel
theorem dL_law_1005 : decode cL_law 1005 = .ok (.invokevirtual 124, 3) := by decide +kernel
theorem dL_law_1008 : decode cL_law 1008 = .ok (.pop, 1) := by decide +kernel
theorem dL_law_1009 : decode cL_law 1009 = .ok (.goto 62, 3) := by decide +kernel
theorem dL_law_1012 : decode cL_law 1012 = .ok (.aload_n 1, 1) := by decide +kernel
theorem dL_law_1013 : decode cL_law 1013 = .ok (.aload_n 0, 1) := by decide +kernel
theorem dL_law_1014 : decode cL_law 1014 = .ok (.iload_n 3, 1) := by decide +kernel
theorem dL_law_1015 : decode cL_law 1015 = .ok (.iconst 1, 1) := by decide +kernel
theorem dL_law_1016 : decode cL_law 1016 = .ok (.iadd, 1) := by decide +kernel
theorem dL_law_1017 : decode cL_law 1017 = .ok (.iaload, 1) := by decide +kernel
theorem dL_law_1018 : decode cL_law 1018 = .ok (.invokevirtual 125, 3) := by decide +kernel
theorem dL_law_1021 : decode cL_law 1021 = .ok (.pop, 1) := by decide +kernel
theorem dL_law_1022 : decode cL_law 1022 = .ok (.aload_n 2, 1) := by decide +kernel
theorem dL_law_1023 : decode cL_law 1023 = .ok (.aload_n 0, 1) := by decide +kernel
theorem dL_law_1024 : decode cL_law 1024 = .ok (.iload_n 3, 1) := by decide +kernel
theorem dL_law_1025 : decode cL_law 1025 = .ok (.iconst 1, 1) := by decide +kernel
theorem dL_law_1026 : decode cL_law 1026 = .ok (.iadd, 1) := by decide +kernel
theorem dL_law_1027 : decode cL_law 1027 = .ok (.iaload, 1) := by decide +kernel
theorem dL_law_1028 : decode cL_law 1028 = .ok (.invokevirtual 128, 3) := by decide +kernel
theorem dL_law_1031 : decode cL_law 1031 = .ok (.pop, 1) := by decide +kernel
theorem dL_law_1032 : decode cL_law 1032 = .ok (.goto 39, 3) := by decide +kernel
theorem dL_law_1035 : decode cL_law 1035 = .ok (.aload_n 1, 1) := by decide +kernel
theorem dL_law_1036 : decode cL_law 1036 = .ok (.aload_n 0, 1) := by decide +kernel
theorem dL_law_1037 : decode cL_law 1037 = .ok (.iload_n 3, 1) := by decide +kernel
theorem dL_law_1038 : decode cL_law 1038 = .ok (.iconst 1, 1) := by decide +kernel
theorem dL_law_1039 : decode cL_law 1039 = .ok (.iadd, 1) := by decide +kernel
theorem dL_law_1040 : decode cL_law 1040 = .ok (.iaload, 1) := by decide +kernel
theorem dL_law_1041 : decode cL_law 1041 = .ok (.invokevirtual 129, 3) := by decide +kernel
theorem dL_law_1044 : decode cL_law 1044 = .ok (.pop, 1) := by decide +kernel
theorem dL_law_1045 : decode cL_law 1045 = .ok (.aload_n 2, 1) := by decide +kernel
theorem dL_law_1046 : decode cL_law 1046 = .ok (.aload_n 0, 1) := by decide +kernel
theorem dL_law_1047 : decode cL_law 1047 = .ok (.iload_n 3, 1) := by decide +kernel
theorem dL_law_1048 : decode cL_law 1048 = .ok (.iconst 1, 1) := by decide +kernel
theorem dL_law_1049 : decode cL_law 1049 = .ok (.iadd, 1) := by decide +kernel
theorem dL_law_1050 : decode cL_law 1050 = .ok (.iaload, 1) := by decide +kernel
theorem dL_law_1051 : decode cL_law 1051 = .ok (.invokevirtual 132, 3) := by decide +kernel
theorem dL_law_1054 : decode cL_law 1054 = .ok (.pop, 1) := by decide +kernel
theorem dL_law_1055 : decode cL_law 1055 = .ok (.goto 16, 3) := by decide +kernel
theorem dL_law_1058 : decode cL_law 1058 = .ok (.aload_n 1, 1) := by decide +kernel
theorem dL_law_1059 : decode cL_law 1059 = .ok (.invokevirtual 133, 3) := by decide +kernel
theorem dL_law_1062 : decode cL_law 1062 = .ok (.pop2, 1) := by decide +kernel
theorem dL_law_1063 : decode cL_law 1063 = .ok (.aload_n 2, 1) := by decide +kernel
theorem dL_law_1064 : decode cL_law 1064 = .ok (.invokevirtual 137, 3) := by decide +kernel
theorem dL_law_1067 : decode cL_law 1067 = .ok (.pop2, 1) := by decide +kernel
theorem dL_law_1068 : decode cL_law 1068 = .ok (.goto 3, 3) := by decide +kernel
theorem dL_law_1071 : decode cL_law 1071 = .ok (.iinc 3 5, 3) := by decide +kernel
theorem dL_law_1074 : decode cL_law 1074 = .ok (.goto (-1056), 3) := by decide +kernel
theorem dL_law_1077 : decode cL_law 1077 = .ok (.iconst 1, 1) := by decide +kernel
theorem dL_law_1078 : decode cL_law 1078 = .ok (.ireturn, 1) := by decide +kernel
end
section
/-! THE LAYER: the heap as tables of numbers (which cell is what; ints, longs, refs by cell and place), and one judgement over it. -/
abbrev Hp : Type := List (Nat × Nat) × (Nat → Nat → Int32) × (Nat → Nat → Int64) × (Nat → Nat → Option Nat)
/-- what stays through a run: the classes' ids and slots, the arrays' classes, where the made cells begin, the addresses of what was there before, the texts' bytes -/
abbrev Gc : Type := va_G × (Nat → ClassId) × Nat × (Nat → Nat) × (Nat → Nat)
def up {α : Type} (f : Nat → Nat → α) (q k : Nat) (v : α) : Nat → Nat → α := fun a b => if a = q ∧ b = k then v else f a b
def sI (h : Hp) (q k : Nat) (v : Int32) : Hp := (h.1, up h.2.1 q k v, h.2.2.1, h.2.2.2)
def sL (h : Hp) (q k : Nat) (v : Int64) : Hp := (h.1, h.2.1, up h.2.2.1 q k v, h.2.2.2)
def sR (h : Hp) (q k : Nat) (v : Option Nat) : Hp := (h.1, h.2.1, h.2.2.1, up h.2.2.2 q k v)
def ROf : Nat → String := fun c => match c with
  | 0 => RX0 | 1 => RX1 | 2 => RX2 | 3 => RX3 | 4 => RX4 | 5 => RX5 | 6 => RX6 | 7 => RX7 | _ => RX8
def TOf : Nat → u_T := fun c => match c with
  | 0 => TX0 | 1 => TX1 | 2 => TX2 | 3 => TX3 | 4 => TX4 | 5 => TX5 | 6 => TX6 | 7 => TX7 | _ => TX8
def yOf : Nat → Nat → FieldType := fun c => match c with
  | 0 => tyX0 | 1 => tyX1 | 2 => tyX2 | 3 => tyX3 | 4 => tyX4 | 5 => tyX5 | 6 => tyX6 | 7 => tyX7 | _ => tyX8
def nOf : Nat → Nat := fun c => match c with
  | 0 => 15 | 1 => 10 | 2 => 7 | 3 => 8 | 4 => 2 | 5 => 3 | 6 => 5 | 7 => 16 | _ => 44
theorem cl_at {c : Nat} (hc : c < 9) : vwCl[c]? = some (ROf c, TOf c, nOf c) := by
  rcases c with _ | _ | _ | _ | _ | _ | _ | _ | _ | c <;> first | rfl | omega
theorem cl_in {c : Nat} (hc : c < 9) : ∀ w ∈ u_ws (ROf c) (TOf c) (nOf c), w ∈ lw_tbl := by
  rcases c with _ | _ | _ | _ | _ | _ | _ | _ | _ | c
  · decide +kernel
  · decide +kernel
  · decide +kernel
  · decide +kernel
  · decide +kernel
  · decide +kernel
  · decide +kernel
  · decide +kernel
  · decide +kernel
  · omega
theorem cl_ty {c : Nat} (hc : c < 9) : ∀ k, k < nOf c → parseFieldDescriptor (TOf c k).2.2.1 = some (yOf c k) := by
  rcases c with _ | _ | _ | _ | _ | _ | _ | _ | _ | c
  · exact tyX0_ok
  · exact tyX1_ok
  · exact tyX2_ok
  · exact tyX3_ok
  · exact tyX4_ok
  · exact tyX5_ok
  · exact tyX6_ok
  · exact tyX7_ok
  · exact tyX8_ok
  · omega
theorem cl_nm {c : Nat} (hc : c < 9) : ∀ a, a < nOf c → ∀ b, b < nOf c → a ≠ b → (TOf c a).2.1 ≠ (TOf c b).2.1 := by
  rcases c with _ | _ | _ | _ | _ | _ | _ | _ | _ | c
  · exact nmX0
  · exact nmX1
  · exact nmX2
  · exact nmX3
  · exact nmX4
  · exact nmX5
  · exact nmX6
  · exact nmX7
  · exact nmX8
  · omega
def adG (G : Gc) (k : Nat) : Nat := if k < 10000 then G.2.2.1 + k else G.2.2.2.1 (k - 10000)
def phi (G : Gc) (v : Value) : Value := match v with
  | .ref k => .ref (adG G k)
  | v => v
theorem phi_cat (G : Gc) (v : Value) : (phi G v).category = v.category := by cases v <;> rfl
def fv (G : Gc) (h : Hp) (q k : Nat) (ty : FieldType) : Value := match ty with
  | .long => .long (h.2.2.1 q k)
  | .object _ => va_rf ((h.2.2.2 q k).map (adG G))
  | .array _ => va_rf ((h.2.2.2 q k).map (adG G))
  | _ => .int (h.2.1 q k)
def fl (G : Gc) (h : Hp) (q c : Nat) : List Value := (List.range (nOf c)).map fun k => fv G h q k (yOf c k)
def ar (G : Gc) (h : Hp) (q t : Nat) : (Nat → Int32) ⊕ (Nat → Int64) ⊕ (Nat → UInt32) ⊕ (Nat → UInt64) ⊕ (Nat → Option Nat) :=
  if t < 3 then .inl (h.2.1 q) else if t = 3 then .inr (.inl (h.2.2.1 q)) else .inr (.inr (.inr (.inr (fun j => (h.2.2.2 q j).map (adG G)))))
def cel (G : Gc) (h : Hp) (q : Nat) (x : Nat × Nat) : va_E := if x.1 < 50 then .inr (x.1, fl G h q x.1) else .inl (G.2.1 (x.1 - 50), x.2, ar G h q (x.1 - 50))
/-- the heap H holds h -/
def Mst (G : Gc) (h : Hp) (H : Heap) : Prop := H.size = G.2.2.1 + h.1.length ∧ h.1.length ≤ 9000 ∧ ∀ (q : Nat) (x : Nat × Nat), h.1[q]? = some x → va_at G.1 vwCl (adG G q, cel G h q x) H
abbrev tys (G : Gc) : List (ClassId × FieldType) := [(G.2.1 0, .int), (G.2.1 1, .byte), (G.2.1 2, .boolean), (G.2.1 3, .long), (G.2.1 4, .object RX6), (G.2.1 5, .object RX0)]
def aty : Nat → FieldType := fun t => match t with
  | 0 => .int | 1 => .byte | 2 => .boolean | 3 => .long | 4 => .object RX6 | _ => .object RX0
theorem tys_at (G : Gc) {t : Nat} (h : t < 6) : (tys G)[t]? = some (G.2.1 t, aty t) := by
  rcases t with _ | _ | _ | _ | _ | _ | t <;> first | rfl | omega
theorem one_P {D : va_G} {q : Nat × va_E} {H : Heap} (h : va_at D vwCl q H) : va_P D vwCl [q] H := by
  intro k x hx
  have hz : k < 1 := (List.getElem?_eq_some_iff.mp hx).1
  rw [show k = 0 by omega] at hx
  cases hx
  exact h
theorem fl_get (G : Gc) (h : Hp) (q c : Nat) {k : Nat} (hk : k < nOf c) : (fl G h q c)[k]? = some (fv G h q k (yOf c k)) := by
  simp [fl, hk]
theorem fl_V (G : Gc) (h : Hp) (q c : Nat) {k : Nat} (hk : k < nOf c) : vp_V (fl G h q c) k = fv G h q k (yOf c k) := by
  simp [vp_V, fl, hk]
theorem Mst.q_lt {G : Gc} {h : Hp} {H : Heap} (M : Mst G h H) {q : Nat} {x : Nat × Nat} (hx : h.1[q]? = some x) : q < 9000 := by
  have := (List.getElem?_eq_some_iff.mp hx).1
  have := M.2.1
  omega
theorem adG_lo (G : Gc) {q : Nat} (h : q < 9000) : adG G q = G.2.2.1 + q := by
  unfold adG
  rw [if_pos (by omega)]
theorem Mst.obj {G : Gc} {h : Hp} {H : Heap} (M : Mst G h H) {q c : Nat} (hx : h.1[q]? = some (c, 0)) (hc : c < 9) : va_P G.1 vwCl [(adG G q, .inr (c, fl G h q c))] H := by
  have e := M.2.2 q (c, 0) hx
  unfold cel at e
  rw [if_pos (show (c, 0).1 < 50 by show c < 50; omega)] at e
  exact one_P e
theorem Mst.arr {G : Gc} {h : Hp} {H : Heap} (M : Mst G h H) {q t n : Nat} (hx : h.1[q]? = some (50 + t, n)) : va_P G.1 vwCl [(adG G q, .inl (G.2.1 t, n, ar G h q t))] H := by
  have e := M.2.2 q (50 + t, n) hx
  unfold cel at e
  rw [if_neg (show ¬ (50 + t, n).1 < 50 by show ¬ 50 + t < 50; omega)] at e
  have e2 : (50 + t, n).1 - 50 = t := by show 50 + t - 50 = t; omega
  rw [e2] at e
  exact one_P e
/-- one cell is written -/
theorem Mst.wr {G : Gc} {h h' : Hp} {H H1 : Heap} (M : Mst G h H) (z : H1.size = H.size) {q : Nat} {x0 : Nat × Nat} (hx : h.1[q]? = some x0) (oq : ∀ a : Nat, a ≠ adG G q → H1[a]? = H[a]?) (hsh : h'.1 = h.1)
    (ho : ∀ (q' : Nat) (x : Nat × Nat), q' ≠ q → cel G h' q' x = cel G h q' x) (hn : va_at G.1 vwCl (adG G q, cel G h' q x0) H1) : Mst G h' H1 := by
  refine ⟨by rw [z, hsh]; exact M.1, by rw [hsh]; exact M.2.1, fun q' x hx' => ?_⟩
  rw [hsh] at hx'
  by_cases e : q' = q
  · subst e
    cases hx.symm.trans hx'
    exact hn
  · have l1 := M.q_lt hx
    have l2 := M.q_lt hx'
    rw [ho q' x e]
    refine (M.2.2 q' x hx').kept (oq _ ?_)
    show adG G q' ≠ adG G q
    rw [adG_lo G l1, adG_lo G l2]
    omega
theorem Mst.in_A {G : Gc} {h : Hp} {H : Heap} (M : Mst G h H) {q : Nat} {x : Nat × Nat} (hx : h.1[q]? = some x) : G.2.2.1 ≤ adG G q := by
  rw [adG_lo G (M.q_lt hx)]
  omega
theorem up_ne {α : Type} (f : Nat → Nat → α) (q k : Nat) (v : α) {q' : Nat} (h : q' ≠ q) : up f q k v q' = f q' := by
  funext b
  simp [up, h]
theorem cel_sI (G : Gc) (h : Hp) (q k : Nat) (v : Int32) {q' : Nat} (x : Nat × Nat) (n : q' ≠ q) : cel G (sI h q k v) q' x = cel G h q' x := by
  have e : ∀ (k' : Nat) (ty : FieldType), fv G (sI h q k v) q' k' ty = fv G h q' k' ty := by
    intro k' ty
    cases ty <;> simp [fv, sI, up_ne _ _ _ _ n]
  unfold cel fl ar
  simp only [e]
  simp [sI, up_ne _ _ _ _ n]
theorem cel_sL (G : Gc) (h : Hp) (q k : Nat) (v : Int64) {q' : Nat} (x : Nat × Nat) (n : q' ≠ q) : cel G (sL h q k v) q' x = cel G h q' x := by
  have e : ∀ (k' : Nat) (ty : FieldType), fv G (sL h q k v) q' k' ty = fv G h q' k' ty := by
    intro k' ty
    cases ty <;> simp [fv, sL, up_ne _ _ _ _ n]
  unfold cel fl ar
  simp only [e]
  simp [sL, up_ne _ _ _ _ n]
theorem cel_sR (G : Gc) (h : Hp) (q k : Nat) (v : Option Nat) {q' : Nat} (x : Nat × Nat) (n : q' ≠ q) : cel G (sR h q k v) q' x = cel G h q' x := by
  have e : ∀ (k' : Nat) (ty : FieldType), fv G (sR h q k v) q' k' ty = fv G h q' k' ty := by
    intro k' ty
    cases ty <;> simp [fv, sR, up_ne _ _ _ _ n]
  unfold cel fl ar
  simp only [e]
  simp [sR, up_ne _ _ _ _ n]
end
section
/-! ROWS: the judgement 'At': from every heap that holds h, at pc, with these locals and this stack, the method comes to its end with Q -/
abbrev Cx : Type := Program × Launch × Env × Room × State × MethodId × Array Value × List Frame × Method × Code
abbrev xS (X : Cx) : State := X.2.2.2.2.1
abbrev xM (X : Cx) : MethodId := X.2.2.2.2.2.1
abbrev xR (X : Cx) : Room := X.2.2.2.1
abbrev xA (X : Cx) : Array Value := X.2.2.2.2.2.2.1
abbrev xC (X : Cx) : Code := X.2.2.2.2.2.2.2.2.2
abbrev xMeth (X : Cx) : Method := X.2.2.2.2.2.2.2.2.1
abbrev WW (X : Cx) (H : Heap) (locs : List Loc) (n k : Nat) (Q : State → Prop) (g : JFrame) : Prop := W X.1 X.2.1 X.2.2.1 X.2.2.2.1 X.2.2.2.2.1 X.2.2.2.2.2.1 X.2.2.2.2.2.2.1 X.2.2.2.2.2.2.2.1 X.2.2.2.2.2.2.2.2.1 X.2.2.2.2.2.2.2.2.2 H locs n k Q g
abbrev AG (G : Gc) : Nat → Prop := fun q => G.2.2.1 ≤ q
def tg : List Cond := lw_tbl.filter goodWord
theorem tg_of {w : Cond} (h : w ∈ lw_tbl) (g : goodWord w = true) : w ∈ tg := List.mem_filter.mpr ⟨h, g⟩
theorem tg_sub : ∀ w ∈ tg, w ∈ lw_tbl := fun w h => (List.mem_filter.mp h).1
theorem tg_good : GoodIn tg tg := fun w h => ⟨h, good_of_word (List.mem_filter.mp h).2⟩
def nests : List (String × Nat × MethodName × String) := [(RX2, 28, yX6_init, RX7), (RX7, 34, yX5_init, RX7), (RX7, 64, yX4_init, RX7), (RX2, 67, yX7_put, RX7), (RX2, 63, yX7_at, RX7), (RX5, 22, yX7_at, RX7), (RX0, 66, yX7_put, RX7), (RX1, 43, yX7_put, RX7), (RX1, 47, yX7_at, RX7), (RX5, 33, yX7_put, RX7), (RX0, 79, yX7_at, RX7), (RX4, 19, yX7_at, RX7), (RX4, 23, yX7_put, RX7)]
def strs : List (Nat × String × List Int32) := [(46, "year", [121, 101, 97, 114]), (56, "every", [101, 118, 101, 114, 121]), (134, "from", [102, 114, 111, 109]), (115, "free", [102, 114, 101, 101]), (117, "market", [109, 97, 114, 107, 101, 116]), (119, "holy", [104, 111, 108, 121]), (121, "dark", [100, 97, 114, 107]), (61, "days", [100, 97, 121, 115]), (66, "bill", [98, 105, 108, 108]), (71, "step", [115, 116, 101, 112]), (160, "after", [97, 102, 116, 101, 114]), (173, "within", [119, 105, 116, 104, 105, 110]), (177, "voice", [118, 111, 105, 99, 101]), (182, "sign", [115, 105, 103, 110])]
def slen : List Nat := strs.map fun q => q.2.2.length
def sbyt : List (List Int32) := strs.map fun q => q.2.2
/-- what stands all through: the classes, the words that the tables have in another form, the texts, two statics -/
def Env0 (G : Gc) (U : State) (H : Heap) : Prop :=
  va_K G.1 vwCl (tys G) U ∧ (∀ q ∈ nests, va_Nw (.methodLinkNest q.1 q.2.1 q.2.2.1 q.2.2.2) U) ∧ va_AO RX6 U ∧ va_AO RX0 U ∧ vk_S 14 slen sbyt G.2.2.2.1 G.2.2.2.2 (AG G) U H ∧ (∀ (i : Nat) (q : Nat × String × List Int32), strs[i]? = some q → vk_R RX3 q.1 q.2.1 (G.2.2.2.1 i) U) ∧ va_Z "java/lang/String" "COMPACT_STRINGS" "Z" (.int 1) (AG G) U H ∧ va_Zq "jdk/internal/util/Preconditions" "SIOOBE_FORMATTER" "Ljava/util/function/BiFunction;" (AG G) U H ∧ G.2.2.1 ≤ H.size
theorem Env0.kept {G : Gc} {s U : State} {H1 : Heap} (E : Env0 G s s.heap) (hW : s.WarmedH U.vm) (hz : s.heap.size ≤ H1.size) (hq : ∀ a : Nat, a < s.heap.size → ¬ AG G a → H1[a]? = s.heap[a]?) : Env0 G U H1 := by
  obtain ⟨e1, e2, e3, e4, e5, e6, e7, e8, e9⟩ := E
  exact ⟨va_K.moved hW.alike e1, fun q h => va_Nw.warmM hW (e2 q h), va_AO.moved hW.alike e3, va_AO.moved hW.alike e4, (vk_S.moved hW.alike e5).kept hq, fun i q h => vk_R.warm hW (e6 i q h), (va_Z.moved hW.alike e7).kept hq, (va_Zq.moved hW.alike e8).kept hq, Nat.le_trans e9 hz⟩
theorem Env0.same {G : Gc} {u U : State} {H : Heap} (h : u.vm = U.vm) (E : Env0 G u H) : Env0 G U H := by
  have ha : u.vm.Alike U.vm := by rw [h]; exact Vm.Alike.refl _
  obtain ⟨e1, e2, e3, e4, e5, e6, e7, e8, e9⟩ := E
  exact ⟨va_K.moved ha e1, fun q hq => va_Nw.same rfl h (e2 q hq), va_AO.moved ha e3, va_AO.moved ha e4, vk_S.moved ha e5, fun i q hq => vk_R.same h.symm (e6 i q hq), va_Z.moved ha e7, va_Zq.moved ha e8, e9⟩
def lvp (G : Gc) (lv : List (Nat × Value)) : List (Nat × Value) := lv.map fun q => (q.1, phi G q.2)
def At (X : Cx) (G : Gc) (Q : State → Prop) (n k pc : Nat) (lv : List (Nat × Value)) (st : List Value) (h : Hp) : Prop :=
  ∀ (H : Heap) (locs : List Loc) (ls : Array Slot), Mst G h H → va_S (AG G) (xS X).heap H locs → lv_has ls (xC X).maxLocals (lvp G lv) → WW X H locs n k Q (F0 (xM X) pc ls (st.map (phi G)))
def Ok (X : Cx) (G : Gc) (cc : ByteArray) (own nm : String) (nL : Nat) (ret : Option FieldType) (d mc ms : Nat) : Prop :=
  X.1.tables.exec = Jvm.exec ∧ (xC X).code = cc ∧ (xC X).maxLocals = nL ∧ (xS X).vm.findClass own = some (xM X).cls ∧ (∀ w ∈ tg, w.before (xA X) (xS X) = true) ∧ Env0 G (xS X) (xS X).heap ∧ (xMeth X).sig.returnType = ret ∧ (xMeth X).locks = false ∧ d ≤ (xR X).frames ∧ 33 * d ≤ (xR X).locals ∧ mc ≤ (xR X).cells ∧ ms ≤ (xR X).slots ∧ (xMeth X).name = nm
def lgt : List (Nat × Value) → Nat → Option Value
  | [], _ => none
  | q :: l, i => if q.1 = i then some q.2 else lgt l i
def lst (lv : List (Nat × Value)) (i : Nat) (v : Value) : List (Nat × Value) := (i, v) :: lv.filter (fun q => !(q.1 == i) && !(q.1 + 1 == i && q.2.category == 2))
def lst2 (lv : List (Nat × Value)) (i : Nat) (v : Value) : List (Nat × Value) := (i, v) :: lv.filter (fun q => !(q.1 == i) && (!(q.1 == i + 1) && !(q.1 + 1 == i && q.2.category == 2)))
theorem lgt_mem {G : Gc} {i : Nat} {v : Value} : ∀ {lv : List (Nat × Value)}, lgt lv i = some v → (i, phi G v) ∈ lvp G lv
  | [], h => by cases h
  | q :: l, h => by
    unfold lgt at h
    split at h
    · rename_i e
      cases h
      subst e
      exact List.mem_cons_self
    · exact List.mem_cons_of_mem _ (lgt_mem h)
theorem lgt_has {G : Gc} {ls : Array Slot} {nL i : Nat} {v : Value} {lv : List (Nat × Value)} (L : lv_has ls nL (lvp G lv)) (h : lgt lv i = some v) : ls[i]? = some (.val (phi G v)) := L.2.2 _ (lgt_mem h)
theorem lst_p (G : Gc) (lv : List (Nat × Value)) (i : Nat) (v : Value) : (i, phi G v) :: (lvp G lv).filter (fun q => !(q.1 == i) && !(q.1 + 1 == i && q.2.category == 2)) = lvp G (lst lv i v) := by
  unfold lvp lst
  rw [List.map_cons, List.filter_map]
  congr 2
  refine List.filter_congr fun q _ => ?_
  simp [phi_cat]
theorem lst2_p (G : Gc) (lv : List (Nat × Value)) (i : Nat) (v : Value) : (i, phi G v) :: (lvp G lv).filter (fun q => !(q.1 == i) && (!(q.1 == i + 1) && !(q.1 + 1 == i && q.2.category == 2))) = lvp G (lst2 lv i v) := by
  unfold lvp lst2
  rw [List.map_cons, List.filter_map]
  congr 2
  refine List.filter_congr fun q _ => ?_
  simp [phi_cat]
theorem lv_args_p (G : Gc) : ∀ (i : Nat) (vs : List Value), lv_args i (vs.map (phi G)) = lvp G (lv_args i vs)
  | _, [] => rfl
  | i, v :: vs => by
    show (i, phi G v) :: lv_args _ (vs.map (phi G)) = (i, phi G v) :: lvp G (lv_args _ vs)
    rw [lv_args_p G, phi_cat]
theorem lg_sl_p (G : Gc) : ∀ (vs : List Value), (lg_sl (vs.map (phi G))).length = (lg_sl vs).length
  | [] => rfl
  | v :: vs => by
    have ih := lg_sl_p G vs
    unfold lg_sl at ih ⊢
    simp only [List.map_cons, List.flatMap_cons, List.length_append, ih, phi_cat]
    by_cases hc : v.category = 2 <;> simp [hc]
theorem cat_sum (G : Gc) : ∀ (st : List Value), ((st.map (phi G)).map fun v => v.category).sum = (st.map fun v => v.category).sum
  | [] => rfl
  | v :: vs => by
    simp only [List.map_cons, List.sum_cons, phi_cat, cat_sum G vs]
section ROWS
variable {X : Cx} {G : Gc} {cc : ByteArray} {own nm : String} {nL : Nat} {ret : Option FieldType} {d mc ms : Nat} {Q : State → Prop} {n k pc : Nat} {lv : List (Nat × Value)} {st : List Value} {h : Hp}
theorem r_sub (ks : List Nat) {lv' : List (Nat × Value)} (hl : lv_pick lv ks = lv') (K : At X G Q n k pc lv' st h) : At X G Q n k pc lv st h := by
  intro H locs ls M S L
  refine K H locs ls M S ⟨L.1, L.2.1, fun q hq => ?_⟩
  subst hl
  obtain ⟨x, hx, rfl⟩ := List.mem_map.mp hq
  obtain ⟨j, -, hj⟩ := List.mem_filterMap.mp hx
  exact L.2.2 _ (List.mem_map_of_mem (List.mem_of_getElem? hj))
theorem r_pc {pc' : Nat} (e : pc = pc') (K : At X G Q n k pc' lv st h) : At X G Q n k pc lv st h := e ▸ K
theorem r_iconst (C : Ok X G cc own nm nL ret d mc ms) {z : Int} {v : Int32} (hd : decode cc pc = .ok (.iconst z, 1)) (hv : Int32.ofInt z = v) (K : At X G Q n k (pc + 1) lv (.int v :: st) h) : At X G Q n k pc lv (st) h := fun H locs ls M S L => lv_iconst C.1 C.2.1 hd hv (K H locs ls M S L)
theorem r_bipush (C : Ok X G cc own nm nL ret d mc ms) {z : Int} {v : Int32} (hd : decode cc pc = .ok (.bipush z, 2)) (hv : (Int8.ofInt z).toInt32 = v) (K : At X G Q n k (pc + 2) lv (.int v :: st) h) : At X G Q n k pc lv (st) h := fun H locs ls M S L => lv_bipush C.1 C.2.1 hd hv (K H locs ls M S L)
theorem r_sipush (C : Ok X G cc own nm nL ret d mc ms) {z : Int} {v : Int32} (hd : decode cc pc = .ok (.sipush z, 3)) (hv : (Int16.ofInt z).toInt32 = v) (K : At X G Q n k (pc + 3) lv (.int v :: st) h) : At X G Q n k pc lv (st) h := fun H locs ls M S L => lv_sipush C.1 C.2.1 hd hv (K H locs ls M S L)
theorem r_lconst (C : Ok X G cc own nm nL ret d mc ms) {z : Fin 2} {v : Int64} (hd : decode cc pc = .ok (.lconst z, 1)) (hv : Int64.ofNat (z : Nat) = v) (K : At X G Q n k (pc + 1) lv (.long v :: st) h) : At X G Q n k pc lv (st) h := fun H locs ls M S L => lv_lconst C.1 C.2.1 hd hv (K H locs ls M S L)
theorem r_iadd (C : Ok X G cc own nm nL ret d mc ms) {x y : Int32} (hd : decode cc pc = .ok (.iadd, 1))  (K : At X G Q n k (pc + 1) lv (.int (x + y) :: st) h) : At X G Q n k pc lv (.int y :: .int x :: st) h := fun H locs ls M S L => lv_iadd C.1 C.2.1 hd  (K H locs ls M S L)
theorem r_isub (C : Ok X G cc own nm nL ret d mc ms) {x y : Int32} (hd : decode cc pc = .ok (.isub, 1))  (K : At X G Q n k (pc + 1) lv (.int (x - y) :: st) h) : At X G Q n k pc lv (.int y :: .int x :: st) h := fun H locs ls M S L => lv_isub C.1 C.2.1 hd  (K H locs ls M S L)
theorem r_imul (C : Ok X G cc own nm nL ret d mc ms) {x y : Int32} (hd : decode cc pc = .ok (.imul, 1))  (K : At X G Q n k (pc + 1) lv (.int (x * y) :: st) h) : At X G Q n k pc lv (.int y :: .int x :: st) h := fun H locs ls M S L => lv_imul C.1 C.2.1 hd  (K H locs ls M S L)
theorem r_iand (C : Ok X G cc own nm nL ret d mc ms) {x y : Int32} (hd : decode cc pc = .ok (.iand, 1))  (K : At X G Q n k (pc + 1) lv (.int (x &&& y) :: st) h) : At X G Q n k pc lv (.int y :: .int x :: st) h := fun H locs ls M S L => lv_iand C.1 C.2.1 hd  (K H locs ls M S L)
theorem r_ior (C : Ok X G cc own nm nL ret d mc ms) {x y : Int32} (hd : decode cc pc = .ok (.ior, 1))  (K : At X G Q n k (pc + 1) lv (.int (x ||| y) :: st) h) : At X G Q n k pc lv (.int y :: .int x :: st) h := fun H locs ls M S L => lv_ior C.1 C.2.1 hd  (K H locs ls M S L)
theorem r_ixor (C : Ok X G cc own nm nL ret d mc ms) {x y : Int32} (hd : decode cc pc = .ok (.ixor, 1))  (K : At X G Q n k (pc + 1) lv (.int (x ^^^ y) :: st) h) : At X G Q n k pc lv (.int y :: .int x :: st) h := fun H locs ls M S L => lv_ixor C.1 C.2.1 hd  (K H locs ls M S L)
theorem r_ladd (C : Ok X G cc own nm nL ret d mc ms) {x y : Int64} (hd : decode cc pc = .ok (.ladd, 1))  (K : At X G Q n k (pc + 1) lv (.long (x + y) :: st) h) : At X G Q n k pc lv (.long y :: .long x :: st) h := fun H locs ls M S L => lv_ladd C.1 C.2.1 hd  (K H locs ls M S L)
theorem r_lsub (C : Ok X G cc own nm nL ret d mc ms) {x y : Int64} (hd : decode cc pc = .ok (.lsub, 1))  (K : At X G Q n k (pc + 1) lv (.long (x - y) :: st) h) : At X G Q n k pc lv (.long y :: .long x :: st) h := fun H locs ls M S L => lv_lsub C.1 C.2.1 hd  (K H locs ls M S L)
theorem r_land (C : Ok X G cc own nm nL ret d mc ms) {x y : Int64} (hd : decode cc pc = .ok (.land, 1))  (K : At X G Q n k (pc + 1) lv (.long (x &&& y) :: st) h) : At X G Q n k pc lv (.long y :: .long x :: st) h := fun H locs ls M S L => lv_land C.1 C.2.1 hd  (K H locs ls M S L)
theorem r_lor (C : Ok X G cc own nm nL ret d mc ms) {x y : Int64} (hd : decode cc pc = .ok (.lor, 1))  (K : At X G Q n k (pc + 1) lv (.long (x ||| y) :: st) h) : At X G Q n k pc lv (.long y :: .long x :: st) h := fun H locs ls M S L => lv_lor C.1 C.2.1 hd  (K H locs ls M S L)
theorem r_idiv (C : Ok X G cc own nm nL ret d mc ms) {x y : Int32} (hd : decode cc pc = .ok (.idiv, 1)) (hne : ¬ y = 0) (K : At X G Q n k (pc + 1) lv (.int (x / y) :: st) h) : At X G Q n k pc lv (.int y :: .int x :: st) h := fun H locs ls M S L => lv_idiv C.1 C.2.1 hd hne (K H locs ls M S L)
theorem r_ishl (C : Ok X G cc own nm nL ret d mc ms) {x y : Int32} (hd : decode cc pc = .ok (.ishl, 1))  (K : At X G Q n k (pc + 1) lv (.int (x <<< (y &&& 31)) :: st) h) : At X G Q n k pc lv (.int y :: .int x :: st) h := fun H locs ls M S L => lv_ishl C.1 C.2.1 hd  (K H locs ls M S L)
theorem r_ishr (C : Ok X G cc own nm nL ret d mc ms) {x y : Int32} (hd : decode cc pc = .ok (.ishr, 1))  (K : At X G Q n k (pc + 1) lv (.int (x >>> (y &&& 31)) :: st) h) : At X G Q n k pc lv (.int y :: .int x :: st) h := fun H locs ls M S L => lv_ishr C.1 C.2.1 hd  (K H locs ls M S L)
theorem r_iushr (C : Ok X G cc own nm nL ret d mc ms) {x y : Int32} (hd : decode cc pc = .ok (.iushr, 1))  (K : At X G Q n k (pc + 1) lv (.int ((x.toUInt32 >>> (y.toUInt32 &&& Int32.toUInt32 31)).toInt32) :: st) h) : At X G Q n k pc lv (.int y :: .int x :: st) h := fun H locs ls M S L => lv_iushr C.1 C.2.1 hd rfl (K H locs ls M S L)
theorem r_lushr (C : Ok X G cc own nm nL ret d mc ms) {x : Int64} {y : Int32} (hd : decode cc pc = .ok (.lushr, 1))  (K : At X G Q n k (pc + 1) lv (.long ((x.toUInt64 >>> (y.toInt64.toUInt64 &&& Int64.toUInt64 63)).toInt64) :: st) h) : At X G Q n k pc lv (.int y :: .long x :: st) h := fun H locs ls M S L => lv_lushr C.1 C.2.1 hd rfl (K H locs ls M S L)
theorem r_lshl (C : Ok X G cc own nm nL ret d mc ms) {x : Int64} {y : Int32} (hd : decode cc pc = .ok (.lshl, 1))  (K : At X G Q n k (pc + 1) lv (.long (x <<< (y.toInt64 &&& 63)) :: st) h) : At X G Q n k pc lv (.int y :: .long x :: st) h := fun H locs ls M S L => lv_lshl C.1 C.2.1 hd rfl (K H locs ls M S L)
theorem r_lshr (C : Ok X G cc own nm nL ret d mc ms) {x : Int64} {y : Int32} (hd : decode cc pc = .ok (.lshr, 1))  (K : At X G Q n k (pc + 1) lv (.long (x >>> (y.toInt64 &&& 63)) :: st) h) : At X G Q n k pc lv (.int y :: .long x :: st) h := fun H locs ls M S L => lv_lshr C.1 C.2.1 hd rfl (K H locs ls M S L)
theorem r_i2l (C : Ok X G cc own nm nL ret d mc ms) {x : Int32} (hd : decode cc pc = .ok (.i2l, 1))  (K : At X G Q n k (pc + 1) lv (.long x.toInt64 :: st) h) : At X G Q n k pc lv (.int x :: st) h := fun H locs ls M S L => lv_i2l C.1 C.2.1 hd rfl (K H locs ls M S L)
theorem r_l2i (C : Ok X G cc own nm nL ret d mc ms) {x : Int64} (hd : decode cc pc = .ok (.l2i, 1))  (K : At X G Q n k (pc + 1) lv (.int x.toInt32 :: st) h) : At X G Q n k pc lv (.long x :: st) h := fun H locs ls M S L => lv_l2i C.1 C.2.1 hd rfl (K H locs ls M S L)
theorem r_i2b (C : Ok X G cc own nm nL ret d mc ms) {x : Int32} (hd : decode cc pc = .ok (.i2b, 1))  (K : At X G Q n k (pc + 1) lv (.int x.toInt8.toInt32 :: st) h) : At X G Q n k pc lv (.int x :: st) h := fun H locs ls M S L => lv_i2b C.1 C.2.1 hd rfl (K H locs ls M S L)
theorem r_lcmp (C : Ok X G cc own nm nL ret d mc ms) {x y : Int64} (hd : decode cc pc = .ok (.lcmp, 1))  (K : At X G Q n k (pc + 1) lv (.int (lg_cmp x y) :: st) h) : At X G Q n k pc lv (.long y :: .long x :: st) h := fun H locs ls M S L => W.lcmp C.1 C.2.1 hd  (K H locs ls M S L)
theorem r_dup (C : Ok X G cc own nm nL ret d mc ms) {v : Value} (hd : decode cc pc = .ok (.dup, 1)) (hv : v.category = 1) (K : At X G Q n k (pc + 1) lv (v :: v :: st) h) : At X G Q n k pc lv (v :: st) h := fun H locs ls M S L => lv_dup C.1 C.2.1 hd ((phi_cat G v).trans hv) (K H locs ls M S L)
theorem r_pop (C : Ok X G cc own nm nL ret d mc ms) {v : Value} (hd : decode cc pc = .ok (.pop, 1)) (hv : v.category = 1) (K : At X G Q n k (pc + 1) lv (st) h) : At X G Q n k pc lv (v :: st) h := fun H locs ls M S L => lv_pop C.1 C.2.1 hd ((phi_cat G v).trans hv) (K H locs ls M S L)
theorem r_pop2 (C : Ok X G cc own nm nL ret d mc ms) {v : Value} (hd : decode cc pc = .ok (.pop2, 1)) (hv : v.category = 2) (K : At X G Q n k (pc + 1) lv (st) h) : At X G Q n k pc lv (v :: st) h := fun H locs ls M S L => lv_pop2_2 C.1 C.2.1 hd ((phi_cat G v).trans hv) (K H locs ls M S L)
theorem r_dup2 (C : Ok X G cc own nm nL ret d mc ms) {v u : Value} (hd : decode cc pc = .ok (.dup2, 1)) (hv : v.category = 1) (hu : u.category = 1) (K : At X G Q n k (pc + 1) lv (v :: u :: v :: u :: st) h) : At X G Q n k pc lv (v :: u :: st) h := fun H locs ls M S L => lv_dup2_11 C.1 C.2.1 hd ((phi_cat G v).trans hv) ((phi_cat G u).trans hu) (K H locs ls M S L)
theorem r_iload_n (C : Ok X G cc own nm nL ret d mc ms) {j : Fin 4} {i : Nat} {x : Int32} (hd : decode cc pc = .ok (.iload_n j, 1)) (hi : (j : Nat) = i) (e : lgt lv i = some (.int x)) (K : At X G Q n k (pc + 1) lv (.int x :: st) h) : At X G Q n k pc lv st h := fun H locs ls M S L => lv_iload_n C.1 C.2.1 hd hi (lgt_has (G := G) L e) (K H locs ls M S L)
theorem r_iload (C : Ok X G cc own nm nL ret d mc ms) {i : Nat} {x : Int32} (hd : decode cc pc = .ok (.iload i, 2))  (e : lgt lv i = some (.int x)) (K : At X G Q n k (pc + 2) lv (.int x :: st) h) : At X G Q n k pc lv st h := fun H locs ls M S L => lv_iload C.1 C.2.1 hd  (lgt_has (G := G) L e) (K H locs ls M S L)
theorem r_lload_n (C : Ok X G cc own nm nL ret d mc ms) {j : Fin 4} {i : Nat} {x : Int64} (hd : decode cc pc = .ok (.lload_n j, 1)) (hi : (j : Nat) = i) (e : lgt lv i = some (.long x)) (K : At X G Q n k (pc + 1) lv (.long x :: st) h) : At X G Q n k pc lv st h := fun H locs ls M S L => lv_lload_n C.1 C.2.1 hd hi (lgt_has (G := G) L e) (K H locs ls M S L)
theorem r_aload_n (C : Ok X G cc own nm nL ret d mc ms) {j : Fin 4} {i x : Nat} (hd : decode cc pc = .ok (.aload_n j, 1)) (hi : (j : Nat) = i) (e : lgt lv i = some (.ref x)) (K : At X G Q n k (pc + 1) lv (.ref x :: st) h) : At X G Q n k pc lv st h := fun H locs ls M S L => lv_aload_n C.1 C.2.1 hd hi (lgt_has (G := G) L e) (K H locs ls M S L)
theorem r_aload (C : Ok X G cc own nm nL ret d mc ms) {i x : Nat} (hd : decode cc pc = .ok (.aload i, 2))  (e : lgt lv i = some (.ref x)) (K : At X G Q n k (pc + 2) lv (.ref x :: st) h) : At X G Q n k pc lv st h := fun H locs ls M S L => lv_aload C.1 C.2.1 hd  (lgt_has (G := G) L e) (K H locs ls M S L)
theorem r_istore_n (C : Ok X G cc own nm nL ret d mc ms) {j : Fin 4} {i : Nat} {x : Int32} {lv' : List (Nat × Value)} (hd : decode cc pc = .ok (.istore_n j, 1)) (hi : (j : Nat) = i) (hn : i < nL) (hl : lst lv i (.int x) = lv') (K : At X G Q n k (pc + 1) lv' st h) : At X G Q n k pc lv (.int x :: st) h := by
  intro H locs ls M S L
  subst hl
  exact lv_istore_n C.1 C.2.1 hd hi L (by rw [C.2.2.1]; exact hn) (lst_p G lv i (.int x)) (fun ls' L' => K H locs ls' M S L')
theorem r_istore (C : Ok X G cc own nm nL ret d mc ms) {i : Nat} {x : Int32} {lv' : List (Nat × Value)} (hd : decode cc pc = .ok (.istore i, 2))  (hn : i < nL) (hl : lst lv i (.int x) = lv') (K : At X G Q n k (pc + 2) lv' st h) : At X G Q n k pc lv (.int x :: st) h := by
  intro H locs ls M S L
  subst hl
  exact lv_istore C.1 C.2.1 hd  L (by rw [C.2.2.1]; exact hn) (lst_p G lv i (.int x)) (fun ls' L' => K H locs ls' M S L')
theorem r_lstore_n (C : Ok X G cc own nm nL ret d mc ms) {j : Fin 4} {i : Nat} {x : Int64} {lv' : List (Nat × Value)} (hd : decode cc pc = .ok (.lstore_n j, 1)) (hi : (j : Nat) = i) (hn : i + 1 < nL) (hl : lst2 lv i (.long x) = lv') (K : At X G Q n k (pc + 1) lv' st h) : At X G Q n k pc lv (.long x :: st) h := by
  intro H locs ls M S L
  subst hl
  exact lv_lstore_n C.1 C.2.1 hd hi L (by rw [C.2.2.1]; exact hn) (lst2_p G lv i (.long x)) (fun ls' L' => K H locs ls' M S L')
theorem r_astore_n (C : Ok X G cc own nm nL ret d mc ms) {j : Fin 4} {i x : Nat} {lv' : List (Nat × Value)} (hd : decode cc pc = .ok (.astore_n j, 1)) (hi : (j : Nat) = i) (hn : i < nL) (hl : lst lv i (.ref x) = lv') (K : At X G Q n k (pc + 1) lv' st h) : At X G Q n k pc lv (.ref x :: st) h := by
  intro H locs ls M S L
  subst hl
  exact lv_astore_n C.1 C.2.1 hd hi L (by rw [C.2.2.1]; exact hn) (lst_p G lv i (.ref x)) (fun ls' L' => K H locs ls' M S L')
theorem r_astore (C : Ok X G cc own nm nL ret d mc ms) {i x : Nat} {lv' : List (Nat × Value)} (hd : decode cc pc = .ok (.astore i, 2))  (hn : i < nL) (hl : lst lv i (.ref x) = lv') (K : At X G Q n k (pc + 2) lv' st h) : At X G Q n k pc lv (.ref x :: st) h := by
  intro H locs ls M S L
  subst hl
  exact lv_astore C.1 C.2.1 hd  L (by rw [C.2.2.1]; exact hn) (lst_p G lv i (.ref x)) (fun ls' L' => K H locs ls' M S L')
theorem r_iinc (C : Ok X G cc own nm nL ret d mc ms) {i : Nat} {z : Int} {x v : Int32} {lv' : List (Nat × Value)} (hd : decode cc pc = .ok (.iinc i z, 3)) (e : lgt lv i = some (.int x)) (hv : x + Int32.ofInt z = v) (hn : i < nL) (hl : lst lv i (.int v) = lv') (K : At X G Q n k (pc + 3) lv' st h) : At X G Q n k pc lv st h := by
  intro H locs ls M S L
  subst hl
  obtain ⟨j, hj⟩ := List.getElem?_of_mem (lgt_mem (G := G) e)
  exact lv_iinc C.1 C.2.1 hd L hj hv (by rw [C.2.2.1]; exact hn) (lst_p G lv i (.int v)) (fun ls' L' => K H locs ls' M S L')
theorem r_icmp_eq (C : Ok X G cc own nm nL ret d mc ms) {x y : Int32} {off : Int} (tgt : Nat) (hd : decode cc pc = .ok (.if_icmp .eq off, 3)) (ht : (pc : Int) + off = (tgt : Int)) (K1 : x = y → At X G Q n k tgt lv st h) (K2 : ¬ x = y → At X G Q n k (pc + 3) lv st h) : At X G Q n k pc lv (.int y :: .int x :: st) h := fun H locs ls M S L => lv_icmp_eq C.1 C.2.1 hd ht (fun e => K1 e H locs ls M S L) (fun e => K2 e H locs ls M S L)
theorem r_if_eq (C : Ok X G cc own nm nL ret d mc ms) {x : Int32} {off : Int} (tgt : Nat) (hd : decode cc pc = .ok (.ifCond .eq off, 3)) (ht : (pc : Int) + off = (tgt : Int)) (K1 : x = 0 → At X G Q n k tgt lv st h) (K2 : ¬ x = 0 → At X G Q n k (pc + 3) lv st h) : At X G Q n k pc lv (.int x :: st) h := fun H locs ls M S L => lv_if_eq C.1 C.2.1 hd ht (fun e => K1 e H locs ls M S L) (fun e => K2 e H locs ls M S L)
theorem r_icmp_ne (C : Ok X G cc own nm nL ret d mc ms) {x y : Int32} {off : Int} (tgt : Nat) (hd : decode cc pc = .ok (.if_icmp .ne off, 3)) (ht : (pc : Int) + off = (tgt : Int)) (K1 : ¬ x = y → At X G Q n k tgt lv st h) (K2 : x = y → At X G Q n k (pc + 3) lv st h) : At X G Q n k pc lv (.int y :: .int x :: st) h := fun H locs ls M S L => lv_icmp_ne C.1 C.2.1 hd ht (fun e => K1 e H locs ls M S L) (fun e => K2 e H locs ls M S L)
theorem r_if_ne (C : Ok X G cc own nm nL ret d mc ms) {x : Int32} {off : Int} (tgt : Nat) (hd : decode cc pc = .ok (.ifCond .ne off, 3)) (ht : (pc : Int) + off = (tgt : Int)) (K1 : ¬ x = 0 → At X G Q n k tgt lv st h) (K2 : x = 0 → At X G Q n k (pc + 3) lv st h) : At X G Q n k pc lv (.int x :: st) h := fun H locs ls M S L => lv_if_ne C.1 C.2.1 hd ht (fun e => K1 e H locs ls M S L) (fun e => K2 e H locs ls M S L)
theorem r_icmp_lt (C : Ok X G cc own nm nL ret d mc ms) {x y : Int32} {off : Int} (tgt : Nat) (hd : decode cc pc = .ok (.if_icmp .lt off, 3)) (ht : (pc : Int) + off = (tgt : Int)) (K1 : x < y → At X G Q n k tgt lv st h) (K2 : ¬ x < y → At X G Q n k (pc + 3) lv st h) : At X G Q n k pc lv (.int y :: .int x :: st) h := fun H locs ls M S L => lv_icmp_lt C.1 C.2.1 hd ht (fun e => K1 e H locs ls M S L) (fun e => K2 e H locs ls M S L)
theorem r_if_lt (C : Ok X G cc own nm nL ret d mc ms) {x : Int32} {off : Int} (tgt : Nat) (hd : decode cc pc = .ok (.ifCond .lt off, 3)) (ht : (pc : Int) + off = (tgt : Int)) (K1 : x < 0 → At X G Q n k tgt lv st h) (K2 : ¬ x < 0 → At X G Q n k (pc + 3) lv st h) : At X G Q n k pc lv (.int x :: st) h := fun H locs ls M S L => lv_if_lt C.1 C.2.1 hd ht (fun e => K1 e H locs ls M S L) (fun e => K2 e H locs ls M S L)
theorem r_icmp_ge (C : Ok X G cc own nm nL ret d mc ms) {x y : Int32} {off : Int} (tgt : Nat) (hd : decode cc pc = .ok (.if_icmp .ge off, 3)) (ht : (pc : Int) + off = (tgt : Int)) (K1 : y ≤ x → At X G Q n k tgt lv st h) (K2 : ¬ y ≤ x → At X G Q n k (pc + 3) lv st h) : At X G Q n k pc lv (.int y :: .int x :: st) h := fun H locs ls M S L => lv_icmp_ge C.1 C.2.1 hd ht (fun e => K1 e H locs ls M S L) (fun e => K2 e H locs ls M S L)
theorem r_if_ge (C : Ok X G cc own nm nL ret d mc ms) {x : Int32} {off : Int} (tgt : Nat) (hd : decode cc pc = .ok (.ifCond .ge off, 3)) (ht : (pc : Int) + off = (tgt : Int)) (K1 : 0 ≤ x → At X G Q n k tgt lv st h) (K2 : ¬ 0 ≤ x → At X G Q n k (pc + 3) lv st h) : At X G Q n k pc lv (.int x :: st) h := fun H locs ls M S L => lv_if_ge C.1 C.2.1 hd ht (fun e => K1 e H locs ls M S L) (fun e => K2 e H locs ls M S L)
theorem r_icmp_gt (C : Ok X G cc own nm nL ret d mc ms) {x y : Int32} {off : Int} (tgt : Nat) (hd : decode cc pc = .ok (.if_icmp .gt off, 3)) (ht : (pc : Int) + off = (tgt : Int)) (K1 : y < x → At X G Q n k tgt lv st h) (K2 : ¬ y < x → At X G Q n k (pc + 3) lv st h) : At X G Q n k pc lv (.int y :: .int x :: st) h := fun H locs ls M S L => lv_icmp_gt C.1 C.2.1 hd ht (fun e => K1 e H locs ls M S L) (fun e => K2 e H locs ls M S L)
theorem r_if_gt (C : Ok X G cc own nm nL ret d mc ms) {x : Int32} {off : Int} (tgt : Nat) (hd : decode cc pc = .ok (.ifCond .gt off, 3)) (ht : (pc : Int) + off = (tgt : Int)) (K1 : 0 < x → At X G Q n k tgt lv st h) (K2 : ¬ 0 < x → At X G Q n k (pc + 3) lv st h) : At X G Q n k pc lv (.int x :: st) h := fun H locs ls M S L => lv_if_gt C.1 C.2.1 hd ht (fun e => K1 e H locs ls M S L) (fun e => K2 e H locs ls M S L)
theorem r_icmp_le (C : Ok X G cc own nm nL ret d mc ms) {x y : Int32} {off : Int} (tgt : Nat) (hd : decode cc pc = .ok (.if_icmp .le off, 3)) (ht : (pc : Int) + off = (tgt : Int)) (K1 : x ≤ y → At X G Q n k tgt lv st h) (K2 : ¬ x ≤ y → At X G Q n k (pc + 3) lv st h) : At X G Q n k pc lv (.int y :: .int x :: st) h := fun H locs ls M S L => lv_icmp_le C.1 C.2.1 hd ht (fun e => K1 e H locs ls M S L) (fun e => K2 e H locs ls M S L)
theorem r_if_le (C : Ok X G cc own nm nL ret d mc ms) {x : Int32} {off : Int} (tgt : Nat) (hd : decode cc pc = .ok (.ifCond .le off, 3)) (ht : (pc : Int) + off = (tgt : Int)) (K1 : x ≤ 0 → At X G Q n k tgt lv st h) (K2 : ¬ x ≤ 0 → At X G Q n k (pc + 3) lv st h) : At X G Q n k pc lv (.int x :: st) h := fun H locs ls M S L => lv_if_le C.1 C.2.1 hd ht (fun e => K1 e H locs ls M S L) (fun e => K2 e H locs ls M S L)
theorem r_goto (C : Ok X G cc own nm nL ret d mc ms) {off : Int} (tgt : Nat) (hd : decode cc pc = .ok (.goto off, 3)) (ht : (pc : Int) + off = (tgt : Int)) (K : At X G Q n k tgt lv st h) : At X G Q n k pc lv st h := fun H locs ls M S L => lv_goto C.1 C.2.1 hd ht (K H locs ls M S L)
theorem r_ifnonnull (C : Ok X G cc own nm nL ret d mc ms) {x : Nat} {off : Int} (tgt : Nat) (hd : decode cc pc = .ok (.ifnonnull off, 3)) (ht : (pc : Int) + off = (tgt : Int)) (K : At X G Q n k tgt lv st h) : At X G Q n k pc lv (.ref x :: st) h := fun H locs ls M S L => lv_ifnonnull C.1 C.2.1 hd ht (K H locs ls M S L)
theorem r_tableIn (C : Ok X G cc own nm nL ret d mc ms) {dflt lo hi : Int} {offs : Array Int} {len : Nat} {x : Int32} {off : Int} (tgt : Nat) (hd : decode cc pc = .ok (.tableswitch dflt lo hi offs, len)) (h1 : ¬ x.toInt < lo) (h2 : ¬ hi < x.toInt) (ho : offs[(x.toInt - lo).toNat]? = some off) (ht : (pc : Int) + off = (tgt : Int)) (K : At X G Q n k tgt lv st h) : At X G Q n k pc lv (.int x :: st) h := fun H locs ls M S L => lv_tableIn C.1 C.2.1 hd h1 h2 ho ht (K H locs ls M S L)
theorem r_tableOut (C : Ok X G cc own nm nL ret d mc ms) {dflt lo hi : Int} {offs : Array Int} {len : Nat} {x : Int32} (tgt : Nat) (hd : decode cc pc = .ok (.tableswitch dflt lo hi offs, len)) (ho : x.toInt < lo ∨ hi < x.toInt) (ht : (pc : Int) + dflt = (tgt : Int)) (K : At X G Q n k tgt lv st h) : At X G Q n k pc lv (.int x :: st) h := fun H locs ls M S L => lv_tableOut C.1 C.2.1 hd ho ht (K H locs ls M S L)
theorem r_lookup (C : Ok X G cc own nm nL ret d mc ms) {dflt : Int} {ps : Array (Int × Int)} {len : Nat} {x : Int32} {off : Int} (tgt : Nat) (hd : decode cc pc = .ok (.lookupswitch dflt ps, len)) (hp : (ps.toList.zip (ps.toList.drop 1)).all (fun (a, next) => a.1 < next.1) = true) (ho : Op.lookupswitch.offset ps.toList dflt x.toInt = off) (ht : (pc : Int) + off = (tgt : Int)) (K : At X G Q n k tgt lv st h) : At X G Q n k pc lv (.int x :: st) h := fun H locs ls M S L => lv_lookup C.1 C.2.1 hd hp ho ht (K H locs ls M S L)
theorem r_ldc (C : Ok X G cc own nm nL ret d mc ms) {idx : Nat} {v : Int32} (wc : Cond.constant own idx v ∈ tg) (hd : decode cc pc = .ok (.ldc idx, 2)) (K : At X G Q n k (pc + 2) lv (.int v :: st) h) : At X G Q n k pc lv st h := fun H locs ls M S L => lv_ldc C.1 C.2.1 C.2.2.2.1 (C.2.2.2.2.1 _ wc) hd (K H locs ls M S L)
theorem r_ldcw (C : Ok X G cc own nm nL ret d mc ms) {idx : Nat} {v : Int32} (wc : Cond.constant own idx v ∈ tg) (hd : decode cc pc = .ok (.ldc_w idx, 3)) (K : At X G Q n k (pc + 3) lv (.int v :: st) h) : At X G Q n k pc lv st h := fun H locs ls M S L => lv_ldcw C.1 C.2.1 C.2.2.2.1 (C.2.2.2.2.1 _ wc) hd (K H locs ls M S L)
theorem r_ldc2 (C : Ok X G cc own nm nL ret d mc ms) {idx : Nat} {v : Int64} (wc : Cond.constantLong own idx v ∈ tg) (hd : decode cc pc = .ok (.ldc2_w idx, 3)) (K : At X G Q n k (pc + 3) lv (.long v :: st) h) : At X G Q n k pc lv st h := fun H locs ls M S L => lv_ldc2 C.1 C.2.1 C.2.2.2.1 (C.2.2.2.2.1 _ wc) hd (K H locs ls M S L)
end ROWS
/-! the program's own words for what its instructions do with the heap -/
def inb (i : Int32) (n : Nat) : Bool := decide (0 ≤ i.toInt) && decide (i.toInt < n)
theorem inb_in {i : Int32} {n : Nat} (h : inb i n = true) : vp_in i n := by
  unfold inb at h
  simp only [Bool.and_eq_true, decide_eq_true_eq] at h
  exact vp_in_iff.mpr h
def isI (ty : FieldType) : Bool := match ty with
  | .long => false
  | .object _ => false
  | .array _ => false
  | _ => true
def isRf (ty : FieldType) : Bool := match ty with
  | .object _ => true
  | .array _ => true
  | _ => false
def ck (c q : Nat) (h : Hp) : Option Unit := if h.1[q]? = some (c, 0) then some () else none
def gI (c k q : Nat) (h : Hp) : Option Int32 := if h.1[q]? = some (c, 0) then some (h.2.1 q k) else none
def gL (c k q : Nat) (h : Hp) : Option Int64 := if h.1[q]? = some (c, 0) then some (h.2.2.1 q k) else none
def gR (c k q : Nat) (h : Hp) : Option Nat := if h.1[q]? = some (c, 0) then h.2.2.2 q k else none
def pI (c k q : Nat) (v : Int32) (h : Hp) : Option Hp := if h.1[q]? = some (c, 0) then some (sI h q k v) else none
def pZ (c k q : Nat) (v : Int32) (h : Hp) : Option Hp := if h.1[q]? = some (c, 0) ∧ (v = 0 ∨ v = 1) then some (sI h q k v) else none
def pL (c k q : Nat) (v : Int64) (h : Hp) : Option Hp := if h.1[q]? = some (c, 0) then some (sL h q k v) else none
def pR (c k q : Nat) (v : Nat) (h : Hp) : Option Hp := if h.1[q]? = some (c, 0) then some (sR h q k (some v)) else none
def aln (q : Nat) (h : Hp) : Option Int32 := (h.1[q]?).bind fun x => if 50 ≤ x.1 ∧ x.1 < 56 then some (Int32.ofNat x.2) else none
def aI (t q : Nat) (i : Int32) (h : Hp) : Option Int32 := (h.1[q]?).bind fun x => if x.1 = 50 + t ∧ inb i x.2 = true then some (h.2.1 q i.toNatClampNeg) else none
def aL (q : Nat) (i : Int32) (h : Hp) : Option Int64 := (h.1[q]?).bind fun x => if x.1 = 53 ∧ inb i x.2 = true then some (h.2.2.1 q i.toNatClampNeg) else none
def aR (t q : Nat) (i : Int32) (h : Hp) : Option Nat := (h.1[q]?).bind fun x => if x.1 = 50 + t ∧ inb i x.2 = true then h.2.2.2 q i.toNatClampNeg else none
def tI (q : Nat) (i v : Int32) (h : Hp) : Option Hp := (h.1[q]?).bind fun x => if x.1 = 50 ∧ inb i x.2 = true then some (sI h q i.toNatClampNeg v) else none
def tB (q : Nat) (i v : Int32) (h : Hp) : Option Hp := (h.1[q]?).bind fun x => if x.1 = 51 ∧ inb i x.2 = true then some (sI h q i.toNatClampNeg v.toInt8.toInt32) else none
def tZ (q : Nat) (i v : Int32) (h : Hp) : Option Hp := (h.1[q]?).bind fun x => if x.1 = 52 ∧ inb i x.2 = true ∧ (v = 0 ∨ v = 1) then some (sI h q i.toNatClampNeg v) else none
def tL (q : Nat) (i : Int32) (v : Int64) (h : Hp) : Option Hp := (h.1[q]?).bind fun x => if x.1 = 53 ∧ inb i x.2 = true then some (sL h q i.toNatClampNeg v) else none
def tR (t c q : Nat) (i : Int32) (v : Nat) (h : Hp) : Option Hp := (h.1[q]?).bind fun x => if x.1 = 50 + t ∧ inb i x.2 = true ∧ h.1[v]? = some (c, 0) then some (sR h q i.toNatClampNeg (some v)) else none
def zr (v : Int32) (h : Hp) : Option (Int32 × Hp) := if v = 0 ∨ v = 1 then some (v, h) else none
def zf {α : Type} (f : Nat → Nat → α) (q : Nat) (v : α) : Nat → Nat → α := fun a b => if a = q then v else f a b
/-- a new cell -/
def nw (x : Nat × Nat) (h : Hp) : Hp := (h.1 ++ [x], zf h.2.1 h.1.length 0, zf h.2.2.1 h.1.length 0, zf h.2.2.2 h.1.length none)
def nwO (c : Nat) (h : Hp) : Option (Nat × Hp) := if h.1.length < 9000 then some (h.1.length, nw (c, 0) h) else none
def nwA (t : Nat) (n : Int32) (h : Hp) : Option (Nat × Hp) := if h.1.length < 9000 ∧ inb n 100000 = true then some (h.1.length, nw (50 + t, n.toNatClampNeg) h) else none
theorem ite_some {α : Type} {c : Prop} [Decidable c] {a : Option α} {r : α} (h : (if c then a else none) = some r) : c ∧ a = some r := by
  by_cases hc : c
  · rw [if_pos hc] at h
    exact ⟨hc, h⟩
  · rw [if_neg hc] at h
    cases h
theorem arr_some {α : Type} {o : Option (Nat × Nat)} {f : Nat × Nat → Option α} {r : α} (h : o.bind f = some r) : ∃ x, o = some x ∧ f x = some r := Option.bind_eq_some_iff.mp h
section ROWS2
variable {X : Cx} {G : Gc} {cc : ByteArray} {own nm : String} {nL : Nat} {ret : Option FieldType} {d mc ms : Nat} {Q : State → Prop} {n k pc : Nat} {lv : List (Nat × Value)} {st : List Value} {h : Hp}
theorem lay_good {C : String} {T : u_T} {N : Nat} {w : Cond} (h : w ∈ u_ws C T N) : goodWord w = true := by
  obtain ⟨j, -, rfl⟩ := List.mem_map.mp h
  unfold u_lay
  split <;> rfl
def Fld (own : String) (idx c j : Nat) : Prop := c < 9 ∧ j < nOf c ∧ Cond.fieldLink own idx (TOf c j).1 (TOf c j).2.1 (TOf c j).2.2.1 ∈ tg
theorem fv_I {G : Gc} {h : Hp} {q j : Nat} {ty : FieldType} (hy : isI ty = true) : fv G h q j ty = .int (h.2.1 q j) := by cases ty <;> first | rfl | cases hy
theorem fv_R {G : Gc} {h : Hp} {q j : Nat} {ty : FieldType} (hy : isRf ty = true) : fv G h q j ty = va_rf ((h.2.2.2 q j).map (adG G)) := by cases ty <;> first | rfl | cases hy
theorem x_get (C : Ok X G cc own nm nL ret d mc ms) {idx c j q : Nat} {v : Value} (f : Fld own idx c j) (hq : h.1[q]? = some (c, 0)) (hv : fv G h q j (yOf c j) = phi G v) (hd : decode cc pc = .ok (.getfield idx, 3)) (K : At X G Q n k (pc + 3) lv (v :: st) h) : At X G Q n k pc lv (.ref q :: st) h := by
  intro H locs ls M S L
  obtain ⟨f1, f2, f3⟩ := f
  exact va_get (D := G.1) (ci := c) (v := phi G v) C.1 C.2.1 C.2.2.2.2.1 (fun w hw => tg_of (cl_in f1 w hw) (lay_good hw)) C.2.2.2.1 C.2.2.2.2.2.1.1 (M.obj hq f1) 0 rfl (cl_at f1) j f2 (C.2.2.2.2.1 _ f3) (fun _ h9 => h9) (by rw [fl_get G h q c f2, hv]) hd (K H locs ls M S L)
theorem r_getI (C : Ok X G cc own nm nL ret d mc ms) {idx c j q : Nat} {v : Int32} (f : Fld own idx c j) (hy : isI (yOf c j) = true) (hd : decode cc pc = .ok (.getfield idx, 3)) (e : gI c j q h = some v) (K : At X G Q n k (pc + 3) lv (.int v :: st) h) : At X G Q n k pc lv (.ref q :: st) h := by
  obtain ⟨e1, e2⟩ := ite_some e
  cases e2
  exact x_get C f e1 (fv_I hy) hd K
theorem r_getL (C : Ok X G cc own nm nL ret d mc ms) {idx c j q : Nat} {v : Int64} (f : Fld own idx c j) (hy : yOf c j = .long) (hd : decode cc pc = .ok (.getfield idx, 3)) (e : gL c j q h = some v) (K : At X G Q n k (pc + 3) lv (.long v :: st) h) : At X G Q n k pc lv (.ref q :: st) h := by
  obtain ⟨e1, e2⟩ := ite_some e
  cases e2
  exact x_get C f e1 (by rw [hy]; rfl) hd K
theorem r_getR (C : Ok X G cc own nm nL ret d mc ms) {idx c j q v : Nat} (f : Fld own idx c j) (hy : isRf (yOf c j) = true) (hd : decode cc pc = .ok (.getfield idx, 3)) (e : gR c j q h = some v) (K : At X G Q n k (pc + 3) lv (.ref v :: st) h) : At X G Q n k pc lv (.ref q :: st) h := by
  obtain ⟨e1, e2⟩ := ite_some e
  exact x_get C f e1 (by rw [fv_R hy, e2]; rfl) hd K
/-- a field is written -/
theorem x_put (C : Ok X G cc own nm nL ret d mc ms) {idx c j q : Nat} {v : Value} {h' : Hp} (f : Fld own idx c j) (hq : h.1[q]? = some (c, 0)) (hfin : (TOf c j).2.2.2 = false ∨ (TOf c j).2.2.2 = true ∧ nm = "<init>" ∧ (TOf c j).1 = own) (hn : narrow (yOf c j) (phi G v) = phi G v) (hfit : fits (yOf c j) (phi G v) = true) (hsh : h'.1 = h.1) (ho : ∀ (q' : Nat) (x : Nat × Nat), q' ≠ q → cel G h' q' x = cel G h q' x) (hs : ∀ i, i < nOf c → fv G h' q i (yOf c i) = if i = j then phi G v else fv G h q i (yOf c i)) (hd : decode cc pc = .ok (.putfield idx, 3)) (K : At X G Q n k (pc + 3) lv st h') : At X G Q n k pc lv (v :: .ref q :: st) h := by
  intro H locs ls M S L
  obtain ⟨f1, f2, f3⟩ := f
  have hts := C.2.2.2.2.1
  have hown := C.2.2.2.1
  have hK := C.2.2.2.2.2.1.1
  have hin : ∀ w ∈ u_ws (ROf c) (TOf c) (nOf c), w ∈ tg := fun w hw => tg_of (cl_in f1 w hw) (lay_good hw)
  have hap := va_apart (own := own) hts hin (yOf c) (cl_ty f1) (cl_nm f1) hK (cl_at f1)
  obtain ⟨r, h1, cell, q1, q2, q3, q4⟩ := M.obj hq f1 0 _ rfl
  have hr : r = (ROf c, TOf c, nOf c) := Option.some.inj (h1.symm.trans (cl_at f1))
  subst hr
  obtain ⟨hS, hfc, kC, hkC, hkind⟩ := hK.1 c _ (cl_at f1)
  obtain ⟨cf, kf, fi, fd, hi, hsl⟩ := hS j f2
  have hlay := hts _ (hin _ (u_in_lay f2))
  have hst := (u_facts hfc hkC (u_lays hts hin f2) hi).1
  have fin : ∀ H' : Heap, H'[adG G q]? = some (cell.setSlot fd.slot (phi G v)) → H'.size = H.size → (∀ a : Nat, a ≠ adG G q → H'[a]? = H[a]?) → Mst G h' H' := by
    intro H' e1 e2 e3
    refine M.wr e2 hq e3 hsh ho ?_
    unfold cel
    rw [if_pos (show (c, 0).1 < 50 by show c < 50; omega)]
    rw [hsl] at e1
    refine ⟨_, cl_at f1, t_OB.to (V := updV (vp_V (fl G h q c)) j (phi G v)) ⟨_, e1, q2, q3, t_set q4 hap f2 (phi G v)⟩ (fun i hi2 => ?_)⟩
    rw [fl_V G h' q c hi2, hs i hi2]
    unfold updV
    by_cases e : i = j
    · rw [if_pos e, if_pos e]
    · rw [if_neg e, if_neg e, fl_V G h q c hi2]
  unfold u_lay at hlay
  rcases hfin with hfin | ⟨hfin, hnm, hdecl⟩
  · rw [if_neg (by rw [hfin]; decide)] at hlay
    have h6 := u_store hfc hkC hkind hlay hi (cl_ty f1 j f2) hn hfit
    refine W.putK C.1 C.2.1 (f := fd) ⟨hown, hts _ f3, ⟨_, _, _, hi⟩, hst⟩ (by rw [q2]; exact h6) q1 q3 (by rw [hsl]; exact k2_hasslot (q4 j f2)) rfl rfl hd fun H' e1 e2 e3 => ?_
    exact K H' _ ls (fin H' e1 e2 e3) (S.put e2 e3 (M.in_A hq)) L
  · rw [if_pos hfin] at hlay
    have hcf : (xM X).cls = cf := by
      obtain ⟨_, _, c', _, _, _, -, -, hf', -, -, -, hown2, -⟩ := Cond.laysFinal_spec hlay
      have e1 : c' = cf := by have := hi.symm.trans hf'; simp at this; exact this.1.symm
      rw [hdecl] at hown2
      rw [← e1]; exact Option.some.inj (hown.symm.trans hown2)
    have h6 := u_fits hfc hkC hkind (Or.inr hlay) hi (cl_ty f1 j f2) hn hfit
    refine W.putFinK C.1 C.2.1 hown (hts _ f3) hi hst hcf (C.2.2.2.2.2.2.2.2.2.2.2.2.trans hnm) (by rw [q2]; exact h6) q1 q3 (by rw [hsl]; exact k2_hasslot (q4 j f2)) rfl rfl hd fun H' e1 e2 e3 => ?_
    exact K H' _ ls (fin H' e1 e2 e3) (S.put e2 e3 (M.in_A hq)) L
theorem fv_sI {G : Gc} {h : Hp} {q j : Nat} {v : Int32} {c : Nat} (hy : isI (yOf c j) = true) : ∀ i, i < nOf c → fv G (sI h q j v) q i (yOf c i) = if i = j then phi G (.int v) else fv G h q i (yOf c i) := by
  intro i _
  by_cases e : i = j
  · subst e
    rw [if_pos rfl, fv_I hy]
    simp [sI, up, phi]
  · rw [if_neg e]
    cases yOf c i <;> simp [fv, sI, up, e]
theorem fv_sL {G : Gc} {h : Hp} {q j : Nat} {v : Int64} {c : Nat} (hy : yOf c j = .long) : ∀ i, i < nOf c → fv G (sL h q j v) q i (yOf c i) = if i = j then phi G (.long v) else fv G h q i (yOf c i) := by
  intro i _
  by_cases e : i = j
  · subst e
    rw [if_pos rfl, hy]
    simp [fv, sL, up, phi]
  · rw [if_neg e]
    cases yOf c i <;> simp [fv, sL, up, e]
theorem fv_sR {G : Gc} {h : Hp} {q j v : Nat} {c : Nat} (hy : isRf (yOf c j) = true) : ∀ i, i < nOf c → fv G (sR h q j (some v)) q i (yOf c i) = if i = j then phi G (.ref v) else fv G h q i (yOf c i) := by
  intro i _
  by_cases e : i = j
  · subst e
    rw [if_pos rfl, fv_R hy]
    simp [sR, up, phi, va_rf]
  · rw [if_neg e]
    cases yOf c i <;> simp [fv, sR, up, e]
def Fin' (own nm : String) (c j : Nat) : Prop := (TOf c j).2.2.2 = false ∨ (TOf c j).2.2.2 = true ∧ nm = "<init>" ∧ (TOf c j).1 = own
theorem r_putI (C : Ok X G cc own nm nL ret d mc ms) {idx c j q : Nat} {v : Int32} {h' : Hp} (f : Fld own idx c j) (g : Fin' own nm c j) (hy : yOf c j = .int) (hd : decode cc pc = .ok (.putfield idx, 3)) (e : pI c j q v h = some h') (K : At X G Q n k (pc + 3) lv st h') : At X G Q n k pc lv (.int v :: .ref q :: st) h := by
  obtain ⟨e1, e2⟩ := ite_some e
  cases e2
  exact x_put (h' := sI h q j v) C f e1 g (by rw [hy]; rfl) (by rw [hy]; rfl) rfl (fun q' x z => cel_sI G h q j v x z) (fv_sI (by rw [hy]; rfl)) hd K
theorem r_putZ (C : Ok X G cc own nm nL ret d mc ms) {idx c j q : Nat} {v : Int32} {h' : Hp} (f : Fld own idx c j) (g : Fin' own nm c j) (hy : yOf c j = .boolean) (hd : decode cc pc = .ok (.putfield idx, 3)) (e : pZ c j q v h = some h') (K : At X G Q n k (pc + 3) lv st h') : At X G Q n k pc lv (.int v :: .ref q :: st) h := by
  obtain ⟨⟨e1, e3⟩, e2⟩ := ite_some e
  cases e2
  refine x_put (h' := sI h q j v) C f e1 g ?_ ?_ rfl (fun q' x z => cel_sI G h q j v x z) (fv_sI (by rw [hy]; rfl)) hd K
  · rw [hy]; rcases e3 with rfl | rfl; exact (by decide : narrow .boolean (.int 0) = .int 0); exact (by decide : narrow .boolean (.int 1) = .int 1)
  · rw [hy]; rcases e3 with rfl | rfl; exact (by decide : fits .boolean (.int 0) = true); exact (by decide : fits .boolean (.int 1) = true)
theorem r_putL (C : Ok X G cc own nm nL ret d mc ms) {idx c j q : Nat} {v : Int64} {h' : Hp} (f : Fld own idx c j) (g : Fin' own nm c j) (hy : yOf c j = .long) (hd : decode cc pc = .ok (.putfield idx, 3)) (e : pL c j q v h = some h') (K : At X G Q n k (pc + 3) lv st h') : At X G Q n k pc lv (.long v :: .ref q :: st) h := by
  obtain ⟨e1, e2⟩ := ite_some e
  cases e2
  exact x_put (h' := sL h q j v) C f e1 g (by rw [hy]; rfl) (by rw [hy]; rfl) rfl (fun q' x z => cel_sL G h q j v x z) (fv_sL hy) hd K
theorem r_putR (C : Ok X G cc own nm nL ret d mc ms) {idx c j q v : Nat} {h' : Hp} (f : Fld own idx c j) (g : Fin' own nm c j) (hy : isRf (yOf c j) = true) (hd : decode cc pc = .ok (.putfield idx, 3)) (e : pR c j q v h = some h') (K : At X G Q n k (pc + 3) lv st h') : At X G Q n k pc lv (.ref v :: .ref q :: st) h := by
  obtain ⟨e1, e2⟩ := ite_some e
  cases e2
  refine x_put (h' := sR h q j (some v)) C f e1 g ?_ ?_ rfl (fun q' x z => cel_sR G h q j (some v) x z) (fv_sR hy) hd K
  · cases hz : yOf c j <;> rw [hz] at hy <;> first | rfl | cases hy
  · cases hz : yOf c j <;> rw [hz] at hy <;> first | rfl | cases hy
end ROWS2
end
section
/-! ROWS: arrays, new cells, calls, ends -/
section ROWS3
variable {X : Cx} {G : Gc} {cc : ByteArray} {own nm : String} {nL : Nat} {ret : Option FieldType} {d mc ms : Nat} {Q : State → Prop} {n k pc : Nat} {lv : List (Nat × Value)} {st : List Value} {h : Hp}
theorem arr_x {α : Type} {q m : Nat} {P : Nat → Prop} [∀ j, Decidable (P j)] {v r : α} (e : (h.1[q]?).bind (fun x => if x.1 = m ∧ P x.2 then some v else none) = some r) : ∃ j, h.1[q]? = some (m, j) ∧ P j ∧ v = r := by
  obtain ⟨⟨t, j⟩, e1, e2⟩ := arr_some e
  obtain ⟨⟨e3, e4⟩, e5⟩ := ite_some e2
  cases e5
  have e3 : t = m := e3
  subst e3
  exact ⟨j, e1, e4, rfl⟩
theorem r_iaload (C : Ok X G cc own nm nL ret d mc ms) {q : Nat} {i v : Int32} (hd : decode cc pc = .ok (.iaload, 1)) (e : aI 0 q i h = some v) (K : At X G Q n k (pc + 1) lv (.int v :: st) h) : At X G Q n k pc lv (.int i :: .ref q :: st) h := by
  obtain ⟨j, e1, e2, rfl⟩ := arr_x (P := fun j => inb i j = true) e
  exact fun H locs ls M S L => va_iald C.1 C.2.1 C.2.2.2.2.2.1.1 (M.arr (t := 0) e1) 0 0 (f := h.2.1 q) rfl rfl (inb_in e2) hd (K H locs ls M S L)
theorem r_baload (C : Ok X G cc own nm nL ret d mc ms) {q : Nat} {i v : Int32} (hd : decode cc pc = .ok (.baload, 1)) (e : aI 1 q i h = some v) (K : At X G Q n k (pc + 1) lv (.int v :: st) h) : At X G Q n k pc lv (.int i :: .ref q :: st) h := by
  obtain ⟨j, e1, e2, rfl⟩ := arr_x (P := fun j => inb i j = true) e
  exact fun H locs ls M S L => va_bald C.1 C.2.1 C.2.2.2.2.2.1.1 (M.arr (t := 1) e1) 0 1 (f := h.2.1 q) rfl rfl (inb_in e2) hd (K H locs ls M S L)
theorem r_zaload (C : Ok X G cc own nm nL ret d mc ms) {q : Nat} {i v : Int32} (hd : decode cc pc = .ok (.baload, 1)) (e : aI 2 q i h = some v) (K : At X G Q n k (pc + 1) lv (.int v :: st) h) : At X G Q n k pc lv (.int i :: .ref q :: st) h := by
  obtain ⟨j, e1, e2, rfl⟩ := arr_x (P := fun j => inb i j = true) e
  exact fun H locs ls M S L => va_zald C.1 C.2.1 C.2.2.2.2.2.1.1 (M.arr (t := 2) e1) 0 2 (f := h.2.1 q) rfl rfl (inb_in e2) hd (K H locs ls M S L)
theorem r_laload (C : Ok X G cc own nm nL ret d mc ms) {q : Nat} {i : Int32} {v : Int64} (hd : decode cc pc = .ok (.laload, 1)) (e : aL q i h = some v) (K : At X G Q n k (pc + 1) lv (.long v :: st) h) : At X G Q n k pc lv (.int i :: .ref q :: st) h := by
  obtain ⟨j, e1, e2, rfl⟩ := arr_x (P := fun j => inb i j = true) e
  exact fun H locs ls M S L => va_lald C.1 C.2.1 C.2.2.2.2.2.1.1 (M.arr (t := 3) e1) 0 3 (f := h.2.2.1 q) rfl rfl (inb_in e2) hd (K H locs ls M S L)
theorem r_aaload (C : Ok X G cc own nm nL ret d mc ms) {t q v : Nat} {i : Int32} (ht : t = 4 ∨ t = 5) (hd : decode cc pc = .ok (.aaload, 1)) (e : aR t q i h = some v) (K : At X G Q n k (pc + 1) lv (.ref v :: st) h) : At X G Q n k pc lv (.int i :: .ref q :: st) h := by
  obtain ⟨⟨t', j⟩, e1, e2⟩ := arr_some e
  obtain ⟨⟨e3, e4⟩, e5⟩ := ite_some e2
  have e3 : t' = 50 + t := e3
  have e4 : inb i j = true := e4
  subst e3
  intro H locs ls M S L
  have K' := K H locs ls M S L
  rcases ht with rfl | rfl
  · refine va_aldq C.1 C.2.1 C.2.2.2.2.2.1.1 (M.arr (t := 4) e1) 0 4 (f := fun j => (h.2.2.2 q j).map (adG G)) rfl rfl (inb_in e4) hd ?_
    rw [e5]
    exact K'
  · refine va_aldq C.1 C.2.1 C.2.2.2.2.2.1.1 (M.arr (t := 5) e1) 0 5 (f := fun j => (h.2.2.2 q j).map (adG G)) rfl rfl (inb_in e4) hd ?_
    rw [e5]
    exact K'
theorem r_alen (C : Ok X G cc own nm nL ret d mc ms) {q : Nat} {v : Int32} (hd : decode cc pc = .ok (.arraylength, 1)) (e : aln q h = some v) (K : At X G Q n k (pc + 1) lv (.int v :: st) h) : At X G Q n k pc lv (.ref q :: st) h := by
  obtain ⟨⟨t, j⟩, e1, e2⟩ := arr_some e
  obtain ⟨⟨e3, e4⟩, e5⟩ := ite_some e2
  cases e5
  have e3 : 50 ≤ t := e3
  have e4 : t < 56 := e4
  obtain ⟨u, rfl⟩ : ∃ u, t = 50 + u := ⟨t - 50, by omega⟩
  exact fun H locs ls M S L => va_alen C.1 C.2.1 C.2.2.2.2.2.1.1 (M.arr e1) 0 u rfl (tys_at G (by omega)) rfl hd (K H locs ls M S L)
theorem Mst.ast {h' : Hp} {H H1 : Heap} {t j q : Nat} (M : Mst G h H) (hx : h.1[q]? = some (50 + t, j)) (hsh : h'.1 = h.1) (ho : ∀ (q' : Nat) (x : Nat × Nat), q' ≠ q → cel G h' q' x = cel G h q' x) (z : H1.size = H.size) (oq : ∀ a : Nat, a ≠ adG G q → H1[a]? = H[a]?) (hn : H1[adG G q]? = some (vp_cell (G.2.1 t) (j, ar G h' q t))) : Mst G h' H1 := by
  refine M.wr z hx oq hsh ho ?_
  unfold cel
  rw [if_neg (show ¬ (50 + t, j).1 < 50 by show ¬ 50 + t < 50; omega)]
  have e2 : (50 + t, j).1 - 50 = t := by show 50 + t - 50 = t; omega
  rw [e2]
  exact hn
theorem r_iastore (C : Ok X G cc own nm nL ret d mc ms) {q : Nat} {i v : Int32} {h' : Hp} (hd : decode cc pc = .ok (.iastore, 1)) (e : tI q i v h = some h') (K : At X G Q n k (pc + 1) lv st h') : At X G Q n k pc lv (.int v :: .int i :: .ref q :: st) h := by
  obtain ⟨j, e1, e2, rfl⟩ := arr_x (P := fun j => inb i j = true) e
  intro H locs ls M S L
  refine W.iast C.1 C.2.1 (M.arr (t := 0) e1 0 _ rfl) ((C.2.2.2.2.2.1.1.2 0 _ rfl).1 j (fun x => .int (h.2.1 q x))) (fun z => by cases z) (by show ¬ (i < 0 ∨ (arrV _ _ _).slots.size ≤ _); rw [arrV_size]; exact inb_in e2) rfl rfl hd fun H1 e z oq => ?_
  refine K H1 _ ls (M.ast (t := 0) (h' := sI h q i.toNatClampNeg v) e1 rfl (fun q' x nn => cel_sI G h q _ v x nn) z oq ?_) (S.put z oq (M.in_A e1)) L
  rw [e]
  show some ((arrV _ _ (fun x => Value.int (h.2.1 q x))).setSlot _ _) = some (arrV _ _ (fun x => Value.int ((sI h q i.toNatClampNeg v).2.1 q x)))
  rw [arrV_store]
  congr 2
  funext x
  by_cases ex : x = i.toNatClampNeg <;> simp [updV, sI, up, ex]
theorem r_bastore (C : Ok X G cc own nm nL ret d mc ms) {q : Nat} {i v : Int32} {h' : Hp} (hd : decode cc pc = .ok (.bastore, 1)) (e : tB q i v h = some h') (K : At X G Q n k (pc + 1) lv st h') : At X G Q n k pc lv (.int v :: .int i :: .ref q :: st) h := by
  obtain ⟨j, e1, e2, rfl⟩ := arr_x (P := fun j => inb i j = true) e
  intro H locs ls M S L
  refine W.bast C.1 C.2.1 (M.arr (t := 1) e1 0 _ rfl) ((C.2.2.2.2.2.1.1.2 1 _ rfl).1 j (fun x => .int (h.2.1 q x))) (fun z => by cases z) (by show ¬ (i < 0 ∨ (arrV _ _ _).slots.size ≤ _); rw [arrV_size]; exact inb_in e2) rfl rfl hd fun H1 e z oq => ?_
  refine K H1 _ ls (M.ast (t := 1) (h' := sI h q i.toNatClampNeg v.toInt8.toInt32) e1 rfl (fun q' x nn => cel_sI G h q _ _ x nn) z oq ?_) (S.put z oq (M.in_A e1)) L
  rw [e]
  show some ((arrV _ _ (fun x => Value.int (h.2.1 q x))).setSlot _ _) = some (arrV _ _ (fun x => Value.int ((sI h q i.toNatClampNeg v.toInt8.toInt32).2.1 q x)))
  rw [arrV_store]
  congr 2
  funext x
  by_cases ex : x = i.toNatClampNeg
  · subst ex
    simp only [updV, sI, up, if_true, and_self]
    rfl
  · simp [updV, sI, up, ex]
theorem r_zastore (C : Ok X G cc own nm nL ret d mc ms) {q : Nat} {i v : Int32} {h' : Hp} (hd : decode cc pc = .ok (.bastore, 1)) (e : tZ q i v h = some h') (K : At X G Q n k (pc + 1) lv st h') : At X G Q n k pc lv (.int v :: .int i :: .ref q :: st) h := by
  obtain ⟨j, e1, ⟨e2, e3⟩, rfl⟩ := arr_x (P := fun j => inb i j = true ∧ (v = 0 ∨ v = 1)) e
  intro H locs ls M S L
  refine W.zast C.1 C.2.1 (M.arr (t := 2) e1 0 _ rfl) ((C.2.2.2.2.2.1.1.2 2 _ rfl).1 j (fun x => .int (h.2.1 q x))) (fun z => by cases z) (by show ¬ (i < 0 ∨ (arrV _ _ _).slots.size ≤ _); rw [arrV_size]; exact inb_in e2) rfl rfl hd fun H1 e z oq => ?_
  refine K H1 _ ls (M.ast (t := 2) (h' := sI h q i.toNatClampNeg v) e1 rfl (fun q' x nn => cel_sI G h q _ _ x nn) z oq ?_) (S.put z oq (M.in_A e1)) L
  rw [e]
  have hnz : narrow .boolean (.int v) = .int v := by
    rcases e3 with rfl | rfl <;> decide
  rw [hnz]
  show some ((arrV _ _ (fun x => Value.int (h.2.1 q x))).setSlot _ _) = some (arrV _ _ (fun x => Value.int ((sI h q i.toNatClampNeg v).2.1 q x)))
  rw [arrV_store]
  congr 2
  funext x
  by_cases ex : x = i.toNatClampNeg <;> simp [updV, sI, up, ex]
theorem r_lastore (C : Ok X G cc own nm nL ret d mc ms) {q : Nat} {i : Int32} {v : Int64} {h' : Hp} (hd : decode cc pc = .ok (.lastore, 1)) (e : tL q i v h = some h') (K : At X G Q n k (pc + 1) lv st h') : At X G Q n k pc lv (.long v :: .int i :: .ref q :: st) h := by
  obtain ⟨j, e1, e2, rfl⟩ := arr_x (P := fun j => inb i j = true) e
  intro H locs ls M S L
  refine W.last C.1 C.2.1 (M.arr (t := 3) e1 0 _ rfl) ((C.2.2.2.2.2.1.1.2 3 _ rfl).1 j (fun x => .long (h.2.2.1 q x))) (fun z => by cases z) (by show ¬ (i < 0 ∨ (arrV _ _ _).slots.size ≤ _); rw [arrV_size]; exact inb_in e2) rfl rfl hd fun H1 e z oq => ?_
  refine K H1 _ ls (M.ast (t := 3) (h' := sL h q i.toNatClampNeg v) e1 rfl (fun q' x nn => cel_sL G h q _ _ x nn) z oq ?_) (S.put z oq (M.in_A e1)) L
  rw [e]
  show some ((arrV _ _ (fun x => Value.long (h.2.2.1 q x))).setSlot _ _) = some (arrV _ _ (fun x => Value.long ((sL h q i.toNatClampNeg v).2.2.1 q x)))
  rw [arrV_store]
  congr 2
  funext x
  by_cases ex : x = i.toNatClampNeg <;> simp [updV, sL, up, ex]
theorem r_aastore (C : Ok X G cc own nm nL ret d mc ms) {t c q v : Nat} {i : Int32} {h' : Hp} (ht : t = 4 ∧ c = 6 ∨ t = 5 ∧ c = 0) (hd : decode cc pc = .ok (.aastore, 1)) (e : tR t c q i v h = some h') (K : At X G Q n k (pc + 1) lv st h') : At X G Q n k pc lv (.ref v :: .int i :: .ref q :: st) h := by
  obtain ⟨j, e1, ⟨e2, e3⟩, rfl⟩ := arr_x (P := fun j => inb i j = true ∧ h.1[v]? = some (c, 0)) e
  intro H locs ls M S L
  have hc : c < 9 := by omega
  have ht6 : t < 6 := by omega
  have hty : aty t = .object (ROf c) := by rcases ht with ⟨rfl, rfl⟩ | ⟨rfl, rfl⟩ <;> rfl
  have har : ar G h q t = .inr (.inr (.inr (.inr (fun x => (h.2.2.2 q x).map (adG G))))) := by rcases ht with ⟨rfl, rfl⟩ | ⟨rfl, rfl⟩ <;> rfl
  have har' : ar G (sR h q i.toNatClampNeg (some v)) q t = .inr (.inr (.inr (.inr (fun x => ((sR h q i.toNatClampNeg (some v)).2.2.2 q x).map (adG G))))) := by rcases ht with ⟨rfl, rfl⟩ | ⟨rfl, rfl⟩ <;> rfl
  have hK := C.2.2.2.2.2.1.1
  have hin := inb_in e2
  have hlt : i.toNatClampNeg < j := Nat.not_le.mp fun q => hin (Or.inr q)
  have h0 : ¬ i < 0 := fun q => hin (Or.inl q)
  obtain ⟨r', hr', cellV, g1, g2, g3, -⟩ := M.obj e3 hc 0 _ rfl
  have hcls := (hK.1 c _ (cl_at hc)).2
  have h2 := (hK.2 t _ (tys_at G ht6)).2
  rw [hty] at h2
  obtain ⟨kA, comp, k1, k2, k3, -⟩ := h2
  have hcomp : comp = G.1.1 c := Option.some.inj (k3.symm.trans hcls.1)
  subst hcomp
  obtain ⟨kC, hkC, -⟩ := hcls.2
  have hP : H[adG G q]? = some (vp_cell (G.2.1 t) (j, ar G h q t)) := M.arr e1 0 _ rfl
  rw [har, vp_cell_q] at hP
  refine W.aast C.1 C.2.1 hP (fun q h => by cases h) (fun h => by cases h) k1 k2 rfl hkC ⟨h0, by rw [arrV_size]; exact hlt⟩ g1 (fun q h => by rw [g3] at h; cases h) (by rw [g2]; exact hkC) (by rw [g2]; exact va_assign hcls) rfl rfl hd fun H1 e z oq => ?_
  refine K H1 _ ls (M.ast (h' := sR h q i.toNatClampNeg (some v)) e1 rfl (fun q' x nn => cel_sR G h q _ _ x nn) z oq ?_) (S.put z oq (M.in_A e1)) L
  rw [e, har', vp_cell_q, arrV_store]
  congr 2
  funext x
  by_cases ex : x = i.toNatClampNeg <;> simp [updV, sR, up, ex, va_rf, phi]
/-- a new cell -/
theorem Mst.new {H H1 : Heap} {x : Nat × Nat} (M : Mst G h H) (hl : h.1.length < 9000) (z : H1.size = H.size + 1) (oq : ∀ a : Nat, a < H.size → H1[a]? = H[a]?) (hn : va_at G.1 vwCl (H.size, cel G (nw x h) h.1.length x) H1) : Mst G (nw x h) H1 := by
  have hs := M.1
  have e : ∀ (q : Nat), q ≠ h.1.length → ∀ y, cel G (nw x h) q y = cel G h q y := by
    intro q hq y
    have ez : ∀ {α : Type} (f : Nat → Nat → α) (v : α), zf f h.1.length v q = f q := by
      intro α f v
      funext b
      simp [zf, hq]
    have ef : ∀ (k' : Nat) (ty : FieldType), fv G (nw x h) q k' ty = fv G h q k' ty := by
      intro k' ty
      cases ty <;> simp [fv, nw, ez]
    unfold cel fl ar
    simp only [ef]
    simp [nw, ez]
  refine ⟨?_, ?_, fun q y hy => ?_⟩
  · show H1.size = G.2.2.1 + (h.1 ++ [x]).length
    rw [List.length_append, z, hs]
    rfl
  · show (h.1 ++ [x]).length ≤ 9000
    rw [List.length_append]
    exact hl
  · have hy : (h.1 ++ [x])[q]? = some y := hy
    by_cases hq : q < h.1.length
    · rw [List.getElem?_append_left hq] at hy
      rw [e q (by omega) y]
      refine (M.2.2 q y hy).kept (oq _ ?_)
      show adG G q < H.size
      rw [adG_lo G (by omega), hs]
      omega
    · have hb := (List.getElem?_eq_some_iff.mp hy).1
      rw [List.length_append] at hb
      have hq2 : q = h.1.length := by
        have : ([x] : List (Nat × Nat)).length = 1 := rfl
        omega
      subst hq2
      rw [List.getElem?_append_right (Nat.le_refl _), Nat.sub_self] at hy
      cases hy
      rw [adG_lo G hl, ← hs]
      exact hn
theorem S_new {s : State} {H H1 : Heap} {locs : List Loc} (S : va_S (AG G) s.heap H locs) (z : H1.size = H.size + 1) (oq : ∀ a : Nat, a < H.size → H1[a]? = H[a]?) : va_S (AG G) s.heap H1 locs :=
  ⟨Nat.le_trans S.1 (by omega), fun x h1 h2 => (oq x (Nat.lt_of_lt_of_le h1 S.1)).trans (S.2.1 x h1 h2), S.2.2⟩
def okTy (ty : FieldType) : Bool := match ty with
  | .float => false
  | .double => false
  | _ => true
theorem cl_ok : ∀ c, c < 9 → ∀ j, j < nOf c → okTy (yOf c j) = true := by decide +kernel
theorem r_newO (C : Ok X G cc own nm nL ret d mc ms) {c idx q : Nat} {h' : Hp} (hc : c < 9) (wl : Cond.classLink own idx (ROf c) ∈ tg) (wi : Cond.instantiable (ROf c) (nOf c) ∈ tg) (wn : Cond.initialized (ROf c) ∈ tg) (hr : n + 1 ≤ mc ∧ k + nOf c ≤ ms) (hd : decode cc pc = .ok (.new idx, 3)) (e : nwO c h = some (q, h')) (K : At X G Q (n + 1) (k + nOf c) (pc + 3) lv (.ref q :: st) h') : At X G Q n k pc lv st h := by
  obtain ⟨e1, e2⟩ := ite_some e
  cases e2
  intro H locs ls M S L
  have hts := C.2.2.2.2.1
  have hKn := C.2.2.2.2.2.1.1.1 c _ (cl_at hc)
  have hm := C.2.2.2.2.2.2.2.2.2.2
  refine W.newcK C.1 C.2.1 C.2.2.2.1 (hts _ wl) (hts _ wi) (hts _ wn) rfl hd (Nat.le_trans hr.1 hm.1) (Nat.le_trans hr.2 hm.2.1) hKn.2.1 rfl fun H1 kC hkC f1 z1 o1 => ?_
  have hin : ∀ w ∈ u_ws (ROf c) (TOf c) (nOf c), w ∈ tg := fun w hw => tg_of (cl_in hc w hw) (lay_good hw)
  have M1 : Mst G (nw (c, 0) h) H1 := by
    refine M.new e1 z1 o1 ?_
    unfold cel
    rw [if_pos (show (c, 0).1 < 50 by show c < 50; omega)]
    refine ⟨_, cl_at hc, (u_born (yOf c) hts hin hKn hkC f1 (cl_ty hc)).to fun j hj => ?_⟩
    rw [fl_V G _ _ c hj]
    have ho := cl_ok c hc j hj
    cases hz : yOf c j <;> rw [hz] at ho <;> first | (simp [fv, nw, zf, defaultValue, va_rf]; done) | cases ho
  have ea : H.size = adG G h.1.length := by rw [adG_lo G e1]; exact M.1
  have K' := K H1 locs ls M1 (S_new S z1 o1) L
  rw [ea]
  exact K'
theorem r_newA (C : Ok X G cc own nm nL ret d mc ms) {t q : Nat} {N : Int32} {h' : Hp} {at' : ArrayType} (ht : t < 4) (hat : newarray.typeOf at' = aty t) (wa : Cond.arrayClass (aty t) ∈ tg) (hr : n + 1 ≤ mc ∧ k + N.toNatClampNeg ≤ ms) (hd : decode cc pc = .ok (.newarray at', 2)) (e : nwA t N h = some (q, h')) (K : At X G Q (n + 1) (k + N.toNatClampNeg) (pc + 2) lv (.ref q :: st) h') : At X G Q n k pc lv (.int N :: st) h := by
  obtain ⟨⟨e1, e0⟩, e2⟩ := ite_some e
  cases e2
  intro H locs ls M S L
  have hts := C.2.2.2.2.1
  have hKt := C.2.2.2.2.2.1.1.2 t _ (tys_at G (by omega))
  have hm := C.2.2.2.2.2.2.2.2.2.2
  have hin := inb_in e0
  have hN : N.toNatClampNeg < 100000 := Nat.not_le.mp fun q => hin (Or.inr q)
  have hb : N.toNatClampNeg * componentBytes (newarray.typeOf at') ≤ 536870912 := by
    have : componentBytes (newarray.typeOf at') ≤ 8 := by
      rw [hat]
      rcases t with _ | _ | _ | _ | t <;> first | decide | omega
    exact Nat.le_trans (Nat.mul_le_mul (Nat.le_of_lt hN) this) (by decide)
  refine va_newaK C.1 C.2.1 (hts _ (by rw [hat]; exact wa)) rfl hd rfl (fun z => hin (Or.inl z)) rfl hb (Nat.le_trans hr.1 hm.1) (Nat.le_trans hr.2 hm.2.1) rfl fun H1 cA f1 z1 o1 hAr hNm => ?_
  have ecA : cA = G.2.1 t := by
    have h2 := hKt.2
    rw [hat] at hNm
    have h3 : (xS X).vm.findClass ("[" ++ (aty t).toString) = some (G.2.1 t) := by
      rcases t with _ | _ | _ | _ | t
      · exact h2
      · exact h2
      · exact h2
      · exact h2
      · omega
    exact Option.some.inj (hNm.symm.trans h3)
  subst ecA
  have M1 : Mst G (nw (50 + t, N.toNatClampNeg) h) H1 := by
    refine M.new e1 z1 o1 ?_
    unfold cel
    rw [if_neg (show ¬ (50 + t, N.toNatClampNeg).1 < 50 by show ¬ 50 + t < 50; omega)]
    have e2 : (50 + t, N.toNatClampNeg).1 - 50 = t := by show 50 + t - 50 = t; omega
    rw [e2]
    show H1[H.size]? = some (vp_cell _ _)
    rw [f1, hat]
    have key : ∀ x : Nat, t < 3 → ar G (nw (50 + t, N.toNatClampNeg) h) h.1.length t = .inl ((nw (50 + t, N.toNatClampNeg) h).2.1 h.1.length) := fun _ h3 => by unfold ar; rw [if_pos h3]
    by_cases h3 : t < 3
    · rw [key 0 h3]
      show _ = some (vp_cell (G.2.1 t) (N.toNatClampNeg, .inl _))
      rw [vp_cell_i]
      congr 2
      funext x
      rcases t with _ | _ | _ | t
      · simp [aty, defaultValue, nw, zf]
      · simp [aty, defaultValue, nw, zf]
      · simp [aty, defaultValue, nw, zf]
      · omega
    · have h4 : t = 3 := by omega
      subst h4
      have har : ar G (nw (50 + 3, N.toNatClampNeg) h) h.1.length 3 = .inr (.inl ((nw (50 + 3, N.toNatClampNeg) h).2.2.1 h.1.length)) := rfl
      rw [har]
      show _ = some (vp_cell (G.2.1 3) (N.toNatClampNeg, .inr (.inl _)))
      rw [vp_cell_l]
      congr 2
      funext x
      simp [aty, defaultValue, nw, zf]
  have ea : H.size = adG G h.1.length := by rw [adG_lo G e1]; exact M.1
  have K' := K H1 locs ls M1 (S_new S z1 o1) L
  rw [ea]
  exact K'
theorem r_newQ (C : Ok X G cc own nm nL ret d mc ms) {t q c idx : Nat} {N : Int32} {h' : Hp} (ht : t = 4 ∧ c = 6 ∨ t = 5 ∧ c = 0) (wl : Cond.classLink own idx (ROf c) ∈ tg) (hr : n + 1 ≤ mc ∧ k + N.toNatClampNeg ≤ ms) (hd : decode cc pc = .ok (.anewarray idx, 3)) (e : nwA t N h = some (q, h')) (K : At X G Q (n + 1) (k + N.toNatClampNeg) (pc + 3) lv (.ref q :: st) h') : At X G Q n k pc lv (.int N :: st) h := by
  obtain ⟨⟨e1, e0⟩, e2⟩ := ite_some e
  cases e2
  intro H locs ls M S L
  have hts := C.2.2.2.2.1
  have ht6 : t < 6 := by omega
  have hKt := (C.2.2.2.2.2.1.1.2 t _ (tys_at G ht6)).2
  have hty : aty t = .object (ROf c) := by rcases ht with ⟨rfl, rfl⟩ | ⟨rfl, rfl⟩ <;> rfl
  rw [hty] at hKt
  obtain ⟨_, _, -, -, -, hNm⟩ := hKt
  have hover : va_AO (ROf c) (xS X) := by
    rcases ht with ⟨rfl, rfl⟩ | ⟨rfl, rfl⟩
    · exact C.2.2.2.2.2.1.2.2.1
    · exact C.2.2.2.2.2.1.2.2.2.1
  have hm := C.2.2.2.2.2.2.2.2.2.2
  have hin := inb_in e0
  have hN : N.toNatClampNeg < 100000 := Nat.not_le.mp fun q => hin (Or.inr q)
  refine W.anew C.1 C.2.1 C.2.2.2.1 (hts _ wl) (va_AO.use hover) rfl hd rfl (fun z => hin (Or.inl z)) (by omega) (Nat.le_trans hr.1 hm.1) (Nat.le_trans hr.2 hm.2.1) fun cA kA comp f1 f2 f3 f4 => ?_
  have ecA : cA = G.2.1 t := Option.some.inj (f1.symm.trans hNm)
  subst ecA
  generalize hH1 : H.push ({ cls := G.2.1 t, slots := Array.replicate N.toNatClampNeg .null, vm := .none } : Cell) = H1
  have z1 : H1.size = H.size + 1 := by rw [← hH1, Array.size_push]
  have e1' : H1[H.size]? = some (arrV (G.2.1 t) N.toNatClampNeg (fun _ => .null)) := by rw [← hH1, Array.getElem?_push_size, ← arrV_new]
  have o1 : ∀ q : Nat, q < H.size → H1[q]? = H[q]? := fun q hq => by rw [← hH1, Array.getElem?_push, if_neg (Nat.ne_of_lt hq)]
  have M1 : Mst G (nw (50 + t, N.toNatClampNeg) h) H1 := by
    refine M.new e1 z1 o1 ?_
    unfold cel
    rw [if_neg (show ¬ (50 + t, N.toNatClampNeg).1 < 50 by show ¬ 50 + t < 50; omega)]
    have e2 : (50 + t, N.toNatClampNeg).1 - 50 = t := by show 50 + t - 50 = t; omega
    rw [e2]
    show H1[H.size]? = some (vp_cell _ _)
    rw [e1']
    have har : ar G (nw (50 + t, N.toNatClampNeg) h) h.1.length t = .inr (.inr (.inr (.inr (fun x => ((nw (50 + t, N.toNatClampNeg) h).2.2.2 h.1.length x).map (adG G))))) := by rcases ht with ⟨rfl, rfl⟩ | ⟨rfl, rfl⟩ <;> rfl
    rw [har, vp_cell_q]
    congr 2
    funext x
    simp [nw, zf, va_rf]
  have ea : H.size = adG G h.1.length := by rw [adG_lo G e1]; exact M.1
  have K' := K H1 locs ls M1 (S_new S z1 o1) L
  rw [ea]
  exact K'
theorem r_objInit (C : Ok X G cc own nm nL ret d mc ms) {idx q : Nat} (wl : Cond.methodLink own idx Lib.objectInit ∈ tg) (wi : Cond.instanceMethod Lib.objectInit ∈ tg) (wc : Cond.code Lib.objectInit ⟨#[0xb1]⟩ 1 none ∈ tg) (hd1 : 1 ≤ d) (hst : (st.map fun v => v.category).sum ≤ 8) (hd : decode cc pc = .ok (.invokespecial idx, 3)) (K : At X G Q n k (pc + 3) lv st h) : At X G Q n k pc lv (.ref q :: st) h := by
  intro H locs ls M S L
  have hts := C.2.2.2.2.1
  have hfr := C.2.2.2.2.2.2.2.2.1
  have hlo := C.2.2.2.2.2.2.2.2.2.1
  refine W.objInit C.1 C.2.1 C.2.2.2.1 (hts _ wl) (hts _ wi) (hts _ wc) (g := F0 (xM X) pc ls ((.ref q :: st).map (phi G))) rfl L.1 rfl hd (Nat.le_trans hd1 hfr) ?_ (K H locs ls M S L)
  rw [cat_sum]
  show 2 * 0 + _ + 12 ≤ _
  refine Nat.le_trans ?_ hlo
  omega
end ROWS3
end
section
/-! CONTRACTS over the layer, calls and ends -/
def rmD (d mc ms : Nat) : Room := { frames := d, cells := mc, slots := ms, locals := 33 * d }
def Rep (G : Gc) (h : Hp) (U : State) : Prop := Mst G h U.heap ∧ Env0 G U U.heap
def QR (G : Gc) (r : Option Value) (h' : Hp) : Array Value → State → Outcome → State → Prop := fun _ st oc t => oc = .returned (r.map (phi G)) ∧ Mst G h' t.heap ∧ va_F (AG G) st t
/-- the method y, called with 'as' where the heap holds h, at most d calls deep, comes back with r, and the heap holds h' -/
def Runs (d mc ms : Nat) (y : MethodName) (cc : ByteArray) (nL : Nat) (ret : Option FieldType) (as : List Value) (h : Hp) (r : Option Value) (h' : Hp) : Prop :=
  ∀ (l : Launch) (G : Gc), Met l y (Cond.code y cc nL ret :: tg) (rmD d mc ms) (va_Pc (as.map (phi G)) (Rep G h)) (QR G r h') mc ms (AG G)
def Fin (X : Cx) (G : Gc) (mc ms : Nat) (r : Option Value) (h' : Hp) : State → Prop := MQ X.2.2.2.2.2.2.2.1 (QR G r h') (xA X) (xS X) mc ms (AG G)
theorem rep_blind (G : Gc) (h : Hp) (av : List Value) : FrameBlind (va_Pc av (Rep G h)) := fun _ _ _ _ q => ⟨q.1, q.2.1, Env0.same rfl q.2.2⟩
def MW (y : MethodName) (cc : ByteArray) (nL : Nat) (ret : Option FieldType) (np : Nat) : Prop :=
  Cond.code y cc nL ret ∈ tg ∧ Cond.initialized y.cls ∈ tg ∧ (y.cls ≠ "java/lang/invoke/MethodHandle" ∧ y.cls ≠ "java/lang/invoke/VarHandle" ∧ (parseMethodDescriptor y.desc).map (fun d => d.parameters.length) = some np) ∧ nL ≤ 14 ∧ plainName y.cls = true
theorem code_good (y : MethodName) {cc : ByteArray} {nL : Nat} {ret : Option FieldType} (h : Cond.code y cc nL ret ∈ tg) : GoodIn tg (Cond.code y cc nL ret :: tg) := fun w hw => by
  rcases List.mem_cons.mp hw with rfl | hw
  · exact tg_good _ h
  · exact tg_good _ hw
/-- a method's contract out of the walk of its body -/
theorem Runs.of {d mc ms np : Nat} {y : MethodName} {cc : ByteArray} {nL : Nat} {ret : Option FieldType} {as : List Value} {h h' : Hp} {r : Option Value} (w : MW y cc nL ret np) (hl : (lg_sl as).length ≤ nL)
    (body : ∀ (X : Cx) (G : Gc), Ok X G cc y.cls y.name nL ret d mc ms → At X G (Fin X G mc ms r h') 0 0 0 (lv_args 0 as) [] h) : Runs d mc ms y cc nL ret as h r h' := by
  intro l G
  refine Met.ofW (cc := cc) (maxL := nL) (ret := ret) w.2.2.2.2 rfl ?_
  intro p e s m args below meth c s₁ B hml hv
  obtain ⟨rfl, M, E⟩ := hv
  have hts := atoms_spec (ws := Cond.code y cc nL ret :: tg) B.pre
  have hown : s.vm.findClass y.cls = some m.cls := findClass_of_methodNamed B.named
  have C : Ok (p, l, e, rmD d mc ms, s, m, (as.map (phi G)).toArray, below, meth, c) G cc y.cls y.name nL ret d mc ms :=
    ⟨B.exec, B.bytes, hml, hown, fun w h => hts w (List.mem_cons_of_mem _ h), E, B.returns, B.notSynchronized, Nat.le_refl _, Nat.le_refl _, Nat.le_refl _, Nat.le_refl _, (name_of_methodNamed B.named B.method).1⟩
  have A := body _ G C
  have hl2 := lv_entry (as.map (phi G)) (n := nL) (by rw [lg_sl_p]; exact hl)
  rw [lg_entry_eq]
  rw [lv_args_p] at hl2
  have hml' : c.maxLocals = nL := hml
  refine A s.heap [] _ M va_S.rf ?_
  show lv_has _ c.maxLocals _
  rw [hml']
  exact hl2
section ROWS4
variable {X : Cx} {G : Gc} {cc : ByteArray} {own nm : String} {nL : Nat} {ret : Option FieldType} {d mc ms : Nat} {Q : State → Prop} {n k pc : Nat} {lv : List (Nat × Value)} {st : List Value} {h : Hp}
theorem x_back {mc' ms' : Nat} {r : Option Value} {h' : Hp} {a : Array Value} {H : Heap} {locs : List Loc} {ls : Array Slot} {st0 : List Value}
    (hr : va_Run X.1 X.2.1 X.2.2.1 X.2.2.2.1 X.2.2.2.2.1 X.2.2.2.2.2.1 X.2.2.2.2.2.2.1 X.2.2.2.2.2.2.2.1 X.2.2.2.2.2.2.2.2.1 X.2.2.2.2.2.2.2.2.2 H locs n k mc' ms' (F0 (xM X) pc ls st0) (st.map (phi G)) (QR G r h' a) (AG G)) (S : va_S (AG G) (xS X).heap H locs) (L : lv_has ls (xC X).maxLocals (lvp G lv)) (K : At X G Q (n + mc') (k + ms') (pc + 3) lv (r.toList ++ st) h') : WW X H locs n k Q (F0 (xM X) pc ls st0) := by
  intro T hT Xs
  obtain ⟨v, st₀, t, T', L1, h0, X', hL, e1, e2, ⟨hv, hM, hz, hk⟩, st'⟩ := hr T hT Xs
  cases hv
  rw [h0] at hz hk
  have S' : va_S (AG G) (xS X).heap T'.heap (locs ++ L1) := ⟨Nat.le_trans S.1 (by rw [e1]; exact hz), fun q h1 h2 => by rw [e1, hk q (Nat.lt_of_lt_of_le h1 S.1) h2]; exact S.2.1 q h1 h2, fun q hq => by
      rcases List.mem_append.mp hq with h | h
      · exact S.2.2 q h
      · exact hL q h⟩
  obtain ⟨t2, a1, b1⟩ := K T'.heap (locs ++ L1) ls (by rw [e1]; exact hM) S' L T' rfl X'
  refine ⟨t2, st' t2 ?_, b1⟩
  have es : (r.map (phi G)).toList ++ st.map (phi G) = (r.toList ++ st).map (phi G) := by cases r <;> rfl
  show Steps _ _ _ (T'.setTop { F0 (xM X) pc ls st0 with pc := (F0 (xM X) pc ls st0).pc + 3, stack := (r.map (phi G)).toList ++ st.map (phi G) }) t2
  rw [es]
  exact a1
theorem x_callB (C : Ok X G cc own nm nL ret d mc ms) {d' mc' ms' np nL' idx : Nat} {y : MethodName} {cc' : ByteArray} {ret' : Option FieldType} (w : MW y cc' nL' ret' np) (wl : Cond.methodLink own idx y ∈ tg) (hdd : d' + 1 ≤ d) : CallB (xR X) (xS X) (xA X) own idx y cc' nL' ret' (Cond.code y cc' nL' ret' :: tg) (rmD d' mc' ms') mc' ms' np := by
  have hfr := C.2.2.2.2.2.2.2.2.1
  have hlo := C.2.2.2.2.2.2.2.2.2.1
  have hw := w.2.2.2.1
  have hts := C.2.2.2.2.1
  refine callB_of np hts (code_good y w.1) rfl rfl rfl (hts _ w.2.1) (hts _ wl) w.2.2.1 ⟨Nat.le_trans hdd hfr, Nat.le_trans ?_ hlo⟩
  show 8 + (nL' + 11) + 33 * d' ≤ 33 * d
  omega
theorem x_callN (C : Ok X G cc own nm nL ret d mc ms) {d' mc' ms' np nL' idx : Nat} {y : MethodName} {cc' : ByteArray} {ret' : Option FieldType} {host : String} (w : MW y cc' nL' ret' np) (wl : (own, idx, y, host) ∈ nests) (hdd : d' + 1 ≤ d) : va_CN (xR X) (xS X) (xA X) own idx y host cc' nL' ret' (Cond.code y cc' nL' ret' :: tg) (rmD d' mc' ms') mc' ms' np := by
  have hfr := C.2.2.2.2.2.2.2.2.1
  have hlo := C.2.2.2.2.2.2.2.2.2.1
  have hw := w.2.2.2.1
  have hts := C.2.2.2.2.1
  refine va_cnB np hts (code_good y w.1) rfl rfl rfl (C.2.2.2.2.2.1.2.1 _ wl) (hts _ w.2.1) w.2.2.1 ⟨Nat.le_trans hdd hfr, Nat.le_trans ?_ hlo⟩
  show 8 + (nL' + 11) + 33 * d' ≤ 33 * d
  omega
theorem x_pre (C : Ok X G cc own nm nL ret d mc ms) {H : Heap} {locs : List Loc} (M : Mst G h H) (S : va_S (AG G) (xS X).heap H locs) (as : List Value) : ∀ U : State, U.heap = H → (xS X).WarmedH U.vm → va_Pc (as.map (phi G)) (Rep G h) (as.map (phi G)).toArray U := fun U hU hW => ⟨rfl, by rw [hU]; exact M, by
    rw [hU]
    exact C.2.2.2.2.2.1.kept hW S.1 S.2.1⟩
theorem mapcons (G : Gc) (as : List Value) (q : Nat) (st : List Value) : (as.reverse ++ .ref q :: st).map (phi G) = (as.map (phi G)).reverse ++ .ref (adG G q) :: st.map (phi G) := by
  rw [List.map_append, List.map_reverse]
  rfl
theorem r_callV (C : Ok X G cc own nm nL ret d mc ms) {d' mc' ms' np nL' idx q c : Nat} {y : MethodName} {cc' : ByteArray} {ret' : Option FieldType} {as stk : List Value} {r : Option Value} {h' : Hp} (w : MW y cc' nL' ret' np) (wi : Cond.instanceMethod y ∈ tg ∧ Cond.selects y.cls y y ∈ tg) (wl : Cond.methodLink own idx y ∈ tg) (hdd : d' + 1 ≤ d) (hnp : as.length = np) (hc : c < 9) (hcl : ROf c = y.cls) (hst : (st.map fun v => v.category).sum ≤ 8) (hro : n + mc' ≤ mc ∧ k + ms' ≤ ms) (hd : decode cc pc = .ok (.invokevirtual idx, 3)) (e : as.reverse ++ .ref q :: st = stk) (hx : h.1[q]? = some (c, 0)) (hr : Runs d' mc' ms' y cc' nL' ret' (.ref q :: as) h r h') (K : At X G Q (n + mc') (k + ms') (pc + 3) lv (r.toList ++ st) h') : At X G Q n k pc lv stk h := by
  subst e
  intro H locs ls M S L
  have hts := C.2.2.2.2.1
  have hm := C.2.2.2.2.2.2.2.2.2.2
  have recv := va_recv C.2.2.2.2.2.1.1 (M.obj hx hc) (cl_at hc) (q0 := 0) rfl
  refine x_back (va_runV (As := as.map (phi G)) (rest := st.map (phi G)) (b := adG G q) (C := y.cls) ⟨C.1, C.2.1, C.2.2.1, C.2.2.2.1, hts⟩ (hr _ G) ⟨x_callB C w wl hdd, hts _ wi.1, hts _ wi.2⟩ ⟨rep_blind G h _, ?_, x_pre C M S (.ref q :: as)⟩ rfl (by rw [List.length_map]; exact hnp) (L.1.trans C.2.2.1) (mapcons G as q st) (lv_room (by rw [cat_sum]; exact hst)) hd ⟨Nat.le_trans hro.1 hm.1, Nat.le_trans hro.2 hm.2.1⟩) S L K
  rw [← hcl]
  exact recv
theorem r_callT (C : Ok X G cc own nm nL ret d mc ms) {d' np nL' idx i : Nat} {y : MethodName} {cc' : ByteArray} {ret' : Option FieldType} {as stk : List Value} {r : Option Value} {h' : Hp} (w : MW y cc' nL' ret' np) (wi : Cond.instanceMethod y ∈ tg ∧ Cond.selects y.cls y y ∈ tg) (wl : Cond.methodLink own idx y ∈ tg) (hdd : d' + 1 ≤ d) (hnp : as.length = np) (hi : i < 14) (hcl : y.cls = "java/lang/String") (hro : n ≤ mc ∧ k ≤ ms) (hst : (st.map fun v => v.category).sum ≤ 8) (hd : decode cc pc = .ok (.invokevirtual idx, 3)) (e : as.reverse ++ .ref (10000 + i) :: st = stk) (hr : Runs d' 0 0 y cc' nL' ret' (.ref (10000 + i) :: as) h r h') (K : At X G Q n k (pc + 3) lv (r.toList ++ st) h') : At X G Q n k pc lv stk h := by
  subst e
  intro H locs ls M S L
  have hts := C.2.2.2.2.1
  have recv := vk_recv C.2.2.2.2.2.1.2.2.2.2.1 hi S
  have ea : adG G (10000 + i) = G.2.2.2.1 i := by
    unfold adG
    rw [if_neg (by omega), Nat.add_sub_cancel_left]
  have hm := C.2.2.2.2.2.2.2.2.2.2
  refine x_back (va_runV (As := as.map (phi G)) (rest := st.map (phi G)) (b := adG G (10000 + i)) (C := y.cls) ⟨C.1, C.2.1, C.2.2.1, C.2.2.2.1, hts⟩ (hr _ G) ⟨x_callB C w wl hdd, hts _ wi.1, hts _ wi.2⟩ ⟨rep_blind G h _, ?_, x_pre C M S (.ref (10000 + i) :: as)⟩ rfl (by rw [List.length_map]; exact hnp) (L.1.trans C.2.2.1) (mapcons G as (10000 + i) st) (lv_room (by rw [cat_sum]; exact hst)) hd ⟨Nat.le_trans hro.1 hm.1, Nat.le_trans hro.2 hm.2.1⟩) S L K
  rw [hcl, ea]
  exact recv
theorem r_callS (C : Ok X G cc own nm nL ret d mc ms) {d' mc' ms' np nL' idx : Nat} {y : MethodName} {cc' : ByteArray} {ret' : Option FieldType} {as stk : List Value} {r : Option Value} {h' : Hp} (w : MW y cc' nL' ret' np) (wi : Cond.static y ∈ tg) (wl : Cond.methodLink own idx y ∈ tg) (hdd : d' + 1 ≤ d) (hnp : as.length = np) (hst : (st.map fun v => v.category).sum ≤ 8) (hro : n + mc' ≤ mc ∧ k + ms' ≤ ms) (hd : decode cc pc = .ok (.invokestatic idx, 3)) (e : as.reverse ++ st = stk) (hr : Runs d' mc' ms' y cc' nL' ret' as h r h') (K : At X G Q (n + mc') (k + ms') (pc + 3) lv (r.toList ++ st) h') : At X G Q n k pc lv stk h := by
  subst e
  intro H locs ls M S L
  have hts := C.2.2.2.2.1
  have hm := C.2.2.2.2.2.2.2.2.2.2
  exact x_back (va_runS (As := as.map (phi G)) (rest := st.map (phi G)) ⟨C.1, C.2.1, C.2.2.1, C.2.2.2.1, hts⟩ (hr _ G) ⟨x_callB C w wl hdd, hts _ wi⟩ ⟨rep_blind G h _, x_pre C M S as⟩ rfl (by rw [List.length_map]; exact hnp) (L.1.trans C.2.2.1) (by rw [← List.map_reverse, ← List.map_append]) (lv_room (by rw [cat_sum]; exact hst)) hd ⟨Nat.le_trans hro.1 hm.1, Nat.le_trans hro.2 hm.2.1⟩) S L K
theorem r_callSN (C : Ok X G cc own nm nL ret d mc ms) {d' mc' ms' np nL' idx : Nat} {y : MethodName} {cc' : ByteArray} {ret' : Option FieldType} {host : String} {as stk : List Value} {r : Option Value} {h' : Hp} (w : MW y cc' nL' ret' np) (wi : Cond.static y ∈ tg) (wl : (own, idx, y, host) ∈ nests) (hdd : d' + 1 ≤ d) (hnp : as.length = np) (hst : (st.map fun v => v.category).sum ≤ 8) (hro : n + mc' ≤ mc ∧ k + ms' ≤ ms) (hd : decode cc pc = .ok (.invokestatic idx, 3)) (e : as.reverse ++ st = stk) (hr : Runs d' mc' ms' y cc' nL' ret' as h r h') (K : At X G Q (n + mc') (k + ms') (pc + 3) lv (r.toList ++ st) h') : At X G Q n k pc lv stk h := by
  subst e
  intro H locs ls M S L
  have hts := C.2.2.2.2.1
  have hm := C.2.2.2.2.2.2.2.2.2.2
  exact x_back (va_runSN (As := as.map (phi G)) (rest := st.map (phi G)) ⟨C.1, C.2.1, C.2.2.1, C.2.2.2.1, hts⟩ (hr _ G) ⟨x_callN C w wl hdd, hts _ wi, trivial⟩ ⟨rep_blind G h _, x_pre C M S as⟩ rfl (by rw [List.length_map]; exact hnp) (L.1.trans C.2.2.1) (by rw [← List.map_reverse, ← List.map_append]) (lv_room (by rw [cat_sum]; exact hst)) hd ⟨Nat.le_trans hro.1 hm.1, Nat.le_trans hro.2 hm.2.1⟩) S L K
theorem r_callI (C : Ok X G cc own nm nL ret d mc ms) {d' mc' ms' np nL' idx q : Nat} {y : MethodName} {cc' : ByteArray} {as stk : List Value} {h' : Hp} (w : MW y cc' nL' none np) (wi : y.name = "<init>" ∧ Cond.instanceMethod y ∈ tg) (wl : Cond.methodLink own idx y ∈ tg) (hdd : d' + 1 ≤ d) (hnp : as.length = np) (hst : (st.map fun v => v.category).sum ≤ 8) (hro : n + mc' ≤ mc ∧ k + ms' ≤ ms) (hd : decode cc pc = .ok (.invokespecial idx, 3)) (e : as.reverse ++ .ref q :: st = stk) (hr : Runs d' mc' ms' y cc' nL' none (.ref q :: as) h none h') (K : At X G Q (n + mc') (k + ms') (pc + 3) lv st h') : At X G Q n k pc lv stk h := by
  subst e
  intro H locs ls M S L
  have hts := C.2.2.2.2.1
  have hm := C.2.2.2.2.2.2.2.2.2.2
  exact x_back (va_runI (As := as.map (phi G)) (rest := st.map (phi G)) (b := adG G q) ⟨C.1, C.2.1, C.2.2.1, C.2.2.2.1, hts⟩ (hr _ G) ⟨x_callB C w wl hdd, wi.1, hts _ wi.2⟩ ⟨rep_blind G h _, x_pre C M S (.ref q :: as)⟩ rfl (by rw [List.length_map]; exact hnp) (L.1.trans C.2.2.1) (mapcons G as q st) (lv_room (by rw [cat_sum]; exact hst)) hd ⟨Nat.le_trans hro.1 hm.1, Nat.le_trans hro.2 hm.2.1⟩) S L (r := none) K
theorem r_callIN (C : Ok X G cc own nm nL ret d mc ms) {d' mc' ms' np nL' idx q : Nat} {y : MethodName} {cc' : ByteArray} {host : String} {as stk : List Value} {h' : Hp} (w : MW y cc' nL' none np) (wi : y.name = "<init>" ∧ Cond.instanceMethod y ∈ tg) (wl : (own, idx, y, host) ∈ nests) (hdd : d' + 1 ≤ d) (hnp : as.length = np) (hst : (st.map fun v => v.category).sum ≤ 8) (hro : n + mc' ≤ mc ∧ k + ms' ≤ ms) (hd : decode cc pc = .ok (.invokespecial idx, 3)) (e : as.reverse ++ .ref q :: st = stk) (hr : Runs d' mc' ms' y cc' nL' none (.ref q :: as) h none h') (K : At X G Q (n + mc') (k + ms') (pc + 3) lv st h') : At X G Q n k pc lv stk h := by
  subst e
  intro H locs ls M S L
  have hts := C.2.2.2.2.1
  have hm := C.2.2.2.2.2.2.2.2.2.2
  exact x_back (va_runIN (As := as.map (phi G)) (rest := st.map (phi G)) (b := adG G q) ⟨C.1, C.2.1, C.2.2.1, C.2.2.2.1, hts⟩ (hr _ G) ⟨x_callN C w wl hdd, wi.1, hts _ wi.2⟩ ⟨rep_blind G h _, x_pre C M S (.ref q :: as)⟩ rfl (by rw [List.length_map]; exact hnp) (L.1.trans C.2.2.1) (mapcons G as q st) (lv_room (by rw [cat_sum]; exact hst)) hd ⟨Nat.le_trans hro.1 hm.1, Nat.le_trans hro.2 hm.2.1⟩) S L (r := none) K
/-! ends -/
theorem r_iret (C : Ok X G cc own nm nL ret d mc ms) {v : Int32} (hret : ret = some .int) (hro : n ≤ mc ∧ k ≤ ms) (hd : decode cc pc = .ok (.ireturn, 1)) : At X G (Fin X G mc ms (some (.int v)) h) n k pc lv [.int v] h := fun H locs ls M S L =>
  W.widen hro.1 hro.2 (W.iret C.1 C.2.1 (C.2.2.2.2.2.2.1.trans hret) (fun t ht _ => ⟨rfl, by rw [ht]; exact M, S.F ht⟩) S.2.2 hd (hlocks := C.2.2.2.2.2.2.2.1))
theorem r_zret (C : Ok X G cc own nm nL ret d mc ms) {v r : Int32} {h' : Hp} (hret : ret = some .boolean) (hro : n ≤ mc ∧ k ≤ ms) (hd : decode cc pc = .ok (.ireturn, 1)) (e : zr v h = some (r, h')) : At X G (Fin X G mc ms (some (.int r)) h') n k pc lv [.int v] h := fun H locs ls M S L => by
  obtain ⟨e1, e2⟩ := ite_some e
  cases e2
  have hnz : narrow .boolean (.int v) = .int v := by
    rcases e1 with rfl | rfl <;> decide
  exact W.widen hro.1 hro.2 (W.zret C.1 C.2.1 (C.2.2.2.2.2.2.1.trans hret) hnz (fun t ht _ => ⟨rfl, by rw [ht]; exact M, S.F ht⟩) S.2.2 hd (hlocks := C.2.2.2.2.2.2.2.1))
theorem r_lret (C : Ok X G cc own nm nL ret d mc ms) {v : Int64} (hret : ret = some .long) (hro : n ≤ mc ∧ k ≤ ms) (hd : decode cc pc = .ok (.lreturn, 1)) : At X G (Fin X G mc ms (some (.long v)) h) n k pc lv [.long v] h := fun H locs ls M S L =>
  W.widen hro.1 hro.2 (W.lret C.1 C.2.1 (C.2.2.2.2.2.2.1.trans hret) (fun t ht _ => ⟨rfl, by rw [ht]; exact M, S.F ht⟩) S.2.2 hd (hlocks := C.2.2.2.2.2.2.2.1))
theorem r_aret (C : Ok X G cc own nm nL ret d mc ms) {v : Nat} {cn : String} (hret : ret = some (.object cn)) (hro : n ≤ mc ∧ k ≤ ms) (hd : decode cc pc = .ok (.areturn, 1)) : At X G (Fin X G mc ms (some (.ref v)) h) n k pc lv [.ref v] h := fun H locs ls M S L =>
  W.widen hro.1 hro.2 (W.aret C.1 C.2.1 (C.2.2.2.2.2.2.1.trans hret) (Or.inl ⟨cn, rfl⟩) (Or.inr ⟨_, rfl⟩) (fun t ht _ => ⟨rfl, by rw [ht]; exact M, S.F ht⟩) S.2.2 hd (hlocks := C.2.2.2.2.2.2.2.1))
theorem r_vret (C : Ok X G cc own nm nL ret d mc ms) (hret : ret = none) (hro : n ≤ mc ∧ k ≤ ms) (hd : decode cc pc = .ok (.return_, 1)) : At X G (Fin X G mc ms none h) n k pc lv [] h := fun H locs ls M S L =>
  W.widen hro.1 hro.2 (W.vret C.1 C.2.1 (C.2.2.2.2.2.2.1.trans hret) (fun t ht _ => ⟨rfl, by rw [ht]; exact M, S.F ht⟩) S.2.2 hd (hlocks := C.2.2.2.2.2.2.2.1))
end ROWS4
end
section
/-! ROWS: texts, statics, copies of rows -/
def cpy (a : Nat) (sp : Int32) (b : Nat) (dp m : Int32) (h : Hp) : Option Hp := (h.1[a]?).bind fun x => (h.1[b]?).bind fun y => if x.1 = 50 ∧ y.1 = 50 ∧ ¬ sp < 0 ∧ ¬ dp < 0 ∧ ¬ m < 0 ∧ sp.toNatClampNeg + m.toNatClampNeg ≤ x.2 ∧ dp.toNatClampNeg + m.toNatClampNeg ≤ y.2 then some (h.1, (fun q => if q = b then va_cpy (h.2.1 a) (h.2.1 b) sp.toNatClampNeg dp.toNatClampNeg m.toNatClampNeg else h.2.1 q), h.2.2.1, h.2.2.2) else none
theorem nn_of {z : Int32} (hz : ¬ z < 0) : z.toInt = (z.toNatClampNeg : Int) := by
  have hz0 : (0 : Int) ≤ z.toInt := by
    have := Int32.not_lt.mp hz
    simpa using Int32.le_iff_toInt_le.mp this
  show z.toInt = ((z.toInt.toNat : Nat) : Int)
  omega
section ROWS5
variable {X : Cx} {G : Gc} {cc : ByteArray} {own nm : String} {nL : Nat} {ret : Option FieldType} {d mc ms : Nat} {Q : State → Prop} {n k pc : Nat} {lv : List (Nat × Value)} {st : List Value} {h : Hp}
theorem r_copy (C : Ok X G cc own nm nL ret d mc ms) {a b idx : Nat} {sp dp m : Int32} {h' : Hp} (wl : Cond.methodLink own idx arraycopyName ∈ tg) (wn : Cond.native arraycopyName ∈ tg ∧ Cond.static arraycopyName ∈ tg ∧ Cond.initialized "java/lang/System" ∈ tg) (hd1 : 1 ≤ d) (hd : decode cc pc = .ok (.invokestatic idx, 3)) (e : cpy a sp b dp m h = some h') (K : At X G Q n k (pc + 3) lv [] h') : At X G Q n k pc lv [.int m, .int dp, .ref b, .int sp, .ref a] h := by
  obtain ⟨⟨tx, nx⟩, ex, e1⟩ := arr_some e
  obtain ⟨⟨ty, ny⟩, ey, e2⟩ := arr_some e1
  obtain ⟨⟨g1, g2, h1, h2, h3, h4, h5⟩, e3⟩ := ite_some e2
  cases e3
  have g1 : tx = 50 := g1
  have g2 : ty = 50 := g2
  have h4 : sp.toNatClampNeg + m.toNatClampNeg ≤ nx := h4
  have h5 : dp.toNatClampNeg + m.toNatClampNeg ≤ ny := h5
  subst g1
  subst g2
  intro H locs ls M S L T hT Xs
  have hts := C.2.2.2.2.1
  have hK := C.2.2.2.2.2.1.1
  have hfr := C.2.2.2.2.2.2.2.2.1
  have hlo := C.2.2.2.2.2.2.2.2.2.1
  have hc0 : H[adG G a]? = some (vp_cell (G.2.1 0) (nx, .inl (h.2.1 a))) := M.arr (t := 0) ex 0 _ rfl
  have hc1 : H[adG G b]? = some (vp_cell (G.2.1 0) (ny, .inl (h.2.1 b))) := M.arr (t := 0) ey 0 _ rfl
  obtain ⟨-, k0, hk0, cm0, hkk0⟩ := (hK.2 0 _ rfl).1 nx (fun j => .int (h.2.1 a j))
  obtain ⟨-, k1, hk1, cm1, hkk1⟩ := (hK.2 0 _ rfl).1 ny (fun j => .int (h.2.1 b j))
  obtain ⟨vm', X', step⟩ := Xs.arraycopy C.1 C.2.2.2.1 (hts _ wl) (hts _ wn.1) (hts _ wn.2.1) (hts _ wn.2.2) (src := adG G a) (dst := adG G b) (cs := vp_cell (G.2.1 0) (nx, .inl (h.2.1 a))) (cd := vp_cell (G.2.1 0) (ny, .inl (h.2.1 b))) (srcPos := sp) (destPos := dp) (n := m) (by rw [hT]; exact hc0) (by rw [hT]; exact hc1)
    (fun _ h => by cases h) (fun _ h => by cases h) (fun h => by cases h) (fun h => by cases h) hk0 hk1 hkk0 hkk1 (by simp [refKind]) h1 h2 h3
    (by rw [nn_of h1, nn_of h3]; show ¬ _ > ((arrV (G.2.1 0) nx (fun j => .int (h.2.1 a j))).slots.size : Int); rw [arrV_size]; omega)
    (by rw [nn_of h2, nn_of h3]; show ¬ _ > ((arrV (G.2.1 0) ny (fun j => .int (h.2.1 b j))).slots.size : Int); rw [arrV_size]; omega)
    (fun vm₁ _ i hi => by
      have e : (vp_cell (G.2.1 0) (nx, .inl (h.2.1 a))).slots.getD (sp.toNatClampNeg + i) .null = .int (h.2.1 a (sp.toNatClampNeg + i)) := by
        show (arrV (G.2.1 0) nx (fun j => .int (h.2.1 a j))).slots.getD _ _ = _
        rw [Array.getD_eq_getD_getElem?, arrV_read _ _ (by omega)]
        rfl
      refine ⟨?_, ?_⟩
      · rw [e]
        rfl
      · rw [e]
        exact trivial)
    (g := F0 (xM X) pc ls ([.int m, .int dp, .ref (adG G b), .int sp, .ref (adG G a)])) rfl (by show ls.size = (xC X).maxLocals; exact L.1) (rest := []) rfl (by rw [C.2.1]; exact hd) (Nat.le_trans hd1 hfr) (Nat.le_trans (by show 2 * 0 + 0 + (nativeFrameWords "java/lang/System" "arraycopy" 5 + 11) ≤ 33 * d; exact Nat.le_trans (m := 33) (by decide) (by omega)) hlo)
  have e1 : copied (vp_cell (G.2.1 0) (nx, .inl (h.2.1 a))) (vp_cell (G.2.1 0) (ny, .inl (h.2.1 b))) sp dp m = vp_cell (G.2.1 0) (ny, .inl (va_cpy (h.2.1 a) (h.2.1 b) sp.toNatClampNeg dp.toNatClampNeg m.toNatClampNeg)) := va_copied (fun z => .int z) (G.2.1 0) (G.2.1 0) (h.2.1 a) (h.2.1 b) h4
  rw [e1] at X' step
  have hl : adG G b < H.size := (Array.getElem?_eq_some_iff.mp hc1).1
  generalize hH1 : H.setIfInBounds (adG G b) (vp_cell (G.2.1 0) (ny, .inl (va_cpy (h.2.1 a) (h.2.1 b) sp.toNatClampNeg dp.toNatClampNeg m.toNatClampNeg))) = H1
  have hheap : ((T.setVm vm').setCell (adG G b) (vp_cell (G.2.1 0) (ny, .inl (va_cpy (h.2.1 a) (h.2.1 b) sp.toNatClampNeg dp.toNatClampNeg m.toNatClampNeg)))).heap = H1 := by rw [← hH1, ← hT]; rfl
  have oq : ∀ q : Nat, q ≠ adG G b → H1[q]? = H[q]? := fun q hq => by rw [← hH1]; simp [Array.getElem?_setIfInBounds, Ne.symm hq]
  have z : H1.size = H.size := by rw [← hH1]; simp
  have eb : H1[adG G b]? = some (vp_cell (G.2.1 0) (ny, .inl (va_cpy (h.2.1 a) (h.2.1 b) sp.toNatClampNeg dp.toNatClampNeg m.toNatClampNeg))) := by rw [← hH1]; simp [Array.getElem?_setIfInBounds, hl]
  have ho : ∀ (q' : Nat) (x : Nat × Nat), q' ≠ b → cel G (h.1, (fun q => if q = b then va_cpy (h.2.1 a) (h.2.1 b) sp.toNatClampNeg dp.toNatClampNeg m.toNatClampNeg else h.2.1 q), h.2.2.1, h.2.2.2) q' x = cel G h q' x := by
    intro q' x hq
    have ef : ∀ (k' : Nat) (ty : FieldType), fv G (h.1, (fun q => if q = b then va_cpy (h.2.1 a) (h.2.1 b) sp.toNatClampNeg dp.toNatClampNeg m.toNatClampNeg else h.2.1 q), h.2.2.1, h.2.2.2) q' k' ty = fv G h q' k' ty := by
      intro k' ty
      cases ty <;> simp [fv, hq]
    unfold cel fl ar
    simp only [ef]
    simp [hq]
  have M1 : Mst G (h.1, (fun q => if q = b then va_cpy (h.2.1 a) (h.2.1 b) sp.toNatClampNeg dp.toNatClampNeg m.toNatClampNeg else h.2.1 q), h.2.2.1, h.2.2.2) H1 := by
    refine M.ast (t := 0) ey rfl ho z oq ?_
    rw [eb]
    congr 1
    show _ = vp_cell (G.2.1 0) (ny, .inl ((fun q => if q = b then va_cpy (h.2.1 a) (h.2.1 b) sp.toNatClampNeg dp.toNatClampNeg m.toNatClampNeg else h.2.1 q) b))
    simp
  obtain ⟨t, a1, b1⟩ := K H1 _ ls M1 ⟨by rw [z]; exact S.1, fun q g1 g2 => by
      rw [oq q (fun e => g2 (by rw [e]; exact M.in_A ey))]
      exact S.2.1 q g1 g2, fun q hq => by
      rcases List.mem_append.mp hq with h | h
      · exact S.2.2 q h
      · obtain ⟨z, -, hz⟩ := List.mem_map.mp h
        rw [← hz]
        exact M.in_A ey⟩ L _ hheap X'
  exact ⟨t, step t a1, b1⟩
theorem r_ldcT (C : Ok X G cc RX3 nm nL ret d mc ms) {i idx : Nat} {tx : String} {bs : List Int32} (hs : strs[i]? = some (idx, tx, bs)) (hi : i < 14) (hd : decode cc pc = .ok (.ldc idx, 2)) (K : At X G Q n k (pc + 2) lv (.ref (10000 + i) :: st) h) : At X G Q n k pc lv st h := by
  intro H locs ls M S L
  have ea : adG G (10000 + i) = G.2.2.2.1 i := by
    unfold adG
    rw [if_neg (by omega), Nat.add_sub_cancel_left]
  have K' := K H locs ls M S L
  refine va_ldcS C.1 C.2.1 C.2.2.2.1 (C.2.2.2.2.2.1.2.2.2.2.2.1 i _ hs) hd ?_
  rw [← ea]
  exact K'
end ROWS5
end
