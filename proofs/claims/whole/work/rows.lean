section
-- ===== PART A: goes FIRST, ahead of the names: the tables' words, and 'selects' of the private methods out of them =====
/-- a private method of a class that the tables say can be made, by its rows of tables_1 -/
def lw_okq (q : MethodName × Nat) : Prop := (q.1.cls ≠ "java/lang/invoke/MethodHandle" ∧ q.1.cls ≠ "java/lang/invoke/VarHandle") ∧ Cond.instantiable q.1.cls q.2 ∈ tables_1 ∧ Cond.privateMethod q.1 ∈ tables_1 ∧ Cond.instanceMethod q.1 ∈ tables_1
theorem lw_p0 : lw_okq (⟨"BowHouse$Parser", "advance", "()V"⟩, 13) := ⟨⟨by decide +kernel, by decide +kernel⟩, List.mem_of_getElem? (i := 28) (by decide +kernel), List.mem_of_getElem? (i := 413) (by decide +kernel), List.mem_of_getElem? (i := 414) (by decide +kernel)⟩
theorem lw_p1 : lw_okq (⟨"BowHouse$Parser", "scanWord", "()V"⟩, 13) := ⟨⟨by decide +kernel, by decide +kernel⟩, List.mem_of_getElem? (i := 28) (by decide +kernel), List.mem_of_getElem? (i := 420) (by decide +kernel), List.mem_of_getElem? (i := 421) (by decide +kernel)⟩
theorem lw_p2 : lw_okq (⟨"BowHouse$Parser", "scanNumber", "()V"⟩, 13) := ⟨⟨by decide +kernel, by decide +kernel⟩, List.mem_of_getElem? (i := 28) (by decide +kernel), List.mem_of_getElem? (i := 427) (by decide +kernel), List.mem_of_getElem? (i := 428) (by decide +kernel)⟩
theorem lw_p3 : lw_okq (⟨"BowHouse$Parser", "memberLine", "(LBowHouse$House;)V"⟩, 13) := ⟨⟨by decide +kernel, by decide +kernel⟩, List.mem_of_getElem? (i := 28) (by decide +kernel), List.mem_of_getElem? (i := 498) (by decide +kernel), List.mem_of_getElem? (i := 499) (by decide +kernel)⟩
theorem lw_p4 : lw_okq (⟨"BowHouse$Parser", "fail", "(I)V"⟩, 13) := ⟨⟨by decide +kernel, by decide +kernel⟩, List.mem_of_getElem? (i := 28) (by decide +kernel), List.mem_of_getElem? (i := 502) (by decide +kernel), List.mem_of_getElem? (i := 503) (by decide +kernel)⟩
theorem lw_p5 : lw_okq (⟨"BowHouse$Parser", "takeName", "([JI)V"⟩, 13) := ⟨⟨by decide +kernel, by decide +kernel⟩, List.mem_of_getElem? (i := 28) (by decide +kernel), List.mem_of_getElem? (i := 506) (by decide +kernel), List.mem_of_getElem? (i := 507) (by decide +kernel)⟩
theorem lw_p6 : lw_okq (⟨"BowHouse$Parser", "refuse", "()V"⟩, 13) := ⟨⟨by decide +kernel, by decide +kernel⟩, List.mem_of_getElem? (i := 28) (by decide +kernel), List.mem_of_getElem? (i := 510) (by decide +kernel), List.mem_of_getElem? (i := 511) (by decide +kernel)⟩
theorem lw_p7 : lw_okq (⟨"BowHouse$Parser", "take", "(I)V"⟩, 13) := ⟨⟨by decide +kernel, by decide +kernel⟩, List.mem_of_getElem? (i := 28) (by decide +kernel), List.mem_of_getElem? (i := 514) (by decide +kernel), List.mem_of_getElem? (i := 515) (by decide +kernel)⟩
theorem lw_p8 : lw_okq (⟨"BowHouse$Parser", "takeNumber", "(II)I"⟩, 13) := ⟨⟨by decide +kernel, by decide +kernel⟩, List.mem_of_getElem? (i := 28) (by decide +kernel), List.mem_of_getElem? (i := 518) (by decide +kernel), List.mem_of_getElem? (i := 519) (by decide +kernel)⟩
theorem lw_p9 : lw_okq (⟨"BowHouse$Parser", "clauseLine", "(LBowHouse$House;)V"⟩, 13) := ⟨⟨by decide +kernel, by decide +kernel⟩, List.mem_of_getElem? (i := 28) (by decide +kernel), List.mem_of_getElem? (i := 526) (by decide +kernel), List.mem_of_getElem? (i := 527) (by decide +kernel)⟩
theorem lw_p10 : lw_okq (⟨"BowHouse$Parser", "formulaLine", "(LBowHouse$Formula;)V"⟩, 13) := ⟨⟨by decide +kernel, by decide +kernel⟩, List.mem_of_getElem? (i := 28) (by decide +kernel), List.mem_of_getElem? (i := 534) (by decide +kernel), List.mem_of_getElem? (i := 535) (by decide +kernel)⟩
theorem lw_p11 : lw_okq (⟨"BowHouse$Parser", "takeOnce", "()V"⟩, 13) := ⟨⟨by decide +kernel, by decide +kernel⟩, List.mem_of_getElem? (i := 28) (by decide +kernel), List.mem_of_getElem? (i := 538) (by decide +kernel), List.mem_of_getElem? (i := 539) (by decide +kernel)⟩
theorem lw_p12 : lw_okq (⟨"BowHouse$Parser", "either", "(LBowHouse$Formula;I)V"⟩, 13) := ⟨⟨by decide +kernel, by decide +kernel⟩, List.mem_of_getElem? (i := 28) (by decide +kernel), List.mem_of_getElem? (i := 542) (by decide +kernel), List.mem_of_getElem? (i := 543) (by decide +kernel)⟩
theorem lw_p13 : lw_okq (⟨"BowHouse$Parser", "both", "(LBowHouse$Formula;I)V"⟩, 13) := ⟨⟨by decide +kernel, by decide +kernel⟩, List.mem_of_getElem? (i := 28) (by decide +kernel), List.mem_of_getElem? (i := 546) (by decide +kernel), List.mem_of_getElem? (i := 547) (by decide +kernel)⟩
theorem lw_p14 : lw_okq (⟨"BowHouse$Parser", "one", "(LBowHouse$Formula;I)V"⟩, 13) := ⟨⟨by decide +kernel, by decide +kernel⟩, List.mem_of_getElem? (i := 28) (by decide +kernel), List.mem_of_getElem? (i := 550) (by decide +kernel), List.mem_of_getElem? (i := 551) (by decide +kernel)⟩
theorem lw_p15 : lw_okq (⟨"BowHouse$Parser", "sum", "(LBowHouse$Formula;I)V"⟩, 13) := ⟨⟨by decide +kernel, by decide +kernel⟩, List.mem_of_getElem? (i := 28) (by decide +kernel), List.mem_of_getElem? (i := 558) (by decide +kernel), List.mem_of_getElem? (i := 559) (by decide +kernel)⟩
def lw_privs_1 : List (MethodName × Nat) := [(⟨"BowHouse$Parser", "advance", "()V"⟩, 13), (⟨"BowHouse$Parser", "scanWord", "()V"⟩, 13), (⟨"BowHouse$Parser", "scanNumber", "()V"⟩, 13), (⟨"BowHouse$Parser", "memberLine", "(LBowHouse$House;)V"⟩, 13), (⟨"BowHouse$Parser", "fail", "(I)V"⟩, 13), (⟨"BowHouse$Parser", "takeName", "([JI)V"⟩, 13), (⟨"BowHouse$Parser", "refuse", "()V"⟩, 13), (⟨"BowHouse$Parser", "take", "(I)V"⟩, 13), (⟨"BowHouse$Parser", "takeNumber", "(II)I"⟩, 13), (⟨"BowHouse$Parser", "clauseLine", "(LBowHouse$House;)V"⟩, 13), (⟨"BowHouse$Parser", "formulaLine", "(LBowHouse$Formula;)V"⟩, 13), (⟨"BowHouse$Parser", "takeOnce", "()V"⟩, 13), (⟨"BowHouse$Parser", "either", "(LBowHouse$Formula;I)V"⟩, 13), (⟨"BowHouse$Parser", "both", "(LBowHouse$Formula;I)V"⟩, 13), (⟨"BowHouse$Parser", "one", "(LBowHouse$Formula;I)V"⟩, 13), (⟨"BowHouse$Parser", "sum", "(LBowHouse$Formula;I)V"⟩, 13)]
theorem lw_r1 : ∀ q ∈ lw_privs_1, lw_okq q := List.forall_mem_cons.mpr ⟨lw_p0, List.forall_mem_cons.mpr ⟨lw_p1, List.forall_mem_cons.mpr ⟨lw_p2, List.forall_mem_cons.mpr ⟨lw_p3, List.forall_mem_cons.mpr ⟨lw_p4, List.forall_mem_cons.mpr ⟨lw_p5, List.forall_mem_cons.mpr ⟨lw_p6, List.forall_mem_cons.mpr ⟨lw_p7, List.forall_mem_cons.mpr ⟨lw_p8, List.forall_mem_cons.mpr ⟨lw_p9, List.forall_mem_cons.mpr ⟨lw_p10, List.forall_mem_cons.mpr ⟨lw_p11, List.forall_mem_cons.mpr ⟨lw_p12, List.forall_mem_cons.mpr ⟨lw_p13, List.forall_mem_cons.mpr ⟨lw_p14, List.forall_mem_cons.mpr ⟨lw_p15, fun _ h => absurd h List.not_mem_nil⟩⟩⟩⟩⟩⟩⟩⟩⟩⟩⟩⟩⟩⟩⟩⟩
theorem lw_p16 : lw_okq (⟨"BowHouse$Parser", "term", "(LBowHouse$Formula;I)V"⟩, 13) := ⟨⟨by decide +kernel, by decide +kernel⟩, List.mem_of_getElem? (i := 28) (by decide +kernel), List.mem_of_getElem? (i := 562) (by decide +kernel), List.mem_of_getElem? (i := 563) (by decide +kernel)⟩
theorem lw_p17 : lw_okq (⟨"BowHouse$Parser", "unit", "(LBowHouse$Formula;I)V"⟩, 13) := ⟨⟨by decide +kernel, by decide +kernel⟩, List.mem_of_getElem? (i := 28) (by decide +kernel), List.mem_of_getElem? (i := 566) (by decide +kernel), List.mem_of_getElem? (i := 567) (by decide +kernel)⟩
theorem lw_p18 : lw_okq (⟨"BowHouse$Parser", "numberLine", "(II)I"⟩, 13) := ⟨⟨by decide +kernel, by decide +kernel⟩, List.mem_of_getElem? (i := 28) (by decide +kernel), List.mem_of_getElem? (i := 570) (by decide +kernel), List.mem_of_getElem? (i := 571) (by decide +kernel)⟩
theorem lw_p19 : lw_okq (⟨"BowHouse$Hearsay", "track", "(LBowHouse$House;II)V"⟩, 9) := ⟨⟨by decide +kernel, by decide +kernel⟩, List.mem_of_getElem? (i := 312) (by decide +kernel), List.mem_of_getElem? (i := 592) (by decide +kernel), List.mem_of_getElem? (i := 593) (by decide +kernel)⟩
theorem lw_p20 : lw_okq (⟨"BowHouse", "isMember", "(I)Z"⟩, 14) := ⟨⟨by decide +kernel, by decide +kernel⟩, List.mem_of_getElem? (i := 20) (by decide +kernel), List.mem_of_getElem? (i := 617) (by decide +kernel), List.mem_of_getElem? (i := 618) (by decide +kernel)⟩
theorem lw_p21 : lw_okq (⟨"BowHouse", "isClause", "(I)Z"⟩, 14) := ⟨⟨by decide +kernel, by decide +kernel⟩, List.mem_of_getElem? (i := 20) (by decide +kernel), List.mem_of_getElem? (i := 626) (by decide +kernel), List.mem_of_getElem? (i := 627) (by decide +kernel)⟩
theorem lw_p22 : lw_okq (⟨"BowHouse", "isOut", "(I)Z"⟩, 14) := ⟨⟨by decide +kernel, by decide +kernel⟩, List.mem_of_getElem? (i := 20) (by decide +kernel), List.mem_of_getElem? (i := 634) (by decide +kernel), List.mem_of_getElem? (i := 635) (by decide +kernel)⟩
theorem lw_p23 : lw_okq (⟨"BowHouse", "windNow", "(IIIZ)I"⟩, 14) := ⟨⟨by decide +kernel, by decide +kernel⟩, List.mem_of_getElem? (i := 20) (by decide +kernel), List.mem_of_getElem? (i := 638) (by decide +kernel), List.mem_of_getElem? (i := 639) (by decide +kernel)⟩
theorem lw_p24 : lw_okq (⟨"BowHouse", "isUnread", "(I)Z"⟩, 14) := ⟨⟨by decide +kernel, by decide +kernel⟩, List.mem_of_getElem? (i := 20) (by decide +kernel), List.mem_of_getElem? (i := 653) (by decide +kernel), List.mem_of_getElem? (i := 654) (by decide +kernel)⟩
theorem lw_p25 : lw_okq (⟨"BowHouse$History", "row", "(I)LBowHouse$State;"⟩, 5) := ⟨⟨by decide +kernel, by decide +kernel⟩, List.mem_of_getElem? (i := 262) (by decide +kernel), List.mem_of_getElem? (i := 661) (by decide +kernel), List.mem_of_getElem? (i := 662) (by decide +kernel)⟩
theorem lw_p26 : lw_okq (⟨"BowHouse$History", "exchange", "(LBowHouse$State;LBowHouse$State;)V"⟩, 5) := ⟨⟨by decide +kernel, by decide +kernel⟩, List.mem_of_getElem? (i := 262) (by decide +kernel), List.mem_of_getElem? (i := 720) (by decide +kernel), List.mem_of_getElem? (i := 721) (by decide +kernel)⟩
theorem lw_p27 : lw_okq (⟨"BowHouse", "trialFromNow", "()LBowHouse$State;"⟩, 14) := ⟨⟨by decide +kernel, by decide +kernel⟩, List.mem_of_getElem? (i := 20) (by decide +kernel), List.mem_of_getElem? (i := 736) (by decide +kernel), List.mem_of_getElem? (i := 737) (by decide +kernel)⟩
theorem lw_p28 : lw_okq (⟨"BowHouse$Agenda", "goOn", "(LBowHouse$House;IIZ)V"⟩, 4) := ⟨⟨by decide +kernel, by decide +kernel⟩, List.mem_of_getElem? (i := 289) (by decide +kernel), List.mem_of_getElem? (i := 762) (by decide +kernel), List.mem_of_getElem? (i := 763) (by decide +kernel)⟩
theorem lw_p29 : lw_okq (⟨"BowHouse", "carriedByTones", "(I)I"⟩, 14) := ⟨⟨by decide +kernel, by decide +kernel⟩, List.mem_of_getElem? (i := 20) (by decide +kernel), List.mem_of_getElem? (i := 775) (by decide +kernel), List.mem_of_getElem? (i := 776) (by decide +kernel)⟩
theorem lw_p30 : lw_okq (⟨"BowHouse$House", "tipsOver", "(II)Z"⟩, 11) := ⟨⟨by decide +kernel, by decide +kernel⟩, List.mem_of_getElem? (i := 120) (by decide +kernel), List.mem_of_getElem? (i := 791) (by decide +kernel), List.mem_of_getElem? (i := 792) (by decide +kernel)⟩
theorem lw_p31 : lw_okq (⟨"BowHouse", "areTwoOut", "(II)Z"⟩, 14) := ⟨⟨by decide +kernel, by decide +kernel⟩, List.mem_of_getElem? (i := 20) (by decide +kernel), List.mem_of_getElem? (i := 811) (by decide +kernel), List.mem_of_getElem? (i := 812) (by decide +kernel)⟩
def lw_privs_2 : List (MethodName × Nat) := [(⟨"BowHouse$Parser", "term", "(LBowHouse$Formula;I)V"⟩, 13), (⟨"BowHouse$Parser", "unit", "(LBowHouse$Formula;I)V"⟩, 13), (⟨"BowHouse$Parser", "numberLine", "(II)I"⟩, 13), (⟨"BowHouse$Hearsay", "track", "(LBowHouse$House;II)V"⟩, 9), (⟨"BowHouse", "isMember", "(I)Z"⟩, 14), (⟨"BowHouse", "isClause", "(I)Z"⟩, 14), (⟨"BowHouse", "isOut", "(I)Z"⟩, 14), (⟨"BowHouse", "windNow", "(IIIZ)I"⟩, 14), (⟨"BowHouse", "isUnread", "(I)Z"⟩, 14), (⟨"BowHouse$History", "row", "(I)LBowHouse$State;"⟩, 5), (⟨"BowHouse$History", "exchange", "(LBowHouse$State;LBowHouse$State;)V"⟩, 5), (⟨"BowHouse", "trialFromNow", "()LBowHouse$State;"⟩, 14), (⟨"BowHouse$Agenda", "goOn", "(LBowHouse$House;IIZ)V"⟩, 4), (⟨"BowHouse", "carriedByTones", "(I)I"⟩, 14), (⟨"BowHouse$House", "tipsOver", "(II)Z"⟩, 11), (⟨"BowHouse", "areTwoOut", "(II)Z"⟩, 14)]
theorem lw_r2 : ∀ q ∈ lw_privs_2, lw_okq q := List.forall_mem_cons.mpr ⟨lw_p16, List.forall_mem_cons.mpr ⟨lw_p17, List.forall_mem_cons.mpr ⟨lw_p18, List.forall_mem_cons.mpr ⟨lw_p19, List.forall_mem_cons.mpr ⟨lw_p20, List.forall_mem_cons.mpr ⟨lw_p21, List.forall_mem_cons.mpr ⟨lw_p22, List.forall_mem_cons.mpr ⟨lw_p23, List.forall_mem_cons.mpr ⟨lw_p24, List.forall_mem_cons.mpr ⟨lw_p25, List.forall_mem_cons.mpr ⟨lw_p26, List.forall_mem_cons.mpr ⟨lw_p27, List.forall_mem_cons.mpr ⟨lw_p28, List.forall_mem_cons.mpr ⟨lw_p29, List.forall_mem_cons.mpr ⟨lw_p30, List.forall_mem_cons.mpr ⟨lw_p31, fun _ h => absurd h List.not_mem_nil⟩⟩⟩⟩⟩⟩⟩⟩⟩⟩⟩⟩⟩⟩⟩⟩
theorem lw_p32 : lw_okq (⟨"BowHouse", "creakAt", "(IZ)I"⟩, 14) := ⟨⟨by decide +kernel, by decide +kernel⟩, List.mem_of_getElem? (i := 20) (by decide +kernel), List.mem_of_getElem? (i := 846) (by decide +kernel), List.mem_of_getElem? (i := 847) (by decide +kernel)⟩
theorem lw_p33 : lw_okq (⟨"BowHouse", "countDrops", "(IZ)Z"⟩, 14) := ⟨⟨by decide +kernel, by decide +kernel⟩, List.mem_of_getElem? (i := 20) (by decide +kernel), List.mem_of_getElem? (i := 858) (by decide +kernel), List.mem_of_getElem? (i := 859) (by decide +kernel)⟩
theorem lw_p34 : lw_okq (⟨"BowHouse", "dropsWith", "(I)I"⟩, 14) := ⟨⟨by decide +kernel, by decide +kernel⟩, List.mem_of_getElem? (i := 20) (by decide +kernel), List.mem_of_getElem? (i := 862) (by decide +kernel), List.mem_of_getElem? (i := 863) (by decide +kernel)⟩
theorem lw_p35 : lw_okq (⟨"BowHouse$House", "needsEach", "(I)Z"⟩, 11) := ⟨⟨by decide +kernel, by decide +kernel⟩, List.mem_of_getElem? (i := 120) (by decide +kernel), List.mem_of_getElem? (i := 888) (by decide +kernel), List.mem_of_getElem? (i := 889) (by decide +kernel)⟩
theorem lw_p36 : lw_okq (⟨"BowHouse$Hearsay", "isBorneOut", "(II)Z"⟩, 9) := ⟨⟨by decide +kernel, by decide +kernel⟩, List.mem_of_getElem? (i := 312) (by decide +kernel), List.mem_of_getElem? (i := 969) (by decide +kernel), List.mem_of_getElem? (i := 970) (by decide +kernel)⟩
theorem lw_p37 : lw_okq (⟨"BowHouseModel", "four", "(I)V"⟩, 78) := ⟨⟨by decide +kernel, by decide +kernel⟩, List.mem_of_getElem? (i := 998) (by decide +kernel), List.mem_of_getElem? (i := 1243) (by decide +kernel), List.mem_of_getElem? (i := 1244) (by decide +kernel)⟩
theorem lw_p38 : lw_okq (⟨"BowHouseModel", "readAll", "()V"⟩, 78) := ⟨⟨by decide +kernel, by decide +kernel⟩, List.mem_of_getElem? (i := 998) (by decide +kernel), List.mem_of_getElem? (i := 1255) (by decide +kernel), List.mem_of_getElem? (i := 1256) (by decide +kernel)⟩
theorem lw_p39 : lw_okq (⟨"BowHouseModel", "token", "()V"⟩, 78) := ⟨⟨by decide +kernel, by decide +kernel⟩, List.mem_of_getElem? (i := 998) (by decide +kernel), List.mem_of_getElem? (i := 1259) (by decide +kernel), List.mem_of_getElem? (i := 1260) (by decide +kernel)⟩
theorem lw_p40 : lw_okq (⟨"BowHouseModel", "here", "(I)I"⟩, 78) := ⟨⟨by decide +kernel, by decide +kernel⟩, List.mem_of_getElem? (i := 998) (by decide +kernel), List.mem_of_getElem? (i := 1263) (by decide +kernel), List.mem_of_getElem? (i := 1264) (by decide +kernel)⟩
theorem lw_p41 : lw_okq (⟨"BowHouseModel", "readLine", "()V"⟩, 78) := ⟨⟨by decide +kernel, by decide +kernel⟩, List.mem_of_getElem? (i := 998) (by decide +kernel), List.mem_of_getElem? (i := 1276) (by decide +kernel), List.mem_of_getElem? (i := 1277) (by decide +kernel)⟩
theorem lw_p42 : lw_okq (⟨"BowHouseModel", "isWord", "(J)Z"⟩, 78) := ⟨⟨by decide +kernel, by decide +kernel⟩, List.mem_of_getElem? (i := 998) (by decide +kernel), List.mem_of_getElem? (i := 1281) (by decide +kernel), List.mem_of_getElem? (i := 1282) (by decide +kernel)⟩
theorem lw_p43 : lw_okq (⟨"BowHouseModel", "readMember", "()V"⟩, 78) := ⟨⟨by decide +kernel, by decide +kernel⟩, List.mem_of_getElem? (i := 998) (by decide +kernel), List.mem_of_getElem? (i := 1285) (by decide +kernel), List.mem_of_getElem? (i := 1286) (by decide +kernel)⟩
theorem lw_p44 : lw_okq (⟨"BowHouseModel", "newName", "(II)V"⟩, 78) := ⟨⟨by decide +kernel, by decide +kernel⟩, List.mem_of_getElem? (i := 998) (by decide +kernel), List.mem_of_getElem? (i := 1289) (by decide +kernel), List.mem_of_getElem? (i := 1290) (by decide +kernel)⟩
theorem lw_p45 : lw_okq (⟨"BowHouseModel", "isName", "()Z"⟩, 78) := ⟨⟨by decide +kernel, by decide +kernel⟩, List.mem_of_getElem? (i := 998) (by decide +kernel), List.mem_of_getElem? (i := 1293) (by decide +kernel), List.mem_of_getElem? (i := 1294) (by decide +kernel)⟩
theorem lw_p46 : lw_okq (⟨"BowHouseModel", "isOwn", "()Z"⟩, 78) := ⟨⟨by decide +kernel, by decide +kernel⟩, List.mem_of_getElem? (i := 998) (by decide +kernel), List.mem_of_getElem? (i := 1297) (by decide +kernel), List.mem_of_getElem? (i := 1298) (by decide +kernel)⟩
theorem lw_p47 : lw_okq (⟨"BowHouseModel", "wrong", "(I)V"⟩, 78) := ⟨⟨by decide +kernel, by decide +kernel⟩, List.mem_of_getElem? (i := 998) (by decide +kernel), List.mem_of_getElem? (i := 1318) (by decide +kernel), List.mem_of_getElem? (i := 1319) (by decide +kernel)⟩
def lw_privs_3 : List (MethodName × Nat) := [(⟨"BowHouse", "creakAt", "(IZ)I"⟩, 14), (⟨"BowHouse", "countDrops", "(IZ)Z"⟩, 14), (⟨"BowHouse", "dropsWith", "(I)I"⟩, 14), (⟨"BowHouse$House", "needsEach", "(I)Z"⟩, 11), (⟨"BowHouse$Hearsay", "isBorneOut", "(II)Z"⟩, 9), (⟨"BowHouseModel", "four", "(I)V"⟩, 78), (⟨"BowHouseModel", "readAll", "()V"⟩, 78), (⟨"BowHouseModel", "token", "()V"⟩, 78), (⟨"BowHouseModel", "here", "(I)I"⟩, 78), (⟨"BowHouseModel", "readLine", "()V"⟩, 78), (⟨"BowHouseModel", "isWord", "(J)Z"⟩, 78), (⟨"BowHouseModel", "readMember", "()V"⟩, 78), (⟨"BowHouseModel", "newName", "(II)V"⟩, 78), (⟨"BowHouseModel", "isName", "()Z"⟩, 78), (⟨"BowHouseModel", "isOwn", "()Z"⟩, 78), (⟨"BowHouseModel", "wrong", "(I)V"⟩, 78)]
theorem lw_r3 : ∀ q ∈ lw_privs_3, lw_okq q := List.forall_mem_cons.mpr ⟨lw_p32, List.forall_mem_cons.mpr ⟨lw_p33, List.forall_mem_cons.mpr ⟨lw_p34, List.forall_mem_cons.mpr ⟨lw_p35, List.forall_mem_cons.mpr ⟨lw_p36, List.forall_mem_cons.mpr ⟨lw_p37, List.forall_mem_cons.mpr ⟨lw_p38, List.forall_mem_cons.mpr ⟨lw_p39, List.forall_mem_cons.mpr ⟨lw_p40, List.forall_mem_cons.mpr ⟨lw_p41, List.forall_mem_cons.mpr ⟨lw_p42, List.forall_mem_cons.mpr ⟨lw_p43, List.forall_mem_cons.mpr ⟨lw_p44, List.forall_mem_cons.mpr ⟨lw_p45, List.forall_mem_cons.mpr ⟨lw_p46, List.forall_mem_cons.mpr ⟨lw_p47, fun _ h => absurd h List.not_mem_nil⟩⟩⟩⟩⟩⟩⟩⟩⟩⟩⟩⟩⟩⟩⟩⟩
theorem lw_p48 : lw_okq (⟨"BowHouseModel", "find", "(II)I"⟩, 78) := ⟨⟨by decide +kernel, by decide +kernel⟩, List.mem_of_getElem? (i := 998) (by decide +kernel), List.mem_of_getElem? (i := 1322) (by decide +kernel), List.mem_of_getElem? (i := 1323) (by decide +kernel)⟩
theorem lw_p49 : lw_okq (⟨"BowHouseModel", "told", "(JII)I"⟩, 78) := ⟨⟨by decide +kernel, by decide +kernel⟩, List.mem_of_getElem? (i := 998) (by decide +kernel), List.mem_of_getElem? (i := 1326) (by decide +kernel), List.mem_of_getElem? (i := 1327) (by decide +kernel)⟩
theorem lw_p50 : lw_okq (⟨"BowHouseModel", "want", "(J)V"⟩, 78) := ⟨⟨by decide +kernel, by decide +kernel⟩, List.mem_of_getElem? (i := 998) (by decide +kernel), List.mem_of_getElem? (i := 1330) (by decide +kernel), List.mem_of_getElem? (i := 1331) (by decide +kernel)⟩
theorem lw_p51 : lw_okq (⟨"BowHouseModel", "toldNumber", "(II)I"⟩, 78) := ⟨⟨by decide +kernel, by decide +kernel⟩, List.mem_of_getElem? (i := 998) (by decide +kernel), List.mem_of_getElem? (i := 1334) (by decide +kernel), List.mem_of_getElem? (i := 1335) (by decide +kernel)⟩
theorem lw_p52 : lw_okq (⟨"BowHouseModel", "readClause", "()V"⟩, 78) := ⟨⟨by decide +kernel, by decide +kernel⟩, List.mem_of_getElem? (i := 998) (by decide +kernel), List.mem_of_getElem? (i := 1341) (by decide +kernel), List.mem_of_getElem? (i := 1342) (by decide +kernel)⟩
theorem lw_p53 : lw_okq (⟨"BowHouseModel", "formula", "()V"⟩, 78) := ⟨⟨by decide +kernel, by decide +kernel⟩, List.mem_of_getElem? (i := 998) (by decide +kernel), List.mem_of_getElem? (i := 1345) (by decide +kernel), List.mem_of_getElem? (i := 1346) (by decide +kernel)⟩
theorem lw_p54 : lw_okq (⟨"BowHouseModel", "unit", "()V"⟩, 78) := ⟨⟨by decide +kernel, by decide +kernel⟩, List.mem_of_getElem? (i := 998) (by decide +kernel), List.mem_of_getElem? (i := 1349) (by decide +kernel), List.mem_of_getElem? (i := 1350) (by decide +kernel)⟩
theorem lw_p55 : lw_okq (⟨"BowHouseModel", "mayNot", "()Z"⟩, 78) := ⟨⟨by decide +kernel, by decide +kernel⟩, List.mem_of_getElem? (i := 998) (by decide +kernel), List.mem_of_getElem? (i := 1353) (by decide +kernel), List.mem_of_getElem? (i := 1354) (by decide +kernel)⟩
theorem lw_p56 : lw_okq (⟨"BowHouseModel", "openUp", "(I)V"⟩, 78) := ⟨⟨by decide +kernel, by decide +kernel⟩, List.mem_of_getElem? (i := 998) (by decide +kernel), List.mem_of_getElem? (i := 1360) (by decide +kernel), List.mem_of_getElem? (i := 1361) (by decide +kernel)⟩
theorem lw_p57 : lw_okq (⟨"BowHouseModel", "isFull", "()Z"⟩, 78) := ⟨⟨by decide +kernel, by decide +kernel⟩, List.mem_of_getElem? (i := 998) (by decide +kernel), List.mem_of_getElem? (i := 1364) (by decide +kernel), List.mem_of_getElem? (i := 1365) (by decide +kernel)⟩
theorem lw_p58 : lw_okq (⟨"BowHouseModel", "countUnit", "()V"⟩, 78) := ⟨⟨by decide +kernel, by decide +kernel⟩, List.mem_of_getElem? (i := 998) (by decide +kernel), List.mem_of_getElem? (i := 1368) (by decide +kernel), List.mem_of_getElem? (i := 1369) (by decide +kernel)⟩
theorem lw_p59 : lw_okq (⟨"BowHouseModel", "asked", "()I"⟩, 78) := ⟨⟨by decide +kernel, by decide +kernel⟩, List.mem_of_getElem? (i := 998) (by decide +kernel), List.mem_of_getElem? (i := 1372) (by decide +kernel), List.mem_of_getElem? (i := 1373) (by decide +kernel)⟩
theorem lw_p60 : lw_okq (⟨"BowHouseModel", "add", "(II)V"⟩, 78) := ⟨⟨by decide +kernel, by decide +kernel⟩, List.mem_of_getElem? (i := 998) (by decide +kernel), List.mem_of_getElem? (i := 1376) (by decide +kernel), List.mem_of_getElem? (i := 1377) (by decide +kernel)⟩
theorem lw_p61 : lw_okq (⟨"BowHouseModel", "sign", "()I"⟩, 78) := ⟨⟨by decide +kernel, by decide +kernel⟩, List.mem_of_getElem? (i := 998) (by decide +kernel), List.mem_of_getElem? (i := 1380) (by decide +kernel), List.mem_of_getElem? (i := 1381) (by decide +kernel)⟩
theorem lw_p62 : lw_okq (⟨"BowHouseModel", "hasBracket", "()Z"⟩, 78) := ⟨⟨by decide +kernel, by decide +kernel⟩, List.mem_of_getElem? (i := 998) (by decide +kernel), List.mem_of_getElem? (i := 1384) (by decide +kernel), List.mem_of_getElem? (i := 1385) (by decide +kernel)⟩
theorem lw_p63 : lw_okq (⟨"BowHouseModel", "close", "(I)V"⟩, 78) := ⟨⟨by decide +kernel, by decide +kernel⟩, List.mem_of_getElem? (i := 998) (by decide +kernel), List.mem_of_getElem? (i := 1388) (by decide +kernel), List.mem_of_getElem? (i := 1389) (by decide +kernel)⟩
def lw_privs_4 : List (MethodName × Nat) := [(⟨"BowHouseModel", "find", "(II)I"⟩, 78), (⟨"BowHouseModel", "told", "(JII)I"⟩, 78), (⟨"BowHouseModel", "want", "(J)V"⟩, 78), (⟨"BowHouseModel", "toldNumber", "(II)I"⟩, 78), (⟨"BowHouseModel", "readClause", "()V"⟩, 78), (⟨"BowHouseModel", "formula", "()V"⟩, 78), (⟨"BowHouseModel", "unit", "()V"⟩, 78), (⟨"BowHouseModel", "mayNot", "()Z"⟩, 78), (⟨"BowHouseModel", "openUp", "(I)V"⟩, 78), (⟨"BowHouseModel", "isFull", "()Z"⟩, 78), (⟨"BowHouseModel", "countUnit", "()V"⟩, 78), (⟨"BowHouseModel", "asked", "()I"⟩, 78), (⟨"BowHouseModel", "add", "(II)V"⟩, 78), (⟨"BowHouseModel", "sign", "()I"⟩, 78), (⟨"BowHouseModel", "hasBracket", "()Z"⟩, 78), (⟨"BowHouseModel", "close", "(I)V"⟩, 78)]
theorem lw_r4 : ∀ q ∈ lw_privs_4, lw_okq q := List.forall_mem_cons.mpr ⟨lw_p48, List.forall_mem_cons.mpr ⟨lw_p49, List.forall_mem_cons.mpr ⟨lw_p50, List.forall_mem_cons.mpr ⟨lw_p51, List.forall_mem_cons.mpr ⟨lw_p52, List.forall_mem_cons.mpr ⟨lw_p53, List.forall_mem_cons.mpr ⟨lw_p54, List.forall_mem_cons.mpr ⟨lw_p55, List.forall_mem_cons.mpr ⟨lw_p56, List.forall_mem_cons.mpr ⟨lw_p57, List.forall_mem_cons.mpr ⟨lw_p58, List.forall_mem_cons.mpr ⟨lw_p59, List.forall_mem_cons.mpr ⟨lw_p60, List.forall_mem_cons.mpr ⟨lw_p61, List.forall_mem_cons.mpr ⟨lw_p62, List.forall_mem_cons.mpr ⟨lw_p63, fun _ h => absurd h List.not_mem_nil⟩⟩⟩⟩⟩⟩⟩⟩⟩⟩⟩⟩⟩⟩⟩⟩
theorem lw_p64 : lw_okq (⟨"BowHouseModel", "hasRelation", "()Z"⟩, 78) := ⟨⟨by decide +kernel, by decide +kernel⟩, List.mem_of_getElem? (i := 998) (by decide +kernel), List.mem_of_getElem? (i := 1392) (by decide +kernel), List.mem_of_getElem? (i := 1393) (by decide +kernel)⟩
theorem lw_p65 : lw_okq (⟨"BowHouseModel", "layTold", "()V"⟩, 78) := ⟨⟨by decide +kernel, by decide +kernel⟩, List.mem_of_getElem? (i := 998) (by decide +kernel), List.mem_of_getElem? (i := 1396) (by decide +kernel), List.mem_of_getElem? (i := 1397) (by decide +kernel)⟩
theorem lw_p66 : lw_okq (⟨"BowHouseModel", "keepAir", "()V"⟩, 78) := ⟨⟨by decide +kernel, by decide +kernel⟩, List.mem_of_getElem? (i := 998) (by decide +kernel), List.mem_of_getElem? (i := 1400) (by decide +kernel), List.mem_of_getElem? (i := 1401) (by decide +kernel)⟩
theorem lw_p67 : lw_okq (⟨"BowHouseModel", "isMember", "(I)Z"⟩, 78) := ⟨⟨by decide +kernel, by decide +kernel⟩, List.mem_of_getElem? (i := 998) (by decide +kernel), List.mem_of_getElem? (i := 1412) (by decide +kernel), List.mem_of_getElem? (i := 1413) (by decide +kernel)⟩
theorem lw_p68 : lw_okq (⟨"BowHouseModel", "isOut", "(I)Z"⟩, 78) := ⟨⟨by decide +kernel, by decide +kernel⟩, List.mem_of_getElem? (i := 998) (by decide +kernel), List.mem_of_getElem? (i := 1419) (by decide +kernel), List.mem_of_getElem? (i := 1420) (by decide +kernel)⟩
theorem lw_p69 : lw_okq (⟨"BowHouseModel", "isClause", "(I)Z"⟩, 78) := ⟨⟨by decide +kernel, by decide +kernel⟩, List.mem_of_getElem? (i := 998) (by decide +kernel), List.mem_of_getElem? (i := 1427) (by decide +kernel), List.mem_of_getElem? (i := 1428) (by decide +kernel)⟩
theorem lw_p70 : lw_okq (⟨"BowHouseModel", "windNow", "(III)I"⟩, 78) := ⟨⟨by decide +kernel, by decide +kernel⟩, List.mem_of_getElem? (i := 998) (by decide +kernel), List.mem_of_getElem? (i := 1435) (by decide +kernel), List.mem_of_getElem? (i := 1436) (by decide +kernel)⟩
theorem lw_p71 : lw_okq (⟨"BowHouseModel", "windOf", "(IIIII)I"⟩, 78) := ⟨⟨by decide +kernel, by decide +kernel⟩, List.mem_of_getElem? (i := 998) (by decide +kernel), List.mem_of_getElem? (i := 1442) (by decide +kernel), List.mem_of_getElem? (i := 1443) (by decide +kernel)⟩
theorem lw_p72 : lw_okq (⟨"BowHouseModel", "isRead", "(I)Z"⟩, 78) := ⟨⟨by decide +kernel, by decide +kernel⟩, List.mem_of_getElem? (i := 998) (by decide +kernel), List.mem_of_getElem? (i := 1459) (by decide +kernel), List.mem_of_getElem? (i := 1460) (by decide +kernel)⟩
theorem lw_p73 : lw_okq (⟨"BowHouseModel", "act", "()V"⟩, 78) := ⟨⟨by decide +kernel, by decide +kernel⟩, List.mem_of_getElem? (i := 998) (by decide +kernel), List.mem_of_getElem? (i := 1463) (by decide +kernel), List.mem_of_getElem? (i := 1464) (by decide +kernel)⟩
theorem lw_p74 : lw_okq (⟨"BowHouseModel", "fill", "()V"⟩, 78) := ⟨⟨by decide +kernel, by decide +kernel⟩, List.mem_of_getElem? (i := 998) (by decide +kernel), List.mem_of_getElem? (i := 1467) (by decide +kernel), List.mem_of_getElem? (i := 1468) (by decide +kernel)⟩
theorem lw_p75 : lw_okq (⟨"BowHouseModel", "readOne", "(IIZ)Z"⟩, 78) := ⟨⟨by decide +kernel, by decide +kernel⟩, List.mem_of_getElem? (i := 998) (by decide +kernel), List.mem_of_getElem? (i := 1471) (by decide +kernel), List.mem_of_getElem? (i := 1472) (by decide +kernel)⟩
theorem lw_p76 : lw_okq (⟨"BowHouseModel", "windAll", "(II)Z"⟩, 78) := ⟨⟨by decide +kernel, by decide +kernel⟩, List.mem_of_getElem? (i := 998) (by decide +kernel), List.mem_of_getElem? (i := 1475) (by decide +kernel), List.mem_of_getElem? (i := 1476) (by decide +kernel)⟩
theorem lw_p77 : lw_okq (⟨"BowHouseModel", "isOutHere", "(I)Z"⟩, 78) := ⟨⟨by decide +kernel, by decide +kernel⟩, List.mem_of_getElem? (i := 998) (by decide +kernel), List.mem_of_getElem? (i := 1479) (by decide +kernel), List.mem_of_getElem? (i := 1480) (by decide +kernel)⟩
theorem lw_p78 : lw_okq (⟨"BowHouseModel", "isFor", "(I)Z"⟩, 78) := ⟨⟨by decide +kernel, by decide +kernel⟩, List.mem_of_getElem? (i := 998) (by decide +kernel), List.mem_of_getElem? (i := 1483) (by decide +kernel), List.mem_of_getElem? (i := 1484) (by decide +kernel)⟩
theorem lw_p79 : lw_okq (⟨"BowHouseModel", "votesOf", "(I)I"⟩, 78) := ⟨⟨by decide +kernel, by decide +kernel⟩, List.mem_of_getElem? (i := 998) (by decide +kernel), List.mem_of_getElem? (i := 1487) (by decide +kernel), List.mem_of_getElem? (i := 1488) (by decide +kernel)⟩
def lw_privs_5 : List (MethodName × Nat) := [(⟨"BowHouseModel", "hasRelation", "()Z"⟩, 78), (⟨"BowHouseModel", "layTold", "()V"⟩, 78), (⟨"BowHouseModel", "keepAir", "()V"⟩, 78), (⟨"BowHouseModel", "isMember", "(I)Z"⟩, 78), (⟨"BowHouseModel", "isOut", "(I)Z"⟩, 78), (⟨"BowHouseModel", "isClause", "(I)Z"⟩, 78), (⟨"BowHouseModel", "windNow", "(III)I"⟩, 78), (⟨"BowHouseModel", "windOf", "(IIIII)I"⟩, 78), (⟨"BowHouseModel", "isRead", "(I)Z"⟩, 78), (⟨"BowHouseModel", "act", "()V"⟩, 78), (⟨"BowHouseModel", "fill", "()V"⟩, 78), (⟨"BowHouseModel", "readOne", "(IIZ)Z"⟩, 78), (⟨"BowHouseModel", "windAll", "(II)Z"⟩, 78), (⟨"BowHouseModel", "isOutHere", "(I)Z"⟩, 78), (⟨"BowHouseModel", "isFor", "(I)Z"⟩, 78), (⟨"BowHouseModel", "votesOf", "(I)I"⟩, 78)]
theorem lw_r5 : ∀ q ∈ lw_privs_5, lw_okq q := List.forall_mem_cons.mpr ⟨lw_p64, List.forall_mem_cons.mpr ⟨lw_p65, List.forall_mem_cons.mpr ⟨lw_p66, List.forall_mem_cons.mpr ⟨lw_p67, List.forall_mem_cons.mpr ⟨lw_p68, List.forall_mem_cons.mpr ⟨lw_p69, List.forall_mem_cons.mpr ⟨lw_p70, List.forall_mem_cons.mpr ⟨lw_p71, List.forall_mem_cons.mpr ⟨lw_p72, List.forall_mem_cons.mpr ⟨lw_p73, List.forall_mem_cons.mpr ⟨lw_p74, List.forall_mem_cons.mpr ⟨lw_p75, List.forall_mem_cons.mpr ⟨lw_p76, List.forall_mem_cons.mpr ⟨lw_p77, List.forall_mem_cons.mpr ⟨lw_p78, List.forall_mem_cons.mpr ⟨lw_p79, fun _ h => absurd h List.not_mem_nil⟩⟩⟩⟩⟩⟩⟩⟩⟩⟩⟩⟩⟩⟩⟩⟩
theorem lw_p80 : lw_okq (⟨"BowHouseModel", "punAll", "()V"⟩, 78) := ⟨⟨by decide +kernel, by decide +kernel⟩, List.mem_of_getElem? (i := 998) (by decide +kernel), List.mem_of_getElem? (i := 1491) (by decide +kernel), List.mem_of_getElem? (i := 1492) (by decide +kernel)⟩
theorem lw_p81 : lw_okq (⟨"BowHouseModel", "changes", "()V"⟩, 78) := ⟨⟨by decide +kernel, by decide +kernel⟩, List.mem_of_getElem? (i := 998) (by decide +kernel), List.mem_of_getElem? (i := 1506) (by decide +kernel), List.mem_of_getElem? (i := 1507) (by decide +kernel)⟩
theorem lw_p82 : lw_okq (⟨"BowHouseModel", "exchange", "(I)V"⟩, 78) := ⟨⟨by decide +kernel, by decide +kernel⟩, List.mem_of_getElem? (i := 998) (by decide +kernel), List.mem_of_getElem? (i := 1514) (by decide +kernel), List.mem_of_getElem? (i := 1515) (by decide +kernel)⟩
theorem lw_p83 : lw_okq (⟨"BowHouseModel", "mayRead", "(I)Z"⟩, 78) := ⟨⟨by decide +kernel, by decide +kernel⟩, List.mem_of_getElem? (i := 998) (by decide +kernel), List.mem_of_getElem? (i := 1526) (by decide +kernel), List.mem_of_getElem? (i := 1527) (by decide +kernel)⟩
theorem lw_p84 : lw_okq (⟨"BowHouseModel", "thinkRead", "(II)Z"⟩, 78) := ⟨⟨by decide +kernel, by decide +kernel⟩, List.mem_of_getElem? (i := 998) (by decide +kernel), List.mem_of_getElem? (i := 1530) (by decide +kernel), List.mem_of_getElem? (i := 1531) (by decide +kernel)⟩
theorem lw_p85 : lw_okq (⟨"BowHouseModel", "nextRow", "()Z"⟩, 78) := ⟨⟨by decide +kernel, by decide +kernel⟩, List.mem_of_getElem? (i := 998) (by decide +kernel), List.mem_of_getElem? (i := 1550) (by decide +kernel), List.mem_of_getElem? (i := 1551) (by decide +kernel)⟩
theorem lw_p86 : lw_okq (⟨"BowHouseModel", "exchangeInRow", "(II)V"⟩, 78) := ⟨⟨by decide +kernel, by decide +kernel⟩, List.mem_of_getElem? (i := 998) (by decide +kernel), List.mem_of_getElem? (i := 1554) (by decide +kernel), List.mem_of_getElem? (i := 1555) (by decide +kernel)⟩
theorem lw_p87 : lw_okq (⟨"BowHouseModel", "carriedBy", "(I)I"⟩, 78) := ⟨⟨by decide +kernel, by decide +kernel⟩, List.mem_of_getElem? (i := 998) (by decide +kernel), List.mem_of_getElem? (i := 1562) (by decide +kernel), List.mem_of_getElem? (i := 1563) (by decide +kernel)⟩
theorem lw_p88 : lw_okq (⟨"BowHouseModel", "tiltsAt", "(II)Z"⟩, 78) := ⟨⟨by decide +kernel, by decide +kernel⟩, List.mem_of_getElem? (i := 998) (by decide +kernel), List.mem_of_getElem? (i := 1574) (by decide +kernel), List.mem_of_getElem? (i := 1575) (by decide +kernel)⟩
theorem lw_p89 : lw_okq (⟨"BowHouseModel", "isEnough", "(I)Z"⟩, 78) := ⟨⟨by decide +kernel, by decide +kernel⟩, List.mem_of_getElem? (i := 998) (by decide +kernel), List.mem_of_getElem? (i := 1578) (by decide +kernel), List.mem_of_getElem? (i := 1579) (by decide +kernel)⟩
theorem lw_p90 : lw_okq (⟨"BowHouseModel", "areTwoOut", "(II)Z"⟩, 78) := ⟨⟨by decide +kernel, by decide +kernel⟩, List.mem_of_getElem? (i := 998) (by decide +kernel), List.mem_of_getElem? (i := 1605) (by decide +kernel), List.mem_of_getElem? (i := 1606) (by decide +kernel)⟩
theorem lw_p91 : lw_okq (⟨"BowHouseModel", "creakOf", "(II)I"⟩, 78) := ⟨⟨by decide +kernel, by decide +kernel⟩, List.mem_of_getElem? (i := 998) (by decide +kernel), List.mem_of_getElem? (i := 1631) (by decide +kernel), List.mem_of_getElem? (i := 1632) (by decide +kernel)⟩
theorem lw_p92 : lw_okq (⟨"BowHouseModel", "layTills", "(II)V"⟩, 78) := ⟨⟨by decide +kernel, by decide +kernel⟩, List.mem_of_getElem? (i := 998) (by decide +kernel), List.mem_of_getElem? (i := 1651) (by decide +kernel), List.mem_of_getElem? (i := 1652) (by decide +kernel)⟩
theorem lw_p93 : lw_okq (⟨"BowHouseModel", "isLastOut", "()Z"⟩, 78) := ⟨⟨by decide +kernel, by decide +kernel⟩, List.mem_of_getElem? (i := 998) (by decide +kernel), List.mem_of_getElem? (i := 1702) (by decide +kernel), List.mem_of_getElem? (i := 1703) (by decide +kernel)⟩
theorem lw_p94 : lw_okq (⟨"BowHouseModel", "layFits", "(I)I"⟩, 78) := ⟨⟨by decide +kernel, by decide +kernel⟩, List.mem_of_getElem? (i := 998) (by decide +kernel), List.mem_of_getElem? (i := 1719) (by decide +kernel), List.mem_of_getElem? (i := 1720) (by decide +kernel)⟩
theorem lw_p95 : lw_okq (⟨"BowHouseModel", "layHad", "(I)V"⟩, 78) := ⟨⟨by decide +kernel, by decide +kernel⟩, List.mem_of_getElem? (i := 998) (by decide +kernel), List.mem_of_getElem? (i := 1723) (by decide +kernel), List.mem_of_getElem? (i := 1724) (by decide +kernel)⟩
def lw_privs_6 : List (MethodName × Nat) := [(⟨"BowHouseModel", "punAll", "()V"⟩, 78), (⟨"BowHouseModel", "changes", "()V"⟩, 78), (⟨"BowHouseModel", "exchange", "(I)V"⟩, 78), (⟨"BowHouseModel", "mayRead", "(I)Z"⟩, 78), (⟨"BowHouseModel", "thinkRead", "(II)Z"⟩, 78), (⟨"BowHouseModel", "nextRow", "()Z"⟩, 78), (⟨"BowHouseModel", "exchangeInRow", "(II)V"⟩, 78), (⟨"BowHouseModel", "carriedBy", "(I)I"⟩, 78), (⟨"BowHouseModel", "tiltsAt", "(II)Z"⟩, 78), (⟨"BowHouseModel", "isEnough", "(I)Z"⟩, 78), (⟨"BowHouseModel", "areTwoOut", "(II)Z"⟩, 78), (⟨"BowHouseModel", "creakOf", "(II)I"⟩, 78), (⟨"BowHouseModel", "layTills", "(II)V"⟩, 78), (⟨"BowHouseModel", "isLastOut", "()Z"⟩, 78), (⟨"BowHouseModel", "layFits", "(I)I"⟩, 78), (⟨"BowHouseModel", "layHad", "(I)V"⟩, 78)]
theorem lw_r6 : ∀ q ∈ lw_privs_6, lw_okq q := List.forall_mem_cons.mpr ⟨lw_p80, List.forall_mem_cons.mpr ⟨lw_p81, List.forall_mem_cons.mpr ⟨lw_p82, List.forall_mem_cons.mpr ⟨lw_p83, List.forall_mem_cons.mpr ⟨lw_p84, List.forall_mem_cons.mpr ⟨lw_p85, List.forall_mem_cons.mpr ⟨lw_p86, List.forall_mem_cons.mpr ⟨lw_p87, List.forall_mem_cons.mpr ⟨lw_p88, List.forall_mem_cons.mpr ⟨lw_p89, List.forall_mem_cons.mpr ⟨lw_p90, List.forall_mem_cons.mpr ⟨lw_p91, List.forall_mem_cons.mpr ⟨lw_p92, List.forall_mem_cons.mpr ⟨lw_p93, List.forall_mem_cons.mpr ⟨lw_p94, List.forall_mem_cons.mpr ⟨lw_p95, fun _ h => absurd h List.not_mem_nil⟩⟩⟩⟩⟩⟩⟩⟩⟩⟩⟩⟩⟩⟩⟩⟩
theorem lw_p96 : lw_okq (⟨"BowHouseModel", "fitsMinds", "(II)Z"⟩, 78) := ⟨⟨by decide +kernel, by decide +kernel⟩, List.mem_of_getElem? (i := 998) (by decide +kernel), List.mem_of_getElem? (i := 1727) (by decide +kernel), List.mem_of_getElem? (i := 1728) (by decide +kernel)⟩
theorem lw_p97 : lw_okq (⟨"BowHouseModel", "leftBy", "(I)I"⟩, 78) := ⟨⟨by decide +kernel, by decide +kernel⟩, List.mem_of_getElem? (i := 998) (by decide +kernel), List.mem_of_getElem? (i := 1739) (by decide +kernel), List.mem_of_getElem? (i := 1740) (by decide +kernel)⟩
def lw_privs_7 : List (MethodName × Nat) := [(⟨"BowHouseModel", "fitsMinds", "(II)Z"⟩, 78), (⟨"BowHouseModel", "leftBy", "(I)I"⟩, 78)]
theorem lw_r7 : ∀ q ∈ lw_privs_7, lw_okq q := List.forall_mem_cons.mpr ⟨lw_p96, List.forall_mem_cons.mpr ⟨lw_p97, fun _ h => absurd h List.not_mem_nil⟩⟩
def lw_privs : List (MethodName × Nat) := lw_privs_1 ++ (lw_privs_2 ++ (lw_privs_3 ++ (lw_privs_4 ++ (lw_privs_5 ++ (lw_privs_6 ++ (lw_privs_7))))))
def lw_tbl : List Cond := k2_sels lw_privs ++ tables_1
theorem lw_privs_ok : ∀ q ∈ lw_privs, lw_okq q := by
  show ∀ q ∈ lw_privs_1 ++ (lw_privs_2 ++ (lw_privs_3 ++ (lw_privs_4 ++ (lw_privs_5 ++ (lw_privs_6 ++ (lw_privs_7)))))), lw_okq q
  exact List.forall_mem_append.mpr ⟨lw_r1, List.forall_mem_append.mpr ⟨lw_r2, List.forall_mem_append.mpr ⟨lw_r3, List.forall_mem_append.mpr ⟨lw_r4, List.forall_mem_append.mpr ⟨lw_r5, List.forall_mem_append.mpr ⟨lw_r6, lw_r7⟩⟩⟩⟩⟩⟩
end
section
/-! THE ABSTRACT MACHINE: cells by number (the order in which they are made), ints, longs and references apart; a method's run as a predicate transformer -/
abbrev zF : Type := Nat × Nat × (Nat → Nat ⊕ (Nat × Nat)) × (Nat → Nat → Option Nat)
abbrev zM : Type := zF × (Nat → Nat → Int32) × (Nat → Nat → Int64)
abbrev zE : Type := Nat × Nat × Instr × Nat × Nat × Nat × Value
abbrev zQ : Type := zM → Option Value → Prop
abbrev zX : Type := Nat → List Value → List Value → zM → Prop
abbrev zC : Type := Nat → zM → List Value → zQ → Prop
def zup {α : Type} (f : Nat → Nat → α) (c j : Nat) (v : α) : Nat → Nat → α := fun c' j' => if c' = c then (if j' = j then v else f c' j') else f c' j'
def zrow {α : Type} (f : Nat → Nat → α) (c : Nat) (g : Nat → α) : Nat → Nat → α := fun c' j' => if c' = c then g j' else f c' j'
def zn (M : zM) : Nat := M.1.1
def zsl (M : zM) : Nat := M.1.2.1
def zS (M : zM) (c : Nat) : Nat ⊕ (Nat × Nat) := M.1.2.2.1 c
def zR (M : zM) (c j : Nat) : Option Nat := M.1.2.2.2 c j
def zI (M : zM) (c j : Nat) : Int32 := M.2.1 c j
def zL (M : zM) (c j : Nat) : Int64 := M.2.2 c j
def zwI (M : zM) (c j : Nat) (v : Int32) : zM := (M.1, zup M.2.1 c j v, M.2.2)
def zwL (M : zM) (c j : Nat) (v : Int64) : zM := (M.1, M.2.1, zup M.2.2 c j v)
def zwR (M : zM) (c j : Nat) (v : Option Nat) : zM := ((M.1.1, M.1.2.1, M.1.2.2.1, zup M.1.2.2.2 c j v), M.2.1, M.2.2)
/-- a new cell of that shape and so many slots -/
def znew (M : zM) (sh : Nat ⊕ (Nat × Nat)) (N : Nat) : zM := ((M.1.1 + 1, M.1.2.1 + N, (fun c => if c = M.1.1 then sh else M.1.2.2.1 c), zrow M.1.2.2.2 M.1.1 (fun _ => none)), zrow M.2.1 M.1.1 (fun _ => 0), zrow M.2.2 M.1.1 (fun _ => 0))
/-- System.arraycopy of ints -/
def zcpy (M : zM) (q0 sp q1 dp n : Nat) : zM := (M.1, zrow M.2.1 q1 (va_cpy (M.2.1 q0) (M.2.1 q1) sp dp n), M.2.2)
/-- how many cells and slots a method makes: by number; those that make none aren't listed -/
def zfind : List zE → Nat → Option zE
  | [], _ => none
  | e :: es, pc => match Nat.beq e.1 pc with
    | true => some e
    | false => zfind es pc
def zcat : List Value → Nat
  | [] => 0
  | v :: r => v.category + zcat r
/-- the relations of the branches, as the kit's rows have them -/
def zcmp : ClassFile.Cond → Int32 → Int32 → Prop
  | .eq, x, y => x = y
  | .ne, x, y => ¬ x = y
  | .lt, x, y => x < y
  | .ge, x, y => y ≤ x
  | .gt, x, y => y < x
  | .le, x, y => x ≤ y
/-- a switch: the first pair that fits -/
def zsw (x : Int32) (P : Nat → Prop) (d : Nat) : List (Int32 × Nat) → Prop
  | [] => P d
  | q :: qs => (x = q.1 → P q.2) ∧ (¬ x = q.1 → zsw x P d qs)
def ztab (pc : Nat) : Int → List Int → List (Int32 × Nat)
  | _, [] => []
  | k, o :: os => (Int32.ofInt k, ((pc : Int) + o).toNat) :: ztab pc (k + 1) os
def zloo (pc : Nat) : List (Int × Int) → List (Int32 × Nat)
  | [] => []
  | q :: qs => (Int32.ofInt q.1, ((pc : Int) + q.2).toNat) :: zloo pc qs
/-- the arrays that are only read: 1 the script, 2 FACTORIALS, 5 and 6 the bytes of the two String constants (3, 4) -/
def zwords : List Int32 := [109, 101, 109, 98, 101, 114, 32, 32, 99, 108, 97, 117, 115, 101, 32, 32, 119, 105, 110, 100, 115, 32, 32, 32, 99, 111, 99, 107, 32, 32, 32, 32, 113, 117, 111, 116, 97, 32, 32, 32, 112, 117, 110, 115, 32, 32, 32, 32, 100, 114, 97, 119, 32, 32, 32, 32, 105, 110, 32, 32, 32, 32, 32, 32, 111, 117, 116, 32, 32, 32, 32, 32, 111, 114, 32, 32, 32, 32, 32, 32, 97, 110, 100, 32, 32, 32, 32, 32, 110, 111, 116, 32, 32, 32, 32, 32, 115, 104, 97, 114, 112, 32, 32, 32, 109, 105, 110, 100, 115, 32, 32, 32, 118, 111, 116, 101, 115, 32, 32, 32, 110, 111, 116, 99, 104, 32, 32, 32, 102, 97, 108, 108, 105, 110, 103, 32, 114, 101, 97, 100, 32, 32, 32, 32]
def zsigns : List Int32 := [59, 40, 41, 60, 62, 61, 43, 45, 42, 47, 37]
def zfacts : List Int32 := [1, 1, 2, 6, 24, 120, 720, 5040]
def zspA (xs : List Int32) : Nat → Option (Nat × List Int32)
  | 1 => some (0, xs)
  | 2 => some (0, zfacts)
  | 5 => some (1, zwords)
  | 6 => some (1, zsigns)
  | _ => none
/-- checks that are gone where their terms are written out: a shape of an object, of an array, a reference, an index, a boolean -/
def zck (s : Nat ⊕ (Nat × Nat)) (a : Nat) (P : Prop) : Prop := match s with
  | .inl a' => (match Nat.beq a' a with
    | true => P
    | false => False)
  | .inr _ => False
def zsh (s : Nat ⊕ (Nat × Nat)) (t : Nat) (P : Nat → Prop) : Prop := match s with
  | .inl _ => False
  | .inr (t', n) => (match Nat.beq t' t with
    | true => P n
    | false => False)
def zro (o : Option Nat) (P : Nat → Prop) : Prop := match o with
  | some t => P t
  | none => False
def zix (i : Int32) (n : Nat) (P : Prop) : Prop := match decide (i < 0), Nat.ble n i.toNatClampNeg with
  | false, false => P
  | _, _ => False
def zbo (x : Int32) (P : Prop) : Prop := match decide (x = 0), decide (x = 1) with
  | false, false => False
  | _, _ => P
def zldi (X : zX) (np : Nat) (ls : List Value) (a : Nat) (st : List Value) (M : zM) : Prop := match ls.getD a (.retAddr 0) with
  | .int x => X np ls (.int x :: st) M
  | _ => False
def zldl (X : zX) (np : Nat) (ls : List Value) (a : Nat) (st : List Value) (M : zM) : Prop := match ls.getD a (.retAddr 0) with
  | .long x => X np ls (.long x :: st) M
  | _ => False
def zlda (X : zX) (np : Nat) (ls : List Value) (a : Nat) (st : List Value) (M : zM) : Prop := match ls.getD a (.retAddr 0) with
  | .ref x => X np ls (.ref x :: st) M
  | .retAddr (k + 1) => X np ls (.retAddr (k + 1) :: st) M
  | _ => False
def zsti (X : zX) (np : Nat) (ls : List Value) (a : Nat) (st : List Value) (M : zM) : Prop := match st with
  | .int x :: r => X np (ls.set a (.int x)) r M
  | _ => False
def zsta (X : zX) (np : Nat) (ls : List Value) (a : Nat) (st : List Value) (M : zM) : Prop := match st with
  | .ref x :: r => X np (ls.set a (.ref x)) r M
  | _ => False
def zinc (X : zX) (np : Nat) (ls : List Value) (a : Nat) (v : Value) (st : List Value) (M : zM) : Prop := match ls.getD a (.retAddr 0), v with
  | .int x, .int k => X np (ls.set a (.int (x + k))) st M
  | _, _ => False
def zun (f : Int32 → Int32) (X : zX) (np : Nat) (ls st : List Value) (M : zM) : Prop := match st with
  | .int x :: r => X np ls (.int (f x) :: r) M
  | _ => False
def zbin (f : Int32 → Int32 → Int32) (X : zX) (np : Nat) (ls st : List Value) (M : zM) : Prop := match st with
  | .int y :: .int x :: r => X np ls (.int (f x y) :: r) M
  | _ => False
def zdiv (f : Int32 → Int32 → Int32) (X : zX) (np : Nat) (ls st : List Value) (M : zM) : Prop := match st with
  | .int y :: .int x :: r => ¬ y = 0 ∧ X np ls (.int (f x y) :: r) M
  | _ => False
def zlcm (X : zX) (np : Nat) (ls st : List Value) (M : zM) : Prop := match st with
  | .long y :: .long x :: r => X np ls (.int (lg_cmp x y) :: r) M
  | _ => False
def zlor (X : zX) (np : Nat) (ls st : List Value) (M : zM) : Prop := match st with
  | .long y :: .long x :: r => X np ls (.long (x ||| y) :: r) M
  | _ => False
def zlsh (X : zX) (np : Nat) (ls st : List Value) (M : zM) : Prop := match st with
  | .int y :: .long x :: r => X np ls (.long (x <<< (y.toInt64 &&& 63)) :: r) M
  | _ => False
def zi2l (X : zX) (np : Nat) (ls st : List Value) (M : zM) : Prop := match st with
  | .int x :: r => X np ls (.long x.toInt64 :: r) M
  | _ => False
def zic (c : ClassFile.Cond) (X : zX) (tgt np : Nat) (ls st : List Value) (M : zM) : Prop := match st with
  | .int y :: .int x :: r => (zcmp c x y → X tgt ls r M) ∧ (¬ zcmp c x y → X np ls r M)
  | _ => False
def zif (c : ClassFile.Cond) (X : zX) (tgt np : Nat) (ls st : List Value) (M : zM) : Prop := match st with
  | .int x :: r => (zcmp c x 0 → X tgt ls r M) ∧ (¬ zcmp c x 0 → X np ls r M)
  | _ => False
def zsws (ps : List (Int32 × Nat)) (d : Nat) (X : zX) (ls st : List Value) (M : zM) : Prop := match st with
  | .int x :: r => zsw x (fun t => X t ls r M) d ps
  | _ => False
def zdup (X : zX) (np : Nat) (ls st : List Value) (M : zM) : Prop := match st with
  | .int x :: r => X np ls (.int x :: .int x :: r) M
  | .ref x :: r => X np ls (.ref x :: .ref x :: r) M
  | _ => False
def zdup2 (X : zX) (np : Nat) (ls st : List Value) (M : zM) : Prop := match st with
  | .int x :: .ref y :: r => X np ls (.int x :: .ref y :: .int x :: .ref y :: r) M
  | _ => False
def zpop (X : zX) (np : Nat) (ls st : List Value) (M : zM) : Prop := match st with
  | .int _ :: r => X np ls r M
  | .ref _ :: r => X np ls r M
  | _ => False
/-- a field: class a (99: String), place b, sort c (4 a reference, 3 a long, 2 a boolean, 0 an int) -/
def zgf (a b c : Nat) (X : zX) (np : Nat) (ls st : List Value) (M : zM) : Prop := match st with
  | .ref q :: r => zck (zS M q) a (match c with
    | 4 => zro (zR M q b) (fun t => X np ls (.ref t :: r) M)
    | 3 => X np ls (.long (zL M q b) :: r) M
    | _ => X np ls (.int (zI M q b) :: r) M)
  | .retAddr k :: r => (match a, b, k with
    | 99, 0, 3 => X np ls (.retAddr 5 :: r) M
    | 99, 0, 4 => X np ls (.retAddr 6 :: r) M
    | 99, 1, 3 => X np ls (.int 0 :: r) M
    | 99, 1, 4 => X np ls (.int 0 :: r) M
    | _, _, _ => False)
  | _ => False
def zpf (a b c : Nat) (X : zX) (np : Nat) (ls st : List Value) (M : zM) : Prop := match c, st with
  | 0, .int x :: .ref q :: r => zck (zS M q) a (X np ls r (zwI M q b x))
  | 2, .int x :: .ref q :: r => zck (zS M q) a (zbo x (X np ls r (zwI M q b x)))
  | 3, .long x :: .ref q :: r => zck (zS M q) a (X np ls r (zwL M q b x))
  | 4, .ref t :: .ref q :: r => zck (zS M q) a (X np ls r (zwR M q b (some t)))
  | _, _ => False
def zal (xs : List Int32) (t : Nat) (X : zX) (np : Nat) (ls st : List Value) (M : zM) : Prop := match st with
  | .int i :: .ref q :: r => zsh (zS M q) t (fun n => zix i n (X np ls (.int (zI M q i.toNatClampNeg) :: r) M))
  | .int i :: .retAddr k :: r => (match zspA xs k with
    | some (t', l) => (match Nat.beq t' t with
      | true => zix i l.length (X np ls (.int (l.getD i.toNatClampNeg 0) :: r) M)
      | false => False)
    | none => False)
  | _ => False
def zll (X : zX) (np : Nat) (ls st : List Value) (M : zM) : Prop := match st with
  | .int i :: .ref q :: r => zsh (zS M q) 3 (fun n => zix i n (X np ls (.long (zL M q i.toNatClampNeg) :: r) M))
  | _ => False
def zaa (X : zX) (np : Nat) (ls st : List Value) (M : zM) : Prop := match st with
  | .int i :: .ref q :: r => zsh (zS M q) 4 (fun n => zix i n (zro (zR M q i.toNatClampNeg) (fun t => X np ls (.ref t :: r) M)))
  | _ => False
def zas (t : Nat) (f : Int32 → Int32) (X : zX) (np : Nat) (ls st : List Value) (M : zM) : Prop := match st with
  | .int x :: .int i :: .ref q :: r => zsh (zS M q) t (fun n => zix i n (X np ls r (zwI M q i.toNatClampNeg (f x))))
  | _ => False
def zls (X : zX) (np : Nat) (ls st : List Value) (M : zM) : Prop := match st with
  | .long x :: .int i :: .ref q :: r => zsh (zS M q) 3 (fun n => zix i n (X np ls r (zwL M q i.toNatClampNeg x)))
  | _ => False
def zaas (X : zX) (np : Nat) (ls st : List Value) (M : zM) : Prop := match st with
  | .ref t :: .int i :: .ref q :: r => zsh (zS M q) 4 (fun n => zix i n (zck (zS M t) 6 (X np ls r (zwR M q i.toNatClampNeg (some t)))))
  | _ => False
def zlen (xs : List Int32) (X : zX) (np : Nat) (ls st : List Value) (M : zM) : Prop := match st with
  | .ref q :: r => (match zS M q with
    | .inl _ => False
    | .inr (t, n) => (match Nat.blt t 5 with
      | true => X np ls (.int (nI n) :: r) M
      | false => False))
  | .retAddr k :: r => (match zspA xs k with
    | some (_, l) => X np ls (.int (nI l.length) :: r) M
    | none => False)
  | _ => False
def znw (Bn Bs a b : Nat) (X : zX) (np : Nat) (ls st : List Value) (M : zM) : Prop := zn M + 1 ≤ Bn ∧ zsl M + b ≤ Bs ∧ X np ls (.ref (zn M) :: st) (znew M (.inl a) b)
def zna (Bn Bs t : Nat) (X : zX) (np : Nat) (ls st : List Value) (M : zM) : Prop := match st with
  | .int k :: r => ¬ k < 0 ∧ k.toNatClampNeg ≤ 100000 ∧ zn M + 1 ≤ Bn ∧ zsl M + k.toNatClampNeg ≤ Bs ∧ X np ls (.ref (zn M) :: r) (znew M (.inr (t, k.toNatClampNeg)) k.toNatClampNeg)
  | _ => False
/-- a call's answer: where the callee makes nothing and writes no reference, all but ints and longs is as it was -/
abbrev zIL : Type := (Nat → Nat → Int32) × (Nat → Nat → Int64)
def zkI (F : zF) (f : zIL → Int32 → Prop) : zQ := fun M o => M.1 = F ∧ (match o with
  | some (.int x) => f M.2 x
  | _ => False)
def zkA (F : zF) (f : zIL → Nat → Prop) : zQ := fun M o => M.1 = F ∧ (match o with
  | some (.ref x) => f M.2 x
  | _ => False)
def zkV (F : zF) (f : zIL → Prop) : zQ := fun M o => M.1 = F ∧ (match o with
  | none => f M.2
  | _ => False)
def zans (c : Nat) (F : zF) (X : zX) (np : Nat) (ls r : List Value) : zQ := match c with
  | 0 => zkV F (fun IL => X np ls r (F, IL))
  | 1 => zkI F (fun IL x => X np ls (.int x :: r) (F, IL))
  | 2 => zkA F (fun IL x => X np ls (.ref x :: r) (F, IL))
  | _ => fun _ _ => False
/-- of a callee that makes cells or writes references -/
def zuV (n s : Nat) (f : zM → Prop) : zQ := fun M o => zn M = n ∧ zsl M = s ∧ (match o with
  | none => f M
  | _ => False)
def zuI (n s : Nat) (f : zM → Int32 → Prop) : zQ := fun M o => zn M = n ∧ zsl M = s ∧ (match o with
  | some (.int x) => f M x
  | _ => False)
def zanu (c n s : Nat) (X : zX) (np : Nat) (ls r : List Value) : zQ := match c with
  | 0 => zuV n s (fun M => X np ls r M)
  | 1 => zuI n s (fun M x => X np ls (.int x :: r) M)
  | _ => fun _ _ => False
/-- a call of method a with b values (its receiver too); v: null, or the cells (by a million) and slots that it makes -/
def zcl (C : zC) (Bn Bs a b c : Nat) (v : Value) (X : zX) (np : Nat) (ls st : List Value) (M : zM) : Prop := match Nat.ble b st.length, Nat.ble (zcat (st.drop b)) 8 with
  | true, true => (match v with
    | .ref mc => zn M + mc / 1000000 ≤ Bn ∧ zsl M + mc % 1000000 ≤ Bs ∧ C a M (st.take b).reverse (zanu c (zn M + mc / 1000000) (zsl M + mc % 1000000) X np ls (st.drop b))
    | _ => C a M (st.take b).reverse (zans c M.1 X np ls (st.drop b)))
  | _, _ => False
def zoi (X : zX) (np : Nat) (ls st : List Value) (M : zM) : Prop := match st with
  | .ref _ :: r => (match Nat.ble (zcat r) 8 with
    | true => X np ls r M
    | false => False)
  | _ => False
def zac (X : zX) (np : Nat) (ls st : List Value) (M : zM) : Prop := match st with
  | [.int n, .int dp, .ref q1, .int sp, .ref q0] => zsh (zS M q0) 0 (fun n0 => zsh (zS M q1) 0 (fun n1 => (match decide (sp < 0), decide (dp < 0), decide (n < 0), Nat.ble (sp.toNatClampNeg + n.toNatClampNeg) n0, Nat.ble (dp.toNatClampNeg + n.toNatClampNeg) n1 with
    | false, false, false, true, true => X np ls [] (zcpy M q0 sp.toNatClampNeg q1 dp.toNatClampNeg n.toNatClampNeg)
    | _, _, _, _, _ => False)))
  | _ => False
/-- an int's return: c 2 of a boolean, 5 of a char, 1 of a byte, else of an int -/
def zri (c : Nat) (Q : zQ) (st : List Value) (M : zM) : Prop := match st with
  | [.int x] => (match c with
    | 2 => zbo x (Q M (some (.int x)))
    | 5 => narrow .char (.int x) = .int x ∧ Q M (some (.int x))
    | 1 => narrow .byte (.int x) = .int x ∧ Q M (some (.int x))
    | _ => Q M (some (.int x)))
  | _ => False
def zra (Q : zQ) (st : List Value) (M : zM) : Prop := match st with
  | [.ref x] => Q M (some (.ref x))
  | _ => False
def zrv (Q : zQ) (st : List Value) (M : zM) : Prop := match st with
  | [] => Q M none
  | _ => False
/-- one instruction -/
def zop (xs : List Int32) (C : zC) (Bn Bs : Nat) (Q : zQ) (X : zX) (pc np : Nat) (ins : Instr) (a b c : Nat) (v : Value) (ls st : List Value) (M : zM) : Prop := match ins with
  | .iload _ => zldi X np ls a st M
  | .iload_n _ => zldi X np ls a st M
  | .aload _ => zlda X np ls a st M
  | .aload_n _ => zlda X np ls a st M
  | .lload_n _ => zldl X np ls a st M
  | .istore _ => zsti X np ls a st M
  | .istore_n _ => zsti X np ls a st M
  | .astore _ => zsta X np ls a st M
  | .astore_n _ => zsta X np ls a st M
  | .iinc _ _ => zinc X np ls a v st M
  | .iconst _ => X np ls (v :: st) M
  | .bipush _ => X np ls (v :: st) M
  | .sipush _ => X np ls (v :: st) M
  | .lconst _ => X np ls (v :: st) M
  | .ldc _ => X np ls (v :: st) M
  | .ldc_w _ => X np ls (v :: st) M
  | .ldc2_w _ => X np ls (v :: st) M
  | .getstatic _ => X np ls (v :: st) M
  | .iadd => zbin (fun x y => x + y) X np ls st M
  | .isub => zbin (fun x y => x - y) X np ls st M
  | .imul => zbin (fun x y => x * y) X np ls st M
  | .iand => zbin (fun x y => x &&& y) X np ls st M
  | .ior => zbin (fun x y => x ||| y) X np ls st M
  | .ixor => zbin (fun x y => x ^^^ y) X np ls st M
  | .ishl => zbin (fun x y => x <<< (y &&& 31)) X np ls st M
  | .ishr => zbin (fun x y => x >>> (y &&& 31)) X np ls st M
  | .iushr => zbin (fun x y => (x.toUInt32 >>> (y.toUInt32 &&& Int32.toUInt32 31)).toInt32) X np ls st M
  | .idiv => zdiv (fun x y => x / y) X np ls st M
  | .irem => zdiv (fun x y => x - x / y * y) X np ls st M
  | .ineg => zun (fun x => -x) X np ls st M
  | .i2b => zun (fun x => x.toInt8.toInt32) X np ls st M
  | .i2c => zun (fun x => (x.toUInt32 % 65536).toInt32) X np ls st M
  | .i2l => zi2l X np ls st M
  | .lcmp => zlcm X np ls st M
  | .lor => zlor X np ls st M
  | .lshl => zlsh X np ls st M
  | .if_icmp k _ => zic k X a np ls st M
  | .ifCond k _ => zif k X a np ls st M
  | .goto _ => X a ls st M
  | .tableswitch d lo _ os => zsws (ztab pc lo os.toList) ((pc : Int) + d).toNat X ls st M
  | .lookupswitch d ps => zsws (zloo pc ps.toList) ((pc : Int) + d).toNat X ls st M
  | .dup => zdup X np ls st M
  | .dup2 => zdup2 X np ls st M
  | .pop => zpop X np ls st M
  | .getfield _ => zgf a b c X np ls st M
  | .putfield _ => zpf a b c X np ls st M
  | .iaload => zal xs 0 X np ls st M
  | .baload => zal xs c X np ls st M
  | .laload => zll X np ls st M
  | .aaload => zaa X np ls st M
  | .iastore => zas 0 (fun x => x) X np ls st M
  | .bastore => zas c (match c with
    | 1 => vp_nar .byte
    | _ => vp_nar .boolean) X np ls st M
  | .lastore => zls X np ls st M
  | .aastore => zaas X np ls st M
  | .arraylength => zlen xs X np ls st M
  | .new _ => znw Bn Bs a b X np ls st M
  | .newarray _ => zna Bn Bs a X np ls st M
  | .anewarray _ => zna Bn Bs 4 X np ls st M
  | .invokevirtual _ => zcl C Bn Bs a b c v X np ls st M
  | .invokestatic _ => (match c with
    | 8 => zac X np ls st M
    | _ => zcl C Bn Bs a b c v X np ls st M)
  | .invokespecial _ => (match c with
    | 9 => zoi X np ls st M
    | _ => zcl C Bn Bs a b c v X np ls st M)
  | .ireturn => zri c Q st M
  | .areturn => zra Q st M
  | .return_ => zrv Q st M
  | _ => False
def zat (xs : List Int32) (C : zC) (Bn Bs : Nat) (cd : List zE) (Q : zQ) (X : zX) (pc : Nat) (ls st : List Value) (M : zM) : Prop := match zfind cd pc with
  | some (p, len, ins, a, b, c, v) => zop xs C Bn Bs Q X p (p + len) ins a b c v ls st M
  | none => False
/-- a run from there ends, and Q holds of its end: the least predicate that is closed under the steps -/
def zgo (xs : List Int32) (C : zC) (Bn Bs : Nat) (cd : List zE) (Q : zQ) : zX := fun pc ls st M => ∀ X : zX, (∀ pc ls st M, zat xs C Bn Bs cd Q X pc ls st M → X pc ls st M) → X pc ls st M
/-- so many steps, but not beyond the places in 'stops' -/
def zrun (xs : List Int32) (C : zC) (Bn Bs : Nat) (cd : List zE) (Q : zQ) (stops : List Nat) (X : zX) : Nat → zX
  | 0 => X
  | k + 1 => fun pc ls st M => match stops.elem pc with
    | true => X pc ls st M
    | false => zat xs C Bn Bs cd Q (zrun xs C Bn Bs cd Q stops X k) pc ls st M
def zflat : List Value → List Value
  | [] => []
  | .long x :: r => .long x :: .retAddr 0 :: zflat r
  | v :: r => v :: zflat r
def zlocs (as : List Value) (n : Nat) : List Value := zflat as ++ List.replicate (n - (zflat as).length) (.retAddr 0)
end
section
/-! the steps are monotone; runs by segments; calls by depth -/
theorem zck_mono {s : Nat ⊕ (Nat × Nat)} {a : Nat} {P P' : Prop} (h : P → P') : zck s a P → zck s a P' := by
  unfold zck; split
  · split
    · exact h
    · exact id
  · exact id
theorem zsh_mono {s : Nat ⊕ (Nat × Nat)} {a : Nat} {P P' : Nat → Prop} (h : ∀ n, P n → P' n) : zsh s a P → zsh s a P' := by
  unfold zsh; split
  · exact id
  · split
    · exact h _
    · exact id
theorem zro_mono {o : Option Nat} {P P' : Nat → Prop} (h : ∀ n, P n → P' n) : zro o P → zro o P' := by
  unfold zro; split
  · exact h _
  · exact id
theorem zix_mono {i : Int32} {n : Nat} {P P' : Prop} (h : P → P') : zix i n P → zix i n P' := by
  unfold zix; split
  · exact h
  · exact id
theorem zbo_mono {x : Int32} {P P' : Prop} (h : P → P') : zbo x P → zbo x P' := by
  unfold zbo; split
  · exact id
  · exact h
theorem zck_i {s : Nat ⊕ (Nat × Nat)} {a : Nat} {P : Prop} (hs : s = .inl a) (h : P) : zck s a P := by
  subst hs; simpa [zck] using h
theorem zck_e {s : Nat ⊕ (Nat × Nat)} {a : Nat} {P : Prop} (h : zck s a P) : s = .inl a ∧ P := by
  unfold zck at h; split at h
  · split at h
    next e => exact ⟨by rw [Nat.eq_of_beq_eq_true e], h⟩
    · exact h.elim
  · exact h.elim
theorem zsh_i {s : Nat ⊕ (Nat × Nat)} {t n : Nat} {P : Nat → Prop} (hs : s = .inr (t, n)) (h : P n) : zsh s t P := by
  subst hs; simpa [zsh] using h
theorem zsh_e {s : Nat ⊕ (Nat × Nat)} {t : Nat} {P : Nat → Prop} (h : zsh s t P) : ∃ n, s = .inr (t, n) ∧ P n := by
  unfold zsh at h; split at h
  · exact h.elim
  · split at h
    next e => exact ⟨_, by rw [Nat.eq_of_beq_eq_true e], h⟩
    · exact h.elim
theorem zro_i {o : Option Nat} {t : Nat} {P : Nat → Prop} (hs : o = some t) (h : P t) : zro o P := by
  subst hs; exact h
theorem zro_e {o : Option Nat} {P : Nat → Prop} (h : zro o P) : ∃ t, o = some t ∧ P t := by
  unfold zro at h; split at h
  · exact ⟨_, rfl, h⟩
  · exact h.elim
theorem zix_i {i : Int32} {n : Nat} {P : Prop} (hs : vp_in i n) (h : P) : zix i n P := by
  have h1 : ¬ i < 0 := fun q => hs (Or.inl q)
  have h2 : ¬ n ≤ i.toNatClampNeg := fun q => hs (Or.inr q)
  have h3 : Nat.ble n i.toNatClampNeg = false := by
    cases hb : Nat.ble n i.toNatClampNeg with
    | false => rfl
    | true => exact absurd (Nat.le_of_ble_eq_true hb) h2
  simpa [zix, h1, h3] using h
theorem zix_e {i : Int32} {n : Nat} {P : Prop} (h : zix i n P) : vp_in i n ∧ P := by
  unfold zix at h; split at h
  next e1 e2 =>
    refine ⟨fun q => ?_, h⟩
    rcases q with q | q
    · simp [q] at e1
    · rw [Nat.ble_eq_true_of_le q] at e2; cases e2
  · exact h.elim
theorem zbo_i {x : Int32} {P : Prop} (hs : x = 0 ∨ x = 1) (h : P) : zbo x P := by
  rcases hs with rfl | rfl <;> exact h
theorem zbo_e {x : Int32} {P : Prop} (h : zbo x P) : (x = 0 ∨ x = 1) ∧ P := by
  unfold zbo at h; split at h
  · exact h.elim
  next e =>
    refine ⟨?_, h⟩
    by_cases h0 : x = 0
    · exact Or.inl h0
    · by_cases h1 : x = 1
      · exact Or.inr h1
      · exact absurd (decide_eq_false h1) (e (decide_eq_false h0))
section MO
variable {xs : List Int32} {C C' : zC} {Bn Bs : Nat} {Q Q' : zQ} {X X' : zX} {np : Nat} {ls st : List Value} {M : zM}
theorem zldi_mono (hX : ∀ pc ls st M, X pc ls st M → X' pc ls st M) {a : Nat} : zldi X np ls a st M → zldi X' np ls a st M := by
  unfold zldi; split <;> first | exact hX _ _ _ _ | exact id
theorem zldl_mono (hX : ∀ pc ls st M, X pc ls st M → X' pc ls st M) {a : Nat} : zldl X np ls a st M → zldl X' np ls a st M := by
  unfold zldl; split <;> first | exact hX _ _ _ _ | exact id
theorem zlda_mono (hX : ∀ pc ls st M, X pc ls st M → X' pc ls st M) {a : Nat} : zlda X np ls a st M → zlda X' np ls a st M := by
  unfold zlda; split <;> first | exact hX _ _ _ _ | exact id
theorem zsti_mono (hX : ∀ pc ls st M, X pc ls st M → X' pc ls st M) {a : Nat} : zsti X np ls a st M → zsti X' np ls a st M := by
  unfold zsti; split <;> first | exact hX _ _ _ _ | exact id
theorem zsta_mono (hX : ∀ pc ls st M, X pc ls st M → X' pc ls st M) {a : Nat} : zsta X np ls a st M → zsta X' np ls a st M := by
  unfold zsta; split <;> first | exact hX _ _ _ _ | exact id
theorem zinc_mono (hX : ∀ pc ls st M, X pc ls st M → X' pc ls st M) {a : Nat} {v : Value} : zinc X np ls a v st M → zinc X' np ls a v st M := by
  unfold zinc; split <;> first | exact hX _ _ _ _ | exact id
theorem zun_mono (hX : ∀ pc ls st M, X pc ls st M → X' pc ls st M) {f : Int32 → Int32} : zun f X np ls st M → zun f X' np ls st M := by
  unfold zun; split <;> first | exact hX _ _ _ _ | exact id
theorem zbin_mono (hX : ∀ pc ls st M, X pc ls st M → X' pc ls st M) {f : Int32 → Int32 → Int32} : zbin f X np ls st M → zbin f X' np ls st M := by
  unfold zbin; split <;> first | exact hX _ _ _ _ | exact id
theorem zdiv_mono (hX : ∀ pc ls st M, X pc ls st M → X' pc ls st M) {f : Int32 → Int32 → Int32} : zdiv f X np ls st M → zdiv f X' np ls st M := by
  unfold zdiv; split
  · exact fun h => ⟨h.1, hX _ _ _ _ h.2⟩
  · exact id
theorem zlcm_mono (hX : ∀ pc ls st M, X pc ls st M → X' pc ls st M) : zlcm X np ls st M → zlcm X' np ls st M := by
  unfold zlcm; split <;> first | exact hX _ _ _ _ | exact id
theorem zlor_mono (hX : ∀ pc ls st M, X pc ls st M → X' pc ls st M) : zlor X np ls st M → zlor X' np ls st M := by
  unfold zlor; split <;> first | exact hX _ _ _ _ | exact id
theorem zlsh_mono (hX : ∀ pc ls st M, X pc ls st M → X' pc ls st M) : zlsh X np ls st M → zlsh X' np ls st M := by
  unfold zlsh; split <;> first | exact hX _ _ _ _ | exact id
theorem zi2l_mono (hX : ∀ pc ls st M, X pc ls st M → X' pc ls st M) : zi2l X np ls st M → zi2l X' np ls st M := by
  unfold zi2l; split <;> first | exact hX _ _ _ _ | exact id
theorem zic_mono (hX : ∀ pc ls st M, X pc ls st M → X' pc ls st M) {k : ClassFile.Cond} {t : Nat} : zic k X t np ls st M → zic k X' t np ls st M := by
  unfold zic; split
  · exact fun h => ⟨fun c => hX _ _ _ _ (h.1 c), fun c => hX _ _ _ _ (h.2 c)⟩
  · exact id
theorem zif_mono (hX : ∀ pc ls st M, X pc ls st M → X' pc ls st M) {k : ClassFile.Cond} {t : Nat} : zif k X t np ls st M → zif k X' t np ls st M := by
  unfold zif; split
  · exact fun h => ⟨fun c => hX _ _ _ _ (h.1 c), fun c => hX _ _ _ _ (h.2 c)⟩
  · exact id
theorem zsw_mono {x : Int32} {P P' : Nat → Prop} (h : ∀ t, P t → P' t) {d : Nat} : ∀ ps : List (Int32 × Nat), zsw x P d ps → zsw x P' d ps
  | [] => h d
  | q :: qs => fun z => ⟨fun c => h _ (z.1 c), fun c => zsw_mono h qs (z.2 c)⟩
theorem zsws_mono (hX : ∀ pc ls st M, X pc ls st M → X' pc ls st M) {ps : List (Int32 × Nat)} {d : Nat} : zsws ps d X ls st M → zsws ps d X' ls st M := by
  unfold zsws; split
  · exact zsw_mono (fun t => hX _ _ _ _) ps
  · exact id
theorem zdup_mono (hX : ∀ pc ls st M, X pc ls st M → X' pc ls st M) : zdup X np ls st M → zdup X' np ls st M := by
  unfold zdup; split <;> first | exact hX _ _ _ _ | exact id
theorem zdup2_mono (hX : ∀ pc ls st M, X pc ls st M → X' pc ls st M) : zdup2 X np ls st M → zdup2 X' np ls st M := by
  unfold zdup2; split <;> first | exact hX _ _ _ _ | exact id
theorem zpop_mono (hX : ∀ pc ls st M, X pc ls st M → X' pc ls st M) : zpop X np ls st M → zpop X' np ls st M := by
  unfold zpop; split <;> first | exact hX _ _ _ _ | exact id
theorem zgf_mono (hX : ∀ pc ls st M, X pc ls st M → X' pc ls st M) {a b c : Nat} : zgf a b c X np ls st M → zgf a b c X' np ls st M := by
  unfold zgf; split
  · refine zck_mono ?_
    split
    · exact zro_mono fun t => hX _ _ _ _
    · exact hX _ _ _ _
    · exact hX _ _ _ _
  · split <;> first | exact hX _ _ _ _ | exact id
  · exact id
theorem zpf_mono (hX : ∀ pc ls st M, X pc ls st M → X' pc ls st M) {a b c : Nat} : zpf a b c X np ls st M → zpf a b c X' np ls st M := by
  unfold zpf; split
  · exact zck_mono (hX _ _ _ _)
  · exact zck_mono (zbo_mono (hX _ _ _ _))
  · exact zck_mono (hX _ _ _ _)
  · exact zck_mono (hX _ _ _ _)
  · exact id
theorem zal_mono (hX : ∀ pc ls st M, X pc ls st M → X' pc ls st M) {t : Nat} : zal xs t X np ls st M → zal xs t X' np ls st M := by
  unfold zal; split
  · exact zsh_mono fun n => zix_mono (hX _ _ _ _)
  · split
    · split
      · exact zix_mono (hX _ _ _ _)
      · exact id
    · exact id
  · exact id
theorem zll_mono (hX : ∀ pc ls st M, X pc ls st M → X' pc ls st M) : zll X np ls st M → zll X' np ls st M := by
  unfold zll; split
  · exact zsh_mono fun n => zix_mono (hX _ _ _ _)
  · exact id
theorem zaa_mono (hX : ∀ pc ls st M, X pc ls st M → X' pc ls st M) : zaa X np ls st M → zaa X' np ls st M := by
  unfold zaa; split
  · exact zsh_mono fun n => zix_mono (zro_mono fun t => hX _ _ _ _)
  · exact id
theorem zas_mono (hX : ∀ pc ls st M, X pc ls st M → X' pc ls st M) {t : Nat} {f : Int32 → Int32} : zas t f X np ls st M → zas t f X' np ls st M := by
  unfold zas; split
  · exact zsh_mono fun n => zix_mono (hX _ _ _ _)
  · exact id
theorem zls_mono (hX : ∀ pc ls st M, X pc ls st M → X' pc ls st M) : zls X np ls st M → zls X' np ls st M := by
  unfold zls; split
  · exact zsh_mono fun n => zix_mono (hX _ _ _ _)
  · exact id
theorem zaas_mono (hX : ∀ pc ls st M, X pc ls st M → X' pc ls st M) : zaas X np ls st M → zaas X' np ls st M := by
  unfold zaas; split
  · exact zsh_mono fun n => zix_mono (zck_mono (hX _ _ _ _))
  · exact id
theorem zlen_mono (hX : ∀ pc ls st M, X pc ls st M → X' pc ls st M) : zlen xs X np ls st M → zlen xs X' np ls st M := by
  unfold zlen; split
  · split
    · exact id
    · split
      · exact hX _ _ _ _
      · exact id
  · split
    · exact hX _ _ _ _
    · exact id
  · exact id
theorem znw_mono (hX : ∀ pc ls st M, X pc ls st M → X' pc ls st M) {a b : Nat} : znw Bn Bs a b X np ls st M → znw Bn Bs a b X' np ls st M := fun h => ⟨h.1, h.2.1, hX _ _ _ _ h.2.2⟩
theorem zna_mono (hX : ∀ pc ls st M, X pc ls st M → X' pc ls st M) {t : Nat} : zna Bn Bs t X np ls st M → zna Bn Bs t X' np ls st M := by
  unfold zna; split
  · exact fun ⟨h1, h2, h3, h4, h5⟩ => ⟨h1, h2, h3, h4, hX _ _ _ _ h5⟩
  · exact id
theorem zkI_mono {F : zF} {f f' : zIL → Int32 → Prop} (h : ∀ IL x, f IL x → f' IL x) : ∀ M o, zkI F f M o → zkI F f' M o := by
  intro M o z
  refine ⟨z.1, ?_⟩
  have z2 := z.2
  split at z2
  · exact h _ _ z2
  · exact z2.elim
theorem zkA_mono {F : zF} {f f' : zIL → Nat → Prop} (h : ∀ IL x, f IL x → f' IL x) : ∀ M o, zkA F f M o → zkA F f' M o := by
  intro M o z
  refine ⟨z.1, ?_⟩
  have z2 := z.2
  split at z2
  · exact h _ _ z2
  · exact z2.elim
theorem zkV_mono {F : zF} {f f' : zIL → Prop} (h : ∀ IL, f IL → f' IL) : ∀ M o, zkV F f M o → zkV F f' M o := by
  intro M o z
  refine ⟨z.1, ?_⟩
  have z2 := z.2
  split at z2
  · exact h _ z2
  · exact z2.elim
theorem zuI_mono {n s : Nat} {f f' : zM → Int32 → Prop} (h : ∀ IL x, f IL x → f' IL x) : ∀ M o, zuI n s f M o → zuI n s f' M o := by
  intro M o z
  refine ⟨z.1, z.2.1, ?_⟩
  have z2 := z.2.2
  split at z2
  · exact h _ _ z2
  · exact z2.elim
theorem zuV_mono {n s : Nat} {f f' : zM → Prop} (h : ∀ IL, f IL → f' IL) : ∀ M o, zuV n s f M o → zuV n s f' M o := by
  intro M o z
  refine ⟨z.1, z.2.1, ?_⟩
  have z2 := z.2.2
  split at z2
  · exact h _ z2
  · exact z2.elim
theorem zans_mono (hX : ∀ pc ls st M, X pc ls st M → X' pc ls st M) {c : Nat} {F : zF} {r : List Value} : ∀ M o, zans c F X np ls r M o → zans c F X' np ls r M o := by
  unfold zans; split
  · exact zkV_mono fun M => hX _ _ _ _
  · exact zkI_mono fun M x => hX _ _ _ _
  · exact zkA_mono fun M x => hX _ _ _ _
  · exact fun _ _ => id
theorem zanu_mono (hX : ∀ pc ls st M, X pc ls st M → X' pc ls st M) {c n s : Nat} {r : List Value} : ∀ M o, zanu c n s X np ls r M o → zanu c n s X' np ls r M o := by
  unfold zanu; split
  · exact zuV_mono fun M => hX _ _ _ _
  · exact zuI_mono fun M x => hX _ _ _ _
  · exact fun _ _ => id
theorem zcl_mono (hC : ∀ a M as (Q Q' : zQ), (∀ M r, Q M r → Q' M r) → C a M as Q → C' a M as Q') (hX : ∀ pc ls st M, X pc ls st M → X' pc ls st M) {a b c : Nat} {v : Value} : zcl C Bn Bs a b c v X np ls st M → zcl C' Bn Bs a b c v X' np ls st M := by
  unfold zcl; split
  · split
    · exact fun ⟨h1, h2, h3⟩ => ⟨h1, h2, hC _ _ _ _ _ (zanu_mono hX) h3⟩
    · exact hC _ _ _ _ _ (zans_mono hX)
  · exact id
theorem zoi_mono (hX : ∀ pc ls st M, X pc ls st M → X' pc ls st M) : zoi X np ls st M → zoi X' np ls st M := by
  unfold zoi; split
  · split
    · exact hX _ _ _ _
    · exact id
  · exact id
theorem zac_mono (hX : ∀ pc ls st M, X pc ls st M → X' pc ls st M) : zac X np ls st M → zac X' np ls st M := by
  unfold zac; split
  · refine zsh_mono fun n0 => zsh_mono fun n1 => ?_
    split
    · exact hX _ _ _ _
    · exact id
  · exact id
theorem zri_mono (hQ : ∀ M r, Q M r → Q' M r) {c : Nat} : zri c Q st M → zri c Q' st M := by
  unfold zri; split
  · split
    · exact zbo_mono (hQ _ _)
    · exact fun h => ⟨h.1, hQ _ _ h.2⟩
    · exact fun h => ⟨h.1, hQ _ _ h.2⟩
    · exact hQ _ _
  · exact id
theorem zra_mono (hQ : ∀ M r, Q M r → Q' M r) : zra Q st M → zra Q' st M := by
  unfold zra; split
  · exact hQ _ _
  · exact id
theorem zrv_mono (hQ : ∀ M r, Q M r → Q' M r) : zrv Q st M → zrv Q' st M := by
  unfold zrv; split
  · exact hQ _ _
  · exact id
set_option maxHeartbeats 4000000 in
theorem zop_mono (hC : ∀ a M as (Q Q' : zQ), (∀ M r, Q M r → Q' M r) → C a M as Q → C' a M as Q') (hQ : ∀ M r, Q M r → Q' M r) (hX : ∀ pc ls st M, X pc ls st M → X' pc ls st M) {pc : Nat} {ins : Instr} {a b c : Nat} {v : Value} : zop xs C Bn Bs Q X pc np ins a b c v ls st M → zop xs C' Bn Bs Q' X' pc np ins a b c v ls st M := by
  cases ins <;> simp only [zop]
  all_goals first
    | exact id
    | exact hX _ _ _ _
    | exact zldi_mono hX
    | exact zlda_mono hX
    | exact zldl_mono hX
    | exact zsti_mono hX
    | exact zsta_mono hX
    | exact zinc_mono hX
    | exact zbin_mono hX
    | exact zun_mono hX
    | exact zdiv_mono hX
    | exact zlcm_mono hX
    | exact zlor_mono hX
    | exact zlsh_mono hX
    | exact zi2l_mono hX
    | exact zic_mono hX
    | exact zif_mono hX
    | exact zsws_mono hX
    | exact zdup_mono hX
    | exact zdup2_mono hX
    | exact zpop_mono hX
    | exact zgf_mono hX
    | exact zpf_mono hX
    | exact zal_mono hX
    | exact zll_mono hX
    | exact zaa_mono hX
    | exact zas_mono hX
    | exact zls_mono hX
    | exact zaas_mono hX
    | exact zlen_mono hX
    | exact znw_mono hX
    | exact zna_mono hX
    | exact zri_mono hQ
    | exact zra_mono hQ
    | exact zrv_mono hQ
    | exact zcl_mono hC hX
    | (split <;> first | exact zac_mono hX | exact zoi_mono hX | exact zcl_mono hC hX)
theorem zat_mono {cd : List zE} (hC : ∀ a M as (Q Q' : zQ), (∀ M r, Q M r → Q' M r) → C a M as Q → C' a M as Q') (hQ : ∀ M r, Q M r → Q' M r) (hX : ∀ pc ls st M, X pc ls st M → X' pc ls st M) {pc : Nat} : zat xs C Bn Bs cd Q X pc ls st M → zat xs C' Bn Bs cd Q' X' pc ls st M := by
  unfold zat; split
  · exact zop_mono hC hQ hX
  · exact id
/-- calls are monotone in what they must end in -/
def zCm (C : zC) : Prop := ∀ a M as (Q Q' : zQ), (∀ M r, Q M r → Q' M r) → C a M as Q → C a M as Q'
theorem zgo_in {cd : List zE} (hC : zCm C) {pc : Nat} (h : zat xs C Bn Bs cd Q (zgo xs C Bn Bs cd Q) pc ls st M) : zgo xs C Bn Bs cd Q pc ls st M := fun X hX => hX _ _ _ _ (zat_mono hC (fun _ _ => id) (fun _ _ _ _ g => g X hX) h)
theorem zrun_go {cd : List zE} (hC : zCm C) {stops : List Nat} : ∀ (k : Nat) (pc : Nat) (ls st : List Value) (M : zM), zrun xs C Bn Bs cd Q stops (zgo xs C Bn Bs cd Q) k pc ls st M → zgo xs C Bn Bs cd Q pc ls st M
  | 0, _, _, _, _ => id
  | k + 1, pc, ls, st, M => fun h => by
    unfold zrun at h
    split at h
    · exact h
    · exact zgo_in hC (zat_mono hC (fun _ _ => id) (zrun_go hC k) h)
theorem zseg {cd : List zE} (hC : zCm C) (k : Nat) (stops : List Nat) {pc : Nat} (h : zat xs C Bn Bs cd Q (zrun xs C Bn Bs cd Q stops (zgo xs C Bn Bs cd Q) k) pc ls st M) : zgo xs C Bn Bs cd Q pc ls st M := zgo_in hC (zat_mono hC (fun _ _ => id) (zrun_go hC k) h)
theorem zgo_mono {cd : List zE} (hC : ∀ a M as (Q Q' : zQ), (∀ M r, Q M r → Q' M r) → C a M as Q → C' a M as Q') (hQ : ∀ M r, Q M r → Q' M r) {pc : Nat} (h : zgo xs C Bn Bs cd Q pc ls st M) : zgo xs C' Bn Bs cd Q' pc ls st M := fun X hX => h X fun pc ls st M g => hX _ _ _ _ (zat_mono hC hQ (fun _ _ _ _ => id) g)
end MO
end
