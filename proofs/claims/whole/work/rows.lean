section
-- ===== PART A: goes FIRST, ahead of the names: the tables' words, and 'selects' of the private methods out of them =====
/-- a private method of a class that the tables say can be made, by its rows of tables_1 -/
def lw_okq (q : MethodName × Nat) : Prop := (q.1.cls ≠ "java/lang/invoke/MethodHandle" ∧ q.1.cls ≠ "java/lang/invoke/VarHandle") ∧ Cond.instantiable q.1.cls q.2 ∈ tables_1 ∧ Cond.privateMethod q.1 ∈ tables_1 ∧ Cond.instanceMethod q.1 ∈ tables_1
theorem lw_p0 : lw_okq (⟨"BowHouse$Parser", "advance", "()V"⟩, 13) := ⟨⟨by decide +kernel, by decide +kernel⟩, List.mem_of_getElem? (i := 28) (by decide +kernel), List.mem_of_getElem? (i := 413) (by decide +kernel), List.mem_of_getElem? (i := 414) (by decide +kernel)⟩
theorem lw_p1 : lw_okq (⟨"BowHouse$Parser", "scanWord", "()V"⟩, 13) := ⟨⟨by decide +kernel, by decide +kernel⟩, List.mem_of_getElem? (i := 28) (by decide +kernel), List.mem_of_getElem? (i := 420) (by decide +kernel), List.mem_of_getElem? (i := 421) (by decide +kernel)⟩
theorem lw_p2 : lw_okq (⟨"BowHouse$Parser", "scanNumber", "()V"⟩, 13) := ⟨⟨by decide +kernel, by decide +kernel⟩, List.mem_of_getElem? (i := 28) (by decide +kernel), List.mem_of_getElem? (i := 427) (by decide +kernel), List.mem_of_getElem? (i := 428) (by decide +kernel)⟩
theorem lw_p3 : lw_okq (⟨"BowHouse$Parser", "memberLine", "(LBowHouse$House;)V"⟩, 13) := ⟨⟨by decide +kernel, by decide +kernel⟩, List.mem_of_getElem? (i := 28) (by decide +kernel), List.mem_of_getElem? (i := 498) (by decide +kernel), List.mem_of_getElem? (i := 499) (by decide +kernel)⟩
theorem lw_p4 : lw_okq (⟨"BowHouse$Parser", "fail", "(I)V"⟩, 13) := ⟨⟨by decide +kernel, by decide +kernel⟩, List.mem_of_getElem? (i := 28) (by decide +kernel), List.mem_of_getElem? (i := 502) (by decide +kernel), List.mem_of_getElem? (i := 503) (by decide +kernel)⟩
theorem lw_p5 : lw_okq (⟨"BowHouse$Parser", "takeName", "([JI)V"⟩, 13) := ⟨⟨by decide +kernel, by decide +kernel⟩, List.mem_of_getElem? (i := 28) (by decide +kernel), List.mem_of_getElem? (i := 506) (by decide +kernel), List.mem_of_getElem? (i := 507) (by decide +kernel)⟩
theorem lw_p6 : lw_okq (⟨"BowHouse$Parser", "refuse", "()V"⟩, 13) := ⟨⟨by decide +kernel, by decide +kernel⟩, List.mem_of_getElem? (i := 28) (by decide +kernel), List.mem_of_getElem? (i := 510) (by decide +kernel), List.mem_of_getElem? (i := 511) (by decide +kernel)⟩
theorem lw_p7 : lw_okq (⟨"BowHouse$Parser", "take", "(I)V"⟩, 13) := ⟨⟨by decide +kernel, by decide +kernel⟩, List.mem_of_getElem? (i := 28) (by decide +kernel), List.mem_of_getElem? (i := 514) (by decide +kernel), List.mem_of_getElem? (i := 515) (by decide +kernel)⟩
theorem lw_p8 : lw_okq (⟨"BowHouse$Parser", "takeNumber", "(II)I"⟩, 13) := ⟨⟨by decide +kernel, by decide +kernel⟩, List.mem_of_getElem? (i := 28) (by decide +kernel), List.mem_of_getElem? (i := 518) (by decide +kernel), List.mem_of_getElem? (i := 519) (by decide +kernel)⟩
theorem lw_p9 : lw_okq (⟨"BowHouse$Parser", "clauseLine", "(LBowHouse$House;)V"⟩, 13) := ⟨⟨by decide +kernel, by decide +kernel⟩, List.mem_of_getElem? (i := 28) (by decide +kernel), List.mem_of_getElem? (i := 526) (by decide +kernel), List.mem_of_getElem? (i := 527) (by decide +kernel)⟩
theorem lw_p10 : lw_okq (⟨"BowHouse$Parser", "formulaLine", "(LBowHouse$Formula;)V"⟩, 13) := ⟨⟨by decide +kernel, by decide +kernel⟩, List.mem_of_getElem? (i := 28) (by decide +kernel), List.mem_of_getElem? (i := 534) (by decide +kernel), List.mem_of_getElem? (i := 535) (by decide +kernel)⟩
theorem lw_p11 : lw_okq (⟨"BowHouse$Parser", "takeOnce", "()V"⟩, 13) := ⟨⟨by decide +kernel, by decide +kernel⟩, List.mem_of_getElem? (i := 28) (by decide +kernel), List.mem_of_getElem? (i := 538) (by decide +kernel), List.mem_of_getElem? (i := 539) (by decide +kernel)⟩
theorem lw_p12 : lw_okq (⟨"BowHouse$Parser", "either", "(LBowHouse$Formula;I)V"⟩, 13) := ⟨⟨by decide +kernel, by decide +kernel⟩, List.mem_of_getElem? (i := 28) (by decide +kernel), List.mem_of_getElem? (i := 542) (by decide +kernel), List.mem_of_getElem? (i := 543) (by decide +kernel)⟩
theorem lw_p13 : lw_okq (⟨"BowHouse$Parser", "both", "(LBowHouse$Formula;I)V"⟩, 13) := ⟨⟨by decide +kernel, by decide +kernel⟩, List.mem_of_getElem? (i := 28) (by decide +kernel), List.mem_of_getElem? (i := 546) (by decide +kernel), List.mem_of_getElem? (i := 547) (by decide +kernel)⟩
theorem lw_p14 : lw_okq (⟨"BowHouse$Parser", "one", "(LBowHouse$Formula;I)V"⟩, 13) := ⟨⟨by decide +kernel, by decide +kernel⟩, List.mem_of_getElem? (i := 28) (by decide +kernel), List.mem_of_getElem? (i := 550) (by decide +kernel), List.mem_of_getElem? (i := 551) (by decide +kernel)⟩
theorem lw_p15 : lw_okq (⟨"BowHouse$Parser", "sum", "(LBowHouse$Formula;I)V"⟩, 13) := ⟨⟨by decide +kernel, by decide +kernel⟩, List.mem_of_getElem? (i := 28) (by decide +kernel), List.mem_of_getElem? (i := 558) (by decide +kernel), List.mem_of_getElem? (i := 559) (by decide +kernel)⟩
def lw_privs_1 : List (MethodName × Nat) := [(⟨"BowHouse$Parser", "advance", "()V"⟩, 13), (⟨"BowHouse$Parser", "scanWord", "()V"⟩, 13), (⟨"BowHouse$Parser", "scanNumber", "()V"⟩, 13), (⟨"BowHouse$Parser", "memberLine", "(LBowHouse$House;)V"⟩, 13), (⟨"BowHouse$Parser", "fail", "(I)V"⟩, 13), (⟨"BowHouse$Parser", "takeName", "([JI)V"⟩, 13), (⟨"BowHouse$Parser", "refuse", "()V"⟩, 13), (⟨"BowHouse$Parser", "take", "(I)V"⟩, 13), (⟨"BowHouse$Parser", "takeNumber", "(II)I"⟩, 13), (⟨"BowHouse$Parser", "clauseLine", "(LBowHouse$House;)V"⟩, 13), (⟨"BowHouse$Parser", "formulaLine", "(LBowHouse$Formula;)V"⟩, 13), (⟨"BowHouse$Parser", "takeOnce", "()V"⟩, 13), (⟨"BowHouse$Parser", "either", "(LBowHouse$Formula;I)V"⟩, 13), (⟨"BowHouse$Parser", "both", "(LBowHouse$Formula;I)V"⟩, 13), (⟨"BowHouse$Parser", "one", "(LBowHouse$Formula;I)V"⟩, 13), (⟨"BowHouse$Parser", "sum", "(LBowHouse$Formula;I)V"⟩, 13)]
theorem lw_r1 : ∀ q ∈ lw_privs_1, lw_okq q := List.forall_mem_cons.mpr ⟨lw_p0, List.forall_mem_cons.mpr ⟨lw_p1, List.forall_mem_cons.mpr ⟨lw_p2, List.forall_mem_cons.mpr ⟨lw_p3, List.forall_mem_cons.mpr ⟨lw_p4, List.forall_mem_cons.mpr ⟨lw_p5, List.forall_mem_cons.mpr ⟨lw_p6, List.forall_mem_cons.mpr ⟨lw_p7, List.forall_mem_cons.mpr ⟨lw_p8, List.forall_mem_cons.mpr ⟨lw_p9, List.forall_mem_cons.mpr ⟨lw_p10, List.forall_mem_cons.mpr ⟨lw_p11, List.forall_mem_cons.mpr ⟨lw_p12, List.forall_mem_cons.mpr ⟨lw_p13, List.forall_mem_cons.mpr ⟨lw_p14, List.forall_mem_cons.mpr ⟨lw_p15, fun _ h => absurd h List.not_mem_nil⟩⟩⟩⟩⟩⟩⟩⟩⟩⟩⟩⟩⟩⟩⟩⟩
theorem lw_p16 : lw_okq (⟨"BowHouse$Parser", "term", "(LBowHouse$Formula;I)V"⟩, 13) := ⟨⟨by decide +kernel, by decide +kernel⟩, List.mem_of_getElem? (i := 28) (by decide +kernel), List.mem_of_getElem? (i := 562) (by decide +kernel), List.mem_of_getElem? (i := 563) (by decide +kernel)⟩
theorem lw_p17 : lw_okq (⟨"BowHouse$Parser", "unit", "(LBowHouse$Formula;I)V"⟩, 13) := ⟨⟨by decide +kernel, by decide +kernel⟩, List.mem_of_getElem? (i := 28) (by decide +kernel), List.mem_of_getElem? (i := 566) (by decide +kernel), List.mem_of_getElem? (i := 567) (by decide +kernel)⟩
theorem lw_p18 : lw_okq (⟨"BowHouse$Parser", "numberLine", "(II)I"⟩, 13) := ⟨⟨by decide +kernel, by decide +kernel⟩, List.mem_of_getElem? (i := 28) (by decide +kernel), List.mem_of_getElem? (i := 570) (by decide +kernel), List.mem_of_getElem? (i := 571) (by decide +kernel)⟩
theorem lw_p19 : lw_okq (⟨"BowHouse$Hearsay", "track", "(LBowHouse$House;II)V"⟩, 9) := ⟨⟨by decide +kernel, by decide +kernel⟩, List.mem_of_getElem? (i := 312) (by decide +kernel), List.mem_of_getElem? (i := 592) (by decide +kernel), List.mem_of_getElem? (i := 593) (by decide +kernel)⟩
theorem lw_p20 : lw_okq (⟨"BowHouse", "isMember", "(I)Z"⟩, 14) := ⟨⟨by decide +kernel, by decide +kernel⟩, List.mem_of_getElem? (i := 20) (by decide +kernel), List.mem_of_getElem? (i := 617) (by decide +kernel), List.mem_of_getElem? (i := 618) (by decide +kernel)⟩
theorem lw_p21 : lw_okq (⟨"BowHouse", "isClause", "(I)Z"⟩, 14) := ⟨⟨by decide +kernel, by decide +kernel⟩, List.mem_of_getElem? (i := 20) (by decide +kernel), List.mem_of_getElem? (i := 626) (by decide +kernel), List.mem_of_getElem? (i := 627) (by decide +kernel)⟩
theorem lw_p22 : lw_okq (⟨"BowHouse", "isOut", "(I)Z"⟩, 14) := ⟨⟨by decide +kernel, by decide +kernel⟩, List.mem_of_getElem? (i := 20) (by decide +kernel), List.mem_of_getElem? (i := 634) (by decide +kernel), List.mem_of_getElem? (i := 635) (by decide +kernel)⟩
theorem lw_p23 : lw_okq (⟨"BowHouse", "windNow", "(IIIZ)I"⟩, 14) := ⟨⟨by decide +kernel, by decide +kernel⟩, List.mem_of_getElem? (i := 20) (by decide +kernel), List.mem_of_getElem? (i := 638) (by decide +kernel), List.mem_of_getElem? (i := 639) (by decide +kernel)⟩
theorem lw_p24 : lw_okq (⟨"BowHouse", "isUnread", "(I)Z"⟩, 14) := ⟨⟨by decide +kernel, by decide +kernel⟩, List.mem_of_getElem? (i := 20) (by decide +kernel), List.mem_of_getElem? (i := 653) (by decide +kernel), List.mem_of_getElem? (i := 654) (by decide +kernel)⟩
theorem lw_p25 : lw_okq (⟨"BowHouse$History", "row", "(I)LBowHouse$State;"⟩, 5) := ⟨⟨by decide +kernel, by decide +kernel⟩, List.mem_of_getElem? (i := 262) (by decide +kernel), List.mem_of_getElem? (i := 661) (by decide +kernel), List.mem_of_getElem? (i := 662) (by decide +kernel)⟩
theorem lw_p26 : lw_okq (⟨"BowHouse$History", "exchange", "(LBowHouse$State;LBowHouse$State;)V"⟩, 5) := ⟨⟨by decide +kernel, by decide +kernel⟩, List.mem_of_getElem? (i := 262) (by decide +kernel), List.mem_of_getElem? (i := 720) (by decide +kernel), List.mem_of_getElem? (i := 721) (by decide +kernel)⟩
theorem lw_p27 : lw_okq (⟨"BowHouse", "trialFromNow", "()LBowHouse$State;"⟩, 14) := ⟨⟨by decide +kernel, by decide +kernel⟩, List.mem_of_getElem? (i := 20) (by decide +kernel), List.mem_of_getElem? (i := 736) (by decide +kernel), List.mem_of_getElem? (i := 737) (by decide +kernel)⟩
theorem lw_p28 : lw_okq (⟨"BowHouse$Agenda", "goOn", "(LBowHouse$House;IIZ)V"⟩, 4) := ⟨⟨by decide +kernel, by decide +kernel⟩, List.mem_of_getElem? (i := 289) (by decide +kernel), List.mem_of_getElem? (i := 762) (by decide +kernel), List.mem_of_getElem? (i := 763) (by decide +kernel)⟩
theorem lw_p29 : lw_okq (⟨"BowHouse", "carriedByTones", "(I)I"⟩, 14) := ⟨⟨by decide +kernel, by decide +kernel⟩, List.mem_of_getElem? (i := 20) (by decide +kernel), List.mem_of_getElem? (i := 775) (by decide +kernel), List.mem_of_getElem? (i := 776) (by decide +kernel)⟩
theorem lw_p30 : lw_okq (⟨"BowHouse$House", "tipsOver", "(II)Z"⟩, 11) := ⟨⟨by decide +kernel, by decide +kernel⟩, List.mem_of_getElem? (i := 120) (by decide +kernel), List.mem_of_getElem? (i := 791) (by decide +kernel), List.mem_of_getElem? (i := 792) (by decide +kernel)⟩
theorem lw_p31 : lw_okq (⟨"BowHouse", "areTwoOut", "(II)Z"⟩, 14) := ⟨⟨by decide +kernel, by decide +kernel⟩, List.mem_of_getElem? (i := 20) (by decide +kernel), List.mem_of_getElem? (i := 811) (by decide +kernel), List.mem_of_getElem? (i := 812) (by decide +kernel)⟩
def lw_privs_2 : List (MethodName × Nat) := [(⟨"BowHouse$Parser", "term", "(LBowHouse$Formula;I)V"⟩, 13), (⟨"BowHouse$Parser", "unit", "(LBowHouse$Formula;I)V"⟩, 13), (⟨"BowHouse$Parser", "numberLine", "(II)I"⟩, 13), (⟨"BowHouse$Hearsay", "track", "(LBowHouse$House;II)V"⟩, 9), (⟨"BowHouse", "isMember", "(I)Z"⟩, 14), (⟨"BowHouse", "isClause", "(I)Z"⟩, 14), (⟨"BowHouse", "isOut", "(I)Z"⟩, 14), (⟨"BowHouse", "windNow", "(IIIZ)I"⟩, 14), (⟨"BowHouse", "isUnread", "(I)Z"⟩, 14), (⟨"BowHouse$History", "row", "(I)LBowHouse$State;"⟩, 5), (⟨"BowHouse$History", "exchange", "(LBowHouse$State;LBowHouse$State;)V"⟩, 5), (⟨"BowHouse", "trialFromNow", "()LBowHouse$State;"⟩, 14), (⟨"BowHouse$Agenda", "goOn", "(LBowHouse$House;IIZ)V"⟩, 4), (⟨"BowHouse", "carriedByTones", "(I)I"⟩, 14), (⟨"BowHouse$House", "tipsOver", "(II)Z"⟩, 11), (⟨"BowHouse", "areTwoOut", "(II)Z"⟩, 14)]
theorem lw_r2 : ∀ q ∈ lw_privs_2, lw_okq q := List.forall_mem_cons.mpr ⟨lw_p16, List.forall_mem_cons.mpr ⟨lw_p17, List.forall_mem_cons.mpr ⟨lw_p18, List.forall_mem_cons.mpr ⟨lw_p19, List.forall_mem_cons.mpr ⟨lw_p20, List.forall_mem_cons.mpr ⟨lw_p21, List.forall_mem_cons.mpr ⟨lw_p22, List.forall_mem_cons.mpr ⟨lw_p23, List.forall_mem_cons.mpr ⟨lw_p24, List.forall_mem_cons.mpr ⟨lw_p25, List.forall_mem_cons.mpr ⟨lw_p26, List.forall_mem_cons.mpr ⟨lw_p27, List.forall_mem_cons.mpr ⟨lw_p28, List.forall_mem_cons.mpr ⟨lw_p29, List.forall_mem_cons.mpr ⟨lw_p30, List.forall_mem_cons.mpr ⟨lw_p31, fun _ h => absurd h List.not_mem_nil⟩⟩⟩⟩⟩⟩⟩⟩⟩⟩⟩⟩⟩⟩⟩⟩
theorem lw_p32 : lw_okq (⟨"BowHouse", "creakAt", "(IZ)I"⟩, 14) := ⟨⟨by decide +kernel, by decide +kernel⟩, List.mem_of_getElem? (i := 20) (by decide +kernel), List.mem_of_getElem? (i := 846) (by decide +kernel), List.mem_of_getElem? (i := 847) (by decide +kernel)⟩
theorem lw_p33 : lw_okq (⟨"BowHouse", "countDrops", "(IZ)Z"⟩, 14) := ⟨⟨by decide +kernel, by decide +kernel⟩, List.mem_of_getElem? (i := 20) (by decide +kernel), List.mem_of_getElem? (i := 858) (by decide +kernel), List.mem_of_getElem? (i := 859) (by decide +kernel)⟩
theorem lw_p34 : lw_okq (⟨"BowHouse", "dropsWith", "(I)I"⟩, 14) := ⟨⟨by decide +kernel, by decide +kernel⟩, List.mem_of_getElem? (i := 20) (by decide +kernel), List.mem_of_getElem? (i := 862) (by decide +kernel), List.mem_of_getElem? (i := 863) (by decide +kernel)⟩
theorem lw_p35 : lw_okq (⟨"BowHouse$House", "needsEach", "(I)Z"⟩, 11) := ⟨⟨by decide +kernel, by decide +kernel⟩, List.mem_of_getElem? (i := 120) (by decide +kernel), List.mem_of_getElem? (i := 888) (by decide +kernel), List.mem_of_getElem? (i := 889) (by decide +kernel)⟩
theorem lw_p36 : lw_okq (⟨"BowHouse$Hearsay", "isBorneOut", "(II)Z"⟩, 9) := ⟨⟨by decide +kernel, by decide +kernel⟩, List.mem_of_getElem? (i := 312) (by decide +kernel), List.mem_of_getElem? (i := 969) (by decide +kernel), List.mem_of_getElem? (i := 970) (by decide +kernel)⟩
theorem lw_p37 : lw_okq (⟨"BowHouseModel", "four", "(I)V"⟩, 78) := ⟨⟨by decide +kernel, by decide +kernel⟩, List.mem_of_getElem? (i := 998) (by decide +kernel), List.mem_of_getElem? (i := 1243) (by decide +kernel), List.mem_of_getElem? (i := 1244) (by decide +kernel)⟩
theorem lw_p38 : lw_okq (⟨"BowHouseModel", "readAll", "()V"⟩, 78) := ⟨⟨by decide +kernel, by decide +kernel⟩, List.mem_of_getElem? (i := 998) (by decide +kernel), List.mem_of_getElem? (i := 1255) (by decide +kernel), List.mem_of_getElem? (i := 1256) (by decide +kernel)⟩
theorem lw_p39 : lw_okq (⟨"BowHouseModel", "token", "()V"⟩, 78) := ⟨⟨by decide +kernel, by decide +kernel⟩, List.mem_of_getElem? (i := 998) (by decide +kernel), List.mem_of_getElem? (i := 1259) (by decide +kernel), List.mem_of_getElem? (i := 1260) (by decide +kernel)⟩
theorem lw_p40 : lw_okq (⟨"BowHouseModel", "here", "(I)I"⟩, 78) := ⟨⟨by decide +kernel, by decide +kernel⟩, List.mem_of_getElem? (i := 998) (by decide +kernel), List.mem_of_getElem? (i := 1263) (by decide +kernel), List.mem_of_getElem? (i := 1264) (by decide +kernel)⟩
theorem lw_p41 : lw_okq (⟨"BowHouseModel", "readLine", "()V"⟩, 78) := ⟨⟨by decide +kernel, by decide +kernel⟩, List.mem_of_getElem? (i := 998) (by decide +kernel), List.mem_of_getElem? (i := 1276) (by decide +kernel), List.mem_of_getElem? (i := 1277) (by decide +kernel)⟩
theorem lw_p42 : lw_okq (⟨"BowHouseModel", "isWord", "(J)Z"⟩, 78) := ⟨⟨by decide +kernel, by decide +kernel⟩, List.mem_of_getElem? (i := 998) (by decide +kernel), List.mem_of_getElem? (i := 1281) (by decide +kernel), List.mem_of_getElem? (i := 1282) (by decide +kernel)⟩
theorem lw_p43 : lw_okq (⟨"BowHouseModel", "readMember", "()V"⟩, 78) := ⟨⟨by decide +kernel, by decide +kernel⟩, List.mem_of_getElem? (i := 998) (by decide +kernel), List.mem_of_getElem? (i := 1285) (by decide +kernel), List.mem_of_getElem? (i := 1286) (by decide +kernel)⟩
theorem lw_p44 : lw_okq (⟨"BowHouseModel", "newName", "(II)V"⟩, 78) := ⟨⟨by decide +kernel, by decide +kernel⟩, List.mem_of_getElem? (i := 998) (by decide +kernel), List.mem_of_getElem? (i := 1289) (by decide +kernel), List.mem_of_getElem? (i := 1290) (by decide +kernel)⟩
theorem lw_p45 : lw_okq (⟨"BowHouseModel", "isName", "()Z"⟩, 78) := ⟨⟨by decide +kernel, by decide +kernel⟩, List.mem_of_getElem? (i := 998) (by decide +kernel), List.mem_of_getElem? (i := 1293) (by decide +kernel), List.mem_of_getElem? (i := 1294) (by decide +kernel)⟩
theorem lw_p46 : lw_okq (⟨"BowHouseModel", "isOwn", "()Z"⟩, 78) := ⟨⟨by decide +kernel, by decide +kernel⟩, List.mem_of_getElem? (i := 998) (by decide +kernel), List.mem_of_getElem? (i := 1297) (by decide +kernel), List.mem_of_getElem? (i := 1298) (by decide +kernel)⟩
theorem lw_p47 : lw_okq (⟨"BowHouseModel", "wrong", "(I)V"⟩, 78) := ⟨⟨by decide +kernel, by decide +kernel⟩, List.mem_of_getElem? (i := 998) (by decide +kernel), List.mem_of_getElem? (i := 1318) (by decide +kernel), List.mem_of_getElem? (i := 1319) (by decide +kernel)⟩
def lw_privs_3 : List (MethodName × Nat) := [(⟨"BowHouse", "creakAt", "(IZ)I"⟩, 14), (⟨"BowHouse", "countDrops", "(IZ)Z"⟩, 14), (⟨"BowHouse", "dropsWith", "(I)I"⟩, 14), (⟨"BowHouse$House", "needsEach", "(I)Z"⟩, 11), (⟨"BowHouse$Hearsay", "isBorneOut", "(II)Z"⟩, 9), (⟨"BowHouseModel", "four", "(I)V"⟩, 78), (⟨"BowHouseModel", "readAll", "()V"⟩, 78), (⟨"BowHouseModel", "token", "()V"⟩, 78), (⟨"BowHouseModel", "here", "(I)I"⟩, 78), (⟨"BowHouseModel", "readLine", "()V"⟩, 78), (⟨"BowHouseModel", "isWord", "(J)Z"⟩, 78), (⟨"BowHouseModel", "readMember", "()V"⟩, 78), (⟨"BowHouseModel", "newName", "(II)V"⟩, 78), (⟨"BowHouseModel", "isName", "()Z"⟩, 78), (⟨"BowHouseModel", "isOwn", "()Z"⟩, 78), (⟨"BowHouseModel", "wrong", "(I)V"⟩, 78)]
theorem lw_r3 : ∀ q ∈ lw_privs_3, lw_okq q := List.forall_mem_cons.mpr ⟨lw_p32, List.forall_mem_cons.mpr ⟨lw_p33, List.forall_mem_cons.mpr ⟨lw_p34, List.forall_mem_cons.mpr ⟨lw_p35, List.forall_mem_cons.mpr ⟨lw_p36, List.forall_mem_cons.mpr ⟨lw_p37, List.forall_mem_cons.mpr ⟨lw_p38, List.forall_mem_cons.mpr ⟨lw_p39, List.forall_mem_cons.mpr ⟨lw_p40, List.forall_mem_cons.mpr ⟨lw_p41, List.forall_mem_cons.mpr ⟨lw_p42, List.forall_mem_cons.mpr ⟨lw_p43, List.forall_mem_cons.mpr ⟨lw_p44, List.forall_mem_cons.mpr ⟨lw_p45, List.forall_mem_cons.mpr ⟨lw_p46, List.forall_mem_cons.mpr ⟨lw_p47, fun _ h => absurd h List.not_mem_nil⟩⟩⟩⟩⟩⟩⟩⟩⟩⟩⟩⟩⟩⟩⟩⟩
theorem lw_p48 : lw_okq (⟨"BowHouseModel", "find", "(II)I"⟩, 78) := ⟨⟨by decide +kernel, by decide +kernel⟩, List.mem_of_getElem? (i := 998) (by decide +kernel), List.mem_of_getElem? (i := 1322) (by decide +kernel), List.mem_of_getElem? (i := 1323) (by decide +kernel)⟩
theorem lw_p49 : lw_okq (⟨"BowHouseModel", "told", "(JII)I"⟩, 78) := ⟨⟨by decide +kernel, by decide +kernel⟩, List.mem_of_getElem? (i := 998) (by decide +kernel), List.mem_of_getElem? (i := 1326) (by decide +kernel), List.mem_of_getElem? (i := 1327) (by decide +kernel)⟩
theorem lw_p50 : lw_okq (⟨"BowHouseModel", "want", "(J)V"⟩, 78) := ⟨⟨by decide +kernel, by decide +kernel⟩, List.mem_of_getElem? (i := 998) (by decide +kernel), List.mem_of_getElem? (i := 1330) (by decide +kernel), List.mem_of_getElem? (i := 1331) (by decide +kernel)⟩
theorem lw_p51 : lw_okq (⟨"BowHouseModel", "toldNumber", "(II)I"⟩, 78) := ⟨⟨by decide +kernel, by decide +kernel⟩, List.mem_of_getElem? (i := 998) (by decide +kernel), List.mem_of_getElem? (i := 1334) (by decide +kernel), List.mem_of_getElem? (i := 1335) (by decide +kernel)⟩
theorem lw_p52 : lw_okq (⟨"BowHouseModel", "readClause", "()V"⟩, 78) := ⟨⟨by decide +kernel, by decide +kernel⟩, List.mem_of_getElem? (i := 998) (by decide +kernel), List.mem_of_getElem? (i := 1341) (by decide +kernel), List.mem_of_getElem? (i := 1342) (by decide +kernel)⟩
theorem lw_p53 : lw_okq (⟨"BowHouseModel", "formula", "()V"⟩, 78) := ⟨⟨by decide +kernel, by decide +kernel⟩, List.mem_of_getElem? (i := 998) (by decide +kernel), List.mem_of_getElem? (i := 1345) (by decide +kernel), List.mem_of_getElem? (i := 1346) (by decide +kernel)⟩
theorem lw_p54 : lw_okq (⟨"BowHouseModel", "unit", "()V"⟩, 78) := ⟨⟨by decide +kernel, by decide +kernel⟩, List.mem_of_getElem? (i := 998) (by decide +kernel), List.mem_of_getElem? (i := 1349) (by decide +kernel), List.mem_of_getElem? (i := 1350) (by decide +kernel)⟩
theorem lw_p55 : lw_okq (⟨"BowHouseModel", "mayNot", "()Z"⟩, 78) := ⟨⟨by decide +kernel, by decide +kernel⟩, List.mem_of_getElem? (i := 998) (by decide +kernel), List.mem_of_getElem? (i := 1353) (by decide +kernel), List.mem_of_getElem? (i := 1354) (by decide +kernel)⟩
theorem lw_p56 : lw_okq (⟨"BowHouseModel", "openUp", "(I)V"⟩, 78) := ⟨⟨by decide +kernel, by decide +kernel⟩, List.mem_of_getElem? (i := 998) (by decide +kernel), List.mem_of_getElem? (i := 1360) (by decide +kernel), List.mem_of_getElem? (i := 1361) (by decide +kernel)⟩
theorem lw_p57 : lw_okq (⟨"BowHouseModel", "isFull", "()Z"⟩, 78) := ⟨⟨by decide +kernel, by decide +kernel⟩, List.mem_of_getElem? (i := 998) (by decide +kernel), List.mem_of_getElem? (i := 1364) (by decide +kernel), List.mem_of_getElem? (i := 1365) (by decide +kernel)⟩
theorem lw_p58 : lw_okq (⟨"BowHouseModel", "countUnit", "()V"⟩, 78) := ⟨⟨by decide +kernel, by decide +kernel⟩, List.mem_of_getElem? (i := 998) (by decide +kernel), List.mem_of_getElem? (i := 1368) (by decide +kernel), List.mem_of_getElem? (i := 1369) (by decide +kernel)⟩
theorem lw_p59 : lw_okq (⟨"BowHouseModel", "asked", "()I"⟩, 78) := ⟨⟨by decide +kernel, by decide +kernel⟩, List.mem_of_getElem? (i := 998) (by decide +kernel), List.mem_of_getElem? (i := 1372) (by decide +kernel), List.mem_of_getElem? (i := 1373) (by decide +kernel)⟩
theorem lw_p60 : lw_okq (⟨"BowHouseModel", "add", "(II)V"⟩, 78) := ⟨⟨by decide +kernel, by decide +kernel⟩, List.mem_of_getElem? (i := 998) (by decide +kernel), List.mem_of_getElem? (i := 1376) (by decide +kernel), List.mem_of_getElem? (i := 1377) (by decide +kernel)⟩
theorem lw_p61 : lw_okq (⟨"BowHouseModel", "sign", "()I"⟩, 78) := ⟨⟨by decide +kernel, by decide +kernel⟩, List.mem_of_getElem? (i := 998) (by decide +kernel), List.mem_of_getElem? (i := 1380) (by decide +kernel), List.mem_of_getElem? (i := 1381) (by decide +kernel)⟩
theorem lw_p62 : lw_okq (⟨"BowHouseModel", "hasBracket", "()Z"⟩, 78) := ⟨⟨by decide +kernel, by decide +kernel⟩, List.mem_of_getElem? (i := 998) (by decide +kernel), List.mem_of_getElem? (i := 1384) (by decide +kernel), List.mem_of_getElem? (i := 1385) (by decide +kernel)⟩
theorem lw_p63 : lw_okq (⟨"BowHouseModel", "close", "(I)V"⟩, 78) := ⟨⟨by decide +kernel, by decide +kernel⟩, List.mem_of_getElem? (i := 998) (by decide +kernel), List.mem_of_getElem? (i := 1388) (by decide +kernel), List.mem_of_getElem? (i := 1389) (by decide +kernel)⟩
def lw_privs_4 : List (MethodName × Nat) := [(⟨"BowHouseModel", "find", "(II)I"⟩, 78), (⟨"BowHouseModel", "told", "(JII)I"⟩, 78), (⟨"BowHouseModel", "want", "(J)V"⟩, 78), (⟨"BowHouseModel", "toldNumber", "(II)I"⟩, 78), (⟨"BowHouseModel", "readClause", "()V"⟩, 78), (⟨"BowHouseModel", "formula", "()V"⟩, 78), (⟨"BowHouseModel", "unit", "()V"⟩, 78), (⟨"BowHouseModel", "mayNot", "()Z"⟩, 78), (⟨"BowHouseModel", "openUp", "(I)V"⟩, 78), (⟨"BowHouseModel", "isFull", "()Z"⟩, 78), (⟨"BowHouseModel", "countUnit", "()V"⟩, 78), (⟨"BowHouseModel", "asked", "()I"⟩, 78), (⟨"BowHouseModel", "add", "(II)V"⟩, 78), (⟨"BowHouseModel", "sign", "()I"⟩, 78), (⟨"BowHouseModel", "hasBracket", "()Z"⟩, 78), (⟨"BowHouseModel", "close", "(I)V"⟩, 78)]
theorem lw_r4 : ∀ q ∈ lw_privs_4, lw_okq q := List.forall_mem_cons.mpr ⟨lw_p48, List.forall_mem_cons.mpr ⟨lw_p49, List.forall_mem_cons.mpr ⟨lw_p50, List.forall_mem_cons.mpr ⟨lw_p51, List.forall_mem_cons.mpr ⟨lw_p52, List.forall_mem_cons.mpr ⟨lw_p53, List.forall_mem_cons.mpr ⟨lw_p54, List.forall_mem_cons.mpr ⟨lw_p55, List.forall_mem_cons.mpr ⟨lw_p56, List.forall_mem_cons.mpr ⟨lw_p57, List.forall_mem_cons.mpr ⟨lw_p58, List.forall_mem_cons.mpr ⟨lw_p59, List.forall_mem_cons.mpr ⟨lw_p60, List.forall_mem_cons.mpr ⟨lw_p61, List.forall_mem_cons.mpr ⟨lw_p62, List.forall_mem_cons.mpr ⟨lw_p63, fun _ h => absurd h List.not_mem_nil⟩⟩⟩⟩⟩⟩⟩⟩⟩⟩⟩⟩⟩⟩⟩⟩
theorem lw_p64 : lw_okq (⟨"BowHouseModel", "hasRelation", "()Z"⟩, 78) := ⟨⟨by decide +kernel, by decide +kernel⟩, List.mem_of_getElem? (i := 998) (by decide +kernel), List.mem_of_getElem? (i := 1392) (by decide +kernel), List.mem_of_getElem? (i := 1393) (by decide +kernel)⟩
theorem lw_p65 : lw_okq (⟨"BowHouseModel", "layTold", "()V"⟩, 78) := ⟨⟨by decide +kernel, by decide +kernel⟩, List.mem_of_getElem? (i := 998) (by decide +kernel), List.mem_of_getElem? (i := 1396) (by decide +kernel), List.mem_of_getElem? (i := 1397) (by decide +kernel)⟩
theorem lw_p66 : lw_okq (⟨"BowHouseModel", "keepAir", "()V"⟩, 78) := ⟨⟨by decide +kernel, by decide +kernel⟩, List.mem_of_getElem? (i := 998) (by decide +kernel), List.mem_of_getElem? (i := 1400) (by decide +kernel), List.mem_of_getElem? (i := 1401) (by decide +kernel)⟩
theorem lw_p67 : lw_okq (⟨"BowHouseModel", "isMember", "(I)Z"⟩, 78) := ⟨⟨by decide +kernel, by decide +kernel⟩, List.mem_of_getElem? (i := 998) (by decide +kernel), List.mem_of_getElem? (i := 1412) (by decide +kernel), List.mem_of_getElem? (i := 1413) (by decide +kernel)⟩
theorem lw_p68 : lw_okq (⟨"BowHouseModel", "isOut", "(I)Z"⟩, 78) := ⟨⟨by decide +kernel, by decide +kernel⟩, List.mem_of_getElem? (i := 998) (by decide +kernel), List.mem_of_getElem? (i := 1419) (by decide +kernel), List.mem_of_getElem? (i := 1420) (by decide +kernel)⟩
theorem lw_p69 : lw_okq (⟨"BowHouseModel", "isClause", "(I)Z"⟩, 78) := ⟨⟨by decide +kernel, by decide +kernel⟩, List.mem_of_getElem? (i := 998) (by decide +kernel), List.mem_of_getElem? (i := 1427) (by decide +kernel), List.mem_of_getElem? (i := 1428) (by decide +kernel)⟩
theorem lw_p70 : lw_okq (⟨"BowHouseModel", "windNow", "(III)I"⟩, 78) := ⟨⟨by decide +kernel, by decide +kernel⟩, List.mem_of_getElem? (i := 998) (by decide +kernel), List.mem_of_getElem? (i := 1435) (by decide +kernel), List.mem_of_getElem? (i := 1436) (by decide +kernel)⟩
theorem lw_p71 : lw_okq (⟨"BowHouseModel", "windOf", "(IIIII)I"⟩, 78) := ⟨⟨by decide +kernel, by decide +kernel⟩, List.mem_of_getElem? (i := 998) (by decide +kernel), List.mem_of_getElem? (i := 1442) (by decide +kernel), List.mem_of_getElem? (i := 1443) (by decide +kernel)⟩
theorem lw_p72 : lw_okq (⟨"BowHouseModel", "isRead", "(I)Z"⟩, 78) := ⟨⟨by decide +kernel, by decide +kernel⟩, List.mem_of_getElem? (i := 998) (by decide +kernel), List.mem_of_getElem? (i := 1459) (by decide +kernel), List.mem_of_getElem? (i := 1460) (by decide +kernel)⟩
theorem lw_p73 : lw_okq (⟨"BowHouseModel", "act", "()V"⟩, 78) := ⟨⟨by decide +kernel, by decide +kernel⟩, List.mem_of_getElem? (i := 998) (by decide +kernel), List.mem_of_getElem? (i := 1463) (by decide +kernel), List.mem_of_getElem? (i := 1464) (by decide +kernel)⟩
theorem lw_p74 : lw_okq (⟨"BowHouseModel", "fill", "()V"⟩, 78) := ⟨⟨by decide +kernel, by decide +kernel⟩, List.mem_of_getElem? (i := 998) (by decide +kernel), List.mem_of_getElem? (i := 1467) (by decide +kernel), List.mem_of_getElem? (i := 1468) (by decide +kernel)⟩
theorem lw_p75 : lw_okq (⟨"BowHouseModel", "readOne", "(IIZ)Z"⟩, 78) := ⟨⟨by decide +kernel, by decide +kernel⟩, List.mem_of_getElem? (i := 998) (by decide +kernel), List.mem_of_getElem? (i := 1471) (by decide +kernel), List.mem_of_getElem? (i := 1472) (by decide +kernel)⟩
theorem lw_p76 : lw_okq (⟨"BowHouseModel", "windAll", "(II)Z"⟩, 78) := ⟨⟨by decide +kernel, by decide +kernel⟩, List.mem_of_getElem? (i := 998) (by decide +kernel), List.mem_of_getElem? (i := 1475) (by decide +kernel), List.mem_of_getElem? (i := 1476) (by decide +kernel)⟩
theorem lw_p77 : lw_okq (⟨"BowHouseModel", "isOutHere", "(I)Z"⟩, 78) := ⟨⟨by decide +kernel, by decide +kernel⟩, List.mem_of_getElem? (i := 998) (by decide +kernel), List.mem_of_getElem? (i := 1479) (by decide +kernel), List.mem_of_getElem? (i := 1480) (by decide +kernel)⟩
theorem lw_p78 : lw_okq (⟨"BowHouseModel", "isFor", "(I)Z"⟩, 78) := ⟨⟨by decide +kernel, by decide +kernel⟩, List.mem_of_getElem? (i := 998) (by decide +kernel), List.mem_of_getElem? (i := 1483) (by decide +kernel), List.mem_of_getElem? (i := 1484) (by decide +kernel)⟩
theorem lw_p79 : lw_okq (⟨"BowHouseModel", "votesOf", "(I)I"⟩, 78) := ⟨⟨by decide +kernel, by decide +kernel⟩, List.mem_of_getElem? (i := 998) (by decide +kernel), List.mem_of_getElem? (i := 1487) (by decide +kernel), List.mem_of_getElem? (i := 1488) (by decide +kernel)⟩
def lw_privs_5 : List (MethodName × Nat) := [(⟨"BowHouseModel", "hasRelation", "()Z"⟩, 78), (⟨"BowHouseModel", "layTold", "()V"⟩, 78), (⟨"BowHouseModel", "keepAir", "()V"⟩, 78), (⟨"BowHouseModel", "isMember", "(I)Z"⟩, 78), (⟨"BowHouseModel", "isOut", "(I)Z"⟩, 78), (⟨"BowHouseModel", "isClause", "(I)Z"⟩, 78), (⟨"BowHouseModel", "windNow", "(III)I"⟩, 78), (⟨"BowHouseModel", "windOf", "(IIIII)I"⟩, 78), (⟨"BowHouseModel", "isRead", "(I)Z"⟩, 78), (⟨"BowHouseModel", "act", "()V"⟩, 78), (⟨"BowHouseModel", "fill", "()V"⟩, 78), (⟨"BowHouseModel", "readOne", "(IIZ)Z"⟩, 78), (⟨"BowHouseModel", "windAll", "(II)Z"⟩, 78), (⟨"BowHouseModel", "isOutHere", "(I)Z"⟩, 78), (⟨"BowHouseModel", "isFor", "(I)Z"⟩, 78), (⟨"BowHouseModel", "votesOf", "(I)I"⟩, 78)]
theorem lw_r5 : ∀ q ∈ lw_privs_5, lw_okq q := List.forall_mem_cons.mpr ⟨lw_p64, List.forall_mem_cons.mpr ⟨lw_p65, List.forall_mem_cons.mpr ⟨lw_p66, List.forall_mem_cons.mpr ⟨lw_p67, List.forall_mem_cons.mpr ⟨lw_p68, List.forall_mem_cons.mpr ⟨lw_p69, List.forall_mem_cons.mpr ⟨lw_p70, List.forall_mem_cons.mpr ⟨lw_p71, List.forall_mem_cons.mpr ⟨lw_p72, List.forall_mem_cons.mpr ⟨lw_p73, List.forall_mem_cons.mpr ⟨lw_p74, List.forall_mem_cons.mpr ⟨lw_p75, List.forall_mem_cons.mpr ⟨lw_p76, List.forall_mem_cons.mpr ⟨lw_p77, List.forall_mem_cons.mpr ⟨lw_p78, List.forall_mem_cons.mpr ⟨lw_p79, fun _ h => absurd h List.not_mem_nil⟩⟩⟩⟩⟩⟩⟩⟩⟩⟩⟩⟩⟩⟩⟩⟩
theorem lw_p80 : lw_okq (⟨"BowHouseModel", "punAll", "()V"⟩, 78) := ⟨⟨by decide +kernel, by decide +kernel⟩, List.mem_of_getElem? (i := 998) (by decide +kernel), List.mem_of_getElem? (i := 1491) (by decide +kernel), List.mem_of_getElem? (i := 1492) (by decide +kernel)⟩
theorem lw_p81 : lw_okq (⟨"BowHouseModel", "changes", "()V"⟩, 78) := ⟨⟨by decide +kernel, by decide +kernel⟩, List.mem_of_getElem? (i := 998) (by decide +kernel), List.mem_of_getElem? (i := 1506) (by decide +kernel), List.mem_of_getElem? (i := 1507) (by decide +kernel)⟩
theorem lw_p82 : lw_okq (⟨"BowHouseModel", "exchange", "(I)V"⟩, 78) := ⟨⟨by decide +kernel, by decide +kernel⟩, List.mem_of_getElem? (i := 998) (by decide +kernel), List.mem_of_getElem? (i := 1514) (by decide +kernel), List.mem_of_getElem? (i := 1515) (by decide +kernel)⟩
theorem lw_p83 : lw_okq (⟨"BowHouseModel", "mayRead", "(I)Z"⟩, 78) := ⟨⟨by decide +kernel, by decide +kernel⟩, List.mem_of_getElem? (i := 998) (by decide +kernel), List.mem_of_getElem? (i := 1526) (by decide +kernel), List.mem_of_getElem? (i := 1527) (by decide +kernel)⟩
theorem lw_p84 : lw_okq (⟨"BowHouseModel", "thinkRead", "(II)Z"⟩, 78) := ⟨⟨by decide +kernel, by decide +kernel⟩, List.mem_of_getElem? (i := 998) (by decide +kernel), List.mem_of_getElem? (i := 1530) (by decide +kernel), List.mem_of_getElem? (i := 1531) (by decide +kernel)⟩
theorem lw_p85 : lw_okq (⟨"BowHouseModel", "nextRow", "()Z"⟩, 78) := ⟨⟨by decide +kernel, by decide +kernel⟩, List.mem_of_getElem? (i := 998) (by decide +kernel), List.mem_of_getElem? (i := 1550) (by decide +kernel), List.mem_of_getElem? (i := 1551) (by decide +kernel)⟩
theorem lw_p86 : lw_okq (⟨"BowHouseModel", "exchangeInRow", "(II)V"⟩, 78) := ⟨⟨by decide +kernel, by decide +kernel⟩, List.mem_of_getElem? (i := 998) (by decide +kernel), List.mem_of_getElem? (i := 1554) (by decide +kernel), List.mem_of_getElem? (i := 1555) (by decide +kernel)⟩
theorem lw_p87 : lw_okq (⟨"BowHouseModel", "carriedBy", "(I)I"⟩, 78) := ⟨⟨by decide +kernel, by decide +kernel⟩, List.mem_of_getElem? (i := 998) (by decide +kernel), List.mem_of_getElem? (i := 1562) (by decide +kernel), List.mem_of_getElem? (i := 1563) (by decide +kernel)⟩
theorem lw_p88 : lw_okq (⟨"BowHouseModel", "tiltsAt", "(II)Z"⟩, 78) := ⟨⟨by decide +kernel, by decide +kernel⟩, List.mem_of_getElem? (i := 998) (by decide +kernel), List.mem_of_getElem? (i := 1574) (by decide +kernel), List.mem_of_getElem? (i := 1575) (by decide +kernel)⟩
theorem lw_p89 : lw_okq (⟨"BowHouseModel", "isEnough", "(I)Z"⟩, 78) := ⟨⟨by decide +kernel, by decide +kernel⟩, List.mem_of_getElem? (i := 998) (by decide +kernel), List.mem_of_getElem? (i := 1578) (by decide +kernel), List.mem_of_getElem? (i := 1579) (by decide +kernel)⟩
theorem lw_p90 : lw_okq (⟨"BowHouseModel", "areTwoOut", "(II)Z"⟩, 78) := ⟨⟨by decide +kernel, by decide +kernel⟩, List.mem_of_getElem? (i := 998) (by decide +kernel), List.mem_of_getElem? (i := 1605) (by decide +kernel), List.mem_of_getElem? (i := 1606) (by decide +kernel)⟩
theorem lw_p91 : lw_okq (⟨"BowHouseModel", "creakOf", "(II)I"⟩, 78) := ⟨⟨by decide +kernel, by decide +kernel⟩, List.mem_of_getElem? (i := 998) (by decide +kernel), List.mem_of_getElem? (i := 1631) (by decide +kernel), List.mem_of_getElem? (i := 1632) (by decide +kernel)⟩
theorem lw_p92 : lw_okq (⟨"BowHouseModel", "layTills", "(II)V"⟩, 78) := ⟨⟨by decide +kernel, by decide +kernel⟩, List.mem_of_getElem? (i := 998) (by decide +kernel), List.mem_of_getElem? (i := 1651) (by decide +kernel), List.mem_of_getElem? (i := 1652) (by decide +kernel)⟩
theorem lw_p93 : lw_okq (⟨"BowHouseModel", "isLastOut", "()Z"⟩, 78) := ⟨⟨by decide +kernel, by decide +kernel⟩, List.mem_of_getElem? (i := 998) (by decide +kernel), List.mem_of_getElem? (i := 1702) (by decide +kernel), List.mem_of_getElem? (i := 1703) (by decide +kernel)⟩
theorem lw_p94 : lw_okq (⟨"BowHouseModel", "layFits", "(I)I"⟩, 78) := ⟨⟨by decide +kernel, by decide +kernel⟩, List.mem_of_getElem? (i := 998) (by decide +kernel), List.mem_of_getElem? (i := 1719) (by decide +kernel), List.mem_of_getElem? (i := 1720) (by decide +kernel)⟩
theorem lw_p95 : lw_okq (⟨"BowHouseModel", "layHad", "(I)V"⟩, 78) := ⟨⟨by decide +kernel, by decide +kernel⟩, List.mem_of_getElem? (i := 998) (by decide +kernel), List.mem_of_getElem? (i := 1723) (by decide +kernel), List.mem_of_getElem? (i := 1724) (by decide +kernel)⟩
def lw_privs_6 : List (MethodName × Nat) := [(⟨"BowHouseModel", "punAll", "()V"⟩, 78), (⟨"BowHouseModel", "changes", "()V"⟩, 78), (⟨"BowHouseModel", "exchange", "(I)V"⟩, 78), (⟨"BowHouseModel", "mayRead", "(I)Z"⟩, 78), (⟨"BowHouseModel", "thinkRead", "(II)Z"⟩, 78), (⟨"BowHouseModel", "nextRow", "()Z"⟩, 78), (⟨"BowHouseModel", "exchangeInRow", "(II)V"⟩, 78), (⟨"BowHouseModel", "carriedBy", "(I)I"⟩, 78), (⟨"BowHouseModel", "tiltsAt", "(II)Z"⟩, 78), (⟨"BowHouseModel", "isEnough", "(I)Z"⟩, 78), (⟨"BowHouseModel", "areTwoOut", "(II)Z"⟩, 78), (⟨"BowHouseModel", "creakOf", "(II)I"⟩, 78), (⟨"BowHouseModel", "layTills", "(II)V"⟩, 78), (⟨"BowHouseModel", "isLastOut", "()Z"⟩, 78), (⟨"BowHouseModel", "layFits", "(I)I"⟩, 78), (⟨"BowHouseModel", "layHad", "(I)V"⟩, 78)]
theorem lw_r6 : ∀ q ∈ lw_privs_6, lw_okq q := List.forall_mem_cons.mpr ⟨lw_p80, List.forall_mem_cons.mpr ⟨lw_p81, List.forall_mem_cons.mpr ⟨lw_p82, List.forall_mem_cons.mpr ⟨lw_p83, List.forall_mem_cons.mpr ⟨lw_p84, List.forall_mem_cons.mpr ⟨lw_p85, List.forall_mem_cons.mpr ⟨lw_p86, List.forall_mem_cons.mpr ⟨lw_p87, List.forall_mem_cons.mpr ⟨lw_p88, List.forall_mem_cons.mpr ⟨lw_p89, List.forall_mem_cons.mpr ⟨lw_p90, List.forall_mem_cons.mpr ⟨lw_p91, List.forall_mem_cons.mpr ⟨lw_p92, List.forall_mem_cons.mpr ⟨lw_p93, List.forall_mem_cons.mpr ⟨lw_p94, List.forall_mem_cons.mpr ⟨lw_p95, fun _ h => absurd h List.not_mem_nil⟩⟩⟩⟩⟩⟩⟩⟩⟩⟩⟩⟩⟩⟩⟩⟩
theorem lw_p96 : lw_okq (⟨"BowHouseModel", "fitsMinds", "(II)Z"⟩, 78) := ⟨⟨by decide +kernel, by decide +kernel⟩, List.mem_of_getElem? (i := 998) (by decide +kernel), List.mem_of_getElem? (i := 1727) (by decide +kernel), List.mem_of_getElem? (i := 1728) (by decide +kernel)⟩
theorem lw_p97 : lw_okq (⟨"BowHouseModel", "leftBy", "(I)I"⟩, 78) := ⟨⟨by decide +kernel, by decide +kernel⟩, List.mem_of_getElem? (i := 998) (by decide +kernel), List.mem_of_getElem? (i := 1739) (by decide +kernel), List.mem_of_getElem? (i := 1740) (by decide +kernel)⟩
def lw_privs_7 : List (MethodName × Nat) := [(⟨"BowHouseModel", "fitsMinds", "(II)Z"⟩, 78), (⟨"BowHouseModel", "leftBy", "(I)I"⟩, 78)]
theorem lw_r7 : ∀ q ∈ lw_privs_7, lw_okq q := List.forall_mem_cons.mpr ⟨lw_p96, List.forall_mem_cons.mpr ⟨lw_p97, fun _ h => absurd h List.not_mem_nil⟩⟩
def lw_privs : List (MethodName × Nat) := lw_privs_1 ++ (lw_privs_2 ++ (lw_privs_3 ++ (lw_privs_4 ++ (lw_privs_5 ++ (lw_privs_6 ++ (lw_privs_7))))))
def lw_tbl : List Cond := k2_sels lw_privs ++ tables_1
theorem lw_privs_ok : ∀ q ∈ lw_privs, lw_okq q := by
  show ∀ q ∈ lw_privs_1 ++ (lw_privs_2 ++ (lw_privs_3 ++ (lw_privs_4 ++ (lw_privs_5 ++ (lw_privs_6 ++ (lw_privs_7)))))), lw_okq q
  exact List.forall_mem_append.mpr ⟨lw_r1, List.forall_mem_append.mpr ⟨lw_r2, List.forall_mem_append.mpr ⟨lw_r3, List.forall_mem_append.mpr ⟨lw_r4, List.forall_mem_append.mpr ⟨lw_r5, List.forall_mem_append.mpr ⟨lw_r6, lw_r7⟩⟩⟩⟩⟩⟩
end
section
/-! names of classes, fields, methods: printed rows of the claim -/
def RX0 : String := "BowHouse$Agenda"
def TX0 : u_T := fun k => match k with
  | 0 => ("BowHouse$Agenda", "most", "I", false)
  | 1 => ("BowHouse$Agenda", "best", "[I", true)
  | 2 => ("BowHouse$Agenda", "order", "[I", true)
  | _ => ("BowHouse$Agenda", "stages", "[LBowHouse$State;", true)
def tyX0 : Nat → FieldType := fun k => match k with
  | 0 => .int
  | 1 => .array .int
  | 2 => .array .int
  | _ => .array (.object "BowHouse$State")
theorem nmX0 : ∀ a, a < 4 → ∀ b, b < 4 → a ≠ b → (TX0 a).2.1 ≠ (TX0 b).2.1 := by decide +kernel
theorem tyX0_ok : ∀ k, k < 4 → parseFieldDescriptor (TX0 k).2.2.1 = some (tyX0 k) := by decide +kernel
abbrev cX0_init : ByteArray := prog_2_method_1_code
def yX0_init : MethodName := ⟨RX0, "<init>", "()V"⟩
abbrev cX0_seek : ByteArray := prog_2_method_2_code
def yX0_seek : MethodName := ⟨RX0, "seek", "(LBowHouse$House;LBowHouse$State;Z)V"⟩
abbrev cX0_goOn : ByteArray := prog_2_method_3_code
def yX0_goOn : MethodName := ⟨RX0, "goOn", "(LBowHouse$House;IIZ)V"⟩
def RX1 : String := "BowHouse$Formula"
def TX1 : u_T := fun k => match k with
  | 0 => ("BowHouse$Formula", "length", "I", false)
  | 1 => ("BowHouse$Formula", "units", "I", false)
  | 2 => ("BowHouse$Formula", "given", "[I", true)
  | 3 => ("BowHouse$Formula", "steps", "[I", true)
  | _ => ("BowHouse$Formula", "stack", "[I", true)
def tyX1 : Nat → FieldType := fun k => match k with
  | 0 => .int
  | 1 => .int
  | 2 => .array .int
  | 3 => .array .int
  | _ => .array .int
theorem nmX1 : ∀ a, a < 5 → ∀ b, b < 5 → a ≠ b → (TX1 a).2.1 ≠ (TX1 b).2.1 := by decide +kernel
theorem tyX1_ok : ∀ k, k < 5 → parseFieldDescriptor (TX1 k).2.2.1 = some (tyX1 k) := by decide +kernel
abbrev cX1_init : ByteArray := prog_3_method_1_code
def yX1_init : MethodName := ⟨RX1, "<init>", "()V"⟩
abbrev cX1_clear : ByteArray := prog_3_method_2_code
def yX1_clear : MethodName := ⟨RX1, "clear", "()V"⟩
abbrev cX1_addStep : ByteArray := prog_3_method_3_code
def yX1_addStep : MethodName := ⟨RX1, "addStep", "(I)V"⟩
abbrev cX1_value : ByteArray := prog_3_method_4_code
def yX1_value : MethodName := ⟨RX1, "value", "()I"⟩
abbrev cX1_joined : ByteArray := prog_3_method_5_code
def yX1_joined : MethodName := ⟨RX1, "joined", "(III)I"⟩
def RX2 : String := "BowHouse$Hearsay"
def TX2 : u_T := fun k => match k with
  | 0 => ("BowHouse$Hearsay", "count", "I", false)
  | 1 => ("BowHouse$Hearsay", "time", "I", false)
  | 2 => ("BowHouse$Hearsay", "open", "Z", false)
  | 3 => ("BowHouse$Hearsay", "lengths", "[I", true)
  | 4 => ("BowHouse$Hearsay", "bounds", "[I", true)
  | 5 => ("BowHouse$Hearsay", "reached", "[Z", true)
  | 6 => ("BowHouse$Hearsay", "toldAt", "[I", true)
  | 7 => ("BowHouse$Hearsay", "untoldAt", "[I", true)
  | _ => ("BowHouse$Hearsay", "tracks", "[I", true)
def tyX2 : Nat → FieldType := fun k => match k with
  | 0 => .int
  | 1 => .int
  | 2 => .boolean
  | 3 => .array .int
  | 4 => .array .int
  | 5 => .array .boolean
  | 6 => .array .int
  | 7 => .array .int
  | _ => .array .int
theorem nmX2 : ∀ a, a < 9 → ∀ b, b < 9 → a ≠ b → (TX2 a).2.1 ≠ (TX2 b).2.1 := by decide +kernel
theorem tyX2_ok : ∀ k, k < 9 → parseFieldDescriptor (TX2 k).2.2.1 = some (tyX2 k) := by decide +kernel
abbrev cX2_init : ByteArray := prog_4_method_1_code
def yX2_init : MethodName := ⟨RX2, "<init>", "()V"⟩
abbrev cX2_restart : ByteArray := prog_4_method_2_code
def yX2_restart : MethodName := ⟨RX2, "restart", "(LBowHouse$House;)V"⟩
abbrev cX2_track : ByteArray := prog_4_method_3_code
def yX2_track : MethodName := ⟨RX2, "track", "(LBowHouse$House;II)V"⟩
abbrev cX2_tell : ByteArray := prog_4_method_4_code
def yX2_tell : MethodName := ⟨RX2, "tell", "(IIZ)I"⟩
abbrev cX2_takeBack : ByteArray := prog_4_method_5_code
def yX2_takeBack : MethodName := ⟨RX2, "takeBack", "(I)Z"⟩
abbrev cX2_fitting : ByteArray := prog_4_method_6_code
def yX2_fitting : MethodName := ⟨RX2, "fitting", "(I)I"⟩
abbrev cX2_isBorneOut : ByteArray := prog_4_method_7_code
def yX2_isBorneOut : MethodName := ⟨RX2, "isBorneOut", "(II)Z"⟩
abbrev cX2_leftAtMost : ByteArray := prog_4_method_8_code
def yX2_leftAtMost : MethodName := ⟨RX2, "leftAtMost", "(II)I"⟩
def RX3 : String := "BowHouse$History"
def TX3 : u_T := fun k => match k with
  | 0 => ("BowHouse$History", "done", "I", false)
  | 1 => ("BowHouse$History", "undone", "I", false)
  | 2 => ("BowHouse$History", "oldest", "I", false)
  | 3 => ("BowHouse$History", "rows", "[LBowHouse$State;", true)
  | _ => ("BowHouse$History", "spare", "LBowHouse$State;", true)
def tyX3 : Nat → FieldType := fun k => match k with
  | 0 => .int
  | 1 => .int
  | 2 => .int
  | 3 => .array (.object "BowHouse$State")
  | _ => .object "BowHouse$State"
theorem nmX3 : ∀ a, a < 5 → ∀ b, b < 5 → a ≠ b → (TX3 a).2.1 ≠ (TX3 b).2.1 := by decide +kernel
theorem tyX3_ok : ∀ k, k < 5 → parseFieldDescriptor (TX3 k).2.2.1 = some (tyX3 k) := by decide +kernel
abbrev cX3_init : ByteArray := prog_5_method_1_code
def yX3_init : MethodName := ⟨RX3, "<init>", "()V"⟩
abbrev cX3_clear : ByteArray := prog_5_method_2_code
def yX3_clear : MethodName := ⟨RX3, "clear", "()V"⟩
abbrev cX3_keep : ByteArray := prog_5_method_3_code
def yX3_keep : MethodName := ⟨RX3, "keep", "(LBowHouse$State;)V"⟩
abbrev cX3_takeBack : ByteArray := prog_5_method_4_code
def yX3_takeBack : MethodName := ⟨RX3, "takeBack", "(LBowHouse$State;)Z"⟩
abbrev cX3_doAgain : ByteArray := prog_5_method_5_code
def yX3_doAgain : MethodName := ⟨RX3, "doAgain", "(LBowHouse$State;)Z"⟩
abbrev cX3_row : ByteArray := prog_5_method_6_code
def yX3_row : MethodName := ⟨RX3, "row", "(I)LBowHouse$State;"⟩
abbrev cX3_exchange : ByteArray := prog_5_method_7_code
def yX3_exchange : MethodName := ⟨RX3, "exchange", "(LBowHouse$State;LBowHouse$State;)V"⟩
def RX4 : String := "BowHouse$House"
def TX4 : u_T := fun k => match k with
  | 0 => ("BowHouse$House", "members", "I", false)
  | 1 => ("BowHouse$House", "out", "I", false)
  | 2 => ("BowHouse$House", "minds", "[I", true)
  | 3 => ("BowHouse$House", "votes", "[I", true)
  | 4 => ("BowHouse$House", "clauses", "I", false)
  | 5 => ("BowHouse$House", "sharp", "[I", true)
  | 6 => ("BowHouse$House", "cock", "I", false)
  | 7 => ("BowHouse$House", "quota", "I", false)
  | 8 => ("BowHouse$House", "puns", "I", false)
  | 9 => ("BowHouse$House", "draw", "I", false)
  | _ => ("BowHouse$House", "formula", "LBowHouse$Formula;", true)
def tyX4 : Nat → FieldType := fun k => match k with
  | 0 => .int
  | 1 => .int
  | 2 => .array .int
  | 3 => .array .int
  | 4 => .int
  | 5 => .array .int
  | 6 => .int
  | 7 => .int
  | 8 => .int
  | 9 => .int
  | _ => .object "BowHouse$Formula"
theorem nmX4 : ∀ a, a < 11 → ∀ b, b < 11 → a ≠ b → (TX4 a).2.1 ≠ (TX4 b).2.1 := by decide +kernel
theorem tyX4_ok : ∀ k, k < 11 → parseFieldDescriptor (TX4 k).2.2.1 = some (tyX4 k) := by decide +kernel
abbrev cX4_init : ByteArray := prog_6_method_1_code
def yX4_init : MethodName := ⟨RX4, "<init>", "()V"⟩
abbrev cX4_clear : ByteArray := prog_6_method_2_code
def yX4_clear : MethodName := ⟨RX4, "clear", "()V"⟩
abbrev cX4_addMember : ByteArray := prog_6_method_3_code
def yX4_addMember : MethodName := ⟨RX4, "addMember", "(ZII)V"⟩
abbrev cX4_addClause : ByteArray := prog_6_method_4_code
def yX4_addClause : MethodName := ⟨RX4, "addClause", "(I)V"⟩
abbrev cX4_everyone : ByteArray := prog_6_method_5_code
def yX4_everyone : MethodName := ⟨RX4, "everyone", "()I"⟩
abbrev cX4_votesOf : ByteArray := prog_6_method_6_code
def yX4_votesOf : MethodName := ⟨RX4, "votesOf", "(I)I"⟩
abbrev cX4_windOf : ByteArray := prog_6_method_7_code
def yX4_windOf : MethodName := ⟨RX4, "windOf", "(IIIIII)I"⟩
abbrev cX4_tipsOver : ByteArray := prog_6_method_8_code
def yX4_tipsOver : MethodName := ⟨RX4, "tipsOver", "(II)Z"⟩
abbrev cX4_ordersTipped : ByteArray := prog_6_method_9_code
def yX4_ordersTipped : MethodName := ⟨RX4, "ordersTipped", "(I)I"⟩
abbrev cX4_setsTilted : ByteArray := prog_6_method_10_code
def yX4_setsTilted : MethodName := ⟨RX4, "setsTilted", "(I)I"⟩
abbrev cX4_leastLeague : ByteArray := prog_6_method_11_code
def yX4_leastLeague : MethodName := ⟨RX4, "leastLeague", "(I)I"⟩
abbrev cX4_countLeagues : ByteArray := prog_6_method_12_code
def yX4_countLeagues : MethodName := ⟨RX4, "countLeagues", "()I"⟩
abbrev cX4_needsEach : ByteArray := prog_6_method_13_code
def yX4_needsEach : MethodName := ⟨RX4, "needsEach", "(I)Z"⟩
def RX5 : String := "BowHouse$Parser"
def TX5 : u_T := fun k => match k with
  | 0 => ("BowHouse$Parser", "length", "I", false)
  | 1 => ("BowHouse$Parser", "fault", "I", false)
  | 2 => ("BowHouse$Parser", "place", "I", false)
  | 3 => ("BowHouse$Parser", "tape", "[B", true)
  | 4 => ("BowHouse$Parser", "memberNames", "[J", true)
  | 5 => ("BowHouse$Parser", "clauseNames", "[J", true)
  | 6 => ("BowHouse$Parser", "toldOnce", "I", false)
  | 7 => ("BowHouse$Parser", "kind", "I", false)
  | 8 => ("BowHouse$Parser", "start", "I", false)
  | 9 => ("BowHouse$Parser", "behind", "I", false)
  | 10 => ("BowHouse$Parser", "number", "I", false)
  | 11 => ("BowHouse$Parser", "name", "J", false)
  | _ => ("BowHouse$Parser", "wordCodes", "[J", true)
def tyX5 : Nat → FieldType := fun k => match k with
  | 0 => .int
  | 1 => .int
  | 2 => .int
  | 3 => .array .byte
  | 4 => .array .long
  | 5 => .array .long
  | 6 => .int
  | 7 => .int
  | 8 => .int
  | 9 => .int
  | 10 => .int
  | 11 => .long
  | _ => .array .long
theorem nmX5 : ∀ a, a < 13 → ∀ b, b < 13 → a ≠ b → (TX5 a).2.1 ≠ (TX5 b).2.1 := by decide +kernel
theorem tyX5_ok : ∀ k, k < 13 → parseFieldDescriptor (TX5 k).2.2.1 = some (tyX5 k) := by decide +kernel
abbrev cX5_init : ByteArray := prog_7_method_1_code
def yX5_init : MethodName := ⟨RX5, "<init>", "()V"⟩
abbrev cX5_put : ByteArray := prog_7_method_2_code
def yX5_put : MethodName := ⟨RX5, "put", "(I)V"⟩
abbrev cX5_tell : ByteArray := prog_7_method_3_code
def yX5_tell : MethodName := ⟨RX5, "tell", "(LBowHouse$House;)Z"⟩
abbrev cX5_memberLine : ByteArray := prog_7_method_4_code
def yX5_memberLine : MethodName := ⟨RX5, "memberLine", "(LBowHouse$House;)V"⟩
abbrev cX5_clauseLine : ByteArray := prog_7_method_5_code
def yX5_clauseLine : MethodName := ⟨RX5, "clauseLine", "(LBowHouse$House;)V"⟩
abbrev cX5_numberLine : ByteArray := prog_7_method_6_code
def yX5_numberLine : MethodName := ⟨RX5, "numberLine", "(II)I"⟩
abbrev cX5_formulaLine : ByteArray := prog_7_method_7_code
def yX5_formulaLine : MethodName := ⟨RX5, "formulaLine", "(LBowHouse$Formula;)V"⟩
abbrev cX5_either : ByteArray := prog_7_method_8_code
def yX5_either : MethodName := ⟨RX5, "either", "(LBowHouse$Formula;I)V"⟩
abbrev cX5_both : ByteArray := prog_7_method_9_code
def yX5_both : MethodName := ⟨RX5, "both", "(LBowHouse$Formula;I)V"⟩
abbrev cX5_one : ByteArray := prog_7_method_10_code
def yX5_one : MethodName := ⟨RX5, "one", "(LBowHouse$Formula;I)V"⟩
abbrev cX5_sum : ByteArray := prog_7_method_11_code
def yX5_sum : MethodName := ⟨RX5, "sum", "(LBowHouse$Formula;I)V"⟩
abbrev cX5_term : ByteArray := prog_7_method_12_code
def yX5_term : MethodName := ⟨RX5, "term", "(LBowHouse$Formula;I)V"⟩
abbrev cX5_unit : ByteArray := prog_7_method_13_code
def yX5_unit : MethodName := ⟨RX5, "unit", "(LBowHouse$Formula;I)V"⟩
abbrev cX5_takeOnce : ByteArray := prog_7_method_14_code
def yX5_takeOnce : MethodName := ⟨RX5, "takeOnce", "()V"⟩
abbrev cX5_take : ByteArray := prog_7_method_15_code
def yX5_take : MethodName := ⟨RX5, "take", "(I)V"⟩
abbrev cX5_takeNumber : ByteArray := prog_7_method_16_code
def yX5_takeNumber : MethodName := ⟨RX5, "takeNumber", "(II)I"⟩
abbrev cX5_takeName : ByteArray := prog_7_method_17_code
def yX5_takeName : MethodName := ⟨RX5, "takeName", "([JI)V"⟩
abbrev cX5_refuse : ByteArray := prog_7_method_18_code
def yX5_refuse : MethodName := ⟨RX5, "refuse", "()V"⟩
abbrev cX5_fail : ByteArray := prog_7_method_19_code
def yX5_fail : MethodName := ⟨RX5, "fail", "(I)V"⟩
abbrev cX5_advance : ByteArray := prog_7_method_20_code
def yX5_advance : MethodName := ⟨RX5, "advance", "()V"⟩
abbrev cX5_scanWord : ByteArray := prog_7_method_21_code
def yX5_scanWord : MethodName := ⟨RX5, "scanWord", "()V"⟩
abbrev cX5_scanNumber : ByteArray := prog_7_method_22_code
def yX5_scanNumber : MethodName := ⟨RX5, "scanNumber", "()V"⟩
abbrev cX5_isLetter : ByteArray := prog_7_method_23_code
def yX5_isLetter : MethodName := ⟨RX5, "isLetter", "(B)Z"⟩
abbrev cX5_isDigit : ByteArray := prog_7_method_24_code
def yX5_isDigit : MethodName := ⟨RX5, "isDigit", "(B)Z"⟩
def RX6 : String := "BowHouse$State"
def TX6 : u_T := fun k => match k with
  | 0 => ("BowHouse$State", "notches", "[I", true)
  | 1 => ("BowHouse$State", "out", "I", false)
  | 2 => ("BowHouse$State", "read", "I", false)
  | 3 => ("BowHouse$State", "carried", "I", false)
  | 4 => ("BowHouse$State", "seed", "I", false)
  | 5 => ("BowHouse$State", "wentOff", "I", false)
  | _ => ("BowHouse$State", "wereFor", "I", false)
def tyX6 : Nat → FieldType := fun k => match k with
  | 0 => .array .int
  | 1 => .int
  | 2 => .int
  | 3 => .int
  | 4 => .int
  | 5 => .int
  | _ => .int
theorem nmX6 : ∀ a, a < 7 → ∀ b, b < 7 → a ≠ b → (TX6 a).2.1 ≠ (TX6 b).2.1 := by decide +kernel
theorem tyX6_ok : ∀ k, k < 7 → parseFieldDescriptor (TX6 k).2.2.1 = some (tyX6 k) := by decide +kernel
abbrev cX6_init : ByteArray := prog_8_method_1_code
def yX6_init : MethodName := ⟨RX6, "<init>", "()V"⟩
abbrev cX6_begin : ByteArray := prog_8_method_2_code
def yX6_begin : MethodName := ⟨RX6, "begin", "(LBowHouse$House;)V"⟩
abbrev cX6_copy : ByteArray := prog_8_method_3_code
def yX6_copy : MethodName := ⟨RX6, "copy", "(LBowHouse$State;)V"⟩
abbrev cX6_sit : ByteArray := prog_8_method_4_code
def yX6_sit : MethodName := ⟨RX6, "sit", "(LBowHouse$House;IZ)Z"⟩
abbrev cX6_sitAs : ByteArray := prog_8_method_5_code
def yX6_sitAs : MethodName := ⟨RX6, "sitAs", "(LBowHouse$House;IIIZ)Z"⟩
abbrev cX6_sitAll : ByteArray := prog_8_method_6_code
def yX6_sitAll : MethodName := ⟨RX6, "sitAll", "(LBowHouse$House;IZ)I"⟩
abbrev cX6_drawPun : ByteArray := prog_8_method_7_code
def yX6_drawPun : MethodName := ⟨RX6, "drawPun", "(LBowHouse$House;)V"⟩
abbrev cX6_handOver : ByteArray := prog_8_method_8_code
def yX6_handOver : MethodName := ⟨RX6, "handOver", "(LBowHouse$House;)V"⟩
def RX7 : String := "BowHouse"
def TX7 : u_T := fun k => match k with
  | 0 => ("BowHouse", "parser", "LBowHouse$Parser;", true)
  | 1 => ("BowHouse", "told", "LBowHouse$House;", false)
  | 2 => ("BowHouse", "draft", "LBowHouse$House;", false)
  | 3 => ("BowHouse", "now", "LBowHouse$State;", true)
  | 4 => ("BowHouse", "trial", "LBowHouse$State;", true)
  | 5 => ("BowHouse", "history", "LBowHouse$History;", true)
  | 6 => ("BowHouse", "orders", "LBowHouse$Agenda;", true)
  | 7 => ("BowHouse", "hearsay", "LBowHouse$Hearsay;", true)
  | 8 => ("BowHouse", "boxes", "[LBowHouse$State;", true)
  | 9 => ("BowHouse", "boxesFilled", "I", false)
  | 10 => ("BowHouse", "lying", "[I", true)
  | 11 => ("BowHouse", "lyingCount", "I", false)
  | 12 => ("BowHouse", "dropsToStay", "[I", true)
  | _ => ("BowHouse", "dropsToBack", "[I", true)
def tyX7 : Nat → FieldType := fun k => match k with
  | 0 => .object "BowHouse$Parser"
  | 1 => .object "BowHouse$House"
  | 2 => .object "BowHouse$House"
  | 3 => .object "BowHouse$State"
  | 4 => .object "BowHouse$State"
  | 5 => .object "BowHouse$History"
  | 6 => .object "BowHouse$Agenda"
  | 7 => .object "BowHouse$Hearsay"
  | 8 => .array (.object "BowHouse$State")
  | 9 => .int
  | 10 => .array .int
  | 11 => .int
  | 12 => .array .int
  | _ => .array .int
theorem nmX7 : ∀ a, a < 14 → ∀ b, b < 14 → a ≠ b → (TX7 a).2.1 ≠ (TX7 b).2.1 := by decide +kernel
theorem tyX7_ok : ∀ k, k < 14 → parseFieldDescriptor (TX7 k).2.2.1 = some (tyX7 k) := by decide +kernel
abbrev cX7_init : ByteArray := prog_1_method_1_code
def yX7_init : MethodName := ⟨RX7, "<init>", "()V"⟩
abbrev cX7_feed : ByteArray := prog_1_method_2_code
def yX7_feed : MethodName := ⟨RX7, "feed", "(IIIII)I"⟩
abbrev cX7_end : ByteArray := prog_1_method_3_code
def yX7_end : MethodName := ⟨RX7, "end", "(I)I"⟩
abbrev cX7_house : ByteArray := prog_1_method_4_code
def yX7_house : MethodName := ⟨RX7, "house", "()I"⟩
abbrev cX7_fault : ByteArray := prog_1_method_5_code
def yX7_fault : MethodName := ⟨RX7, "fault", "(I)I"⟩
abbrev cX7_member : ByteArray := prog_1_method_6_code
def yX7_member : MethodName := ⟨RX7, "member", "(II)I"⟩
abbrev cX7_clause : ByteArray := prog_1_method_7_code
def yX7_clause : MethodName := ⟨RX7, "clause", "(II)I"⟩
abbrev cX7_winds : ByteArray := prog_1_method_8_code
def yX7_winds : MethodName := ⟨RX7, "winds", "(IIZ)I"⟩
abbrev cX7_read : ByteArray := prog_1_method_9_code
def yX7_read : MethodName := ⟨RX7, "read", "(IZ)I"⟩
abbrev cX7_oil : ByteArray := prog_1_method_10_code
def yX7_oil : MethodName := ⟨RX7, "oil", "(I)I"⟩
abbrev cX7_change : ByteArray := prog_1_method_11_code
def yX7_change : MethodName := ⟨RX7, "change", "()I"⟩
abbrev cX7_undo : ByteArray := prog_1_method_12_code
def yX7_undo : MethodName := ⟨RX7, "undo", "()Z"⟩
abbrev cX7_redo : ByteArray := prog_1_method_13_code
def yX7_redo : MethodName := ⟨RX7, "redo", "()Z"⟩
abbrev cX7_carries : ByteArray := prog_1_method_14_code
def yX7_carries : MethodName := ⟨RX7, "carries", "(IZ)I"⟩
abbrev cX7_shots : ByteArray := prog_1_method_15_code
def yX7_shots : MethodName := ⟨RX7, "shots", "(IZ)I"⟩
abbrev cX7_backers : ByteArray := prog_1_method_16_code
def yX7_backers : MethodName := ⟨RX7, "backers", "(IZ)I"⟩
abbrev cX7_will : ByteArray := prog_1_method_17_code
def yX7_will : MethodName := ⟨RX7, "will", "(III)I"⟩
abbrev cX7_agenda : ByteArray := prog_1_method_18_code
def yX7_agenda : MethodName := ⟨RX7, "agenda", "(Z)I"⟩
abbrev cX7_tones : ByteArray := prog_1_method_19_code
def yX7_tones : MethodName := ⟨RX7, "tones", "(I)I"⟩
abbrev cX7_lost : ByteArray := prog_1_method_20_code
def yX7_lost : MethodName := ⟨RX7, "lost", "(Z)I"⟩
abbrev cX7_tips : ByteArray := prog_1_method_21_code
def yX7_tips : MethodName := ⟨RX7, "tips", "(I)I"⟩
abbrev cX7_league : ByteArray := prog_1_method_22_code
def yX7_league : MethodName := ⟨RX7, "league", "(II)I"⟩
abbrev cX7_disarm : ByteArray := prog_1_method_23_code
def yX7_disarm : MethodName := ⟨RX7, "disarm", "(III)I"⟩
abbrev cX7_trust : ByteArray := prog_1_method_24_code
def yX7_trust : MethodName := ⟨RX7, "trust", "(II)I"⟩
abbrev cX7_edge : ByteArray := prog_1_method_25_code
def yX7_edge : MethodName := ⟨RX7, "edge", "(IZ)I"⟩
abbrev cX7_usher : ByteArray := prog_1_method_26_code
def yX7_usher : MethodName := ⟨RX7, "usher", "(ZI)I"⟩
abbrev cX7_creak : ByteArray := prog_1_method_27_code
def yX7_creak : MethodName := ⟨RX7, "creak", "(IZ)I"⟩
abbrev cX7_over : ByteArray := prog_1_method_28_code
def yX7_over : MethodName := ⟨RX7, "over", "()I"⟩
abbrev cX7_drops : ByteArray := prog_1_method_29_code
def yX7_drops : MethodName := ⟨RX7, "drops", "(IZ)I"⟩
abbrev cX7_swap : ByteArray := prog_1_method_30_code
def yX7_swap : MethodName := ⟨RX7, "swap", "(ZI)I"⟩
abbrev cX7_tilts : ByteArray := prog_1_method_31_code
def yX7_tilts : MethodName := ⟨RX7, "tilts", "(I)I"⟩
abbrev cX7_leagues : ByteArray := prog_1_method_32_code
def yX7_leagues : MethodName := ⟨RX7, "leagues", "()I"⟩
abbrev cX7_softest : ByteArray := prog_1_method_33_code
def yX7_softest : MethodName := ⟨RX7, "softest", "()I"⟩
abbrev cX7_outs : ByteArray := prog_1_method_34_code
def yX7_outs : MethodName := ⟨RX7, "outs", "()I"⟩
abbrev cX7_loudest : ByteArray := prog_1_method_35_code
def yX7_loudest : MethodName := ⟨RX7, "loudest", "()I"⟩
abbrev cX7_tensest : ByteArray := prog_1_method_36_code
def yX7_tensest : MethodName := ⟨RX7, "tensest", "()I"⟩
abbrev cX7_strength : ByteArray := prog_1_method_37_code
def yX7_strength : MethodName := ⟨RX7, "strength", "()I"⟩
abbrev cX7_cross : ByteArray := prog_1_method_38_code
def yX7_cross : MethodName := ⟨RX7, "cross", "()I"⟩
abbrev cX7_vetoes : ByteArray := prog_1_method_39_code
def yX7_vetoes : MethodName := ⟨RX7, "vetoes", "()I"⟩
abbrev cX7_law : ByteArray := prog_1_method_40_code
def yX7_law : MethodName := ⟨RX7, "law", "(I)I"⟩
abbrev cX7_until : ByteArray := prog_1_method_41_code
def yX7_until : MethodName := ⟨RX7, "until", "(IIZ)I"⟩
abbrev cX7_odds : ByteArray := prog_1_method_42_code
def yX7_odds : MethodName := ⟨RX7, "odds", "(II)I"⟩
abbrev cX7_lies : ByteArray := prog_1_method_43_code
def yX7_lies : MethodName := ⟨RX7, "lies", "(I)I"⟩
abbrev cX7_heard : ByteArray := prog_1_method_44_code
def yX7_heard : MethodName := ⟨RX7, "heard", "(IIZ)I"⟩
abbrev cX7_untell : ByteArray := prog_1_method_45_code
def yX7_untell : MethodName := ⟨RX7, "untell", "(I)Z"⟩
abbrev cX7_later : ByteArray := prog_1_method_46_code
def yX7_later : MethodName := ⟨RX7, "later", "(I)I"⟩
abbrev cX7_fits : ByteArray := prog_1_method_47_code
def yX7_fits : MethodName := ⟨RX7, "fits", "(I)I"⟩
abbrev cX7_sure : ByteArray := prog_1_method_48_code
def yX7_sure : MethodName := ⟨RX7, "sure", "(II)I"⟩
abbrev cX7_ask : ByteArray := prog_1_method_49_code
def yX7_ask : MethodName := ⟨RX7, "ask", "(II)I"⟩
abbrev cX7_image : ByteArray := prog_1_method_50_code
def yX7_image : MethodName := ⟨RX7, "image", "(I)I"⟩
abbrev cX7_back : ByteArray := prog_1_method_51_code
def yX7_back : MethodName := ⟨RX7, "back", "(I)I"⟩
abbrev cX7_about : ByteArray := prog_1_method_52_code
def yX7_about : MethodName := ⟨RX7, "about", "(I)I"⟩
abbrev cX7_isMember : ByteArray := prog_1_method_53_code
def yX7_isMember : MethodName := ⟨RX7, "isMember", "(I)Z"⟩
abbrev cX7_isOut : ByteArray := prog_1_method_54_code
def yX7_isOut : MethodName := ⟨RX7, "isOut", "(I)Z"⟩
abbrev cX7_areTwoOut : ByteArray := prog_1_method_55_code
def yX7_areTwoOut : MethodName := ⟨RX7, "areTwoOut", "(II)Z"⟩
abbrev cX7_isClause : ByteArray := prog_1_method_56_code
def yX7_isClause : MethodName := ⟨RX7, "isClause", "(I)Z"⟩
abbrev cX7_isUnread : ByteArray := prog_1_method_57_code
def yX7_isUnread : MethodName := ⟨RX7, "isUnread", "(I)Z"⟩
abbrev cX7_trialFromNow : ByteArray := prog_1_method_58_code
def yX7_trialFromNow : MethodName := ⟨RX7, "trialFromNow", "()LBowHouse$State;"⟩
abbrev cX7_windNow : ByteArray := prog_1_method_59_code
def yX7_windNow : MethodName := ⟨RX7, "windNow", "(IIIZ)I"⟩
abbrev cX7_creakAt : ByteArray := prog_1_method_60_code
def yX7_creakAt : MethodName := ⟨RX7, "creakAt", "(IZ)I"⟩
abbrev cX7_carriedByTones : ByteArray := prog_1_method_61_code
def yX7_carriedByTones : MethodName := ⟨RX7, "carriedByTones", "(I)I"⟩
abbrev cX7_staysWith : ByteArray := prog_1_method_62_code
def yX7_staysWith : MethodName := ⟨RX7, "staysWith", "(III)Z"⟩
abbrev cX7_gain : ByteArray := prog_1_method_63_code
def yX7_gain : MethodName := ⟨RX7, "gain", "(III)I"⟩
abbrev cX7_countDrops : ByteArray := prog_1_method_64_code
def yX7_countDrops : MethodName := ⟨RX7, "countDrops", "(IZ)Z"⟩
abbrev cX7_dropsWith : ByteArray := prog_1_method_65_code
def yX7_dropsWith : MethodName := ⟨RX7, "dropsWith", "(I)I"⟩
abbrev cX7_has : ByteArray := prog_1_method_66_code
def yX7_has : MethodName := ⟨RX7, "has", "(II)Z"⟩
abbrev cX7_commonDivisor : ByteArray := prog_1_method_67_code
def yX7_commonDivisor : MethodName := ⟨RX7, "commonDivisor", "(II)I"⟩
def RX8 : String := "BowHouseModel"
def TX8 : u_T := fun k => match k with
  | 0 => ("BowHouseModel", "tape", "[I", true)
  | 1 => ("BowHouseModel", "taped", "I", false)
  | 2 => ("BowHouseModel", "fault", "I", false)
  | 3 => ("BowHouseModel", "faultPlace", "I", false)
  | 4 => ("BowHouseModel", "at", "I", false)
  | 5 => ("BowHouseModel", "size", "I", false)
  | 6 => ("BowHouseModel", "sort", "I", false)
  | 7 => ("BowHouseModel", "place", "I", false)
  | 8 => ("BowHouseModel", "number", "I", false)
  | 9 => ("BowHouseModel", "word", "J", false)
  | 10 => ("BowHouseModel", "nName", "[J", true)
  | 11 => ("BowHouseModel", "nStep", "[I", true)
  | 12 => ("BowHouseModel", "nArg", "[I", true)
  | 13 => ("BowHouseModel", "step", "[I", true)
  | 14 => ("BowHouseModel", "arg", "[I", true)
  | 15 => ("BowHouseModel", "open", "[I", true)
  | 16 => ("BowHouseModel", "values", "[I", true)
  | 17 => ("BowHouseModel", "nMany", "I", false)
  | 18 => ("BowHouseModel", "formSteps", "I", false)
  | 19 => ("BowHouseModel", "opens", "I", false)
  | 20 => ("BowHouseModel", "nUnits", "I", false)
  | 21 => ("BowHouseModel", "units", "I", false)
  | 22 => ("BowHouseModel", "ownUnits", "I", false)
  | 23 => ("BowHouseModel", "deep", "I", false)
  | 24 => ("BowHouseModel", "nHasForm", "Z", false)
  | 25 => ("BowHouseModel", "hasForm", "Z", false)
  | 26 => ("BowHouseModel", "asks", "[I", true)
  | 27 => ("BowHouseModel", "mindsNow", "I", false)
  | 28 => ("BowHouseModel", "nMinds", "[I", true)
  | 29 => ("BowHouseModel", "nVotes", "[I", true)
  | 30 => ("BowHouseModel", "nSharp", "[I", true)
  | 31 => ("BowHouseModel", "minds", "[I", true)
  | 32 => ("BowHouseModel", "votes", "[I", true)
  | 33 => ("BowHouseModel", "sharp", "[I", true)
  | 34 => ("BowHouseModel", "nMembers", "I", false)
  | 35 => ("BowHouseModel", "nClauses", "I", false)
  | 36 => ("BowHouseModel", "nOuts", "I", false)
  | 37 => ("BowHouseModel", "nCock", "I", false)
  | 38 => ("BowHouseModel", "nQuota", "I", false)
  | 39 => ("BowHouseModel", "nPuns", "I", false)
  | 40 => ("BowHouseModel", "nDraw", "I", false)
  | 41 => ("BowHouseModel", "memberMany", "I", false)
  | 42 => ("BowHouseModel", "clauses", "I", false)
  | 43 => ("BowHouseModel", "outsTold", "I", false)
  | 44 => ("BowHouseModel", "cock", "I", false)
  | 45 => ("BowHouseModel", "quota", "I", false)
  | 46 => ("BowHouseModel", "puns", "I", false)
  | 47 => ("BowHouseModel", "seed", "I", false)
  | 48 => ("BowHouseModel", "nHasCock", "Z", false)
  | 49 => ("BowHouseModel", "nHasQuota", "Z", false)
  | 50 => ("BowHouseModel", "nHasPuns", "Z", false)
  | 51 => ("BowHouseModel", "nHasDraw", "Z", false)
  | 52 => ("BowHouseModel", "now", "[I", true)
  | 53 => ("BowHouseModel", "air", "[I", true)
  | 54 => ("BowHouseModel", "shotSet", "I", false)
  | 55 => ("BowHouseModel", "forSet", "I", false)
  | 56 => ("BowHouseModel", "were", "[I", true)
  | 57 => ("BowHouseModel", "acts", "I", false)
  | 58 => ("BowHouseModel", "undone", "I", false)
  | 59 => ("BowHouseModel", "bows", "[I", true)
  | 60 => ("BowHouseModel", "lies", "[I", true)
  | 61 => ("BowHouseModel", "row", "[I", true)
  | 62 => ("BowHouseModel", "lain", "I", false)
  | 63 => ("BowHouseModel", "rowMany", "I", false)
  | 64 => ("BowHouseModel", "till", "[I", true)
  | 65 => ("BowHouseModel", "tillFor", "[I", true)
  | 66 => ("BowHouseModel", "soundOf", "[I", true)
  | 67 => ("BowHouseModel", "soundNotches", "[I", true)
  | 68 => ("BowHouseModel", "soundTold", "[I", true)
  | 69 => ("BowHouseModel", "soundUntold", "[I", true)
  | 70 => ("BowHouseModel", "soundIs", "[Z", true)
  | 71 => ("BowHouseModel", "sounds", "I", false)
  | 72 => ("BowHouseModel", "time", "I", false)
  | 73 => ("BowHouseModel", "had", "[I", true)
  | 74 => ("BowHouseModel", "tally", "[I", true)
  | 75 => ("BowHouseModel", "isFit", "[Z", true)
  | 76 => ("BowHouseModel", "hasBox", "[Z", true)
  | _ => ("BowHouseModel", "boxes", "[I", true)
def tyX8 : Nat → FieldType := fun k => match k with
  | 0 => .array .int
  | 1 => .int
  | 2 => .int
  | 3 => .int
  | 4 => .int
  | 5 => .int
  | 6 => .int
  | 7 => .int
  | 8 => .int
  | 9 => .long
  | 10 => .array .long
  | 11 => .array .int
  | 12 => .array .int
  | 13 => .array .int
  | 14 => .array .int
  | 15 => .array .int
  | 16 => .array .int
  | 17 => .int
  | 18 => .int
  | 19 => .int
  | 20 => .int
  | 21 => .int
  | 22 => .int
  | 23 => .int
  | 24 => .boolean
  | 25 => .boolean
  | 26 => .array .int
  | 27 => .int
  | 28 => .array .int
  | 29 => .array .int
  | 30 => .array .int
  | 31 => .array .int
  | 32 => .array .int
  | 33 => .array .int
  | 34 => .int
  | 35 => .int
  | 36 => .int
  | 37 => .int
  | 38 => .int
  | 39 => .int
  | 40 => .int
  | 41 => .int
  | 42 => .int
  | 43 => .int
  | 44 => .int
  | 45 => .int
  | 46 => .int
  | 47 => .int
  | 48 => .boolean
  | 49 => .boolean
  | 50 => .boolean
  | 51 => .boolean
  | 52 => .array .int
  | 53 => .array .int
  | 54 => .int
  | 55 => .int
  | 56 => .array .int
  | 57 => .int
  | 58 => .int
  | 59 => .array .int
  | 60 => .array .int
  | 61 => .array .int
  | 62 => .int
  | 63 => .int
  | 64 => .array .int
  | 65 => .array .int
  | 66 => .array .int
  | 67 => .array .int
  | 68 => .array .int
  | 69 => .array .int
  | 70 => .array .boolean
  | 71 => .int
  | 72 => .int
  | 73 => .array .int
  | 74 => .array .int
  | 75 => .array .boolean
  | 76 => .array .boolean
  | _ => .array .int
theorem nmX8 : ∀ a, a < 78 → ∀ b, b < 78 → a ≠ b → (TX8 a).2.1 ≠ (TX8 b).2.1 := by decide +kernel
theorem tyX8_ok : ∀ k, k < 78 → parseFieldDescriptor (TX8 k).2.2.1 = some (tyX8 k) := by decide +kernel
abbrev cX8_init : ByteArray := prog_10_method_1_code
def yX8_init : MethodName := ⟨RX8, "<init>", "()V"⟩
abbrev cX8_feed : ByteArray := prog_10_method_2_code
def yX8_feed : MethodName := ⟨RX8, "feed", "(IIIII)I"⟩
abbrev cX8_four : ByteArray := prog_10_method_3_code
def yX8_four : MethodName := ⟨RX8, "four", "(I)V"⟩
abbrev cX8_end : ByteArray := prog_10_method_4_code
def yX8_end : MethodName := ⟨RX8, "end", "(I)I"⟩
abbrev cX8_here : ByteArray := prog_10_method_5_code
def yX8_here : MethodName := ⟨RX8, "here", "(I)I"⟩
abbrev cX8_isLetter : ByteArray := prog_10_method_6_code
def yX8_isLetter : MethodName := ⟨RX8, "isLetter", "(I)Z"⟩
abbrev cX8_isDigit : ByteArray := prog_10_method_7_code
def yX8_isDigit : MethodName := ⟨RX8, "isDigit", "(I)Z"⟩
abbrev cX8_isSign : ByteArray := prog_10_method_8_code
def yX8_isSign : MethodName := ⟨RX8, "isSign", "(I)Z"⟩
abbrev cX8_token : ByteArray := prog_10_method_9_code
def yX8_token : MethodName := ⟨RX8, "token", "()V"⟩
abbrev cX8_wrong : ByteArray := prog_10_method_10_code
def yX8_wrong : MethodName := ⟨RX8, "wrong", "(I)V"⟩
abbrev cX8_isWord : ByteArray := prog_10_method_11_code
def yX8_isWord : MethodName := ⟨RX8, "isWord", "(J)Z"⟩
abbrev cX8_isOwn : ByteArray := prog_10_method_12_code
def yX8_isOwn : MethodName := ⟨RX8, "isOwn", "()Z"⟩
abbrev cX8_isName : ByteArray := prog_10_method_13_code
def yX8_isName : MethodName := ⟨RX8, "isName", "()Z"⟩
abbrev cX8_want : ByteArray := prog_10_method_14_code
def yX8_want : MethodName := ⟨RX8, "want", "(J)V"⟩
abbrev cX8_toldNumber : ByteArray := prog_10_method_15_code
def yX8_toldNumber : MethodName := ⟨RX8, "toldNumber", "(II)I"⟩
abbrev cX8_told : ByteArray := prog_10_method_16_code
def yX8_told : MethodName := ⟨RX8, "told", "(JII)I"⟩
abbrev cX8_find : ByteArray := prog_10_method_17_code
def yX8_find : MethodName := ⟨RX8, "find", "(II)I"⟩
abbrev cX8_newName : ByteArray := prog_10_method_18_code
def yX8_newName : MethodName := ⟨RX8, "newName", "(II)V"⟩
abbrev cX8_add : ByteArray := prog_10_method_19_code
def yX8_add : MethodName := ⟨RX8, "add", "(II)V"⟩
abbrev cX8_tight : ByteArray := prog_10_method_20_code
def yX8_tight : MethodName := ⟨RX8, "tight", "(I)I"⟩
abbrev cX8_close : ByteArray := prog_10_method_21_code
def yX8_close : MethodName := ⟨RX8, "close", "(I)V"⟩
abbrev cX8_hasRelation : ByteArray := prog_10_method_22_code
def yX8_hasRelation : MethodName := ⟨RX8, "hasRelation", "()Z"⟩
abbrev cX8_mayNot : ByteArray := prog_10_method_23_code
def yX8_mayNot : MethodName := ⟨RX8, "mayNot", "()Z"⟩
abbrev cX8_asked : ByteArray := prog_10_method_24_code
def yX8_asked : MethodName := ⟨RX8, "asked", "()I"⟩
abbrev cX8_isFull : ByteArray := prog_10_method_25_code
def yX8_isFull : MethodName := ⟨RX8, "isFull", "()Z"⟩
abbrev cX8_countUnit : ByteArray := prog_10_method_26_code
def yX8_countUnit : MethodName := ⟨RX8, "countUnit", "()V"⟩
abbrev cX8_openUp : ByteArray := prog_10_method_27_code
def yX8_openUp : MethodName := ⟨RX8, "openUp", "(I)V"⟩
abbrev cX8_unit : ByteArray := prog_10_method_28_code
def yX8_unit : MethodName := ⟨RX8, "unit", "()V"⟩
abbrev cX8_sign : ByteArray := prog_10_method_29_code
def yX8_sign : MethodName := ⟨RX8, "sign", "()I"⟩
abbrev cX8_hasBracket : ByteArray := prog_10_method_30_code
def yX8_hasBracket : MethodName := ⟨RX8, "hasBracket", "()Z"⟩
abbrev cX8_formula : ByteArray := prog_10_method_31_code
def yX8_formula : MethodName := ⟨RX8, "formula", "()V"⟩
abbrev cX8_truth : ByteArray := prog_10_method_32_code
def yX8_truth : MethodName := ⟨RX8, "truth", "(Z)I"⟩
abbrev cX8_done : ByteArray := prog_10_method_33_code
def yX8_done : MethodName := ⟨RX8, "done", "(III)I"⟩
abbrev cX8_within : ByteArray := prog_10_method_34_code
def yX8_within : MethodName := ⟨RX8, "within", "(III)I"⟩
abbrev cX8_lesser : ByteArray := prog_10_method_35_code
def yX8_lesser : MethodName := ⟨RX8, "lesser", "(II)I"⟩
abbrev cX8_greater : ByteArray := prog_10_method_36_code
def yX8_greater : MethodName := ⟨RX8, "greater", "(II)I"⟩
abbrev cX8_members : ByteArray := prog_10_method_37_code
def yX8_members : MethodName := ⟨RX8, "members", "(I)I"⟩
abbrev cX8_windOf : ByteArray := prog_10_method_38_code
def yX8_windOf : MethodName := ⟨RX8, "windOf", "(IIIII)I"⟩
abbrev cX8_readMember : ByteArray := prog_10_method_39_code
def yX8_readMember : MethodName := ⟨RX8, "readMember", "()V"⟩
abbrev cX8_readClause : ByteArray := prog_10_method_40_code
def yX8_readClause : MethodName := ⟨RX8, "readClause", "()V"⟩
abbrev cX8_readLine : ByteArray := prog_10_method_41_code
def yX8_readLine : MethodName := ⟨RX8, "readLine", "()V"⟩
abbrev cX8_readAll : ByteArray := prog_10_method_42_code
def yX8_readAll : MethodName := ⟨RX8, "readAll", "()V"⟩
abbrev cX8_house : ByteArray := prog_10_method_43_code
def yX8_house : MethodName := ⟨RX8, "house", "()I"⟩
abbrev cX8_fault : ByteArray := prog_10_method_44_code
def yX8_fault : MethodName := ⟨RX8, "fault", "(I)I"⟩
abbrev cX8_isIn : ByteArray := prog_10_method_45_code
def yX8_isIn : MethodName := ⟨RX8, "isIn", "(III)Z"⟩
abbrev cX8_isMember : ByteArray := prog_10_method_46_code
def yX8_isMember : MethodName := ⟨RX8, "isMember", "(I)Z"⟩
abbrev cX8_isClause : ByteArray := prog_10_method_47_code
def yX8_isClause : MethodName := ⟨RX8, "isClause", "(I)Z"⟩
abbrev cX8_fill : ByteArray := prog_10_method_48_code
def yX8_fill : MethodName := ⟨RX8, "fill", "()V"⟩
abbrev cX8_keepAir : ByteArray := prog_10_method_49_code
def yX8_keepAir : MethodName := ⟨RX8, "keepAir", "()V"⟩
abbrev cX8_layTold : ByteArray := prog_10_method_50_code
def yX8_layTold : MethodName := ⟨RX8, "layTold", "()V"⟩
abbrev cX8_isOut : ByteArray := prog_10_method_51_code
def yX8_isOut : MethodName := ⟨RX8, "isOut", "(I)Z"⟩
abbrev cX8_isOutHere : ByteArray := prog_10_method_52_code
def yX8_isOutHere : MethodName := ⟨RX8, "isOutHere", "(I)Z"⟩
abbrev cX8_isRead : ByteArray := prog_10_method_53_code
def yX8_isRead : MethodName := ⟨RX8, "isRead", "(I)Z"⟩
abbrev cX8_isFor : ByteArray := prog_10_method_54_code
def yX8_isFor : MethodName := ⟨RX8, "isFor", "(I)Z"⟩
abbrev cX8_votesOf : ByteArray := prog_10_method_55_code
def yX8_votesOf : MethodName := ⟨RX8, "votesOf", "(I)I"⟩
abbrev cX8_windAll : ByteArray := prog_10_method_56_code
def yX8_windAll : MethodName := ⟨RX8, "windAll", "(II)Z"⟩
abbrev cX8_punAll : ByteArray := prog_10_method_57_code
def yX8_punAll : MethodName := ⟨RX8, "punAll", "()V"⟩
abbrev cX8_readOne : ByteArray := prog_10_method_58_code
def yX8_readOne : MethodName := ⟨RX8, "readOne", "(IIZ)Z"⟩
abbrev cX8_member : ByteArray := prog_10_method_59_code
def yX8_member : MethodName := ⟨RX8, "member", "(II)I"⟩
abbrev cX8_clause : ByteArray := prog_10_method_60_code
def yX8_clause : MethodName := ⟨RX8, "clause", "(II)I"⟩
abbrev cX8_windNow : ByteArray := prog_10_method_61_code
def yX8_windNow : MethodName := ⟨RX8, "windNow", "(III)I"⟩
abbrev cX8_winds : ByteArray := prog_10_method_62_code
def yX8_winds : MethodName := ⟨RX8, "winds", "(IIZ)I"⟩
abbrev cX8_act : ByteArray := prog_10_method_63_code
def yX8_act : MethodName := ⟨RX8, "act", "()V"⟩
abbrev cX8_exchange : ByteArray := prog_10_method_64_code
def yX8_exchange : MethodName := ⟨RX8, "exchange", "(I)V"⟩
abbrev cX8_read : ByteArray := prog_10_method_65_code
def yX8_read : MethodName := ⟨RX8, "read", "(IZ)I"⟩
abbrev cX8_oil : ByteArray := prog_10_method_66_code
def yX8_oil : MethodName := ⟨RX8, "oil", "(I)I"⟩
abbrev cX8_changes : ByteArray := prog_10_method_67_code
def yX8_changes : MethodName := ⟨RX8, "changes", "()V"⟩
abbrev cX8_change : ByteArray := prog_10_method_68_code
def yX8_change : MethodName := ⟨RX8, "change", "()I"⟩
abbrev cX8_undo : ByteArray := prog_10_method_69_code
def yX8_undo : MethodName := ⟨RX8, "undo", "()Z"⟩
abbrev cX8_redo : ByteArray := prog_10_method_70_code
def yX8_redo : MethodName := ⟨RX8, "redo", "()Z"⟩
abbrev cX8_mayRead : ByteArray := prog_10_method_71_code
def yX8_mayRead : MethodName := ⟨RX8, "mayRead", "(I)Z"⟩
abbrev cX8_thinkRead : ByteArray := prog_10_method_72_code
def yX8_thinkRead : MethodName := ⟨RX8, "thinkRead", "(II)Z"⟩
abbrev cX8_carries : ByteArray := prog_10_method_73_code
def yX8_carries : MethodName := ⟨RX8, "carries", "(IZ)I"⟩
abbrev cX8_shots : ByteArray := prog_10_method_74_code
def yX8_shots : MethodName := ⟨RX8, "shots", "(IZ)I"⟩
abbrev cX8_backers : ByteArray := prog_10_method_75_code
def yX8_backers : MethodName := ⟨RX8, "backers", "(IZ)I"⟩
abbrev cX8_will : ByteArray := prog_10_method_76_code
def yX8_will : MethodName := ⟨RX8, "will", "(III)I"⟩
abbrev cX8_carriedBy : ByteArray := prog_10_method_77_code
def yX8_carriedBy : MethodName := ⟨RX8, "carriedBy", "(I)I"⟩
abbrev cX8_allOn : ByteArray := prog_10_method_78_code
def yX8_allOn : MethodName := ⟨RX8, "allOn", "(Z)I"⟩
abbrev cX8_nextRow : ByteArray := prog_10_method_79_code
def yX8_nextRow : MethodName := ⟨RX8, "nextRow", "()Z"⟩
abbrev cX8_exchangeInRow : ByteArray := prog_10_method_80_code
def yX8_exchangeInRow : MethodName := ⟨RX8, "exchangeInRow", "(II)V"⟩
abbrev cX8_agenda : ByteArray := prog_10_method_81_code
def yX8_agenda : MethodName := ⟨RX8, "agenda", "(Z)I"⟩
abbrev cX8_tones : ByteArray := prog_10_method_82_code
def yX8_tones : MethodName := ⟨RX8, "tones", "(I)I"⟩
abbrev cX8_lost : ByteArray := prog_10_method_83_code
def yX8_lost : MethodName := ⟨RX8, "lost", "(Z)I"⟩
abbrev cX8_isEnough : ByteArray := prog_10_method_84_code
def yX8_isEnough : MethodName := ⟨RX8, "isEnough", "(I)Z"⟩
abbrev cX8_tiltsAt : ByteArray := prog_10_method_85_code
def yX8_tiltsAt : MethodName := ⟨RX8, "tiltsAt", "(II)Z"⟩
abbrev cX8_orders : ByteArray := prog_10_method_86_code
def yX8_orders : MethodName := ⟨RX8, "orders", "(I)I"⟩
abbrev cX8_tips : ByteArray := prog_10_method_87_code
def yX8_tips : MethodName := ⟨RX8, "tips", "(I)I"⟩
abbrev cX8_tilts : ByteArray := prog_10_method_88_code
def yX8_tilts : MethodName := ⟨RX8, "tilts", "(I)I"⟩
abbrev cX8_league : ByteArray := prog_10_method_89_code
def yX8_league : MethodName := ⟨RX8, "league", "(II)I"⟩
abbrev cX8_leagues : ByteArray := prog_10_method_90_code
def yX8_leagues : MethodName := ⟨RX8, "leagues", "()I"⟩
abbrev cX8_vetoes : ByteArray := prog_10_method_91_code
def yX8_vetoes : MethodName := ⟨RX8, "vetoes", "()I"⟩
abbrev cX8_areTwoOut : ByteArray := prog_10_method_92_code
def yX8_areTwoOut : MethodName := ⟨RX8, "areTwoOut", "(II)Z"⟩
abbrev cX8_disarm : ByteArray := prog_10_method_93_code
def yX8_disarm : MethodName := ⟨RX8, "disarm", "(III)I"⟩
abbrev cX8_trusted : ByteArray := prog_10_method_94_code
def yX8_trusted : MethodName := ⟨RX8, "trusted", "(III)I"⟩
abbrev cX8_trust : ByteArray := prog_10_method_95_code
def yX8_trust : MethodName := ⟨RX8, "trust", "(II)I"⟩
abbrev cX8_edge : ByteArray := prog_10_method_96_code
def yX8_edge : MethodName := ⟨RX8, "edge", "(IZ)I"⟩
abbrev cX8_usher : ByteArray := prog_10_method_97_code
def yX8_usher : MethodName := ⟨RX8, "usher", "(ZI)I"⟩
abbrev cX8_creakOf : ByteArray := prog_10_method_98_code
def yX8_creakOf : MethodName := ⟨RX8, "creakOf", "(II)I"⟩
abbrev cX8_creak : ByteArray := prog_10_method_99_code
def yX8_creak : MethodName := ⟨RX8, "creak", "(IZ)I"⟩
abbrev cX8_softest : ByteArray := prog_10_method_100_code
def yX8_softest : MethodName := ⟨RX8, "softest", "()I"⟩
abbrev cX8_loudest : ByteArray := prog_10_method_101_code
def yX8_loudest : MethodName := ⟨RX8, "loudest", "()I"⟩
abbrev cX8_over : ByteArray := prog_10_method_102_code
def yX8_over : MethodName := ⟨RX8, "over", "()I"⟩
abbrev cX8_layTills : ByteArray := prog_10_method_103_code
def yX8_layTills : MethodName := ⟨RX8, "layTills", "(II)V"⟩
abbrev cX8_drops : ByteArray := prog_10_method_104_code
def yX8_drops : MethodName := ⟨RX8, "drops", "(IZ)I"⟩
abbrev cX8_swap : ByteArray := prog_10_method_105_code
def yX8_swap : MethodName := ⟨RX8, "swap", "(ZI)I"⟩
abbrev cX8_outs : ByteArray := prog_10_method_106_code
def yX8_outs : MethodName := ⟨RX8, "outs", "()I"⟩
abbrev cX8_tensest : ByteArray := prog_10_method_107_code
def yX8_tensest : MethodName := ⟨RX8, "tensest", "()I"⟩
abbrev cX8_strength : ByteArray := prog_10_method_108_code
def yX8_strength : MethodName := ⟨RX8, "strength", "()I"⟩
abbrev cX8_cross : ByteArray := prog_10_method_109_code
def yX8_cross : MethodName := ⟨RX8, "cross", "()I"⟩
abbrev cX8_law : ByteArray := prog_10_method_110_code
def yX8_law : MethodName := ⟨RX8, "law", "(I)I"⟩
abbrev cX8_until : ByteArray := prog_10_method_111_code
def yX8_until : MethodName := ⟨RX8, "until", "(IIZ)I"⟩
abbrev cX8_power : ByteArray := prog_10_method_112_code
def yX8_power : MethodName := ⟨RX8, "power", "(II)I"⟩
abbrev cX8_divisor : ByteArray := prog_10_method_113_code
def yX8_divisor : MethodName := ⟨RX8, "divisor", "(II)I"⟩
abbrev cX8_odds : ByteArray := prog_10_method_114_code
def yX8_odds : MethodName := ⟨RX8, "odds", "(II)I"⟩
abbrev cX8_lies : ByteArray := prog_10_method_115_code
def yX8_lies : MethodName := ⟨RX8, "lies", "(I)I"⟩
abbrev cX8_isLastOut : ByteArray := prog_10_method_116_code
def yX8_isLastOut : MethodName := ⟨RX8, "isLastOut", "()Z"⟩
abbrev cX8_heard : ByteArray := prog_10_method_117_code
def yX8_heard : MethodName := ⟨RX8, "heard", "(IIZ)I"⟩
abbrev cX8_untell : ByteArray := prog_10_method_118_code
def yX8_untell : MethodName := ⟨RX8, "untell", "(I)Z"⟩
abbrev cX8_later : ByteArray := prog_10_method_119_code
def yX8_later : MethodName := ⟨RX8, "later", "(I)I"⟩
abbrev cX8_fitsMinds : ByteArray := prog_10_method_120_code
def yX8_fitsMinds : MethodName := ⟨RX8, "fitsMinds", "(II)Z"⟩
abbrev cX8_layHad : ByteArray := prog_10_method_121_code
def yX8_layHad : MethodName := ⟨RX8, "layHad", "(I)V"⟩
abbrev cX8_layFits : ByteArray := prog_10_method_122_code
def yX8_layFits : MethodName := ⟨RX8, "layFits", "(I)I"⟩
abbrev cX8_fits : ByteArray := prog_10_method_123_code
def yX8_fits : MethodName := ⟨RX8, "fits", "(I)I"⟩
abbrev cX8_sure : ByteArray := prog_10_method_124_code
def yX8_sure : MethodName := ⟨RX8, "sure", "(II)I"⟩
abbrev cX8_leftBy : ByteArray := prog_10_method_125_code
def yX8_leftBy : MethodName := ⟨RX8, "leftBy", "(I)I"⟩
abbrev cX8_ask : ByteArray := prog_10_method_126_code
def yX8_ask : MethodName := ⟨RX8, "ask", "(II)I"⟩
abbrev cX8_isBox : ByteArray := prog_10_method_127_code
def yX8_isBox : MethodName := ⟨RX8, "isBox", "(I)Z"⟩
abbrev cX8_image : ByteArray := prog_10_method_128_code
def yX8_image : MethodName := ⟨RX8, "image", "(I)I"⟩
abbrev cX8_back : ByteArray := prog_10_method_129_code
def yX8_back : MethodName := ⟨RX8, "back", "(I)I"⟩
abbrev cX8_about : ByteArray := prog_10_method_130_code
def yX8_about : MethodName := ⟨RX8, "about", "(I)I"⟩
def RJx145de : String := "java/io/Serializable"
def RJx9f9b0 : String := "java/lang/CharSequence"
def RJ11 : String := "java/lang/Character"
abbrev cJ11_isValidCodePoint_9a6ad : ByteArray := prog_11_method_11_code
def yJ11_isValidCodePoint_9a6ad : MethodName := ⟨RJ11, "isValidCodePoint", "(I)Z"⟩
abbrev cJ11_highSurrogate_5068e : ByteArray := prog_11_method_28_code
def yJ11_highSurrogate_5068e : MethodName := ⟨RJ11, "highSurrogate", "(I)C"⟩
abbrev cJ11_lowSurrogate_5068e : ByteArray := prog_11_method_29_code
def yJ11_lowSurrogate_5068e : MethodName := ⟨RJ11, "lowSurrogate", "(I)C"⟩
def RJxb160c : String := "java/lang/Comparable"
def RJ6 : String := "java/lang/Integer"
abbrev cJ6_bitCount_0f7a4 : ByteArray := prog_12_method_49_code
def yJ6_bitCount_0f7a4 : MethodName := ⟨RJ6, "bitCount", "(I)I"⟩
def RJ9 : String := "java/lang/Math"
abbrev cJ9_floorMod_7cf53 : ByteArray := prog_13_method_50_code
def yJ9_floorMod_7cf53 : MethodName := ⟨RJ9, "floorMod", "(II)I"⟩
abbrev cJ9_abs_0f7a4 : ByteArray := prog_13_method_59_code
def yJ9_abs_0f7a4 : MethodName := ⟨RJ9, "abs", "(I)I"⟩
abbrev cJ9_max_7cf53 : ByteArray := prog_13_method_65_code
def yJ9_max_7cf53 : MethodName := ⟨RJ9, "max", "(II)I"⟩
abbrev cJ9_min_7cf53 : ByteArray := prog_13_method_69_code
def yJ9_min_7cf53 : MethodName := ⟨RJ9, "min", "(II)I"⟩
def RJ0 : String := "java/lang/String"
abbrev cJ0_length_8abf5 : ByteArray := prog_14_method_54_code
def yJ0_length_8abf5 : MethodName := ⟨RJ0, "length", "()I"⟩
abbrev cJ0_charAt_5068e : ByteArray := prog_14_method_56_code
def yJ0_charAt_5068e : MethodName := ⟨RJ0, "charAt", "(I)C"⟩
abbrev cJ0_indexOf_0f7a4 : ByteArray := prog_14_method_79_code
def yJ0_indexOf_0f7a4 : MethodName := ⟨RJ0, "indexOf", "(I)I"⟩
abbrev cJ0_indexOf_7cf53 : ByteArray := prog_14_method_80_code
def yJ0_indexOf_7cf53 : MethodName := ⟨RJ0, "indexOf", "(II)I"⟩
abbrev cJ0_coder_7d493 : ByteArray := prog_14_method_152_code
def yJ0_coder_7d493 : MethodName := ⟨RJ0, "coder", "()B"⟩
abbrev cJ0_isLatin1_aae02 : ByteArray := prog_14_method_154_code
def yJ0_isLatin1_aae02 : MethodName := ⟨RJ0, "isLatin1", "()Z"⟩
abbrev cJ0_checkIndex_df160 : ByteArray := prog_14_method_155_code
def yJ0_checkIndex_df160 : MethodName := ⟨RJ0, "checkIndex", "(II)V"⟩
abbrev cJ0_checkBoundsBeginEnd_23922 : ByteArray := prog_14_method_158_code
def yJ0_checkBoundsBeginEnd_23922 : MethodName := ⟨RJ0, "checkBoundsBeginEnd", "(III)V"⟩
def RJ1 : String := "java/lang/StringLatin1"
abbrev cJ1_charAt_3b067 : ByteArray := prog_15_method_2_code
def yJ1_charAt_3b067 : MethodName := ⟨RJ1, "charAt", "([BI)C"⟩
abbrev cJ1_canEncode_9a6ad : ByteArray := prog_15_method_4_code
def yJ1_canEncode_9a6ad : MethodName := ⟨RJ1, "canEncode", "(I)Z"⟩
abbrev cJ1_indexOf_4cfef : ByteArray := prog_15_method_22_code
def yJ1_indexOf_4cfef : MethodName := ⟨RJ1, "indexOf", "([BIII)I"⟩
abbrev cJ1_indexOfChar_4cfef : ByteArray := prog_15_method_23_code
def yJ1_indexOfChar_4cfef : MethodName := ⟨RJ1, "indexOfChar", "([BIII)I"⟩
def RJ2 : String := "java/lang/StringUTF16"
abbrev cJ2_getChar_3b067 : ByteArray := prog_16_method_5_code
def yJ2_getChar_3b067 : MethodName := ⟨RJ2, "getChar", "([BI)C"⟩
abbrev cJ2_length_9d52b : ByteArray := prog_16_method_6_code
def yJ2_length_9d52b : MethodName := ⟨RJ2, "length", "([B)I"⟩
abbrev cJ2_indexOf_4cfef : ByteArray := prog_16_method_40_code
def yJ2_indexOf_4cfef : MethodName := ⟨RJ2, "indexOf", "([BIII)I"⟩
abbrev cJ2_indexOfChar_4cfef : ByteArray := prog_16_method_47_code
def yJ2_indexOfChar_4cfef : MethodName := ⟨RJ2, "indexOfChar", "([BIII)I"⟩
abbrev cJ2_indexOfCharUnsafe_4cfef : ByteArray := prog_16_method_48_code
def yJ2_indexOfCharUnsafe_4cfef : MethodName := ⟨RJ2, "indexOfCharUnsafe", "([BIII)I"⟩
abbrev cJ2_indexOfSupplementary_4cfef : ByteArray := prog_16_method_49_code
def yJ2_indexOfSupplementary_4cfef : MethodName := ⟨RJ2, "indexOfSupplementary", "([BIII)I"⟩
abbrev cJ2_charAt_3b067 : ByteArray := prog_16_method_83_code
def yJ2_charAt_3b067 : MethodName := ⟨RJ2, "charAt", "([BI)C"⟩
abbrev cJ2_checkIndex_2214a : ByteArray := prog_16_method_91_code
def yJ2_checkIndex_2214a : MethodName := ⟨RJ2, "checkIndex", "(I[B)V"⟩
abbrev cJ2_checkBoundsBeginEnd_d044e : ByteArray := prog_16_method_93_code
def yJ2_checkBoundsBeginEnd_d044e : MethodName := ⟨RJ2, "checkBoundsBeginEnd", "(II[B)V"⟩
def RJ10 : String := "java/lang/System"
def RJxfd54e : String := "java/lang/constant/Constable"
def RJx3cf43 : String := "java/lang/constant/ConstantDesc"
def RJ7 : String := "java/util/Arrays"
abbrev cJ7_fill_53178 : ByteArray := prog_18_method_103_code
def yJ7_fill_53178 : MethodName := ⟨RJ7, "fill", "([II)V"⟩
def RJ3 : String := "jdk/internal/util/Preconditions"
abbrev cJ3_checkIndex_8e157 : ByteArray := prog_19_method_11_code
def yJ3_checkIndex_8e157 : MethodName := ⟨RJ3, "checkIndex", "(IILjava/util/function/BiFunction;)I"⟩
abbrev cJ3_checkFromToIndex_8c36e : ByteArray := prog_19_method_12_code
def yJ3_checkFromToIndex_8c36e : MethodName := ⟨RJ3, "checkFromToIndex", "(IIILjava/util/function/BiFunction;)I"⟩
def RL : String := "BowHouseLaw"
abbrev cL_law : ByteArray := code
def yL_law : MethodName := ⟨RL, "law", "([I)Z"⟩
abbrev vwCl : List vw_C := [(RX0, TX0, 4), (RX1, TX1, 5), (RX2, TX2, 9), (RX3, TX3, 5), (RX4, TX4, 11), (RX5, TX5, 13), (RX6, TX6, 7), (RX7, TX7, 14), (RX8, TX8, 78)]
end
section
/-! an instruction with its place, length, operands resolved: place, length, instruction, three numbers, a value -/
abbrev zE : Type := Nat × Nat × Instr × Nat × Nat × Nat × Value
end
section
/-! the code, instruction by instruction, links resolved -/
def kJ6_bitCount_0f7a4 : List zE := [(0, 1, .iload_n 0, 0, 0, 0, .null), (1, 1, .iload_n 0, 0, 0, 0, .null), (2, 1, .iconst 1, 0, 0, 0, .int (1)), (3, 1, .iushr, 0, 0, 0, .null), (4, 3, .ldc_w 265, 0, 0, 0, .int (1431655765)), (7, 1, .iand, 0, 0, 0, .null), (8, 1, .isub, 0, 0, 0, .null), (9, 1, .istore_n 0, 0, 0, 0, .null), (10, 1, .iload_n 0, 0, 0, 0, .null), (11, 3, .ldc_w 266, 0, 0, 0, .int (858993459)), (14, 1, .iand, 0, 0, 0, .null), (15, 1, .iload_n 0, 0, 0, 0, .null), (16, 1, .iconst 2, 0, 0, 0, .int (2)), (17, 1, .iushr, 0, 0, 0, .null), (18, 3, .ldc_w 266, 0, 0, 0, .int (858993459)), (21, 1, .iand, 0, 0, 0, .null), (22, 1, .iadd, 0, 0, 0, .null), (23, 1, .istore_n 0, 0, 0, 0, .null), (24, 1, .iload_n 0, 0, 0, 0, .null), (25, 1, .iload_n 0, 0, 0, 0, .null), (26, 1, .iconst 4, 0, 0, 0, .int (4)), (27, 1, .iushr, 0, 0, 0, .null), (28, 1, .iadd, 0, 0, 0, .null), (29, 3, .ldc_w 267, 0, 0, 0, .int (252645135)), (32, 1, .iand, 0, 0, 0, .null), (33, 1, .istore_n 0, 0, 0, 0, .null), (34, 1, .iload_n 0, 0, 0, 0, .null), (35, 1, .iload_n 0, 0, 0, 0, .null), (36, 2, .bipush 8, 0, 0, 0, .int (8)), (38, 1, .iushr, 0, 0, 0, .null), (39, 1, .iadd, 0, 0, 0, .null), (40, 1, .istore_n 0, 0, 0, 0, .null), (41, 1, .iload_n 0, 0, 0, 0, .null), (42, 1, .iload_n 0, 0, 0, 0, .null), (43, 2, .bipush 16, 0, 0, 0, .int (16)), (45, 1, .iushr, 0, 0, 0, .null), (46, 1, .iadd, 0, 0, 0, .null), (47, 1, .istore_n 0, 0, 0, 0, .null), (48, 1, .iload_n 0, 0, 0, 0, .null), (49, 2, .bipush 63, 0, 0, 0, .int (63)), (51, 1, .iand, 0, 0, 0, .null), (52, 1, .ireturn, 0, 0, 0, .null)]
def kJ9_floorMod_7cf53 : List zE := [(0, 1, .iload_n 0, 0, 0, 0, .null), (1, 1, .iload_n 1, 1, 0, 0, .null), (2, 1, .irem, 0, 0, 0, .null), (3, 1, .istore_n 2, 2, 0, 0, .null), (4, 1, .iload_n 0, 0, 0, 0, .null), (5, 1, .iload_n 1, 1, 0, 0, .null), (6, 1, .ixor, 0, 0, 0, .null), (7, 3, .ifCond .ge 11, 18, 0, 0, .null), (10, 1, .iload_n 2, 2, 0, 0, .null), (11, 3, .ifCond .eq 7, 18, 0, 0, .null), (14, 1, .iload_n 2, 2, 0, 0, .null), (15, 1, .iload_n 1, 1, 0, 0, .null), (16, 1, .iadd, 0, 0, 0, .null), (17, 1, .ireturn, 0, 0, 0, .null), (18, 1, .iload_n 2, 2, 0, 0, .null), (19, 1, .ireturn, 0, 0, 0, .null)]
def kJ9_abs_0f7a4 : List zE := [(0, 1, .iload_n 0, 0, 0, 0, .null), (1, 3, .ifCond .ge 8, 9, 0, 0, .null), (4, 1, .iload_n 0, 0, 0, 0, .null), (5, 1, .ineg, 0, 0, 0, .null), (6, 3, .goto 4, 10, 0, 0, .null), (9, 1, .iload_n 0, 0, 0, 0, .null), (10, 1, .ireturn, 0, 0, 0, .null)]
def kJ9_max_7cf53 : List zE := [(0, 1, .iload_n 0, 0, 0, 0, .null), (1, 1, .iload_n 1, 1, 0, 0, .null), (2, 3, .if_icmp .lt 7, 9, 0, 0, .null), (5, 1, .iload_n 0, 0, 0, 0, .null), (6, 3, .goto 4, 10, 0, 0, .null), (9, 1, .iload_n 1, 1, 0, 0, .null), (10, 1, .ireturn, 0, 0, 0, .null)]
def kJ9_min_7cf53 : List zE := [(0, 1, .iload_n 0, 0, 0, 0, .null), (1, 1, .iload_n 1, 1, 0, 0, .null), (2, 3, .if_icmp .gt 7, 9, 0, 0, .null), (5, 1, .iload_n 0, 0, 0, 0, .null), (6, 3, .goto 4, 10, 0, 0, .null), (9, 1, .iload_n 1, 1, 0, 0, .null), (10, 1, .ireturn, 0, 0, 0, .null)]
def kJ7_fill_53178 : List zE := [(0, 1, .iconst 0, 0, 0, 0, .int (0)), (1, 1, .istore_n 2, 2, 0, 0, .null), (2, 1, .aload_n 0, 0, 0, 0, .null), (3, 1, .arraylength, 0, 0, 0, .null), (4, 1, .istore_n 3, 3, 0, 0, .null), (5, 1, .iload_n 2, 2, 0, 0, .null), (6, 1, .iload_n 3, 3, 0, 0, .null), (7, 3, .if_icmp .ge 13, 20, 0, 0, .null), (10, 1, .aload_n 0, 0, 0, 0, .null), (11, 1, .iload_n 2, 2, 0, 0, .null), (12, 1, .iload_n 1, 1, 0, 0, .null), (13, 1, .iastore, 0, 0, 0, .null), (14, 3, .iinc 2 1, 2, 0, 0, .int (1)), (17, 3, .goto (-12), 5, 0, 0, .null), (20, 1, .return_, 0, 0, 0, .null)]
def kJ0_isLatin1_aae02 : List zE := [(0, 3, .getstatic 38, 0, 0, 0, .int (1)), (3, 3, .ifCond .eq 14, 17, 0, 0, .null), (6, 1, .aload_n 0, 0, 0, 0, .null), (7, 3, .getfield 15, 99, 1, 0, .null), (10, 3, .ifCond .ne 7, 17, 0, 0, .null), (13, 1, .iconst 1, 0, 0, 0, .int (1)), (14, 3, .goto 4, 18, 0, 0, .null), (17, 1, .iconst 0, 0, 0, 0, .int (0)), (18, 1, .ireturn, 0, 0, 2, .null)]
def kJ0_coder_7d493 : List zE := [(0, 3, .getstatic 38, 0, 0, 0, .int (1)), (3, 3, .ifCond .eq 10, 13, 0, 0, .null), (6, 1, .aload_n 0, 0, 0, 0, .null), (7, 3, .getfield 15, 99, 1, 0, .null), (10, 3, .goto 4, 14, 0, 0, .null), (13, 1, .iconst 1, 0, 0, 0, .int (1)), (14, 1, .ireturn, 0, 0, 1, .null)]
def kJ0_length_8abf5 : List zE := [(0, 1, .aload_n 0, 0, 0, 0, .null), (1, 3, .getfield 9, 99, 0, 4, .null), (4, 1, .arraylength, 0, 0, 0, .null), (5, 1, .aload_n 0, 0, 0, 0, .null), (6, 3, .invokevirtual 335, 7, 1, 53, .null), (9, 1, .ishr, 0, 0, 0, .null), (10, 1, .ireturn, 0, 0, 0, .null)]
def kJ3_checkIndex_8e157 : List zE := [(0, 1, .iload_n 0, 0, 0, 0, .null), (1, 3, .ifCond .lt 8, 9, 0, 0, .null), (4, 1, .iload_n 0, 0, 0, 0, .null), (5, 1, .iload_n 1, 1, 0, 0, .null), (6, 3, .if_icmp .lt 10, 16, 0, 0, .null), (9, 1, .aload_n 2, 2, 0, 0, .null), (10, 1, .iload_n 0, 0, 0, 0, .null), (11, 1, .iload_n 1, 1, 0, 0, .null), (16, 1, .iload_n 0, 0, 0, 0, .null), (17, 1, .ireturn, 0, 0, 0, .null)]
def kJ0_checkIndex_df160 : List zE := [(0, 1, .iload_n 0, 0, 0, 0, .null), (1, 1, .iload_n 1, 1, 0, 0, .null), (2, 3, .getstatic 1053, 0, 0, 0, .retAddr 7), (5, 3, .invokestatic 1059, 9, 3, 1, .null), (8, 1, .pop, 0, 0, 0, .null), (9, 1, .return_, 0, 0, 0, .null)]
def kJ1_charAt_3b067 : List zE := [(0, 1, .iload_n 1, 1, 0, 0, .null), (1, 1, .aload_n 0, 0, 0, 0, .null), (2, 1, .arraylength, 0, 0, 0, .null), (3, 3, .invokestatic 9, 10, 2, 0, .null), (6, 1, .aload_n 0, 0, 0, 0, .null), (7, 1, .iload_n 1, 1, 0, 0, .null), (8, 1, .baload, 0, 0, 1, .null), (9, 3, .sipush 255, 0, 0, 0, .int (255)), (12, 1, .iand, 0, 0, 0, .null), (13, 1, .i2c, 0, 0, 0, .null), (14, 1, .ireturn, 0, 0, 5, .null)]
def kJ0_charAt_5068e : List zE := [(0, 1, .aload_n 0, 0, 0, 0, .null), (1, 3, .invokevirtual 492, 6, 1, 53, .null), (4, 3, .ifCond .eq 12, 16, 0, 0, .null), (7, 1, .aload_n 0, 0, 0, 0, .null), (8, 3, .getfield 9, 99, 0, 4, .null), (11, 1, .iload_n 1, 1, 0, 0, .null), (12, 3, .invokestatic 495, 11, 2, 1, .null), (15, 1, .ireturn, 0, 0, 5, .null), (16, 1, .aload_n 0, 0, 0, 0, .null), (17, 3, .getfield 9, 99, 0, 4, .null), (20, 1, .iload_n 1, 1, 0, 0, .null), (24, 1, .ireturn, 0, 0, 5, .null)]
def kJ1_canEncode_9a6ad : List zE := [(0, 1, .iload_n 0, 0, 0, 0, .null), (1, 3, .ifCond .lt 14, 15, 0, 0, .null), (4, 1, .iload_n 0, 0, 0, 0, .null), (5, 3, .sipush 255, 0, 0, 0, .int (255)), (8, 3, .if_icmp .gt 7, 15, 0, 0, .null), (11, 1, .iconst 1, 0, 0, 0, .int (1)), (12, 3, .goto 4, 16, 0, 0, .null), (15, 1, .iconst 0, 0, 0, 0, .int (0)), (16, 1, .ireturn, 0, 0, 2, .null)]
def kJ1_indexOfChar_4cfef : List zE := [(0, 1, .iload_n 1, 1, 0, 0, .null), (1, 1, .i2b, 0, 0, 0, .null), (2, 2, .istore 4, 4, 0, 0, .null), (4, 1, .iload_n 2, 2, 0, 0, .null), (5, 2, .istore 5, 5, 0, 0, .null), (7, 2, .iload 5, 5, 0, 0, .null), (9, 1, .iload_n 3, 3, 0, 0, .null), (10, 3, .if_icmp .ge 21, 31, 0, 0, .null), (13, 1, .aload_n 0, 0, 0, 0, .null), (14, 2, .iload 5, 5, 0, 0, .null), (16, 1, .baload, 0, 0, 1, .null), (17, 2, .iload 4, 4, 0, 0, .null), (19, 3, .if_icmp .ne 6, 25, 0, 0, .null), (22, 2, .iload 5, 5, 0, 0, .null), (24, 1, .ireturn, 0, 0, 0, .null), (25, 3, .iinc 5 1, 5, 0, 0, .int (1)), (28, 3, .goto (-21), 7, 0, 0, .null), (31, 1, .iconst (-1), 0, 0, 0, .int (-1)), (32, 1, .ireturn, 0, 0, 0, .null)]
def kJ1_indexOf_4cfef : List zE := [(0, 1, .iload_n 1, 1, 0, 0, .null), (1, 3, .invokestatic 88, 13, 1, 1, .null), (4, 3, .ifCond .ne 5, 9, 0, 0, .null), (7, 1, .iconst (-1), 0, 0, 0, .int (-1)), (8, 1, .ireturn, 0, 0, 0, .null), (9, 1, .iload_n 2, 2, 0, 0, .null), (10, 1, .iconst 0, 0, 0, 0, .int (0)), (11, 3, .invokestatic 92, 3, 2, 1, .null), (14, 1, .istore_n 2, 2, 0, 0, .null), (15, 1, .iload_n 3, 3, 0, 0, .null), (16, 1, .aload_n 0, 0, 0, 0, .null), (17, 1, .arraylength, 0, 0, 0, .null), (18, 3, .invokestatic 38, 4, 2, 1, .null), (21, 1, .istore_n 3, 3, 0, 0, .null), (22, 1, .iload_n 2, 2, 0, 0, .null), (23, 1, .iload_n 3, 3, 0, 0, .null), (24, 3, .if_icmp .lt 5, 29, 0, 0, .null), (27, 1, .iconst (-1), 0, 0, 0, .int (-1)), (28, 1, .ireturn, 0, 0, 0, .null), (29, 1, .aload_n 0, 0, 0, 0, .null), (30, 1, .iload_n 1, 1, 0, 0, .null), (31, 1, .iload_n 2, 2, 0, 0, .null), (32, 1, .iload_n 3, 3, 0, 0, .null), (33, 3, .invokestatic 95, 14, 4, 1, .null), (36, 1, .ireturn, 0, 0, 0, .null)]
def kJ0_indexOf_7cf53 : List zE := [(0, 1, .aload_n 0, 0, 0, 0, .null), (1, 3, .invokevirtual 492, 6, 1, 53, .null), (4, 3, .ifCond .eq 19, 23, 0, 0, .null), (7, 1, .aload_n 0, 0, 0, 0, .null), (8, 3, .getfield 9, 99, 0, 4, .null), (11, 1, .iload_n 1, 1, 0, 0, .null), (12, 1, .iload_n 2, 2, 0, 0, .null), (13, 1, .aload_n 0, 0, 0, 0, .null), (14, 3, .invokevirtual 505, 8, 1, 53, .null), (17, 3, .invokestatic 637, 15, 4, 1, .null), (20, 3, .goto 16, 36, 0, 0, .null), (23, 1, .aload_n 0, 0, 0, 0, .null), (24, 3, .getfield 9, 99, 0, 4, .null), (27, 1, .iload_n 1, 1, 0, 0, .null), (28, 1, .iload_n 2, 2, 0, 0, .null), (29, 1, .aload_n 0, 0, 0, 0, .null), (30, 3, .invokevirtual 505, 8, 1, 53, .null), (36, 1, .ireturn, 0, 0, 0, .null)]
def kJ0_indexOf_0f7a4 : List zE := [(0, 1, .aload_n 0, 0, 0, 0, .null), (1, 1, .iload_n 1, 1, 0, 0, .null), (2, 1, .iconst 0, 0, 0, 0, .int (0)), (3, 3, .invokevirtual 633, 16, 3, 53, .null), (6, 1, .ireturn, 0, 0, 0, .null)]
def kX0_init : List zE := [(0, 1, .aload_n 0, 0, 0, 0, .null), (1, 3, .invokespecial 3, 0, 0, 9, .null), (4, 1, .aload_n 0, 0, 0, 0, .null), (5, 2, .bipush 6, 0, 0, 0, .int (6)), (7, 2, .newarray .int, 0, 0, 0, .null), (9, 3, .putfield 9, 0, 1, 4, .null), (12, 1, .aload_n 0, 0, 0, 0, .null), (13, 2, .bipush 6, 0, 0, 0, .int (6)), (15, 2, .newarray .int, 0, 0, 0, .null), (17, 3, .putfield 15, 0, 2, 4, .null), (20, 1, .aload_n 0, 0, 0, 0, .null), (21, 2, .bipush 7, 0, 0, 0, .int (7)), (23, 3, .anewarray 18, 0, 0, 0, .null), (26, 3, .putfield 20, 0, 3, 4, .null), (29, 1, .iconst 0, 0, 0, 0, .int (0)), (30, 1, .istore_n 1, 1, 0, 0, .null), (31, 1, .iload_n 1, 1, 0, 0, .null), (32, 2, .bipush 6, 0, 0, 0, .int (6)), (34, 3, .if_icmp .gt 22, 56, 0, 0, .null), (37, 1, .aload_n 0, 0, 0, 0, .null), (38, 3, .getfield 20, 0, 3, 4, .null), (41, 1, .iload_n 1, 1, 0, 0, .null), (42, 3, .new 18, 6, 7, 0, .null), (45, 1, .dup, 0, 0, 0, .null), (46, 3, .invokespecial 24, 78, 1, 0, .ref 1000007), (49, 1, .aastore, 0, 0, 0, .null), (50, 3, .iinc 1 1, 1, 0, 0, .int (1)), (53, 3, .goto (-22), 31, 0, 0, .null), (56, 1, .return_, 0, 0, 0, .null)]
def kX0_seek : List zE := [(0, 1, .aload_n 0, 0, 0, 0, .null), (1, 1, .iconst (-1), 0, 0, 0, .int (-1)), (2, 3, .putfield 25, 0, 0, 0, .null), (5, 1, .aload_n 0, 0, 0, 0, .null), (6, 3, .getfield 20, 0, 3, 4, .null), (9, 1, .iconst 0, 0, 0, 0, .int (0)), (10, 1, .aaload, 0, 0, 0, .null), (11, 1, .aload_n 2, 2, 0, 0, .null), (12, 3, .invokevirtual 29, 80, 2, 24, .null), (15, 1, .aload_n 0, 0, 0, 0, .null), (16, 1, .aload_n 1, 1, 0, 0, .null), (17, 1, .iconst 0, 0, 0, 0, .int (0)), (18, 1, .iconst 0, 0, 0, 0, .int (0)), (19, 1, .iload_n 3, 3, 0, 0, .null), (20, 3, .invokevirtual 33, 20, 5, 0, .null), (23, 1, .return_, 0, 0, 0, .null)]
def kX0_goOn : List zE := [(0, 1, .aload_n 0, 0, 0, 0, .null), (1, 3, .getfield 20, 0, 3, 4, .null), (4, 1, .iload_n 2, 2, 0, 0, .null), (5, 1, .aaload, 0, 0, 0, .null), (6, 2, .astore 5, 5, 0, 0, .null), (8, 1, .aload_n 1, 1, 0, 0, .null), (9, 3, .getfield 37, 4, 4, 0, .null), (12, 2, .aload 5, 5, 0, 0, .null), (14, 3, .getfield 42, 6, 2, 0, .null), (17, 3, .invokestatic 45, 0, 1, 1, .null), (20, 1, .isub, 0, 0, 0, .null), (21, 2, .istore 6, 6, 0, 0, .null), (23, 1, .iload_n 3, 3, 0, 0, .null), (24, 2, .iload 6, 6, 0, 0, .null), (26, 1, .iadd, 0, 0, 0, .null), (27, 1, .aload_n 0, 0, 0, 0, .null), (28, 3, .getfield 25, 0, 0, 0, .null), (31, 3, .if_icmp .gt 4, 35, 0, 0, .null), (34, 1, .return_, 0, 0, 0, .null), (35, 2, .iload 6, 6, 0, 0, .null), (37, 3, .ifCond .ne 24, 61, 0, 0, .null), (40, 1, .aload_n 0, 0, 0, 0, .null), (41, 1, .iload_n 3, 3, 0, 0, .null), (42, 3, .putfield 25, 0, 0, 0, .null), (45, 1, .aload_n 0, 0, 0, 0, .null), (46, 3, .getfield 15, 0, 2, 4, .null), (49, 1, .iconst 0, 0, 0, 0, .int (0)), (50, 1, .aload_n 0, 0, 0, 0, .null), (51, 3, .getfield 9, 0, 1, 4, .null), (54, 1, .iconst 0, 0, 0, 0, .int (0)), (55, 2, .bipush 6, 0, 0, 0, .int (6)), (57, 3, .invokestatic 51, 0, 0, 8, .null), (60, 1, .return_, 0, 0, 0, .null), (61, 1, .iconst 0, 0, 0, 0, .int (0)), (62, 2, .istore 7, 7, 0, 0, .null), (64, 2, .iload 7, 7, 0, 0, .null), (66, 1, .aload_n 1, 1, 0, 0, .null), (67, 3, .getfield 37, 4, 4, 0, .null), (70, 3, .if_icmp .ge 87, 157, 0, 0, .null), (73, 1, .iload_n 2, 2, 0, 0, .null), (74, 2, .bipush 6, 0, 0, 0, .int (6)), (76, 3, .if_icmp .ge 81, 157, 0, 0, .null), (79, 2, .aload 5, 5, 0, 0, .null), (81, 3, .getfield 42, 6, 2, 0, .null), (84, 2, .iload 7, 7, 0, 0, .null), (86, 3, .invokestatic 57, 151, 2, 1, .null), (89, 3, .ifCond .ne 62, 151, 0, 0, .null), (92, 1, .aload_n 0, 0, 0, 0, .null), (93, 3, .getfield 20, 0, 3, 4, .null), (96, 1, .iload_n 2, 2, 0, 0, .null), (97, 1, .iconst 1, 0, 0, 0, .int (1)), (98, 1, .iadd, 0, 0, 0, .null), (99, 1, .aaload, 0, 0, 0, .null), (100, 2, .astore 8, 8, 0, 0, .null), (102, 2, .aload 8, 8, 0, 0, .null), (104, 2, .aload 5, 5, 0, 0, .null), (106, 3, .invokevirtual 29, 80, 2, 24, .null), (109, 1, .aload_n 0, 0, 0, 0, .null), (110, 3, .getfield 15, 0, 2, 4, .null), (113, 1, .iload_n 2, 2, 0, 0, .null), (114, 2, .iload 7, 7, 0, 0, .null), (116, 1, .iastore, 0, 0, 0, .null), (117, 2, .aload 8, 8, 0, 0, .null), (119, 1, .aload_n 1, 1, 0, 0, .null), (120, 2, .iload 7, 7, 0, 0, .null), (122, 2, .iload 4, 4, 0, 0, .null), (124, 3, .invokevirtual 61, 81, 4, 25, .null), (127, 3, .ifCond .eq 7, 134, 0, 0, .null), (130, 1, .iconst 1, 0, 0, 0, .int (1)), (131, 3, .goto 4, 135, 0, 0, .null), (134, 1, .iconst 0, 0, 0, 0, .int (0)), (135, 2, .istore 9, 9, 0, 0, .null), (137, 1, .aload_n 0, 0, 0, 0, .null), (138, 1, .aload_n 1, 1, 0, 0, .null), (139, 1, .iload_n 2, 2, 0, 0, .null), (140, 1, .iconst 1, 0, 0, 0, .int (1)), (141, 1, .iadd, 0, 0, 0, .null), (142, 1, .iload_n 3, 3, 0, 0, .null), (143, 2, .iload 9, 9, 0, 0, .null), (145, 1, .iadd, 0, 0, 0, .null), (146, 2, .iload 4, 4, 0, 0, .null), (148, 3, .invokevirtual 33, 20, 5, 0, .null), (151, 3, .iinc 7 1, 7, 0, 0, .int (1)), (154, 3, .goto (-90), 64, 0, 0, .null), (157, 1, .return_, 0, 0, 0, .null)]
def kX1_init : List zE := [(0, 1, .aload_n 0, 0, 0, 0, .null), (1, 3, .invokespecial 3, 0, 0, 9, .null), (4, 1, .aload_n 0, 0, 0, 0, .null), (5, 2, .bipush 6, 0, 0, 0, .int (6)), (7, 2, .newarray .int, 0, 0, 0, .null), (9, 3, .putfield 9, 1, 2, 4, .null), (12, 1, .aload_n 0, 0, 0, 0, .null), (13, 3, .sipush 270, 0, 0, 0, .int (270)), (16, 2, .newarray .int, 0, 0, 0, .null), (18, 3, .putfield 15, 1, 3, 4, .null), (21, 1, .aload_n 0, 0, 0, 0, .null), (22, 2, .bipush 30, 0, 0, 0, .int (30)), (24, 2, .newarray .int, 0, 0, 0, .null), (26, 3, .putfield 18, 1, 4, 4, .null), (29, 1, .return_, 0, 0, 0, .null)]
def kX1_clear : List zE := [(0, 1, .aload_n 0, 0, 0, 0, .null), (1, 1, .iconst 0, 0, 0, 0, .int (0)), (2, 3, .putfield 21, 1, 0, 0, .null), (5, 1, .aload_n 0, 0, 0, 0, .null), (6, 1, .iconst 0, 0, 0, 0, .int (0)), (7, 3, .putfield 25, 1, 1, 0, .null), (10, 1, .return_, 0, 0, 0, .null)]
def kX1_addStep : List zE := [(0, 1, .aload_n 0, 0, 0, 0, .null), (1, 3, .getfield 21, 1, 0, 0, .null), (4, 3, .sipush 270, 0, 0, 0, .int (270)), (7, 3, .if_icmp .ge 23, 30, 0, 0, .null), (10, 1, .aload_n 0, 0, 0, 0, .null), (11, 3, .getfield 15, 1, 3, 4, .null), (14, 1, .aload_n 0, 0, 0, 0, .null), (15, 3, .getfield 21, 1, 0, 0, .null), (18, 1, .iload_n 1, 1, 0, 0, .null), (19, 1, .iastore, 0, 0, 0, .null), (20, 1, .aload_n 0, 0, 0, 0, .null), (21, 1, .dup, 0, 0, 0, .null), (22, 3, .getfield 21, 1, 0, 0, .null), (25, 1, .iconst 1, 0, 0, 0, .int (1)), (26, 1, .iadd, 0, 0, 0, .null), (27, 3, .putfield 21, 1, 0, 0, .null), (30, 1, .return_, 0, 0, 0, .null)]
def kX1_value : List zE := [(0, 1, .iconst 0, 0, 0, 0, .int (0)), (1, 1, .istore_n 1, 1, 0, 0, .null), (2, 1, .iconst 0, 0, 0, 0, .int (0)), (3, 1, .istore_n 2, 2, 0, 0, .null), (4, 1, .iload_n 2, 2, 0, 0, .null), (5, 1, .aload_n 0, 0, 0, 0, .null), (6, 3, .getfield 21, 1, 0, 0, .null), (9, 3, .if_icmp .ge 159, 168, 0, 0, .null), (12, 1, .aload_n 0, 0, 0, 0, .null), (13, 3, .getfield 15, 1, 3, 4, .null), (16, 1, .iload_n 2, 2, 0, 0, .null), (17, 1, .iaload, 0, 0, 0, .null), (18, 1, .istore_n 3, 3, 0, 0, .null), (19, 1, .iload_n 3, 3, 0, 0, .null), (20, 1, .ineg, 0, 0, 0, .null), (21, 2, .istore 4, 4, 0, 0, .null), (23, 1, .iload_n 3, 3, 0, 0, .null), (24, 3, .ifCond .lt 22, 46, 0, 0, .null), (27, 1, .iload_n 1, 1, 0, 0, .null), (28, 2, .bipush 30, 0, 0, 0, .int (30)), (30, 3, .if_icmp .ge 16, 46, 0, 0, .null), (33, 1, .aload_n 0, 0, 0, 0, .null), (34, 3, .getfield 18, 1, 4, 4, .null), (37, 1, .iload_n 1, 1, 0, 0, .null), (38, 1, .iload_n 3, 3, 0, 0, .null), (39, 1, .iastore, 0, 0, 0, .null), (40, 3, .iinc 1 1, 1, 0, 0, .int (1)), (43, 3, .goto 119, 162, 0, 0, .null), (46, 2, .iload 4, 4, 0, 0, .null), (48, 2, .bipush 112, 0, 0, 0, .int (112)), (50, 3, .if_icmp .lt 38, 88, 0, 0, .null), (53, 2, .iload 4, 4, 0, 0, .null), (55, 2, .bipush 117, 0, 0, 0, .int (117)), (57, 3, .if_icmp .gt 31, 88, 0, 0, .null), (60, 1, .iload_n 1, 1, 0, 0, .null), (61, 2, .bipush 30, 0, 0, 0, .int (30)), (63, 3, .if_icmp .ge 25, 88, 0, 0, .null), (66, 1, .aload_n 0, 0, 0, 0, .null), (67, 3, .getfield 18, 1, 4, 4, .null), (70, 1, .iload_n 1, 1, 0, 0, .null), (71, 1, .aload_n 0, 0, 0, 0, .null), (72, 3, .getfield 9, 1, 2, 4, .null), (75, 2, .iload 4, 4, 0, 0, .null), (77, 2, .bipush 112, 0, 0, 0, .int (112)), (79, 1, .isub, 0, 0, 0, .null), (80, 1, .iaload, 0, 0, 0, .null), (81, 1, .iastore, 0, 0, 0, .null), (82, 3, .iinc 1 1, 1, 0, 0, .int (1)), (85, 3, .goto 77, 162, 0, 0, .null), (88, 2, .iload 4, 4, 0, 0, .null), (90, 2, .bipush 111, 0, 0, 0, .int (111)), (92, 3, .if_icmp .ne 35, 127, 0, 0, .null), (95, 1, .iload_n 1, 1, 0, 0, .null), (96, 1, .iconst 1, 0, 0, 0, .int (1)), (97, 3, .if_icmp .lt 30, 127, 0, 0, .null), (100, 1, .aload_n 0, 0, 0, 0, .null), (101, 3, .getfield 18, 1, 4, 4, .null), (104, 1, .iload_n 1, 1, 0, 0, .null), (105, 1, .iconst 1, 0, 0, 0, .int (1)), (106, 1, .isub, 0, 0, 0, .null), (107, 1, .aload_n 0, 0, 0, 0, .null), (108, 3, .getfield 18, 1, 4, 4, .null), (111, 1, .iload_n 1, 1, 0, 0, .null), (112, 1, .iconst 1, 0, 0, 0, .int (1)), (113, 1, .isub, 0, 0, 0, .null), (114, 1, .iaload, 0, 0, 0, .null), (115, 3, .ifCond .ne 7, 122, 0, 0, .null), (118, 1, .iconst 1, 0, 0, 0, .int (1)), (119, 3, .goto 4, 123, 0, 0, .null), (122, 1, .iconst 0, 0, 0, 0, .int (0)), (123, 1, .iastore, 0, 0, 0, .null), (124, 3, .goto 38, 162, 0, 0, .null), (127, 1, .iload_n 1, 1, 0, 0, .null), (128, 1, .iconst 2, 0, 0, 0, .int (2)), (129, 3, .if_icmp .lt 33, 162, 0, 0, .null), (132, 3, .iinc 1 (-1), 1, 0, 0, .int (-1)), (135, 1, .aload_n 0, 0, 0, 0, .null), (136, 3, .getfield 18, 1, 4, 4, .null), (139, 1, .iload_n 1, 1, 0, 0, .null), (140, 1, .iconst 1, 0, 0, 0, .int (1)), (141, 1, .isub, 0, 0, 0, .null), (142, 2, .iload 4, 4, 0, 0, .null), (144, 1, .aload_n 0, 0, 0, 0, .null), (145, 3, .getfield 18, 1, 4, 4, .null), (148, 1, .iload_n 1, 1, 0, 0, .null), (149, 1, .iconst 1, 0, 0, 0, .int (1)), (150, 1, .isub, 0, 0, 0, .null), (151, 1, .iaload, 0, 0, 0, .null), (152, 1, .aload_n 0, 0, 0, 0, .null), (153, 3, .getfield 18, 1, 4, 4, .null), (156, 1, .iload_n 1, 1, 0, 0, .null), (157, 1, .iaload, 0, 0, 0, .null), (158, 3, .invokestatic 28, 25, 3, 1, .null), (161, 1, .iastore, 0, 0, 0, .null), (162, 3, .iinc 2 1, 2, 0, 0, .int (1)), (165, 3, .goto (-161), 4, 0, 0, .null), (168, 1, .aload_n 0, 0, 0, 0, .null), (169, 3, .getfield 18, 1, 4, 4, .null), (172, 1, .iconst 0, 0, 0, 0, .int (0)), (173, 1, .iaload, 0, 0, 0, .null), (174, 1, .ireturn, 0, 0, 0, .null)]
def kX1_joined : List zE := [(0, 1, .iload_n 0, 0, 0, 0, .null), (1, 91, .lookupswitch 188 #[(37, 176), (42, 160), (43, 152), (45, 156), (47, 164), (60, 119), (61, 141), (62, 130), (109, 91), (110, 105)], 0, 0, 0, .null), (92, 1, .iload_n 1, 1, 0, 0, .null), (93, 3, .ifCond .ne 7, 100, 0, 0, .null), (96, 1, .iload_n 2, 2, 0, 0, .null), (97, 3, .ifCond .eq 7, 104, 0, 0, .null), (100, 1, .iconst 1, 0, 0, 0, .int (1)), (101, 3, .goto 4, 105, 0, 0, .null), (104, 1, .iconst 0, 0, 0, 0, .int (0)), (105, 1, .ireturn, 0, 0, 0, .null), (106, 1, .iload_n 1, 1, 0, 0, .null), (107, 3, .ifCond .eq 11, 118, 0, 0, .null), (110, 1, .iload_n 2, 2, 0, 0, .null), (111, 3, .ifCond .eq 7, 118, 0, 0, .null), (114, 1, .iconst 1, 0, 0, 0, .int (1)), (115, 3, .goto 4, 119, 0, 0, .null), (118, 1, .iconst 0, 0, 0, 0, .int (0)), (119, 1, .ireturn, 0, 0, 0, .null), (120, 1, .iload_n 1, 1, 0, 0, .null), (121, 1, .iload_n 2, 2, 0, 0, .null), (122, 3, .if_icmp .ge 7, 129, 0, 0, .null), (125, 1, .iconst 1, 0, 0, 0, .int (1)), (126, 3, .goto 4, 130, 0, 0, .null), (129, 1, .iconst 0, 0, 0, 0, .int (0)), (130, 1, .ireturn, 0, 0, 0, .null), (131, 1, .iload_n 1, 1, 0, 0, .null), (132, 1, .iload_n 2, 2, 0, 0, .null), (133, 3, .if_icmp .le 7, 140, 0, 0, .null), (136, 1, .iconst 1, 0, 0, 0, .int (1)), (137, 3, .goto 4, 141, 0, 0, .null), (140, 1, .iconst 0, 0, 0, 0, .int (0)), (141, 1, .ireturn, 0, 0, 0, .null), (142, 1, .iload_n 1, 1, 0, 0, .null), (143, 1, .iload_n 2, 2, 0, 0, .null), (144, 3, .if_icmp .ne 7, 151, 0, 0, .null), (147, 1, .iconst 1, 0, 0, 0, .int (1)), (148, 3, .goto 4, 152, 0, 0, .null), (151, 1, .iconst 0, 0, 0, 0, .int (0)), (152, 1, .ireturn, 0, 0, 0, .null), (153, 1, .iload_n 1, 1, 0, 0, .null), (154, 1, .iload_n 2, 2, 0, 0, .null), (155, 1, .iadd, 0, 0, 0, .null), (156, 1, .ireturn, 0, 0, 0, .null), (157, 1, .iload_n 1, 1, 0, 0, .null), (158, 1, .iload_n 2, 2, 0, 0, .null), (159, 1, .isub, 0, 0, 0, .null), (160, 1, .ireturn, 0, 0, 0, .null), (161, 1, .iload_n 1, 1, 0, 0, .null), (162, 1, .iload_n 2, 2, 0, 0, .null), (163, 1, .imul, 0, 0, 0, .null), (164, 1, .ireturn, 0, 0, 0, .null), (165, 1, .iload_n 2, 2, 0, 0, .null), (166, 3, .ifCond .ne 7, 173, 0, 0, .null), (169, 1, .iconst 0, 0, 0, 0, .int (0)), (170, 3, .goto 6, 176, 0, 0, .null), (173, 1, .iload_n 1, 1, 0, 0, .null), (174, 1, .iload_n 2, 2, 0, 0, .null), (175, 1, .idiv, 0, 0, 0, .null), (176, 1, .ireturn, 0, 0, 0, .null), (177, 1, .iload_n 2, 2, 0, 0, .null), (178, 3, .ifCond .ne 7, 185, 0, 0, .null), (181, 1, .iconst 0, 0, 0, 0, .int (0)), (182, 3, .goto 6, 188, 0, 0, .null), (185, 1, .iload_n 1, 1, 0, 0, .null), (186, 1, .iload_n 2, 2, 0, 0, .null), (187, 1, .irem, 0, 0, 0, .null), (188, 1, .ireturn, 0, 0, 0, .null), (189, 1, .iconst 0, 0, 0, 0, .int (0)), (190, 1, .ireturn, 0, 0, 0, .null)]
def kX2_init : List zE := [(0, 1, .aload_n 0, 0, 0, 0, .null), (1, 3, .invokespecial 3, 0, 0, 9, .null), (4, 1, .aload_n 0, 0, 0, 0, .null), (5, 2, .bipush 30, 0, 0, 0, .int (30)), (7, 2, .newarray .int, 0, 0, 0, .null), (9, 3, .putfield 9, 2, 3, 4, .null), (12, 1, .aload_n 0, 0, 0, 0, .null), (13, 2, .bipush 30, 0, 0, 0, .int (30)), (15, 2, .newarray .int, 0, 0, 0, .null), (17, 3, .putfield 15, 2, 4, 4, .null), (20, 1, .aload_n 0, 0, 0, 0, .null), (21, 2, .bipush 30, 0, 0, 0, .int (30)), (23, 2, .newarray .boolean, 2, 0, 0, .null), (25, 3, .putfield 18, 2, 5, 4, .null), (28, 1, .aload_n 0, 0, 0, 0, .null), (29, 2, .bipush 30, 0, 0, 0, .int (30)), (31, 2, .newarray .int, 0, 0, 0, .null), (33, 3, .putfield 22, 2, 6, 4, .null), (36, 1, .aload_n 0, 0, 0, 0, .null), (37, 2, .bipush 30, 0, 0, 0, .int (30)), (39, 2, .newarray .int, 0, 0, 0, .null), (41, 3, .putfield 25, 2, 7, 4, .null), (44, 1, .aload_n 0, 0, 0, 0, .null), (45, 3, .sipush 147, 0, 0, 0, .int (147)), (48, 2, .newarray .int, 0, 0, 0, .null), (50, 3, .putfield 28, 2, 8, 4, .null), (53, 1, .return_, 0, 0, 0, .null)]
def kX2_restart : List zE := [(0, 1, .aload_n 0, 0, 0, 0, .null), (1, 1, .iconst 0, 0, 0, 0, .int (0)), (2, 3, .putfield 31, 2, 0, 0, .null), (5, 1, .aload_n 1, 1, 0, 0, .null), (6, 3, .getfield 35, 4, 0, 0, .null), (9, 1, .iconst 1, 0, 0, 0, .int (1)), (10, 1, .isub, 0, 0, 0, .null), (11, 1, .istore_n 2, 2, 0, 0, .null), (12, 1, .aload_n 0, 0, 0, 0, .null), (13, 1, .iload_n 2, 2, 0, 0, .null), (14, 3, .ifCond .lt 18, 32, 0, 0, .null), (17, 1, .aload_n 1, 1, 0, 0, .null), (18, 3, .getfield 40, 4, 1, 0, .null), (21, 1, .iload_n 2, 2, 0, 0, .null), (22, 3, .invokestatic 43, 151, 2, 1, .null), (25, 3, .ifCond .eq 7, 32, 0, 0, .null), (28, 1, .iconst 1, 0, 0, 0, .int (1)), (29, 3, .goto 4, 33, 0, 0, .null), (32, 1, .iconst 0, 0, 0, 0, .int (0)), (33, 3, .putfield 47, 2, 2, 2, .null), (36, 1, .iconst 0, 0, 0, 0, .int (0)), (37, 1, .istore_n 3, 3, 0, 0, .null), (38, 1, .iload_n 3, 3, 0, 0, .null), (39, 2, .bipush 20, 0, 0, 0, .int (20)), (41, 3, .if_icmp .gt 23, 64, 0, 0, .null), (44, 1, .aload_n 0, 0, 0, 0, .null), (45, 3, .getfield 47, 2, 2, 2, .null), (48, 3, .ifCond .eq 16, 64, 0, 0, .null), (51, 1, .aload_n 0, 0, 0, 0, .null), (52, 1, .aload_n 1, 1, 0, 0, .null), (53, 1, .iload_n 2, 2, 0, 0, .null), (54, 1, .iload_n 3, 3, 0, 0, .null), (55, 3, .invokevirtual 51, 28, 4, 8, .null), (58, 3, .iinc 3 1, 3, 0, 0, .int (1)), (61, 3, .goto (-23), 38, 0, 0, .null), (64, 1, .return_, 0, 0, 0, .null)]
def kX2_track : List zE := [(0, 1, .iconst 0, 0, 0, 0, .int (0)), (1, 2, .istore 4, 4, 0, 0, .null), (3, 1, .iconst 0, 0, 0, 0, .int (0)), (4, 2, .istore 5, 5, 0, 0, .null), (6, 2, .iload 5, 5, 0, 0, .null), (8, 2, .bipush 7, 0, 0, 0, .int (7)), (10, 3, .if_icmp .ge 79, 89, 0, 0, .null), (13, 1, .aload_n 0, 0, 0, 0, .null), (14, 3, .getfield 28, 2, 8, 4, .null), (17, 1, .iload_n 3, 3, 0, 0, .null), (18, 2, .bipush 7, 0, 0, 0, .int (7)), (20, 1, .imul, 0, 0, 0, .null), (21, 2, .iload 5, 5, 0, 0, .null), (23, 1, .iadd, 0, 0, 0, .null), (24, 2, .iload 4, 4, 0, 0, .null), (26, 1, .iastore, 0, 0, 0, .null), (27, 2, .iload 5, 5, 0, 0, .null), (29, 1, .aload_n 1, 1, 0, 0, .null), (30, 3, .getfield 55, 4, 4, 0, .null), (33, 3, .if_icmp .ge 50, 83, 0, 0, .null), (36, 2, .iload 5, 5, 0, 0, .null), (38, 2, .bipush 6, 0, 0, 0, .int (6)), (40, 3, .if_icmp .ge 43, 83, 0, 0, .null), (43, 2, .iload 4, 4, 0, 0, .null), (45, 1, .aload_n 1, 1, 0, 0, .null), (46, 1, .iload_n 2, 2, 0, 0, .null), (47, 1, .aload_n 1, 1, 0, 0, .null), (48, 3, .getfield 58, 4, 5, 4, .null), (51, 2, .iload 5, 5, 0, 0, .null), (53, 1, .iaload, 0, 0, 0, .null), (54, 1, .iload_n 3, 3, 0, 0, .null), (55, 2, .iload 4, 4, 0, 0, .null), (57, 1, .iconst 0, 0, 0, 0, .int (0)), (58, 2, .iload 5, 5, 0, 0, .null), (60, 3, .invokevirtual 61, 47, 7, 17, .null), (63, 1, .iadd, 0, 0, 0, .null), (64, 2, .istore 4, 4, 0, 0, .null), (66, 2, .iload 4, 4, 0, 0, .null), (68, 1, .aload_n 1, 1, 0, 0, .null), (69, 3, .getfield 65, 4, 6, 0, .null), (72, 3, .if_icmp .lt 7, 79, 0, 0, .null), (75, 1, .iconst 0, 0, 0, 0, .int (0)), (76, 3, .goto 5, 81, 0, 0, .null), (79, 2, .iload 4, 4, 0, 0, .null), (81, 2, .istore 4, 4, 0, 0, .null), (83, 3, .iinc 5 1, 5, 0, 0, .int (1)), (86, 3, .goto (-80), 6, 0, 0, .null), (89, 1, .return_, 0, 0, 0, .null)]
def kX2_tell : List zE := [(0, 1, .iload_n 1, 1, 0, 0, .null), (1, 3, .ifCond .lt 23, 24, 0, 0, .null), (4, 1, .iload_n 1, 1, 0, 0, .null), (5, 2, .bipush 6, 0, 0, 0, .int (6)), (7, 3, .if_icmp .gt 17, 24, 0, 0, .null), (10, 1, .iload_n 2, 2, 0, 0, .null), (11, 3, .ifCond .lt 13, 24, 0, 0, .null), (14, 1, .iload_n 2, 2, 0, 0, .null), (15, 2, .bipush 99, 0, 0, 0, .int (99)), (17, 3, .if_icmp .gt 7, 24, 0, 0, .null), (20, 1, .iconst 1, 0, 0, 0, .int (1)), (21, 3, .goto 4, 25, 0, 0, .null), (24, 1, .iconst 0, 0, 0, 0, .int (0)), (25, 2, .istore 4, 4, 0, 0, .null), (27, 1, .aload_n 0, 0, 0, 0, .null), (28, 3, .getfield 47, 2, 2, 2, .null), (31, 3, .ifCond .eq 17, 48, 0, 0, .null), (34, 2, .iload 4, 4, 0, 0, .null), (36, 3, .ifCond .eq 12, 48, 0, 0, .null), (39, 1, .aload_n 0, 0, 0, 0, .null), (40, 3, .getfield 31, 2, 0, 0, .null), (43, 2, .bipush 30, 0, 0, 0, .int (30)), (45, 3, .if_icmp .lt 5, 50, 0, 0, .null), (48, 1, .iconst (-1), 0, 0, 0, .int (-1)), (49, 1, .ireturn, 0, 0, 0, .null), (50, 1, .aload_n 0, 0, 0, 0, .null), (51, 3, .getfield 9, 2, 3, 4, .null), (54, 1, .aload_n 0, 0, 0, 0, .null), (55, 3, .getfield 31, 2, 0, 0, .null), (58, 1, .iload_n 1, 1, 0, 0, .null), (59, 1, .iastore, 0, 0, 0, .null), (60, 1, .aload_n 0, 0, 0, 0, .null), (61, 3, .getfield 15, 2, 4, 4, .null), (64, 1, .aload_n 0, 0, 0, 0, .null), (65, 3, .getfield 31, 2, 0, 0, .null), (68, 1, .iload_n 2, 2, 0, 0, .null), (69, 1, .iastore, 0, 0, 0, .null), (70, 1, .aload_n 0, 0, 0, 0, .null), (71, 3, .getfield 18, 2, 5, 4, .null), (74, 1, .aload_n 0, 0, 0, 0, .null), (75, 3, .getfield 31, 2, 0, 0, .null), (78, 1, .iload_n 3, 3, 0, 0, .null), (79, 1, .bastore, 0, 0, 2, .null), (80, 1, .aload_n 0, 0, 0, 0, .null), (81, 3, .getfield 22, 2, 6, 4, .null), (84, 1, .aload_n 0, 0, 0, 0, .null), (85, 3, .getfield 31, 2, 0, 0, .null), (88, 1, .aload_n 0, 0, 0, 0, .null), (89, 3, .getfield 68, 2, 1, 0, .null), (92, 1, .iastore, 0, 0, 0, .null), (93, 1, .aload_n 0, 0, 0, 0, .null), (94, 3, .getfield 25, 2, 7, 4, .null), (97, 1, .aload_n 0, 0, 0, 0, .null), (98, 3, .getfield 31, 2, 0, 0, .null), (101, 2, .ldc 71, 0, 0, 0, .int (100001)), (103, 1, .iastore, 0, 0, 0, .null), (104, 1, .aload_n 0, 0, 0, 0, .null), (105, 1, .dup, 0, 0, 0, .null), (106, 3, .getfield 31, 2, 0, 0, .null), (109, 1, .iconst 1, 0, 0, 0, .int (1)), (110, 1, .iadd, 0, 0, 0, .null), (111, 3, .putfield 31, 2, 0, 0, .null), (114, 1, .aload_n 0, 0, 0, 0, .null), (115, 3, .getfield 31, 2, 0, 0, .null), (118, 1, .iconst 1, 0, 0, 0, .int (1)), (119, 1, .isub, 0, 0, 0, .null), (120, 1, .ireturn, 0, 0, 0, .null)]
def kX2_takeBack : List zE := [(0, 1, .iload_n 1, 1, 0, 0, .null), (1, 3, .ifCond .lt 22, 23, 0, 0, .null), (4, 1, .iload_n 1, 1, 0, 0, .null), (5, 1, .aload_n 0, 0, 0, 0, .null), (6, 3, .getfield 31, 2, 0, 0, .null), (9, 3, .if_icmp .ge 14, 23, 0, 0, .null), (12, 1, .aload_n 0, 0, 0, 0, .null), (13, 3, .getfield 25, 2, 7, 4, .null), (16, 1, .iload_n 1, 1, 0, 0, .null), (17, 1, .iaload, 0, 0, 0, .null), (18, 2, .ldc 71, 0, 0, 0, .int (100001)), (20, 3, .if_icmp .eq 5, 25, 0, 0, .null), (23, 1, .iconst 0, 0, 0, 0, .int (0)), (24, 1, .ireturn, 0, 0, 2, .null), (25, 1, .aload_n 0, 0, 0, 0, .null), (26, 3, .getfield 25, 2, 7, 4, .null), (29, 1, .iload_n 1, 1, 0, 0, .null), (30, 1, .aload_n 0, 0, 0, 0, .null), (31, 3, .getfield 68, 2, 1, 0, .null), (34, 1, .iastore, 0, 0, 0, .null), (35, 1, .iconst 1, 0, 0, 0, .int (1)), (36, 1, .ireturn, 0, 0, 2, .null)]
def kX2_fitting : List zE := [(0, 1, .iconst 0, 0, 0, 0, .int (0)), (1, 1, .istore_n 2, 2, 0, 0, .null), (2, 1, .iconst 0, 0, 0, 0, .int (0)), (3, 1, .istore_n 3, 3, 0, 0, .null), (4, 1, .iload_n 3, 3, 0, 0, .null), (5, 2, .bipush 20, 0, 0, 0, .int (20)), (7, 3, .if_icmp .gt 31, 38, 0, 0, .null), (10, 1, .aload_n 0, 0, 0, 0, .null), (11, 3, .getfield 47, 2, 2, 2, .null), (14, 3, .ifCond .eq 24, 38, 0, 0, .null), (17, 1, .aload_n 0, 0, 0, 0, .null), (18, 1, .iload_n 3, 3, 0, 0, .null), (19, 1, .iload_n 1, 1, 0, 0, .null), (20, 3, .invokevirtual 72, 32, 3, 9, .null), (23, 3, .ifCond .eq 9, 32, 0, 0, .null), (26, 1, .iload_n 2, 2, 0, 0, .null), (27, 1, .iconst 1, 0, 0, 0, .int (1)), (28, 1, .iload_n 3, 3, 0, 0, .null), (29, 1, .ishl, 0, 0, 0, .null), (30, 1, .ior, 0, 0, 0, .null), (31, 1, .istore_n 2, 2, 0, 0, .null), (32, 3, .iinc 3 1, 3, 0, 0, .int (1)), (35, 3, .goto (-31), 4, 0, 0, .null), (38, 1, .iload_n 2, 2, 0, 0, .null), (39, 1, .ireturn, 0, 0, 0, .null)]
def kX2_isBorneOut : List zE := [(0, 1, .iconst 0, 0, 0, 0, .int (0)), (1, 1, .istore_n 3, 3, 0, 0, .null), (2, 1, .iload_n 3, 3, 0, 0, .null), (3, 1, .aload_n 0, 0, 0, 0, .null), (4, 3, .getfield 31, 2, 0, 0, .null), (7, 3, .if_icmp .ge 97, 104, 0, 0, .null), (10, 1, .aload_n 0, 0, 0, 0, .null), (11, 3, .getfield 22, 2, 6, 4, .null), (14, 1, .iload_n 3, 3, 0, 0, .null), (15, 1, .iaload, 0, 0, 0, .null), (16, 1, .iload_n 2, 2, 0, 0, .null), (17, 3, .if_icmp .gt 28, 45, 0, 0, .null), (20, 1, .aload_n 0, 0, 0, 0, .null), (21, 3, .getfield 25, 2, 7, 4, .null), (24, 1, .iload_n 3, 3, 0, 0, .null), (25, 1, .iaload, 0, 0, 0, .null), (26, 2, .ldc 71, 0, 0, 0, .int (100001)), (28, 3, .if_icmp .eq 13, 41, 0, 0, .null), (31, 1, .aload_n 0, 0, 0, 0, .null), (32, 3, .getfield 25, 2, 7, 4, .null), (35, 1, .iload_n 3, 3, 0, 0, .null), (36, 1, .iaload, 0, 0, 0, .null), (37, 1, .iload_n 2, 2, 0, 0, .null), (38, 3, .if_icmp .le 7, 45, 0, 0, .null), (41, 1, .iconst 1, 0, 0, 0, .int (1)), (42, 3, .goto 4, 46, 0, 0, .null), (45, 1, .iconst 0, 0, 0, 0, .int (0)), (46, 2, .istore 4, 4, 0, 0, .null), (48, 1, .aload_n 0, 0, 0, 0, .null), (49, 3, .getfield 28, 2, 8, 4, .null), (52, 1, .iload_n 1, 1, 0, 0, .null), (53, 2, .bipush 7, 0, 0, 0, .int (7)), (55, 1, .imul, 0, 0, 0, .null), (56, 1, .aload_n 0, 0, 0, 0, .null), (57, 3, .getfield 9, 2, 3, 4, .null), (60, 1, .iload_n 3, 3, 0, 0, .null), (61, 1, .iaload, 0, 0, 0, .null), (62, 1, .iadd, 0, 0, 0, .null), (63, 1, .iaload, 0, 0, 0, .null), (64, 1, .aload_n 0, 0, 0, 0, .null), (65, 3, .getfield 15, 2, 4, 4, .null), (68, 1, .iload_n 3, 3, 0, 0, .null), (69, 1, .iaload, 0, 0, 0, .null), (70, 3, .if_icmp .lt 7, 77, 0, 0, .null), (73, 1, .iconst 1, 0, 0, 0, .int (1)), (74, 3, .goto 4, 78, 0, 0, .null), (77, 1, .iconst 0, 0, 0, 0, .int (0)), (78, 2, .istore 5, 5, 0, 0, .null), (80, 2, .iload 4, 4, 0, 0, .null), (82, 3, .ifCond .eq 16, 98, 0, 0, .null), (85, 2, .iload 5, 5, 0, 0, .null), (87, 1, .aload_n 0, 0, 0, 0, .null), (88, 3, .getfield 18, 2, 5, 4, .null), (91, 1, .iload_n 3, 3, 0, 0, .null), (92, 1, .baload, 0, 0, 2, .null), (93, 3, .if_icmp .eq 5, 98, 0, 0, .null), (96, 1, .iconst 0, 0, 0, 0, .int (0)), (97, 1, .ireturn, 0, 0, 2, .null), (98, 3, .iinc 3 1, 3, 0, 0, .int (1)), (101, 3, .goto (-99), 2, 0, 0, .null), (104, 1, .iconst 1, 0, 0, 0, .int (1)), (105, 1, .ireturn, 0, 0, 2, .null)]
def kX2_leftAtMost : List zE := [(0, 1, .iconst 0, 0, 0, 0, .int (0)), (1, 1, .istore_n 3, 3, 0, 0, .null), (2, 1, .iconst 0, 0, 0, 0, .int (0)), (3, 2, .istore 4, 4, 0, 0, .null), (5, 2, .iload 4, 4, 0, 0, .null), (7, 2, .bipush 20, 0, 0, 0, .int (20)), (9, 3, .if_icmp .gt 95, 104, 0, 0, .null), (12, 1, .iconst 0, 0, 0, 0, .int (0)), (13, 2, .istore 5, 5, 0, 0, .null), (15, 1, .iconst 0, 0, 0, 0, .int (0)), (16, 2, .istore 6, 6, 0, 0, .null), (18, 2, .iload 6, 6, 0, 0, .null), (20, 2, .bipush 20, 0, 0, 0, .int (20)), (22, 3, .if_icmp .gt 69, 91, 0, 0, .null), (25, 1, .aload_n 0, 0, 0, 0, .null), (26, 3, .getfield 28, 2, 8, 4, .null), (29, 2, .iload 4, 4, 0, 0, .null), (31, 2, .bipush 7, 0, 0, 0, .int (7)), (33, 1, .imul, 0, 0, 0, .null), (34, 1, .iload_n 1, 1, 0, 0, .null), (35, 1, .iadd, 0, 0, 0, .null), (36, 1, .iaload, 0, 0, 0, .null), (37, 1, .aload_n 0, 0, 0, 0, .null), (38, 3, .getfield 28, 2, 8, 4, .null), (41, 2, .iload 6, 6, 0, 0, .null), (43, 2, .bipush 7, 0, 0, 0, .int (7)), (45, 1, .imul, 0, 0, 0, .null), (46, 1, .iload_n 1, 1, 0, 0, .null), (47, 1, .iadd, 0, 0, 0, .null), (48, 1, .iaload, 0, 0, 0, .null), (49, 3, .if_icmp .ne 7, 56, 0, 0, .null), (52, 1, .iconst 1, 0, 0, 0, .int (1)), (53, 3, .goto 4, 57, 0, 0, .null), (56, 1, .iconst 0, 0, 0, 0, .int (0)), (57, 2, .istore 7, 7, 0, 0, .null), (59, 2, .iload 7, 7, 0, 0, .null), (61, 3, .ifCond .eq 24, 85, 0, 0, .null), (64, 1, .iload_n 2, 2, 0, 0, .null), (65, 2, .iload 4, 4, 0, 0, .null), (67, 3, .invokestatic 43, 151, 2, 1, .null), (70, 3, .ifCond .eq 15, 85, 0, 0, .null), (73, 1, .iload_n 2, 2, 0, 0, .null), (74, 2, .iload 6, 6, 0, 0, .null), (76, 3, .invokestatic 43, 151, 2, 1, .null), (79, 3, .ifCond .eq 6, 85, 0, 0, .null), (82, 3, .iinc 5 1, 5, 0, 0, .int (1)), (85, 3, .iinc 6 1, 6, 0, 0, .int (1)), (88, 3, .goto (-70), 18, 0, 0, .null), (91, 1, .iload_n 3, 3, 0, 0, .null), (92, 2, .iload 5, 5, 0, 0, .null), (94, 3, .invokestatic 75, 3, 2, 1, .null), (97, 1, .istore_n 3, 3, 0, 0, .null), (98, 3, .iinc 4 1, 4, 0, 0, .int (1)), (101, 3, .goto (-96), 5, 0, 0, .null), (104, 1, .iload_n 3, 3, 0, 0, .null), (105, 1, .ireturn, 0, 0, 0, .null)]
def kX3_init : List zE := [(0, 1, .aload_n 0, 0, 0, 0, .null), (1, 3, .invokespecial 3, 0, 0, 9, .null), (4, 1, .aload_n 0, 0, 0, 0, .null), (5, 2, .bipush 40, 0, 0, 0, .int (40)), (7, 3, .anewarray 9, 0, 0, 0, .null), (10, 3, .putfield 11, 3, 3, 4, .null), (13, 1, .aload_n 0, 0, 0, 0, .null), (14, 3, .new 9, 6, 7, 0, .null), (17, 1, .dup, 0, 0, 0, .null), (18, 3, .invokespecial 17, 78, 1, 0, .ref 1000007), (21, 3, .putfield 18, 3, 4, 4, .null), (24, 1, .iconst 0, 0, 0, 0, .int (0)), (25, 1, .istore_n 1, 1, 0, 0, .null), (26, 1, .iload_n 1, 1, 0, 0, .null), (27, 2, .bipush 40, 0, 0, 0, .int (40)), (29, 3, .if_icmp .ge 22, 51, 0, 0, .null), (32, 1, .aload_n 0, 0, 0, 0, .null), (33, 3, .getfield 11, 3, 3, 4, .null), (36, 1, .iload_n 1, 1, 0, 0, .null), (37, 3, .new 9, 6, 7, 0, .null), (40, 1, .dup, 0, 0, 0, .null), (41, 3, .invokespecial 17, 78, 1, 0, .ref 1000007), (44, 1, .aastore, 0, 0, 0, .null), (45, 3, .iinc 1 1, 1, 0, 0, .int (1)), (48, 3, .goto (-22), 26, 0, 0, .null), (51, 1, .return_, 0, 0, 0, .null)]
def kX3_clear : List zE := [(0, 1, .aload_n 0, 0, 0, 0, .null), (1, 1, .iconst 0, 0, 0, 0, .int (0)), (2, 3, .putfield 22, 3, 0, 0, .null), (5, 1, .aload_n 0, 0, 0, 0, .null), (6, 1, .iconst 0, 0, 0, 0, .int (0)), (7, 3, .putfield 26, 3, 1, 0, .null), (10, 1, .return_, 0, 0, 0, .null)]
def kX3_keep : List zE := [(0, 1, .aload_n 0, 0, 0, 0, .null), (1, 1, .iconst 0, 0, 0, 0, .int (0)), (2, 3, .putfield 26, 3, 1, 0, .null), (5, 1, .aload_n 0, 0, 0, 0, .null), (6, 3, .getfield 22, 3, 0, 0, .null), (9, 2, .bipush 40, 0, 0, 0, .int (40)), (11, 3, .if_icmp .lt 22, 33, 0, 0, .null), (14, 1, .aload_n 0, 0, 0, 0, .null), (15, 1, .aload_n 0, 0, 0, 0, .null), (16, 3, .getfield 29, 3, 2, 0, .null), (19, 1, .iconst 1, 0, 0, 0, .int (1)), (20, 1, .iadd, 0, 0, 0, .null), (21, 2, .bipush 40, 0, 0, 0, .int (40)), (23, 1, .irem, 0, 0, 0, .null), (24, 3, .putfield 29, 3, 2, 0, .null), (27, 1, .aload_n 0, 0, 0, 0, .null), (28, 2, .bipush 39, 0, 0, 0, .int (39)), (30, 3, .putfield 22, 3, 0, 0, .null), (33, 1, .aload_n 0, 0, 0, 0, .null), (34, 1, .aload_n 0, 0, 0, 0, .null), (35, 3, .getfield 22, 3, 0, 0, .null), (38, 3, .invokevirtual 32, 39, 2, 14, .null), (41, 1, .aload_n 1, 1, 0, 0, .null), (42, 3, .invokevirtual 36, 80, 2, 24, .null), (45, 1, .aload_n 0, 0, 0, 0, .null), (46, 1, .dup, 0, 0, 0, .null), (47, 3, .getfield 22, 3, 0, 0, .null), (50, 1, .iconst 1, 0, 0, 0, .int (1)), (51, 1, .iadd, 0, 0, 0, .null), (52, 3, .putfield 22, 3, 0, 0, .null), (55, 1, .return_, 0, 0, 0, .null)]
def kX3_takeBack : List zE := [(0, 1, .aload_n 0, 0, 0, 0, .null), (1, 3, .getfield 22, 3, 0, 0, .null), (4, 3, .ifCond .gt 5, 9, 0, 0, .null), (7, 1, .iconst 0, 0, 0, 0, .int (0)), (8, 1, .ireturn, 0, 0, 2, .null), (9, 1, .aload_n 0, 0, 0, 0, .null), (10, 1, .dup, 0, 0, 0, .null), (11, 3, .getfield 22, 3, 0, 0, .null), (14, 1, .iconst 1, 0, 0, 0, .int (1)), (15, 1, .isub, 0, 0, 0, .null), (16, 3, .putfield 22, 3, 0, 0, .null), (19, 1, .aload_n 0, 0, 0, 0, .null), (20, 1, .dup, 0, 0, 0, .null), (21, 3, .getfield 26, 3, 1, 0, .null), (24, 1, .iconst 1, 0, 0, 0, .int (1)), (25, 1, .iadd, 0, 0, 0, .null), (26, 3, .putfield 26, 3, 1, 0, .null), (29, 1, .aload_n 0, 0, 0, 0, .null), (30, 1, .aload_n 1, 1, 0, 0, .null), (31, 1, .aload_n 0, 0, 0, 0, .null), (32, 1, .aload_n 0, 0, 0, 0, .null), (33, 3, .getfield 22, 3, 0, 0, .null), (36, 3, .invokevirtual 32, 39, 2, 14, .null), (39, 3, .invokevirtual 40, 40, 3, 12, .null), (42, 1, .iconst 1, 0, 0, 0, .int (1)), (43, 1, .ireturn, 0, 0, 2, .null)]
def kX3_doAgain : List zE := [(0, 1, .aload_n 0, 0, 0, 0, .null), (1, 3, .getfield 26, 3, 1, 0, .null), (4, 3, .ifCond .gt 5, 9, 0, 0, .null), (7, 1, .iconst 0, 0, 0, 0, .int (0)), (8, 1, .ireturn, 0, 0, 2, .null), (9, 1, .aload_n 0, 0, 0, 0, .null), (10, 1, .aload_n 1, 1, 0, 0, .null), (11, 1, .aload_n 0, 0, 0, 0, .null), (12, 1, .aload_n 0, 0, 0, 0, .null), (13, 3, .getfield 22, 3, 0, 0, .null), (16, 3, .invokevirtual 32, 39, 2, 14, .null), (19, 3, .invokevirtual 40, 40, 3, 12, .null), (22, 1, .aload_n 0, 0, 0, 0, .null), (23, 1, .dup, 0, 0, 0, .null), (24, 3, .getfield 22, 3, 0, 0, .null), (27, 1, .iconst 1, 0, 0, 0, .int (1)), (28, 1, .iadd, 0, 0, 0, .null), (29, 3, .putfield 22, 3, 0, 0, .null), (32, 1, .aload_n 0, 0, 0, 0, .null), (33, 1, .dup, 0, 0, 0, .null), (34, 3, .getfield 26, 3, 1, 0, .null), (37, 1, .iconst 1, 0, 0, 0, .int (1)), (38, 1, .isub, 0, 0, 0, .null), (39, 3, .putfield 26, 3, 1, 0, .null), (42, 1, .iconst 1, 0, 0, 0, .int (1)), (43, 1, .ireturn, 0, 0, 2, .null)]
def kX3_row : List zE := [(0, 1, .aload_n 0, 0, 0, 0, .null), (1, 3, .getfield 11, 3, 3, 4, .null), (4, 1, .aload_n 0, 0, 0, 0, .null), (5, 3, .getfield 29, 3, 2, 0, .null), (8, 1, .iload_n 1, 1, 0, 0, .null), (9, 1, .iadd, 0, 0, 0, .null), (10, 2, .bipush 40, 0, 0, 0, .int (40)), (12, 3, .invokestatic 44, 1, 2, 1, .null), (15, 1, .aaload, 0, 0, 0, .null), (16, 1, .areturn, 0, 0, 0, .null)]
def kX3_exchange : List zE := [(0, 1, .aload_n 0, 0, 0, 0, .null), (1, 3, .getfield 18, 3, 4, 4, .null), (4, 1, .aload_n 1, 1, 0, 0, .null), (5, 3, .invokevirtual 36, 80, 2, 24, .null), (8, 1, .aload_n 1, 1, 0, 0, .null), (9, 1, .aload_n 2, 2, 0, 0, .null), (10, 3, .invokevirtual 36, 80, 2, 24, .null), (13, 1, .aload_n 2, 2, 0, 0, .null), (14, 1, .aload_n 0, 0, 0, 0, .null), (15, 3, .getfield 18, 3, 4, 4, .null), (18, 3, .invokevirtual 36, 80, 2, 24, .null), (21, 1, .return_, 0, 0, 0, .null)]
def kX4_init : List zE := [(0, 1, .aload_n 0, 0, 0, 0, .null), (1, 3, .invokespecial 3, 0, 0, 9, .null), (4, 1, .aload_n 0, 0, 0, 0, .null), (5, 2, .bipush 7, 0, 0, 0, .int (7)), (7, 2, .newarray .int, 0, 0, 0, .null), (9, 3, .putfield 9, 4, 2, 4, .null), (12, 1, .aload_n 0, 0, 0, 0, .null), (13, 2, .bipush 7, 0, 0, 0, .int (7)), (15, 2, .newarray .int, 0, 0, 0, .null), (17, 3, .putfield 15, 4, 3, 4, .null), (20, 1, .aload_n 0, 0, 0, 0, .null), (21, 2, .bipush 6, 0, 0, 0, .int (6)), (23, 2, .newarray .int, 0, 0, 0, .null), (25, 3, .putfield 18, 4, 5, 4, .null), (28, 1, .aload_n 0, 0, 0, 0, .null), (29, 3, .new 21, 1, 5, 0, .null), (32, 1, .dup, 0, 0, 0, .null), (33, 3, .invokespecial 23, 21, 1, 0, .ref 3000306), (36, 3, .putfield 24, 4, 10, 4, .null), (39, 1, .aload_n 0, 0, 0, 0, .null), (40, 3, .invokevirtual 28, 42, 1, 16, .null), (43, 1, .return_, 0, 0, 0, .null)]
def kX4_clear : List zE := [(0, 1, .aload_n 0, 0, 0, 0, .null), (1, 1, .iconst 0, 0, 0, 0, .int (0)), (2, 3, .putfield 31, 4, 0, 0, .null), (5, 1, .aload_n 0, 0, 0, 0, .null), (6, 1, .iconst 0, 0, 0, 0, .int (0)), (7, 3, .putfield 35, 4, 1, 0, .null), (10, 1, .aload_n 0, 0, 0, 0, .null), (11, 1, .iconst 0, 0, 0, 0, .int (0)), (12, 3, .putfield 38, 4, 4, 0, .null), (15, 1, .aload_n 0, 0, 0, 0, .null), (16, 2, .bipush 10, 0, 0, 0, .int (10)), (18, 3, .putfield 41, 4, 6, 0, .null), (21, 1, .aload_n 0, 0, 0, 0, .null), (22, 1, .iconst 1, 0, 0, 0, .int (1)), (23, 3, .putfield 44, 4, 7, 0, .null), (26, 1, .aload_n 0, 0, 0, 0, .null), (27, 1, .iconst 0, 0, 0, 0, .int (0)), (28, 3, .putfield 47, 4, 8, 0, .null), (31, 1, .aload_n 0, 0, 0, 0, .null), (32, 1, .iconst 0, 0, 0, 0, .int (0)), (33, 3, .putfield 50, 4, 9, 0, .null), (36, 1, .aload_n 0, 0, 0, 0, .null), (37, 3, .getfield 24, 4, 10, 4, .null), (40, 3, .invokevirtual 53, 22, 1, 4, .null), (43, 1, .return_, 0, 0, 0, .null)]
def kX4_addMember : List zE := [(0, 1, .aload_n 0, 0, 0, 0, .null), (1, 3, .getfield 31, 4, 0, 0, .null), (4, 2, .bipush 7, 0, 0, 0, .int (7)), (6, 3, .if_icmp .ge 56, 62, 0, 0, .null), (9, 1, .aload_n 0, 0, 0, 0, .null), (10, 1, .dup, 0, 0, 0, .null), (11, 3, .getfield 35, 4, 1, 0, .null), (14, 1, .iload_n 1, 1, 0, 0, .null), (15, 3, .ifCond .eq 12, 27, 0, 0, .null), (18, 1, .iconst 1, 0, 0, 0, .int (1)), (19, 1, .aload_n 0, 0, 0, 0, .null), (20, 3, .getfield 31, 4, 0, 0, .null), (23, 1, .ishl, 0, 0, 0, .null), (24, 3, .goto 4, 28, 0, 0, .null), (27, 1, .iconst 0, 0, 0, 0, .int (0)), (28, 1, .ior, 0, 0, 0, .null), (29, 3, .putfield 35, 4, 1, 0, .null), (32, 1, .aload_n 0, 0, 0, 0, .null), (33, 3, .getfield 9, 4, 2, 4, .null), (36, 1, .aload_n 0, 0, 0, 0, .null), (37, 3, .getfield 31, 4, 0, 0, .null), (40, 1, .iload_n 2, 2, 0, 0, .null), (41, 1, .iastore, 0, 0, 0, .null), (42, 1, .aload_n 0, 0, 0, 0, .null), (43, 3, .getfield 15, 4, 3, 4, .null), (46, 1, .aload_n 0, 0, 0, 0, .null), (47, 3, .getfield 31, 4, 0, 0, .null), (50, 1, .iload_n 3, 3, 0, 0, .null), (51, 1, .iastore, 0, 0, 0, .null), (52, 1, .aload_n 0, 0, 0, 0, .null), (53, 1, .dup, 0, 0, 0, .null), (54, 3, .getfield 31, 4, 0, 0, .null), (57, 1, .iconst 1, 0, 0, 0, .int (1)), (58, 1, .iadd, 0, 0, 0, .null), (59, 3, .putfield 31, 4, 0, 0, .null), (62, 1, .return_, 0, 0, 0, .null)]
def kX4_addClause : List zE := [(0, 1, .aload_n 0, 0, 0, 0, .null), (1, 3, .getfield 38, 4, 4, 0, .null), (4, 2, .bipush 6, 0, 0, 0, .int (6)), (6, 3, .if_icmp .ge 23, 29, 0, 0, .null), (9, 1, .aload_n 0, 0, 0, 0, .null), (10, 3, .getfield 18, 4, 5, 4, .null), (13, 1, .aload_n 0, 0, 0, 0, .null), (14, 3, .getfield 38, 4, 4, 0, .null), (17, 1, .iload_n 1, 1, 0, 0, .null), (18, 1, .iastore, 0, 0, 0, .null), (19, 1, .aload_n 0, 0, 0, 0, .null), (20, 1, .dup, 0, 0, 0, .null), (21, 3, .getfield 38, 4, 4, 0, .null), (24, 1, .iconst 1, 0, 0, 0, .int (1)), (25, 1, .iadd, 0, 0, 0, .null), (26, 3, .putfield 38, 4, 4, 0, .null), (29, 1, .return_, 0, 0, 0, .null)]
def kX4_everyone : List zE := [(0, 1, .iconst 1, 0, 0, 0, .int (1)), (1, 1, .aload_n 0, 0, 0, 0, .null), (2, 3, .getfield 31, 4, 0, 0, .null), (5, 1, .ishl, 0, 0, 0, .null), (6, 1, .iconst 1, 0, 0, 0, .int (1)), (7, 1, .isub, 0, 0, 0, .null), (8, 1, .ireturn, 0, 0, 0, .null)]
def kX4_votesOf : List zE := [(0, 1, .iconst 0, 0, 0, 0, .int (0)), (1, 1, .istore_n 2, 2, 0, 0, .null), (2, 1, .iconst 0, 0, 0, 0, .int (0)), (3, 1, .istore_n 3, 3, 0, 0, .null), (4, 1, .iload_n 3, 3, 0, 0, .null), (5, 1, .aload_n 0, 0, 0, 0, .null), (6, 3, .getfield 31, 4, 0, 0, .null), (9, 3, .if_icmp .ge 26, 35, 0, 0, .null), (12, 1, .iload_n 1, 1, 0, 0, .null), (13, 1, .iload_n 3, 3, 0, 0, .null), (14, 3, .invokestatic 54, 151, 2, 1, .null), (17, 3, .ifCond .eq 12, 29, 0, 0, .null), (20, 1, .iload_n 2, 2, 0, 0, .null), (21, 1, .aload_n 0, 0, 0, 0, .null), (22, 3, .getfield 15, 4, 3, 4, .null), (25, 1, .iload_n 3, 3, 0, 0, .null), (26, 1, .iaload, 0, 0, 0, .null), (27, 1, .iadd, 0, 0, 0, .null), (28, 1, .istore_n 2, 2, 0, 0, .null), (29, 3, .iinc 3 1, 3, 0, 0, .int (1)), (32, 3, .goto (-28), 4, 0, 0, .null), (35, 1, .iload_n 2, 2, 0, 0, .null), (36, 1, .ireturn, 0, 0, 0, .null)]
def kX4_windOf : List zE := [(0, 1, .aload_n 0, 0, 0, 0, .null), (1, 3, .getfield 24, 4, 10, 4, .null), (4, 3, .getfield 58, 1, 0, 0, .null), (7, 3, .ifCond .ne 18, 25, 0, 0, .null), (10, 1, .iload_n 2, 2, 0, 0, .null), (11, 1, .iload_n 3, 3, 0, 0, .null), (12, 1, .iadd, 0, 0, 0, .null), (13, 1, .iconst 3, 0, 0, 0, .int (3)), (14, 1, .idiv, 0, 0, 0, .null), (15, 2, .iload 5, 5, 0, 0, .null), (17, 1, .iconst 2, 0, 0, 0, .int (2)), (18, 1, .imul, 0, 0, 0, .null), (19, 1, .isub, 0, 0, 0, .null), (20, 2, .istore 7, 7, 0, 0, .null), (22, 3, .goto 80, 102, 0, 0, .null), (25, 1, .aload_n 0, 0, 0, 0, .null), (26, 3, .getfield 24, 4, 10, 4, .null), (29, 3, .getfield 61, 1, 2, 4, .null), (32, 1, .iconst 0, 0, 0, 0, .int (0)), (33, 1, .iload_n 2, 2, 0, 0, .null), (34, 1, .iastore, 0, 0, 0, .null), (35, 1, .aload_n 0, 0, 0, 0, .null), (36, 3, .getfield 24, 4, 10, 4, .null), (39, 3, .getfield 61, 1, 2, 4, .null), (42, 1, .iconst 1, 0, 0, 0, .int (1)), (43, 1, .iload_n 3, 3, 0, 0, .null), (44, 1, .iastore, 0, 0, 0, .null), (45, 1, .aload_n 0, 0, 0, 0, .null), (46, 3, .getfield 24, 4, 10, 4, .null), (49, 3, .getfield 61, 1, 2, 4, .null), (52, 1, .iconst 2, 0, 0, 0, .int (2)), (53, 1, .aload_n 0, 0, 0, 0, .null), (54, 3, .getfield 15, 4, 3, 4, .null), (57, 1, .iload_n 1, 1, 0, 0, .null), (58, 1, .iaload, 0, 0, 0, .null), (59, 1, .iastore, 0, 0, 0, .null), (60, 1, .aload_n 0, 0, 0, 0, .null), (61, 3, .getfield 24, 4, 10, 4, .null), (64, 3, .getfield 61, 1, 2, 4, .null), (67, 1, .iconst 3, 0, 0, 0, .int (3)), (68, 2, .iload 4, 4, 0, 0, .null), (70, 1, .iastore, 0, 0, 0, .null), (71, 1, .aload_n 0, 0, 0, 0, .null), (72, 3, .getfield 24, 4, 10, 4, .null), (75, 3, .getfield 61, 1, 2, 4, .null), (78, 1, .iconst 4, 0, 0, 0, .int (4)), (79, 2, .iload 5, 5, 0, 0, .null), (81, 1, .iastore, 0, 0, 0, .null), (82, 1, .aload_n 0, 0, 0, 0, .null), (83, 3, .getfield 24, 4, 10, 4, .null), (86, 3, .getfield 61, 1, 2, 4, .null), (89, 1, .iconst 5, 0, 0, 0, .int (5)), (90, 2, .iload 6, 6, 0, 0, .null), (92, 1, .iastore, 0, 0, 0, .null), (93, 1, .aload_n 0, 0, 0, 0, .null), (94, 3, .getfield 24, 4, 10, 4, .null), (97, 3, .invokevirtual 64, 24, 1, 5, .null), (100, 2, .istore 7, 7, 0, 0, .null), (102, 2, .bipush (-9), 0, 0, 0, .int (-9)), (104, 2, .iload 4, 4, 0, 0, .null), (106, 1, .ineg, 0, 0, 0, .null), (107, 3, .invokestatic 68, 3, 2, 1, .null), (110, 2, .bipush 9, 0, 0, 0, .int (9)), (112, 2, .iload 7, 7, 0, 0, .null), (114, 3, .invokestatic 74, 4, 2, 1, .null), (117, 3, .invokestatic 68, 3, 2, 1, .null), (120, 1, .ireturn, 0, 0, 0, .null)]
def kX4_tipsOver : List zE := [(0, 1, .aload_n 0, 0, 0, 0, .null), (1, 1, .iload_n 1, 1, 0, 0, .null), (2, 3, .invokevirtual 77, 46, 2, 17, .null), (5, 1, .istore_n 3, 3, 0, 0, .null), (6, 1, .iload_n 1, 1, 0, 0, .null), (7, 1, .iload_n 2, 2, 0, 0, .null), (8, 3, .invokestatic 54, 151, 2, 1, .null), (11, 3, .ifCond .ne 30, 41, 0, 0, .null), (14, 1, .iload_n 3, 3, 0, 0, .null), (15, 1, .aload_n 0, 0, 0, 0, .null), (16, 3, .getfield 44, 4, 7, 0, .null), (19, 3, .if_icmp .ge 22, 41, 0, 0, .null), (22, 1, .iload_n 3, 3, 0, 0, .null), (23, 1, .aload_n 0, 0, 0, 0, .null), (24, 3, .getfield 15, 4, 3, 4, .null), (27, 1, .iload_n 2, 2, 0, 0, .null), (28, 1, .iaload, 0, 0, 0, .null), (29, 1, .iadd, 0, 0, 0, .null), (30, 1, .aload_n 0, 0, 0, 0, .null), (31, 3, .getfield 44, 4, 7, 0, .null), (34, 3, .if_icmp .lt 7, 41, 0, 0, .null), (37, 1, .iconst 1, 0, 0, 0, .int (1)), (38, 3, .goto 4, 42, 0, 0, .null), (41, 1, .iconst 0, 0, 0, 0, .int (0)), (42, 1, .ireturn, 0, 0, 2, .null)]
def kX4_ordersTipped : List zE := [(0, 1, .iconst 0, 0, 0, 0, .int (0)), (1, 1, .istore_n 2, 2, 0, 0, .null), (2, 1, .iconst 0, 0, 0, 0, .int (0)), (3, 1, .istore_n 3, 3, 0, 0, .null), (4, 1, .iload_n 3, 3, 0, 0, .null), (5, 1, .iconst 1, 0, 0, 0, .int (1)), (6, 1, .aload_n 0, 0, 0, 0, .null), (7, 3, .getfield 31, 4, 0, 0, .null), (10, 1, .ishl, 0, 0, 0, .null), (11, 3, .if_icmp .ge 65, 76, 0, 0, .null), (14, 1, .aload_n 0, 0, 0, 0, .null), (15, 1, .iload_n 3, 3, 0, 0, .null), (16, 1, .iload_n 1, 1, 0, 0, .null), (17, 3, .invokevirtual 81, 48, 3, 17, .null), (20, 3, .ifCond .eq 50, 70, 0, 0, .null), (23, 1, .iload_n 3, 3, 0, 0, .null), (24, 3, .invokestatic 84, 0, 1, 1, .null), (27, 2, .istore 4, 4, 0, 0, .null), (29, 1, .iconst 0, 0, 0, 0, .int (0)), (30, 1, .aload_n 0, 0, 0, 0, .null), (31, 3, .getfield 31, 4, 0, 0, .null), (34, 1, .iconst 1, 0, 0, 0, .int (1)), (35, 1, .isub, 0, 0, 0, .null), (36, 2, .iload 4, 4, 0, 0, .null), (38, 1, .isub, 0, 0, 0, .null), (39, 3, .invokestatic 68, 3, 2, 1, .null), (42, 2, .istore 5, 5, 0, 0, .null), (44, 1, .iload_n 2, 2, 0, 0, .null), (45, 3, .getstatic 89, 0, 0, 0, .retAddr 2), (48, 2, .iload 4, 4, 0, 0, .null), (50, 2, .bipush 7, 0, 0, 0, .int (7)), (52, 3, .invokestatic 74, 4, 2, 1, .null), (55, 1, .iaload, 0, 0, 0, .null), (56, 3, .getstatic 89, 0, 0, 0, .retAddr 2), (59, 2, .iload 5, 5, 0, 0, .null), (61, 2, .bipush 7, 0, 0, 0, .int (7)), (63, 3, .invokestatic 74, 4, 2, 1, .null), (66, 1, .iaload, 0, 0, 0, .null), (67, 1, .imul, 0, 0, 0, .null), (68, 1, .iadd, 0, 0, 0, .null), (69, 1, .istore_n 2, 2, 0, 0, .null), (70, 3, .iinc 3 1, 3, 0, 0, .int (1)), (73, 3, .goto (-69), 4, 0, 0, .null), (76, 1, .iload_n 2, 2, 0, 0, .null), (77, 1, .ireturn, 0, 0, 0, .null)]
def kX4_setsTilted : List zE := [(0, 1, .iconst 0, 0, 0, 0, .int (0)), (1, 1, .istore_n 2, 2, 0, 0, .null), (2, 1, .iconst 0, 0, 0, 0, .int (0)), (3, 1, .istore_n 3, 3, 0, 0, .null), (4, 1, .iload_n 3, 3, 0, 0, .null), (5, 1, .iconst 1, 0, 0, 0, .int (1)), (6, 1, .aload_n 0, 0, 0, 0, .null), (7, 3, .getfield 31, 4, 0, 0, .null), (10, 1, .ishl, 0, 0, 0, .null), (11, 3, .if_icmp .ge 21, 32, 0, 0, .null), (14, 1, .aload_n 0, 0, 0, 0, .null), (15, 1, .iload_n 3, 3, 0, 0, .null), (16, 1, .iload_n 1, 1, 0, 0, .null), (17, 3, .invokevirtual 81, 48, 3, 17, .null), (20, 3, .ifCond .eq 6, 26, 0, 0, .null), (23, 3, .iinc 2 1, 2, 0, 0, .int (1)), (26, 3, .iinc 3 1, 3, 0, 0, .int (1)), (29, 3, .goto (-25), 4, 0, 0, .null), (32, 1, .iload_n 2, 2, 0, 0, .null), (33, 1, .ireturn, 0, 0, 0, .null)]
def kX4_leastLeague : List zE := [(0, 1, .iconst (-1), 0, 0, 0, .int (-1)), (1, 1, .istore_n 2, 2, 0, 0, .null), (2, 1, .iconst 0, 0, 0, 0, .int (0)), (3, 1, .istore_n 3, 3, 0, 0, .null), (4, 1, .iload_n 3, 3, 0, 0, .null), (5, 1, .iconst 1, 0, 0, 0, .int (1)), (6, 1, .aload_n 0, 0, 0, 0, .null), (7, 3, .getfield 31, 4, 0, 0, .null), (10, 1, .ishl, 0, 0, 0, .null), (11, 3, .if_icmp .ge 47, 58, 0, 0, .null), (14, 1, .iload_n 3, 3, 0, 0, .null), (15, 1, .iload_n 1, 1, 0, 0, .null), (16, 3, .invokestatic 54, 151, 2, 1, .null), (19, 3, .ifCond .eq 33, 52, 0, 0, .null), (22, 1, .aload_n 0, 0, 0, 0, .null), (23, 1, .iload_n 3, 3, 0, 0, .null), (24, 3, .invokevirtual 77, 46, 2, 17, .null), (27, 1, .aload_n 0, 0, 0, 0, .null), (28, 3, .getfield 44, 4, 7, 0, .null), (31, 3, .if_icmp .lt 21, 52, 0, 0, .null), (34, 1, .iload_n 2, 2, 0, 0, .null), (35, 1, .iconst (-1), 0, 0, 0, .int (-1)), (36, 3, .if_icmp .eq 14, 50, 0, 0, .null), (39, 1, .iload_n 3, 3, 0, 0, .null), (40, 3, .invokestatic 84, 0, 1, 1, .null), (43, 1, .iload_n 2, 2, 0, 0, .null), (44, 3, .invokestatic 84, 0, 1, 1, .null), (47, 3, .if_icmp .ge 5, 52, 0, 0, .null), (50, 1, .iload_n 3, 3, 0, 0, .null), (51, 1, .istore_n 2, 2, 0, 0, .null), (52, 3, .iinc 3 1, 3, 0, 0, .int (1)), (55, 3, .goto (-51), 4, 0, 0, .null), (58, 1, .iload_n 2, 2, 0, 0, .null), (59, 1, .ireturn, 0, 0, 0, .null)]
def kX4_countLeagues : List zE := [(0, 1, .iconst 0, 0, 0, 0, .int (0)), (1, 1, .istore_n 1, 1, 0, 0, .null), (2, 1, .iconst 0, 0, 0, 0, .int (0)), (3, 1, .istore_n 2, 2, 0, 0, .null), (4, 1, .iload_n 2, 2, 0, 0, .null), (5, 1, .iconst 1, 0, 0, 0, .int (1)), (6, 1, .aload_n 0, 0, 0, 0, .null), (7, 3, .getfield 31, 4, 0, 0, .null), (10, 1, .ishl, 0, 0, 0, .null), (11, 3, .if_icmp .ge 32, 43, 0, 0, .null), (14, 1, .aload_n 0, 0, 0, 0, .null), (15, 1, .iload_n 2, 2, 0, 0, .null), (16, 3, .invokevirtual 77, 46, 2, 17, .null), (19, 1, .aload_n 0, 0, 0, 0, .null), (20, 3, .getfield 44, 4, 7, 0, .null), (23, 3, .if_icmp .lt 14, 37, 0, 0, .null), (26, 1, .aload_n 0, 0, 0, 0, .null), (27, 1, .iload_n 2, 2, 0, 0, .null), (28, 3, .invokevirtual 92, 53, 2, 17, .null), (31, 3, .ifCond .eq 6, 37, 0, 0, .null), (34, 3, .iinc 1 1, 1, 0, 0, .int (1)), (37, 3, .iinc 2 1, 2, 0, 0, .int (1)), (40, 3, .goto (-36), 4, 0, 0, .null), (43, 1, .iload_n 1, 1, 0, 0, .null), (44, 1, .ireturn, 0, 0, 0, .null)]
def kX4_needsEach : List zE := [(0, 1, .iconst 0, 0, 0, 0, .int (0)), (1, 1, .istore_n 2, 2, 0, 0, .null), (2, 1, .iload_n 2, 2, 0, 0, .null), (3, 1, .aload_n 0, 0, 0, 0, .null), (4, 3, .getfield 31, 4, 0, 0, .null), (7, 3, .if_icmp .ge 37, 44, 0, 0, .null), (10, 1, .iload_n 1, 1, 0, 0, .null), (11, 1, .iload_n 2, 2, 0, 0, .null), (12, 3, .invokestatic 54, 151, 2, 1, .null), (15, 3, .ifCond .eq 23, 38, 0, 0, .null), (18, 1, .aload_n 0, 0, 0, 0, .null), (19, 1, .iload_n 1, 1, 0, 0, .null), (20, 1, .iconst 1, 0, 0, 0, .int (1)), (21, 1, .iload_n 2, 2, 0, 0, .null), (22, 1, .ishl, 0, 0, 0, .null), (23, 1, .iconst (-1), 0, 0, 0, .int (-1)), (24, 1, .ixor, 0, 0, 0, .null), (25, 1, .iand, 0, 0, 0, .null), (26, 3, .invokevirtual 77, 46, 2, 17, .null), (29, 1, .aload_n 0, 0, 0, 0, .null), (30, 3, .getfield 44, 4, 7, 0, .null), (33, 3, .if_icmp .lt 5, 38, 0, 0, .null), (36, 1, .iconst 0, 0, 0, 0, .int (0)), (37, 1, .ireturn, 0, 0, 2, .null), (38, 3, .iinc 2 1, 2, 0, 0, .int (1)), (41, 3, .goto (-39), 2, 0, 0, .null), (44, 1, .iconst 1, 0, 0, 0, .int (1)), (45, 1, .ireturn, 0, 0, 2, .null)]
def kX5_init : List zE := [(0, 1, .aload_n 0, 0, 0, 0, .null), (1, 3, .invokespecial 3, 0, 0, 9, .null), (4, 1, .aload_n 0, 0, 0, 0, .null), (5, 1, .iconst (-1), 0, 0, 0, .int (-1)), (6, 3, .putfield 9, 5, 2, 0, .null), (9, 1, .aload_n 0, 0, 0, 0, .null), (10, 3, .sipush 1600, 0, 0, 0, .int (1600)), (13, 2, .newarray .byte, 1, 0, 0, .null), (15, 3, .putfield 15, 5, 3, 4, .null), (18, 1, .aload_n 0, 0, 0, 0, .null), (19, 2, .bipush 7, 0, 0, 0, .int (7)), (21, 2, .newarray .long, 3, 0, 0, .null), (23, 3, .putfield 19, 5, 4, 4, .null), (26, 1, .aload_n 0, 0, 0, 0, .null), (27, 2, .bipush 6, 0, 0, 0, .int (6)), (29, 2, .newarray .long, 3, 0, 0, .null), (31, 3, .putfield 23, 5, 5, 4, .null), (34, 1, .aload_n 0, 0, 0, 0, .null), (35, 2, .bipush 18, 0, 0, 0, .int (18)), (37, 2, .newarray .long, 3, 0, 0, .null), (39, 3, .putfield 26, 5, 12, 4, .null), (42, 1, .iconst 0, 0, 0, 0, .int (0)), (43, 1, .istore_n 1, 1, 0, 0, .null), (44, 1, .iload_n 1, 1, 0, 0, .null), (45, 3, .sipush 144, 0, 0, 0, .int (144)), (48, 3, .if_icmp .ge 48, 96, 0, 0, .null), (51, 2, .ldc 29, 0, 0, 0, .retAddr 3), (53, 1, .iload_n 1, 1, 0, 0, .null), (54, 3, .invokevirtual 31, 12, 2, 53, .null), (57, 1, .istore_n 2, 2, 0, 0, .null), (58, 1, .iload_n 2, 2, 0, 0, .null), (59, 2, .bipush 32, 0, 0, 0, .int (32)), (61, 3, .if_icmp .eq 29, 90, 0, 0, .null), (64, 1, .aload_n 0, 0, 0, 0, .null), (65, 3, .getfield 26, 5, 12, 4, .null), (68, 1, .iload_n 1, 1, 0, 0, .null), (69, 2, .bipush 8, 0, 0, 0, .int (8)), (71, 1, .idiv, 0, 0, 0, .null), (72, 1, .aload_n 0, 0, 0, 0, .null), (73, 3, .getfield 26, 5, 12, 4, .null), (76, 1, .iload_n 1, 1, 0, 0, .null), (77, 2, .bipush 8, 0, 0, 0, .int (8)), (79, 1, .idiv, 0, 0, 0, .null), (80, 1, .laload, 0, 0, 0, .null), (81, 1, .iconst 5, 0, 0, 0, .int (5)), (82, 1, .lshl, 0, 0, 0, .null), (83, 1, .iload_n 2, 2, 0, 0, .null), (84, 2, .bipush 31, 0, 0, 0, .int (31)), (86, 1, .iand, 0, 0, 0, .null), (87, 1, .i2l, 0, 0, 0, .null), (88, 1, .lor, 0, 0, 0, .null), (89, 1, .lastore, 0, 0, 0, .null), (90, 3, .iinc 1 1, 1, 0, 0, .int (1)), (93, 3, .goto (-49), 44, 0, 0, .null), (96, 1, .return_, 0, 0, 0, .null)]
def kX5_put : List zE := [(0, 2, .bipush 24, 0, 0, 0, .int (24)), (2, 1, .istore_n 2, 2, 0, 0, .null), (3, 1, .iload_n 2, 2, 0, 0, .null), (4, 3, .ifCond .lt 42, 46, 0, 0, .null), (7, 1, .aload_n 0, 0, 0, 0, .null), (8, 3, .getfield 37, 5, 0, 0, .null), (11, 3, .sipush 1600, 0, 0, 0, .int (1600)), (14, 3, .if_icmp .ge 32, 46, 0, 0, .null), (17, 1, .aload_n 0, 0, 0, 0, .null), (18, 3, .getfield 15, 5, 3, 4, .null), (21, 1, .aload_n 0, 0, 0, 0, .null), (22, 3, .getfield 37, 5, 0, 0, .null), (25, 1, .iload_n 1, 1, 0, 0, .null), (26, 1, .iload_n 2, 2, 0, 0, .null), (27, 1, .iushr, 0, 0, 0, .null), (28, 1, .i2b, 0, 0, 0, .null), (29, 1, .bastore, 0, 0, 1, .null), (30, 1, .aload_n 0, 0, 0, 0, .null), (31, 1, .dup, 0, 0, 0, .null), (32, 3, .getfield 37, 5, 0, 0, .null), (35, 1, .iconst 1, 0, 0, 0, .int (1)), (36, 1, .iadd, 0, 0, 0, .null), (37, 3, .putfield 37, 5, 0, 0, .null), (40, 3, .iinc 2 (-8), 2, 0, 0, .int (-8)), (43, 3, .goto (-40), 3, 0, 0, .null), (46, 1, .return_, 0, 0, 0, .null)]
def kX5_tell : List zE := [(0, 1, .aload_n 0, 0, 0, 0, .null), (1, 1, .iconst 0, 0, 0, 0, .int (0)), (2, 3, .putfield 40, 5, 1, 0, .null), (5, 1, .aload_n 0, 0, 0, 0, .null), (6, 1, .iconst (-1), 0, 0, 0, .int (-1)), (7, 3, .putfield 9, 5, 2, 0, .null), (10, 1, .aload_n 0, 0, 0, 0, .null), (11, 1, .iconst 0, 0, 0, 0, .int (0)), (12, 3, .putfield 43, 5, 6, 0, .null), (15, 1, .aload_n 0, 0, 0, 0, .null), (16, 1, .iconst 0, 0, 0, 0, .int (0)), (17, 3, .putfield 46, 5, 9, 0, .null), (20, 1, .aload_n 0, 0, 0, 0, .null), (21, 3, .invokevirtual 49, 73, 1, 20, .null), (24, 1, .iconst 0, 0, 0, 0, .int (0)), (25, 1, .istore_n 2, 2, 0, 0, .null), (26, 1, .iload_n 2, 2, 0, 0, .null), (27, 3, .sipush 1600, 0, 0, 0, .int (1600)), (30, 3, .if_icmp .gt 160, 190, 0, 0, .null), (33, 1, .aload_n 0, 0, 0, 0, .null), (34, 3, .getfield 40, 5, 1, 0, .null), (37, 3, .ifCond .ne 153, 190, 0, 0, .null), (40, 1, .aload_n 0, 0, 0, 0, .null), (41, 3, .getfield 52, 5, 7, 0, .null), (44, 1, .iconst 1, 0, 0, 0, .int (1)), (45, 3, .if_icmp .eq 145, 190, 0, 0, .null), (48, 1, .aload_n 0, 0, 0, 0, .null), (49, 3, .getfield 52, 5, 7, 0, .null), (52, 44, .tableswitch 128 100 106 #[44, 52, 60, 71, 85, 99, 113], 0, 0, 0, .null), (96, 1, .aload_n 0, 0, 0, 0, .null), (97, 1, .aload_n 1, 1, 0, 0, .null), (98, 3, .invokevirtual 55, 57, 2, 20, .null), (101, 3, .goto 83, 184, 0, 0, .null), (104, 1, .aload_n 0, 0, 0, 0, .null), (105, 1, .aload_n 1, 1, 0, 0, .null), (106, 3, .invokevirtual 59, 58, 2, 20, .null), (109, 3, .goto 75, 184, 0, 0, .null), (112, 1, .aload_n 0, 0, 0, 0, .null), (113, 1, .aload_n 1, 1, 0, 0, .null), (114, 3, .getfield 62, 4, 10, 4, .null), (117, 3, .invokevirtual 68, 60, 2, 20, .null), (120, 3, .goto 64, 184, 0, 0, .null), (123, 1, .aload_n 1, 1, 0, 0, .null), (124, 1, .aload_n 0, 0, 0, 0, .null), (125, 1, .iconst 1, 0, 0, 0, .int (1)), (126, 2, .bipush 30, 0, 0, 0, .int (30)), (128, 3, .invokevirtual 72, 59, 3, 21, .null), (131, 3, .putfield 76, 4, 6, 0, .null), (134, 3, .goto 50, 184, 0, 0, .null), (137, 1, .aload_n 1, 1, 0, 0, .null), (138, 1, .aload_n 0, 0, 0, 0, .null), (139, 1, .iconst 0, 0, 0, 0, .int (0)), (140, 2, .bipush 99, 0, 0, 0, .int (99)), (142, 3, .invokevirtual 72, 59, 3, 21, .null), (145, 3, .putfield 79, 4, 7, 0, .null), (148, 3, .goto 36, 184, 0, 0, .null), (151, 1, .aload_n 1, 1, 0, 0, .null), (152, 1, .aload_n 0, 0, 0, 0, .null), (153, 1, .iconst 0, 0, 0, 0, .int (0)), (154, 2, .bipush 100, 0, 0, 0, .int (100)), (156, 3, .invokevirtual 72, 59, 3, 21, .null), (159, 3, .putfield 82, 4, 8, 0, .null), (162, 3, .goto 22, 184, 0, 0, .null), (165, 1, .aload_n 1, 1, 0, 0, .null), (166, 1, .aload_n 0, 0, 0, 0, .null), (167, 1, .iconst 0, 0, 0, 0, .int (0)), (168, 3, .sipush 999, 0, 0, 0, .int (999)), (171, 3, .invokevirtual 72, 59, 3, 21, .null), (174, 3, .putfield 85, 4, 9, 0, .null), (177, 3, .goto 7, 184, 0, 0, .null), (180, 1, .aload_n 0, 0, 0, 0, .null), (181, 3, .invokevirtual 88, 71, 1, 20, .null), (184, 3, .iinc 2 1, 2, 0, 0, .int (1)), (187, 3, .goto (-161), 26, 0, 0, .null), (190, 1, .aload_n 0, 0, 0, 0, .null), (191, 3, .getfield 40, 5, 1, 0, .null), (194, 3, .ifCond .ne 7, 201, 0, 0, .null), (197, 1, .iconst 1, 0, 0, 0, .int (1)), (198, 3, .goto 4, 202, 0, 0, .null), (201, 1, .iconst 0, 0, 0, 0, .int (0)), (202, 1, .ireturn, 0, 0, 2, .null)]
def kX5_memberLine : List zE := [(0, 1, .aload_n 1, 1, 0, 0, .null), (1, 3, .getfield 91, 4, 0, 0, .null), (4, 2, .bipush 7, 0, 0, 0, .int (7)), (6, 3, .if_icmp .lt 9, 15, 0, 0, .null), (9, 1, .aload_n 0, 0, 0, 0, .null), (10, 1, .iconst 2, 0, 0, 0, .int (2)), (11, 3, .invokevirtual 94, 72, 2, 20, .null), (14, 1, .return_, 0, 0, 0, .null), (15, 1, .aload_n 0, 0, 0, 0, .null), (16, 3, .invokevirtual 49, 73, 1, 20, .null), (19, 1, .aload_n 0, 0, 0, 0, .null), (20, 1, .aload_n 0, 0, 0, 0, .null), (21, 3, .getfield 19, 5, 4, 4, .null), (24, 1, .aload_n 1, 1, 0, 0, .null), (25, 3, .getfield 91, 4, 0, 0, .null), (28, 3, .invokevirtual 98, 70, 3, 20, .null), (31, 1, .aload_n 0, 0, 0, 0, .null), (32, 3, .getfield 52, 5, 7, 0, .null), (35, 2, .bipush 108, 0, 0, 0, .int (108)), (37, 3, .if_icmp .ne 7, 44, 0, 0, .null), (40, 1, .iconst 1, 0, 0, 0, .int (1)), (41, 3, .goto 4, 45, 0, 0, .null), (44, 1, .iconst 0, 0, 0, 0, .int (0)), (45, 1, .istore_n 2, 2, 0, 0, .null), (46, 1, .aload_n 0, 0, 0, 0, .null), (47, 1, .iload_n 2, 2, 0, 0, .null), (48, 3, .ifCond .eq 8, 56, 0, 0, .null), (51, 2, .bipush 108, 0, 0, 0, .int (108)), (53, 3, .goto 5, 58, 0, 0, .null), (56, 2, .bipush 107, 0, 0, 0, .int (107)), (58, 3, .invokevirtual 102, 68, 2, 20, .null), (61, 1, .aload_n 0, 0, 0, 0, .null), (62, 2, .bipush 113, 0, 0, 0, .int (113)), (64, 3, .invokevirtual 102, 68, 2, 20, .null), (67, 1, .aload_n 0, 0, 0, 0, .null), (68, 1, .iconst 0, 0, 0, 0, .int (0)), (69, 2, .bipush 9, 0, 0, 0, .int (9)), (71, 3, .invokevirtual 105, 69, 3, 21, .null), (74, 1, .istore_n 3, 3, 0, 0, .null), (75, 1, .aload_n 0, 0, 0, 0, .null), (76, 2, .bipush 114, 0, 0, 0, .int (114)), (78, 3, .invokevirtual 102, 68, 2, 20, .null), (81, 1, .aload_n 0, 0, 0, 0, .null), (82, 1, .iconst 0, 0, 0, 0, .int (0)), (83, 2, .bipush 9, 0, 0, 0, .int (9)), (85, 3, .invokevirtual 105, 69, 3, 21, .null), (88, 2, .istore 4, 4, 0, 0, .null), (90, 1, .aload_n 0, 0, 0, 0, .null), (91, 2, .bipush 59, 0, 0, 0, .int (59)), (93, 3, .invokevirtual 102, 68, 2, 20, .null), (96, 1, .aload_n 0, 0, 0, 0, .null), (97, 3, .getfield 40, 5, 1, 0, .null), (100, 3, .ifCond .ne 11, 111, 0, 0, .null), (103, 1, .aload_n 1, 1, 0, 0, .null), (104, 1, .iload_n 2, 2, 0, 0, .null), (105, 1, .iload_n 3, 3, 0, 0, .null), (106, 2, .iload 4, 4, 0, 0, .null), (108, 3, .invokevirtual 108, 43, 4, 16, .null), (111, 1, .return_, 0, 0, 0, .null)]
def kX5_clauseLine : List zE := [(0, 1, .aload_n 1, 1, 0, 0, .null), (1, 3, .getfield 112, 4, 4, 0, .null), (4, 2, .bipush 6, 0, 0, 0, .int (6)), (6, 3, .if_icmp .lt 9, 15, 0, 0, .null), (9, 1, .aload_n 0, 0, 0, 0, .null), (10, 1, .iconst 2, 0, 0, 0, .int (2)), (11, 3, .invokevirtual 94, 72, 2, 20, .null), (14, 1, .return_, 0, 0, 0, .null), (15, 1, .aload_n 0, 0, 0, 0, .null), (16, 3, .invokevirtual 49, 73, 1, 20, .null), (19, 1, .aload_n 0, 0, 0, 0, .null), (20, 1, .aload_n 0, 0, 0, 0, .null), (21, 3, .getfield 23, 5, 5, 4, .null), (24, 1, .aload_n 1, 1, 0, 0, .null), (25, 3, .getfield 112, 4, 4, 0, .null), (28, 3, .invokevirtual 98, 70, 3, 20, .null), (31, 1, .aload_n 0, 0, 0, 0, .null), (32, 2, .bipush 112, 0, 0, 0, .int (112)), (34, 3, .invokevirtual 102, 68, 2, 20, .null), (37, 1, .aload_n 0, 0, 0, 0, .null), (38, 1, .iconst 0, 0, 0, 0, .int (0)), (39, 2, .bipush 20, 0, 0, 0, .int (20)), (41, 3, .invokevirtual 105, 69, 3, 21, .null), (44, 1, .istore_n 2, 2, 0, 0, .null), (45, 1, .aload_n 0, 0, 0, 0, .null), (46, 2, .bipush 59, 0, 0, 0, .int (59)), (48, 3, .invokevirtual 102, 68, 2, 20, .null), (51, 1, .aload_n 0, 0, 0, 0, .null), (52, 3, .getfield 40, 5, 1, 0, .null), (55, 3, .ifCond .ne 8, 63, 0, 0, .null), (58, 1, .aload_n 1, 1, 0, 0, .null), (59, 1, .iload_n 2, 2, 0, 0, .null), (60, 3, .invokevirtual 115, 44, 2, 16, .null), (63, 1, .return_, 0, 0, 0, .null)]
def kX5_numberLine : List zE := [(0, 1, .aload_n 0, 0, 0, 0, .null), (1, 3, .invokevirtual 118, 67, 1, 20, .null), (4, 1, .aload_n 0, 0, 0, 0, .null), (5, 1, .iload_n 1, 1, 0, 0, .null), (6, 1, .iload_n 2, 2, 0, 0, .null), (7, 3, .invokevirtual 105, 69, 3, 21, .null), (10, 1, .istore_n 3, 3, 0, 0, .null), (11, 1, .aload_n 0, 0, 0, 0, .null), (12, 2, .bipush 59, 0, 0, 0, .int (59)), (14, 3, .invokevirtual 102, 68, 2, 20, .null), (17, 1, .iload_n 3, 3, 0, 0, .null), (18, 1, .ireturn, 0, 0, 0, .null)]
def kX5_formulaLine : List zE := [(0, 1, .aload_n 0, 0, 0, 0, .null), (1, 3, .invokevirtual 118, 67, 1, 20, .null), (4, 1, .aload_n 0, 0, 0, 0, .null), (5, 1, .aload_n 1, 1, 0, 0, .null), (6, 1, .iconst 0, 0, 0, 0, .int (0)), (7, 3, .invokevirtual 121, 61, 3, 20, .null), (10, 1, .aload_n 0, 0, 0, 0, .null), (11, 2, .bipush 59, 0, 0, 0, .int (59)), (13, 3, .invokevirtual 102, 68, 2, 20, .null), (16, 1, .return_, 0, 0, 0, .null)]
def kX5_either : List zE := [(0, 1, .aload_n 0, 0, 0, 0, .null), (1, 1, .aload_n 1, 1, 0, 0, .null), (2, 1, .iload_n 2, 2, 0, 0, .null), (3, 3, .invokevirtual 125, 62, 3, 20, .null), (6, 1, .iconst 0, 0, 0, 0, .int (0)), (7, 1, .istore_n 3, 3, 0, 0, .null), (8, 1, .iload_n 3, 3, 0, 0, .null), (9, 3, .sipush 1600, 0, 0, 0, .int (1600)), (12, 3, .if_icmp .ge 41, 53, 0, 0, .null), (15, 1, .aload_n 0, 0, 0, 0, .null), (16, 3, .getfield 40, 5, 1, 0, .null), (19, 3, .ifCond .ne 34, 53, 0, 0, .null), (22, 1, .aload_n 0, 0, 0, 0, .null), (23, 3, .getfield 52, 5, 7, 0, .null), (26, 2, .bipush 109, 0, 0, 0, .int (109)), (28, 3, .if_icmp .ne 25, 53, 0, 0, .null), (31, 1, .aload_n 0, 0, 0, 0, .null), (32, 3, .invokevirtual 49, 73, 1, 20, .null), (35, 1, .aload_n 0, 0, 0, 0, .null), (36, 1, .aload_n 1, 1, 0, 0, .null), (37, 1, .iload_n 2, 2, 0, 0, .null), (38, 3, .invokevirtual 125, 62, 3, 20, .null), (41, 1, .aload_n 1, 1, 0, 0, .null), (42, 2, .bipush (-109), 0, 0, 0, .int (-109)), (44, 3, .invokevirtual 128, 23, 2, 4, .null), (47, 3, .iinc 3 1, 3, 0, 0, .int (1)), (50, 3, .goto (-42), 8, 0, 0, .null), (53, 1, .return_, 0, 0, 0, .null)]
def kX5_both : List zE := [(0, 1, .aload_n 0, 0, 0, 0, .null), (1, 1, .aload_n 1, 1, 0, 0, .null), (2, 1, .iload_n 2, 2, 0, 0, .null), (3, 3, .invokevirtual 133, 63, 3, 20, .null), (6, 1, .iconst 0, 0, 0, 0, .int (0)), (7, 1, .istore_n 3, 3, 0, 0, .null), (8, 1, .iload_n 3, 3, 0, 0, .null), (9, 3, .sipush 1600, 0, 0, 0, .int (1600)), (12, 3, .if_icmp .ge 41, 53, 0, 0, .null), (15, 1, .aload_n 0, 0, 0, 0, .null), (16, 3, .getfield 40, 5, 1, 0, .null), (19, 3, .ifCond .ne 34, 53, 0, 0, .null), (22, 1, .aload_n 0, 0, 0, 0, .null), (23, 3, .getfield 52, 5, 7, 0, .null), (26, 2, .bipush 110, 0, 0, 0, .int (110)), (28, 3, .if_icmp .ne 25, 53, 0, 0, .null), (31, 1, .aload_n 0, 0, 0, 0, .null), (32, 3, .invokevirtual 49, 73, 1, 20, .null), (35, 1, .aload_n 0, 0, 0, 0, .null), (36, 1, .aload_n 1, 1, 0, 0, .null), (37, 1, .iload_n 2, 2, 0, 0, .null), (38, 3, .invokevirtual 133, 63, 3, 20, .null), (41, 1, .aload_n 1, 1, 0, 0, .null), (42, 2, .bipush (-110), 0, 0, 0, .int (-110)), (44, 3, .invokevirtual 128, 23, 2, 4, .null), (47, 3, .iinc 3 1, 3, 0, 0, .int (1)), (50, 3, .goto (-42), 8, 0, 0, .null), (53, 1, .return_, 0, 0, 0, .null)]
def kX5_one : List zE := [(0, 1, .aload_n 0, 0, 0, 0, .null), (1, 3, .getfield 40, 5, 1, 0, .null), (4, 3, .ifCond .ne 43, 47, 0, 0, .null), (7, 1, .aload_n 0, 0, 0, 0, .null), (8, 3, .getfield 52, 5, 7, 0, .null), (11, 2, .bipush 111, 0, 0, 0, .int (111)), (13, 3, .if_icmp .ne 34, 47, 0, 0, .null), (16, 1, .iload_n 2, 2, 0, 0, .null), (17, 2, .bipush 7, 0, 0, 0, .int (7)), (19, 3, .if_icmp .lt 9, 28, 0, 0, .null), (22, 1, .aload_n 0, 0, 0, 0, .null), (23, 1, .iconst 2, 0, 0, 0, .int (2)), (24, 3, .invokevirtual 94, 72, 2, 20, .null), (27, 1, .return_, 0, 0, 0, .null), (28, 1, .aload_n 0, 0, 0, 0, .null), (29, 3, .invokevirtual 49, 73, 1, 20, .null), (32, 1, .aload_n 0, 0, 0, 0, .null), (33, 1, .aload_n 1, 1, 0, 0, .null), (34, 1, .iload_n 2, 2, 0, 0, .null), (35, 1, .iconst 1, 0, 0, 0, .int (1)), (36, 1, .iadd, 0, 0, 0, .null), (37, 3, .invokevirtual 133, 63, 3, 20, .null), (40, 1, .aload_n 1, 1, 0, 0, .null), (41, 2, .bipush (-111), 0, 0, 0, .int (-111)), (43, 3, .invokevirtual 128, 23, 2, 4, .null), (46, 1, .return_, 0, 0, 0, .null), (47, 1, .aload_n 0, 0, 0, 0, .null), (48, 1, .aload_n 1, 1, 0, 0, .null), (49, 1, .iload_n 2, 2, 0, 0, .null), (50, 3, .invokevirtual 136, 64, 3, 20, .null), (53, 1, .aload_n 0, 0, 0, 0, .null), (54, 3, .getfield 40, 5, 1, 0, .null), (57, 3, .ifCond .ne 51, 108, 0, 0, .null), (60, 1, .aload_n 0, 0, 0, 0, .null), (61, 3, .getfield 52, 5, 7, 0, .null), (64, 2, .bipush 60, 0, 0, 0, .int (60)), (66, 3, .if_icmp .eq 21, 87, 0, 0, .null), (69, 1, .aload_n 0, 0, 0, 0, .null), (70, 3, .getfield 52, 5, 7, 0, .null), (73, 2, .bipush 62, 0, 0, 0, .int (62)), (75, 3, .if_icmp .eq 12, 87, 0, 0, .null), (78, 1, .aload_n 0, 0, 0, 0, .null), (79, 3, .getfield 52, 5, 7, 0, .null), (82, 2, .bipush 61, 0, 0, 0, .int (61)), (84, 3, .if_icmp .ne 24, 108, 0, 0, .null), (87, 1, .aload_n 0, 0, 0, 0, .null), (88, 3, .getfield 52, 5, 7, 0, .null), (91, 1, .istore_n 3, 3, 0, 0, .null), (92, 1, .aload_n 0, 0, 0, 0, .null), (93, 3, .invokevirtual 49, 73, 1, 20, .null), (96, 1, .aload_n 0, 0, 0, 0, .null), (97, 1, .aload_n 1, 1, 0, 0, .null), (98, 1, .iload_n 2, 2, 0, 0, .null), (99, 3, .invokevirtual 136, 64, 3, 20, .null), (102, 1, .aload_n 1, 1, 0, 0, .null), (103, 1, .iload_n 3, 3, 0, 0, .null), (104, 1, .ineg, 0, 0, 0, .null), (105, 3, .invokevirtual 128, 23, 2, 4, .null), (108, 1, .return_, 0, 0, 0, .null)]
def kX5_sum : List zE := [(0, 1, .aload_n 0, 0, 0, 0, .null), (1, 1, .aload_n 1, 1, 0, 0, .null), (2, 1, .iload_n 2, 2, 0, 0, .null), (3, 3, .invokevirtual 139, 65, 3, 20, .null), (6, 1, .iconst 0, 0, 0, 0, .int (0)), (7, 1, .istore_n 3, 3, 0, 0, .null), (8, 1, .iload_n 3, 3, 0, 0, .null), (9, 3, .sipush 1600, 0, 0, 0, .int (1600)), (12, 3, .if_icmp .ge 57, 69, 0, 0, .null), (15, 1, .aload_n 0, 0, 0, 0, .null), (16, 3, .getfield 40, 5, 1, 0, .null), (19, 3, .ifCond .ne 50, 69, 0, 0, .null), (22, 1, .aload_n 0, 0, 0, 0, .null), (23, 3, .getfield 52, 5, 7, 0, .null), (26, 2, .bipush 43, 0, 0, 0, .int (43)), (28, 3, .if_icmp .eq 12, 40, 0, 0, .null), (31, 1, .aload_n 0, 0, 0, 0, .null), (32, 3, .getfield 52, 5, 7, 0, .null), (35, 2, .bipush 45, 0, 0, 0, .int (45)), (37, 3, .if_icmp .ne 32, 69, 0, 0, .null), (40, 1, .aload_n 0, 0, 0, 0, .null), (41, 3, .getfield 52, 5, 7, 0, .null), (44, 2, .istore 4, 4, 0, 0, .null), (46, 1, .aload_n 0, 0, 0, 0, .null), (47, 3, .invokevirtual 49, 73, 1, 20, .null), (50, 1, .aload_n 0, 0, 0, 0, .null), (51, 1, .aload_n 1, 1, 0, 0, .null), (52, 1, .iload_n 2, 2, 0, 0, .null), (53, 3, .invokevirtual 139, 65, 3, 20, .null), (56, 1, .aload_n 1, 1, 0, 0, .null), (57, 2, .iload 4, 4, 0, 0, .null), (59, 1, .ineg, 0, 0, 0, .null), (60, 3, .invokevirtual 128, 23, 2, 4, .null), (63, 3, .iinc 3 1, 3, 0, 0, .int (1)), (66, 3, .goto (-58), 8, 0, 0, .null), (69, 1, .return_, 0, 0, 0, .null)]
def kX5_term : List zE := [(0, 1, .aload_n 0, 0, 0, 0, .null), (1, 1, .aload_n 1, 1, 0, 0, .null), (2, 1, .iload_n 2, 2, 0, 0, .null), (3, 3, .invokevirtual 142, 66, 3, 20, .null), (6, 1, .iconst 0, 0, 0, 0, .int (0)), (7, 1, .istore_n 3, 3, 0, 0, .null), (8, 1, .iload_n 3, 3, 0, 0, .null), (9, 3, .sipush 1600, 0, 0, 0, .int (1600)), (12, 3, .if_icmp .ge 66, 78, 0, 0, .null), (15, 1, .aload_n 0, 0, 0, 0, .null), (16, 3, .getfield 40, 5, 1, 0, .null), (19, 3, .ifCond .ne 59, 78, 0, 0, .null), (22, 1, .aload_n 0, 0, 0, 0, .null), (23, 3, .getfield 52, 5, 7, 0, .null), (26, 2, .bipush 42, 0, 0, 0, .int (42)), (28, 3, .if_icmp .eq 21, 49, 0, 0, .null), (31, 1, .aload_n 0, 0, 0, 0, .null), (32, 3, .getfield 52, 5, 7, 0, .null), (35, 2, .bipush 47, 0, 0, 0, .int (47)), (37, 3, .if_icmp .eq 12, 49, 0, 0, .null), (40, 1, .aload_n 0, 0, 0, 0, .null), (41, 3, .getfield 52, 5, 7, 0, .null), (44, 2, .bipush 37, 0, 0, 0, .int (37)), (46, 3, .if_icmp .ne 32, 78, 0, 0, .null), (49, 1, .aload_n 0, 0, 0, 0, .null), (50, 3, .getfield 52, 5, 7, 0, .null), (53, 2, .istore 4, 4, 0, 0, .null), (55, 1, .aload_n 0, 0, 0, 0, .null), (56, 3, .invokevirtual 49, 73, 1, 20, .null), (59, 1, .aload_n 0, 0, 0, 0, .null), (60, 1, .aload_n 1, 1, 0, 0, .null), (61, 1, .iload_n 2, 2, 0, 0, .null), (62, 3, .invokevirtual 142, 66, 3, 20, .null), (65, 1, .aload_n 1, 1, 0, 0, .null), (66, 2, .iload 4, 4, 0, 0, .null), (68, 1, .ineg, 0, 0, 0, .null), (69, 3, .invokevirtual 128, 23, 2, 4, .null), (72, 3, .iinc 3 1, 3, 0, 0, .int (1)), (75, 3, .goto (-67), 8, 0, 0, .null), (78, 1, .return_, 0, 0, 0, .null)]
def kX5_unit : List zE := [(0, 1, .aload_n 0, 0, 0, 0, .null), (1, 3, .getfield 40, 5, 1, 0, .null), (4, 3, .ifCond .eq 4, 8, 0, 0, .null), (7, 1, .return_, 0, 0, 0, .null), (8, 1, .aload_n 0, 0, 0, 0, .null), (9, 3, .getfield 52, 5, 7, 0, .null), (12, 2, .bipush 112, 0, 0, 0, .int (112)), (14, 3, .if_icmp .lt 16, 30, 0, 0, .null), (17, 1, .aload_n 0, 0, 0, 0, .null), (18, 3, .getfield 52, 5, 7, 0, .null), (21, 2, .bipush 117, 0, 0, 0, .int (117)), (23, 3, .if_icmp .gt 7, 30, 0, 0, .null), (26, 1, .iconst 1, 0, 0, 0, .int (1)), (27, 3, .goto 4, 31, 0, 0, .null), (30, 1, .iconst 0, 0, 0, 0, .int (0)), (31, 1, .istore_n 3, 3, 0, 0, .null), (32, 1, .aload_n 0, 0, 0, 0, .null), (33, 3, .getfield 52, 5, 7, 0, .null), (36, 2, .bipush 40, 0, 0, 0, .int (40)), (38, 3, .if_icmp .ne 13, 51, 0, 0, .null), (41, 1, .iload_n 2, 2, 0, 0, .null), (42, 2, .bipush 7, 0, 0, 0, .int (7)), (44, 3, .if_icmp .lt 7, 51, 0, 0, .null), (47, 1, .iconst 1, 0, 0, 0, .int (1)), (48, 3, .goto 4, 52, 0, 0, .null), (51, 1, .iconst 0, 0, 0, 0, .int (0)), (52, 2, .istore 4, 4, 0, 0, .null), (54, 1, .aload_n 0, 0, 0, 0, .null), (55, 3, .getfield 52, 5, 7, 0, .null), (58, 1, .iconst 2, 0, 0, 0, .int (2)), (59, 3, .if_icmp .eq 16, 75, 0, 0, .null), (62, 1, .aload_n 0, 0, 0, 0, .null), (63, 3, .getfield 52, 5, 7, 0, .null), (66, 2, .bipush 40, 0, 0, 0, .int (40)), (68, 3, .if_icmp .eq 7, 75, 0, 0, .null), (71, 1, .iload_n 3, 3, 0, 0, .null), (72, 3, .ifCond .eq 17, 89, 0, 0, .null), (75, 2, .iload 4, 4, 0, 0, .null), (77, 3, .ifCond .ne 12, 89, 0, 0, .null), (80, 1, .aload_n 1, 1, 0, 0, .null), (81, 3, .getfield 145, 1, 1, 0, .null), (84, 2, .bipush 30, 0, 0, 0, .int (30)), (86, 3, .if_icmp .lt 8, 94, 0, 0, .null), (89, 1, .aload_n 0, 0, 0, 0, .null), (90, 3, .invokevirtual 88, 71, 1, 20, .null), (93, 1, .return_, 0, 0, 0, .null), (94, 1, .aload_n 1, 1, 0, 0, .null), (95, 1, .dup, 0, 0, 0, .null), (96, 3, .getfield 145, 1, 1, 0, .null), (99, 1, .iconst 1, 0, 0, 0, .int (1)), (100, 1, .iadd, 0, 0, 0, .null), (101, 3, .putfield 145, 1, 1, 0, .null), (104, 1, .aload_n 0, 0, 0, 0, .null), (105, 3, .getfield 52, 5, 7, 0, .null), (108, 2, .bipush 40, 0, 0, 0, .int (40)), (110, 3, .if_icmp .ne 22, 132, 0, 0, .null), (113, 1, .aload_n 0, 0, 0, 0, .null), (114, 3, .invokevirtual 49, 73, 1, 20, .null), (117, 1, .aload_n 0, 0, 0, 0, .null), (118, 1, .aload_n 1, 1, 0, 0, .null), (119, 1, .iload_n 2, 2, 0, 0, .null), (120, 1, .iconst 1, 0, 0, 0, .int (1)), (121, 1, .iadd, 0, 0, 0, .null), (122, 3, .invokevirtual 121, 61, 3, 20, .null), (125, 1, .aload_n 0, 0, 0, 0, .null), (126, 2, .bipush 41, 0, 0, 0, .int (41)), (128, 3, .invokevirtual 102, 68, 2, 20, .null), (131, 1, .return_, 0, 0, 0, .null), (132, 1, .aload_n 1, 1, 0, 0, .null), (133, 1, .iload_n 3, 3, 0, 0, .null), (134, 3, .ifCond .eq 11, 145, 0, 0, .null), (137, 1, .aload_n 0, 0, 0, 0, .null), (138, 3, .getfield 52, 5, 7, 0, .null), (141, 1, .ineg, 0, 0, 0, .null), (142, 3, .goto 7, 149, 0, 0, .null), (145, 1, .aload_n 0, 0, 0, 0, .null), (146, 3, .getfield 148, 5, 10, 0, .null), (149, 3, .invokevirtual 128, 23, 2, 4, .null), (152, 1, .aload_n 0, 0, 0, 0, .null), (153, 3, .invokevirtual 49, 73, 1, 20, .null), (156, 1, .return_, 0, 0, 0, .null)]
def kX5_takeOnce : List zE := [(0, 1, .iconst 1, 0, 0, 0, .int (1)), (1, 1, .aload_n 0, 0, 0, 0, .null), (2, 3, .getfield 52, 5, 7, 0, .null), (5, 2, .bipush 100, 0, 0, 0, .int (100)), (7, 1, .isub, 0, 0, 0, .null), (8, 1, .ishl, 0, 0, 0, .null), (9, 1, .istore_n 1, 1, 0, 0, .null), (10, 1, .aload_n 0, 0, 0, 0, .null), (11, 3, .getfield 43, 5, 6, 0, .null), (14, 1, .iload_n 1, 1, 0, 0, .null), (15, 1, .iand, 0, 0, 0, .null), (16, 3, .ifCond .eq 9, 25, 0, 0, .null), (19, 1, .aload_n 0, 0, 0, 0, .null), (20, 1, .iconst 2, 0, 0, 0, .int (2)), (21, 3, .invokevirtual 94, 72, 2, 20, .null), (24, 1, .return_, 0, 0, 0, .null), (25, 1, .aload_n 0, 0, 0, 0, .null), (26, 1, .dup, 0, 0, 0, .null), (27, 3, .getfield 43, 5, 6, 0, .null), (30, 1, .iload_n 1, 1, 0, 0, .null), (31, 1, .ior, 0, 0, 0, .null), (32, 3, .putfield 43, 5, 6, 0, .null), (35, 1, .aload_n 0, 0, 0, 0, .null), (36, 3, .invokevirtual 49, 73, 1, 20, .null), (39, 1, .return_, 0, 0, 0, .null)]
def kX5_take : List zE := [(0, 1, .aload_n 0, 0, 0, 0, .null), (1, 3, .getfield 40, 5, 1, 0, .null), (4, 3, .ifCond .eq 4, 8, 0, 0, .null), (7, 1, .return_, 0, 0, 0, .null), (8, 1, .aload_n 0, 0, 0, 0, .null), (9, 3, .getfield 52, 5, 7, 0, .null), (12, 1, .iload_n 1, 1, 0, 0, .null), (13, 3, .if_icmp .eq 8, 21, 0, 0, .null), (16, 1, .aload_n 0, 0, 0, 0, .null), (17, 3, .invokevirtual 88, 71, 1, 20, .null), (20, 1, .return_, 0, 0, 0, .null), (21, 1, .aload_n 0, 0, 0, 0, .null), (22, 3, .invokevirtual 49, 73, 1, 20, .null), (25, 1, .return_, 0, 0, 0, .null)]
def kX5_takeNumber : List zE := [(0, 1, .aload_n 0, 0, 0, 0, .null), (1, 3, .getfield 40, 5, 1, 0, .null), (4, 3, .ifCond .eq 5, 9, 0, 0, .null), (7, 1, .iload_n 1, 1, 0, 0, .null), (8, 1, .ireturn, 0, 0, 0, .null), (9, 1, .aload_n 0, 0, 0, 0, .null), (10, 3, .getfield 52, 5, 7, 0, .null), (13, 1, .iconst 2, 0, 0, 0, .int (2)), (14, 3, .if_icmp .eq 9, 23, 0, 0, .null), (17, 1, .aload_n 0, 0, 0, 0, .null), (18, 3, .invokevirtual 88, 71, 1, 20, .null), (21, 1, .iload_n 1, 1, 0, 0, .null), (22, 1, .ireturn, 0, 0, 0, .null), (23, 1, .aload_n 0, 0, 0, 0, .null), (24, 3, .getfield 148, 5, 10, 0, .null), (27, 1, .iload_n 1, 1, 0, 0, .null), (28, 3, .if_icmp .lt 11, 39, 0, 0, .null), (31, 1, .aload_n 0, 0, 0, 0, .null), (32, 3, .getfield 148, 5, 10, 0, .null), (35, 1, .iload_n 2, 2, 0, 0, .null), (36, 3, .if_icmp .le 10, 46, 0, 0, .null), (39, 1, .aload_n 0, 0, 0, 0, .null), (40, 1, .iconst 4, 0, 0, 0, .int (4)), (41, 3, .invokevirtual 94, 72, 2, 20, .null), (44, 1, .iload_n 1, 1, 0, 0, .null), (45, 1, .ireturn, 0, 0, 0, .null), (46, 1, .aload_n 0, 0, 0, 0, .null), (47, 3, .getfield 148, 5, 10, 0, .null), (50, 1, .istore_n 3, 3, 0, 0, .null), (51, 1, .aload_n 0, 0, 0, 0, .null), (52, 3, .invokevirtual 49, 73, 1, 20, .null), (55, 1, .iload_n 3, 3, 0, 0, .null), (56, 1, .ireturn, 0, 0, 0, .null)]
def kX5_takeName : List zE := [(0, 1, .aload_n 0, 0, 0, 0, .null), (1, 3, .getfield 52, 5, 7, 0, .null), (4, 1, .iconst 3, 0, 0, 0, .int (3)), (5, 3, .if_icmp .eq 8, 13, 0, 0, .null), (8, 1, .aload_n 0, 0, 0, 0, .null), (9, 3, .invokevirtual 88, 71, 1, 20, .null), (12, 1, .return_, 0, 0, 0, .null), (13, 1, .iconst 0, 0, 0, 0, .int (0)), (14, 1, .istore_n 3, 3, 0, 0, .null), (15, 1, .iload_n 3, 3, 0, 0, .null), (16, 1, .iload_n 2, 2, 0, 0, .null), (17, 3, .if_icmp .ge 32, 49, 0, 0, .null), (20, 1, .iload_n 3, 3, 0, 0, .null), (21, 1, .aload_n 1, 1, 0, 0, .null), (22, 1, .arraylength, 0, 0, 0, .null), (23, 3, .if_icmp .ge 26, 49, 0, 0, .null), (26, 1, .aload_n 1, 1, 0, 0, .null), (27, 1, .iload_n 3, 3, 0, 0, .null), (28, 1, .laload, 0, 0, 0, .null), (29, 1, .aload_n 0, 0, 0, 0, .null), (30, 3, .getfield 151, 5, 11, 3, .null), (33, 1, .lcmp, 0, 0, 0, .null), (34, 3, .ifCond .ne 9, 43, 0, 0, .null), (37, 1, .aload_n 0, 0, 0, 0, .null), (38, 1, .iconst 3, 0, 0, 0, .int (3)), (39, 3, .invokevirtual 94, 72, 2, 20, .null), (42, 1, .return_, 0, 0, 0, .null), (43, 3, .iinc 3 1, 3, 0, 0, .int (1)), (46, 3, .goto (-31), 15, 0, 0, .null), (49, 1, .iload_n 2, 2, 0, 0, .null), (50, 3, .ifCond .lt 16, 66, 0, 0, .null), (53, 1, .iload_n 2, 2, 0, 0, .null), (54, 1, .aload_n 1, 1, 0, 0, .null), (55, 1, .arraylength, 0, 0, 0, .null), (56, 3, .if_icmp .ge 10, 66, 0, 0, .null), (59, 1, .aload_n 1, 1, 0, 0, .null), (60, 1, .iload_n 2, 2, 0, 0, .null), (61, 1, .aload_n 0, 0, 0, 0, .null), (62, 3, .getfield 151, 5, 11, 3, .null), (65, 1, .lastore, 0, 0, 0, .null), (66, 1, .aload_n 0, 0, 0, 0, .null), (67, 3, .invokevirtual 49, 73, 1, 20, .null), (70, 1, .return_, 0, 0, 0, .null)]
def kX5_refuse : List zE := [(0, 1, .aload_n 0, 0, 0, 0, .null), (1, 1, .aload_n 0, 0, 0, 0, .null), (2, 3, .getfield 52, 5, 7, 0, .null), (5, 3, .ifCond .ne 7, 12, 0, 0, .null), (8, 1, .iconst 1, 0, 0, 0, .int (1)), (9, 3, .goto 4, 13, 0, 0, .null), (12, 1, .iconst 2, 0, 0, 0, .int (2)), (13, 3, .invokevirtual 94, 72, 2, 20, .null), (16, 1, .return_, 0, 0, 0, .null)]
def kX5_fail : List zE := [(0, 1, .aload_n 0, 0, 0, 0, .null), (1, 3, .getfield 40, 5, 1, 0, .null), (4, 3, .ifCond .ne 16, 20, 0, 0, .null), (7, 1, .aload_n 0, 0, 0, 0, .null), (8, 1, .iload_n 1, 1, 0, 0, .null), (9, 3, .putfield 40, 5, 1, 0, .null), (12, 1, .aload_n 0, 0, 0, 0, .null), (13, 1, .aload_n 0, 0, 0, 0, .null), (14, 3, .getfield 155, 5, 8, 0, .null), (17, 3, .putfield 9, 5, 2, 0, .null), (20, 1, .return_, 0, 0, 0, .null)]
def kX5_advance : List zE := [(0, 1, .aload_n 0, 0, 0, 0, .null), (1, 1, .aload_n 0, 0, 0, 0, .null), (2, 3, .getfield 46, 5, 9, 0, .null), (5, 3, .putfield 155, 5, 8, 0, .null), (8, 1, .aload_n 0, 0, 0, 0, .null), (9, 3, .getfield 155, 5, 8, 0, .null), (12, 1, .aload_n 0, 0, 0, 0, .null), (13, 3, .getfield 37, 5, 0, 0, .null), (16, 3, .if_icmp .ge 44, 60, 0, 0, .null), (19, 1, .aload_n 0, 0, 0, 0, .null), (20, 3, .getfield 15, 5, 3, 4, .null), (23, 1, .aload_n 0, 0, 0, 0, .null), (24, 3, .getfield 155, 5, 8, 0, .null), (27, 1, .baload, 0, 0, 1, .null), (28, 2, .bipush 32, 0, 0, 0, .int (32)), (30, 3, .if_icmp .eq 17, 47, 0, 0, .null), (33, 1, .aload_n 0, 0, 0, 0, .null), (34, 3, .getfield 15, 5, 3, 4, .null), (37, 1, .aload_n 0, 0, 0, 0, .null), (38, 3, .getfield 155, 5, 8, 0, .null), (41, 1, .baload, 0, 0, 1, .null), (42, 2, .bipush 10, 0, 0, 0, .int (10)), (44, 3, .if_icmp .ne 16, 60, 0, 0, .null), (47, 1, .aload_n 0, 0, 0, 0, .null), (48, 1, .dup, 0, 0, 0, .null), (49, 3, .getfield 155, 5, 8, 0, .null), (52, 1, .iconst 1, 0, 0, 0, .int (1)), (53, 1, .iadd, 0, 0, 0, .null), (54, 3, .putfield 155, 5, 8, 0, .null), (57, 3, .goto (-49), 8, 0, 0, .null), (60, 1, .aload_n 0, 0, 0, 0, .null), (61, 1, .aload_n 0, 0, 0, 0, .null), (62, 3, .getfield 155, 5, 8, 0, .null), (65, 3, .putfield 46, 5, 9, 0, .null), (68, 1, .aload_n 0, 0, 0, 0, .null), (69, 3, .getfield 155, 5, 8, 0, .null), (72, 1, .aload_n 0, 0, 0, 0, .null), (73, 3, .getfield 37, 5, 0, 0, .null), (76, 3, .if_icmp .lt 11, 87, 0, 0, .null), (79, 1, .aload_n 0, 0, 0, 0, .null), (80, 1, .iconst 1, 0, 0, 0, .int (1)), (81, 3, .putfield 52, 5, 7, 0, .null), (84, 3, .goto 90, 174, 0, 0, .null), (87, 1, .aload_n 0, 0, 0, 0, .null), (88, 3, .getfield 15, 5, 3, 4, .null), (91, 1, .aload_n 0, 0, 0, 0, .null), (92, 3, .getfield 155, 5, 8, 0, .null), (95, 1, .baload, 0, 0, 1, .null), (96, 3, .invokestatic 158, 76, 1, 1, .null), (99, 3, .ifCond .eq 10, 109, 0, 0, .null), (102, 1, .aload_n 0, 0, 0, 0, .null), (103, 3, .invokevirtual 162, 74, 1, 20, .null), (106, 3, .goto 68, 174, 0, 0, .null), (109, 1, .aload_n 0, 0, 0, 0, .null), (110, 3, .getfield 15, 5, 3, 4, .null), (113, 1, .aload_n 0, 0, 0, 0, .null), (114, 3, .getfield 155, 5, 8, 0, .null), (117, 1, .baload, 0, 0, 1, .null), (118, 3, .invokestatic 165, 77, 1, 1, .null), (121, 3, .ifCond .eq 10, 131, 0, 0, .null), (124, 1, .aload_n 0, 0, 0, 0, .null), (125, 3, .invokevirtual 168, 75, 1, 20, .null), (128, 3, .goto 46, 174, 0, 0, .null), (131, 1, .aload_n 0, 0, 0, 0, .null), (132, 3, .getfield 15, 5, 3, 4, .null), (135, 1, .aload_n 0, 0, 0, 0, .null), (136, 3, .getfield 155, 5, 8, 0, .null), (139, 1, .baload, 0, 0, 1, .null), (140, 3, .sipush 255, 0, 0, 0, .int (255)), (143, 1, .iand, 0, 0, 0, .null), (144, 1, .i2c, 0, 0, 0, .null), (145, 1, .istore_n 1, 1, 0, 0, .null), (146, 1, .aload_n 0, 0, 0, 0, .null), (147, 2, .ldc 171, 0, 0, 0, .retAddr 4), (149, 1, .iload_n 1, 1, 0, 0, .null), (150, 3, .invokevirtual 173, 17, 2, 53, .null), (153, 3, .ifCond .lt 7, 160, 0, 0, .null), (156, 1, .iload_n 1, 1, 0, 0, .null), (157, 3, .goto 4, 161, 0, 0, .null), (160, 1, .iconst 0, 0, 0, 0, .int (0)), (161, 3, .putfield 52, 5, 7, 0, .null), (164, 1, .aload_n 0, 0, 0, 0, .null), (165, 1, .aload_n 0, 0, 0, 0, .null), (166, 3, .getfield 155, 5, 8, 0, .null), (169, 1, .iconst 1, 0, 0, 0, .int (1)), (170, 1, .iadd, 0, 0, 0, .null), (171, 3, .putfield 46, 5, 9, 0, .null), (174, 1, .return_, 0, 0, 0, .null)]
def kX5_scanWord : List zE := [(0, 1, .aload_n 0, 0, 0, 0, .null), (1, 1, .lconst 0, 0, 0, 0, .long (0)), (2, 3, .putfield 151, 5, 11, 3, .null), (5, 1, .aload_n 0, 0, 0, 0, .null), (6, 3, .getfield 46, 5, 9, 0, .null), (9, 1, .aload_n 0, 0, 0, 0, .null), (10, 3, .getfield 37, 5, 0, 0, .null), (13, 3, .if_icmp .ge 55, 68, 0, 0, .null), (16, 1, .aload_n 0, 0, 0, 0, .null), (17, 3, .getfield 15, 5, 3, 4, .null), (20, 1, .aload_n 0, 0, 0, 0, .null), (21, 3, .getfield 46, 5, 9, 0, .null), (24, 1, .baload, 0, 0, 1, .null), (25, 3, .invokestatic 158, 76, 1, 1, .null), (28, 3, .ifCond .eq 40, 68, 0, 0, .null), (31, 1, .aload_n 0, 0, 0, 0, .null), (32, 1, .aload_n 0, 0, 0, 0, .null), (33, 3, .getfield 151, 5, 11, 3, .null), (36, 1, .iconst 5, 0, 0, 0, .int (5)), (37, 1, .lshl, 0, 0, 0, .null), (38, 1, .aload_n 0, 0, 0, 0, .null), (39, 3, .getfield 15, 5, 3, 4, .null), (42, 1, .aload_n 0, 0, 0, 0, .null), (43, 3, .getfield 46, 5, 9, 0, .null), (46, 1, .baload, 0, 0, 1, .null), (47, 2, .bipush 31, 0, 0, 0, .int (31)), (49, 1, .iand, 0, 0, 0, .null), (50, 1, .i2l, 0, 0, 0, .null), (51, 1, .lor, 0, 0, 0, .null), (52, 3, .putfield 151, 5, 11, 3, .null), (55, 1, .aload_n 0, 0, 0, 0, .null), (56, 1, .dup, 0, 0, 0, .null), (57, 3, .getfield 46, 5, 9, 0, .null), (60, 1, .iconst 1, 0, 0, 0, .int (1)), (61, 1, .iadd, 0, 0, 0, .null), (62, 3, .putfield 46, 5, 9, 0, .null), (65, 3, .goto (-60), 5, 0, 0, .null), (68, 1, .aload_n 0, 0, 0, 0, .null), (69, 1, .aload_n 0, 0, 0, 0, .null), (70, 3, .getfield 46, 5, 9, 0, .null), (73, 1, .aload_n 0, 0, 0, 0, .null), (74, 3, .getfield 155, 5, 8, 0, .null), (77, 1, .isub, 0, 0, 0, .null), (78, 2, .bipush 8, 0, 0, 0, .int (8)), (80, 3, .if_icmp .le 7, 87, 0, 0, .null), (83, 1, .iconst 0, 0, 0, 0, .int (0)), (84, 3, .goto 4, 88, 0, 0, .null), (87, 1, .iconst 3, 0, 0, 0, .int (3)), (88, 3, .putfield 52, 5, 7, 0, .null), (91, 1, .iconst 0, 0, 0, 0, .int (0)), (92, 1, .istore_n 1, 1, 0, 0, .null), (93, 1, .iload_n 1, 1, 0, 0, .null), (94, 2, .bipush 18, 0, 0, 0, .int (18)), (96, 3, .if_icmp .ge 39, 135, 0, 0, .null), (99, 1, .aload_n 0, 0, 0, 0, .null), (100, 3, .getfield 52, 5, 7, 0, .null), (103, 1, .iconst 3, 0, 0, 0, .int (3)), (104, 3, .if_icmp .ne 31, 135, 0, 0, .null), (107, 1, .aload_n 0, 0, 0, 0, .null), (108, 3, .getfield 26, 5, 12, 4, .null), (111, 1, .iload_n 1, 1, 0, 0, .null), (112, 1, .laload, 0, 0, 0, .null), (113, 1, .aload_n 0, 0, 0, 0, .null), (114, 3, .getfield 151, 5, 11, 3, .null), (117, 1, .lcmp, 0, 0, 0, .null), (118, 3, .ifCond .ne 11, 129, 0, 0, .null), (121, 1, .aload_n 0, 0, 0, 0, .null), (122, 2, .bipush 100, 0, 0, 0, .int (100)), (124, 1, .iload_n 1, 1, 0, 0, .null), (125, 1, .iadd, 0, 0, 0, .null), (126, 3, .putfield 52, 5, 7, 0, .null), (129, 3, .iinc 1 1, 1, 0, 0, .int (1)), (132, 3, .goto (-39), 93, 0, 0, .null), (135, 1, .return_, 0, 0, 0, .null)]
def kX5_scanNumber : List zE := [(0, 1, .aload_n 0, 0, 0, 0, .null), (1, 1, .iconst 0, 0, 0, 0, .int (0)), (2, 3, .putfield 148, 5, 10, 0, .null), (5, 1, .aload_n 0, 0, 0, 0, .null), (6, 3, .getfield 46, 5, 9, 0, .null), (9, 1, .aload_n 0, 0, 0, 0, .null), (10, 3, .getfield 37, 5, 0, 0, .null), (13, 3, .if_icmp .ge 55, 68, 0, 0, .null), (16, 1, .aload_n 0, 0, 0, 0, .null), (17, 3, .getfield 15, 5, 3, 4, .null), (20, 1, .aload_n 0, 0, 0, 0, .null), (21, 3, .getfield 46, 5, 9, 0, .null), (24, 1, .baload, 0, 0, 1, .null), (25, 3, .invokestatic 165, 77, 1, 1, .null), (28, 3, .ifCond .eq 40, 68, 0, 0, .null), (31, 1, .aload_n 0, 0, 0, 0, .null), (32, 1, .aload_n 0, 0, 0, 0, .null), (33, 3, .getfield 148, 5, 10, 0, .null), (36, 2, .bipush 10, 0, 0, 0, .int (10)), (38, 1, .imul, 0, 0, 0, .null), (39, 1, .aload_n 0, 0, 0, 0, .null), (40, 3, .getfield 15, 5, 3, 4, .null), (43, 1, .aload_n 0, 0, 0, 0, .null), (44, 3, .getfield 46, 5, 9, 0, .null), (47, 1, .baload, 0, 0, 1, .null), (48, 1, .iadd, 0, 0, 0, .null), (49, 2, .bipush 48, 0, 0, 0, .int (48)), (51, 1, .isub, 0, 0, 0, .null), (52, 3, .putfield 148, 5, 10, 0, .null), (55, 1, .aload_n 0, 0, 0, 0, .null), (56, 1, .dup, 0, 0, 0, .null), (57, 3, .getfield 46, 5, 9, 0, .null), (60, 1, .iconst 1, 0, 0, 0, .int (1)), (61, 1, .iadd, 0, 0, 0, .null), (62, 3, .putfield 46, 5, 9, 0, .null), (65, 3, .goto (-60), 5, 0, 0, .null), (68, 1, .aload_n 0, 0, 0, 0, .null), (69, 3, .getfield 46, 5, 9, 0, .null), (72, 1, .aload_n 0, 0, 0, 0, .null), (73, 3, .getfield 37, 5, 0, 0, .null), (76, 3, .if_icmp .ge 22, 98, 0, 0, .null), (79, 1, .aload_n 0, 0, 0, 0, .null), (80, 3, .getfield 15, 5, 3, 4, .null), (83, 1, .aload_n 0, 0, 0, 0, .null), (84, 3, .getfield 46, 5, 9, 0, .null), (87, 1, .baload, 0, 0, 1, .null), (88, 3, .invokestatic 158, 76, 1, 1, .null), (91, 3, .ifCond .eq 7, 98, 0, 0, .null), (94, 1, .iconst 1, 0, 0, 0, .int (1)), (95, 3, .goto 4, 99, 0, 0, .null), (98, 1, .iconst 0, 0, 0, 0, .int (0)), (99, 1, .istore_n 1, 1, 0, 0, .null), (100, 1, .aload_n 0, 0, 0, 0, .null), (101, 1, .aload_n 0, 0, 0, 0, .null), (102, 3, .getfield 46, 5, 9, 0, .null), (105, 1, .aload_n 0, 0, 0, 0, .null), (106, 3, .getfield 155, 5, 8, 0, .null), (109, 1, .isub, 0, 0, 0, .null), (110, 1, .iconst 4, 0, 0, 0, .int (4)), (111, 3, .if_icmp .gt 7, 118, 0, 0, .null), (114, 1, .iload_n 1, 1, 0, 0, .null), (115, 3, .ifCond .eq 7, 122, 0, 0, .null), (118, 1, .iconst 0, 0, 0, 0, .int (0)), (119, 3, .goto 4, 123, 0, 0, .null), (122, 1, .iconst 2, 0, 0, 0, .int (2)), (123, 3, .putfield 52, 5, 7, 0, .null), (126, 1, .return_, 0, 0, 0, .null)]
def kX5_isLetter : List zE := [(0, 1, .iload_n 0, 0, 0, 0, .null), (1, 2, .bipush 97, 0, 0, 0, .int (97)), (3, 3, .if_icmp .lt 13, 16, 0, 0, .null), (6, 1, .iload_n 0, 0, 0, 0, .null), (7, 2, .bipush 122, 0, 0, 0, .int (122)), (9, 3, .if_icmp .gt 7, 16, 0, 0, .null), (12, 1, .iconst 1, 0, 0, 0, .int (1)), (13, 3, .goto 4, 17, 0, 0, .null), (16, 1, .iconst 0, 0, 0, 0, .int (0)), (17, 1, .ireturn, 0, 0, 2, .null)]
def kX5_isDigit : List zE := [(0, 1, .iload_n 0, 0, 0, 0, .null), (1, 2, .bipush 48, 0, 0, 0, .int (48)), (3, 3, .if_icmp .lt 13, 16, 0, 0, .null), (6, 1, .iload_n 0, 0, 0, 0, .null), (7, 2, .bipush 57, 0, 0, 0, .int (57)), (9, 3, .if_icmp .gt 7, 16, 0, 0, .null), (12, 1, .iconst 1, 0, 0, 0, .int (1)), (13, 3, .goto 4, 17, 0, 0, .null), (16, 1, .iconst 0, 0, 0, 0, .int (0)), (17, 1, .ireturn, 0, 0, 2, .null)]
def kX6_init : List zE := [(0, 1, .aload_n 0, 0, 0, 0, .null), (1, 3, .invokespecial 3, 0, 0, 9, .null), (4, 1, .aload_n 0, 0, 0, 0, .null), (5, 2, .bipush 7, 0, 0, 0, .int (7)), (7, 2, .newarray .int, 0, 0, 0, .null), (9, 3, .putfield 9, 6, 0, 4, .null), (12, 1, .return_, 0, 0, 0, .null)]
def kX6_begin : List zE := [(0, 1, .aload_n 0, 0, 0, 0, .null), (1, 3, .getfield 9, 6, 0, 4, .null), (4, 1, .iconst 0, 0, 0, 0, .int (0)), (5, 3, .invokestatic 15, 5, 2, 0, .null), (8, 1, .aload_n 0, 0, 0, 0, .null), (9, 1, .aload_n 1, 1, 0, 0, .null), (10, 3, .getfield 21, 4, 1, 0, .null), (13, 3, .putfield 27, 6, 1, 0, .null), (16, 1, .aload_n 0, 0, 0, 0, .null), (17, 1, .iconst 0, 0, 0, 0, .int (0)), (18, 3, .putfield 28, 6, 2, 0, .null), (21, 1, .aload_n 0, 0, 0, 0, .null), (22, 1, .iconst 0, 0, 0, 0, .int (0)), (23, 3, .putfield 31, 6, 3, 0, .null), (26, 1, .aload_n 0, 0, 0, 0, .null), (27, 1, .aload_n 1, 1, 0, 0, .null), (28, 3, .getfield 34, 4, 9, 0, .null), (31, 3, .putfield 37, 6, 4, 0, .null), (34, 1, .return_, 0, 0, 0, .null)]
def kX6_copy : List zE := [(0, 1, .aload_n 1, 1, 0, 0, .null), (1, 3, .getfield 9, 6, 0, 4, .null), (4, 1, .iconst 0, 0, 0, 0, .int (0)), (5, 1, .aload_n 0, 0, 0, 0, .null), (6, 3, .getfield 9, 6, 0, 4, .null), (9, 1, .iconst 0, 0, 0, 0, .int (0)), (10, 2, .bipush 7, 0, 0, 0, .int (7)), (12, 3, .invokestatic 40, 0, 0, 8, .null), (15, 1, .aload_n 0, 0, 0, 0, .null), (16, 1, .aload_n 1, 1, 0, 0, .null), (17, 3, .getfield 27, 6, 1, 0, .null), (20, 3, .putfield 27, 6, 1, 0, .null), (23, 1, .aload_n 0, 0, 0, 0, .null), (24, 1, .aload_n 1, 1, 0, 0, .null), (25, 3, .getfield 28, 6, 2, 0, .null), (28, 3, .putfield 28, 6, 2, 0, .null), (31, 1, .aload_n 0, 0, 0, 0, .null), (32, 1, .aload_n 1, 1, 0, 0, .null), (33, 3, .getfield 31, 6, 3, 0, .null), (36, 3, .putfield 31, 6, 3, 0, .null), (39, 1, .aload_n 0, 0, 0, 0, .null), (40, 1, .aload_n 1, 1, 0, 0, .null), (41, 3, .getfield 37, 6, 4, 0, .null), (44, 3, .putfield 37, 6, 4, 0, .null), (47, 1, .return_, 0, 0, 0, .null)]
def kX6_sit : List zE := [(0, 1, .aload_n 0, 0, 0, 0, .null), (1, 1, .aload_n 1, 1, 0, 0, .null), (2, 1, .iload_n 2, 2, 0, 0, .null), (3, 1, .aload_n 1, 1, 0, 0, .null), (4, 3, .getfield 46, 4, 5, 4, .null), (7, 1, .iload_n 2, 2, 0, 0, .null), (8, 1, .iaload, 0, 0, 0, .null), (9, 1, .iconst (-1), 0, 0, 0, .int (-1)), (10, 1, .iload_n 3, 3, 0, 0, .null), (11, 3, .invokevirtual 49, 82, 6, 25, .null), (14, 1, .ireturn, 0, 0, 2, .null)]
def kX6_sitAs : List zE := [(0, 1, .aload_n 0, 0, 0, 0, .null), (1, 3, .getfield 28, 6, 2, 0, .null), (4, 3, .invokestatic 53, 0, 1, 1, .null), (7, 2, .istore 6, 6, 0, 0, .null), (9, 1, .aload_n 0, 0, 0, 0, .null), (10, 1, .iconst 0, 0, 0, 0, .int (0)), (11, 3, .putfield 59, 6, 5, 0, .null), (14, 1, .aload_n 0, 0, 0, 0, .null), (15, 1, .aload_n 1, 1, 0, 0, .null), (16, 3, .invokevirtual 62, 45, 1, 17, .null), (19, 1, .aload_n 0, 0, 0, 0, .null), (20, 3, .getfield 27, 6, 1, 0, .null), (23, 1, .iconst (-1), 0, 0, 0, .int (-1)), (24, 1, .ixor, 0, 0, 0, .null), (25, 1, .iand, 0, 0, 0, .null), (26, 3, .putfield 66, 6, 6, 0, .null), (29, 1, .iconst 0, 0, 0, 0, .int (0)), (30, 2, .istore 7, 7, 0, 0, .null), (32, 2, .iload 7, 7, 0, 0, .null), (34, 1, .aload_n 1, 1, 0, 0, .null), (35, 3, .getfield 69, 4, 0, 0, .null), (38, 3, .if_icmp .ge 139, 177, 0, 0, .null), (41, 1, .aload_n 0, 0, 0, 0, .null), (42, 3, .getfield 27, 6, 1, 0, .null), (45, 2, .iload 7, 7, 0, 0, .null), (47, 3, .invokestatic 72, 151, 2, 1, .null), (50, 3, .ifCond .eq 121, 171, 0, 0, .null), (53, 2, .iload 4, 4, 0, 0, .null), (55, 1, .iconst (-1), 0, 0, 0, .int (-1)), (56, 3, .if_icmp .ne 13, 69, 0, 0, .null), (59, 1, .aload_n 1, 1, 0, 0, .null), (60, 3, .getfield 76, 4, 2, 4, .null), (63, 2, .iload 7, 7, 0, 0, .null), (65, 1, .iaload, 0, 0, 0, .null), (66, 3, .goto 5, 71, 0, 0, .null), (69, 2, .iload 4, 4, 0, 0, .null), (71, 2, .istore 8, 8, 0, 0, .null), (73, 1, .aload_n 0, 0, 0, 0, .null), (74, 3, .getfield 9, 6, 0, 4, .null), (77, 2, .iload 7, 7, 0, 0, .null), (79, 1, .iaload, 0, 0, 0, .null), (80, 2, .istore 9, 9, 0, 0, .null), (82, 2, .iload 9, 9, 0, 0, .null), (84, 1, .aload_n 1, 1, 0, 0, .null), (85, 2, .iload 7, 7, 0, 0, .null), (87, 1, .iload_n 3, 3, 0, 0, .null), (88, 2, .iload 8, 8, 0, 0, .null), (90, 2, .iload 9, 9, 0, 0, .null), (92, 2, .iload 5, 5, 0, 0, .null), (94, 3, .ifCond .eq 7, 101, 0, 0, .null), (97, 1, .iconst 1, 0, 0, 0, .int (1)), (98, 3, .goto 4, 102, 0, 0, .null), (101, 1, .iconst 0, 0, 0, 0, .int (0)), (102, 2, .iload 6, 6, 0, 0, .null), (104, 3, .invokevirtual 79, 47, 7, 17, .null), (107, 1, .iadd, 0, 0, 0, .null), (108, 2, .istore 9, 9, 0, 0, .null), (110, 2, .iload 9, 9, 0, 0, .null), (112, 1, .aload_n 1, 1, 0, 0, .null), (113, 3, .getfield 83, 4, 6, 0, .null), (116, 3, .if_icmp .lt 22, 138, 0, 0, .null), (119, 1, .aload_n 0, 0, 0, 0, .null), (120, 1, .dup, 0, 0, 0, .null), (121, 3, .getfield 59, 6, 5, 0, .null), (124, 1, .iconst 1, 0, 0, 0, .int (1)), (125, 2, .iload 7, 7, 0, 0, .null), (127, 1, .ishl, 0, 0, 0, .null), (128, 1, .ior, 0, 0, 0, .null), (129, 3, .putfield 59, 6, 5, 0, .null), (132, 1, .iconst 0, 0, 0, 0, .int (0)), (133, 2, .istore 9, 9, 0, 0, .null), (135, 3, .goto 27, 162, 0, 0, .null), (138, 1, .iconst 2, 0, 0, 0, .int (2)), (139, 2, .iload 9, 9, 0, 0, .null), (141, 1, .imul, 0, 0, 0, .null), (142, 1, .aload_n 1, 1, 0, 0, .null), (143, 3, .getfield 83, 4, 6, 0, .null), (146, 3, .if_icmp .ge 16, 162, 0, 0, .null), (149, 1, .aload_n 0, 0, 0, 0, .null), (150, 1, .dup, 0, 0, 0, .null), (151, 3, .getfield 66, 6, 6, 0, .null), (154, 1, .iconst 1, 0, 0, 0, .int (1)), (155, 2, .iload 7, 7, 0, 0, .null), (157, 1, .ishl, 0, 0, 0, .null), (158, 1, .ior, 0, 0, 0, .null), (159, 3, .putfield 66, 6, 6, 0, .null), (162, 1, .aload_n 0, 0, 0, 0, .null), (163, 3, .getfield 9, 6, 0, 4, .null), (166, 2, .iload 7, 7, 0, 0, .null), (168, 2, .iload 9, 9, 0, 0, .null), (170, 1, .iastore, 0, 0, 0, .null), (171, 3, .iinc 7 1, 7, 0, 0, .int (1)), (174, 3, .goto (-142), 32, 0, 0, .null), (177, 1, .aload_n 0, 0, 0, 0, .null), (178, 1, .dup, 0, 0, 0, .null), (179, 3, .getfield 28, 6, 2, 0, .null), (182, 1, .iconst 1, 0, 0, 0, .int (1)), (183, 1, .iload_n 2, 2, 0, 0, .null), (184, 1, .ishl, 0, 0, 0, .null), (185, 1, .ior, 0, 0, 0, .null), (186, 3, .putfield 28, 6, 2, 0, .null), (189, 1, .aload_n 0, 0, 0, 0, .null), (190, 3, .getfield 59, 6, 5, 0, .null), (193, 3, .ifCond .ne 22, 215, 0, 0, .null), (196, 1, .aload_n 1, 1, 0, 0, .null), (197, 1, .aload_n 0, 0, 0, 0, .null), (198, 3, .getfield 66, 6, 6, 0, .null), (201, 3, .invokevirtual 86, 46, 2, 17, .null), (204, 1, .aload_n 1, 1, 0, 0, .null), (205, 3, .getfield 89, 4, 7, 0, .null), (208, 3, .if_icmp .lt 7, 215, 0, 0, .null), (211, 1, .iconst 1, 0, 0, 0, .int (1)), (212, 3, .goto 4, 216, 0, 0, .null), (215, 1, .iconst 0, 0, 0, 0, .int (0)), (216, 2, .istore 7, 7, 0, 0, .null), (218, 1, .aload_n 0, 0, 0, 0, .null), (219, 1, .dup, 0, 0, 0, .null), (220, 3, .getfield 31, 6, 3, 0, .null), (223, 2, .iload 7, 7, 0, 0, .null), (225, 3, .ifCond .eq 9, 234, 0, 0, .null), (228, 1, .iconst 1, 0, 0, 0, .int (1)), (229, 1, .iload_n 2, 2, 0, 0, .null), (230, 1, .ishl, 0, 0, 0, .null), (231, 3, .goto 4, 235, 0, 0, .null), (234, 1, .iconst 0, 0, 0, 0, .int (0)), (235, 1, .ior, 0, 0, 0, .null), (236, 3, .putfield 31, 6, 3, 0, .null), (239, 2, .iload 7, 7, 0, 0, .null), (241, 1, .ireturn, 0, 0, 2, .null)]
def kX6_sitAll : List zE := [(0, 1, .iconst 0, 0, 0, 0, .int (0)), (1, 2, .istore 4, 4, 0, 0, .null), (3, 1, .iconst 0, 0, 0, 0, .int (0)), (4, 2, .istore 5, 5, 0, 0, .null), (6, 2, .iload 5, 5, 0, 0, .null), (8, 1, .aload_n 1, 1, 0, 0, .null), (9, 3, .getfield 92, 4, 4, 0, .null), (12, 3, .if_icmp .ge 43, 55, 0, 0, .null), (15, 1, .aload_n 0, 0, 0, 0, .null), (16, 3, .getfield 28, 6, 2, 0, .null), (19, 2, .iload 5, 5, 0, 0, .null), (21, 3, .invokestatic 72, 151, 2, 1, .null), (24, 3, .ifCond .ne 25, 49, 0, 0, .null), (27, 1, .aload_n 0, 0, 0, 0, .null), (28, 1, .aload_n 1, 1, 0, 0, .null), (29, 2, .iload 5, 5, 0, 0, .null), (31, 1, .aload_n 1, 1, 0, 0, .null), (32, 3, .getfield 46, 4, 5, 4, .null), (35, 2, .iload 5, 5, 0, 0, .null), (37, 1, .iaload, 0, 0, 0, .null), (38, 1, .iload_n 2, 2, 0, 0, .null), (39, 1, .iload_n 3, 3, 0, 0, .null), (40, 3, .invokevirtual 49, 82, 6, 25, .null), (43, 3, .ifCond .eq 6, 49, 0, 0, .null), (46, 3, .iinc 4 1, 4, 0, 0, .int (1)), (49, 3, .iinc 5 1, 5, 0, 0, .int (1)), (52, 3, .goto (-46), 6, 0, 0, .null), (55, 2, .iload 4, 4, 0, 0, .null), (57, 1, .ireturn, 0, 0, 0, .null)]
def kX6_drawPun : List zE := [(0, 1, .aload_n 0, 0, 0, 0, .null), (1, 1, .aload_n 0, 0, 0, 0, .null), (2, 3, .getfield 37, 6, 4, 0, .null), (5, 3, .sipush 137, 0, 0, 0, .int (137)), (8, 1, .imul, 0, 0, 0, .null), (9, 2, .bipush 71, 0, 0, 0, .int (71)), (11, 1, .iadd, 0, 0, 0, .null), (12, 3, .sipush 1000, 0, 0, 0, .int (1000)), (15, 1, .irem, 0, 0, 0, .null), (16, 3, .putfield 37, 6, 4, 0, .null), (19, 1, .aload_n 0, 0, 0, 0, .null), (20, 3, .getfield 37, 6, 4, 0, .null), (23, 2, .bipush 100, 0, 0, 0, .int (100)), (25, 1, .irem, 0, 0, 0, .null), (26, 1, .aload_n 1, 1, 0, 0, .null), (27, 3, .getfield 95, 4, 8, 0, .null), (30, 3, .if_icmp .ge 49, 79, 0, 0, .null), (33, 1, .iconst 0, 0, 0, 0, .int (0)), (34, 1, .istore_n 2, 2, 0, 0, .null), (35, 1, .iload_n 2, 2, 0, 0, .null), (36, 1, .aload_n 1, 1, 0, 0, .null), (37, 3, .getfield 69, 4, 0, 0, .null), (40, 3, .if_icmp .ge 39, 79, 0, 0, .null), (43, 1, .aload_n 0, 0, 0, 0, .null), (44, 3, .getfield 27, 6, 1, 0, .null), (47, 1, .iload_n 2, 2, 0, 0, .null), (48, 3, .invokestatic 72, 151, 2, 1, .null), (51, 3, .ifCond .eq 22, 73, 0, 0, .null), (54, 1, .aload_n 0, 0, 0, 0, .null), (55, 3, .getfield 9, 6, 0, 4, .null), (58, 1, .iload_n 2, 2, 0, 0, .null), (59, 2, .bipush 99, 0, 0, 0, .int (99)), (61, 1, .aload_n 0, 0, 0, 0, .null), (62, 3, .getfield 9, 6, 0, 4, .null), (65, 1, .iload_n 2, 2, 0, 0, .null), (66, 1, .iaload, 0, 0, 0, .null), (67, 1, .iconst 1, 0, 0, 0, .int (1)), (68, 1, .iadd, 0, 0, 0, .null), (69, 3, .invokestatic 98, 4, 2, 1, .null), (72, 1, .iastore, 0, 0, 0, .null), (73, 3, .iinc 2 1, 2, 0, 0, .int (1)), (76, 3, .goto (-41), 35, 0, 0, .null), (79, 1, .return_, 0, 0, 0, .null)]
def kX6_handOver : List zE := [(0, 1, .iconst 0, 0, 0, 0, .int (0)), (1, 1, .istore_n 2, 2, 0, 0, .null), (2, 1, .iconst 0, 0, 0, 0, .int (0)), (3, 1, .istore_n 3, 3, 0, 0, .null), (4, 1, .iload_n 3, 3, 0, 0, .null), (5, 1, .aload_n 1, 1, 0, 0, .null), (6, 3, .getfield 69, 4, 0, 0, .null), (9, 3, .if_icmp .ge 72, 81, 0, 0, .null), (12, 1, .aload_n 0, 0, 0, 0, .null), (13, 3, .getfield 27, 6, 1, 0, .null), (16, 1, .iload_n 3, 3, 0, 0, .null), (17, 3, .invokestatic 72, 151, 2, 1, .null), (20, 3, .ifCond .ne 55, 75, 0, 0, .null), (23, 1, .iload_n 2, 2, 0, 0, .null), (24, 1, .aload_n 1, 1, 0, 0, .null), (25, 3, .getfield 69, 4, 0, 0, .null), (28, 3, .if_icmp .ge 20, 48, 0, 0, .null), (31, 1, .aload_n 0, 0, 0, 0, .null), (32, 3, .getfield 27, 6, 1, 0, .null), (35, 1, .iload_n 2, 2, 0, 0, .null), (36, 3, .invokestatic 72, 151, 2, 1, .null), (39, 3, .ifCond .ne 9, 48, 0, 0, .null), (42, 3, .iinc 2 1, 2, 0, 0, .int (1)), (45, 3, .goto (-22), 23, 0, 0, .null), (48, 1, .aload_n 0, 0, 0, 0, .null), (49, 3, .getfield 9, 6, 0, 4, .null), (52, 1, .iload_n 3, 3, 0, 0, .null), (53, 1, .iload_n 2, 2, 0, 0, .null), (54, 1, .aload_n 1, 1, 0, 0, .null), (55, 3, .getfield 69, 4, 0, 0, .null), (58, 3, .if_icmp .ge 12, 70, 0, 0, .null), (61, 1, .aload_n 0, 0, 0, 0, .null), (62, 3, .getfield 9, 6, 0, 4, .null), (65, 1, .iload_n 2, 2, 0, 0, .null), (66, 1, .iaload, 0, 0, 0, .null), (67, 3, .goto 4, 71, 0, 0, .null), (70, 1, .iconst 0, 0, 0, 0, .int (0)), (71, 1, .iastore, 0, 0, 0, .null), (72, 3, .iinc 2 1, 2, 0, 0, .int (1)), (75, 3, .iinc 3 1, 3, 0, 0, .int (1)), (78, 3, .goto (-74), 4, 0, 0, .null), (81, 1, .iconst 0, 0, 0, 0, .int (0)), (82, 1, .istore_n 3, 3, 0, 0, .null), (83, 1, .iload_n 3, 3, 0, 0, .null), (84, 1, .aload_n 1, 1, 0, 0, .null), (85, 3, .getfield 69, 4, 0, 0, .null), (88, 3, .if_icmp .ge 27, 115, 0, 0, .null), (91, 1, .aload_n 0, 0, 0, 0, .null), (92, 3, .getfield 27, 6, 1, 0, .null), (95, 1, .iload_n 3, 3, 0, 0, .null), (96, 3, .invokestatic 72, 151, 2, 1, .null), (99, 3, .ifCond .eq 10, 109, 0, 0, .null), (102, 1, .aload_n 0, 0, 0, 0, .null), (103, 3, .getfield 9, 6, 0, 4, .null), (106, 1, .iload_n 3, 3, 0, 0, .null), (107, 1, .iconst 0, 0, 0, 0, .int (0)), (108, 1, .iastore, 0, 0, 0, .null), (109, 3, .iinc 3 1, 3, 0, 0, .int (1)), (112, 3, .goto (-29), 83, 0, 0, .null), (115, 1, .aload_n 0, 0, 0, 0, .null), (116, 1, .aload_n 1, 1, 0, 0, .null), (117, 3, .invokevirtual 62, 45, 1, 17, .null), (120, 1, .aload_n 0, 0, 0, 0, .null), (121, 3, .getfield 27, 6, 1, 0, .null), (124, 1, .iconst (-1), 0, 0, 0, .int (-1)), (125, 1, .ixor, 0, 0, 0, .null), (126, 1, .iand, 0, 0, 0, .null), (127, 3, .putfield 27, 6, 1, 0, .null), (130, 1, .return_, 0, 0, 0, .null)]
end
section
/-! the code, instruction by instruction, links resolved -/
def kX7_init : List zE := [(0, 1, .aload_n 0, 0, 0, 0, .null), (1, 3, .invokespecial 3, 0, 0, 9, .null), (4, 1, .aload_n 0, 0, 0, 0, .null), (5, 3, .new 9, 5, 13, 0, .null), (8, 1, .dup, 0, 0, 0, .null), (9, 3, .invokespecial 11, 54, 1, 0, .ref 4001631), (12, 3, .putfield 12, 7, 0, 4, .null), (15, 1, .aload_n 0, 0, 0, 0, .null), (16, 3, .new 16, 4, 11, 0, .null), (19, 1, .dup, 0, 0, 0, .null), (20, 3, .invokespecial 18, 41, 1, 0, .ref 7000331), (23, 3, .putfield 19, 7, 1, 4, .null), (26, 1, .aload_n 0, 0, 0, 0, .null), (27, 3, .new 16, 4, 11, 0, .null), (30, 1, .dup, 0, 0, 0, .null), (31, 3, .invokespecial 18, 41, 1, 0, .ref 7000331), (34, 3, .putfield 23, 7, 2, 4, .null), (37, 1, .aload_n 0, 0, 0, 0, .null), (38, 3, .new 26, 6, 7, 0, .null), (41, 1, .dup, 0, 0, 0, .null), (42, 3, .invokespecial 28, 78, 1, 0, .ref 1000007), (45, 3, .putfield 29, 7, 3, 4, .null), (48, 1, .aload_n 0, 0, 0, 0, .null), (49, 3, .new 26, 6, 7, 0, .null), (52, 1, .dup, 0, 0, 0, .null), (53, 3, .invokespecial 28, 78, 1, 0, .ref 1000007), (56, 3, .putfield 33, 7, 4, 4, .null), (59, 1, .aload_n 0, 0, 0, 0, .null), (60, 3, .new 36, 3, 5, 0, .null), (63, 1, .dup, 0, 0, 0, .null), (64, 3, .invokespecial 38, 34, 1, 0, .ref 83000614), (67, 3, .putfield 39, 7, 5, 4, .null), (70, 1, .aload_n 0, 0, 0, 0, .null), (71, 3, .new 43, 0, 4, 0, .null), (74, 1, .dup, 0, 0, 0, .null), (75, 3, .invokespecial 45, 18, 1, 0, .ref 17000117), (78, 3, .putfield 46, 7, 6, 4, .null), (81, 1, .aload_n 0, 0, 0, 0, .null), (82, 3, .new 50, 2, 9, 0, .null), (85, 1, .dup, 0, 0, 0, .null), (86, 3, .invokespecial 52, 26, 1, 0, .ref 6000297), (89, 3, .putfield 53, 7, 7, 4, .null), (92, 1, .aload_n 0, 0, 0, 0, .null), (93, 1, .iconst 3, 0, 0, 0, .int (3)), (94, 3, .anewarray 26, 0, 0, 0, .null), (97, 3, .putfield 57, 7, 8, 4, .null), (100, 1, .aload_n 0, 0, 0, 0, .null), (101, 2, .bipush 6, 0, 0, 0, .int (6)), (103, 2, .newarray .int, 0, 0, 0, .null), (105, 3, .putfield 61, 7, 10, 4, .null), (108, 1, .aload_n 0, 0, 0, 0, .null), (109, 2, .bipush 7, 0, 0, 0, .int (7)), (111, 2, .newarray .int, 0, 0, 0, .null), (113, 3, .putfield 65, 7, 12, 4, .null), (116, 1, .aload_n 0, 0, 0, 0, .null), (117, 2, .bipush 7, 0, 0, 0, .int (7)), (119, 2, .newarray .int, 0, 0, 0, .null), (121, 3, .putfield 68, 7, 13, 4, .null), (124, 1, .iconst 0, 0, 0, 0, .int (0)), (125, 1, .istore_n 1, 1, 0, 0, .null), (126, 1, .iload_n 1, 1, 0, 0, .null), (127, 1, .iconst 3, 0, 0, 0, .int (3)), (128, 3, .if_icmp .ge 22, 150, 0, 0, .null), (131, 1, .aload_n 0, 0, 0, 0, .null), (132, 3, .getfield 57, 7, 8, 4, .null), (135, 1, .iload_n 1, 1, 0, 0, .null), (136, 3, .new 26, 6, 7, 0, .null), (139, 1, .dup, 0, 0, 0, .null), (140, 3, .invokespecial 28, 78, 1, 0, .ref 1000007), (143, 1, .aastore, 0, 0, 0, .null), (144, 3, .iinc 1 1, 1, 0, 0, .int (1)), (147, 3, .goto (-21), 126, 0, 0, .null), (150, 1, .return_, 0, 0, 0, .null)]
def kX7_feed : List zE := [(0, 1, .aload_n 0, 0, 0, 0, .null), (1, 3, .getfield 12, 7, 0, 4, .null), (4, 3, .getfield 71, 5, 0, 0, .null), (7, 2, .bipush 20, 0, 0, 0, .int (20)), (9, 1, .iadd, 0, 0, 0, .null), (10, 3, .sipush 1600, 0, 0, 0, .int (1600)), (13, 3, .if_icmp .le 5, 18, 0, 0, .null), (16, 1, .iconst (-1), 0, 0, 0, .int (-1)), (17, 1, .ireturn, 0, 0, 0, .null), (18, 1, .aload_n 0, 0, 0, 0, .null), (19, 3, .getfield 12, 7, 0, 4, .null), (22, 1, .iload_n 1, 1, 0, 0, .null), (23, 3, .invokevirtual 75, 55, 2, 20, .null), (26, 1, .aload_n 0, 0, 0, 0, .null), (27, 3, .getfield 12, 7, 0, 4, .null), (30, 1, .iload_n 2, 2, 0, 0, .null), (31, 3, .invokevirtual 75, 55, 2, 20, .null), (34, 1, .aload_n 0, 0, 0, 0, .null), (35, 3, .getfield 12, 7, 0, 4, .null), (38, 1, .iload_n 3, 3, 0, 0, .null), (39, 3, .invokevirtual 75, 55, 2, 20, .null), (42, 1, .aload_n 0, 0, 0, 0, .null), (43, 3, .getfield 12, 7, 0, 4, .null), (46, 2, .iload 4, 4, 0, 0, .null), (48, 3, .invokevirtual 75, 55, 2, 20, .null), (51, 1, .aload_n 0, 0, 0, 0, .null), (52, 3, .getfield 12, 7, 0, 4, .null), (55, 2, .iload 5, 5, 0, 0, .null), (57, 3, .invokevirtual 75, 55, 2, 20, .null), (60, 1, .aload_n 0, 0, 0, 0, .null), (61, 3, .getfield 12, 7, 0, 4, .null), (64, 3, .getfield 71, 5, 0, 0, .null), (67, 1, .ireturn, 0, 0, 0, .null)]
def kX7_end : List zE := [(0, 1, .iload_n 1, 1, 0, 0, .null), (1, 3, .ifCond .lt 14, 15, 0, 0, .null), (4, 1, .iload_n 1, 1, 0, 0, .null), (5, 1, .aload_n 0, 0, 0, 0, .null), (6, 3, .getfield 12, 7, 0, 4, .null), (9, 3, .getfield 71, 5, 0, 0, .null), (12, 3, .if_icmp .le 5, 17, 0, 0, .null), (15, 1, .iconst (-1), 0, 0, 0, .int (-1)), (16, 1, .ireturn, 0, 0, 0, .null), (17, 1, .aload_n 0, 0, 0, 0, .null), (18, 3, .getfield 12, 7, 0, 4, .null), (21, 1, .iload_n 1, 1, 0, 0, .null), (22, 3, .putfield 71, 5, 0, 0, .null), (25, 1, .iload_n 1, 1, 0, 0, .null), (26, 1, .ireturn, 0, 0, 0, .null)]
def kX7_house : List zE := [(0, 1, .aload_n 0, 0, 0, 0, .null), (1, 3, .getfield 23, 7, 2, 4, .null), (4, 3, .invokevirtual 79, 42, 1, 16, .null), (7, 1, .aload_n 0, 0, 0, 0, .null), (8, 3, .getfield 12, 7, 0, 4, .null), (11, 1, .aload_n 0, 0, 0, 0, .null), (12, 3, .getfield 23, 7, 2, 4, .null), (15, 3, .invokevirtual 82, 56, 2, 21, .null), (18, 1, .istore_n 1, 1, 0, 0, .null), (19, 1, .aload_n 0, 0, 0, 0, .null), (20, 3, .getfield 12, 7, 0, 4, .null), (23, 1, .iconst 0, 0, 0, 0, .int (0)), (24, 3, .putfield 71, 5, 0, 0, .null), (27, 1, .iload_n 1, 1, 0, 0, .null), (28, 3, .ifCond .ne 5, 33, 0, 0, .null), (31, 1, .iconst (-1), 0, 0, 0, .int (-1)), (32, 1, .ireturn, 0, 0, 0, .null), (33, 1, .aload_n 0, 0, 0, 0, .null), (34, 3, .getfield 19, 7, 1, 4, .null), (37, 1, .astore_n 2, 2, 0, 0, .null), (38, 1, .aload_n 0, 0, 0, 0, .null), (39, 1, .aload_n 0, 0, 0, 0, .null), (40, 3, .getfield 23, 7, 2, 4, .null), (43, 3, .putfield 19, 7, 1, 4, .null), (46, 1, .aload_n 0, 0, 0, 0, .null), (47, 1, .aload_n 2, 2, 0, 0, .null), (48, 3, .putfield 23, 7, 2, 4, .null), (51, 1, .aload_n 0, 0, 0, 0, .null), (52, 3, .getfield 29, 7, 3, 4, .null), (55, 1, .aload_n 0, 0, 0, 0, .null), (56, 3, .getfield 19, 7, 1, 4, .null), (59, 3, .invokevirtual 86, 79, 2, 24, .null), (62, 1, .aload_n 0, 0, 0, 0, .null), (63, 3, .getfield 39, 7, 5, 4, .null), (66, 3, .invokevirtual 90, 35, 1, 12, .null), (69, 1, .aload_n 0, 0, 0, 0, .null), (70, 3, .getfield 53, 7, 7, 4, .null), (73, 1, .aload_n 0, 0, 0, 0, .null), (74, 3, .getfield 19, 7, 1, 4, .null), (77, 3, .invokevirtual 91, 27, 2, 8, .null), (80, 1, .aload_n 0, 0, 0, 0, .null), (81, 1, .iconst 0, 0, 0, 0, .int (0)), (82, 3, .putfield 94, 7, 9, 0, .null), (85, 1, .aload_n 0, 0, 0, 0, .null), (86, 1, .iconst 0, 0, 0, 0, .int (0)), (87, 3, .putfield 97, 7, 11, 0, .null), (90, 1, .aload_n 0, 0, 0, 0, .null), (91, 3, .getfield 19, 7, 1, 4, .null), (94, 3, .getfield 100, 4, 0, 0, .null), (97, 1, .ireturn, 0, 0, 0, .null)]
def kX7_fault : List zE := [(0, 1, .iload_n 1, 1, 0, 0, .null), (1, 3, .ifCond .ne 13, 14, 0, 0, .null), (4, 1, .aload_n 0, 0, 0, 0, .null), (5, 3, .getfield 12, 7, 0, 4, .null), (8, 3, .getfield 103, 5, 1, 0, .null), (11, 3, .goto 19, 30, 0, 0, .null), (14, 1, .iload_n 1, 1, 0, 0, .null), (15, 1, .iconst 1, 0, 0, 0, .int (1)), (16, 3, .if_icmp .ne 13, 29, 0, 0, .null), (19, 1, .aload_n 0, 0, 0, 0, .null), (20, 3, .getfield 12, 7, 0, 4, .null), (23, 3, .getfield 106, 5, 2, 0, .null), (26, 3, .goto 4, 30, 0, 0, .null), (29, 1, .iconst (-1), 0, 0, 0, .int (-1)), (30, 1, .ireturn, 0, 0, 0, .null)]
def kX7_member : List zE := [(0, 1, .aload_n 0, 0, 0, 0, .null), (1, 1, .iload_n 1, 1, 0, 0, .null), (2, 3, .invokevirtual 109, 138, 2, 29, .null), (5, 3, .ifCond .ne 5, 10, 0, 0, .null), (8, 1, .iconst (-1), 0, 0, 0, .int (-1)), (9, 1, .ireturn, 0, 0, 0, .null), (10, 1, .iload_n 2, 2, 0, 0, .null), (11, 29, .tableswitch 79 0 3 #[29, 49, 59, 69], 0, 0, 0, .null), (40, 1, .aload_n 0, 0, 0, 0, .null), (41, 3, .getfield 29, 7, 3, 4, .null), (44, 3, .getfield 113, 6, 1, 0, .null), (47, 1, .iload_n 1, 1, 0, 0, .null), (48, 3, .invokestatic 116, 151, 2, 1, .null), (51, 3, .ifCond .eq 7, 58, 0, 0, .null), (54, 1, .iconst 1, 0, 0, 0, .int (1)), (55, 3, .goto 4, 59, 0, 0, .null), (58, 1, .iconst 0, 0, 0, 0, .int (0)), (59, 1, .ireturn, 0, 0, 0, .null), (60, 1, .aload_n 0, 0, 0, 0, .null), (61, 3, .getfield 19, 7, 1, 4, .null), (64, 3, .getfield 120, 4, 2, 4, .null), (67, 1, .iload_n 1, 1, 0, 0, .null), (68, 1, .iaload, 0, 0, 0, .null), (69, 1, .ireturn, 0, 0, 0, .null), (70, 1, .aload_n 0, 0, 0, 0, .null), (71, 3, .getfield 19, 7, 1, 4, .null), (74, 3, .getfield 123, 4, 3, 4, .null), (77, 1, .iload_n 1, 1, 0, 0, .null), (78, 1, .iaload, 0, 0, 0, .null), (79, 1, .ireturn, 0, 0, 0, .null), (80, 1, .aload_n 0, 0, 0, 0, .null), (81, 3, .getfield 29, 7, 3, 4, .null), (84, 3, .getfield 126, 6, 0, 4, .null), (87, 1, .iload_n 1, 1, 0, 0, .null), (88, 1, .iaload, 0, 0, 0, .null), (89, 1, .ireturn, 0, 0, 0, .null), (90, 1, .iconst (-1), 0, 0, 0, .int (-1)), (91, 1, .ireturn, 0, 0, 0, .null)]
def kX7_clause : List zE := [(0, 1, .aload_n 0, 0, 0, 0, .null), (1, 1, .iload_n 1, 1, 0, 0, .null), (2, 3, .invokevirtual 129, 141, 2, 29, .null), (5, 3, .ifCond .ne 5, 10, 0, 0, .null), (8, 1, .iconst (-1), 0, 0, 0, .int (-1)), (9, 1, .ireturn, 0, 0, 0, .null), (10, 1, .iload_n 2, 2, 0, 0, .null), (11, 25, .tableswitch 75 0 2 #[25, 35, 55], 0, 0, 0, .null), (36, 1, .aload_n 0, 0, 0, 0, .null), (37, 3, .getfield 19, 7, 1, 4, .null), (40, 3, .getfield 132, 4, 5, 4, .null), (43, 1, .iload_n 1, 1, 0, 0, .null), (44, 1, .iaload, 0, 0, 0, .null), (45, 1, .ireturn, 0, 0, 0, .null), (46, 1, .aload_n 0, 0, 0, 0, .null), (47, 3, .getfield 29, 7, 3, 4, .null), (50, 3, .getfield 135, 6, 2, 0, .null), (53, 1, .iload_n 1, 1, 0, 0, .null), (54, 3, .invokestatic 116, 151, 2, 1, .null), (57, 3, .ifCond .eq 7, 64, 0, 0, .null), (60, 1, .iconst 1, 0, 0, 0, .int (1)), (61, 3, .goto 4, 65, 0, 0, .null), (64, 1, .iconst 0, 0, 0, 0, .int (0)), (65, 1, .ireturn, 0, 0, 0, .null), (66, 1, .aload_n 0, 0, 0, 0, .null), (67, 3, .getfield 29, 7, 3, 4, .null), (70, 3, .getfield 138, 6, 3, 0, .null), (73, 1, .iload_n 1, 1, 0, 0, .null), (74, 3, .invokestatic 116, 151, 2, 1, .null), (77, 3, .ifCond .eq 7, 84, 0, 0, .null), (80, 1, .iconst 1, 0, 0, 0, .int (1)), (81, 3, .goto 4, 85, 0, 0, .null), (84, 1, .iconst 0, 0, 0, 0, .int (0)), (85, 1, .ireturn, 0, 0, 0, .null), (86, 1, .iconst (-1), 0, 0, 0, .int (-1)), (87, 1, .ireturn, 0, 0, 0, .null)]
def kX7_winds : List zE := [(0, 1, .aload_n 0, 0, 0, 0, .null), (1, 1, .iload_n 1, 1, 0, 0, .null), (2, 3, .invokevirtual 141, 139, 2, 29, .null), (5, 3, .ifCond .eq 11, 16, 0, 0, .null), (8, 1, .aload_n 0, 0, 0, 0, .null), (9, 1, .iload_n 2, 2, 0, 0, .null), (10, 3, .invokevirtual 129, 141, 2, 29, .null), (13, 3, .ifCond .ne 6, 19, 0, 0, .null), (16, 2, .bipush (-100), 0, 0, 0, .int (-100)), (18, 1, .ireturn, 0, 0, 0, .null), (19, 1, .aload_n 0, 0, 0, 0, .null), (20, 1, .iload_n 1, 1, 0, 0, .null), (21, 1, .aload_n 0, 0, 0, 0, .null), (22, 3, .getfield 19, 7, 1, 4, .null), (25, 3, .getfield 132, 4, 5, 4, .null), (28, 1, .iload_n 2, 2, 0, 0, .null), (29, 1, .iaload, 0, 0, 0, .null), (30, 1, .aload_n 0, 0, 0, 0, .null), (31, 3, .getfield 29, 7, 3, 4, .null), (34, 3, .getfield 126, 6, 0, 4, .null), (37, 1, .iload_n 1, 1, 0, 0, .null), (38, 1, .iaload, 0, 0, 0, .null), (39, 1, .iload_n 3, 3, 0, 0, .null), (40, 3, .invokevirtual 144, 144, 5, 29, .null), (43, 1, .ireturn, 0, 0, 0, .null)]
def kX7_read : List zE := [(0, 1, .aload_n 0, 0, 0, 0, .null), (1, 1, .iload_n 1, 1, 0, 0, .null), (2, 3, .invokevirtual 148, 142, 2, 29, .null), (5, 3, .ifCond .ne 5, 10, 0, 0, .null), (8, 1, .iconst (-1), 0, 0, 0, .int (-1)), (9, 1, .ireturn, 0, 0, 0, .null), (10, 1, .aload_n 0, 0, 0, 0, .null), (11, 3, .getfield 39, 7, 5, 4, .null), (14, 1, .aload_n 0, 0, 0, 0, .null), (15, 3, .getfield 29, 7, 3, 4, .null), (18, 3, .invokevirtual 151, 36, 2, 12, .null), (21, 1, .aload_n 0, 0, 0, 0, .null), (22, 3, .getfield 29, 7, 3, 4, .null), (25, 1, .aload_n 0, 0, 0, 0, .null), (26, 3, .getfield 19, 7, 1, 4, .null), (29, 1, .iload_n 1, 1, 0, 0, .null), (30, 1, .iload_n 2, 2, 0, 0, .null), (31, 3, .invokevirtual 155, 81, 4, 25, .null), (34, 1, .istore_n 3, 3, 0, 0, .null), (35, 1, .aload_n 0, 0, 0, 0, .null), (36, 3, .getfield 29, 7, 3, 4, .null), (39, 1, .aload_n 0, 0, 0, 0, .null), (40, 3, .getfield 19, 7, 1, 4, .null), (43, 3, .invokevirtual 159, 84, 2, 24, .null), (46, 1, .iload_n 3, 3, 0, 0, .null), (47, 3, .ifCond .eq 7, 54, 0, 0, .null), (50, 1, .iconst 1, 0, 0, 0, .int (1)), (51, 3, .goto 4, 55, 0, 0, .null), (54, 1, .iconst 0, 0, 0, 0, .int (0)), (55, 1, .ireturn, 0, 0, 0, .null)]
def kX7_oil : List zE := [(0, 1, .aload_n 0, 0, 0, 0, .null), (1, 1, .iload_n 1, 1, 0, 0, .null), (2, 3, .invokevirtual 141, 139, 2, 29, .null), (5, 3, .ifCond .eq 15, 20, 0, 0, .null), (8, 1, .aload_n 0, 0, 0, 0, .null), (9, 3, .getfield 29, 7, 3, 4, .null), (12, 3, .getfield 126, 6, 0, 4, .null), (15, 1, .iload_n 1, 1, 0, 0, .null), (16, 1, .iaload, 0, 0, 0, .null), (17, 3, .ifCond .gt 5, 22, 0, 0, .null), (20, 1, .iconst (-1), 0, 0, 0, .int (-1)), (21, 1, .ireturn, 0, 0, 0, .null), (22, 1, .aload_n 0, 0, 0, 0, .null), (23, 3, .getfield 39, 7, 5, 4, .null), (26, 1, .aload_n 0, 0, 0, 0, .null), (27, 3, .getfield 29, 7, 3, 4, .null), (30, 3, .invokevirtual 151, 36, 2, 12, .null), (33, 1, .aload_n 0, 0, 0, 0, .null), (34, 3, .getfield 29, 7, 3, 4, .null), (37, 3, .getfield 126, 6, 0, 4, .null), (40, 1, .iload_n 1, 1, 0, 0, .null), (41, 1, .dup2, 0, 0, 0, .null), (42, 1, .iaload, 0, 0, 0, .null), (43, 1, .iconst 1, 0, 0, 0, .int (1)), (44, 1, .isub, 0, 0, 0, .null), (45, 1, .iastore, 0, 0, 0, .null), (46, 1, .aload_n 0, 0, 0, 0, .null), (47, 3, .getfield 29, 7, 3, 4, .null), (50, 3, .getfield 126, 6, 0, 4, .null), (53, 1, .iload_n 1, 1, 0, 0, .null), (54, 1, .iaload, 0, 0, 0, .null), (55, 1, .ireturn, 0, 0, 0, .null)]
def kX7_change : List zE := [(0, 1, .aload_n 0, 0, 0, 0, .null), (1, 3, .getfield 19, 7, 1, 4, .null), (4, 3, .getfield 100, 4, 0, 0, .null), (7, 3, .ifCond .ne 5, 12, 0, 0, .null), (10, 1, .iconst (-1), 0, 0, 0, .int (-1)), (11, 1, .ireturn, 0, 0, 0, .null), (12, 1, .aload_n 0, 0, 0, 0, .null), (13, 3, .getfield 39, 7, 5, 4, .null), (16, 1, .aload_n 0, 0, 0, 0, .null), (17, 3, .getfield 29, 7, 3, 4, .null), (20, 3, .invokevirtual 151, 36, 2, 12, .null), (23, 1, .aload_n 0, 0, 0, 0, .null), (24, 3, .getfield 29, 7, 3, 4, .null), (27, 1, .aload_n 0, 0, 0, 0, .null), (28, 3, .getfield 19, 7, 1, 4, .null), (31, 3, .invokevirtual 162, 85, 2, 24, .null), (34, 1, .aload_n 0, 0, 0, 0, .null), (35, 3, .getfield 29, 7, 3, 4, .null), (38, 3, .getfield 113, 6, 1, 0, .null), (41, 1, .ireturn, 0, 0, 0, .null)]
def kX7_undo : List zE := [(0, 1, .aload_n 0, 0, 0, 0, .null), (1, 3, .getfield 39, 7, 5, 4, .null), (4, 1, .aload_n 0, 0, 0, 0, .null), (5, 3, .getfield 29, 7, 3, 4, .null), (8, 3, .invokevirtual 165, 37, 2, 13, .null), (11, 1, .ireturn, 0, 0, 2, .null)]
def kX7_redo : List zE := [(0, 1, .aload_n 0, 0, 0, 0, .null), (1, 3, .getfield 39, 7, 5, 4, .null), (4, 1, .aload_n 0, 0, 0, 0, .null), (5, 3, .getfield 29, 7, 3, 4, .null), (8, 3, .invokevirtual 169, 38, 2, 13, .null), (11, 1, .ireturn, 0, 0, 2, .null)]
def kX7_carries : List zE := [(0, 1, .aload_n 0, 0, 0, 0, .null), (1, 1, .iload_n 1, 1, 0, 0, .null), (2, 3, .invokevirtual 148, 142, 2, 29, .null), (5, 3, .ifCond .ne 5, 10, 0, 0, .null), (8, 1, .iconst (-1), 0, 0, 0, .int (-1)), (9, 1, .ireturn, 0, 0, 0, .null), (10, 1, .aload_n 0, 0, 0, 0, .null), (11, 3, .invokevirtual 172, 143, 1, 30, .null), (14, 1, .aload_n 0, 0, 0, 0, .null), (15, 3, .getfield 19, 7, 1, 4, .null), (18, 1, .iload_n 1, 1, 0, 0, .null), (19, 1, .iload_n 2, 2, 0, 0, .null), (20, 3, .invokevirtual 155, 81, 4, 25, .null), (23, 3, .ifCond .eq 7, 30, 0, 0, .null), (26, 1, .iconst 1, 0, 0, 0, .int (1)), (27, 3, .goto 4, 31, 0, 0, .null), (30, 1, .iconst 0, 0, 0, 0, .int (0)), (31, 1, .ireturn, 0, 0, 0, .null)]
def kX7_shots : List zE := [(0, 1, .aload_n 0, 0, 0, 0, .null), (1, 1, .iload_n 1, 1, 0, 0, .null), (2, 3, .invokevirtual 148, 142, 2, 29, .null), (5, 3, .ifCond .ne 5, 10, 0, 0, .null), (8, 1, .iconst (-1), 0, 0, 0, .int (-1)), (9, 1, .ireturn, 0, 0, 0, .null), (10, 1, .aload_n 0, 0, 0, 0, .null), (11, 3, .invokevirtual 172, 143, 1, 30, .null), (14, 1, .aload_n 0, 0, 0, 0, .null), (15, 3, .getfield 19, 7, 1, 4, .null), (18, 1, .iload_n 1, 1, 0, 0, .null), (19, 1, .iload_n 2, 2, 0, 0, .null), (20, 3, .invokevirtual 155, 81, 4, 25, .null), (23, 1, .pop, 0, 0, 0, .null), (24, 1, .aload_n 0, 0, 0, 0, .null), (25, 3, .getfield 33, 7, 4, 4, .null), (28, 3, .getfield 176, 6, 5, 0, .null), (31, 1, .ireturn, 0, 0, 0, .null)]
def kX7_backers : List zE := [(0, 1, .aload_n 0, 0, 0, 0, .null), (1, 1, .iload_n 1, 1, 0, 0, .null), (2, 3, .invokevirtual 148, 142, 2, 29, .null), (5, 3, .ifCond .ne 5, 10, 0, 0, .null), (8, 1, .iconst (-1), 0, 0, 0, .int (-1)), (9, 1, .ireturn, 0, 0, 0, .null), (10, 1, .aload_n 0, 0, 0, 0, .null), (11, 3, .invokevirtual 172, 143, 1, 30, .null), (14, 1, .aload_n 0, 0, 0, 0, .null), (15, 3, .getfield 19, 7, 1, 4, .null), (18, 1, .iload_n 1, 1, 0, 0, .null), (19, 1, .iload_n 2, 2, 0, 0, .null), (20, 3, .invokevirtual 155, 81, 4, 25, .null), (23, 1, .pop, 0, 0, 0, .null), (24, 1, .aload_n 0, 0, 0, 0, .null), (25, 3, .getfield 33, 7, 4, 4, .null), (28, 3, .getfield 179, 6, 6, 0, .null), (31, 1, .ireturn, 0, 0, 0, .null)]
def kX7_will : List zE := [(0, 1, .aload_n 0, 0, 0, 0, .null), (1, 1, .iload_n 1, 1, 0, 0, .null), (2, 3, .invokevirtual 109, 138, 2, 29, .null), (5, 3, .ifCond .eq 22, 27, 0, 0, .null), (8, 1, .iload_n 2, 2, 0, 0, .null), (9, 3, .ifCond .lt 18, 27, 0, 0, .null), (12, 1, .iload_n 2, 2, 0, 0, .null), (13, 2, .bipush 6, 0, 0, 0, .int (6)), (15, 3, .if_icmp .gt 12, 27, 0, 0, .null), (18, 1, .iload_n 3, 3, 0, 0, .null), (19, 3, .ifCond .lt 8, 27, 0, 0, .null), (22, 1, .iload_n 3, 3, 0, 0, .null), (23, 1, .iconst 1, 0, 0, 0, .int (1)), (24, 3, .if_icmp .le 5, 29, 0, 0, .null), (27, 1, .iconst (-1), 0, 0, 0, .int (-1)), (28, 1, .ireturn, 0, 0, 0, .null), (29, 1, .aload_n 0, 0, 0, 0, .null), (30, 3, .invokevirtual 172, 143, 1, 30, .null), (33, 1, .pop, 0, 0, 0, .null), (34, 1, .iload_n 2, 2, 0, 0, .null), (35, 2, .istore 4, 4, 0, 0, .null), (37, 1, .iconst 0, 0, 0, 0, .int (0)), (38, 2, .istore 5, 5, 0, 0, .null), (40, 2, .iload 5, 5, 0, 0, .null), (42, 1, .aload_n 0, 0, 0, 0, .null), (43, 3, .getfield 19, 7, 1, 4, .null), (46, 3, .getfield 182, 4, 4, 0, .null), (49, 3, .if_icmp .ge 63, 112, 0, 0, .null), (52, 2, .iload 4, 4, 0, 0, .null), (54, 3, .ifCond .le 58, 112, 0, 0, .null), (57, 1, .aload_n 0, 0, 0, 0, .null), (58, 3, .getfield 29, 7, 3, 4, .null), (61, 3, .getfield 135, 6, 2, 0, .null), (64, 2, .iload 5, 5, 0, 0, .null), (66, 3, .invokestatic 116, 151, 2, 1, .null), (69, 3, .ifCond .ne 37, 106, 0, 0, .null), (72, 1, .aload_n 0, 0, 0, 0, .null), (73, 3, .getfield 33, 7, 4, 4, .null), (76, 1, .aload_n 0, 0, 0, 0, .null), (77, 3, .getfield 19, 7, 1, 4, .null), (80, 2, .iload 5, 5, 0, 0, .null), (82, 1, .iconst 0, 0, 0, 0, .int (0)), (83, 3, .invokevirtual 155, 81, 4, 25, .null), (86, 1, .pop, 0, 0, 0, .null), (87, 1, .iload_n 3, 3, 0, 0, .null), (88, 1, .iconst 1, 0, 0, 0, .int (1)), (89, 3, .if_icmp .ne 14, 103, 0, 0, .null), (92, 1, .aload_n 0, 0, 0, 0, .null), (93, 3, .getfield 33, 7, 4, 4, .null), (96, 1, .aload_n 0, 0, 0, 0, .null), (97, 3, .getfield 19, 7, 1, 4, .null), (100, 3, .invokevirtual 159, 84, 2, 24, .null), (103, 3, .iinc 4 (-1), 4, 0, 0, .int (-1)), (106, 3, .iinc 5 1, 5, 0, 0, .int (1)), (109, 3, .goto (-69), 40, 0, 0, .null), (112, 1, .aload_n 0, 0, 0, 0, .null), (113, 3, .getfield 33, 7, 4, 4, .null), (116, 3, .getfield 126, 6, 0, 4, .null), (119, 1, .iload_n 1, 1, 0, 0, .null), (120, 1, .iaload, 0, 0, 0, .null), (121, 1, .ireturn, 0, 0, 0, .null)]
def kX7_agenda : List zE := [(0, 1, .aload_n 0, 0, 0, 0, .null), (1, 3, .getfield 46, 7, 6, 4, .null), (4, 1, .aload_n 0, 0, 0, 0, .null), (5, 3, .getfield 19, 7, 1, 4, .null), (8, 1, .aload_n 0, 0, 0, 0, .null), (9, 3, .getfield 29, 7, 3, 4, .null), (12, 1, .iload_n 1, 1, 0, 0, .null), (13, 3, .invokevirtual 185, 19, 4, 0, .null), (16, 1, .aload_n 0, 0, 0, 0, .null), (17, 1, .aload_n 0, 0, 0, 0, .null), (18, 3, .getfield 19, 7, 1, 4, .null), (21, 3, .getfield 182, 4, 4, 0, .null), (24, 1, .aload_n 0, 0, 0, 0, .null), (25, 3, .getfield 29, 7, 3, 4, .null), (28, 3, .getfield 135, 6, 2, 0, .null), (31, 3, .invokestatic 189, 0, 1, 1, .null), (34, 1, .isub, 0, 0, 0, .null), (35, 2, .bipush 6, 0, 0, 0, .int (6)), (37, 3, .invokestatic 195, 4, 2, 1, .null), (40, 3, .putfield 97, 7, 11, 0, .null), (43, 1, .iconst 0, 0, 0, 0, .int (0)), (44, 1, .istore_n 2, 2, 0, 0, .null), (45, 1, .iload_n 2, 2, 0, 0, .null), (46, 1, .aload_n 0, 0, 0, 0, .null), (47, 3, .getfield 97, 7, 11, 0, .null), (50, 3, .if_icmp .ge 24, 74, 0, 0, .null), (53, 1, .aload_n 0, 0, 0, 0, .null), (54, 3, .getfield 61, 7, 10, 4, .null), (57, 1, .iload_n 2, 2, 0, 0, .null), (58, 1, .aload_n 0, 0, 0, 0, .null), (59, 3, .getfield 46, 7, 6, 4, .null), (62, 3, .getfield 201, 0, 1, 4, .null), (65, 1, .iload_n 2, 2, 0, 0, .null), (66, 1, .iaload, 0, 0, 0, .null), (67, 1, .iastore, 0, 0, 0, .null), (68, 3, .iinc 2 1, 2, 0, 0, .int (1)), (71, 3, .goto (-26), 45, 0, 0, .null), (74, 1, .aload_n 0, 0, 0, 0, .null), (75, 3, .getfield 46, 7, 6, 4, .null), (78, 3, .getfield 204, 0, 0, 0, .null), (81, 1, .ireturn, 0, 0, 0, .null)]
def kX7_tones : List zE := [(0, 1, .iload_n 1, 1, 0, 0, .null), (1, 3, .ifCond .eq 10, 11, 0, 0, .null), (4, 1, .iload_n 1, 1, 0, 0, .null), (5, 1, .iconst 1, 0, 0, 0, .int (1)), (6, 3, .if_icmp .eq 5, 11, 0, 0, .null), (9, 1, .iconst (-1), 0, 0, 0, .int (-1)), (10, 1, .ireturn, 0, 0, 0, .null), (11, 1, .iconst (-1), 0, 0, 0, .int (-1)), (12, 1, .istore_n 2, 2, 0, 0, .null), (13, 1, .iconst 0, 0, 0, 0, .int (0)), (14, 1, .istore_n 3, 3, 0, 0, .null), (15, 1, .iconst 0, 0, 0, 0, .int (0)), (16, 2, .istore 4, 4, 0, 0, .null), (18, 1, .iconst 0, 0, 0, 0, .int (0)), (19, 2, .istore 5, 5, 0, 0, .null), (21, 2, .iload 5, 5, 0, 0, .null), (23, 1, .iconst 1, 0, 0, 0, .int (1)), (24, 1, .aload_n 0, 0, 0, 0, .null), (25, 3, .getfield 19, 7, 1, 4, .null), (28, 3, .getfield 182, 4, 4, 0, .null), (31, 1, .ishl, 0, 0, 0, .null), (32, 3, .if_icmp .ge 65, 97, 0, 0, .null), (35, 2, .iload 5, 5, 0, 0, .null), (37, 1, .aload_n 0, 0, 0, 0, .null), (38, 3, .getfield 29, 7, 3, 4, .null), (41, 3, .getfield 135, 6, 2, 0, .null), (44, 1, .iand, 0, 0, 0, .null), (45, 3, .ifCond .ne 46, 91, 0, 0, .null), (48, 1, .aload_n 0, 0, 0, 0, .null), (49, 2, .iload 5, 5, 0, 0, .null), (51, 3, .invokevirtual 207, 146, 2, 29, .null), (54, 2, .istore 6, 6, 0, 0, .null), (56, 2, .iload 5, 5, 0, 0, .null), (58, 3, .invokestatic 189, 0, 1, 1, .null), (61, 2, .istore 7, 7, 0, 0, .null), (63, 2, .iload 6, 6, 0, 0, .null), (65, 1, .iload_n 2, 2, 0, 0, .null), (66, 3, .if_icmp .gt 15, 81, 0, 0, .null), (69, 2, .iload 6, 6, 0, 0, .null), (71, 1, .iload_n 2, 2, 0, 0, .null), (72, 3, .if_icmp .ne 19, 91, 0, 0, .null), (75, 2, .iload 7, 7, 0, 0, .null), (77, 1, .iload_n 3, 3, 0, 0, .null), (78, 3, .if_icmp .ge 13, 91, 0, 0, .null), (81, 2, .iload 6, 6, 0, 0, .null), (83, 1, .istore_n 2, 2, 0, 0, .null), (84, 2, .iload 7, 7, 0, 0, .null), (86, 1, .istore_n 3, 3, 0, 0, .null), (87, 2, .iload 5, 5, 0, 0, .null), (89, 2, .istore 4, 4, 0, 0, .null), (91, 3, .iinc 5 1, 5, 0, 0, .int (1)), (94, 3, .goto (-73), 21, 0, 0, .null), (97, 1, .iload_n 1, 1, 0, 0, .null), (98, 3, .ifCond .ne 7, 105, 0, 0, .null), (101, 1, .iload_n 2, 2, 0, 0, .null), (102, 3, .goto 5, 107, 0, 0, .null), (105, 2, .iload 4, 4, 0, 0, .null), (107, 1, .ireturn, 0, 0, 0, .null)]
def kX7_lost : List zE := [(0, 1, .aload_n 0, 0, 0, 0, .null), (1, 3, .invokevirtual 172, 143, 1, 30, .null), (4, 1, .pop, 0, 0, 0, .null), (5, 1, .iconst 0, 0, 0, 0, .int (0)), (6, 1, .istore_n 2, 2, 0, 0, .null), (7, 1, .iload_n 2, 2, 0, 0, .null), (8, 1, .aload_n 0, 0, 0, 0, .null), (9, 3, .getfield 19, 7, 1, 4, .null), (12, 3, .getfield 182, 4, 4, 0, .null), (15, 3, .if_icmp .ge 41, 56, 0, 0, .null), (18, 1, .aload_n 0, 0, 0, 0, .null), (19, 3, .getfield 29, 7, 3, 4, .null), (22, 3, .getfield 135, 6, 2, 0, .null), (25, 1, .iload_n 2, 2, 0, 0, .null), (26, 3, .invokestatic 116, 151, 2, 1, .null), (29, 3, .ifCond .ne 21, 50, 0, 0, .null), (32, 1, .aload_n 0, 0, 0, 0, .null), (33, 3, .getfield 33, 7, 4, 4, .null), (36, 1, .aload_n 0, 0, 0, 0, .null), (37, 3, .getfield 19, 7, 1, 4, .null), (40, 1, .iload_n 2, 2, 0, 0, .null), (41, 1, .iload_n 1, 1, 0, 0, .null), (42, 3, .invokevirtual 155, 81, 4, 25, .null), (45, 3, .ifCond .ne 5, 50, 0, 0, .null), (48, 1, .iload_n 2, 2, 0, 0, .null), (49, 1, .ireturn, 0, 0, 0, .null), (50, 3, .iinc 2 1, 2, 0, 0, .int (1)), (53, 3, .goto (-46), 7, 0, 0, .null), (56, 1, .iconst (-1), 0, 0, 0, .int (-1)), (57, 1, .ireturn, 0, 0, 0, .null)]
def kX7_tips : List zE := [(0, 1, .aload_n 0, 0, 0, 0, .null), (1, 1, .iload_n 1, 1, 0, 0, .null), (2, 3, .invokevirtual 109, 138, 2, 29, .null), (5, 3, .ifCond .eq 14, 19, 0, 0, .null), (8, 1, .aload_n 0, 0, 0, 0, .null), (9, 3, .getfield 19, 7, 1, 4, .null), (12, 1, .iload_n 1, 1, 0, 0, .null), (13, 3, .invokevirtual 210, 49, 2, 17, .null), (16, 3, .goto 4, 20, 0, 0, .null), (19, 1, .iconst (-1), 0, 0, 0, .int (-1)), (20, 1, .ireturn, 0, 0, 0, .null)]
def kX7_league : List zE := [(0, 1, .aload_n 0, 0, 0, 0, .null), (1, 1, .iload_n 1, 1, 0, 0, .null), (2, 3, .invokevirtual 109, 138, 2, 29, .null), (5, 3, .ifCond .eq 12, 17, 0, 0, .null), (8, 1, .iload_n 2, 2, 0, 0, .null), (9, 3, .ifCond .lt 8, 17, 0, 0, .null), (12, 1, .iload_n 2, 2, 0, 0, .null), (13, 1, .iconst 1, 0, 0, 0, .int (1)), (14, 3, .if_icmp .le 5, 19, 0, 0, .null), (17, 1, .iconst (-1), 0, 0, 0, .int (-1)), (18, 1, .ireturn, 0, 0, 0, .null), (19, 1, .aload_n 0, 0, 0, 0, .null), (20, 3, .getfield 19, 7, 1, 4, .null), (23, 1, .iload_n 1, 1, 0, 0, .null), (24, 3, .invokevirtual 213, 51, 2, 17, .null), (27, 1, .istore_n 3, 3, 0, 0, .null), (28, 1, .iload_n 3, 3, 0, 0, .null), (29, 1, .iconst (-1), 0, 0, 0, .int (-1)), (30, 3, .if_icmp .eq 8, 38, 0, 0, .null), (33, 1, .iload_n 2, 2, 0, 0, .null), (34, 1, .iconst 1, 0, 0, 0, .int (1)), (35, 3, .if_icmp .ne 7, 42, 0, 0, .null), (38, 1, .iload_n 3, 3, 0, 0, .null), (39, 3, .goto 7, 46, 0, 0, .null), (42, 1, .iload_n 3, 3, 0, 0, .null), (43, 3, .invokestatic 189, 0, 1, 1, .null), (46, 1, .ireturn, 0, 0, 0, .null)]
def kX7_disarm : List zE := [(0, 1, .aload_n 0, 0, 0, 0, .null), (1, 1, .iload_n 1, 1, 0, 0, .null), (2, 1, .iload_n 2, 2, 0, 0, .null), (3, 3, .invokevirtual 216, 140, 3, 29, .null), (6, 3, .ifCond .eq 13, 19, 0, 0, .null), (9, 1, .iload_n 3, 3, 0, 0, .null), (10, 3, .ifCond .lt 9, 19, 0, 0, .null), (13, 1, .iload_n 3, 3, 0, 0, .null), (14, 2, .bipush 99, 0, 0, 0, .int (99)), (16, 3, .if_icmp .le 5, 21, 0, 0, .null), (19, 1, .iconst (-1), 0, 0, 0, .int (-1)), (20, 1, .ireturn, 0, 0, 0, .null), (21, 1, .aload_n 0, 0, 0, 0, .null), (22, 3, .getfield 29, 7, 3, 4, .null), (25, 3, .getfield 126, 6, 0, 4, .null), (28, 1, .iload_n 1, 1, 0, 0, .null), (29, 1, .iaload, 0, 0, 0, .null), (30, 2, .istore 4, 4, 0, 0, .null), (32, 1, .aload_n 0, 0, 0, 0, .null), (33, 3, .getfield 29, 7, 3, 4, .null), (36, 3, .getfield 126, 6, 0, 4, .null), (39, 1, .iload_n 2, 2, 0, 0, .null), (40, 1, .iaload, 0, 0, 0, .null), (41, 2, .istore 5, 5, 0, 0, .null), (43, 2, .iload 4, 4, 0, 0, .null), (45, 2, .iload 5, 5, 0, 0, .null), (47, 1, .isub, 0, 0, 0, .null), (48, 3, .invokestatic 219, 2, 1, 1, .null), (51, 2, .istore 6, 6, 0, 0, .null), (53, 2, .iload 6, 6, 0, 0, .null), (55, 1, .iload_n 3, 3, 0, 0, .null), (56, 1, .iconst 1, 0, 0, 0, .int (1)), (57, 1, .iadd, 0, 0, 0, .null), (58, 3, .if_icmp .le 5, 63, 0, 0, .null), (61, 1, .iconst (-1), 0, 0, 0, .int (-1)), (62, 1, .ireturn, 0, 0, 0, .null), (63, 1, .iload_n 3, 3, 0, 0, .null), (64, 3, .ifCond .ne 14, 78, 0, 0, .null), (67, 2, .iload 4, 4, 0, 0, .null), (69, 2, .iload 5, 5, 0, 0, .null), (71, 1, .iadd, 0, 0, 0, .null), (72, 1, .iconst 1, 0, 0, 0, .int (1)), (73, 3, .if_icmp .le 5, 78, 0, 0, .null), (76, 1, .iconst (-1), 0, 0, 0, .int (-1)), (77, 1, .ireturn, 0, 0, 0, .null), (78, 2, .iload 4, 4, 0, 0, .null), (80, 2, .iload 5, 5, 0, 0, .null), (82, 1, .iadd, 0, 0, 0, .null), (83, 1, .ireturn, 0, 0, 0, .null)]
def kX7_trust : List zE := [(0, 1, .aload_n 0, 0, 0, 0, .null), (1, 1, .iconst 0, 0, 0, 0, .int (0)), (2, 3, .putfield 97, 7, 11, 0, .null), (5, 1, .aload_n 0, 0, 0, 0, .null), (6, 1, .iload_n 1, 1, 0, 0, .null), (7, 1, .iload_n 2, 2, 0, 0, .null), (8, 3, .invokevirtual 216, 140, 3, 29, .null), (11, 3, .ifCond .ne 5, 16, 0, 0, .null), (14, 1, .iconst (-1), 0, 0, 0, .int (-1)), (15, 1, .ireturn, 0, 0, 0, .null), (16, 1, .iconst 0, 0, 0, 0, .int (0)), (17, 1, .istore_n 3, 3, 0, 0, .null), (18, 1, .iconst 0, 0, 0, 0, .int (0)), (19, 2, .istore 4, 4, 0, 0, .null), (21, 2, .iload 4, 4, 0, 0, .null), (23, 1, .iconst 4, 0, 0, 0, .int (4)), (24, 3, .if_icmp .ge 87, 111, 0, 0, .null), (27, 2, .iload 4, 4, 0, 0, .null), (29, 1, .iconst 1, 0, 0, 0, .int (1)), (30, 1, .ishr, 0, 0, 0, .null), (31, 2, .istore 5, 5, 0, 0, .null), (33, 2, .iload 4, 4, 0, 0, .null), (35, 1, .iconst 1, 0, 0, 0, .int (1)), (36, 1, .iand, 0, 0, 0, .null), (37, 2, .istore 6, 6, 0, 0, .null), (39, 2, .iload 5, 5, 0, 0, .null), (41, 2, .iload 6, 6, 0, 0, .null), (43, 1, .aload_n 0, 0, 0, 0, .null), (44, 3, .getfield 29, 7, 3, 4, .null), (47, 3, .getfield 126, 6, 0, 4, .null), (50, 1, .iload_n 2, 2, 0, 0, .null), (51, 1, .iaload, 0, 0, 0, .null), (52, 3, .invokestatic 222, 147, 3, 1, .null), (55, 3, .ifCond .eq 50, 105, 0, 0, .null), (58, 2, .iload 6, 6, 0, 0, .null), (60, 2, .iload 5, 5, 0, 0, .null), (62, 1, .aload_n 0, 0, 0, 0, .null), (63, 3, .getfield 29, 7, 3, 4, .null), (66, 3, .getfield 126, 6, 0, 4, .null), (69, 1, .iload_n 1, 1, 0, 0, .null), (70, 1, .iaload, 0, 0, 0, .null), (71, 3, .invokestatic 222, 147, 3, 1, .null), (74, 3, .ifCond .eq 31, 105, 0, 0, .null), (77, 1, .iload_n 3, 3, 0, 0, .null), (78, 3, .ifCond .ne 24, 102, 0, 0, .null), (81, 1, .aload_n 0, 0, 0, 0, .null), (82, 3, .getfield 61, 7, 10, 4, .null), (85, 1, .iconst 0, 0, 0, 0, .int (0)), (86, 2, .iload 5, 5, 0, 0, .null), (88, 1, .iastore, 0, 0, 0, .null), (89, 1, .aload_n 0, 0, 0, 0, .null), (90, 3, .getfield 61, 7, 10, 4, .null), (93, 1, .iconst 1, 0, 0, 0, .int (1)), (94, 2, .iload 6, 6, 0, 0, .null), (96, 1, .iastore, 0, 0, 0, .null), (97, 1, .aload_n 0, 0, 0, 0, .null), (98, 1, .iconst 2, 0, 0, 0, .int (2)), (99, 3, .putfield 97, 7, 11, 0, .null), (102, 3, .iinc 3 1, 3, 0, 0, .int (1)), (105, 3, .iinc 4 1, 4, 0, 0, .int (1)), (108, 3, .goto (-87), 21, 0, 0, .null), (111, 1, .iload_n 3, 3, 0, 0, .null), (112, 1, .ireturn, 0, 0, 0, .null)]
def kX7_edge : List zE := [(0, 1, .aload_n 0, 0, 0, 0, .null), (1, 1, .iload_n 1, 1, 0, 0, .null), (2, 3, .invokevirtual 148, 142, 2, 29, .null), (5, 3, .ifCond .ne 5, 10, 0, 0, .null), (8, 1, .iconst (-1), 0, 0, 0, .int (-1)), (9, 1, .ireturn, 0, 0, 0, .null), (10, 2, .bipush 20, 0, 0, 0, .int (20)), (12, 1, .istore_n 3, 3, 0, 0, .null), (13, 1, .iload_n 3, 3, 0, 0, .null), (14, 3, .ifCond .lt 29, 43, 0, 0, .null), (17, 1, .aload_n 0, 0, 0, 0, .null), (18, 3, .invokevirtual 172, 143, 1, 30, .null), (21, 1, .aload_n 0, 0, 0, 0, .null), (22, 3, .getfield 19, 7, 1, 4, .null), (25, 1, .iload_n 1, 1, 0, 0, .null), (26, 1, .iload_n 3, 3, 0, 0, .null), (27, 1, .iconst (-1), 0, 0, 0, .int (-1)), (28, 1, .iload_n 2, 2, 0, 0, .null), (29, 3, .invokevirtual 226, 82, 6, 25, .null), (32, 3, .ifCond .eq 5, 37, 0, 0, .null), (35, 1, .iload_n 3, 3, 0, 0, .null), (36, 1, .ireturn, 0, 0, 0, .null), (37, 3, .iinc 3 (-1), 3, 0, 0, .int (-1)), (40, 3, .goto (-27), 13, 0, 0, .null), (43, 1, .iconst (-1), 0, 0, 0, .int (-1)), (44, 1, .ireturn, 0, 0, 0, .null)]
def kX7_usher : List zE := [(0, 1, .iload_n 2, 2, 0, 0, .null), (1, 3, .ifCond .eq 10, 11, 0, 0, .null), (4, 1, .iload_n 2, 2, 0, 0, .null), (5, 1, .iconst 1, 0, 0, 0, .int (1)), (6, 3, .if_icmp .eq 5, 11, 0, 0, .null), (9, 1, .iconst (-1), 0, 0, 0, .int (-1)), (10, 1, .ireturn, 0, 0, 0, .null), (11, 1, .iconst (-1), 0, 0, 0, .int (-1)), (12, 1, .istore_n 3, 3, 0, 0, .null), (13, 1, .iconst (-1), 0, 0, 0, .int (-1)), (14, 2, .istore 4, 4, 0, 0, .null), (16, 1, .iconst 0, 0, 0, 0, .int (0)), (17, 2, .istore 5, 5, 0, 0, .null), (19, 2, .iload 5, 5, 0, 0, .null), (21, 1, .aload_n 0, 0, 0, 0, .null), (22, 3, .getfield 19, 7, 1, 4, .null), (25, 3, .getfield 100, 4, 0, 0, .null), (28, 3, .if_icmp .ge 83, 111, 0, 0, .null), (31, 1, .aload_n 0, 0, 0, 0, .null), (32, 3, .getfield 29, 7, 3, 4, .null), (35, 3, .getfield 113, 6, 1, 0, .null), (38, 2, .iload 5, 5, 0, 0, .null), (40, 3, .invokestatic 116, 151, 2, 1, .null), (43, 3, .ifCond .eq 62, 105, 0, 0, .null), (46, 1, .aload_n 0, 0, 0, 0, .null), (47, 3, .invokevirtual 172, 143, 1, 30, .null), (50, 1, .pop, 0, 0, 0, .null), (51, 1, .aload_n 0, 0, 0, 0, .null), (52, 3, .getfield 33, 7, 4, 4, .null), (55, 3, .getfield 126, 6, 0, 4, .null), (58, 2, .iload 5, 5, 0, 0, .null), (60, 1, .iconst 0, 0, 0, 0, .int (0)), (61, 1, .aload_n 0, 0, 0, 0, .null), (62, 3, .getfield 33, 7, 4, 4, .null), (65, 3, .getfield 126, 6, 0, 4, .null), (68, 2, .iload 5, 5, 0, 0, .null), (70, 1, .iaload, 0, 0, 0, .null), (71, 1, .iconst 1, 0, 0, 0, .int (1)), (72, 1, .isub, 0, 0, 0, .null), (73, 3, .invokestatic 230, 3, 2, 1, .null), (76, 1, .iastore, 0, 0, 0, .null), (77, 1, .aload_n 0, 0, 0, 0, .null), (78, 3, .getfield 33, 7, 4, 4, .null), (81, 1, .aload_n 0, 0, 0, 0, .null), (82, 3, .getfield 19, 7, 1, 4, .null), (85, 1, .iconst (-1), 0, 0, 0, .int (-1)), (86, 1, .iload_n 1, 1, 0, 0, .null), (87, 3, .invokevirtual 233, 83, 4, 25, .null), (90, 2, .istore 6, 6, 0, 0, .null), (92, 2, .iload 6, 6, 0, 0, .null), (94, 1, .iload_n 3, 3, 0, 0, .null), (95, 3, .if_icmp .le 10, 105, 0, 0, .null), (98, 2, .iload 6, 6, 0, 0, .null), (100, 1, .istore_n 3, 3, 0, 0, .null), (101, 2, .iload 5, 5, 0, 0, .null), (103, 2, .istore 4, 4, 0, 0, .null), (105, 3, .iinc 5 1, 5, 0, 0, .int (1)), (108, 3, .goto (-89), 19, 0, 0, .null), (111, 1, .iload_n 2, 2, 0, 0, .null), (112, 3, .ifCond .ne 8, 120, 0, 0, .null), (115, 2, .iload 4, 4, 0, 0, .null), (117, 3, .goto 4, 121, 0, 0, .null), (120, 1, .iload_n 3, 3, 0, 0, .null), (121, 1, .ireturn, 0, 0, 0, .null)]
def kX7_creak : List zE := [(0, 1, .aload_n 0, 0, 0, 0, .null), (1, 1, .iload_n 1, 1, 0, 0, .null), (2, 3, .invokevirtual 129, 141, 2, 29, .null), (5, 3, .ifCond .eq 12, 17, 0, 0, .null), (8, 1, .aload_n 0, 0, 0, 0, .null), (9, 1, .iload_n 1, 1, 0, 0, .null), (10, 1, .iload_n 2, 2, 0, 0, .null), (11, 3, .invokevirtual 237, 145, 3, 29, .null), (14, 3, .goto 6, 20, 0, 0, .null), (17, 3, .sipush (-1000), 0, 0, 0, .int (-1000)), (20, 1, .ireturn, 0, 0, 0, .null)]
def kX7_over : List zE := [(0, 1, .aload_n 0, 0, 0, 0, .null), (1, 3, .invokevirtual 172, 143, 1, 30, .null), (4, 1, .aload_n 0, 0, 0, 0, .null), (5, 3, .getfield 19, 7, 1, 4, .null), (8, 3, .invokevirtual 162, 85, 2, 24, .null), (11, 1, .aload_n 0, 0, 0, 0, .null), (12, 3, .getfield 33, 7, 4, 4, .null), (15, 1, .aload_n 0, 0, 0, 0, .null), (16, 3, .getfield 19, 7, 1, 4, .null), (19, 1, .iconst (-1), 0, 0, 0, .int (-1)), (20, 1, .iconst 0, 0, 0, 0, .int (0)), (21, 3, .invokevirtual 233, 83, 4, 25, .null), (24, 1, .ireturn, 0, 0, 0, .null)]
def kX7_drops : List zE := [(0, 1, .aload_n 0, 0, 0, 0, .null), (1, 1, .iload_n 1, 1, 0, 0, .null), (2, 3, .invokevirtual 148, 142, 2, 29, .null), (5, 3, .ifCond .eq 20, 25, 0, 0, .null), (8, 1, .aload_n 0, 0, 0, 0, .null), (9, 1, .aload_n 0, 0, 0, 0, .null), (10, 3, .getfield 19, 7, 1, 4, .null), (13, 3, .getfield 132, 4, 5, 4, .null), (16, 1, .iload_n 1, 1, 0, 0, .null), (17, 1, .iaload, 0, 0, 0, .null), (18, 1, .iload_n 2, 2, 0, 0, .null), (19, 3, .invokevirtual 241, 149, 3, 29, .null), (22, 3, .ifCond .ne 5, 27, 0, 0, .null), (25, 1, .iconst (-1), 0, 0, 0, .int (-1)), (26, 1, .ireturn, 0, 0, 0, .null), (27, 1, .iconst (-1), 0, 0, 0, .int (-1)), (28, 1, .istore_n 3, 3, 0, 0, .null), (29, 1, .iconst 0, 0, 0, 0, .int (0)), (30, 2, .istore 4, 4, 0, 0, .null), (32, 2, .iload 4, 4, 0, 0, .null), (34, 1, .iconst 1, 0, 0, 0, .int (1)), (35, 1, .aload_n 0, 0, 0, 0, .null), (36, 3, .getfield 19, 7, 1, 4, .null), (39, 3, .getfield 100, 4, 0, 0, .null), (42, 1, .ishl, 0, 0, 0, .null), (43, 3, .if_icmp .ge 52, 95, 0, 0, .null), (46, 2, .iload 4, 4, 0, 0, .null), (48, 1, .aload_n 0, 0, 0, 0, .null), (49, 3, .getfield 29, 7, 3, 4, .null), (52, 3, .getfield 113, 6, 1, 0, .null), (55, 1, .iconst (-1), 0, 0, 0, .int (-1)), (56, 1, .ixor, 0, 0, 0, .null), (57, 1, .iand, 0, 0, 0, .null), (58, 3, .ifCond .ne 31, 89, 0, 0, .null), (61, 1, .aload_n 0, 0, 0, 0, .null), (62, 2, .iload 4, 4, 0, 0, .null), (64, 3, .invokevirtual 245, 150, 2, 29, .null), (67, 2, .istore 5, 5, 0, 0, .null), (69, 2, .iload 5, 5, 0, 0, .null), (71, 1, .iconst (-1), 0, 0, 0, .int (-1)), (72, 3, .if_icmp .eq 17, 89, 0, 0, .null), (75, 1, .iload_n 3, 3, 0, 0, .null), (76, 1, .iconst (-1), 0, 0, 0, .int (-1)), (77, 3, .if_icmp .eq 9, 86, 0, 0, .null), (80, 2, .iload 5, 5, 0, 0, .null), (82, 1, .iload_n 3, 3, 0, 0, .null), (83, 3, .if_icmp .ge 6, 89, 0, 0, .null), (86, 2, .iload 5, 5, 0, 0, .null), (88, 1, .istore_n 3, 3, 0, 0, .null), (89, 3, .iinc 4 1, 4, 0, 0, .int (1)), (92, 3, .goto (-60), 32, 0, 0, .null), (95, 1, .iload_n 3, 3, 0, 0, .null), (96, 1, .ireturn, 0, 0, 0, .null)]
def kX7_swap : List zE := [(0, 1, .aload_n 0, 0, 0, 0, .null), (1, 3, .invokevirtual 172, 143, 1, 30, .null), (4, 1, .aload_n 0, 0, 0, 0, .null), (5, 3, .getfield 19, 7, 1, 4, .null), (8, 1, .iconst (-1), 0, 0, 0, .int (-1)), (9, 1, .iload_n 1, 1, 0, 0, .null), (10, 3, .invokevirtual 233, 83, 4, 25, .null), (13, 1, .istore_n 3, 3, 0, 0, .null), (14, 1, .iconst (-1), 0, 0, 0, .int (-1)), (15, 2, .istore 4, 4, 0, 0, .null), (17, 1, .iconst (-1), 0, 0, 0, .int (-1)), (18, 2, .istore 5, 5, 0, 0, .null), (20, 1, .iconst 0, 0, 0, 0, .int (0)), (21, 2, .istore 6, 6, 0, 0, .null), (23, 2, .iload 6, 6, 0, 0, .null), (25, 1, .aload_n 0, 0, 0, 0, .null), (26, 3, .getfield 19, 7, 1, 4, .null), (29, 3, .getfield 100, 4, 0, 0, .null), (32, 3, .if_icmp .ge 121, 153, 0, 0, .null), (35, 2, .iload 6, 6, 0, 0, .null), (37, 1, .iconst 1, 0, 0, 0, .int (1)), (38, 1, .iadd, 0, 0, 0, .null), (39, 2, .istore 7, 7, 0, 0, .null), (41, 2, .iload 7, 7, 0, 0, .null), (43, 1, .aload_n 0, 0, 0, 0, .null), (44, 3, .getfield 19, 7, 1, 4, .null), (47, 3, .getfield 100, 4, 0, 0, .null), (50, 3, .if_icmp .ge 97, 147, 0, 0, .null), (53, 1, .aload_n 0, 0, 0, 0, .null), (54, 2, .iload 6, 6, 0, 0, .null), (56, 2, .iload 7, 7, 0, 0, .null), (58, 3, .invokevirtual 216, 140, 3, 29, .null), (61, 3, .ifCond .eq 80, 141, 0, 0, .null), (64, 1, .aload_n 0, 0, 0, 0, .null), (65, 3, .invokevirtual 172, 143, 1, 30, .null), (68, 1, .pop, 0, 0, 0, .null), (69, 1, .aload_n 0, 0, 0, 0, .null), (70, 3, .getfield 33, 7, 4, 4, .null), (73, 3, .getfield 126, 6, 0, 4, .null), (76, 2, .iload 6, 6, 0, 0, .null), (78, 1, .aload_n 0, 0, 0, 0, .null), (79, 3, .getfield 29, 7, 3, 4, .null), (82, 3, .getfield 126, 6, 0, 4, .null), (85, 2, .iload 7, 7, 0, 0, .null), (87, 1, .iaload, 0, 0, 0, .null), (88, 1, .iastore, 0, 0, 0, .null), (89, 1, .aload_n 0, 0, 0, 0, .null), (90, 3, .getfield 33, 7, 4, 4, .null), (93, 3, .getfield 126, 6, 0, 4, .null), (96, 2, .iload 7, 7, 0, 0, .null), (98, 1, .aload_n 0, 0, 0, 0, .null), (99, 3, .getfield 29, 7, 3, 4, .null), (102, 3, .getfield 126, 6, 0, 4, .null), (105, 2, .iload 6, 6, 0, 0, .null), (107, 1, .iaload, 0, 0, 0, .null), (108, 1, .iastore, 0, 0, 0, .null), (109, 1, .aload_n 0, 0, 0, 0, .null), (110, 3, .getfield 33, 7, 4, 4, .null), (113, 1, .aload_n 0, 0, 0, 0, .null), (114, 3, .getfield 19, 7, 1, 4, .null), (117, 1, .iconst (-1), 0, 0, 0, .int (-1)), (118, 1, .iload_n 1, 1, 0, 0, .null), (119, 3, .invokevirtual 233, 83, 4, 25, .null), (122, 2, .istore 8, 8, 0, 0, .null), (124, 2, .iload 8, 8, 0, 0, .null), (126, 1, .iload_n 3, 3, 0, 0, .null), (127, 3, .if_icmp .le 14, 141, 0, 0, .null), (130, 2, .iload 8, 8, 0, 0, .null), (132, 1, .istore_n 3, 3, 0, 0, .null), (133, 2, .iload 6, 6, 0, 0, .null), (135, 2, .istore 4, 4, 0, 0, .null), (137, 2, .iload 7, 7, 0, 0, .null), (139, 2, .istore 5, 5, 0, 0, .null), (141, 3, .iinc 7 1, 7, 0, 0, .int (1)), (144, 3, .goto (-103), 41, 0, 0, .null), (147, 3, .iinc 6 1, 6, 0, 0, .int (1)), (150, 3, .goto (-127), 23, 0, 0, .null), (153, 2, .iload 4, 4, 0, 0, .null), (155, 1, .iconst (-1), 0, 0, 0, .int (-1)), (156, 3, .if_icmp .ne 5, 161, 0, 0, .null), (159, 1, .iconst (-1), 0, 0, 0, .int (-1)), (160, 1, .ireturn, 0, 0, 0, .null), (161, 1, .iload_n 2, 2, 0, 0, .null), (162, 26, .tableswitch 34 0 2 #[26, 29, 32], 0, 0, 0, .null), (188, 2, .iload 4, 4, 0, 0, .null), (190, 1, .ireturn, 0, 0, 0, .null), (191, 2, .iload 5, 5, 0, 0, .null), (193, 1, .ireturn, 0, 0, 0, .null), (194, 1, .iload_n 3, 3, 0, 0, .null), (195, 1, .ireturn, 0, 0, 0, .null), (196, 1, .iconst (-1), 0, 0, 0, .int (-1)), (197, 1, .ireturn, 0, 0, 0, .null)]
def kX7_tilts : List zE := [(0, 1, .aload_n 0, 0, 0, 0, .null), (1, 1, .iload_n 1, 1, 0, 0, .null), (2, 3, .invokevirtual 109, 138, 2, 29, .null), (5, 3, .ifCond .eq 14, 19, 0, 0, .null), (8, 1, .aload_n 0, 0, 0, 0, .null), (9, 3, .getfield 19, 7, 1, 4, .null), (12, 1, .iload_n 1, 1, 0, 0, .null), (13, 3, .invokevirtual 248, 50, 2, 17, .null), (16, 3, .goto 4, 20, 0, 0, .null), (19, 1, .iconst (-1), 0, 0, 0, .int (-1)), (20, 1, .ireturn, 0, 0, 0, .null)]
def kX7_leagues : List zE := [(0, 1, .aload_n 0, 0, 0, 0, .null), (1, 3, .getfield 19, 7, 1, 4, .null), (4, 3, .invokevirtual 251, 52, 1, 17, .null), (7, 1, .ireturn, 0, 0, 0, .null)]
def kX7_softest : List zE := [(0, 1, .iconst (-1), 0, 0, 0, .int (-1)), (1, 1, .istore_n 1, 1, 0, 0, .null), (2, 1, .iconst 0, 0, 0, 0, .int (0)), (3, 1, .istore_n 2, 2, 0, 0, .null), (4, 1, .iconst 0, 0, 0, 0, .int (0)), (5, 1, .istore_n 3, 3, 0, 0, .null), (6, 1, .iload_n 3, 3, 0, 0, .null), (7, 1, .aload_n 0, 0, 0, 0, .null), (8, 3, .getfield 19, 7, 1, 4, .null), (11, 3, .getfield 182, 4, 4, 0, .null), (14, 3, .if_icmp .ge 47, 61, 0, 0, .null), (17, 1, .aload_n 0, 0, 0, 0, .null), (18, 3, .getfield 29, 7, 3, 4, .null), (21, 3, .getfield 135, 6, 2, 0, .null), (24, 1, .iload_n 3, 3, 0, 0, .null), (25, 3, .invokestatic 116, 151, 2, 1, .null), (28, 3, .ifCond .ne 27, 55, 0, 0, .null), (31, 1, .aload_n 0, 0, 0, 0, .null), (32, 1, .iload_n 3, 3, 0, 0, .null), (33, 1, .iconst 1, 0, 0, 0, .int (1)), (34, 3, .invokevirtual 237, 145, 3, 29, .null), (37, 2, .istore 4, 4, 0, 0, .null), (39, 1, .iload_n 1, 1, 0, 0, .null), (40, 1, .iconst (-1), 0, 0, 0, .int (-1)), (41, 3, .if_icmp .eq 9, 50, 0, 0, .null), (44, 2, .iload 4, 4, 0, 0, .null), (46, 1, .iload_n 2, 2, 0, 0, .null), (47, 3, .if_icmp .ge 8, 55, 0, 0, .null), (50, 1, .iload_n 3, 3, 0, 0, .null), (51, 1, .istore_n 1, 1, 0, 0, .null), (52, 2, .iload 4, 4, 0, 0, .null), (54, 1, .istore_n 2, 2, 0, 0, .null), (55, 3, .iinc 3 1, 3, 0, 0, .int (1)), (58, 3, .goto (-52), 6, 0, 0, .null), (61, 1, .iload_n 1, 1, 0, 0, .null), (62, 1, .ireturn, 0, 0, 0, .null)]
def kX7_outs : List zE := [(0, 1, .aload_n 0, 0, 0, 0, .null), (1, 3, .getfield 29, 7, 3, 4, .null), (4, 3, .getfield 113, 6, 1, 0, .null), (7, 1, .ireturn, 0, 0, 0, .null)]
def kX7_loudest : List zE := [(0, 1, .iconst (-1), 0, 0, 0, .int (-1)), (1, 1, .istore_n 1, 1, 0, 0, .null), (2, 1, .iconst 0, 0, 0, 0, .int (0)), (3, 1, .istore_n 2, 2, 0, 0, .null), (4, 1, .iconst 0, 0, 0, 0, .int (0)), (5, 1, .istore_n 3, 3, 0, 0, .null), (6, 1, .iload_n 3, 3, 0, 0, .null), (7, 1, .aload_n 0, 0, 0, 0, .null), (8, 3, .getfield 19, 7, 1, 4, .null), (11, 3, .getfield 182, 4, 4, 0, .null), (14, 3, .if_icmp .ge 47, 61, 0, 0, .null), (17, 1, .aload_n 0, 0, 0, 0, .null), (18, 3, .getfield 29, 7, 3, 4, .null), (21, 3, .getfield 135, 6, 2, 0, .null), (24, 1, .iload_n 3, 3, 0, 0, .null), (25, 3, .invokestatic 116, 151, 2, 1, .null), (28, 3, .ifCond .ne 27, 55, 0, 0, .null), (31, 1, .aload_n 0, 0, 0, 0, .null), (32, 1, .iload_n 3, 3, 0, 0, .null), (33, 1, .iconst 0, 0, 0, 0, .int (0)), (34, 3, .invokevirtual 237, 145, 3, 29, .null), (37, 2, .istore 4, 4, 0, 0, .null), (39, 1, .iload_n 1, 1, 0, 0, .null), (40, 1, .iconst (-1), 0, 0, 0, .int (-1)), (41, 3, .if_icmp .eq 9, 50, 0, 0, .null), (44, 2, .iload 4, 4, 0, 0, .null), (46, 1, .iload_n 2, 2, 0, 0, .null), (47, 3, .if_icmp .le 8, 55, 0, 0, .null), (50, 1, .iload_n 3, 3, 0, 0, .null), (51, 1, .istore_n 1, 1, 0, 0, .null), (52, 2, .iload 4, 4, 0, 0, .null), (54, 1, .istore_n 2, 2, 0, 0, .null), (55, 3, .iinc 3 1, 3, 0, 0, .int (1)), (58, 3, .goto (-52), 6, 0, 0, .null), (61, 1, .iload_n 1, 1, 0, 0, .null), (62, 1, .ireturn, 0, 0, 0, .null)]
def kX7_tensest : List zE := [(0, 1, .iconst (-1), 0, 0, 0, .int (-1)), (1, 1, .istore_n 1, 1, 0, 0, .null), (2, 1, .iconst (-1), 0, 0, 0, .int (-1)), (3, 1, .istore_n 2, 2, 0, 0, .null), (4, 1, .iconst 0, 0, 0, 0, .int (0)), (5, 1, .istore_n 3, 3, 0, 0, .null), (6, 1, .iload_n 3, 3, 0, 0, .null), (7, 1, .aload_n 0, 0, 0, 0, .null), (8, 3, .getfield 19, 7, 1, 4, .null), (11, 3, .getfield 100, 4, 0, 0, .null), (14, 3, .if_icmp .ge 48, 62, 0, 0, .null), (17, 1, .aload_n 0, 0, 0, 0, .null), (18, 3, .getfield 29, 7, 3, 4, .null), (21, 3, .getfield 113, 6, 1, 0, .null), (24, 1, .iload_n 3, 3, 0, 0, .null), (25, 3, .invokestatic 116, 151, 2, 1, .null), (28, 3, .ifCond .eq 28, 56, 0, 0, .null), (31, 1, .aload_n 0, 0, 0, 0, .null), (32, 3, .getfield 29, 7, 3, 4, .null), (35, 3, .getfield 126, 6, 0, 4, .null), (38, 1, .iload_n 3, 3, 0, 0, .null), (39, 1, .iaload, 0, 0, 0, .null), (40, 1, .iload_n 2, 2, 0, 0, .null), (41, 3, .if_icmp .le 15, 56, 0, 0, .null), (44, 1, .aload_n 0, 0, 0, 0, .null), (45, 3, .getfield 29, 7, 3, 4, .null), (48, 3, .getfield 126, 6, 0, 4, .null), (51, 1, .iload_n 3, 3, 0, 0, .null), (52, 1, .iaload, 0, 0, 0, .null), (53, 1, .istore_n 2, 2, 0, 0, .null), (54, 1, .iload_n 3, 3, 0, 0, .null), (55, 1, .istore_n 1, 1, 0, 0, .null), (56, 3, .iinc 3 1, 3, 0, 0, .int (1)), (59, 3, .goto (-53), 6, 0, 0, .null), (62, 1, .iload_n 1, 1, 0, 0, .null), (63, 1, .ireturn, 0, 0, 0, .null)]
def kX7_strength : List zE := [(0, 1, .aload_n 0, 0, 0, 0, .null), (1, 3, .getfield 19, 7, 1, 4, .null), (4, 1, .aload_n 0, 0, 0, 0, .null), (5, 3, .getfield 19, 7, 1, 4, .null), (8, 3, .invokevirtual 255, 45, 1, 17, .null), (11, 1, .aload_n 0, 0, 0, 0, .null), (12, 3, .getfield 29, 7, 3, 4, .null), (15, 3, .getfield 113, 6, 1, 0, .null), (18, 1, .iconst (-1), 0, 0, 0, .int (-1)), (19, 1, .ixor, 0, 0, 0, .null), (20, 1, .iand, 0, 0, 0, .null), (21, 3, .invokevirtual 258, 46, 2, 17, .null), (24, 1, .ireturn, 0, 0, 0, .null)]
def kX7_cross : List zE := [(0, 1, .iconst 0, 0, 0, 0, .int (0)), (1, 1, .istore_n 1, 1, 0, 0, .null), (2, 1, .iconst 0, 0, 0, 0, .int (0)), (3, 1, .istore_n 2, 2, 0, 0, .null), (4, 1, .iload_n 2, 2, 0, 0, .null), (5, 1, .aload_n 0, 0, 0, 0, .null), (6, 3, .getfield 19, 7, 1, 4, .null), (9, 3, .getfield 100, 4, 0, 0, .null), (12, 3, .if_icmp .ge 50, 62, 0, 0, .null), (15, 1, .aload_n 0, 0, 0, 0, .null), (16, 3, .getfield 29, 7, 3, 4, .null), (19, 3, .getfield 113, 6, 1, 0, .null), (22, 1, .iload_n 2, 2, 0, 0, .null), (23, 3, .invokestatic 116, 151, 2, 1, .null), (26, 3, .ifCond .eq 30, 56, 0, 0, .null), (29, 1, .iconst 2, 0, 0, 0, .int (2)), (30, 1, .aload_n 0, 0, 0, 0, .null), (31, 3, .getfield 29, 7, 3, 4, .null), (34, 3, .getfield 126, 6, 0, 4, .null), (37, 1, .iload_n 2, 2, 0, 0, .null), (38, 1, .iaload, 0, 0, 0, .null), (39, 1, .imul, 0, 0, 0, .null), (40, 1, .aload_n 0, 0, 0, 0, .null), (41, 3, .getfield 19, 7, 1, 4, .null), (44, 3, .getfield 261, 4, 6, 0, .null), (47, 3, .if_icmp .lt 9, 56, 0, 0, .null), (50, 1, .iload_n 1, 1, 0, 0, .null), (51, 1, .iconst 1, 0, 0, 0, .int (1)), (52, 1, .iload_n 2, 2, 0, 0, .null), (53, 1, .ishl, 0, 0, 0, .null), (54, 1, .ior, 0, 0, 0, .null), (55, 1, .istore_n 1, 1, 0, 0, .null), (56, 3, .iinc 2 1, 2, 0, 0, .int (1)), (59, 3, .goto (-55), 4, 0, 0, .null), (62, 1, .iload_n 1, 1, 0, 0, .null), (63, 1, .ireturn, 0, 0, 0, .null)]
def kX7_vetoes : List zE := [(0, 1, .iconst 0, 0, 0, 0, .int (0)), (1, 1, .istore_n 1, 1, 0, 0, .null), (2, 1, .iconst 0, 0, 0, 0, .int (0)), (3, 1, .istore_n 2, 2, 0, 0, .null), (4, 1, .iload_n 2, 2, 0, 0, .null), (5, 1, .aload_n 0, 0, 0, 0, .null), (6, 3, .getfield 19, 7, 1, 4, .null), (9, 3, .getfield 100, 4, 0, 0, .null), (12, 3, .if_icmp .ge 45, 57, 0, 0, .null), (15, 1, .aload_n 0, 0, 0, 0, .null), (16, 3, .getfield 19, 7, 1, 4, .null), (19, 1, .aload_n 0, 0, 0, 0, .null), (20, 3, .getfield 19, 7, 1, 4, .null), (23, 3, .invokevirtual 255, 45, 1, 17, .null), (26, 1, .iconst 1, 0, 0, 0, .int (1)), (27, 1, .iload_n 2, 2, 0, 0, .null), (28, 1, .ishl, 0, 0, 0, .null), (29, 1, .iconst (-1), 0, 0, 0, .int (-1)), (30, 1, .ixor, 0, 0, 0, .null), (31, 1, .iand, 0, 0, 0, .null), (32, 3, .invokevirtual 258, 46, 2, 17, .null), (35, 1, .aload_n 0, 0, 0, 0, .null), (36, 3, .getfield 19, 7, 1, 4, .null), (39, 3, .getfield 264, 4, 7, 0, .null), (42, 3, .if_icmp .ge 9, 51, 0, 0, .null), (45, 1, .iload_n 1, 1, 0, 0, .null), (46, 1, .iconst 1, 0, 0, 0, .int (1)), (47, 1, .iload_n 2, 2, 0, 0, .null), (48, 1, .ishl, 0, 0, 0, .null), (49, 1, .ior, 0, 0, 0, .null), (50, 1, .istore_n 1, 1, 0, 0, .null), (51, 3, .iinc 2 1, 2, 0, 0, .int (1)), (54, 3, .goto (-50), 4, 0, 0, .null), (57, 1, .iload_n 1, 1, 0, 0, .null), (58, 1, .ireturn, 0, 0, 0, .null)]
def kX7_law : List zE := [(0, 1, .iload_n 1, 1, 0, 0, .null), (1, 3, .ifCond .lt 9, 10, 0, 0, .null), (4, 1, .iload_n 1, 1, 0, 0, .null), (5, 2, .bipush 20, 0, 0, 0, .int (20)), (7, 3, .if_icmp .le 5, 12, 0, 0, .null), (10, 1, .iconst (-1), 0, 0, 0, .int (-1)), (11, 1, .ireturn, 0, 0, 0, .null), (12, 1, .aload_n 0, 0, 0, 0, .null), (13, 3, .invokevirtual 172, 143, 1, 30, .null), (16, 1, .aload_n 0, 0, 0, 0, .null), (17, 3, .getfield 19, 7, 1, 4, .null), (20, 1, .iload_n 1, 1, 0, 0, .null), (21, 1, .iconst 0, 0, 0, 0, .int (0)), (22, 3, .invokevirtual 233, 83, 4, 25, .null), (25, 1, .ireturn, 0, 0, 0, .null)]
def kX7_until : List zE := [(0, 1, .aload_n 0, 0, 0, 0, .null), (1, 1, .iload_n 1, 1, 0, 0, .null), (2, 3, .invokevirtual 141, 139, 2, 29, .null), (5, 3, .ifCond .eq 11, 16, 0, 0, .null), (8, 1, .aload_n 0, 0, 0, 0, .null), (9, 1, .iload_n 2, 2, 0, 0, .null), (10, 3, .invokevirtual 129, 141, 2, 29, .null), (13, 3, .ifCond .ne 5, 18, 0, 0, .null), (16, 1, .iconst (-1), 0, 0, 0, .int (-1)), (17, 1, .ireturn, 0, 0, 0, .null), (18, 1, .aload_n 0, 0, 0, 0, .null), (19, 3, .getfield 19, 7, 1, 4, .null), (22, 3, .getfield 132, 4, 5, 4, .null), (25, 1, .iload_n 2, 2, 0, 0, .null), (26, 1, .iaload, 0, 0, 0, .null), (27, 2, .istore 4, 4, 0, 0, .null), (29, 1, .aload_n 0, 0, 0, 0, .null), (30, 3, .getfield 19, 7, 1, 4, .null), (33, 3, .getfield 120, 4, 2, 4, .null), (36, 1, .iload_n 1, 1, 0, 0, .null), (37, 1, .iaload, 0, 0, 0, .null), (38, 2, .istore 5, 5, 0, 0, .null), (40, 1, .aload_n 0, 0, 0, 0, .null), (41, 3, .getfield 29, 7, 3, 4, .null), (44, 3, .getfield 135, 6, 2, 0, .null), (47, 3, .invokestatic 189, 0, 1, 1, .null), (50, 2, .istore 6, 6, 0, 0, .null), (52, 1, .aload_n 0, 0, 0, 0, .null), (53, 3, .getfield 29, 7, 3, 4, .null), (56, 3, .getfield 126, 6, 0, 4, .null), (59, 1, .iload_n 1, 1, 0, 0, .null), (60, 1, .iaload, 0, 0, 0, .null), (61, 2, .istore 7, 7, 0, 0, .null), (63, 1, .iconst 0, 0, 0, 0, .int (0)), (64, 2, .istore 8, 8, 0, 0, .null), (66, 2, .iload 8, 8, 0, 0, .null), (68, 2, .bipush 60, 0, 0, 0, .int (60)), (70, 3, .if_icmp .ge 59, 129, 0, 0, .null), (73, 2, .iload 7, 7, 0, 0, .null), (75, 1, .aload_n 0, 0, 0, 0, .null), (76, 3, .getfield 19, 7, 1, 4, .null), (79, 1, .iload_n 1, 1, 0, 0, .null), (80, 2, .iload 4, 4, 0, 0, .null), (82, 2, .iload 5, 5, 0, 0, .null), (84, 2, .iload 7, 7, 0, 0, .null), (86, 1, .iload_n 3, 3, 0, 0, .null), (87, 3, .ifCond .eq 7, 94, 0, 0, .null), (90, 1, .iconst 1, 0, 0, 0, .int (1)), (91, 3, .goto 4, 95, 0, 0, .null), (94, 1, .iconst 0, 0, 0, 0, .int (0)), (95, 2, .iload 6, 6, 0, 0, .null), (97, 2, .iload 8, 8, 0, 0, .null), (99, 1, .iadd, 0, 0, 0, .null), (100, 3, .invokevirtual 267, 47, 7, 17, .null), (103, 1, .iadd, 0, 0, 0, .null), (104, 2, .istore 7, 7, 0, 0, .null), (106, 2, .iload 7, 7, 0, 0, .null), (108, 1, .aload_n 0, 0, 0, 0, .null), (109, 3, .getfield 19, 7, 1, 4, .null), (112, 3, .getfield 261, 4, 6, 0, .null), (115, 3, .if_icmp .lt 8, 123, 0, 0, .null), (118, 2, .iload 8, 8, 0, 0, .null), (120, 1, .iconst 1, 0, 0, 0, .int (1)), (121, 1, .iadd, 0, 0, 0, .null), (122, 1, .ireturn, 0, 0, 0, .null), (123, 3, .iinc 8 1, 8, 0, 0, .int (1)), (126, 3, .goto (-60), 66, 0, 0, .null), (129, 1, .iconst (-1), 0, 0, 0, .int (-1)), (130, 1, .ireturn, 0, 0, 0, .null)]
def kX7_odds : List zE := [(0, 1, .iload_n 1, 1, 0, 0, .null), (1, 3, .ifCond .lt 17, 18, 0, 0, .null), (4, 1, .iload_n 1, 1, 0, 0, .null), (5, 1, .iconst 4, 0, 0, 0, .int (4)), (6, 3, .if_icmp .gt 12, 18, 0, 0, .null), (9, 1, .iload_n 2, 2, 0, 0, .null), (10, 3, .ifCond .lt 8, 18, 0, 0, .null), (13, 1, .iload_n 2, 2, 0, 0, .null), (14, 1, .iconst 1, 0, 0, 0, .int (1)), (15, 3, .if_icmp .le 5, 20, 0, 0, .null), (18, 1, .iconst (-1), 0, 0, 0, .int (-1)), (19, 1, .ireturn, 0, 0, 0, .null), (20, 1, .iconst 1, 0, 0, 0, .int (1)), (21, 1, .istore_n 3, 3, 0, 0, .null), (22, 1, .iconst 1, 0, 0, 0, .int (1)), (23, 2, .istore 4, 4, 0, 0, .null), (25, 1, .iconst 0, 0, 0, 0, .int (0)), (26, 2, .istore 5, 5, 0, 0, .null), (28, 2, .iload 5, 5, 0, 0, .null), (30, 1, .iload_n 1, 1, 0, 0, .null), (31, 3, .if_icmp .ge 29, 60, 0, 0, .null), (34, 1, .iload_n 3, 3, 0, 0, .null), (35, 2, .bipush 100, 0, 0, 0, .int (100)), (37, 1, .aload_n 0, 0, 0, 0, .null), (38, 3, .getfield 19, 7, 1, 4, .null), (41, 3, .getfield 271, 4, 8, 0, .null), (44, 1, .isub, 0, 0, 0, .null), (45, 1, .imul, 0, 0, 0, .null), (46, 1, .istore_n 3, 3, 0, 0, .null), (47, 2, .iload 4, 4, 0, 0, .null), (49, 2, .bipush 100, 0, 0, 0, .int (100)), (51, 1, .imul, 0, 0, 0, .null), (52, 2, .istore 4, 4, 0, 0, .null), (54, 3, .iinc 5 1, 5, 0, 0, .int (1)), (57, 3, .goto (-29), 28, 0, 0, .null), (60, 1, .iload_n 3, 3, 0, 0, .null), (61, 2, .iload 4, 4, 0, 0, .null), (63, 3, .invokestatic 274, 152, 2, 1, .null), (66, 2, .istore 5, 5, 0, 0, .null), (68, 1, .iload_n 2, 2, 0, 0, .null), (69, 3, .ifCond .ne 7, 76, 0, 0, .null), (72, 1, .iload_n 3, 3, 0, 0, .null), (73, 3, .goto 5, 78, 0, 0, .null), (76, 2, .iload 4, 4, 0, 0, .null), (78, 1, .iconst 1, 0, 0, 0, .int (1)), (79, 2, .iload 5, 5, 0, 0, .null), (81, 3, .invokestatic 230, 3, 2, 1, .null), (84, 1, .idiv, 0, 0, 0, .null), (85, 1, .ireturn, 0, 0, 0, .null)]
def kX7_lies : List zE := [(0, 1, .iload_n 1, 1, 0, 0, .null), (1, 3, .ifCond .lt 20, 21, 0, 0, .null), (4, 1, .iload_n 1, 1, 0, 0, .null), (5, 1, .aload_n 0, 0, 0, 0, .null), (6, 3, .getfield 97, 7, 11, 0, .null), (9, 3, .if_icmp .ge 12, 21, 0, 0, .null), (12, 1, .aload_n 0, 0, 0, 0, .null), (13, 3, .getfield 61, 7, 10, 4, .null), (16, 1, .iload_n 1, 1, 0, 0, .null), (17, 1, .iaload, 0, 0, 0, .null), (18, 3, .goto 5, 23, 0, 0, .null), (21, 2, .bipush (-2), 0, 0, 0, .int (-2)), (23, 1, .ireturn, 0, 0, 0, .null)]
def kX7_heard : List zE := [(0, 1, .aload_n 0, 0, 0, 0, .null), (1, 3, .getfield 53, 7, 7, 4, .null), (4, 1, .iload_n 1, 1, 0, 0, .null), (5, 1, .iload_n 2, 2, 0, 0, .null), (6, 1, .iload_n 3, 3, 0, 0, .null), (7, 3, .invokevirtual 277, 29, 4, 9, .null), (10, 1, .ireturn, 0, 0, 0, .null)]
def kX7_untell : List zE := [(0, 1, .aload_n 0, 0, 0, 0, .null), (1, 3, .getfield 53, 7, 7, 4, .null), (4, 1, .iload_n 1, 1, 0, 0, .null), (5, 3, .invokevirtual 280, 30, 2, 9, .null), (8, 1, .ireturn, 0, 0, 2, .null)]
def kX7_later : List zE := [(0, 1, .iload_n 1, 1, 0, 0, .null), (1, 3, .ifCond .lt 25, 26, 0, 0, .null), (4, 1, .iload_n 1, 1, 0, 0, .null), (5, 3, .sipush 1000, 0, 0, 0, .int (1000)), (8, 3, .if_icmp .gt 18, 26, 0, 0, .null), (11, 1, .aload_n 0, 0, 0, 0, .null), (12, 3, .getfield 53, 7, 7, 4, .null), (15, 3, .getfield 282, 2, 1, 0, .null), (18, 1, .iload_n 1, 1, 0, 0, .null), (19, 1, .iadd, 0, 0, 0, .null), (20, 3, .ldc_w 285, 0, 0, 0, .int (100000)), (23, 3, .if_icmp .le 5, 28, 0, 0, .null), (26, 1, .iconst (-1), 0, 0, 0, .int (-1)), (27, 1, .ireturn, 0, 0, 0, .null), (28, 1, .aload_n 0, 0, 0, 0, .null), (29, 3, .getfield 53, 7, 7, 4, .null), (32, 1, .dup, 0, 0, 0, .null), (33, 3, .getfield 282, 2, 1, 0, .null), (36, 1, .iload_n 1, 1, 0, 0, .null), (37, 1, .iadd, 0, 0, 0, .null), (38, 3, .putfield 282, 2, 1, 0, .null), (41, 1, .aload_n 0, 0, 0, 0, .null), (42, 3, .getfield 53, 7, 7, 4, .null), (45, 3, .getfield 282, 2, 1, 0, .null), (48, 1, .ireturn, 0, 0, 0, .null)]
def kX7_fits : List zE := [(0, 1, .aload_n 0, 0, 0, 0, .null), (1, 3, .getfield 53, 7, 7, 4, .null), (4, 1, .iload_n 1, 1, 0, 0, .null), (5, 3, .invokevirtual 286, 31, 2, 9, .null), (8, 3, .invokestatic 189, 0, 1, 1, .null), (11, 1, .ireturn, 0, 0, 0, .null)]
def kX7_sure : List zE := [(0, 1, .iload_n 1, 1, 0, 0, .null), (1, 3, .ifCond .eq 10, 11, 0, 0, .null), (4, 1, .iload_n 1, 1, 0, 0, .null), (5, 1, .iconst 1, 0, 0, 0, .int (1)), (6, 3, .if_icmp .eq 5, 11, 0, 0, .null), (9, 1, .iconst (-1), 0, 0, 0, .int (-1)), (10, 1, .ireturn, 0, 0, 0, .null), (11, 1, .aload_n 0, 0, 0, 0, .null), (12, 3, .getfield 53, 7, 7, 4, .null), (15, 1, .iload_n 2, 2, 0, 0, .null), (16, 3, .invokevirtual 286, 31, 2, 9, .null), (19, 1, .istore_n 3, 3, 0, 0, .null), (20, 1, .iconst (-1), 0, 0, 0, .int (-1)), (21, 2, .istore 4, 4, 0, 0, .null), (23, 1, .iconst 0, 0, 0, 0, .int (0)), (24, 2, .istore 5, 5, 0, 0, .null), (26, 2, .iload 5, 5, 0, 0, .null), (28, 2, .bipush 20, 0, 0, 0, .int (20)), (30, 3, .if_icmp .gt 33, 63, 0, 0, .null), (33, 1, .iload_n 3, 3, 0, 0, .null), (34, 2, .iload 5, 5, 0, 0, .null), (36, 3, .invokestatic 116, 151, 2, 1, .null), (39, 3, .ifCond .eq 18, 57, 0, 0, .null), (42, 1, .iload_n 1, 1, 0, 0, .null), (43, 1, .iconst 1, 0, 0, 0, .int (1)), (44, 3, .if_icmp .eq 9, 53, 0, 0, .null), (47, 2, .iload 4, 4, 0, 0, .null), (49, 1, .iconst (-1), 0, 0, 0, .int (-1)), (50, 3, .if_icmp .ne 7, 57, 0, 0, .null), (53, 2, .iload 5, 5, 0, 0, .null), (55, 2, .istore 4, 4, 0, 0, .null), (57, 3, .iinc 5 1, 5, 0, 0, .int (1)), (60, 3, .goto (-34), 26, 0, 0, .null), (63, 2, .iload 4, 4, 0, 0, .null), (65, 1, .ireturn, 0, 0, 0, .null)]
def kX7_ask : List zE := [(0, 1, .aload_n 0, 0, 0, 0, .null), (1, 3, .getfield 53, 7, 7, 4, .null), (4, 1, .iload_n 2, 2, 0, 0, .null), (5, 3, .invokevirtual 286, 31, 2, 9, .null), (8, 1, .istore_n 3, 3, 0, 0, .null), (9, 1, .iload_n 3, 3, 0, 0, .null), (10, 3, .ifCond .eq 12, 22, 0, 0, .null), (13, 1, .iload_n 1, 1, 0, 0, .null), (14, 3, .ifCond .lt 8, 22, 0, 0, .null), (17, 1, .iload_n 1, 1, 0, 0, .null), (18, 1, .iconst 1, 0, 0, 0, .int (1)), (19, 3, .if_icmp .le 5, 24, 0, 0, .null), (22, 1, .iconst (-1), 0, 0, 0, .int (-1)), (23, 1, .ireturn, 0, 0, 0, .null), (24, 1, .iconst 0, 0, 0, 0, .int (0)), (25, 2, .istore 4, 4, 0, 0, .null), (27, 1, .aload_n 0, 0, 0, 0, .null), (28, 3, .getfield 53, 7, 7, 4, .null), (31, 1, .iconst 0, 0, 0, 0, .int (0)), (32, 1, .iload_n 3, 3, 0, 0, .null), (33, 3, .invokevirtual 289, 33, 3, 9, .null), (36, 2, .istore 5, 5, 0, 0, .null), (38, 1, .iconst 1, 0, 0, 0, .int (1)), (39, 2, .istore 6, 6, 0, 0, .null), (41, 2, .iload 6, 6, 0, 0, .null), (43, 2, .bipush 6, 0, 0, 0, .int (6)), (45, 3, .if_icmp .gt 36, 81, 0, 0, .null), (48, 1, .aload_n 0, 0, 0, 0, .null), (49, 3, .getfield 53, 7, 7, 4, .null), (52, 2, .iload 6, 6, 0, 0, .null), (54, 1, .iload_n 3, 3, 0, 0, .null), (55, 3, .invokevirtual 289, 33, 3, 9, .null), (58, 2, .istore 7, 7, 0, 0, .null), (60, 2, .iload 7, 7, 0, 0, .null), (62, 2, .iload 5, 5, 0, 0, .null), (64, 3, .if_icmp .ge 11, 75, 0, 0, .null), (67, 2, .iload 7, 7, 0, 0, .null), (69, 2, .istore 5, 5, 0, 0, .null), (71, 2, .iload 6, 6, 0, 0, .null), (73, 2, .istore 4, 4, 0, 0, .null), (75, 3, .iinc 6 1, 6, 0, 0, .int (1)), (78, 3, .goto (-37), 41, 0, 0, .null), (81, 1, .iload_n 1, 1, 0, 0, .null), (82, 3, .ifCond .ne 8, 90, 0, 0, .null), (85, 2, .iload 4, 4, 0, 0, .null), (87, 3, .goto 5, 92, 0, 0, .null), (90, 2, .iload 5, 5, 0, 0, .null), (92, 1, .ireturn, 0, 0, 0, .null)]
def kX7_image : List zE := [(0, 1, .iload_n 1, 1, 0, 0, .null), (1, 3, .ifCond .lt 8, 9, 0, 0, .null), (4, 1, .iload_n 1, 1, 0, 0, .null), (5, 1, .iconst 3, 0, 0, 0, .int (3)), (6, 3, .if_icmp .lt 5, 11, 0, 0, .null), (9, 1, .iconst (-1), 0, 0, 0, .int (-1)), (10, 1, .ireturn, 0, 0, 0, .null), (11, 1, .aload_n 0, 0, 0, 0, .null), (12, 3, .getfield 57, 7, 8, 4, .null), (15, 1, .iload_n 1, 1, 0, 0, .null), (16, 1, .aaload, 0, 0, 0, .null), (17, 1, .aload_n 0, 0, 0, 0, .null), (18, 3, .getfield 29, 7, 3, 4, .null), (21, 3, .invokevirtual 292, 80, 2, 24, .null), (24, 1, .aload_n 0, 0, 0, 0, .null), (25, 1, .dup, 0, 0, 0, .null), (26, 3, .getfield 94, 7, 9, 0, .null), (29, 1, .iconst 1, 0, 0, 0, .int (1)), (30, 1, .iload_n 1, 1, 0, 0, .null), (31, 1, .ishl, 0, 0, 0, .null), (32, 1, .ior, 0, 0, 0, .null), (33, 3, .putfield 94, 7, 9, 0, .null), (36, 1, .aload_n 0, 0, 0, 0, .null), (37, 3, .getfield 29, 7, 3, 4, .null), (40, 3, .getfield 135, 6, 2, 0, .null), (43, 3, .invokestatic 189, 0, 1, 1, .null), (46, 1, .ireturn, 0, 0, 0, .null)]
def kX7_back : List zE := [(0, 1, .iload_n 1, 1, 0, 0, .null), (1, 3, .ifCond .lt 19, 20, 0, 0, .null), (4, 1, .iload_n 1, 1, 0, 0, .null), (5, 1, .iconst 3, 0, 0, 0, .int (3)), (6, 3, .if_icmp .ge 14, 20, 0, 0, .null), (9, 1, .aload_n 0, 0, 0, 0, .null), (10, 3, .getfield 94, 7, 9, 0, .null), (13, 1, .iload_n 1, 1, 0, 0, .null), (14, 3, .invokestatic 116, 151, 2, 1, .null), (17, 3, .ifCond .ne 5, 22, 0, 0, .null), (20, 1, .iconst (-1), 0, 0, 0, .int (-1)), (21, 1, .ireturn, 0, 0, 0, .null), (22, 1, .aload_n 0, 0, 0, 0, .null), (23, 3, .getfield 29, 7, 3, 4, .null), (26, 1, .aload_n 0, 0, 0, 0, .null), (27, 3, .getfield 57, 7, 8, 4, .null), (30, 1, .iload_n 1, 1, 0, 0, .null), (31, 1, .aaload, 0, 0, 0, .null), (32, 3, .invokevirtual 292, 80, 2, 24, .null), (35, 1, .aload_n 0, 0, 0, 0, .null), (36, 3, .getfield 39, 7, 5, 4, .null), (39, 3, .invokevirtual 90, 35, 1, 12, .null), (42, 1, .aload_n 0, 0, 0, 0, .null), (43, 3, .getfield 29, 7, 3, 4, .null), (46, 3, .getfield 135, 6, 2, 0, .null), (49, 3, .invokestatic 189, 0, 1, 1, .null), (52, 1, .ireturn, 0, 0, 0, .null)]
def kX7_about : List zE := [(0, 1, .iload_n 1, 1, 0, 0, .null), (1, 75, .tableswitch 195 0 14 #[75, 83, 91, 99, 107, 115, 123, 131, 139, 147, 155, 166, 171, 179, 187], 0, 0, 0, .null), (76, 1, .aload_n 0, 0, 0, 0, .null), (77, 3, .getfield 19, 7, 1, 4, .null), (80, 3, .getfield 100, 4, 0, 0, .null), (83, 1, .ireturn, 0, 0, 0, .null), (84, 1, .aload_n 0, 0, 0, 0, .null), (85, 3, .getfield 19, 7, 1, 4, .null), (88, 3, .getfield 182, 4, 4, 0, .null), (91, 1, .ireturn, 0, 0, 0, .null), (92, 1, .aload_n 0, 0, 0, 0, .null), (93, 3, .getfield 29, 7, 3, 4, .null), (96, 3, .getfield 135, 6, 2, 0, .null), (99, 1, .ireturn, 0, 0, 0, .null), (100, 1, .aload_n 0, 0, 0, 0, .null), (101, 3, .getfield 29, 7, 3, 4, .null), (104, 3, .getfield 138, 6, 3, 0, .null), (107, 1, .ireturn, 0, 0, 0, .null), (108, 1, .aload_n 0, 0, 0, 0, .null), (109, 3, .getfield 29, 7, 3, 4, .null), (112, 3, .getfield 295, 6, 4, 0, .null), (115, 1, .ireturn, 0, 0, 0, .null), (116, 1, .aload_n 0, 0, 0, 0, .null), (117, 3, .getfield 39, 7, 5, 4, .null), (120, 3, .getfield 298, 3, 0, 0, .null), (123, 1, .ireturn, 0, 0, 0, .null), (124, 1, .aload_n 0, 0, 0, 0, .null), (125, 3, .getfield 39, 7, 5, 4, .null), (128, 3, .getfield 301, 3, 1, 0, .null), (131, 1, .ireturn, 0, 0, 0, .null), (132, 1, .aload_n 0, 0, 0, 0, .null), (133, 3, .getfield 53, 7, 7, 4, .null), (136, 3, .getfield 304, 2, 0, 0, .null), (139, 1, .ireturn, 0, 0, 0, .null), (140, 1, .aload_n 0, 0, 0, 0, .null), (141, 3, .getfield 53, 7, 7, 4, .null), (144, 3, .getfield 282, 2, 1, 0, .null), (147, 1, .ireturn, 0, 0, 0, .null), (148, 1, .aload_n 0, 0, 0, 0, .null), (149, 3, .getfield 12, 7, 0, 4, .null), (152, 3, .getfield 71, 5, 0, 0, .null), (155, 1, .ireturn, 0, 0, 0, .null), (156, 1, .aload_n 0, 0, 0, 0, .null), (157, 3, .getfield 19, 7, 1, 4, .null), (160, 3, .getfield 307, 4, 10, 4, .null), (163, 3, .getfield 311, 1, 1, 0, .null), (166, 1, .ireturn, 0, 0, 0, .null), (167, 1, .aload_n 0, 0, 0, 0, .null), (168, 3, .getfield 97, 7, 11, 0, .null), (171, 1, .ireturn, 0, 0, 0, .null), (172, 1, .aload_n 0, 0, 0, 0, .null), (173, 3, .getfield 19, 7, 1, 4, .null), (176, 3, .getfield 261, 4, 6, 0, .null), (179, 1, .ireturn, 0, 0, 0, .null), (180, 1, .aload_n 0, 0, 0, 0, .null), (181, 3, .getfield 19, 7, 1, 4, .null), (184, 3, .getfield 264, 4, 7, 0, .null), (187, 1, .ireturn, 0, 0, 0, .null), (188, 1, .aload_n 0, 0, 0, 0, .null), (189, 3, .getfield 19, 7, 1, 4, .null), (192, 3, .getfield 271, 4, 8, 0, .null), (195, 1, .ireturn, 0, 0, 0, .null), (196, 1, .iconst (-1), 0, 0, 0, .int (-1)), (197, 1, .ireturn, 0, 0, 0, .null)]
def kX7_isMember : List zE := [(0, 1, .iload_n 1, 1, 0, 0, .null), (1, 3, .ifCond .lt 18, 19, 0, 0, .null), (4, 1, .iload_n 1, 1, 0, 0, .null), (5, 1, .aload_n 0, 0, 0, 0, .null), (6, 3, .getfield 19, 7, 1, 4, .null), (9, 3, .getfield 100, 4, 0, 0, .null), (12, 3, .if_icmp .ge 7, 19, 0, 0, .null), (15, 1, .iconst 1, 0, 0, 0, .int (1)), (16, 3, .goto 4, 20, 0, 0, .null), (19, 1, .iconst 0, 0, 0, 0, .int (0)), (20, 1, .ireturn, 0, 0, 2, .null)]
def kX7_isOut : List zE := [(0, 1, .aload_n 0, 0, 0, 0, .null), (1, 1, .iload_n 1, 1, 0, 0, .null), (2, 3, .invokevirtual 109, 138, 2, 29, .null), (5, 3, .ifCond .eq 21, 26, 0, 0, .null), (8, 1, .aload_n 0, 0, 0, 0, .null), (9, 3, .getfield 29, 7, 3, 4, .null), (12, 3, .getfield 113, 6, 1, 0, .null), (15, 1, .iload_n 1, 1, 0, 0, .null), (16, 3, .invokestatic 116, 151, 2, 1, .null), (19, 3, .ifCond .eq 7, 26, 0, 0, .null), (22, 1, .iconst 1, 0, 0, 0, .int (1)), (23, 3, .goto 4, 27, 0, 0, .null), (26, 1, .iconst 0, 0, 0, 0, .int (0)), (27, 1, .ireturn, 0, 0, 2, .null)]
def kX7_areTwoOut : List zE := [(0, 1, .iload_n 1, 1, 0, 0, .null), (1, 1, .iload_n 2, 2, 0, 0, .null), (2, 3, .if_icmp .eq 23, 25, 0, 0, .null), (5, 1, .aload_n 0, 0, 0, 0, .null), (6, 1, .iload_n 1, 1, 0, 0, .null), (7, 3, .invokevirtual 141, 139, 2, 29, .null), (10, 3, .ifCond .eq 15, 25, 0, 0, .null), (13, 1, .aload_n 0, 0, 0, 0, .null), (14, 1, .iload_n 2, 2, 0, 0, .null), (15, 3, .invokevirtual 141, 139, 2, 29, .null), (18, 3, .ifCond .eq 7, 25, 0, 0, .null), (21, 1, .iconst 1, 0, 0, 0, .int (1)), (22, 3, .goto 4, 26, 0, 0, .null), (25, 1, .iconst 0, 0, 0, 0, .int (0)), (26, 1, .ireturn, 0, 0, 2, .null)]
def kX7_isClause : List zE := [(0, 1, .iload_n 1, 1, 0, 0, .null), (1, 3, .ifCond .lt 18, 19, 0, 0, .null), (4, 1, .iload_n 1, 1, 0, 0, .null), (5, 1, .aload_n 0, 0, 0, 0, .null), (6, 3, .getfield 19, 7, 1, 4, .null), (9, 3, .getfield 182, 4, 4, 0, .null), (12, 3, .if_icmp .ge 7, 19, 0, 0, .null), (15, 1, .iconst 1, 0, 0, 0, .int (1)), (16, 3, .goto 4, 20, 0, 0, .null), (19, 1, .iconst 0, 0, 0, 0, .int (0)), (20, 1, .ireturn, 0, 0, 2, .null)]
def kX7_isUnread : List zE := [(0, 1, .aload_n 0, 0, 0, 0, .null), (1, 1, .iload_n 1, 1, 0, 0, .null), (2, 3, .invokevirtual 129, 141, 2, 29, .null), (5, 3, .ifCond .eq 21, 26, 0, 0, .null), (8, 1, .aload_n 0, 0, 0, 0, .null), (9, 3, .getfield 29, 7, 3, 4, .null), (12, 3, .getfield 135, 6, 2, 0, .null), (15, 1, .iload_n 1, 1, 0, 0, .null), (16, 3, .invokestatic 116, 151, 2, 1, .null), (19, 3, .ifCond .ne 7, 26, 0, 0, .null), (22, 1, .iconst 1, 0, 0, 0, .int (1)), (23, 3, .goto 4, 27, 0, 0, .null), (26, 1, .iconst 0, 0, 0, 0, .int (0)), (27, 1, .ireturn, 0, 0, 2, .null)]
def kX7_trialFromNow : List zE := [(0, 1, .aload_n 0, 0, 0, 0, .null), (1, 3, .getfield 33, 7, 4, 4, .null), (4, 1, .aload_n 0, 0, 0, 0, .null), (5, 3, .getfield 29, 7, 3, 4, .null), (8, 3, .invokevirtual 292, 80, 2, 24, .null), (11, 1, .aload_n 0, 0, 0, 0, .null), (12, 3, .getfield 33, 7, 4, 4, .null), (15, 1, .areturn, 0, 0, 0, .null)]
def kX7_windNow : List zE := [(0, 1, .aload_n 0, 0, 0, 0, .null), (1, 3, .getfield 29, 7, 3, 4, .null), (4, 3, .getfield 135, 6, 2, 0, .null), (7, 3, .invokestatic 189, 0, 1, 1, .null), (10, 2, .istore 5, 5, 0, 0, .null), (12, 1, .aload_n 0, 0, 0, 0, .null), (13, 3, .getfield 19, 7, 1, 4, .null), (16, 1, .iload_n 1, 1, 0, 0, .null), (17, 1, .iload_n 2, 2, 0, 0, .null), (18, 1, .aload_n 0, 0, 0, 0, .null), (19, 3, .getfield 19, 7, 1, 4, .null), (22, 3, .getfield 120, 4, 2, 4, .null), (25, 1, .iload_n 1, 1, 0, 0, .null), (26, 1, .iaload, 0, 0, 0, .null), (27, 1, .iload_n 3, 3, 0, 0, .null), (28, 2, .iload 4, 4, 0, 0, .null), (30, 3, .ifCond .eq 7, 37, 0, 0, .null), (33, 1, .iconst 1, 0, 0, 0, .int (1)), (34, 3, .goto 4, 38, 0, 0, .null), (37, 1, .iconst 0, 0, 0, 0, .int (0)), (38, 2, .iload 5, 5, 0, 0, .null), (40, 3, .invokevirtual 267, 47, 7, 17, .null), (43, 1, .ireturn, 0, 0, 0, .null)]
def kX7_creakAt : List zE := [(0, 1, .iconst 0, 0, 0, 0, .int (0)), (1, 1, .istore_n 3, 3, 0, 0, .null), (2, 1, .iconst 0, 0, 0, 0, .int (0)), (3, 2, .istore 4, 4, 0, 0, .null), (5, 2, .iload 4, 4, 0, 0, .null), (7, 1, .aload_n 0, 0, 0, 0, .null), (8, 3, .getfield 19, 7, 1, 4, .null), (11, 3, .getfield 100, 4, 0, 0, .null), (14, 3, .if_icmp .ge 53, 67, 0, 0, .null), (17, 1, .aload_n 0, 0, 0, 0, .null), (18, 3, .getfield 29, 7, 3, 4, .null), (21, 3, .getfield 113, 6, 1, 0, .null), (24, 2, .iload 4, 4, 0, 0, .null), (26, 3, .invokestatic 116, 151, 2, 1, .null), (29, 3, .ifCond .eq 32, 61, 0, 0, .null), (32, 1, .iload_n 3, 3, 0, 0, .null), (33, 1, .aload_n 0, 0, 0, 0, .null), (34, 2, .iload 4, 4, 0, 0, .null), (36, 1, .aload_n 0, 0, 0, 0, .null), (37, 3, .getfield 19, 7, 1, 4, .null), (40, 3, .getfield 132, 4, 5, 4, .null), (43, 1, .iload_n 1, 1, 0, 0, .null), (44, 1, .iaload, 0, 0, 0, .null), (45, 1, .aload_n 0, 0, 0, 0, .null), (46, 3, .getfield 29, 7, 3, 4, .null), (49, 3, .getfield 126, 6, 0, 4, .null), (52, 2, .iload 4, 4, 0, 0, .null), (54, 1, .iaload, 0, 0, 0, .null), (55, 1, .iload_n 2, 2, 0, 0, .null), (56, 3, .invokevirtual 144, 144, 5, 29, .null), (59, 1, .iadd, 0, 0, 0, .null), (60, 1, .istore_n 3, 3, 0, 0, .null), (61, 3, .iinc 4 1, 4, 0, 0, .int (1)), (64, 3, .goto (-59), 5, 0, 0, .null), (67, 1, .iload_n 3, 3, 0, 0, .null), (68, 1, .ireturn, 0, 0, 0, .null)]
def kX7_carriedByTones : List zE := [(0, 1, .aload_n 0, 0, 0, 0, .null), (1, 3, .invokevirtual 172, 143, 1, 30, .null), (4, 1, .pop, 0, 0, 0, .null), (5, 1, .iconst 0, 0, 0, 0, .int (0)), (6, 1, .istore_n 2, 2, 0, 0, .null), (7, 1, .iconst 0, 0, 0, 0, .int (0)), (8, 1, .istore_n 3, 3, 0, 0, .null), (9, 1, .iload_n 3, 3, 0, 0, .null), (10, 1, .aload_n 0, 0, 0, 0, .null), (11, 3, .getfield 19, 7, 1, 4, .null), (14, 3, .getfield 182, 4, 4, 0, .null), (17, 3, .if_icmp .ge 46, 63, 0, 0, .null), (20, 1, .aload_n 0, 0, 0, 0, .null), (21, 3, .getfield 29, 7, 3, 4, .null), (24, 3, .getfield 135, 6, 2, 0, .null), (27, 1, .iload_n 3, 3, 0, 0, .null), (28, 3, .invokestatic 116, 151, 2, 1, .null), (31, 3, .ifCond .ne 26, 57, 0, 0, .null), (34, 1, .aload_n 0, 0, 0, 0, .null), (35, 3, .getfield 33, 7, 4, 4, .null), (38, 1, .aload_n 0, 0, 0, 0, .null), (39, 3, .getfield 19, 7, 1, 4, .null), (42, 1, .iload_n 3, 3, 0, 0, .null), (43, 1, .iload_n 1, 1, 0, 0, .null), (44, 1, .iload_n 3, 3, 0, 0, .null), (45, 3, .invokestatic 116, 151, 2, 1, .null), (48, 3, .invokevirtual 155, 81, 4, 25, .null), (51, 3, .ifCond .eq 6, 57, 0, 0, .null), (54, 3, .iinc 2 1, 2, 0, 0, .int (1)), (57, 3, .iinc 3 1, 3, 0, 0, .int (1)), (60, 3, .goto (-51), 9, 0, 0, .null), (63, 1, .iload_n 2, 2, 0, 0, .null), (64, 1, .ireturn, 0, 0, 0, .null)]
def kX7_staysWith : List zE := [(0, 1, .iconst 1, 0, 0, 0, .int (1)), (1, 1, .iload_n 0, 0, 0, 0, .null), (2, 1, .isub, 0, 0, 0, .null), (3, 1, .iload_n 1, 1, 0, 0, .null), (4, 1, .iload_n 2, 2, 0, 0, .null), (5, 3, .invokestatic 316, 148, 3, 1, .null), (8, 1, .iload_n 0, 0, 0, 0, .null), (9, 1, .iload_n 1, 1, 0, 0, .null), (10, 1, .iload_n 2, 2, 0, 0, .null), (11, 3, .invokestatic 316, 148, 3, 1, .null), (14, 3, .if_icmp .gt 7, 21, 0, 0, .null), (17, 1, .iconst 1, 0, 0, 0, .int (1)), (18, 3, .goto 4, 22, 0, 0, .null), (21, 1, .iconst 0, 0, 0, 0, .int (0)), (22, 1, .ireturn, 0, 0, 2, .null)]
def kX7_gain : List zE := [(0, 1, .iload_n 0, 0, 0, 0, .null), (1, 1, .iconst 1, 0, 0, 0, .int (1)), (2, 3, .if_icmp .ne 16, 18, 0, 0, .null), (5, 1, .iload_n 1, 1, 0, 0, .null), (6, 1, .iconst 1, 0, 0, 0, .int (1)), (7, 3, .if_icmp .ne 7, 14, 0, 0, .null), (10, 1, .iconst 3, 0, 0, 0, .int (3)), (11, 3, .goto 6, 17, 0, 0, .null), (14, 1, .iconst 3, 0, 0, 0, .int (3)), (15, 1, .iload_n 2, 2, 0, 0, .null), (16, 1, .isub, 0, 0, 0, .null), (17, 1, .ireturn, 0, 0, 0, .null), (18, 1, .iload_n 1, 1, 0, 0, .null), (19, 1, .iconst 1, 0, 0, 0, .int (1)), (20, 3, .if_icmp .ne 7, 27, 0, 0, .null), (23, 1, .iconst 4, 0, 0, 0, .int (4)), (24, 3, .goto 4, 28, 0, 0, .null), (27, 1, .iconst 0, 0, 0, 0, .int (0)), (28, 1, .ireturn, 0, 0, 0, .null)]
def kX7_countDrops : List zE := [(0, 1, .iconst 0, 0, 0, 0, .int (0)), (1, 1, .istore_n 3, 3, 0, 0, .null), (2, 1, .iload_n 3, 3, 0, 0, .null), (3, 1, .aload_n 0, 0, 0, 0, .null), (4, 3, .getfield 19, 7, 1, 4, .null), (7, 3, .getfield 100, 4, 0, 0, .null), (10, 3, .if_icmp .ge 161, 171, 0, 0, .null), (13, 1, .aload_n 0, 0, 0, 0, .null), (14, 3, .getfield 29, 7, 3, 4, .null), (17, 3, .getfield 113, 6, 1, 0, .null), (20, 1, .iload_n 3, 3, 0, 0, .null), (21, 3, .invokestatic 116, 151, 2, 1, .null), (24, 3, .ifCond .eq 141, 165, 0, 0, .null), (27, 1, .aload_n 0, 0, 0, 0, .null), (28, 3, .getfield 65, 7, 12, 4, .null), (31, 1, .iload_n 3, 3, 0, 0, .null), (32, 1, .iconst (-1), 0, 0, 0, .int (-1)), (33, 1, .iastore, 0, 0, 0, .null), (34, 1, .aload_n 0, 0, 0, 0, .null), (35, 3, .getfield 68, 7, 13, 4, .null), (38, 1, .iload_n 3, 3, 0, 0, .null), (39, 1, .iconst (-1), 0, 0, 0, .int (-1)), (40, 1, .iastore, 0, 0, 0, .null), (41, 1, .aload_n 0, 0, 0, 0, .null), (42, 3, .getfield 29, 7, 3, 4, .null), (45, 3, .getfield 126, 6, 0, 4, .null), (48, 1, .iload_n 3, 3, 0, 0, .null), (49, 1, .iaload, 0, 0, 0, .null), (50, 2, .istore 4, 4, 0, 0, .null), (52, 2, .iload 4, 4, 0, 0, .null), (54, 3, .ifCond .lt 99, 153, 0, 0, .null), (57, 1, .aload_n 0, 0, 0, 0, .null), (58, 3, .getfield 29, 7, 3, 4, .null), (61, 3, .getfield 126, 6, 0, 4, .null), (64, 1, .iload_n 3, 3, 0, 0, .null), (65, 1, .iaload, 0, 0, 0, .null), (66, 2, .iload 4, 4, 0, 0, .null), (68, 1, .isub, 0, 0, 0, .null), (69, 2, .istore 5, 5, 0, 0, .null), (71, 2, .iload 4, 4, 0, 0, .null), (73, 1, .aload_n 0, 0, 0, 0, .null), (74, 1, .iload_n 3, 3, 0, 0, .null), (75, 1, .iload_n 1, 1, 0, 0, .null), (76, 2, .iload 4, 4, 0, 0, .null), (78, 1, .iload_n 2, 2, 0, 0, .null), (79, 3, .invokevirtual 144, 144, 5, 29, .null), (82, 1, .iadd, 0, 0, 0, .null), (83, 2, .istore 6, 6, 0, 0, .null), (85, 2, .iload 6, 6, 0, 0, .null), (87, 1, .aload_n 0, 0, 0, 0, .null), (88, 3, .getfield 19, 7, 1, 4, .null), (91, 3, .getfield 261, 4, 6, 0, .null), (94, 3, .if_icmp .ge 21, 115, 0, 0, .null), (97, 1, .aload_n 0, 0, 0, 0, .null), (98, 3, .getfield 65, 7, 12, 4, .null), (101, 1, .iload_n 3, 3, 0, 0, .null), (102, 1, .iaload, 0, 0, 0, .null), (103, 1, .iconst (-1), 0, 0, 0, .int (-1)), (104, 3, .if_icmp .ne 11, 115, 0, 0, .null), (107, 1, .aload_n 0, 0, 0, 0, .null), (108, 3, .getfield 65, 7, 12, 4, .null), (111, 1, .iload_n 3, 3, 0, 0, .null), (112, 2, .iload 5, 5, 0, 0, .null), (114, 1, .iastore, 0, 0, 0, .null), (115, 1, .iconst 2, 0, 0, 0, .int (2)), (116, 2, .iload 6, 6, 0, 0, .null), (118, 1, .imul, 0, 0, 0, .null), (119, 1, .aload_n 0, 0, 0, 0, .null), (120, 3, .getfield 19, 7, 1, 4, .null), (123, 3, .getfield 261, 4, 6, 0, .null), (126, 3, .if_icmp .ge 21, 147, 0, 0, .null), (129, 1, .aload_n 0, 0, 0, 0, .null), (130, 3, .getfield 68, 7, 13, 4, .null), (133, 1, .iload_n 3, 3, 0, 0, .null), (134, 1, .iaload, 0, 0, 0, .null), (135, 1, .iconst (-1), 0, 0, 0, .int (-1)), (136, 3, .if_icmp .ne 11, 147, 0, 0, .null), (139, 1, .aload_n 0, 0, 0, 0, .null), (140, 3, .getfield 68, 7, 13, 4, .null), (143, 1, .iload_n 3, 3, 0, 0, .null), (144, 2, .iload 5, 5, 0, 0, .null), (146, 1, .iastore, 0, 0, 0, .null), (147, 3, .iinc 4 (-1), 4, 0, 0, .int (-1)), (150, 3, .goto (-98), 52, 0, 0, .null), (153, 1, .aload_n 0, 0, 0, 0, .null), (154, 3, .getfield 65, 7, 12, 4, .null), (157, 1, .iload_n 3, 3, 0, 0, .null), (158, 1, .iaload, 0, 0, 0, .null), (159, 1, .iconst (-1), 0, 0, 0, .int (-1)), (160, 3, .if_icmp .ne 5, 165, 0, 0, .null), (163, 1, .iconst 0, 0, 0, 0, .int (0)), (164, 1, .ireturn, 0, 0, 2, .null), (165, 3, .iinc 3 1, 3, 0, 0, .int (1)), (168, 3, .goto (-166), 2, 0, 0, .null), (171, 1, .iconst 1, 0, 0, 0, .int (1)), (172, 1, .ireturn, 0, 0, 2, .null)]
def kX7_dropsWith : List zE := [(0, 1, .aload_n 0, 0, 0, 0, .null), (1, 3, .getfield 19, 7, 1, 4, .null), (4, 1, .iload_n 1, 1, 0, 0, .null), (5, 1, .aload_n 0, 0, 0, 0, .null), (6, 3, .getfield 19, 7, 1, 4, .null), (9, 3, .invokevirtual 255, 45, 1, 17, .null), (12, 1, .aload_n 0, 0, 0, 0, .null), (13, 3, .getfield 29, 7, 3, 4, .null), (16, 3, .getfield 113, 6, 1, 0, .null), (19, 1, .iconst (-1), 0, 0, 0, .int (-1)), (20, 1, .ixor, 0, 0, 0, .null), (21, 1, .iand, 0, 0, 0, .null), (22, 1, .ior, 0, 0, 0, .null), (23, 3, .invokevirtual 258, 46, 2, 17, .null), (26, 1, .aload_n 0, 0, 0, 0, .null), (27, 3, .getfield 19, 7, 1, 4, .null), (30, 3, .getfield 264, 4, 7, 0, .null), (33, 3, .if_icmp .ge 5, 38, 0, 0, .null), (36, 1, .iconst (-1), 0, 0, 0, .int (-1)), (37, 1, .ireturn, 0, 0, 0, .null), (38, 1, .iconst 0, 0, 0, 0, .int (0)), (39, 1, .istore_n 2, 2, 0, 0, .null), (40, 1, .iconst 0, 0, 0, 0, .int (0)), (41, 1, .istore_n 3, 3, 0, 0, .null), (42, 1, .iload_n 3, 3, 0, 0, .null), (43, 1, .aload_n 0, 0, 0, 0, .null), (44, 3, .getfield 19, 7, 1, 4, .null), (47, 3, .getfield 100, 4, 0, 0, .null), (50, 3, .if_icmp .ge 64, 114, 0, 0, .null), (53, 1, .iload_n 1, 1, 0, 0, .null), (54, 1, .iload_n 3, 3, 0, 0, .null), (55, 3, .invokestatic 116, 151, 2, 1, .null), (58, 3, .ifCond .eq 27, 85, 0, 0, .null), (61, 1, .aload_n 0, 0, 0, 0, .null), (62, 3, .getfield 68, 7, 13, 4, .null), (65, 1, .iload_n 3, 3, 0, 0, .null), (66, 1, .iaload, 0, 0, 0, .null), (67, 1, .iconst (-1), 0, 0, 0, .int (-1)), (68, 3, .if_icmp .ne 5, 73, 0, 0, .null), (71, 1, .iconst (-1), 0, 0, 0, .int (-1)), (72, 1, .ireturn, 0, 0, 0, .null), (73, 1, .iload_n 2, 2, 0, 0, .null), (74, 1, .aload_n 0, 0, 0, 0, .null), (75, 3, .getfield 68, 7, 13, 4, .null), (78, 1, .iload_n 3, 3, 0, 0, .null), (79, 1, .iaload, 0, 0, 0, .null), (80, 1, .iadd, 0, 0, 0, .null), (81, 1, .istore_n 2, 2, 0, 0, .null), (82, 3, .goto 26, 108, 0, 0, .null), (85, 1, .aload_n 0, 0, 0, 0, .null), (86, 3, .getfield 29, 7, 3, 4, .null), (89, 3, .getfield 113, 6, 1, 0, .null), (92, 1, .iload_n 3, 3, 0, 0, .null), (93, 3, .invokestatic 116, 151, 2, 1, .null), (96, 3, .ifCond .eq 12, 108, 0, 0, .null), (99, 1, .iload_n 2, 2, 0, 0, .null), (100, 1, .aload_n 0, 0, 0, 0, .null), (101, 3, .getfield 65, 7, 12, 4, .null), (104, 1, .iload_n 3, 3, 0, 0, .null), (105, 1, .iaload, 0, 0, 0, .null), (106, 1, .iadd, 0, 0, 0, .null), (107, 1, .istore_n 2, 2, 0, 0, .null), (108, 3, .iinc 3 1, 3, 0, 0, .int (1)), (111, 3, .goto (-69), 42, 0, 0, .null), (114, 1, .iload_n 2, 2, 0, 0, .null), (115, 1, .ireturn, 0, 0, 0, .null)]
def kX7_has : List zE := [(0, 1, .iload_n 0, 0, 0, 0, .null), (1, 1, .iload_n 1, 1, 0, 0, .null), (2, 1, .ishr, 0, 0, 0, .null), (3, 1, .iconst 1, 0, 0, 0, .int (1)), (4, 1, .iand, 0, 0, 0, .null), (5, 3, .ifCond .eq 7, 12, 0, 0, .null), (8, 1, .iconst 1, 0, 0, 0, .int (1)), (9, 3, .goto 4, 13, 0, 0, .null), (12, 1, .iconst 0, 0, 0, 0, .int (0)), (13, 1, .ireturn, 0, 0, 2, .null)]
def kX7_commonDivisor : List zE := [(0, 1, .iload_n 0, 0, 0, 0, .null), (1, 1, .istore_n 2, 2, 0, 0, .null), (2, 1, .iload_n 1, 1, 0, 0, .null), (3, 1, .istore_n 3, 3, 0, 0, .null), (4, 1, .iconst 0, 0, 0, 0, .int (0)), (5, 2, .istore 4, 4, 0, 0, .null), (7, 2, .iload 4, 4, 0, 0, .null), (9, 2, .bipush 100, 0, 0, 0, .int (100)), (11, 3, .if_icmp .ge 23, 34, 0, 0, .null), (14, 1, .iload_n 3, 3, 0, 0, .null), (15, 3, .ifCond .eq 19, 34, 0, 0, .null), (18, 1, .iload_n 2, 2, 0, 0, .null), (19, 1, .iload_n 3, 3, 0, 0, .null), (20, 1, .irem, 0, 0, 0, .null), (21, 2, .istore 5, 5, 0, 0, .null), (23, 1, .iload_n 3, 3, 0, 0, .null), (24, 1, .istore_n 2, 2, 0, 0, .null), (25, 2, .iload 5, 5, 0, 0, .null), (27, 1, .istore_n 3, 3, 0, 0, .null), (28, 3, .iinc 4 1, 4, 0, 0, .int (1)), (31, 3, .goto (-24), 7, 0, 0, .null), (34, 1, .iload_n 2, 2, 0, 0, .null), (35, 1, .ireturn, 0, 0, 0, .null)]
end
section
/-! the code, instruction by instruction, links resolved -/
def kX8_init : List zE := [(0, 1, .aload_n 0, 0, 0, 0, .null), (1, 3, .invokespecial 1, 0, 0, 9, .null), (4, 1, .aload_n 0, 0, 0, 0, .null), (5, 3, .sipush 1600, 0, 0, 0, .int (1600)), (8, 2, .newarray .int, 0, 0, 0, .null), (10, 3, .putfield 7, 8, 0, 4, .null), (13, 1, .aload_n 0, 0, 0, 0, .null), (14, 1, .iconst (-1), 0, 0, 0, .int (-1)), (15, 3, .putfield 13, 8, 3, 0, .null), (18, 1, .aload_n 0, 0, 0, 0, .null), (19, 2, .bipush 13, 0, 0, 0, .int (13)), (21, 2, .newarray .long, 3, 0, 0, .null), (23, 3, .putfield 17, 8, 10, 4, .null), (26, 1, .aload_n 0, 0, 0, 0, .null), (27, 3, .sipush 320, 0, 0, 0, .int (320)), (30, 2, .newarray .int, 0, 0, 0, .null), (32, 3, .putfield 21, 8, 11, 4, .null), (35, 1, .aload_n 0, 0, 0, 0, .null), (36, 3, .sipush 320, 0, 0, 0, .int (320)), (39, 2, .newarray .int, 0, 0, 0, .null), (41, 3, .putfield 24, 8, 12, 4, .null), (44, 1, .aload_n 0, 0, 0, 0, .null), (45, 3, .sipush 320, 0, 0, 0, .int (320)), (48, 2, .newarray .int, 0, 0, 0, .null), (50, 3, .putfield 27, 8, 13, 4, .null), (53, 1, .aload_n 0, 0, 0, 0, .null), (54, 3, .sipush 320, 0, 0, 0, .int (320)), (57, 2, .newarray .int, 0, 0, 0, .null), (59, 3, .putfield 30, 8, 14, 4, .null), (62, 1, .aload_n 0, 0, 0, 0, .null), (63, 3, .sipush 160, 0, 0, 0, .int (160)), (66, 2, .newarray .int, 0, 0, 0, .null), (68, 3, .putfield 33, 8, 15, 4, .null), (71, 1, .aload_n 0, 0, 0, 0, .null), (72, 2, .bipush 64, 0, 0, 0, .int (64)), (74, 2, .newarray .int, 0, 0, 0, .null), (76, 3, .putfield 36, 8, 16, 4, .null), (79, 1, .aload_n 0, 0, 0, 0, .null), (80, 2, .bipush 6, 0, 0, 0, .int (6)), (82, 2, .newarray .int, 0, 0, 0, .null), (84, 3, .putfield 39, 8, 26, 4, .null), (87, 1, .aload_n 0, 0, 0, 0, .null), (88, 1, .iconst (-1), 0, 0, 0, .int (-1)), (89, 3, .putfield 42, 8, 27, 0, .null), (92, 1, .aload_n 0, 0, 0, 0, .null), (93, 2, .bipush 7, 0, 0, 0, .int (7)), (95, 2, .newarray .int, 0, 0, 0, .null), (97, 3, .putfield 45, 8, 28, 4, .null), (100, 1, .aload_n 0, 0, 0, 0, .null), (101, 2, .bipush 7, 0, 0, 0, .int (7)), (103, 2, .newarray .int, 0, 0, 0, .null), (105, 3, .putfield 48, 8, 29, 4, .null), (108, 1, .aload_n 0, 0, 0, 0, .null), (109, 2, .bipush 6, 0, 0, 0, .int (6)), (111, 2, .newarray .int, 0, 0, 0, .null), (113, 3, .putfield 51, 8, 30, 4, .null), (116, 1, .aload_n 0, 0, 0, 0, .null), (117, 2, .bipush 7, 0, 0, 0, .int (7)), (119, 2, .newarray .int, 0, 0, 0, .null), (121, 3, .putfield 54, 8, 31, 4, .null), (124, 1, .aload_n 0, 0, 0, 0, .null), (125, 2, .bipush 7, 0, 0, 0, .int (7)), (127, 2, .newarray .int, 0, 0, 0, .null), (129, 3, .putfield 57, 8, 32, 4, .null), (132, 1, .aload_n 0, 0, 0, 0, .null), (133, 2, .bipush 6, 0, 0, 0, .int (6)), (135, 2, .newarray .int, 0, 0, 0, .null), (137, 3, .putfield 60, 8, 33, 4, .null), (140, 1, .aload_n 0, 0, 0, 0, .null), (141, 2, .bipush 10, 0, 0, 0, .int (10)), (143, 3, .putfield 63, 8, 44, 0, .null), (146, 1, .aload_n 0, 0, 0, 0, .null), (147, 1, .iconst 1, 0, 0, 0, .int (1)), (148, 3, .putfield 66, 8, 45, 0, .null), (151, 1, .aload_n 0, 0, 0, 0, .null), (152, 2, .bipush 11, 0, 0, 0, .int (11)), (154, 2, .newarray .int, 0, 0, 0, .null), (156, 3, .putfield 69, 8, 52, 4, .null), (159, 1, .aload_n 0, 0, 0, 0, .null), (160, 2, .bipush 11, 0, 0, 0, .int (11)), (162, 2, .newarray .int, 0, 0, 0, .null), (164, 3, .putfield 72, 8, 53, 4, .null), (167, 1, .aload_n 0, 0, 0, 0, .null), (168, 3, .sipush 440, 0, 0, 0, .int (440)), (171, 2, .newarray .int, 0, 0, 0, .null), (173, 3, .putfield 75, 8, 56, 4, .null), (176, 1, .aload_n 0, 0, 0, 0, .null), (177, 2, .bipush 7, 0, 0, 0, .int (7)), (179, 2, .newarray .int, 0, 0, 0, .null), (181, 3, .putfield 78, 8, 59, 4, .null), (184, 1, .aload_n 0, 0, 0, 0, .null), (185, 2, .bipush 6, 0, 0, 0, .int (6)), (187, 2, .newarray .int, 0, 0, 0, .null), (189, 3, .putfield 81, 8, 60, 4, .null), (192, 1, .aload_n 0, 0, 0, 0, .null), (193, 2, .bipush 6, 0, 0, 0, .int (6)), (195, 2, .newarray .int, 0, 0, 0, .null), (197, 3, .putfield 84, 8, 61, 4, .null), (200, 1, .aload_n 0, 0, 0, 0, .null), (201, 2, .bipush 7, 0, 0, 0, .int (7)), (203, 2, .newarray .int, 0, 0, 0, .null), (205, 3, .putfield 87, 8, 64, 4, .null), (208, 1, .aload_n 0, 0, 0, 0, .null), (209, 2, .bipush 7, 0, 0, 0, .int (7)), (211, 2, .newarray .int, 0, 0, 0, .null), (213, 3, .putfield 90, 8, 65, 4, .null), (216, 1, .aload_n 0, 0, 0, 0, .null), (217, 2, .bipush 30, 0, 0, 0, .int (30)), (219, 2, .newarray .int, 0, 0, 0, .null), (221, 3, .putfield 93, 8, 66, 4, .null), (224, 1, .aload_n 0, 0, 0, 0, .null), (225, 2, .bipush 30, 0, 0, 0, .int (30)), (227, 2, .newarray .int, 0, 0, 0, .null), (229, 3, .putfield 96, 8, 67, 4, .null), (232, 1, .aload_n 0, 0, 0, 0, .null), (233, 2, .bipush 30, 0, 0, 0, .int (30)), (235, 2, .newarray .int, 0, 0, 0, .null), (237, 3, .putfield 99, 8, 68, 4, .null), (240, 1, .aload_n 0, 0, 0, 0, .null), (241, 2, .bipush 30, 0, 0, 0, .int (30)), (243, 2, .newarray .int, 0, 0, 0, .null), (245, 3, .putfield 102, 8, 69, 4, .null), (248, 1, .aload_n 0, 0, 0, 0, .null), (249, 2, .bipush 30, 0, 0, 0, .int (30)), (251, 2, .newarray .boolean, 2, 0, 0, .null), (253, 3, .putfield 105, 8, 70, 4, .null), (256, 1, .aload_n 0, 0, 0, 0, .null), (257, 3, .sipush 147, 0, 0, 0, .int (147)), (260, 2, .newarray .int, 0, 0, 0, .null), (262, 3, .putfield 109, 8, 73, 4, .null), (265, 1, .aload_n 0, 0, 0, 0, .null), (266, 2, .bipush 40, 0, 0, 0, .int (40)), (268, 2, .newarray .int, 0, 0, 0, .null), (270, 3, .putfield 112, 8, 74, 4, .null), (273, 1, .aload_n 0, 0, 0, 0, .null), (274, 2, .bipush 21, 0, 0, 0, .int (21)), (276, 2, .newarray .boolean, 2, 0, 0, .null), (278, 3, .putfield 115, 8, 75, 4, .null), (281, 1, .aload_n 0, 0, 0, 0, .null), (282, 1, .iconst 3, 0, 0, 0, .int (3)), (283, 2, .newarray .boolean, 2, 0, 0, .null), (285, 3, .putfield 118, 8, 76, 4, .null), (288, 1, .aload_n 0, 0, 0, 0, .null), (289, 2, .bipush 33, 0, 0, 0, .int (33)), (291, 2, .newarray .int, 0, 0, 0, .null), (293, 3, .putfield 121, 8, 77, 4, .null), (296, 1, .return_, 0, 0, 0, .null)]
def kX8_feed : List zE := [(0, 1, .aload_n 0, 0, 0, 0, .null), (1, 3, .getfield 124, 8, 1, 0, .null), (4, 2, .bipush 20, 0, 0, 0, .int (20)), (6, 1, .iadd, 0, 0, 0, .null), (7, 3, .sipush 1600, 0, 0, 0, .int (1600)), (10, 3, .if_icmp .le 5, 15, 0, 0, .null), (13, 1, .iconst (-1), 0, 0, 0, .int (-1)), (14, 1, .ireturn, 0, 0, 0, .null), (15, 1, .aload_n 0, 0, 0, 0, .null), (16, 1, .iload_n 1, 1, 0, 0, .null), (17, 3, .invokevirtual 127, 155, 2, 32, .null), (20, 1, .aload_n 0, 0, 0, 0, .null), (21, 1, .iload_n 2, 2, 0, 0, .null), (22, 3, .invokevirtual 127, 155, 2, 32, .null), (25, 1, .aload_n 0, 0, 0, 0, .null), (26, 1, .iload_n 3, 3, 0, 0, .null), (27, 3, .invokevirtual 127, 155, 2, 32, .null), (30, 1, .aload_n 0, 0, 0, 0, .null), (31, 2, .iload 4, 4, 0, 0, .null), (33, 3, .invokevirtual 127, 155, 2, 32, .null), (36, 1, .aload_n 0, 0, 0, 0, .null), (37, 2, .iload 5, 5, 0, 0, .null), (39, 3, .invokevirtual 127, 155, 2, 32, .null), (42, 1, .aload_n 0, 0, 0, 0, .null), (43, 3, .getfield 124, 8, 1, 0, .null), (46, 1, .ireturn, 0, 0, 0, .null)]
def kX8_four : List zE := [(0, 2, .bipush 24, 0, 0, 0, .int (24)), (2, 1, .istore_n 2, 2, 0, 0, .null), (3, 1, .iload_n 2, 2, 0, 0, .null), (4, 3, .ifCond .lt 35, 39, 0, 0, .null), (7, 1, .aload_n 0, 0, 0, 0, .null), (8, 3, .getfield 7, 8, 0, 4, .null), (11, 1, .aload_n 0, 0, 0, 0, .null), (12, 3, .getfield 124, 8, 1, 0, .null), (15, 1, .iload_n 1, 1, 0, 0, .null), (16, 1, .iload_n 2, 2, 0, 0, .null), (17, 1, .ishr, 0, 0, 0, .null), (18, 3, .sipush 255, 0, 0, 0, .int (255)), (21, 1, .iand, 0, 0, 0, .null), (22, 1, .iastore, 0, 0, 0, .null), (23, 1, .aload_n 0, 0, 0, 0, .null), (24, 1, .dup, 0, 0, 0, .null), (25, 3, .getfield 124, 8, 1, 0, .null), (28, 1, .iconst 1, 0, 0, 0, .int (1)), (29, 1, .iadd, 0, 0, 0, .null), (30, 3, .putfield 124, 8, 1, 0, .null), (33, 3, .iinc 2 (-8), 2, 0, 0, .int (-8)), (36, 3, .goto (-33), 3, 0, 0, .null), (39, 1, .return_, 0, 0, 0, .null)]
def kX8_end : List zE := [(0, 1, .iload_n 1, 1, 0, 0, .null), (1, 3, .ifCond .lt 11, 12, 0, 0, .null), (4, 1, .iload_n 1, 1, 0, 0, .null), (5, 1, .aload_n 0, 0, 0, 0, .null), (6, 3, .getfield 124, 8, 1, 0, .null), (9, 3, .if_icmp .le 5, 14, 0, 0, .null), (12, 1, .iconst (-1), 0, 0, 0, .int (-1)), (13, 1, .ireturn, 0, 0, 0, .null), (14, 1, .aload_n 0, 0, 0, 0, .null), (15, 1, .iload_n 1, 1, 0, 0, .null), (16, 3, .putfield 124, 8, 1, 0, .null), (19, 1, .iload_n 1, 1, 0, 0, .null), (20, 1, .ireturn, 0, 0, 0, .null)]
def kX8_here : List zE := [(0, 1, .aload_n 0, 0, 0, 0, .null), (1, 3, .getfield 131, 8, 4, 0, .null), (4, 1, .iload_n 1, 1, 0, 0, .null), (5, 1, .iadd, 0, 0, 0, .null), (6, 1, .aload_n 0, 0, 0, 0, .null), (7, 3, .getfield 134, 8, 5, 0, .null), (10, 3, .if_icmp .ge 17, 27, 0, 0, .null), (13, 1, .aload_n 0, 0, 0, 0, .null), (14, 3, .getfield 7, 8, 0, 4, .null), (17, 1, .aload_n 0, 0, 0, 0, .null), (18, 3, .getfield 131, 8, 4, 0, .null), (21, 1, .iload_n 1, 1, 0, 0, .null), (22, 1, .iadd, 0, 0, 0, .null), (23, 1, .iaload, 0, 0, 0, .null), (24, 3, .goto 4, 28, 0, 0, .null), (27, 1, .iconst (-1), 0, 0, 0, .int (-1)), (28, 1, .ireturn, 0, 0, 0, .null)]
def kX8_isLetter : List zE := [(0, 1, .iload_n 0, 0, 0, 0, .null), (1, 2, .bipush 97, 0, 0, 0, .int (97)), (3, 3, .if_icmp .lt 13, 16, 0, 0, .null), (6, 1, .iload_n 0, 0, 0, 0, .null), (7, 2, .bipush 122, 0, 0, 0, .int (122)), (9, 3, .if_icmp .gt 7, 16, 0, 0, .null), (12, 1, .iconst 1, 0, 0, 0, .int (1)), (13, 3, .goto 4, 17, 0, 0, .null), (16, 1, .iconst 0, 0, 0, 0, .int (0)), (17, 1, .ireturn, 0, 0, 2, .null)]
def kX8_isDigit : List zE := [(0, 1, .iload_n 0, 0, 0, 0, .null), (1, 2, .bipush 48, 0, 0, 0, .int (48)), (3, 3, .if_icmp .lt 13, 16, 0, 0, .null), (6, 1, .iload_n 0, 0, 0, 0, .null), (7, 2, .bipush 57, 0, 0, 0, .int (57)), (9, 3, .if_icmp .gt 7, 16, 0, 0, .null), (12, 1, .iconst 1, 0, 0, 0, .int (1)), (13, 3, .goto 4, 17, 0, 0, .null), (16, 1, .iconst 0, 0, 0, 0, .int (0)), (17, 1, .ireturn, 0, 0, 2, .null)]
def kX8_isSign : List zE := [(0, 1, .iload_n 0, 0, 0, 0, .null), (1, 2, .bipush 59, 0, 0, 0, .int (59)), (3, 3, .if_icmp .eq 63, 66, 0, 0, .null), (6, 1, .iload_n 0, 0, 0, 0, .null), (7, 2, .bipush 40, 0, 0, 0, .int (40)), (9, 3, .if_icmp .eq 57, 66, 0, 0, .null), (12, 1, .iload_n 0, 0, 0, 0, .null), (13, 2, .bipush 41, 0, 0, 0, .int (41)), (15, 3, .if_icmp .eq 51, 66, 0, 0, .null), (18, 1, .iload_n 0, 0, 0, 0, .null), (19, 2, .bipush 60, 0, 0, 0, .int (60)), (21, 3, .if_icmp .eq 45, 66, 0, 0, .null), (24, 1, .iload_n 0, 0, 0, 0, .null), (25, 2, .bipush 62, 0, 0, 0, .int (62)), (27, 3, .if_icmp .eq 39, 66, 0, 0, .null), (30, 1, .iload_n 0, 0, 0, 0, .null), (31, 2, .bipush 61, 0, 0, 0, .int (61)), (33, 3, .if_icmp .eq 33, 66, 0, 0, .null), (36, 1, .iload_n 0, 0, 0, 0, .null), (37, 2, .bipush 43, 0, 0, 0, .int (43)), (39, 3, .if_icmp .eq 27, 66, 0, 0, .null), (42, 1, .iload_n 0, 0, 0, 0, .null), (43, 2, .bipush 45, 0, 0, 0, .int (45)), (45, 3, .if_icmp .eq 21, 66, 0, 0, .null), (48, 1, .iload_n 0, 0, 0, 0, .null), (49, 2, .bipush 42, 0, 0, 0, .int (42)), (51, 3, .if_icmp .eq 15, 66, 0, 0, .null), (54, 1, .iload_n 0, 0, 0, 0, .null), (55, 2, .bipush 47, 0, 0, 0, .int (47)), (57, 3, .if_icmp .eq 9, 66, 0, 0, .null), (60, 1, .iload_n 0, 0, 0, 0, .null), (61, 2, .bipush 37, 0, 0, 0, .int (37)), (63, 3, .if_icmp .ne 7, 70, 0, 0, .null), (66, 1, .iconst 1, 0, 0, 0, .int (1)), (67, 3, .goto 4, 71, 0, 0, .null), (70, 1, .iconst 0, 0, 0, 0, .int (0)), (71, 1, .ireturn, 0, 0, 2, .null)]
def kX8_token : List zE := [(0, 1, .aload_n 0, 0, 0, 0, .null), (1, 1, .iconst 0, 0, 0, 0, .int (0)), (2, 3, .invokevirtual 137, 157, 2, 33, .null), (5, 2, .bipush 32, 0, 0, 0, .int (32)), (7, 3, .if_icmp .eq 13, 20, 0, 0, .null), (10, 1, .aload_n 0, 0, 0, 0, .null), (11, 1, .iconst 0, 0, 0, 0, .int (0)), (12, 3, .invokevirtual 137, 157, 2, 33, .null), (15, 2, .bipush 10, 0, 0, 0, .int (10)), (17, 3, .if_icmp .ne 16, 33, 0, 0, .null), (20, 1, .aload_n 0, 0, 0, 0, .null), (21, 1, .dup, 0, 0, 0, .null), (22, 3, .getfield 131, 8, 4, 0, .null), (25, 1, .iconst 1, 0, 0, 0, .int (1)), (26, 1, .iadd, 0, 0, 0, .null), (27, 3, .putfield 131, 8, 4, 0, .null), (30, 3, .goto (-30), 0, 0, 0, .null), (33, 1, .aload_n 0, 0, 0, 0, .null), (34, 1, .aload_n 0, 0, 0, 0, .null), (35, 3, .getfield 131, 8, 4, 0, .null), (38, 3, .putfield 141, 8, 7, 0, .null), (41, 1, .aload_n 0, 0, 0, 0, .null), (42, 1, .iconst 0, 0, 0, 0, .int (0)), (43, 3, .invokevirtual 137, 157, 2, 33, .null), (46, 1, .istore_n 1, 1, 0, 0, .null), (47, 1, .iconst 0, 0, 0, 0, .int (0)), (48, 1, .istore_n 2, 2, 0, 0, .null), (49, 1, .aload_n 0, 0, 0, 0, .null), (50, 1, .lconst 0, 0, 0, 0, .long (0)), (51, 3, .putfield 144, 8, 9, 3, .null), (54, 1, .aload_n 0, 0, 0, 0, .null), (55, 1, .iconst 0, 0, 0, 0, .int (0)), (56, 3, .putfield 148, 8, 8, 0, .null), (59, 1, .iload_n 1, 1, 0, 0, .null), (60, 3, .ifCond .ge 11, 71, 0, 0, .null), (63, 1, .aload_n 0, 0, 0, 0, .null), (64, 1, .iconst 0, 0, 0, 0, .int (0)), (65, 3, .putfield 151, 8, 6, 0, .null), (68, 3, .goto 164, 232, 0, 0, .null), (71, 1, .iload_n 1, 1, 0, 0, .null), (72, 3, .invokestatic 154, 158, 1, 1, .null), (75, 3, .ifCond .eq 62, 137, 0, 0, .null), (78, 1, .aload_n 0, 0, 0, 0, .null), (79, 1, .iload_n 2, 2, 0, 0, .null), (80, 3, .invokevirtual 137, 157, 2, 33, .null), (83, 3, .invokestatic 154, 158, 1, 1, .null), (86, 3, .ifCond .eq 33, 119, 0, 0, .null), (89, 1, .iload_n 2, 2, 0, 0, .null), (90, 2, .bipush 8, 0, 0, 0, .int (8)), (92, 3, .if_icmp .ge 21, 113, 0, 0, .null), (95, 1, .aload_n 0, 0, 0, 0, .null), (96, 1, .aload_n 0, 0, 0, 0, .null), (97, 3, .getfield 144, 8, 9, 3, .null), (100, 2, .bipush 8, 0, 0, 0, .int (8)), (102, 1, .lshl, 0, 0, 0, .null), (103, 1, .aload_n 0, 0, 0, 0, .null), (104, 1, .iload_n 2, 2, 0, 0, .null), (105, 3, .invokevirtual 137, 157, 2, 33, .null), (108, 1, .i2l, 0, 0, 0, .null), (109, 1, .lor, 0, 0, 0, .null), (110, 3, .putfield 144, 8, 9, 3, .null), (113, 3, .iinc 2 1, 2, 0, 0, .int (1)), (116, 3, .goto (-38), 78, 0, 0, .null), (119, 1, .aload_n 0, 0, 0, 0, .null), (120, 1, .iload_n 2, 2, 0, 0, .null), (121, 2, .bipush 8, 0, 0, 0, .int (8)), (123, 3, .if_icmp .le 7, 130, 0, 0, .null), (126, 1, .iconst 3, 0, 0, 0, .int (3)), (127, 3, .goto 4, 131, 0, 0, .null), (130, 1, .iconst 1, 0, 0, 0, .int (1)), (131, 3, .putfield 151, 8, 6, 0, .null), (134, 3, .goto 98, 232, 0, 0, .null), (137, 1, .iload_n 1, 1, 0, 0, .null), (138, 3, .invokestatic 158, 159, 1, 1, .null), (141, 3, .ifCond .eq 73, 214, 0, 0, .null), (144, 1, .aload_n 0, 0, 0, 0, .null), (145, 1, .iload_n 2, 2, 0, 0, .null), (146, 3, .invokevirtual 137, 157, 2, 33, .null), (149, 3, .invokestatic 158, 159, 1, 1, .null), (152, 3, .ifCond .eq 34, 186, 0, 0, .null), (155, 1, .iload_n 2, 2, 0, 0, .null), (156, 1, .iconst 4, 0, 0, 0, .int (4)), (157, 3, .if_icmp .ge 23, 180, 0, 0, .null), (160, 1, .aload_n 0, 0, 0, 0, .null), (161, 2, .bipush 10, 0, 0, 0, .int (10)), (163, 1, .aload_n 0, 0, 0, 0, .null), (164, 3, .getfield 148, 8, 8, 0, .null), (167, 1, .imul, 0, 0, 0, .null), (168, 1, .aload_n 0, 0, 0, 0, .null), (169, 1, .iload_n 2, 2, 0, 0, .null), (170, 3, .invokevirtual 137, 157, 2, 33, .null), (173, 1, .iadd, 0, 0, 0, .null), (174, 2, .bipush 48, 0, 0, 0, .int (48)), (176, 1, .isub, 0, 0, 0, .null), (177, 3, .putfield 148, 8, 8, 0, .null), (180, 3, .iinc 2 1, 2, 0, 0, .int (1)), (183, 3, .goto (-39), 144, 0, 0, .null), (186, 1, .aload_n 0, 0, 0, 0, .null), (187, 1, .iload_n 2, 2, 0, 0, .null), (188, 1, .iconst 4, 0, 0, 0, .int (4)), (189, 3, .if_icmp .gt 14, 203, 0, 0, .null), (192, 1, .aload_n 0, 0, 0, 0, .null), (193, 1, .iload_n 2, 2, 0, 0, .null), (194, 3, .invokevirtual 137, 157, 2, 33, .null), (197, 3, .invokestatic 154, 158, 1, 1, .null), (200, 3, .ifCond .eq 7, 207, 0, 0, .null), (203, 1, .iconst 3, 0, 0, 0, .int (3)), (204, 3, .goto 4, 208, 0, 0, .null), (207, 1, .iconst 2, 0, 0, 0, .int (2)), (208, 3, .putfield 151, 8, 6, 0, .null), (211, 3, .goto 21, 232, 0, 0, .null), (214, 1, .iconst 1, 0, 0, 0, .int (1)), (215, 1, .istore_n 2, 2, 0, 0, .null), (216, 1, .aload_n 0, 0, 0, 0, .null), (217, 1, .iload_n 1, 1, 0, 0, .null), (218, 3, .invokestatic 161, 160, 1, 1, .null), (221, 3, .ifCond .eq 7, 228, 0, 0, .null), (224, 1, .iload_n 1, 1, 0, 0, .null), (225, 3, .goto 4, 229, 0, 0, .null), (228, 1, .iconst 3, 0, 0, 0, .int (3)), (229, 3, .putfield 151, 8, 6, 0, .null), (232, 1, .aload_n 0, 0, 0, 0, .null), (233, 3, .getfield 151, 8, 6, 0, .null), (236, 1, .iconst 3, 0, 0, 0, .int (3)), (237, 3, .if_icmp .eq 13, 250, 0, 0, .null), (240, 1, .aload_n 0, 0, 0, 0, .null), (241, 1, .dup, 0, 0, 0, .null), (242, 3, .getfield 131, 8, 4, 0, .null), (245, 1, .iload_n 2, 2, 0, 0, .null), (246, 1, .iadd, 0, 0, 0, .null), (247, 3, .putfield 131, 8, 4, 0, .null), (250, 1, .return_, 0, 0, 0, .null)]
def kX8_wrong : List zE := [(0, 1, .aload_n 0, 0, 0, 0, .null), (1, 3, .getfield 164, 8, 2, 0, .null), (4, 3, .ifCond .le 4, 8, 0, 0, .null), (7, 1, .return_, 0, 0, 0, .null), (8, 1, .aload_n 0, 0, 0, 0, .null), (9, 1, .aload_n 0, 0, 0, 0, .null), (10, 3, .getfield 151, 8, 6, 0, .null), (13, 1, .iconst 3, 0, 0, 0, .int (3)), (14, 3, .if_icmp .ne 7, 21, 0, 0, .null), (17, 1, .iconst 1, 0, 0, 0, .int (1)), (18, 3, .goto 4, 22, 0, 0, .null), (21, 1, .iload_n 1, 1, 0, 0, .null), (22, 3, .putfield 164, 8, 2, 0, .null), (25, 1, .aload_n 0, 0, 0, 0, .null), (26, 1, .aload_n 0, 0, 0, 0, .null), (27, 3, .getfield 141, 8, 7, 0, .null), (30, 3, .putfield 13, 8, 3, 0, .null), (33, 1, .return_, 0, 0, 0, .null)]
def kX8_isWord : List zE := [(0, 1, .aload_n 0, 0, 0, 0, .null), (1, 3, .getfield 151, 8, 6, 0, .null), (4, 1, .iconst 1, 0, 0, 0, .int (1)), (5, 3, .if_icmp .ne 16, 21, 0, 0, .null), (8, 1, .aload_n 0, 0, 0, 0, .null), (9, 3, .getfield 144, 8, 9, 3, .null), (12, 1, .lload_n 1, 1, 0, 0, .null), (13, 1, .lcmp, 0, 0, 0, .null), (14, 3, .ifCond .ne 7, 21, 0, 0, .null), (17, 1, .iconst 1, 0, 0, 0, .int (1)), (18, 3, .goto 4, 22, 0, 0, .null), (21, 1, .iconst 0, 0, 0, 0, .int (0)), (22, 1, .ireturn, 0, 0, 2, .null)]
def kX8_isOwn : List zE := [(0, 1, .aload_n 0, 0, 0, 0, .null), (1, 3, .getfield 144, 8, 9, 3, .null), (4, 3, .ldc2_w 167, 0, 0, 0, .long (120282394289522)), (7, 1, .lcmp, 0, 0, 0, .null), (8, 3, .ifCond .eq 190, 198, 0, 0, .null), (11, 1, .aload_n 0, 0, 0, 0, .null), (12, 3, .getfield 144, 8, 9, 3, .null), (15, 3, .ldc2_w 169, 0, 0, 0, .long (26990)), (18, 1, .lcmp, 0, 0, 0, .null), (19, 3, .ifCond .eq 179, 198, 0, 0, .null), (22, 1, .aload_n 0, 0, 0, 0, .null), (23, 3, .getfield 144, 8, 9, 3, .null), (26, 3, .ldc2_w 171, 0, 0, 0, .long (7304564)), (29, 1, .lcmp, 0, 0, 0, .null), (30, 3, .ifCond .eq 168, 198, 0, 0, .null), (33, 1, .aload_n 0, 0, 0, 0, .null), (34, 3, .getfield 144, 8, 9, 3, .null), (37, 3, .ldc2_w 173, 0, 0, 0, .long (469920277619)), (40, 1, .lcmp, 0, 0, 0, .null), (41, 3, .ifCond .eq 157, 198, 0, 0, .null), (44, 1, .aload_n 0, 0, 0, 0, .null), (45, 3, .getfield 144, 8, 9, 3, .null), (48, 3, .ldc2_w 175, 0, 0, 0, .long (508676040051)), (51, 1, .lcmp, 0, 0, 0, .null), (52, 3, .ifCond .eq 146, 198, 0, 0, .null), (55, 1, .aload_n 0, 0, 0, 0, .null), (56, 3, .getfield 144, 8, 9, 3, .null), (59, 3, .ldc2_w 177, 0, 0, 0, .long (109317142704997)), (62, 1, .lcmp, 0, 0, 0, .null), (63, 3, .ifCond .eq 135, 198, 0, 0, .null), (66, 1, .aload_n 0, 0, 0, 0, .null), (67, 3, .getfield 144, 8, 9, 3, .null), (70, 3, .ldc2_w 179, 0, 0, 0, .long (495672455792)), (73, 1, .lcmp, 0, 0, 0, .null), (74, 3, .ifCond .eq 124, 198, 0, 0, .null), (77, 1, .aload_n 0, 0, 0, 0, .null), (78, 3, .getfield 144, 8, 9, 3, .null), (81, 3, .ldc2_w 181, 0, 0, 0, .long (512869950579)), (84, 1, .lcmp, 0, 0, 0, .null), (85, 3, .ifCond .eq 113, 198, 0, 0, .null), (88, 1, .aload_n 0, 0, 0, 0, .null), (89, 3, .getfield 144, 8, 9, 3, .null), (92, 3, .ldc2_w 183, 0, 0, 0, .long (1668244331)), (95, 1, .lcmp, 0, 0, 0, .null), (96, 3, .ifCond .eq 102, 198, 0, 0, .null), (99, 1, .aload_n 0, 0, 0, 0, .null), (100, 3, .getfield 144, 8, 9, 3, .null), (103, 3, .ldc2_w 185, 0, 0, 0, .long (487301543009)), (106, 1, .lcmp, 0, 0, 0, .null), (107, 3, .ifCond .eq 91, 198, 0, 0, .null), (110, 1, .aload_n 0, 0, 0, 0, .null), (111, 3, .getfield 144, 8, 9, 3, .null), (114, 3, .ldc2_w 187, 0, 0, 0, .long (1886744179)), (117, 1, .lcmp, 0, 0, 0, .null), (118, 3, .ifCond .eq 80, 198, 0, 0, .null), (121, 1, .aload_n 0, 0, 0, 0, .null), (122, 3, .getfield 144, 8, 9, 3, .null), (125, 3, .ldc2_w 189, 0, 0, 0, .long (1685217655)), (128, 1, .lcmp, 0, 0, 0, .null), (129, 3, .ifCond .eq 69, 198, 0, 0, .null), (132, 1, .aload_n 0, 0, 0, 0, .null), (133, 3, .getfield 144, 8, 9, 3, .null), (136, 3, .ldc2_w 191, 0, 0, 0, .long (474316301160)), (139, 1, .lcmp, 0, 0, 0, .null), (140, 3, .ifCond .eq 58, 198, 0, 0, .null), (143, 1, .aload_n 0, 0, 0, 0, .null), (144, 3, .getfield 144, 8, 9, 3, .null), (147, 3, .ldc2_w 193, 0, 0, 0, .long (28817565927698023)), (150, 1, .lcmp, 0, 0, 0, .null), (151, 3, .ifCond .eq 47, 198, 0, 0, .null), (154, 1, .aload_n 0, 0, 0, 0, .null), (155, 3, .getfield 144, 8, 9, 3, .null), (158, 3, .ldc2_w 195, 0, 0, 0, .long (1919246692)), (161, 1, .lcmp, 0, 0, 0, .null), (162, 3, .ifCond .eq 36, 198, 0, 0, .null), (165, 1, .aload_n 0, 0, 0, 0, .null), (166, 3, .getfield 144, 8, 9, 3, .null), (169, 3, .ldc2_w 197, 0, 0, 0, .long (6385252)), (172, 1, .lcmp, 0, 0, 0, .null), (173, 3, .ifCond .eq 25, 198, 0, 0, .null), (176, 1, .aload_n 0, 0, 0, 0, .null), (177, 3, .getfield 144, 8, 9, 3, .null), (180, 3, .ldc2_w 199, 0, 0, 0, .long (28530)), (183, 1, .lcmp, 0, 0, 0, .null), (184, 3, .ifCond .eq 14, 198, 0, 0, .null), (187, 1, .aload_n 0, 0, 0, 0, .null), (188, 3, .getfield 144, 8, 9, 3, .null), (191, 3, .ldc2_w 201, 0, 0, 0, .long (7237492)), (194, 1, .lcmp, 0, 0, 0, .null), (195, 3, .ifCond .ne 7, 202, 0, 0, .null), (198, 1, .iconst 1, 0, 0, 0, .int (1)), (199, 3, .goto 4, 203, 0, 0, .null), (202, 1, .iconst 0, 0, 0, 0, .int (0)), (203, 1, .ireturn, 0, 0, 2, .null)]
def kX8_isName : List zE := [(0, 1, .aload_n 0, 0, 0, 0, .null), (1, 3, .getfield 151, 8, 6, 0, .null), (4, 1, .iconst 1, 0, 0, 0, .int (1)), (5, 3, .if_icmp .ne 14, 19, 0, 0, .null), (8, 1, .aload_n 0, 0, 0, 0, .null), (9, 3, .invokevirtual 203, 164, 1, 33, .null), (12, 3, .ifCond .ne 7, 19, 0, 0, .null), (15, 1, .iconst 1, 0, 0, 0, .int (1)), (16, 3, .goto 4, 20, 0, 0, .null), (19, 1, .iconst 0, 0, 0, 0, .int (0)), (20, 1, .ireturn, 0, 0, 2, .null)]
def kX8_want : List zE := [(0, 1, .aload_n 0, 0, 0, 0, .null), (1, 3, .getfield 164, 8, 2, 0, .null), (4, 3, .ifCond .le 4, 8, 0, 0, .null), (7, 1, .return_, 0, 0, 0, .null), (8, 1, .aload_n 0, 0, 0, 0, .null), (9, 1, .lload_n 1, 1, 0, 0, .null), (10, 3, .invokevirtual 207, 163, 2, 33, .null), (13, 3, .ifCond .ne 11, 24, 0, 0, .null), (16, 1, .aload_n 0, 0, 0, 0, .null), (17, 1, .iconst 2, 0, 0, 0, .int (2)), (18, 3, .invokevirtual 211, 162, 2, 32, .null), (21, 3, .goto 7, 28, 0, 0, .null), (24, 1, .aload_n 0, 0, 0, 0, .null), (25, 3, .invokevirtual 214, 161, 1, 32, .null), (28, 1, .return_, 0, 0, 0, .null)]
def kX8_toldNumber : List zE := [(0, 1, .aload_n 0, 0, 0, 0, .null), (1, 3, .getfield 164, 8, 2, 0, .null), (4, 3, .ifCond .le 5, 9, 0, 0, .null), (7, 1, .iconst 0, 0, 0, 0, .int (0)), (8, 1, .ireturn, 0, 0, 0, .null), (9, 1, .aload_n 0, 0, 0, 0, .null), (10, 3, .getfield 151, 8, 6, 0, .null), (13, 1, .iconst 2, 0, 0, 0, .int (2)), (14, 3, .if_icmp .eq 11, 25, 0, 0, .null), (17, 1, .aload_n 0, 0, 0, 0, .null), (18, 1, .iconst 2, 0, 0, 0, .int (2)), (19, 3, .invokevirtual 211, 162, 2, 32, .null), (22, 3, .goto 24, 46, 0, 0, .null), (25, 1, .aload_n 0, 0, 0, 0, .null), (26, 3, .getfield 148, 8, 8, 0, .null), (29, 1, .iload_n 1, 1, 0, 0, .null), (30, 3, .if_icmp .lt 11, 41, 0, 0, .null), (33, 1, .aload_n 0, 0, 0, 0, .null), (34, 3, .getfield 148, 8, 8, 0, .null), (37, 1, .iload_n 2, 2, 0, 0, .null), (38, 3, .if_icmp .le 8, 46, 0, 0, .null), (41, 1, .aload_n 0, 0, 0, 0, .null), (42, 1, .iconst 4, 0, 0, 0, .int (4)), (43, 3, .invokevirtual 211, 162, 2, 32, .null), (46, 1, .aload_n 0, 0, 0, 0, .null), (47, 3, .getfield 148, 8, 8, 0, .null), (50, 1, .istore_n 3, 3, 0, 0, .null), (51, 1, .aload_n 0, 0, 0, 0, .null), (52, 3, .getfield 164, 8, 2, 0, .null), (55, 3, .ifCond .ne 7, 62, 0, 0, .null), (58, 1, .aload_n 0, 0, 0, 0, .null), (59, 3, .invokevirtual 214, 161, 1, 32, .null), (62, 1, .iload_n 3, 3, 0, 0, .null), (63, 1, .ireturn, 0, 0, 0, .null)]
def kX8_told : List zE := [(0, 1, .aload_n 0, 0, 0, 0, .null), (1, 1, .lload_n 1, 1, 0, 0, .null), (2, 3, .invokevirtual 217, 166, 2, 32, .null), (5, 1, .aload_n 0, 0, 0, 0, .null), (6, 1, .iload_n 3, 3, 0, 0, .null), (7, 2, .iload 4, 4, 0, 0, .null), (9, 3, .invokevirtual 221, 167, 3, 33, .null), (12, 1, .ireturn, 0, 0, 0, .null)]
def kX8_find : List zE := [(0, 1, .iconst (-1), 0, 0, 0, .int (-1)), (1, 1, .istore_n 3, 3, 0, 0, .null), (2, 1, .iconst 0, 0, 0, 0, .int (0)), (3, 2, .istore 4, 4, 0, 0, .null), (5, 2, .iload 4, 4, 0, 0, .null), (7, 1, .iload_n 2, 2, 0, 0, .null), (8, 3, .if_icmp .ge 33, 41, 0, 0, .null), (11, 1, .aload_n 0, 0, 0, 0, .null), (12, 3, .getfield 17, 8, 10, 4, .null), (15, 1, .iload_n 1, 1, 0, 0, .null), (16, 2, .iload 4, 4, 0, 0, .null), (18, 1, .iadd, 0, 0, 0, .null), (19, 1, .laload, 0, 0, 0, .null), (20, 1, .aload_n 0, 0, 0, 0, .null), (21, 3, .getfield 144, 8, 9, 3, .null), (24, 1, .lcmp, 0, 0, 0, .null), (25, 3, .ifCond .ne 8, 33, 0, 0, .null), (28, 2, .iload 4, 4, 0, 0, .null), (30, 3, .goto 4, 34, 0, 0, .null), (33, 1, .iload_n 3, 3, 0, 0, .null), (34, 1, .istore_n 3, 3, 0, 0, .null), (35, 3, .iinc 4 1, 4, 0, 0, .int (1)), (38, 3, .goto (-33), 5, 0, 0, .null), (41, 1, .iload_n 3, 3, 0, 0, .null), (42, 1, .ireturn, 0, 0, 0, .null)]
def kX8_newName : List zE := [(0, 1, .aload_n 0, 0, 0, 0, .null), (1, 3, .invokevirtual 214, 161, 1, 32, .null), (4, 1, .aload_n 0, 0, 0, 0, .null), (5, 3, .invokevirtual 225, 165, 1, 33, .null), (8, 3, .ifCond .ne 11, 19, 0, 0, .null), (11, 1, .aload_n 0, 0, 0, 0, .null), (12, 1, .iconst 2, 0, 0, 0, .int (2)), (13, 3, .invokevirtual 211, 162, 2, 32, .null), (16, 3, .goto 17, 33, 0, 0, .null), (19, 1, .aload_n 0, 0, 0, 0, .null), (20, 1, .iload_n 1, 1, 0, 0, .null), (21, 1, .iload_n 2, 2, 0, 0, .null), (22, 3, .invokevirtual 228, 169, 3, 33, .null), (25, 3, .ifCond .lt 8, 33, 0, 0, .null), (28, 1, .aload_n 0, 0, 0, 0, .null), (29, 1, .iconst 3, 0, 0, 0, .int (3)), (30, 3, .invokevirtual 211, 162, 2, 32, .null), (33, 1, .aload_n 0, 0, 0, 0, .null), (34, 3, .getfield 164, 8, 2, 0, .null), (37, 3, .ifCond .le 4, 41, 0, 0, .null), (40, 1, .return_, 0, 0, 0, .null), (41, 1, .aload_n 0, 0, 0, 0, .null), (42, 3, .getfield 17, 8, 10, 4, .null), (45, 1, .iload_n 1, 1, 0, 0, .null), (46, 1, .iload_n 2, 2, 0, 0, .null), (47, 1, .iadd, 0, 0, 0, .null), (48, 1, .aload_n 0, 0, 0, 0, .null), (49, 3, .getfield 144, 8, 9, 3, .null), (52, 1, .lastore, 0, 0, 0, .null), (53, 1, .aload_n 0, 0, 0, 0, .null), (54, 3, .invokevirtual 214, 161, 1, 32, .null), (57, 1, .return_, 0, 0, 0, .null)]
def kX8_add : List zE := [(0, 1, .aload_n 0, 0, 0, 0, .null), (1, 3, .getfield 21, 8, 11, 4, .null), (4, 1, .aload_n 0, 0, 0, 0, .null), (5, 3, .getfield 231, 8, 17, 0, .null), (8, 1, .iload_n 1, 1, 0, 0, .null), (9, 1, .iastore, 0, 0, 0, .null), (10, 1, .aload_n 0, 0, 0, 0, .null), (11, 3, .getfield 24, 8, 12, 4, .null), (14, 1, .aload_n 0, 0, 0, 0, .null), (15, 3, .getfield 231, 8, 17, 0, .null), (18, 1, .iload_n 2, 2, 0, 0, .null), (19, 1, .iastore, 0, 0, 0, .null), (20, 1, .aload_n 0, 0, 0, 0, .null), (21, 1, .dup, 0, 0, 0, .null), (22, 3, .getfield 231, 8, 17, 0, .null), (25, 1, .iconst 1, 0, 0, 0, .int (1)), (26, 1, .iadd, 0, 0, 0, .null), (27, 3, .putfield 231, 8, 17, 0, .null), (30, 1, .return_, 0, 0, 0, .null)]
def kX8_tight : List zE := [(0, 1, .iload_n 0, 0, 0, 0, .null), (1, 75, .lookupswitch 85 #[(21, 79), (38, 77), (43, 83), (45, 83), (60, 81), (61, 81), (62, 81), (124, 75)], 0, 0, 0, .null), (76, 1, .iconst 1, 0, 0, 0, .int (1)), (77, 1, .ireturn, 0, 0, 0, .null), (78, 1, .iconst 2, 0, 0, 0, .int (2)), (79, 1, .ireturn, 0, 0, 0, .null), (80, 1, .iconst 3, 0, 0, 0, .int (3)), (81, 1, .ireturn, 0, 0, 0, .null), (82, 1, .iconst 4, 0, 0, 0, .int (4)), (83, 1, .ireturn, 0, 0, 0, .null), (84, 1, .iconst 5, 0, 0, 0, .int (5)), (85, 1, .ireturn, 0, 0, 0, .null), (86, 2, .bipush 6, 0, 0, 0, .int (6)), (88, 1, .ireturn, 0, 0, 0, .null)]
def kX8_close : List zE := [(0, 1, .aload_n 0, 0, 0, 0, .null), (1, 3, .getfield 234, 8, 19, 0, .null), (4, 3, .ifCond .le 97, 101, 0, 0, .null), (7, 1, .aload_n 0, 0, 0, 0, .null), (8, 3, .getfield 33, 8, 15, 4, .null), (11, 1, .aload_n 0, 0, 0, 0, .null), (12, 3, .getfield 234, 8, 19, 0, .null), (15, 1, .iconst 1, 0, 0, 0, .int (1)), (16, 1, .isub, 0, 0, 0, .null), (17, 1, .iaload, 0, 0, 0, .null), (18, 2, .bipush 20, 0, 0, 0, .int (20)), (20, 3, .if_icmp .eq 81, 101, 0, 0, .null), (23, 1, .aload_n 0, 0, 0, 0, .null), (24, 3, .getfield 33, 8, 15, 4, .null), (27, 1, .aload_n 0, 0, 0, 0, .null), (28, 3, .getfield 234, 8, 19, 0, .null), (31, 1, .iconst 1, 0, 0, 0, .int (1)), (32, 1, .isub, 0, 0, 0, .null), (33, 1, .iaload, 0, 0, 0, .null), (34, 3, .invokestatic 237, 172, 1, 1, .null), (37, 1, .iload_n 1, 1, 0, 0, .null), (38, 3, .if_icmp .lt 63, 101, 0, 0, .null), (41, 1, .aload_n 0, 0, 0, 0, .null), (42, 1, .dup, 0, 0, 0, .null), (43, 3, .getfield 234, 8, 19, 0, .null), (46, 1, .iconst 1, 0, 0, 0, .int (1)), (47, 1, .isub, 0, 0, 0, .null), (48, 3, .putfield 234, 8, 19, 0, .null), (51, 1, .aload_n 0, 0, 0, 0, .null), (52, 3, .getfield 33, 8, 15, 4, .null), (55, 1, .aload_n 0, 0, 0, 0, .null), (56, 3, .getfield 234, 8, 19, 0, .null), (59, 1, .iaload, 0, 0, 0, .null), (60, 2, .bipush 21, 0, 0, 0, .int (21)), (62, 3, .if_icmp .ne 22, 84, 0, 0, .null), (65, 1, .aload_n 0, 0, 0, 0, .null), (66, 1, .iconst 2, 0, 0, 0, .int (2)), (67, 1, .iconst 0, 0, 0, 0, .int (0)), (68, 3, .invokevirtual 240, 171, 3, 32, .null), (71, 1, .aload_n 0, 0, 0, 0, .null), (72, 1, .dup, 0, 0, 0, .null), (73, 3, .getfield 244, 8, 23, 0, .null), (76, 1, .iconst 1, 0, 0, 0, .int (1)), (77, 1, .isub, 0, 0, 0, .null), (78, 3, .putfield 244, 8, 23, 0, .null), (81, 3, .goto (-81), 0, 0, 0, .null), (84, 1, .aload_n 0, 0, 0, 0, .null), (85, 1, .iconst 3, 0, 0, 0, .int (3)), (86, 1, .aload_n 0, 0, 0, 0, .null), (87, 3, .getfield 33, 8, 15, 4, .null), (90, 1, .aload_n 0, 0, 0, 0, .null), (91, 3, .getfield 234, 8, 19, 0, .null), (94, 1, .iaload, 0, 0, 0, .null), (95, 3, .invokevirtual 240, 171, 3, 32, .null), (98, 3, .goto (-98), 0, 0, 0, .null), (101, 1, .return_, 0, 0, 0, .null)]
def kX8_hasRelation : List zE := [(0, 1, .aload_n 0, 0, 0, 0, .null), (1, 3, .getfield 234, 8, 19, 0, .null), (4, 1, .iconst 1, 0, 0, 0, .int (1)), (5, 1, .isub, 0, 0, 0, .null), (6, 1, .istore_n 1, 1, 0, 0, .null), (7, 1, .iload_n 1, 1, 0, 0, .null), (8, 3, .ifCond .lt 33, 41, 0, 0, .null), (11, 1, .aload_n 0, 0, 0, 0, .null), (12, 3, .getfield 33, 8, 15, 4, .null), (15, 1, .iload_n 1, 1, 0, 0, .null), (16, 1, .iaload, 0, 0, 0, .null), (17, 2, .bipush 20, 0, 0, 0, .int (20)), (19, 3, .if_icmp .eq 22, 41, 0, 0, .null), (22, 1, .aload_n 0, 0, 0, 0, .null), (23, 3, .getfield 33, 8, 15, 4, .null), (26, 1, .iload_n 1, 1, 0, 0, .null), (27, 1, .iaload, 0, 0, 0, .null), (28, 3, .invokestatic 237, 172, 1, 1, .null), (31, 1, .iconst 4, 0, 0, 0, .int (4)), (32, 3, .if_icmp .le 9, 41, 0, 0, .null), (35, 3, .iinc 1 (-1), 1, 0, 0, .int (-1)), (38, 3, .goto (-31), 7, 0, 0, .null), (41, 1, .iload_n 1, 1, 0, 0, .null), (42, 3, .ifCond .lt 31, 73, 0, 0, .null), (45, 1, .aload_n 0, 0, 0, 0, .null), (46, 3, .getfield 33, 8, 15, 4, .null), (49, 1, .iload_n 1, 1, 0, 0, .null), (50, 1, .iaload, 0, 0, 0, .null), (51, 2, .bipush 20, 0, 0, 0, .int (20)), (53, 3, .if_icmp .eq 20, 73, 0, 0, .null), (56, 1, .aload_n 0, 0, 0, 0, .null), (57, 3, .getfield 33, 8, 15, 4, .null), (60, 1, .iload_n 1, 1, 0, 0, .null), (61, 1, .iaload, 0, 0, 0, .null), (62, 3, .invokestatic 237, 172, 1, 1, .null), (65, 1, .iconst 4, 0, 0, 0, .int (4)), (66, 3, .if_icmp .ne 7, 73, 0, 0, .null), (69, 1, .iconst 1, 0, 0, 0, .int (1)), (70, 3, .goto 4, 74, 0, 0, .null), (73, 1, .iconst 0, 0, 0, 0, .int (0)), (74, 1, .ireturn, 0, 0, 2, .null)]
def kX8_mayNot : List zE := [(0, 1, .aload_n 0, 0, 0, 0, .null), (1, 3, .getfield 234, 8, 19, 0, .null), (4, 3, .ifCond .eq 37, 41, 0, 0, .null), (7, 1, .aload_n 0, 0, 0, 0, .null), (8, 3, .getfield 33, 8, 15, 4, .null), (11, 1, .aload_n 0, 0, 0, 0, .null), (12, 3, .getfield 234, 8, 19, 0, .null), (15, 1, .iconst 1, 0, 0, 0, .int (1)), (16, 1, .isub, 0, 0, 0, .null), (17, 1, .iaload, 0, 0, 0, .null), (18, 2, .bipush 20, 0, 0, 0, .int (20)), (20, 3, .if_icmp .eq 21, 41, 0, 0, .null), (23, 1, .aload_n 0, 0, 0, 0, .null), (24, 3, .getfield 33, 8, 15, 4, .null), (27, 1, .aload_n 0, 0, 0, 0, .null), (28, 3, .getfield 234, 8, 19, 0, .null), (31, 1, .iconst 1, 0, 0, 0, .int (1)), (32, 1, .isub, 0, 0, 0, .null), (33, 1, .iaload, 0, 0, 0, .null), (34, 3, .invokestatic 237, 172, 1, 1, .null), (37, 1, .iconst 4, 0, 0, 0, .int (4)), (38, 3, .if_icmp .ge 7, 45, 0, 0, .null), (41, 1, .iconst 1, 0, 0, 0, .int (1)), (42, 3, .goto 4, 46, 0, 0, .null), (45, 1, .iconst 0, 0, 0, 0, .int (0)), (46, 1, .ireturn, 0, 0, 2, .null)]
def kX8_asked : List zE := [(0, 1, .aload_n 0, 0, 0, 0, .null), (1, 3, .getfield 151, 8, 6, 0, .null), (4, 1, .iconst 1, 0, 0, 0, .int (1)), (5, 3, .if_icmp .eq 5, 10, 0, 0, .null), (8, 1, .iconst (-1), 0, 0, 0, .int (-1)), (9, 1, .ireturn, 0, 0, 0, .null), (10, 1, .aload_n 0, 0, 0, 0, .null), (11, 3, .getfield 144, 8, 9, 3, .null), (14, 3, .ldc2_w 179, 0, 0, 0, .long (495672455792)), (17, 1, .lcmp, 0, 0, 0, .null), (18, 3, .ifCond .ne 5, 23, 0, 0, .null), (21, 1, .iconst 0, 0, 0, 0, .int (0)), (22, 1, .ireturn, 0, 0, 0, .null), (23, 1, .aload_n 0, 0, 0, 0, .null), (24, 3, .getfield 144, 8, 9, 3, .null), (27, 3, .ldc2_w 173, 0, 0, 0, .long (469920277619)), (30, 1, .lcmp, 0, 0, 0, .null), (31, 3, .ifCond .ne 5, 36, 0, 0, .null), (34, 1, .iconst 1, 0, 0, 0, .int (1)), (35, 1, .ireturn, 0, 0, 0, .null), (36, 1, .aload_n 0, 0, 0, 0, .null), (37, 3, .getfield 144, 8, 9, 3, .null), (40, 3, .ldc2_w 175, 0, 0, 0, .long (508676040051)), (43, 1, .lcmp, 0, 0, 0, .null), (44, 3, .ifCond .ne 5, 49, 0, 0, .null), (47, 1, .iconst 2, 0, 0, 0, .int (2)), (48, 1, .ireturn, 0, 0, 0, .null), (49, 1, .aload_n 0, 0, 0, 0, .null), (50, 3, .getfield 144, 8, 9, 3, .null), (53, 3, .ldc2_w 191, 0, 0, 0, .long (474316301160)), (56, 1, .lcmp, 0, 0, 0, .null), (57, 3, .ifCond .ne 5, 62, 0, 0, .null), (60, 1, .iconst 3, 0, 0, 0, .int (3)), (61, 1, .ireturn, 0, 0, 0, .null), (62, 1, .aload_n 0, 0, 0, 0, .null), (63, 3, .getfield 144, 8, 9, 3, .null), (66, 3, .ldc2_w 193, 0, 0, 0, .long (28817565927698023)), (69, 1, .lcmp, 0, 0, 0, .null), (70, 3, .ifCond .ne 5, 75, 0, 0, .null), (73, 1, .iconst 4, 0, 0, 0, .int (4)), (74, 1, .ireturn, 0, 0, 0, .null), (75, 1, .aload_n 0, 0, 0, 0, .null), (76, 3, .getfield 144, 8, 9, 3, .null), (79, 3, .ldc2_w 195, 0, 0, 0, .long (1919246692)), (82, 1, .lcmp, 0, 0, 0, .null), (83, 3, .ifCond .ne 7, 90, 0, 0, .null), (86, 1, .iconst 5, 0, 0, 0, .int (5)), (87, 3, .goto 4, 91, 0, 0, .null), (90, 1, .iconst (-1), 0, 0, 0, .int (-1)), (91, 1, .ireturn, 0, 0, 0, .null)]
def kX8_isFull : List zE := [(0, 1, .aload_n 0, 0, 0, 0, .null), (1, 3, .getfield 247, 8, 20, 0, .null), (4, 2, .bipush 60, 0, 0, 0, .int (60)), (6, 3, .if_icmp .eq 12, 18, 0, 0, .null), (9, 1, .aload_n 0, 0, 0, 0, .null), (10, 3, .getfield 250, 8, 22, 0, .null), (13, 2, .bipush 30, 0, 0, 0, .int (30)), (15, 3, .if_icmp .ne 7, 22, 0, 0, .null), (18, 1, .iconst 1, 0, 0, 0, .int (1)), (19, 3, .goto 4, 23, 0, 0, .null), (22, 1, .iconst 0, 0, 0, 0, .int (0)), (23, 1, .ireturn, 0, 0, 2, .null)]
def kX8_countUnit : List zE := [(0, 1, .aload_n 0, 0, 0, 0, .null), (1, 1, .dup, 0, 0, 0, .null), (2, 3, .getfield 247, 8, 20, 0, .null), (5, 1, .iconst 1, 0, 0, 0, .int (1)), (6, 1, .iadd, 0, 0, 0, .null), (7, 3, .putfield 247, 8, 20, 0, .null), (10, 1, .aload_n 0, 0, 0, 0, .null), (11, 1, .dup, 0, 0, 0, .null), (12, 3, .getfield 250, 8, 22, 0, .null), (15, 1, .iconst 1, 0, 0, 0, .int (1)), (16, 1, .iadd, 0, 0, 0, .null), (17, 3, .putfield 250, 8, 22, 0, .null), (20, 1, .return_, 0, 0, 0, .null)]
def kX8_openUp : List zE := [(0, 1, .aload_n 0, 0, 0, 0, .null), (1, 3, .getfield 33, 8, 15, 4, .null), (4, 1, .aload_n 0, 0, 0, 0, .null), (5, 3, .getfield 234, 8, 19, 0, .null), (8, 1, .iload_n 1, 1, 0, 0, .null), (9, 1, .iastore, 0, 0, 0, .null), (10, 1, .aload_n 0, 0, 0, 0, .null), (11, 1, .dup, 0, 0, 0, .null), (12, 3, .getfield 234, 8, 19, 0, .null), (15, 1, .iconst 1, 0, 0, 0, .int (1)), (16, 1, .iadd, 0, 0, 0, .null), (17, 3, .putfield 234, 8, 19, 0, .null), (20, 1, .aload_n 0, 0, 0, 0, .null), (21, 1, .dup, 0, 0, 0, .null), (22, 3, .getfield 244, 8, 23, 0, .null), (25, 1, .iconst 1, 0, 0, 0, .int (1)), (26, 1, .iadd, 0, 0, 0, .null), (27, 3, .putfield 244, 8, 23, 0, .null), (30, 1, .aload_n 0, 0, 0, 0, .null), (31, 3, .getfield 164, 8, 2, 0, .null), (34, 3, .ifCond .ne 7, 41, 0, 0, .null), (37, 1, .aload_n 0, 0, 0, 0, .null), (38, 3, .invokevirtual 214, 161, 1, 32, .null), (41, 1, .return_, 0, 0, 0, .null)]
def kX8_unit : List zE := [(0, 1, .iconst 1, 0, 0, 0, .int (1)), (1, 1, .istore_n 1, 1, 0, 0, .null), (2, 1, .iload_n 1, 1, 0, 0, .null), (3, 3, .ifCond .eq 98, 101, 0, 0, .null), (6, 1, .aload_n 0, 0, 0, 0, .null), (7, 3, .getfield 164, 8, 2, 0, .null), (10, 3, .ifCond .ne 91, 101, 0, 0, .null), (13, 1, .aload_n 0, 0, 0, 0, .null), (14, 3, .ldc2_w 201, 0, 0, 0, .long (7237492)), (17, 3, .invokevirtual 207, 163, 2, 33, .null), (20, 3, .ifCond .eq 33, 53, 0, 0, .null), (23, 1, .aload_n 0, 0, 0, 0, .null), (24, 3, .invokevirtual 253, 175, 1, 33, .null), (27, 3, .ifCond .eq 26, 53, 0, 0, .null), (30, 1, .aload_n 0, 0, 0, 0, .null), (31, 3, .getfield 244, 8, 23, 0, .null), (34, 2, .bipush 6, 0, 0, 0, .int (6)), (36, 3, .if_icmp .le 8, 44, 0, 0, .null), (39, 1, .aload_n 0, 0, 0, 0, .null), (40, 1, .iconst 2, 0, 0, 0, .int (2)), (41, 3, .invokevirtual 211, 162, 2, 32, .null), (44, 1, .aload_n 0, 0, 0, 0, .null), (45, 2, .bipush 21, 0, 0, 0, .int (21)), (47, 3, .invokevirtual 256, 179, 2, 32, .null), (50, 3, .goto (-48), 2, 0, 0, .null), (53, 1, .aload_n 0, 0, 0, 0, .null), (54, 3, .getfield 151, 8, 6, 0, .null), (57, 2, .bipush 40, 0, 0, 0, .int (40)), (59, 3, .if_icmp .ne 37, 96, 0, 0, .null), (62, 1, .aload_n 0, 0, 0, 0, .null), (63, 3, .invokevirtual 259, 177, 1, 33, .null), (66, 3, .ifCond .ne 12, 78, 0, 0, .null), (69, 1, .aload_n 0, 0, 0, 0, .null), (70, 3, .getfield 244, 8, 23, 0, .null), (73, 2, .bipush 6, 0, 0, 0, .int (6)), (75, 3, .if_icmp .le 8, 83, 0, 0, .null), (78, 1, .aload_n 0, 0, 0, 0, .null), (79, 1, .iconst 2, 0, 0, 0, .int (2)), (80, 3, .invokevirtual 211, 162, 2, 32, .null), (83, 1, .aload_n 0, 0, 0, 0, .null), (84, 3, .invokevirtual 262, 178, 1, 32, .null), (87, 1, .aload_n 0, 0, 0, 0, .null), (88, 2, .bipush 20, 0, 0, 0, .int (20)), (90, 3, .invokevirtual 256, 179, 2, 32, .null), (93, 3, .goto (-91), 2, 0, 0, .null), (96, 1, .iconst 0, 0, 0, 0, .int (0)), (97, 1, .istore_n 1, 1, 0, 0, .null), (98, 3, .goto (-96), 2, 0, 0, .null), (101, 1, .aload_n 0, 0, 0, 0, .null), (102, 3, .getfield 164, 8, 2, 0, .null), (105, 3, .ifCond .le 4, 109, 0, 0, .null), (108, 1, .return_, 0, 0, 0, .null), (109, 1, .aload_n 0, 0, 0, 0, .null), (110, 3, .invokevirtual 265, 176, 1, 33, .null), (113, 1, .istore_n 2, 2, 0, 0, .null), (114, 1, .aload_n 0, 0, 0, 0, .null), (115, 3, .getfield 151, 8, 6, 0, .null), (118, 1, .iconst 2, 0, 0, 0, .int (2)), (119, 3, .if_icmp .eq 7, 126, 0, 0, .null), (122, 1, .iload_n 2, 2, 0, 0, .null), (123, 3, .ifCond .lt 10, 133, 0, 0, .null), (126, 1, .aload_n 0, 0, 0, 0, .null), (127, 3, .invokevirtual 259, 177, 1, 33, .null), (130, 3, .ifCond .eq 8, 138, 0, 0, .null), (133, 1, .aload_n 0, 0, 0, 0, .null), (134, 1, .iconst 2, 0, 0, 0, .int (2)), (135, 3, .invokevirtual 211, 162, 2, 32, .null), (138, 1, .aload_n 0, 0, 0, 0, .null), (139, 3, .getfield 164, 8, 2, 0, .null), (142, 3, .ifCond .le 4, 146, 0, 0, .null), (145, 1, .return_, 0, 0, 0, .null), (146, 1, .aload_n 0, 0, 0, 0, .null), (147, 3, .invokevirtual 262, 178, 1, 32, .null), (150, 1, .aload_n 0, 0, 0, 0, .null), (151, 1, .iload_n 2, 2, 0, 0, .null), (152, 3, .ifCond .ge 7, 159, 0, 0, .null), (155, 1, .iconst 0, 0, 0, 0, .int (0)), (156, 3, .goto 4, 160, 0, 0, .null), (159, 1, .iconst 1, 0, 0, 0, .int (1)), (160, 1, .iload_n 2, 2, 0, 0, .null), (161, 3, .ifCond .ge 10, 171, 0, 0, .null), (164, 1, .aload_n 0, 0, 0, 0, .null), (165, 3, .getfield 148, 8, 8, 0, .null), (168, 3, .goto 4, 172, 0, 0, .null), (171, 1, .iload_n 2, 2, 0, 0, .null), (172, 3, .invokevirtual 240, 171, 3, 32, .null), (175, 1, .aload_n 0, 0, 0, 0, .null), (176, 3, .invokevirtual 214, 161, 1, 32, .null), (179, 1, .return_, 0, 0, 0, .null)]
def kX8_sign : List zE := [(0, 1, .aload_n 0, 0, 0, 0, .null), (1, 3, .ldc2_w 197, 0, 0, 0, .long (6385252)), (4, 3, .invokevirtual 207, 163, 2, 33, .null), (7, 3, .ifCond .eq 6, 13, 0, 0, .null), (10, 2, .bipush 38, 0, 0, 0, .int (38)), (12, 1, .ireturn, 0, 0, 0, .null), (13, 1, .aload_n 0, 0, 0, 0, .null), (14, 3, .ldc2_w 199, 0, 0, 0, .long (28530)), (17, 3, .invokevirtual 207, 163, 2, 33, .null), (20, 3, .ifCond .eq 6, 26, 0, 0, .null), (23, 2, .bipush 124, 0, 0, 0, .int (124)), (25, 1, .ireturn, 0, 0, 0, .null), (26, 1, .aload_n 0, 0, 0, 0, .null), (27, 3, .getfield 151, 8, 6, 0, .null), (30, 2, .bipush 60, 0, 0, 0, .int (60)), (32, 3, .if_icmp .eq 66, 98, 0, 0, .null), (35, 1, .aload_n 0, 0, 0, 0, .null), (36, 3, .getfield 151, 8, 6, 0, .null), (39, 2, .bipush 62, 0, 0, 0, .int (62)), (41, 3, .if_icmp .eq 57, 98, 0, 0, .null), (44, 1, .aload_n 0, 0, 0, 0, .null), (45, 3, .getfield 151, 8, 6, 0, .null), (48, 2, .bipush 61, 0, 0, 0, .int (61)), (50, 3, .if_icmp .eq 48, 98, 0, 0, .null), (53, 1, .aload_n 0, 0, 0, 0, .null), (54, 3, .getfield 151, 8, 6, 0, .null), (57, 2, .bipush 43, 0, 0, 0, .int (43)), (59, 3, .if_icmp .eq 39, 98, 0, 0, .null), (62, 1, .aload_n 0, 0, 0, 0, .null), (63, 3, .getfield 151, 8, 6, 0, .null), (66, 2, .bipush 45, 0, 0, 0, .int (45)), (68, 3, .if_icmp .eq 30, 98, 0, 0, .null), (71, 1, .aload_n 0, 0, 0, 0, .null), (72, 3, .getfield 151, 8, 6, 0, .null), (75, 2, .bipush 42, 0, 0, 0, .int (42)), (77, 3, .if_icmp .eq 21, 98, 0, 0, .null), (80, 1, .aload_n 0, 0, 0, 0, .null), (81, 3, .getfield 151, 8, 6, 0, .null), (84, 2, .bipush 47, 0, 0, 0, .int (47)), (86, 3, .if_icmp .eq 12, 98, 0, 0, .null), (89, 1, .aload_n 0, 0, 0, 0, .null), (90, 3, .getfield 151, 8, 6, 0, .null), (93, 2, .bipush 37, 0, 0, 0, .int (37)), (95, 3, .if_icmp .ne 10, 105, 0, 0, .null), (98, 1, .aload_n 0, 0, 0, 0, .null), (99, 3, .getfield 151, 8, 6, 0, .null), (102, 3, .goto 4, 106, 0, 0, .null), (105, 1, .iconst 0, 0, 0, 0, .int (0)), (106, 1, .ireturn, 0, 0, 0, .null)]
def kX8_hasBracket : List zE := [(0, 1, .iconst 0, 0, 0, 0, .int (0)), (1, 1, .istore_n 1, 1, 0, 0, .null), (2, 1, .iconst 0, 0, 0, 0, .int (0)), (3, 1, .istore_n 2, 2, 0, 0, .null), (4, 1, .iload_n 2, 2, 0, 0, .null), (5, 1, .aload_n 0, 0, 0, 0, .null), (6, 3, .getfield 234, 8, 19, 0, .null), (9, 3, .if_icmp .ge 30, 39, 0, 0, .null), (12, 1, .iload_n 1, 1, 0, 0, .null), (13, 3, .ifCond .ne 14, 27, 0, 0, .null), (16, 1, .aload_n 0, 0, 0, 0, .null), (17, 3, .getfield 33, 8, 15, 4, .null), (20, 1, .iload_n 2, 2, 0, 0, .null), (21, 1, .iaload, 0, 0, 0, .null), (22, 2, .bipush 20, 0, 0, 0, .int (20)), (24, 3, .if_icmp .ne 7, 31, 0, 0, .null), (27, 1, .iconst 1, 0, 0, 0, .int (1)), (28, 3, .goto 4, 32, 0, 0, .null), (31, 1, .iconst 0, 0, 0, 0, .int (0)), (32, 1, .istore_n 1, 1, 0, 0, .null), (33, 3, .iinc 2 1, 2, 0, 0, .int (1)), (36, 3, .goto (-32), 4, 0, 0, .null), (39, 1, .iload_n 1, 1, 0, 0, .null), (40, 1, .ireturn, 0, 0, 2, .null)]
def kX8_formula : List zE := [(0, 1, .aload_n 0, 0, 0, 0, .null), (1, 3, .invokevirtual 214, 161, 1, 32, .null), (4, 1, .aload_n 0, 0, 0, 0, .null), (5, 1, .iconst 1, 0, 0, 0, .int (1)), (6, 3, .putfield 269, 8, 24, 2, .null), (9, 1, .aload_n 0, 0, 0, 0, .null), (10, 1, .iconst 0, 0, 0, 0, .int (0)), (11, 3, .putfield 231, 8, 17, 0, .null), (14, 1, .aload_n 0, 0, 0, 0, .null), (15, 1, .iconst 0, 0, 0, 0, .int (0)), (16, 3, .putfield 234, 8, 19, 0, .null), (19, 1, .aload_n 0, 0, 0, 0, .null), (20, 1, .iconst 0, 0, 0, 0, .int (0)), (21, 3, .putfield 244, 8, 23, 0, .null), (24, 1, .aload_n 0, 0, 0, 0, .null), (25, 1, .iconst 0, 0, 0, 0, .int (0)), (26, 3, .putfield 250, 8, 22, 0, .null), (29, 1, .aload_n 0, 0, 0, 0, .null), (30, 3, .invokevirtual 273, 180, 1, 32, .null), (33, 1, .iconst 1, 0, 0, 0, .int (1)), (34, 1, .istore_n 1, 1, 0, 0, .null), (35, 1, .iload_n 1, 1, 0, 0, .null), (36, 3, .ifCond .eq 126, 162, 0, 0, .null), (39, 1, .aload_n 0, 0, 0, 0, .null), (40, 3, .getfield 164, 8, 2, 0, .null), (43, 3, .ifCond .ne 119, 162, 0, 0, .null), (46, 1, .aload_n 0, 0, 0, 0, .null), (47, 3, .invokevirtual 276, 181, 1, 33, .null), (50, 1, .istore_n 2, 2, 0, 0, .null), (51, 1, .aload_n 0, 0, 0, 0, .null), (52, 3, .getfield 151, 8, 6, 0, .null), (55, 2, .bipush 41, 0, 0, 0, .int (41)), (57, 3, .if_icmp .ne 42, 99, 0, 0, .null), (60, 1, .aload_n 0, 0, 0, 0, .null), (61, 3, .invokevirtual 279, 182, 1, 33, .null), (64, 3, .ifCond .eq 35, 99, 0, 0, .null), (67, 1, .aload_n 0, 0, 0, 0, .null), (68, 1, .iconst 0, 0, 0, 0, .int (0)), (69, 3, .invokevirtual 282, 173, 2, 32, .null), (72, 1, .aload_n 0, 0, 0, 0, .null), (73, 1, .dup, 0, 0, 0, .null), (74, 3, .getfield 234, 8, 19, 0, .null), (77, 1, .iconst 1, 0, 0, 0, .int (1)), (78, 1, .isub, 0, 0, 0, .null), (79, 3, .putfield 234, 8, 19, 0, .null), (82, 1, .aload_n 0, 0, 0, 0, .null), (83, 1, .dup, 0, 0, 0, .null), (84, 3, .getfield 244, 8, 23, 0, .null), (87, 1, .iconst 1, 0, 0, 0, .int (1)), (88, 1, .isub, 0, 0, 0, .null), (89, 3, .putfield 244, 8, 23, 0, .null), (92, 1, .aload_n 0, 0, 0, 0, .null), (93, 3, .invokevirtual 214, 161, 1, 32, .null), (96, 3, .goto 63, 159, 0, 0, .null), (99, 1, .iload_n 2, 2, 0, 0, .null), (100, 3, .ifCond .eq 57, 157, 0, 0, .null), (103, 1, .iload_n 2, 2, 0, 0, .null), (104, 3, .invokestatic 237, 172, 1, 1, .null), (107, 1, .iconst 4, 0, 0, 0, .int (4)), (108, 3, .if_icmp .ne 10, 118, 0, 0, .null), (111, 1, .aload_n 0, 0, 0, 0, .null), (112, 3, .invokevirtual 285, 174, 1, 33, .null), (115, 3, .ifCond .ne 42, 157, 0, 0, .null), (118, 1, .aload_n 0, 0, 0, 0, .null), (119, 1, .iload_n 2, 2, 0, 0, .null), (120, 3, .invokestatic 237, 172, 1, 1, .null), (123, 3, .invokevirtual 282, 173, 2, 32, .null), (126, 1, .aload_n 0, 0, 0, 0, .null), (127, 3, .getfield 33, 8, 15, 4, .null), (130, 1, .aload_n 0, 0, 0, 0, .null), (131, 3, .getfield 234, 8, 19, 0, .null), (134, 1, .iload_n 2, 2, 0, 0, .null), (135, 1, .iastore, 0, 0, 0, .null), (136, 1, .aload_n 0, 0, 0, 0, .null), (137, 1, .dup, 0, 0, 0, .null), (138, 3, .getfield 234, 8, 19, 0, .null), (141, 1, .iconst 1, 0, 0, 0, .int (1)), (142, 1, .iadd, 0, 0, 0, .null), (143, 3, .putfield 234, 8, 19, 0, .null), (146, 1, .aload_n 0, 0, 0, 0, .null), (147, 3, .invokevirtual 214, 161, 1, 32, .null), (150, 1, .aload_n 0, 0, 0, 0, .null), (151, 3, .invokevirtual 273, 180, 1, 32, .null), (154, 3, .goto 5, 159, 0, 0, .null), (157, 1, .iconst 0, 0, 0, 0, .int (0)), (158, 1, .istore_n 1, 1, 0, 0, .null), (159, 3, .goto (-124), 35, 0, 0, .null), (162, 1, .aload_n 0, 0, 0, 0, .null), (163, 3, .getfield 164, 8, 2, 0, .null), (166, 3, .ifCond .ne 15, 181, 0, 0, .null), (169, 1, .aload_n 0, 0, 0, 0, .null), (170, 3, .invokevirtual 279, 182, 1, 33, .null), (173, 3, .ifCond .eq 8, 181, 0, 0, .null), (176, 1, .aload_n 0, 0, 0, 0, .null), (177, 1, .iconst 2, 0, 0, 0, .int (2)), (178, 3, .invokevirtual 211, 162, 2, 32, .null), (181, 1, .aload_n 0, 0, 0, 0, .null), (182, 3, .getfield 164, 8, 2, 0, .null), (185, 3, .ifCond .ne 8, 193, 0, 0, .null), (188, 1, .aload_n 0, 0, 0, 0, .null), (189, 1, .iconst 0, 0, 0, 0, .int (0)), (190, 3, .invokevirtual 282, 173, 2, 32, .null), (193, 1, .return_, 0, 0, 0, .null)]
def kX8_truth : List zE := [(0, 1, .iload_n 0, 0, 0, 0, .null), (1, 3, .ifCond .eq 7, 8, 0, 0, .null), (4, 1, .iconst 1, 0, 0, 0, .int (1)), (5, 3, .goto 4, 9, 0, 0, .null), (8, 1, .iconst 0, 0, 0, 0, .int (0)), (9, 1, .ireturn, 0, 0, 0, .null)]
def kX8_done : List zE := [(0, 1, .iload_n 0, 0, 0, 0, .null), (1, 119, .tableswitch 214 37 62 #[143, 197, 214, 214, 214, 127, 119, 214, 123, 214, 131, 214, 214, 214, 214, 214, 214, 214, 214, 214, 214, 214, 214, 155, 183, 169], 0, 0, 0, .null), (120, 1, .iload_n 1, 1, 0, 0, .null), (121, 1, .iload_n 2, 2, 0, 0, .null), (122, 1, .iadd, 0, 0, 0, .null), (123, 1, .ireturn, 0, 0, 0, .null), (124, 1, .iload_n 1, 1, 0, 0, .null), (125, 1, .iload_n 2, 2, 0, 0, .null), (126, 1, .isub, 0, 0, 0, .null), (127, 1, .ireturn, 0, 0, 0, .null), (128, 1, .iload_n 1, 1, 0, 0, .null), (129, 1, .iload_n 2, 2, 0, 0, .null), (130, 1, .imul, 0, 0, 0, .null), (131, 1, .ireturn, 0, 0, 0, .null), (132, 1, .iload_n 2, 2, 0, 0, .null), (133, 3, .ifCond .ne 7, 140, 0, 0, .null), (136, 1, .iconst 0, 0, 0, 0, .int (0)), (137, 3, .goto 6, 143, 0, 0, .null), (140, 1, .iload_n 1, 1, 0, 0, .null), (141, 1, .iload_n 2, 2, 0, 0, .null), (142, 1, .idiv, 0, 0, 0, .null), (143, 1, .ireturn, 0, 0, 0, .null), (144, 1, .iload_n 2, 2, 0, 0, .null), (145, 3, .ifCond .ne 7, 152, 0, 0, .null), (148, 1, .iconst 0, 0, 0, 0, .int (0)), (149, 3, .goto 6, 155, 0, 0, .null), (152, 1, .iload_n 1, 1, 0, 0, .null), (153, 1, .iload_n 2, 2, 0, 0, .null), (154, 1, .irem, 0, 0, 0, .null), (155, 1, .ireturn, 0, 0, 0, .null), (156, 1, .iload_n 1, 1, 0, 0, .null), (157, 1, .iload_n 2, 2, 0, 0, .null), (158, 3, .if_icmp .ge 7, 165, 0, 0, .null), (161, 1, .iconst 1, 0, 0, 0, .int (1)), (162, 3, .goto 4, 166, 0, 0, .null), (165, 1, .iconst 0, 0, 0, 0, .int (0)), (166, 3, .invokestatic 288, 184, 1, 1, .null), (169, 1, .ireturn, 0, 0, 0, .null), (170, 1, .iload_n 1, 1, 0, 0, .null), (171, 1, .iload_n 2, 2, 0, 0, .null), (172, 3, .if_icmp .le 7, 179, 0, 0, .null), (175, 1, .iconst 1, 0, 0, 0, .int (1)), (176, 3, .goto 4, 180, 0, 0, .null), (179, 1, .iconst 0, 0, 0, 0, .int (0)), (180, 3, .invokestatic 288, 184, 1, 1, .null), (183, 1, .ireturn, 0, 0, 0, .null), (184, 1, .iload_n 1, 1, 0, 0, .null), (185, 1, .iload_n 2, 2, 0, 0, .null), (186, 3, .if_icmp .ne 7, 193, 0, 0, .null), (189, 1, .iconst 1, 0, 0, 0, .int (1)), (190, 3, .goto 4, 194, 0, 0, .null), (193, 1, .iconst 0, 0, 0, 0, .int (0)), (194, 3, .invokestatic 288, 184, 1, 1, .null), (197, 1, .ireturn, 0, 0, 0, .null), (198, 1, .iload_n 1, 1, 0, 0, .null), (199, 3, .ifCond .eq 11, 210, 0, 0, .null), (202, 1, .iload_n 2, 2, 0, 0, .null), (203, 3, .ifCond .eq 7, 210, 0, 0, .null), (206, 1, .iconst 1, 0, 0, 0, .int (1)), (207, 3, .goto 4, 211, 0, 0, .null), (210, 1, .iconst 0, 0, 0, 0, .int (0)), (211, 3, .invokestatic 288, 184, 1, 1, .null), (214, 1, .ireturn, 0, 0, 0, .null), (215, 1, .iload_n 1, 1, 0, 0, .null), (216, 3, .ifCond .ne 7, 223, 0, 0, .null), (219, 1, .iload_n 2, 2, 0, 0, .null), (220, 3, .ifCond .eq 7, 227, 0, 0, .null), (223, 1, .iconst 1, 0, 0, 0, .int (1)), (224, 3, .goto 4, 228, 0, 0, .null), (227, 1, .iconst 0, 0, 0, 0, .int (0)), (228, 3, .invokestatic 288, 184, 1, 1, .null), (231, 1, .ireturn, 0, 0, 0, .null)]
def kX8_within : List zE := [(0, 1, .iload_n 0, 0, 0, 0, .null), (1, 1, .iload_n 1, 1, 0, 0, .null), (2, 3, .if_icmp .ge 7, 9, 0, 0, .null), (5, 1, .iload_n 1, 1, 0, 0, .null), (6, 3, .goto 13, 19, 0, 0, .null), (9, 1, .iload_n 0, 0, 0, 0, .null), (10, 1, .iload_n 2, 2, 0, 0, .null), (11, 3, .if_icmp .le 7, 18, 0, 0, .null), (14, 1, .iload_n 2, 2, 0, 0, .null), (15, 3, .goto 4, 19, 0, 0, .null), (18, 1, .iload_n 0, 0, 0, 0, .null), (19, 1, .ireturn, 0, 0, 0, .null)]
def kX8_lesser : List zE := [(0, 1, .iload_n 0, 0, 0, 0, .null), (1, 1, .iload_n 1, 1, 0, 0, .null), (2, 3, .if_icmp .ge 7, 9, 0, 0, .null), (5, 1, .iload_n 0, 0, 0, 0, .null), (6, 3, .goto 4, 10, 0, 0, .null), (9, 1, .iload_n 1, 1, 0, 0, .null), (10, 1, .ireturn, 0, 0, 0, .null)]
def kX8_greater : List zE := [(0, 1, .iload_n 0, 0, 0, 0, .null), (1, 1, .iload_n 1, 1, 0, 0, .null), (2, 3, .if_icmp .le 7, 9, 0, 0, .null), (5, 1, .iload_n 0, 0, 0, 0, .null), (6, 3, .goto 4, 10, 0, 0, .null), (9, 1, .iload_n 1, 1, 0, 0, .null), (10, 1, .ireturn, 0, 0, 0, .null)]
def kX8_members : List zE := [(0, 1, .iconst 0, 0, 0, 0, .int (0)), (1, 1, .istore_n 1, 1, 0, 0, .null), (2, 1, .iconst 0, 0, 0, 0, .int (0)), (3, 1, .istore_n 2, 2, 0, 0, .null), (4, 1, .iload_n 2, 2, 0, 0, .null), (5, 2, .bipush 7, 0, 0, 0, .int (7)), (7, 3, .if_icmp .ge 17, 24, 0, 0, .null), (10, 1, .iload_n 1, 1, 0, 0, .null), (11, 1, .iload_n 0, 0, 0, 0, .null), (12, 1, .iload_n 2, 2, 0, 0, .null), (13, 1, .ishr, 0, 0, 0, .null), (14, 1, .iconst 1, 0, 0, 0, .int (1)), (15, 1, .iand, 0, 0, 0, .null), (16, 1, .iadd, 0, 0, 0, .null), (17, 1, .istore_n 1, 1, 0, 0, .null), (18, 3, .iinc 2 1, 2, 0, 0, .int (1)), (21, 3, .goto (-17), 4, 0, 0, .null), (24, 1, .iload_n 1, 1, 0, 0, .null), (25, 1, .ireturn, 0, 0, 0, .null)]
def kX8_windOf : List zE := [(0, 1, .aload_n 0, 0, 0, 0, .null), (1, 3, .getfield 39, 8, 26, 4, .null), (4, 1, .iconst 0, 0, 0, 0, .int (0)), (5, 1, .iload_n 2, 2, 0, 0, .null), (6, 1, .iastore, 0, 0, 0, .null), (7, 1, .aload_n 0, 0, 0, 0, .null), (8, 3, .getfield 39, 8, 26, 4, .null), (11, 1, .iconst 1, 0, 0, 0, .int (1)), (12, 1, .aload_n 0, 0, 0, 0, .null), (13, 3, .getfield 42, 8, 27, 0, .null), (16, 3, .ifCond .ge 12, 28, 0, 0, .null), (19, 1, .aload_n 0, 0, 0, 0, .null), (20, 3, .getfield 54, 8, 31, 4, .null), (23, 1, .iload_n 1, 1, 0, 0, .null), (24, 1, .iaload, 0, 0, 0, .null), (25, 3, .goto 7, 32, 0, 0, .null), (28, 1, .aload_n 0, 0, 0, 0, .null), (29, 3, .getfield 42, 8, 27, 0, .null), (32, 1, .iastore, 0, 0, 0, .null), (33, 1, .aload_n 0, 0, 0, 0, .null), (34, 3, .getfield 39, 8, 26, 4, .null), (37, 1, .iconst 2, 0, 0, 0, .int (2)), (38, 1, .aload_n 0, 0, 0, 0, .null), (39, 3, .getfield 57, 8, 32, 4, .null), (42, 1, .iload_n 1, 1, 0, 0, .null), (43, 1, .iaload, 0, 0, 0, .null), (44, 1, .iastore, 0, 0, 0, .null), (45, 1, .aload_n 0, 0, 0, 0, .null), (46, 3, .getfield 39, 8, 26, 4, .null), (49, 1, .iconst 3, 0, 0, 0, .int (3)), (50, 1, .iload_n 3, 3, 0, 0, .null), (51, 1, .iastore, 0, 0, 0, .null), (52, 1, .aload_n 0, 0, 0, 0, .null), (53, 3, .getfield 39, 8, 26, 4, .null), (56, 1, .iconst 4, 0, 0, 0, .int (4)), (57, 2, .iload 4, 4, 0, 0, .null), (59, 1, .iastore, 0, 0, 0, .null), (60, 1, .aload_n 0, 0, 0, 0, .null), (61, 3, .getfield 39, 8, 26, 4, .null), (64, 1, .iconst 5, 0, 0, 0, .int (5)), (65, 2, .iload 5, 5, 0, 0, .null), (67, 1, .iastore, 0, 0, 0, .null), (68, 1, .aload_n 0, 0, 0, 0, .null), (69, 3, .getfield 292, 8, 25, 2, .null), (72, 3, .ifCond .ne 31, 103, 0, 0, .null), (75, 1, .aload_n 0, 0, 0, 0, .null), (76, 3, .getfield 39, 8, 26, 4, .null), (79, 1, .iconst 0, 0, 0, 0, .int (0)), (80, 1, .iaload, 0, 0, 0, .null), (81, 1, .aload_n 0, 0, 0, 0, .null), (82, 3, .getfield 39, 8, 26, 4, .null), (85, 1, .iconst 1, 0, 0, 0, .int (1)), (86, 1, .iaload, 0, 0, 0, .null), (87, 1, .iadd, 0, 0, 0, .null), (88, 1, .iconst 3, 0, 0, 0, .int (3)), (89, 1, .idiv, 0, 0, 0, .null), (90, 1, .iconst 2, 0, 0, 0, .int (2)), (91, 2, .iload 4, 4, 0, 0, .null), (93, 1, .imul, 0, 0, 0, .null), (94, 1, .isub, 0, 0, 0, .null), (95, 2, .bipush (-9), 0, 0, 0, .int (-9)), (97, 2, .bipush 9, 0, 0, 0, .int (9)), (99, 3, .invokestatic 295, 186, 3, 1, .null), (102, 1, .ireturn, 0, 0, 0, .null), (103, 1, .iconst 0, 0, 0, 0, .int (0)), (104, 2, .istore 6, 6, 0, 0, .null), (106, 1, .iconst 0, 0, 0, 0, .int (0)), (107, 2, .istore 7, 7, 0, 0, .null), (109, 2, .iload 7, 7, 0, 0, .null), (111, 1, .aload_n 0, 0, 0, 0, .null), (112, 3, .getfield 299, 8, 18, 0, .null), (115, 3, .if_icmp .ge 156, 271, 0, 0, .null), (118, 1, .aload_n 0, 0, 0, 0, .null), (119, 3, .getfield 27, 8, 13, 4, .null), (122, 2, .iload 7, 7, 0, 0, .null), (124, 1, .iaload, 0, 0, 0, .null), (125, 3, .ifCond .eq 14, 139, 0, 0, .null), (128, 1, .aload_n 0, 0, 0, 0, .null), (129, 3, .getfield 27, 8, 13, 4, .null), (132, 2, .iload 7, 7, 0, 0, .null), (134, 1, .iaload, 0, 0, 0, .null), (135, 1, .iconst 1, 0, 0, 0, .int (1)), (136, 3, .if_icmp .ne 48, 184, 0, 0, .null), (139, 1, .aload_n 0, 0, 0, 0, .null), (140, 3, .getfield 36, 8, 16, 4, .null), (143, 2, .iload 6, 6, 0, 0, .null), (145, 1, .aload_n 0, 0, 0, 0, .null), (146, 3, .getfield 27, 8, 13, 4, .null), (149, 2, .iload 7, 7, 0, 0, .null), (151, 1, .iaload, 0, 0, 0, .null), (152, 3, .ifCond .ne 13, 165, 0, 0, .null), (155, 1, .aload_n 0, 0, 0, 0, .null), (156, 3, .getfield 30, 8, 14, 4, .null), (159, 2, .iload 7, 7, 0, 0, .null), (161, 1, .iaload, 0, 0, 0, .null), (162, 3, .goto 15, 177, 0, 0, .null), (165, 1, .aload_n 0, 0, 0, 0, .null), (166, 3, .getfield 39, 8, 26, 4, .null), (169, 1, .aload_n 0, 0, 0, 0, .null), (170, 3, .getfield 30, 8, 14, 4, .null), (173, 2, .iload 7, 7, 0, 0, .null), (175, 1, .iaload, 0, 0, 0, .null), (176, 1, .iaload, 0, 0, 0, .null), (177, 1, .iastore, 0, 0, 0, .null), (178, 3, .iinc 6 1, 6, 0, 0, .int (1)), (181, 3, .goto 84, 265, 0, 0, .null), (184, 1, .aload_n 0, 0, 0, 0, .null), (185, 3, .getfield 27, 8, 13, 4, .null), (188, 2, .iload 7, 7, 0, 0, .null), (190, 1, .iaload, 0, 0, 0, .null), (191, 1, .iconst 2, 0, 0, 0, .int (2)), (192, 3, .if_icmp .ne 35, 227, 0, 0, .null), (195, 1, .aload_n 0, 0, 0, 0, .null), (196, 3, .getfield 36, 8, 16, 4, .null), (199, 2, .iload 6, 6, 0, 0, .null), (201, 1, .iconst 1, 0, 0, 0, .int (1)), (202, 1, .isub, 0, 0, 0, .null), (203, 1, .aload_n 0, 0, 0, 0, .null), (204, 3, .getfield 36, 8, 16, 4, .null), (207, 2, .iload 6, 6, 0, 0, .null), (209, 1, .iconst 1, 0, 0, 0, .int (1)), (210, 1, .isub, 0, 0, 0, .null), (211, 1, .iaload, 0, 0, 0, .null), (212, 3, .ifCond .ne 7, 219, 0, 0, .null), (215, 1, .iconst 1, 0, 0, 0, .int (1)), (216, 3, .goto 4, 220, 0, 0, .null), (219, 1, .iconst 0, 0, 0, 0, .int (0)), (220, 3, .invokestatic 288, 184, 1, 1, .null), (223, 1, .iastore, 0, 0, 0, .null), (224, 3, .goto 41, 265, 0, 0, .null), (227, 3, .iinc 6 (-1), 6, 0, 0, .int (-1)), (230, 1, .aload_n 0, 0, 0, 0, .null), (231, 3, .getfield 36, 8, 16, 4, .null), (234, 2, .iload 6, 6, 0, 0, .null), (236, 1, .iconst 1, 0, 0, 0, .int (1)), (237, 1, .isub, 0, 0, 0, .null), (238, 1, .aload_n 0, 0, 0, 0, .null), (239, 3, .getfield 30, 8, 14, 4, .null), (242, 2, .iload 7, 7, 0, 0, .null), (244, 1, .iaload, 0, 0, 0, .null), (245, 1, .aload_n 0, 0, 0, 0, .null), (246, 3, .getfield 36, 8, 16, 4, .null), (249, 2, .iload 6, 6, 0, 0, .null), (251, 1, .iconst 1, 0, 0, 0, .int (1)), (252, 1, .isub, 0, 0, 0, .null), (253, 1, .iaload, 0, 0, 0, .null), (254, 1, .aload_n 0, 0, 0, 0, .null), (255, 3, .getfield 36, 8, 16, 4, .null), (258, 2, .iload 6, 6, 0, 0, .null), (260, 1, .iaload, 0, 0, 0, .null), (261, 3, .invokestatic 302, 185, 3, 1, .null), (264, 1, .iastore, 0, 0, 0, .null), (265, 3, .iinc 7 1, 7, 0, 0, .int (1)), (268, 3, .goto (-159), 109, 0, 0, .null), (271, 1, .aload_n 0, 0, 0, 0, .null), (272, 3, .getfield 36, 8, 16, 4, .null), (275, 1, .iconst 0, 0, 0, 0, .int (0)), (276, 1, .iaload, 0, 0, 0, .null), (277, 2, .bipush (-9), 0, 0, 0, .int (-9)), (279, 2, .bipush 9, 0, 0, 0, .int (9)), (281, 3, .invokestatic 295, 186, 3, 1, .null), (284, 1, .ireturn, 0, 0, 0, .null)]
def kX8_readMember : List zE := [(0, 1, .aload_n 0, 0, 0, 0, .null), (1, 1, .iconst 0, 0, 0, 0, .int (0)), (2, 1, .aload_n 0, 0, 0, 0, .null), (3, 3, .getfield 305, 8, 34, 0, .null), (6, 3, .invokevirtual 308, 170, 3, 32, .null), (9, 1, .aload_n 0, 0, 0, 0, .null), (10, 3, .getfield 164, 8, 2, 0, .null), (13, 3, .ifCond .le 4, 17, 0, 0, .null), (16, 1, .return_, 0, 0, 0, .null), (17, 1, .aload_n 0, 0, 0, 0, .null), (18, 3, .ldc2_w 171, 0, 0, 0, .long (7304564)), (21, 3, .invokevirtual 207, 163, 2, 33, .null), (24, 1, .istore_n 1, 1, 0, 0, .null), (25, 1, .iload_n 1, 1, 0, 0, .null), (26, 3, .ifCond .ne 18, 44, 0, 0, .null), (29, 1, .aload_n 0, 0, 0, 0, .null), (30, 3, .ldc2_w 169, 0, 0, 0, .long (26990)), (33, 3, .invokevirtual 207, 163, 2, 33, .null), (36, 3, .ifCond .ne 8, 44, 0, 0, .null), (39, 1, .aload_n 0, 0, 0, 0, .null), (40, 1, .iconst 2, 0, 0, 0, .int (2)), (41, 3, .invokevirtual 211, 162, 2, 32, .null), (44, 1, .aload_n 0, 0, 0, 0, .null), (45, 3, .getfield 164, 8, 2, 0, .null), (48, 3, .ifCond .ne 7, 55, 0, 0, .null), (51, 1, .aload_n 0, 0, 0, 0, .null), (52, 3, .invokevirtual 214, 161, 1, 32, .null), (55, 1, .aload_n 0, 0, 0, 0, .null), (56, 3, .getfield 45, 8, 28, 4, .null), (59, 1, .aload_n 0, 0, 0, 0, .null), (60, 3, .getfield 305, 8, 34, 0, .null), (63, 1, .aload_n 0, 0, 0, 0, .null), (64, 3, .ldc2_w 173, 0, 0, 0, .long (469920277619)), (67, 1, .iconst 0, 0, 0, 0, .int (0)), (68, 2, .bipush 9, 0, 0, 0, .int (9)), (70, 3, .invokevirtual 311, 168, 4, 33, .null), (73, 1, .iastore, 0, 0, 0, .null), (74, 1, .aload_n 0, 0, 0, 0, .null), (75, 3, .getfield 48, 8, 29, 4, .null), (78, 1, .aload_n 0, 0, 0, 0, .null), (79, 3, .getfield 305, 8, 34, 0, .null), (82, 1, .aload_n 0, 0, 0, 0, .null), (83, 3, .ldc2_w 175, 0, 0, 0, .long (508676040051)), (86, 1, .iconst 0, 0, 0, 0, .int (0)), (87, 2, .bipush 9, 0, 0, 0, .int (9)), (89, 3, .invokevirtual 311, 168, 4, 33, .null), (92, 1, .iastore, 0, 0, 0, .null), (93, 1, .aload_n 0, 0, 0, 0, .null), (94, 3, .getfield 164, 8, 2, 0, .null), (97, 3, .ifCond .le 4, 101, 0, 0, .null), (100, 1, .return_, 0, 0, 0, .null), (101, 1, .aload_n 0, 0, 0, 0, .null), (102, 1, .dup, 0, 0, 0, .null), (103, 3, .getfield 315, 8, 36, 0, .null), (106, 1, .iload_n 1, 1, 0, 0, .null), (107, 3, .invokestatic 288, 184, 1, 1, .null), (110, 1, .aload_n 0, 0, 0, 0, .null), (111, 3, .getfield 305, 8, 34, 0, .null), (114, 1, .ishl, 0, 0, 0, .null), (115, 1, .ior, 0, 0, 0, .null), (116, 3, .putfield 315, 8, 36, 0, .null), (119, 1, .aload_n 0, 0, 0, 0, .null), (120, 1, .dup, 0, 0, 0, .null), (121, 3, .getfield 305, 8, 34, 0, .null), (124, 1, .iconst 1, 0, 0, 0, .int (1)), (125, 1, .iadd, 0, 0, 0, .null), (126, 3, .putfield 305, 8, 34, 0, .null), (129, 1, .return_, 0, 0, 0, .null)]
def kX8_readClause : List zE := [(0, 1, .aload_n 0, 0, 0, 0, .null), (1, 2, .bipush 7, 0, 0, 0, .int (7)), (3, 1, .aload_n 0, 0, 0, 0, .null), (4, 3, .getfield 318, 8, 35, 0, .null), (7, 3, .invokevirtual 308, 170, 3, 32, .null), (10, 1, .aload_n 0, 0, 0, 0, .null), (11, 3, .getfield 51, 8, 30, 4, .null), (14, 1, .aload_n 0, 0, 0, 0, .null), (15, 3, .getfield 318, 8, 35, 0, .null), (18, 1, .aload_n 0, 0, 0, 0, .null), (19, 3, .ldc2_w 179, 0, 0, 0, .long (495672455792)), (22, 1, .iconst 0, 0, 0, 0, .int (0)), (23, 2, .bipush 20, 0, 0, 0, .int (20)), (25, 3, .invokevirtual 311, 168, 4, 33, .null), (28, 1, .iastore, 0, 0, 0, .null), (29, 1, .aload_n 0, 0, 0, 0, .null), (30, 3, .getfield 164, 8, 2, 0, .null), (33, 3, .ifCond .ne 13, 46, 0, 0, .null), (36, 1, .aload_n 0, 0, 0, 0, .null), (37, 1, .dup, 0, 0, 0, .null), (38, 3, .getfield 318, 8, 35, 0, .null), (41, 1, .iconst 1, 0, 0, 0, .int (1)), (42, 1, .iadd, 0, 0, 0, .null), (43, 3, .putfield 318, 8, 35, 0, .null), (46, 1, .return_, 0, 0, 0, .null)]
def kX8_readLine : List zE := [(0, 1, .aload_n 0, 0, 0, 0, .null), (1, 3, .ldc2_w 167, 0, 0, 0, .long (120282394289522)), (4, 3, .invokevirtual 207, 163, 2, 33, .null), (7, 3, .ifCond .eq 19, 26, 0, 0, .null), (10, 1, .aload_n 0, 0, 0, 0, .null), (11, 3, .getfield 305, 8, 34, 0, .null), (14, 2, .bipush 7, 0, 0, 0, .int (7)), (16, 3, .if_icmp .ge 10, 26, 0, 0, .null), (19, 1, .aload_n 0, 0, 0, 0, .null), (20, 3, .invokevirtual 321, 191, 1, 32, .null), (23, 3, .goto 215, 238, 0, 0, .null), (26, 1, .aload_n 0, 0, 0, 0, .null), (27, 3, .ldc2_w 177, 0, 0, 0, .long (109317142704997)), (30, 3, .invokevirtual 207, 163, 2, 33, .null), (33, 3, .ifCond .eq 19, 52, 0, 0, .null), (36, 1, .aload_n 0, 0, 0, 0, .null), (37, 3, .getfield 318, 8, 35, 0, .null), (40, 2, .bipush 6, 0, 0, 0, .int (6)), (42, 3, .if_icmp .ge 10, 52, 0, 0, .null), (45, 1, .aload_n 0, 0, 0, 0, .null), (46, 3, .invokevirtual 324, 192, 1, 32, .null), (49, 3, .goto 189, 238, 0, 0, .null), (52, 1, .aload_n 0, 0, 0, 0, .null), (53, 3, .ldc2_w 181, 0, 0, 0, .long (512869950579)), (56, 3, .invokevirtual 207, 163, 2, 33, .null), (59, 3, .ifCond .eq 17, 76, 0, 0, .null), (62, 1, .aload_n 0, 0, 0, 0, .null), (63, 3, .getfield 269, 8, 24, 2, .null), (66, 3, .ifCond .ne 10, 76, 0, 0, .null), (69, 1, .aload_n 0, 0, 0, 0, .null), (70, 3, .invokevirtual 327, 183, 1, 32, .null), (73, 3, .goto 165, 238, 0, 0, .null), (76, 1, .aload_n 0, 0, 0, 0, .null), (77, 3, .ldc2_w 183, 0, 0, 0, .long (1668244331)), (80, 3, .invokevirtual 207, 163, 2, 33, .null), (83, 3, .ifCond .eq 32, 115, 0, 0, .null), (86, 1, .aload_n 0, 0, 0, 0, .null), (87, 3, .getfield 330, 8, 48, 2, .null), (90, 3, .ifCond .ne 25, 115, 0, 0, .null), (93, 1, .aload_n 0, 0, 0, 0, .null), (94, 1, .iconst 1, 0, 0, 0, .int (1)), (95, 3, .putfield 330, 8, 48, 2, .null), (98, 1, .aload_n 0, 0, 0, 0, .null), (99, 1, .aload_n 0, 0, 0, 0, .null), (100, 3, .ldc2_w 183, 0, 0, 0, .long (1668244331)), (103, 1, .iconst 1, 0, 0, 0, .int (1)), (104, 2, .bipush 30, 0, 0, 0, .int (30)), (106, 3, .invokevirtual 311, 168, 4, 33, .null), (109, 3, .putfield 333, 8, 37, 0, .null), (112, 3, .goto 126, 238, 0, 0, .null), (115, 1, .aload_n 0, 0, 0, 0, .null), (116, 3, .ldc2_w 185, 0, 0, 0, .long (487301543009)), (119, 3, .invokevirtual 207, 163, 2, 33, .null), (122, 3, .ifCond .eq 32, 154, 0, 0, .null), (125, 1, .aload_n 0, 0, 0, 0, .null), (126, 3, .getfield 336, 8, 49, 2, .null), (129, 3, .ifCond .ne 25, 154, 0, 0, .null), (132, 1, .aload_n 0, 0, 0, 0, .null), (133, 1, .iconst 1, 0, 0, 0, .int (1)), (134, 3, .putfield 336, 8, 49, 2, .null), (137, 1, .aload_n 0, 0, 0, 0, .null), (138, 1, .aload_n 0, 0, 0, 0, .null), (139, 3, .ldc2_w 185, 0, 0, 0, .long (487301543009)), (142, 1, .iconst 0, 0, 0, 0, .int (0)), (143, 2, .bipush 99, 0, 0, 0, .int (99)), (145, 3, .invokevirtual 311, 168, 4, 33, .null), (148, 3, .putfield 339, 8, 38, 0, .null), (151, 3, .goto 87, 238, 0, 0, .null), (154, 1, .aload_n 0, 0, 0, 0, .null), (155, 3, .ldc2_w 187, 0, 0, 0, .long (1886744179)), (158, 3, .invokevirtual 207, 163, 2, 33, .null), (161, 3, .ifCond .eq 32, 193, 0, 0, .null), (164, 1, .aload_n 0, 0, 0, 0, .null), (165, 3, .getfield 342, 8, 50, 2, .null), (168, 3, .ifCond .ne 25, 193, 0, 0, .null), (171, 1, .aload_n 0, 0, 0, 0, .null), (172, 1, .iconst 1, 0, 0, 0, .int (1)), (173, 3, .putfield 342, 8, 50, 2, .null), (176, 1, .aload_n 0, 0, 0, 0, .null), (177, 1, .aload_n 0, 0, 0, 0, .null), (178, 3, .ldc2_w 187, 0, 0, 0, .long (1886744179)), (181, 1, .iconst 0, 0, 0, 0, .int (0)), (182, 2, .bipush 100, 0, 0, 0, .int (100)), (184, 3, .invokevirtual 311, 168, 4, 33, .null), (187, 3, .putfield 345, 8, 39, 0, .null), (190, 3, .goto 48, 238, 0, 0, .null), (193, 1, .aload_n 0, 0, 0, 0, .null), (194, 3, .ldc2_w 189, 0, 0, 0, .long (1685217655)), (197, 3, .invokevirtual 207, 163, 2, 33, .null), (200, 3, .ifCond .eq 33, 233, 0, 0, .null), (203, 1, .aload_n 0, 0, 0, 0, .null), (204, 3, .getfield 348, 8, 51, 2, .null), (207, 3, .ifCond .ne 26, 233, 0, 0, .null), (210, 1, .aload_n 0, 0, 0, 0, .null), (211, 1, .iconst 1, 0, 0, 0, .int (1)), (212, 3, .putfield 348, 8, 51, 2, .null), (215, 1, .aload_n 0, 0, 0, 0, .null), (216, 1, .aload_n 0, 0, 0, 0, .null), (217, 3, .ldc2_w 189, 0, 0, 0, .long (1685217655)), (220, 1, .iconst 0, 0, 0, 0, .int (0)), (221, 3, .sipush 999, 0, 0, 0, .int (999)), (224, 3, .invokevirtual 311, 168, 4, 33, .null), (227, 3, .putfield 351, 8, 40, 0, .null), (230, 3, .goto 8, 238, 0, 0, .null), (233, 1, .aload_n 0, 0, 0, 0, .null), (234, 1, .iconst 2, 0, 0, 0, .int (2)), (235, 3, .invokevirtual 211, 162, 2, 32, .null), (238, 1, .aload_n 0, 0, 0, 0, .null), (239, 3, .getfield 164, 8, 2, 0, .null), (242, 3, .ifCond .ne 17, 259, 0, 0, .null), (245, 1, .aload_n 0, 0, 0, 0, .null), (246, 3, .getfield 151, 8, 6, 0, .null), (249, 2, .bipush 59, 0, 0, 0, .int (59)), (251, 3, .if_icmp .eq 8, 259, 0, 0, .null), (254, 1, .aload_n 0, 0, 0, 0, .null), (255, 1, .iconst 2, 0, 0, 0, .int (2)), (256, 3, .invokevirtual 211, 162, 2, 32, .null), (259, 1, .aload_n 0, 0, 0, 0, .null), (260, 3, .getfield 164, 8, 2, 0, .null), (263, 3, .ifCond .ne 7, 270, 0, 0, .null), (266, 1, .aload_n 0, 0, 0, 0, .null), (267, 3, .invokevirtual 214, 161, 1, 32, .null), (270, 1, .return_, 0, 0, 0, .null)]
def kX8_readAll : List zE := [(0, 1, .aload_n 0, 0, 0, 0, .null), (1, 1, .aload_n 0, 0, 0, 0, .null), (2, 3, .getfield 124, 8, 1, 0, .null), (5, 3, .putfield 134, 8, 5, 0, .null), (8, 1, .aload_n 0, 0, 0, 0, .null), (9, 1, .iconst 0, 0, 0, 0, .int (0)), (10, 3, .putfield 124, 8, 1, 0, .null), (13, 1, .aload_n 0, 0, 0, 0, .null), (14, 1, .iconst 0, 0, 0, 0, .int (0)), (15, 3, .putfield 131, 8, 4, 0, .null), (18, 1, .aload_n 0, 0, 0, 0, .null), (19, 1, .iconst 0, 0, 0, 0, .int (0)), (20, 3, .putfield 164, 8, 2, 0, .null), (23, 1, .aload_n 0, 0, 0, 0, .null), (24, 1, .iconst (-1), 0, 0, 0, .int (-1)), (25, 3, .putfield 13, 8, 3, 0, .null), (28, 1, .aload_n 0, 0, 0, 0, .null), (29, 1, .iconst 0, 0, 0, 0, .int (0)), (30, 3, .putfield 305, 8, 34, 0, .null), (33, 1, .aload_n 0, 0, 0, 0, .null), (34, 1, .iconst 0, 0, 0, 0, .int (0)), (35, 3, .putfield 318, 8, 35, 0, .null), (38, 1, .aload_n 0, 0, 0, 0, .null), (39, 1, .iconst 0, 0, 0, 0, .int (0)), (40, 3, .putfield 315, 8, 36, 0, .null), (43, 1, .aload_n 0, 0, 0, 0, .null), (44, 2, .bipush 10, 0, 0, 0, .int (10)), (46, 3, .putfield 333, 8, 37, 0, .null), (49, 1, .aload_n 0, 0, 0, 0, .null), (50, 1, .iconst 1, 0, 0, 0, .int (1)), (51, 3, .putfield 339, 8, 38, 0, .null), (54, 1, .aload_n 0, 0, 0, 0, .null), (55, 1, .iconst 0, 0, 0, 0, .int (0)), (56, 3, .putfield 345, 8, 39, 0, .null), (59, 1, .aload_n 0, 0, 0, 0, .null), (60, 1, .iconst 0, 0, 0, 0, .int (0)), (61, 3, .putfield 351, 8, 40, 0, .null), (64, 1, .aload_n 0, 0, 0, 0, .null), (65, 1, .iconst 0, 0, 0, 0, .int (0)), (66, 3, .putfield 330, 8, 48, 2, .null), (69, 1, .aload_n 0, 0, 0, 0, .null), (70, 1, .iconst 0, 0, 0, 0, .int (0)), (71, 3, .putfield 336, 8, 49, 2, .null), (74, 1, .aload_n 0, 0, 0, 0, .null), (75, 1, .iconst 0, 0, 0, 0, .int (0)), (76, 3, .putfield 342, 8, 50, 2, .null), (79, 1, .aload_n 0, 0, 0, 0, .null), (80, 1, .iconst 0, 0, 0, 0, .int (0)), (81, 3, .putfield 348, 8, 51, 2, .null), (84, 1, .aload_n 0, 0, 0, 0, .null), (85, 1, .iconst 0, 0, 0, 0, .int (0)), (86, 3, .putfield 269, 8, 24, 2, .null), (89, 1, .aload_n 0, 0, 0, 0, .null), (90, 1, .iconst 0, 0, 0, 0, .int (0)), (91, 3, .putfield 247, 8, 20, 0, .null), (94, 1, .aload_n 0, 0, 0, 0, .null), (95, 3, .invokevirtual 214, 161, 1, 32, .null), (98, 1, .aload_n 0, 0, 0, 0, .null), (99, 3, .getfield 164, 8, 2, 0, .null), (102, 3, .ifCond .ne 17, 119, 0, 0, .null), (105, 1, .aload_n 0, 0, 0, 0, .null), (106, 3, .getfield 151, 8, 6, 0, .null), (109, 3, .ifCond .eq 10, 119, 0, 0, .null), (112, 1, .aload_n 0, 0, 0, 0, .null), (113, 3, .invokevirtual 354, 193, 1, 32, .null), (116, 3, .goto (-18), 98, 0, 0, .null), (119, 1, .return_, 0, 0, 0, .null)]
def kX8_house : List zE := [(0, 1, .aload_n 0, 0, 0, 0, .null), (1, 3, .invokevirtual 357, 194, 1, 32, .null), (4, 1, .aload_n 0, 0, 0, 0, .null), (5, 3, .getfield 164, 8, 2, 0, .null), (8, 3, .ifCond .le 5, 13, 0, 0, .null), (11, 1, .iconst (-1), 0, 0, 0, .int (-1)), (12, 1, .ireturn, 0, 0, 0, .null), (13, 1, .aload_n 0, 0, 0, 0, .null), (14, 1, .aload_n 0, 0, 0, 0, .null), (15, 3, .getfield 305, 8, 34, 0, .null), (18, 3, .putfield 360, 8, 41, 0, .null), (21, 1, .aload_n 0, 0, 0, 0, .null), (22, 1, .aload_n 0, 0, 0, 0, .null), (23, 3, .getfield 318, 8, 35, 0, .null), (26, 3, .putfield 363, 8, 42, 0, .null), (29, 1, .aload_n 0, 0, 0, 0, .null), (30, 1, .aload_n 0, 0, 0, 0, .null), (31, 3, .getfield 315, 8, 36, 0, .null), (34, 3, .putfield 366, 8, 43, 0, .null), (37, 1, .aload_n 0, 0, 0, 0, .null), (38, 1, .aload_n 0, 0, 0, 0, .null), (39, 3, .getfield 333, 8, 37, 0, .null), (42, 3, .putfield 63, 8, 44, 0, .null), (45, 1, .aload_n 0, 0, 0, 0, .null), (46, 1, .aload_n 0, 0, 0, 0, .null), (47, 3, .getfield 339, 8, 38, 0, .null), (50, 3, .putfield 66, 8, 45, 0, .null), (53, 1, .aload_n 0, 0, 0, 0, .null), (54, 1, .aload_n 0, 0, 0, 0, .null), (55, 3, .getfield 345, 8, 39, 0, .null), (58, 3, .putfield 369, 8, 46, 0, .null), (61, 1, .aload_n 0, 0, 0, 0, .null), (62, 1, .aload_n 0, 0, 0, 0, .null), (63, 3, .getfield 351, 8, 40, 0, .null), (66, 3, .putfield 372, 8, 47, 0, .null), (69, 1, .aload_n 0, 0, 0, 0, .null), (70, 1, .aload_n 0, 0, 0, 0, .null), (71, 3, .getfield 247, 8, 20, 0, .null), (74, 3, .putfield 375, 8, 21, 0, .null), (77, 1, .aload_n 0, 0, 0, 0, .null), (78, 1, .aload_n 0, 0, 0, 0, .null), (79, 3, .getfield 269, 8, 24, 2, .null), (82, 3, .putfield 292, 8, 25, 2, .null), (85, 1, .aload_n 0, 0, 0, 0, .null), (86, 1, .aload_n 0, 0, 0, 0, .null), (87, 3, .getfield 269, 8, 24, 2, .null), (90, 3, .ifCond .eq 10, 100, 0, 0, .null), (93, 1, .aload_n 0, 0, 0, 0, .null), (94, 3, .getfield 231, 8, 17, 0, .null), (97, 3, .goto 4, 101, 0, 0, .null), (100, 1, .iconst 0, 0, 0, 0, .int (0)), (101, 3, .putfield 299, 8, 18, 0, .null), (104, 1, .iconst 0, 0, 0, 0, .int (0)), (105, 1, .istore_n 1, 1, 0, 0, .null), (106, 1, .iload_n 1, 1, 0, 0, .null), (107, 1, .aload_n 0, 0, 0, 0, .null), (108, 3, .getfield 299, 8, 18, 0, .null), (111, 3, .if_icmp .ge 33, 144, 0, 0, .null), (114, 1, .aload_n 0, 0, 0, 0, .null), (115, 3, .getfield 27, 8, 13, 4, .null), (118, 1, .iload_n 1, 1, 0, 0, .null), (119, 1, .aload_n 0, 0, 0, 0, .null), (120, 3, .getfield 21, 8, 11, 4, .null), (123, 1, .iload_n 1, 1, 0, 0, .null), (124, 1, .iaload, 0, 0, 0, .null), (125, 1, .iastore, 0, 0, 0, .null), (126, 1, .aload_n 0, 0, 0, 0, .null), (127, 3, .getfield 30, 8, 14, 4, .null), (130, 1, .iload_n 1, 1, 0, 0, .null), (131, 1, .aload_n 0, 0, 0, 0, .null), (132, 3, .getfield 24, 8, 12, 4, .null), (135, 1, .iload_n 1, 1, 0, 0, .null), (136, 1, .iaload, 0, 0, 0, .null), (137, 1, .iastore, 0, 0, 0, .null), (138, 3, .iinc 1 1, 1, 0, 0, .int (1)), (141, 3, .goto (-35), 106, 0, 0, .null), (144, 1, .iconst 0, 0, 0, 0, .int (0)), (145, 1, .istore_n 1, 1, 0, 0, .null), (146, 1, .iload_n 1, 1, 0, 0, .null), (147, 1, .aload_n 0, 0, 0, 0, .null), (148, 3, .getfield 360, 8, 41, 0, .null), (151, 3, .if_icmp .ge 33, 184, 0, 0, .null), (154, 1, .aload_n 0, 0, 0, 0, .null), (155, 3, .getfield 54, 8, 31, 4, .null), (158, 1, .iload_n 1, 1, 0, 0, .null), (159, 1, .aload_n 0, 0, 0, 0, .null), (160, 3, .getfield 45, 8, 28, 4, .null), (163, 1, .iload_n 1, 1, 0, 0, .null), (164, 1, .iaload, 0, 0, 0, .null), (165, 1, .iastore, 0, 0, 0, .null), (166, 1, .aload_n 0, 0, 0, 0, .null), (167, 3, .getfield 57, 8, 32, 4, .null), (170, 1, .iload_n 1, 1, 0, 0, .null), (171, 1, .aload_n 0, 0, 0, 0, .null), (172, 3, .getfield 48, 8, 29, 4, .null), (175, 1, .iload_n 1, 1, 0, 0, .null), (176, 1, .iaload, 0, 0, 0, .null), (177, 1, .iastore, 0, 0, 0, .null), (178, 3, .iinc 1 1, 1, 0, 0, .int (1)), (181, 3, .goto (-35), 146, 0, 0, .null), (184, 1, .iconst 0, 0, 0, 0, .int (0)), (185, 1, .istore_n 1, 1, 0, 0, .null), (186, 1, .iload_n 1, 1, 0, 0, .null), (187, 1, .aload_n 0, 0, 0, 0, .null), (188, 3, .getfield 363, 8, 42, 0, .null), (191, 3, .if_icmp .ge 21, 212, 0, 0, .null), (194, 1, .aload_n 0, 0, 0, 0, .null), (195, 3, .getfield 60, 8, 33, 4, .null), (198, 1, .iload_n 1, 1, 0, 0, .null), (199, 1, .aload_n 0, 0, 0, 0, .null), (200, 3, .getfield 51, 8, 30, 4, .null), (203, 1, .iload_n 1, 1, 0, 0, .null), (204, 1, .iaload, 0, 0, 0, .null), (205, 1, .iastore, 0, 0, 0, .null), (206, 3, .iinc 1 1, 1, 0, 0, .int (1)), (209, 3, .goto (-23), 186, 0, 0, .null), (212, 1, .aload_n 0, 0, 0, 0, .null), (213, 3, .invokevirtual 378, 202, 1, 32, .null), (216, 1, .aload_n 0, 0, 0, 0, .null), (217, 3, .invokevirtual 381, 201, 1, 32, .null), (220, 1, .aload_n 0, 0, 0, 0, .null), (221, 1, .iconst 0, 0, 0, 0, .int (0)), (222, 3, .putfield 384, 8, 57, 0, .null), (225, 1, .aload_n 0, 0, 0, 0, .null), (226, 1, .iconst 0, 0, 0, 0, .int (0)), (227, 3, .putfield 387, 8, 58, 0, .null), (230, 1, .aload_n 0, 0, 0, 0, .null), (231, 1, .iconst 0, 0, 0, 0, .int (0)), (232, 3, .putfield 390, 8, 71, 0, .null), (235, 1, .aload_n 0, 0, 0, 0, .null), (236, 1, .iconst 0, 0, 0, 0, .int (0)), (237, 3, .putfield 393, 8, 62, 0, .null), (240, 1, .iconst 0, 0, 0, 0, .int (0)), (241, 1, .istore_n 1, 1, 0, 0, .null), (242, 1, .iload_n 1, 1, 0, 0, .null), (243, 1, .iconst 3, 0, 0, 0, .int (3)), (244, 3, .if_icmp .ge 16, 260, 0, 0, .null), (247, 1, .aload_n 0, 0, 0, 0, .null), (248, 3, .getfield 118, 8, 76, 4, .null), (251, 1, .iload_n 1, 1, 0, 0, .null), (252, 1, .iconst 0, 0, 0, 0, .int (0)), (253, 1, .bastore, 0, 0, 2, .null), (254, 3, .iinc 1 1, 1, 0, 0, .int (1)), (257, 3, .goto (-15), 242, 0, 0, .null), (260, 1, .aload_n 0, 0, 0, 0, .null), (261, 3, .getfield 360, 8, 41, 0, .null), (264, 1, .ireturn, 0, 0, 0, .null)]
def kX8_fault : List zE := [(0, 1, .iload_n 1, 1, 0, 0, .null), (1, 3, .ifCond .ne 10, 11, 0, 0, .null), (4, 1, .aload_n 0, 0, 0, 0, .null), (5, 3, .getfield 164, 8, 2, 0, .null), (8, 3, .goto 16, 24, 0, 0, .null), (11, 1, .iload_n 1, 1, 0, 0, .null), (12, 1, .iconst 1, 0, 0, 0, .int (1)), (13, 3, .if_icmp .ne 10, 23, 0, 0, .null), (16, 1, .aload_n 0, 0, 0, 0, .null), (17, 3, .getfield 13, 8, 3, 0, .null), (20, 3, .goto 4, 24, 0, 0, .null), (23, 1, .iconst (-1), 0, 0, 0, .int (-1)), (24, 1, .ireturn, 0, 0, 0, .null)]
def kX8_isIn : List zE := [(0, 1, .iload_n 0, 0, 0, 0, .null), (1, 1, .iload_n 1, 1, 0, 0, .null), (2, 3, .if_icmp .lt 12, 14, 0, 0, .null), (5, 1, .iload_n 0, 0, 0, 0, .null), (6, 1, .iload_n 2, 2, 0, 0, .null), (7, 3, .if_icmp .gt 7, 14, 0, 0, .null), (10, 1, .iconst 1, 0, 0, 0, .int (1)), (11, 3, .goto 4, 15, 0, 0, .null), (14, 1, .iconst 0, 0, 0, 0, .int (0)), (15, 1, .ireturn, 0, 0, 2, .null)]
def kX8_isMember : List zE := [(0, 1, .iload_n 1, 1, 0, 0, .null), (1, 1, .iconst 0, 0, 0, 0, .int (0)), (2, 1, .aload_n 0, 0, 0, 0, .null), (3, 3, .getfield 360, 8, 41, 0, .null), (6, 1, .iconst 1, 0, 0, 0, .int (1)), (7, 1, .isub, 0, 0, 0, .null), (8, 3, .invokestatic 396, 197, 3, 1, .null), (11, 1, .ireturn, 0, 0, 2, .null)]
def kX8_isClause : List zE := [(0, 1, .iload_n 1, 1, 0, 0, .null), (1, 1, .iconst 0, 0, 0, 0, .int (0)), (2, 1, .aload_n 0, 0, 0, 0, .null), (3, 3, .getfield 363, 8, 42, 0, .null), (6, 1, .iconst 1, 0, 0, 0, .int (1)), (7, 1, .isub, 0, 0, 0, .null), (8, 3, .invokestatic 396, 197, 3, 1, .null), (11, 1, .ireturn, 0, 0, 2, .null)]
def kX8_fill : List zE := [(0, 1, .iconst 0, 0, 0, 0, .int (0)), (1, 1, .istore_n 1, 1, 0, 0, .null), (2, 1, .iload_n 1, 1, 0, 0, .null), (3, 2, .bipush 11, 0, 0, 0, .int (11)), (5, 3, .if_icmp .ge 21, 26, 0, 0, .null), (8, 1, .aload_n 0, 0, 0, 0, .null), (9, 3, .getfield 72, 8, 53, 4, .null), (12, 1, .iload_n 1, 1, 0, 0, .null), (13, 1, .aload_n 0, 0, 0, 0, .null), (14, 3, .getfield 69, 8, 52, 4, .null), (17, 1, .iload_n 1, 1, 0, 0, .null), (18, 1, .iaload, 0, 0, 0, .null), (19, 1, .iastore, 0, 0, 0, .null), (20, 3, .iinc 1 1, 1, 0, 0, .int (1)), (23, 3, .goto (-21), 2, 0, 0, .null), (26, 1, .return_, 0, 0, 0, .null)]
def kX8_keepAir : List zE := [(0, 1, .iconst 0, 0, 0, 0, .int (0)), (1, 1, .istore_n 1, 1, 0, 0, .null), (2, 1, .iload_n 1, 1, 0, 0, .null), (3, 2, .bipush 11, 0, 0, 0, .int (11)), (5, 3, .if_icmp .ge 21, 26, 0, 0, .null), (8, 1, .aload_n 0, 0, 0, 0, .null), (9, 3, .getfield 69, 8, 52, 4, .null), (12, 1, .iload_n 1, 1, 0, 0, .null), (13, 1, .aload_n 0, 0, 0, 0, .null), (14, 3, .getfield 72, 8, 53, 4, .null), (17, 1, .iload_n 1, 1, 0, 0, .null), (18, 1, .iaload, 0, 0, 0, .null), (19, 1, .iastore, 0, 0, 0, .null), (20, 3, .iinc 1 1, 1, 0, 0, .int (1)), (23, 3, .goto (-21), 2, 0, 0, .null), (26, 1, .return_, 0, 0, 0, .null)]
def kX8_layTold : List zE := [(0, 1, .iconst 0, 0, 0, 0, .int (0)), (1, 1, .istore_n 1, 1, 0, 0, .null), (2, 1, .iload_n 1, 1, 0, 0, .null), (3, 2, .bipush 11, 0, 0, 0, .int (11)), (5, 3, .if_icmp .ge 16, 21, 0, 0, .null), (8, 1, .aload_n 0, 0, 0, 0, .null), (9, 3, .getfield 72, 8, 53, 4, .null), (12, 1, .iload_n 1, 1, 0, 0, .null), (13, 1, .iconst 0, 0, 0, 0, .int (0)), (14, 1, .iastore, 0, 0, 0, .null), (15, 3, .iinc 1 1, 1, 0, 0, .int (1)), (18, 3, .goto (-16), 2, 0, 0, .null), (21, 1, .aload_n 0, 0, 0, 0, .null), (22, 3, .getfield 72, 8, 53, 4, .null), (25, 2, .bipush 7, 0, 0, 0, .int (7)), (27, 1, .aload_n 0, 0, 0, 0, .null), (28, 3, .getfield 366, 8, 43, 0, .null), (31, 1, .iastore, 0, 0, 0, .null), (32, 1, .aload_n 0, 0, 0, 0, .null), (33, 3, .getfield 72, 8, 53, 4, .null), (36, 2, .bipush 10, 0, 0, 0, .int (10)), (38, 1, .aload_n 0, 0, 0, 0, .null), (39, 3, .getfield 372, 8, 47, 0, .null), (42, 1, .iastore, 0, 0, 0, .null), (43, 1, .return_, 0, 0, 0, .null)]
def kX8_isOut : List zE := [(0, 1, .aload_n 0, 0, 0, 0, .null), (1, 3, .getfield 69, 8, 52, 4, .null), (4, 2, .bipush 7, 0, 0, 0, .int (7)), (6, 1, .iaload, 0, 0, 0, .null), (7, 1, .iload_n 1, 1, 0, 0, .null), (8, 1, .ishr, 0, 0, 0, .null), (9, 1, .iconst 1, 0, 0, 0, .int (1)), (10, 1, .iand, 0, 0, 0, .null), (11, 1, .iconst 1, 0, 0, 0, .int (1)), (12, 3, .if_icmp .ne 7, 19, 0, 0, .null), (15, 1, .iconst 1, 0, 0, 0, .int (1)), (16, 3, .goto 4, 20, 0, 0, .null), (19, 1, .iconst 0, 0, 0, 0, .int (0)), (20, 1, .ireturn, 0, 0, 2, .null)]
def kX8_isOutHere : List zE := [(0, 1, .aload_n 0, 0, 0, 0, .null), (1, 3, .getfield 72, 8, 53, 4, .null), (4, 2, .bipush 7, 0, 0, 0, .int (7)), (6, 1, .iaload, 0, 0, 0, .null), (7, 1, .iload_n 1, 1, 0, 0, .null), (8, 1, .ishr, 0, 0, 0, .null), (9, 1, .iconst 1, 0, 0, 0, .int (1)), (10, 1, .iand, 0, 0, 0, .null), (11, 1, .iconst 1, 0, 0, 0, .int (1)), (12, 3, .if_icmp .ne 7, 19, 0, 0, .null), (15, 1, .iconst 1, 0, 0, 0, .int (1)), (16, 3, .goto 4, 20, 0, 0, .null), (19, 1, .iconst 0, 0, 0, 0, .int (0)), (20, 1, .ireturn, 0, 0, 2, .null)]
def kX8_isRead : List zE := [(0, 1, .aload_n 0, 0, 0, 0, .null), (1, 3, .getfield 69, 8, 52, 4, .null), (4, 2, .bipush 8, 0, 0, 0, .int (8)), (6, 1, .iaload, 0, 0, 0, .null), (7, 1, .iload_n 1, 1, 0, 0, .null), (8, 1, .ishr, 0, 0, 0, .null), (9, 1, .iconst 1, 0, 0, 0, .int (1)), (10, 1, .iand, 0, 0, 0, .null), (11, 1, .iconst 1, 0, 0, 0, .int (1)), (12, 3, .if_icmp .ne 7, 19, 0, 0, .null), (15, 1, .iconst 1, 0, 0, 0, .int (1)), (16, 3, .goto 4, 20, 0, 0, .null), (19, 1, .iconst 0, 0, 0, 0, .int (0)), (20, 1, .ireturn, 0, 0, 2, .null)]
def kX8_isFor : List zE := [(0, 1, .aload_n 0, 0, 0, 0, .null), (1, 1, .iload_n 1, 1, 0, 0, .null), (2, 3, .invokevirtual 400, 204, 2, 33, .null), (5, 3, .ifCond .eq 18, 23, 0, 0, .null), (8, 1, .iconst 2, 0, 0, 0, .int (2)), (9, 1, .aload_n 0, 0, 0, 0, .null), (10, 3, .getfield 72, 8, 53, 4, .null), (13, 1, .iload_n 1, 1, 0, 0, .null), (14, 1, .iaload, 0, 0, 0, .null), (15, 1, .imul, 0, 0, 0, .null), (16, 1, .aload_n 0, 0, 0, 0, .null), (17, 3, .getfield 63, 8, 44, 0, .null), (20, 3, .if_icmp .ge 7, 27, 0, 0, .null), (23, 1, .iconst 1, 0, 0, 0, .int (1)), (24, 3, .goto 4, 28, 0, 0, .null), (27, 1, .iconst 0, 0, 0, 0, .int (0)), (28, 1, .ireturn, 0, 0, 2, .null)]
def kX8_votesOf : List zE := [(0, 1, .iconst 0, 0, 0, 0, .int (0)), (1, 1, .istore_n 2, 2, 0, 0, .null), (2, 1, .iconst 0, 0, 0, 0, .int (0)), (3, 1, .istore_n 3, 3, 0, 0, .null), (4, 1, .iload_n 3, 3, 0, 0, .null), (5, 1, .aload_n 0, 0, 0, 0, .null), (6, 3, .getfield 360, 8, 41, 0, .null), (9, 3, .if_icmp .ge 31, 40, 0, 0, .null), (12, 1, .iload_n 2, 2, 0, 0, .null), (13, 1, .iload_n 1, 1, 0, 0, .null), (14, 1, .iload_n 3, 3, 0, 0, .null), (15, 1, .ishr, 0, 0, 0, .null), (16, 1, .iconst 1, 0, 0, 0, .int (1)), (17, 1, .iand, 0, 0, 0, .null), (18, 1, .iconst 1, 0, 0, 0, .int (1)), (19, 3, .if_icmp .ne 12, 31, 0, 0, .null), (22, 1, .aload_n 0, 0, 0, 0, .null), (23, 3, .getfield 57, 8, 32, 4, .null), (26, 1, .iload_n 3, 3, 0, 0, .null), (27, 1, .iaload, 0, 0, 0, .null), (28, 3, .goto 4, 32, 0, 0, .null), (31, 1, .iconst 0, 0, 0, 0, .int (0)), (32, 1, .iadd, 0, 0, 0, .null), (33, 1, .istore_n 2, 2, 0, 0, .null), (34, 3, .iinc 3 1, 3, 0, 0, .int (1)), (37, 3, .goto (-33), 4, 0, 0, .null), (40, 1, .iload_n 2, 2, 0, 0, .null), (41, 1, .ireturn, 0, 0, 0, .null)]
def kX8_windAll : List zE := [(0, 1, .aload_n 0, 0, 0, 0, .null), (1, 3, .getfield 72, 8, 53, 4, .null), (4, 2, .bipush 8, 0, 0, 0, .int (8)), (6, 1, .iaload, 0, 0, 0, .null), (7, 3, .invokestatic 403, 189, 1, 1, .null), (10, 1, .istore_n 3, 3, 0, 0, .null), (11, 1, .aload_n 0, 0, 0, 0, .null), (12, 1, .iconst 0, 0, 0, 0, .int (0)), (13, 3, .putfield 406, 8, 54, 0, .null), (16, 1, .aload_n 0, 0, 0, 0, .null), (17, 1, .iconst 0, 0, 0, 0, .int (0)), (18, 3, .putfield 409, 8, 55, 0, .null), (21, 1, .iconst 0, 0, 0, 0, .int (0)), (22, 2, .istore 4, 4, 0, 0, .null), (24, 2, .iload 4, 4, 0, 0, .null), (26, 1, .aload_n 0, 0, 0, 0, .null), (27, 3, .getfield 360, 8, 41, 0, .null), (30, 3, .if_icmp .ge 133, 163, 0, 0, .null), (33, 1, .aload_n 0, 0, 0, 0, .null), (34, 2, .iload 4, 4, 0, 0, .null), (36, 3, .invokevirtual 400, 204, 2, 33, .null), (39, 3, .ifCond .eq 38, 77, 0, 0, .null), (42, 1, .aload_n 0, 0, 0, 0, .null), (43, 3, .getfield 72, 8, 53, 4, .null), (46, 2, .iload 4, 4, 0, 0, .null), (48, 1, .iconst 0, 0, 0, 0, .int (0)), (49, 1, .aload_n 0, 0, 0, 0, .null), (50, 3, .getfield 72, 8, 53, 4, .null), (53, 2, .iload 4, 4, 0, 0, .null), (55, 1, .iaload, 0, 0, 0, .null), (56, 1, .aload_n 0, 0, 0, 0, .null), (57, 2, .iload 4, 4, 0, 0, .null), (59, 1, .iload_n 1, 1, 0, 0, .null), (60, 1, .aload_n 0, 0, 0, 0, .null), (61, 3, .getfield 72, 8, 53, 4, .null), (64, 2, .iload 4, 4, 0, 0, .null), (66, 1, .iaload, 0, 0, 0, .null), (67, 1, .iload_n 2, 2, 0, 0, .null), (68, 1, .iload_n 3, 3, 0, 0, .null), (69, 3, .invokevirtual 412, 190, 6, 33, .null), (72, 1, .iadd, 0, 0, 0, .null), (73, 3, .invokestatic 416, 188, 2, 1, .null), (76, 1, .iastore, 0, 0, 0, .null), (77, 1, .aload_n 0, 0, 0, 0, .null), (78, 2, .iload 4, 4, 0, 0, .null), (80, 3, .invokevirtual 400, 204, 2, 33, .null), (83, 3, .ifCond .eq 21, 104, 0, 0, .null), (86, 1, .aload_n 0, 0, 0, 0, .null), (87, 3, .getfield 72, 8, 53, 4, .null), (90, 2, .iload 4, 4, 0, 0, .null), (92, 1, .iaload, 0, 0, 0, .null), (93, 1, .aload_n 0, 0, 0, 0, .null), (94, 3, .getfield 63, 8, 44, 0, .null), (97, 3, .if_icmp .lt 7, 104, 0, 0, .null), (100, 1, .iconst 1, 0, 0, 0, .int (1)), (101, 3, .goto 4, 105, 0, 0, .null), (104, 1, .iconst 0, 0, 0, 0, .int (0)), (105, 2, .istore 5, 5, 0, 0, .null), (107, 2, .iload 5, 5, 0, 0, .null), (109, 3, .ifCond .eq 27, 136, 0, 0, .null), (112, 1, .aload_n 0, 0, 0, 0, .null), (113, 3, .getfield 72, 8, 53, 4, .null), (116, 2, .iload 4, 4, 0, 0, .null), (118, 1, .iconst 0, 0, 0, 0, .int (0)), (119, 1, .iastore, 0, 0, 0, .null), (120, 1, .aload_n 0, 0, 0, 0, .null), (121, 1, .dup, 0, 0, 0, .null), (122, 3, .getfield 406, 8, 54, 0, .null), (125, 1, .iconst 1, 0, 0, 0, .int (1)), (126, 2, .iload 4, 4, 0, 0, .null), (128, 1, .ishl, 0, 0, 0, .null), (129, 1, .ior, 0, 0, 0, .null), (130, 3, .putfield 406, 8, 54, 0, .null), (133, 3, .goto 24, 157, 0, 0, .null), (136, 1, .aload_n 0, 0, 0, 0, .null), (137, 1, .dup, 0, 0, 0, .null), (138, 3, .getfield 409, 8, 55, 0, .null), (141, 1, .aload_n 0, 0, 0, 0, .null), (142, 2, .iload 4, 4, 0, 0, .null), (144, 3, .invokevirtual 419, 206, 2, 33, .null), (147, 3, .invokestatic 288, 184, 1, 1, .null), (150, 2, .iload 4, 4, 0, 0, .null), (152, 1, .ishl, 0, 0, 0, .null), (153, 1, .ior, 0, 0, 0, .null), (154, 3, .putfield 409, 8, 55, 0, .null), (157, 3, .iinc 4 1, 4, 0, 0, .int (1)), (160, 3, .goto (-136), 24, 0, 0, .null), (163, 1, .aload_n 0, 0, 0, 0, .null), (164, 3, .getfield 406, 8, 54, 0, .null), (167, 3, .ifCond .ne 22, 189, 0, 0, .null), (170, 1, .aload_n 0, 0, 0, 0, .null), (171, 1, .aload_n 0, 0, 0, 0, .null), (172, 3, .getfield 409, 8, 55, 0, .null), (175, 3, .invokevirtual 422, 207, 2, 33, .null), (178, 1, .aload_n 0, 0, 0, 0, .null), (179, 3, .getfield 66, 8, 45, 0, .null), (182, 3, .if_icmp .lt 7, 189, 0, 0, .null), (185, 1, .iconst 1, 0, 0, 0, .int (1)), (186, 3, .goto 4, 190, 0, 0, .null), (189, 1, .iconst 0, 0, 0, 0, .int (0)), (190, 1, .ireturn, 0, 0, 2, .null)]
def kX8_punAll : List zE := [(0, 1, .aload_n 0, 0, 0, 0, .null), (1, 3, .getfield 72, 8, 53, 4, .null), (4, 2, .bipush 10, 0, 0, 0, .int (10)), (6, 1, .aload_n 0, 0, 0, 0, .null), (7, 3, .getfield 72, 8, 53, 4, .null), (10, 2, .bipush 10, 0, 0, 0, .int (10)), (12, 1, .iaload, 0, 0, 0, .null), (13, 3, .sipush 137, 0, 0, 0, .int (137)), (16, 1, .imul, 0, 0, 0, .null), (17, 2, .bipush 71, 0, 0, 0, .int (71)), (19, 1, .iadd, 0, 0, 0, .null), (20, 3, .sipush 1000, 0, 0, 0, .int (1000)), (23, 1, .irem, 0, 0, 0, .null), (24, 1, .iastore, 0, 0, 0, .null), (25, 1, .iconst 0, 0, 0, 0, .int (0)), (26, 1, .istore_n 1, 1, 0, 0, .null), (27, 1, .iload_n 1, 1, 0, 0, .null), (28, 1, .aload_n 0, 0, 0, 0, .null), (29, 3, .getfield 360, 8, 41, 0, .null), (32, 3, .if_icmp .ge 53, 85, 0, 0, .null), (35, 1, .aload_n 0, 0, 0, 0, .null), (36, 3, .getfield 72, 8, 53, 4, .null), (39, 2, .bipush 10, 0, 0, 0, .int (10)), (41, 1, .iaload, 0, 0, 0, .null), (42, 2, .bipush 100, 0, 0, 0, .int (100)), (44, 1, .irem, 0, 0, 0, .null), (45, 1, .aload_n 0, 0, 0, 0, .null), (46, 3, .getfield 369, 8, 46, 0, .null), (49, 3, .if_icmp .ge 30, 79, 0, 0, .null), (52, 1, .aload_n 0, 0, 0, 0, .null), (53, 1, .iload_n 1, 1, 0, 0, .null), (54, 3, .invokevirtual 400, 204, 2, 33, .null), (57, 3, .ifCond .eq 22, 79, 0, 0, .null), (60, 1, .aload_n 0, 0, 0, 0, .null), (61, 3, .getfield 72, 8, 53, 4, .null), (64, 1, .iload_n 1, 1, 0, 0, .null), (65, 2, .bipush 99, 0, 0, 0, .int (99)), (67, 1, .aload_n 0, 0, 0, 0, .null), (68, 3, .getfield 72, 8, 53, 4, .null), (71, 1, .iload_n 1, 1, 0, 0, .null), (72, 1, .iaload, 0, 0, 0, .null), (73, 1, .iconst 1, 0, 0, 0, .int (1)), (74, 1, .iadd, 0, 0, 0, .null), (75, 3, .invokestatic 425, 187, 2, 1, .null), (78, 1, .iastore, 0, 0, 0, .null), (79, 3, .iinc 1 1, 1, 0, 0, .int (1)), (82, 3, .goto (-55), 27, 0, 0, .null), (85, 1, .return_, 0, 0, 0, .null)]
def kX8_readOne : List zE := [(0, 1, .aload_n 0, 0, 0, 0, .null), (1, 1, .aload_n 0, 0, 0, 0, .null), (2, 3, .getfield 60, 8, 33, 4, .null), (5, 1, .iload_n 1, 1, 0, 0, .null), (6, 1, .iaload, 0, 0, 0, .null), (7, 1, .iload_n 2, 2, 0, 0, .null), (8, 3, .invokevirtual 428, 208, 3, 33, .null), (11, 2, .istore 4, 4, 0, 0, .null), (13, 1, .aload_n 0, 0, 0, 0, .null), (14, 3, .getfield 72, 8, 53, 4, .null), (17, 2, .bipush 8, 0, 0, 0, .int (8)), (19, 1, .dup2, 0, 0, 0, .null), (20, 1, .iaload, 0, 0, 0, .null), (21, 1, .iconst 1, 0, 0, 0, .int (1)), (22, 1, .iload_n 1, 1, 0, 0, .null), (23, 1, .ishl, 0, 0, 0, .null), (24, 1, .ior, 0, 0, 0, .null), (25, 1, .iastore, 0, 0, 0, .null), (26, 1, .aload_n 0, 0, 0, 0, .null), (27, 3, .getfield 72, 8, 53, 4, .null), (30, 2, .bipush 9, 0, 0, 0, .int (9)), (32, 1, .dup2, 0, 0, 0, .null), (33, 1, .iaload, 0, 0, 0, .null), (34, 2, .iload 4, 4, 0, 0, .null), (36, 3, .invokestatic 288, 184, 1, 1, .null), (39, 1, .iload_n 1, 1, 0, 0, .null), (40, 1, .ishl, 0, 0, 0, .null), (41, 1, .ior, 0, 0, 0, .null), (42, 1, .iastore, 0, 0, 0, .null), (43, 1, .iload_n 3, 3, 0, 0, .null), (44, 3, .ifCond .eq 7, 51, 0, 0, .null), (47, 1, .aload_n 0, 0, 0, 0, .null), (48, 3, .invokevirtual 432, 209, 1, 32, .null), (51, 2, .iload 4, 4, 0, 0, .null), (53, 1, .ireturn, 0, 0, 2, .null)]
def kX8_member : List zE := [(0, 1, .aload_n 0, 0, 0, 0, .null), (1, 1, .iload_n 1, 1, 0, 0, .null), (2, 3, .invokevirtual 435, 198, 2, 33, .null), (5, 3, .ifCond .ne 7, 12, 0, 0, .null), (8, 1, .iconst (-1), 0, 0, 0, .int (-1)), (9, 3, .goto 61, 70, 0, 0, .null), (12, 1, .iload_n 2, 2, 0, 0, .null), (13, 3, .ifCond .ne 14, 27, 0, 0, .null), (16, 1, .aload_n 0, 0, 0, 0, .null), (17, 1, .iload_n 1, 1, 0, 0, .null), (18, 3, .invokevirtual 438, 203, 2, 33, .null), (21, 3, .invokestatic 288, 184, 1, 1, .null), (24, 3, .goto 46, 70, 0, 0, .null), (27, 1, .iload_n 2, 2, 0, 0, .null), (28, 1, .iconst 1, 0, 0, 0, .int (1)), (29, 3, .if_icmp .ne 12, 41, 0, 0, .null), (32, 1, .aload_n 0, 0, 0, 0, .null), (33, 3, .getfield 54, 8, 31, 4, .null), (36, 1, .iload_n 1, 1, 0, 0, .null), (37, 1, .iaload, 0, 0, 0, .null), (38, 3, .goto 32, 70, 0, 0, .null), (41, 1, .iload_n 2, 2, 0, 0, .null), (42, 1, .iconst 2, 0, 0, 0, .int (2)), (43, 3, .if_icmp .ne 12, 55, 0, 0, .null), (46, 1, .aload_n 0, 0, 0, 0, .null), (47, 3, .getfield 57, 8, 32, 4, .null), (50, 1, .iload_n 1, 1, 0, 0, .null), (51, 1, .iaload, 0, 0, 0, .null), (52, 3, .goto 18, 70, 0, 0, .null), (55, 1, .iload_n 2, 2, 0, 0, .null), (56, 1, .iconst 3, 0, 0, 0, .int (3)), (57, 3, .if_icmp .ne 12, 69, 0, 0, .null), (60, 1, .aload_n 0, 0, 0, 0, .null), (61, 3, .getfield 69, 8, 52, 4, .null), (64, 1, .iload_n 1, 1, 0, 0, .null), (65, 1, .iaload, 0, 0, 0, .null), (66, 3, .goto 4, 70, 0, 0, .null), (69, 1, .iconst (-1), 0, 0, 0, .int (-1)), (70, 1, .ireturn, 0, 0, 0, .null)]
def kX8_clause : List zE := [(0, 1, .aload_n 0, 0, 0, 0, .null), (1, 1, .iload_n 1, 1, 0, 0, .null), (2, 3, .invokevirtual 441, 199, 2, 33, .null), (5, 3, .ifCond .ne 7, 12, 0, 0, .null), (8, 1, .iconst (-1), 0, 0, 0, .int (-1)), (9, 3, .goto 55, 64, 0, 0, .null), (12, 1, .iload_n 2, 2, 0, 0, .null), (13, 3, .ifCond .ne 12, 25, 0, 0, .null), (16, 1, .aload_n 0, 0, 0, 0, .null), (17, 3, .getfield 60, 8, 33, 4, .null), (20, 1, .iload_n 1, 1, 0, 0, .null), (21, 1, .iaload, 0, 0, 0, .null), (22, 3, .goto 42, 64, 0, 0, .null), (25, 1, .iload_n 2, 2, 0, 0, .null), (26, 1, .iconst 1, 0, 0, 0, .int (1)), (27, 3, .if_icmp .ne 17, 44, 0, 0, .null), (30, 1, .aload_n 0, 0, 0, 0, .null), (31, 3, .getfield 69, 8, 52, 4, .null), (34, 2, .bipush 8, 0, 0, 0, .int (8)), (36, 1, .iaload, 0, 0, 0, .null), (37, 1, .iload_n 1, 1, 0, 0, .null), (38, 1, .ishr, 0, 0, 0, .null), (39, 1, .iconst 1, 0, 0, 0, .int (1)), (40, 1, .iand, 0, 0, 0, .null), (41, 3, .goto 23, 64, 0, 0, .null), (44, 1, .iload_n 2, 2, 0, 0, .null), (45, 1, .iconst 2, 0, 0, 0, .int (2)), (46, 3, .if_icmp .ne 17, 63, 0, 0, .null), (49, 1, .aload_n 0, 0, 0, 0, .null), (50, 3, .getfield 69, 8, 52, 4, .null), (53, 2, .bipush 9, 0, 0, 0, .int (9)), (55, 1, .iaload, 0, 0, 0, .null), (56, 1, .iload_n 1, 1, 0, 0, .null), (57, 1, .ishr, 0, 0, 0, .null), (58, 1, .iconst 1, 0, 0, 0, .int (1)), (59, 1, .iand, 0, 0, 0, .null), (60, 3, .goto 4, 64, 0, 0, .null), (63, 1, .iconst (-1), 0, 0, 0, .int (-1)), (64, 1, .ireturn, 0, 0, 0, .null)]
def kX8_windNow : List zE := [(0, 1, .iconst 0, 0, 0, 0, .int (0)), (1, 1, .aload_n 0, 0, 0, 0, .null), (2, 3, .getfield 69, 8, 52, 4, .null), (5, 1, .iload_n 1, 1, 0, 0, .null), (6, 1, .iaload, 0, 0, 0, .null), (7, 1, .aload_n 0, 0, 0, 0, .null), (8, 1, .iload_n 1, 1, 0, 0, .null), (9, 1, .aload_n 0, 0, 0, 0, .null), (10, 3, .getfield 60, 8, 33, 4, .null), (13, 1, .iload_n 2, 2, 0, 0, .null), (14, 1, .iaload, 0, 0, 0, .null), (15, 1, .aload_n 0, 0, 0, 0, .null), (16, 3, .getfield 69, 8, 52, 4, .null), (19, 1, .iload_n 1, 1, 0, 0, .null), (20, 1, .iaload, 0, 0, 0, .null), (21, 1, .iload_n 3, 3, 0, 0, .null), (22, 1, .aload_n 0, 0, 0, 0, .null), (23, 3, .getfield 69, 8, 52, 4, .null), (26, 2, .bipush 8, 0, 0, 0, .int (8)), (28, 1, .iaload, 0, 0, 0, .null), (29, 3, .invokestatic 403, 189, 1, 1, .null), (32, 3, .invokevirtual 412, 190, 6, 33, .null), (35, 1, .iadd, 0, 0, 0, .null), (36, 3, .invokestatic 416, 188, 2, 1, .null), (39, 1, .aload_n 0, 0, 0, 0, .null), (40, 3, .getfield 69, 8, 52, 4, .null), (43, 1, .iload_n 1, 1, 0, 0, .null), (44, 1, .iaload, 0, 0, 0, .null), (45, 1, .isub, 0, 0, 0, .null), (46, 1, .ireturn, 0, 0, 0, .null)]
def kX8_winds : List zE := [(0, 1, .aload_n 0, 0, 0, 0, .null), (1, 1, .iload_n 1, 1, 0, 0, .null), (2, 3, .invokevirtual 435, 198, 2, 33, .null), (5, 3, .ifCond .eq 32, 37, 0, 0, .null), (8, 1, .aload_n 0, 0, 0, 0, .null), (9, 1, .iload_n 1, 1, 0, 0, .null), (10, 3, .invokevirtual 438, 203, 2, 33, .null), (13, 3, .ifCond .eq 24, 37, 0, 0, .null), (16, 1, .aload_n 0, 0, 0, 0, .null), (17, 1, .iload_n 2, 2, 0, 0, .null), (18, 3, .invokevirtual 441, 199, 2, 33, .null), (21, 3, .ifCond .eq 16, 37, 0, 0, .null), (24, 1, .aload_n 0, 0, 0, 0, .null), (25, 1, .iload_n 1, 1, 0, 0, .null), (26, 1, .iload_n 2, 2, 0, 0, .null), (27, 1, .iload_n 3, 3, 0, 0, .null), (28, 3, .invokestatic 288, 184, 1, 1, .null), (31, 3, .invokevirtual 444, 213, 4, 33, .null), (34, 3, .goto 5, 39, 0, 0, .null), (37, 2, .bipush (-100), 0, 0, 0, .int (-100)), (39, 1, .ireturn, 0, 0, 0, .null)]
def kX8_act : List zE := [(0, 1, .aload_n 0, 0, 0, 0, .null), (1, 3, .getfield 384, 8, 57, 0, .null), (4, 2, .bipush 40, 0, 0, 0, .int (40)), (6, 3, .if_icmp .ne 43, 49, 0, 0, .null), (9, 1, .iconst 0, 0, 0, 0, .int (0)), (10, 1, .istore_n 1, 1, 0, 0, .null), (11, 1, .iload_n 1, 1, 0, 0, .null), (12, 3, .sipush 429, 0, 0, 0, .int (429)), (15, 3, .if_icmp .ge 24, 39, 0, 0, .null), (18, 1, .aload_n 0, 0, 0, 0, .null), (19, 3, .getfield 75, 8, 56, 4, .null), (22, 1, .iload_n 1, 1, 0, 0, .null), (23, 1, .aload_n 0, 0, 0, 0, .null), (24, 3, .getfield 75, 8, 56, 4, .null), (27, 2, .bipush 11, 0, 0, 0, .int (11)), (29, 1, .iload_n 1, 1, 0, 0, .null), (30, 1, .iadd, 0, 0, 0, .null), (31, 1, .iaload, 0, 0, 0, .null), (32, 1, .iastore, 0, 0, 0, .null), (33, 3, .iinc 1 1, 1, 0, 0, .int (1)), (36, 3, .goto (-25), 11, 0, 0, .null), (39, 1, .aload_n 0, 0, 0, 0, .null), (40, 1, .dup, 0, 0, 0, .null), (41, 3, .getfield 384, 8, 57, 0, .null), (44, 1, .iconst 1, 0, 0, 0, .int (1)), (45, 1, .isub, 0, 0, 0, .null), (46, 3, .putfield 384, 8, 57, 0, .null), (49, 1, .iconst 0, 0, 0, 0, .int (0)), (50, 1, .istore_n 1, 1, 0, 0, .null), (51, 1, .iload_n 1, 1, 0, 0, .null), (52, 2, .bipush 11, 0, 0, 0, .int (11)), (54, 3, .if_icmp .ge 29, 83, 0, 0, .null), (57, 1, .aload_n 0, 0, 0, 0, .null), (58, 3, .getfield 75, 8, 56, 4, .null), (61, 2, .bipush 11, 0, 0, 0, .int (11)), (63, 1, .aload_n 0, 0, 0, 0, .null), (64, 3, .getfield 384, 8, 57, 0, .null), (67, 1, .imul, 0, 0, 0, .null), (68, 1, .iload_n 1, 1, 0, 0, .null), (69, 1, .iadd, 0, 0, 0, .null), (70, 1, .aload_n 0, 0, 0, 0, .null), (71, 3, .getfield 69, 8, 52, 4, .null), (74, 1, .iload_n 1, 1, 0, 0, .null), (75, 1, .iaload, 0, 0, 0, .null), (76, 1, .iastore, 0, 0, 0, .null), (77, 3, .iinc 1 1, 1, 0, 0, .int (1)), (80, 3, .goto (-29), 51, 0, 0, .null), (83, 1, .aload_n 0, 0, 0, 0, .null), (84, 1, .dup, 0, 0, 0, .null), (85, 3, .getfield 384, 8, 57, 0, .null), (88, 1, .iconst 1, 0, 0, 0, .int (1)), (89, 1, .iadd, 0, 0, 0, .null), (90, 3, .putfield 384, 8, 57, 0, .null), (93, 1, .aload_n 0, 0, 0, 0, .null), (94, 1, .iconst 0, 0, 0, 0, .int (0)), (95, 3, .putfield 387, 8, 58, 0, .null), (98, 1, .aload_n 0, 0, 0, 0, .null), (99, 3, .invokevirtual 447, 200, 1, 32, .null), (102, 1, .return_, 0, 0, 0, .null)]
def kX8_exchange : List zE := [(0, 1, .iconst 0, 0, 0, 0, .int (0)), (1, 1, .istore_n 2, 2, 0, 0, .null), (2, 1, .iload_n 2, 2, 0, 0, .null), (3, 2, .bipush 11, 0, 0, 0, .int (11)), (5, 3, .if_icmp .ge 39, 44, 0, 0, .null), (8, 1, .aload_n 0, 0, 0, 0, .null), (9, 3, .getfield 75, 8, 56, 4, .null), (12, 1, .iload_n 1, 1, 0, 0, .null), (13, 1, .iload_n 2, 2, 0, 0, .null), (14, 1, .iadd, 0, 0, 0, .null), (15, 1, .iaload, 0, 0, 0, .null), (16, 1, .istore_n 3, 3, 0, 0, .null), (17, 1, .aload_n 0, 0, 0, 0, .null), (18, 3, .getfield 75, 8, 56, 4, .null), (21, 1, .iload_n 1, 1, 0, 0, .null), (22, 1, .iload_n 2, 2, 0, 0, .null), (23, 1, .iadd, 0, 0, 0, .null), (24, 1, .aload_n 0, 0, 0, 0, .null), (25, 3, .getfield 69, 8, 52, 4, .null), (28, 1, .iload_n 2, 2, 0, 0, .null), (29, 1, .iaload, 0, 0, 0, .null), (30, 1, .iastore, 0, 0, 0, .null), (31, 1, .aload_n 0, 0, 0, 0, .null), (32, 3, .getfield 69, 8, 52, 4, .null), (35, 1, .iload_n 2, 2, 0, 0, .null), (36, 1, .iload_n 3, 3, 0, 0, .null), (37, 1, .iastore, 0, 0, 0, .null), (38, 3, .iinc 2 1, 2, 0, 0, .int (1)), (41, 3, .goto (-39), 2, 0, 0, .null), (44, 1, .return_, 0, 0, 0, .null)]
def kX8_read : List zE := [(0, 1, .aload_n 0, 0, 0, 0, .null), (1, 1, .iload_n 1, 1, 0, 0, .null), (2, 3, .invokevirtual 441, 199, 2, 33, .null), (5, 3, .ifCond .eq 11, 16, 0, 0, .null), (8, 1, .aload_n 0, 0, 0, 0, .null), (9, 1, .iload_n 1, 1, 0, 0, .null), (10, 3, .invokevirtual 450, 205, 2, 33, .null), (13, 3, .ifCond .eq 5, 18, 0, 0, .null), (16, 1, .iconst (-1), 0, 0, 0, .int (-1)), (17, 1, .ireturn, 0, 0, 0, .null), (18, 1, .aload_n 0, 0, 0, 0, .null), (19, 3, .invokevirtual 453, 215, 1, 32, .null), (22, 1, .aload_n 0, 0, 0, 0, .null), (23, 1, .iload_n 1, 1, 0, 0, .null), (24, 1, .iload_n 2, 2, 0, 0, .null), (25, 3, .invokestatic 288, 184, 1, 1, .null), (28, 1, .iconst 1, 0, 0, 0, .int (1)), (29, 3, .invokevirtual 456, 210, 4, 33, .null), (32, 1, .istore_n 3, 3, 0, 0, .null), (33, 1, .aload_n 0, 0, 0, 0, .null), (34, 3, .invokevirtual 381, 201, 1, 32, .null), (37, 1, .iload_n 3, 3, 0, 0, .null), (38, 3, .invokestatic 288, 184, 1, 1, .null), (41, 1, .ireturn, 0, 0, 0, .null)]
def kX8_oil : List zE := [(0, 1, .aload_n 0, 0, 0, 0, .null), (1, 1, .iload_n 1, 1, 0, 0, .null), (2, 3, .invokevirtual 435, 198, 2, 33, .null), (5, 3, .ifCond .eq 12, 17, 0, 0, .null), (8, 1, .aload_n 0, 0, 0, 0, .null), (9, 3, .getfield 69, 8, 52, 4, .null), (12, 1, .iload_n 1, 1, 0, 0, .null), (13, 1, .iaload, 0, 0, 0, .null), (14, 3, .ifCond .ne 5, 19, 0, 0, .null), (17, 1, .iconst (-1), 0, 0, 0, .int (-1)), (18, 1, .ireturn, 0, 0, 0, .null), (19, 1, .aload_n 0, 0, 0, 0, .null), (20, 3, .invokevirtual 453, 215, 1, 32, .null), (23, 1, .aload_n 0, 0, 0, 0, .null), (24, 3, .getfield 69, 8, 52, 4, .null), (27, 1, .iload_n 1, 1, 0, 0, .null), (28, 1, .dup2, 0, 0, 0, .null), (29, 1, .iaload, 0, 0, 0, .null), (30, 1, .iconst 1, 0, 0, 0, .int (1)), (31, 1, .isub, 0, 0, 0, .null), (32, 1, .iastore, 0, 0, 0, .null), (33, 1, .aload_n 0, 0, 0, 0, .null), (34, 3, .getfield 69, 8, 52, 4, .null), (37, 1, .iload_n 1, 1, 0, 0, .null), (38, 1, .iaload, 0, 0, 0, .null), (39, 1, .ireturn, 0, 0, 0, .null)]
def kX8_changes : List zE := [(0, 1, .iconst 0, 0, 0, 0, .int (0)), (1, 1, .istore_n 1, 1, 0, 0, .null), (2, 1, .iconst 0, 0, 0, 0, .int (0)), (3, 1, .istore_n 2, 2, 0, 0, .null), (4, 1, .iload_n 2, 2, 0, 0, .null), (5, 1, .aload_n 0, 0, 0, 0, .null), (6, 3, .getfield 360, 8, 41, 0, .null), (9, 3, .if_icmp .ge 35, 44, 0, 0, .null), (12, 1, .aload_n 0, 0, 0, 0, .null), (13, 1, .iload_n 2, 2, 0, 0, .null), (14, 3, .invokevirtual 400, 204, 2, 33, .null), (17, 3, .ifCond .ne 6, 23, 0, 0, .null), (20, 3, .goto 18, 38, 0, 0, .null), (23, 1, .aload_n 0, 0, 0, 0, .null), (24, 3, .getfield 78, 8, 59, 4, .null), (27, 1, .iload_n 1, 1, 0, 0, .null), (28, 1, .aload_n 0, 0, 0, 0, .null), (29, 3, .getfield 72, 8, 53, 4, .null), (32, 1, .iload_n 2, 2, 0, 0, .null), (33, 1, .iaload, 0, 0, 0, .null), (34, 1, .iastore, 0, 0, 0, .null), (35, 3, .iinc 1 1, 1, 0, 0, .int (1)), (38, 3, .iinc 2 1, 2, 0, 0, .int (1)), (41, 3, .goto (-37), 4, 0, 0, .null), (44, 1, .aload_n 0, 0, 0, 0, .null), (45, 3, .getfield 72, 8, 53, 4, .null), (48, 2, .bipush 7, 0, 0, 0, .int (7)), (50, 1, .iconst 1, 0, 0, 0, .int (1)), (51, 1, .aload_n 0, 0, 0, 0, .null), (52, 3, .getfield 360, 8, 41, 0, .null), (55, 1, .ishl, 0, 0, 0, .null), (56, 1, .iconst 1, 0, 0, 0, .int (1)), (57, 1, .isub, 0, 0, 0, .null), (58, 1, .aload_n 0, 0, 0, 0, .null), (59, 3, .getfield 72, 8, 53, 4, .null), (62, 2, .bipush 7, 0, 0, 0, .int (7)), (64, 1, .iaload, 0, 0, 0, .null), (65, 1, .iconst (-1), 0, 0, 0, .int (-1)), (66, 1, .ixor, 0, 0, 0, .null), (67, 1, .iand, 0, 0, 0, .null), (68, 1, .iastore, 0, 0, 0, .null), (69, 1, .iconst 0, 0, 0, 0, .int (0)), (70, 1, .istore_n 2, 2, 0, 0, .null), (71, 1, .iconst 0, 0, 0, 0, .int (0)), (72, 1, .istore_n 3, 3, 0, 0, .null), (73, 1, .iload_n 3, 3, 0, 0, .null), (74, 1, .aload_n 0, 0, 0, 0, .null), (75, 3, .getfield 360, 8, 41, 0, .null), (78, 3, .if_icmp .ge 49, 127, 0, 0, .null), (81, 1, .aload_n 0, 0, 0, 0, .null), (82, 3, .getfield 72, 8, 53, 4, .null), (85, 1, .iload_n 3, 3, 0, 0, .null), (86, 1, .aload_n 0, 0, 0, 0, .null), (87, 1, .iload_n 3, 3, 0, 0, .null), (88, 3, .invokevirtual 400, 204, 2, 33, .null), (91, 3, .ifCond .eq 17, 108, 0, 0, .null), (94, 1, .iload_n 2, 2, 0, 0, .null), (95, 1, .iload_n 1, 1, 0, 0, .null), (96, 3, .if_icmp .ge 12, 108, 0, 0, .null), (99, 1, .aload_n 0, 0, 0, 0, .null), (100, 3, .getfield 78, 8, 59, 4, .null), (103, 1, .iload_n 2, 2, 0, 0, .null), (104, 1, .iaload, 0, 0, 0, .null), (105, 3, .goto 4, 109, 0, 0, .null), (108, 1, .iconst 0, 0, 0, 0, .int (0)), (109, 1, .iastore, 0, 0, 0, .null), (110, 1, .iload_n 2, 2, 0, 0, .null), (111, 1, .aload_n 0, 0, 0, 0, .null), (112, 1, .iload_n 3, 3, 0, 0, .null), (113, 3, .invokevirtual 400, 204, 2, 33, .null), (116, 3, .invokestatic 288, 184, 1, 1, .null), (119, 1, .iadd, 0, 0, 0, .null), (120, 1, .istore_n 2, 2, 0, 0, .null), (121, 3, .iinc 3 1, 3, 0, 0, .int (1)), (124, 3, .goto (-51), 73, 0, 0, .null), (127, 1, .return_, 0, 0, 0, .null)]
def kX8_change : List zE := [(0, 1, .aload_n 0, 0, 0, 0, .null), (1, 3, .getfield 360, 8, 41, 0, .null), (4, 3, .ifCond .ne 5, 9, 0, 0, .null), (7, 1, .iconst (-1), 0, 0, 0, .int (-1)), (8, 1, .ireturn, 0, 0, 0, .null), (9, 1, .aload_n 0, 0, 0, 0, .null), (10, 3, .invokevirtual 453, 215, 1, 32, .null), (13, 1, .aload_n 0, 0, 0, 0, .null), (14, 3, .invokevirtual 460, 219, 1, 32, .null), (17, 1, .aload_n 0, 0, 0, 0, .null), (18, 3, .invokevirtual 381, 201, 1, 32, .null), (21, 1, .aload_n 0, 0, 0, 0, .null), (22, 3, .getfield 69, 8, 52, 4, .null), (25, 2, .bipush 7, 0, 0, 0, .int (7)), (27, 1, .iaload, 0, 0, 0, .null), (28, 1, .ireturn, 0, 0, 0, .null)]
def kX8_undo : List zE := [(0, 1, .aload_n 0, 0, 0, 0, .null), (1, 3, .getfield 384, 8, 57, 0, .null), (4, 3, .ifCond .ne 5, 9, 0, 0, .null), (7, 1, .iconst 0, 0, 0, 0, .int (0)), (8, 1, .ireturn, 0, 0, 2, .null), (9, 1, .aload_n 0, 0, 0, 0, .null), (10, 1, .dup, 0, 0, 0, .null), (11, 3, .getfield 384, 8, 57, 0, .null), (14, 1, .iconst 1, 0, 0, 0, .int (1)), (15, 1, .isub, 0, 0, 0, .null), (16, 3, .putfield 384, 8, 57, 0, .null), (19, 1, .aload_n 0, 0, 0, 0, .null), (20, 1, .dup, 0, 0, 0, .null), (21, 3, .getfield 387, 8, 58, 0, .null), (24, 1, .iconst 1, 0, 0, 0, .int (1)), (25, 1, .iadd, 0, 0, 0, .null), (26, 3, .putfield 387, 8, 58, 0, .null), (29, 1, .aload_n 0, 0, 0, 0, .null), (30, 2, .bipush 11, 0, 0, 0, .int (11)), (32, 1, .aload_n 0, 0, 0, 0, .null), (33, 3, .getfield 384, 8, 57, 0, .null), (36, 1, .imul, 0, 0, 0, .null), (37, 3, .invokevirtual 463, 216, 2, 32, .null), (40, 1, .iconst 1, 0, 0, 0, .int (1)), (41, 1, .ireturn, 0, 0, 2, .null)]
def kX8_redo : List zE := [(0, 1, .aload_n 0, 0, 0, 0, .null), (1, 3, .getfield 387, 8, 58, 0, .null), (4, 3, .ifCond .ne 5, 9, 0, 0, .null), (7, 1, .iconst 0, 0, 0, 0, .int (0)), (8, 1, .ireturn, 0, 0, 2, .null), (9, 1, .aload_n 0, 0, 0, 0, .null), (10, 2, .bipush 11, 0, 0, 0, .int (11)), (12, 1, .aload_n 0, 0, 0, 0, .null), (13, 3, .getfield 384, 8, 57, 0, .null), (16, 1, .imul, 0, 0, 0, .null), (17, 3, .invokevirtual 463, 216, 2, 32, .null), (20, 1, .aload_n 0, 0, 0, 0, .null), (21, 1, .dup, 0, 0, 0, .null), (22, 3, .getfield 384, 8, 57, 0, .null), (25, 1, .iconst 1, 0, 0, 0, .int (1)), (26, 1, .iadd, 0, 0, 0, .null), (27, 3, .putfield 384, 8, 57, 0, .null), (30, 1, .aload_n 0, 0, 0, 0, .null), (31, 1, .dup, 0, 0, 0, .null), (32, 3, .getfield 387, 8, 58, 0, .null), (35, 1, .iconst 1, 0, 0, 0, .int (1)), (36, 1, .isub, 0, 0, 0, .null), (37, 3, .putfield 387, 8, 58, 0, .null), (40, 1, .iconst 1, 0, 0, 0, .int (1)), (41, 1, .ireturn, 0, 0, 2, .null)]
def kX8_mayRead : List zE := [(0, 1, .aload_n 0, 0, 0, 0, .null), (1, 1, .iload_n 1, 1, 0, 0, .null), (2, 3, .invokevirtual 441, 199, 2, 33, .null), (5, 3, .ifCond .eq 15, 20, 0, 0, .null), (8, 1, .aload_n 0, 0, 0, 0, .null), (9, 1, .iload_n 1, 1, 0, 0, .null), (10, 3, .invokevirtual 450, 205, 2, 33, .null), (13, 3, .ifCond .ne 7, 20, 0, 0, .null), (16, 1, .iconst 1, 0, 0, 0, .int (1)), (17, 3, .goto 4, 21, 0, 0, .null), (20, 1, .iconst 0, 0, 0, 0, .int (0)), (21, 1, .ireturn, 0, 0, 2, .null)]
def kX8_thinkRead : List zE := [(0, 1, .aload_n 0, 0, 0, 0, .null), (1, 3, .invokevirtual 447, 200, 1, 32, .null), (4, 1, .aload_n 0, 0, 0, 0, .null), (5, 1, .iload_n 1, 1, 0, 0, .null), (6, 1, .iload_n 2, 2, 0, 0, .null), (7, 3, .invokevirtual 428, 208, 3, 33, .null), (10, 1, .ireturn, 0, 0, 2, .null)]
def kX8_carries : List zE := [(0, 1, .aload_n 0, 0, 0, 0, .null), (1, 1, .iload_n 1, 1, 0, 0, .null), (2, 3, .invokevirtual 466, 223, 2, 33, .null), (5, 3, .ifCond .eq 23, 28, 0, 0, .null), (8, 1, .aload_n 0, 0, 0, 0, .null), (9, 1, .aload_n 0, 0, 0, 0, .null), (10, 3, .getfield 60, 8, 33, 4, .null), (13, 1, .iload_n 1, 1, 0, 0, .null), (14, 1, .iaload, 0, 0, 0, .null), (15, 1, .iload_n 2, 2, 0, 0, .null), (16, 3, .invokestatic 288, 184, 1, 1, .null), (19, 3, .invokevirtual 469, 224, 3, 33, .null), (22, 3, .invokestatic 288, 184, 1, 1, .null), (25, 3, .goto 4, 29, 0, 0, .null), (28, 1, .iconst (-1), 0, 0, 0, .int (-1)), (29, 1, .ireturn, 0, 0, 0, .null)]
def kX8_shots : List zE := [(0, 1, .aload_n 0, 0, 0, 0, .null), (1, 1, .iload_n 1, 1, 0, 0, .null), (2, 3, .invokevirtual 466, 223, 2, 33, .null), (5, 3, .ifCond .ne 5, 10, 0, 0, .null), (8, 1, .iconst (-1), 0, 0, 0, .int (-1)), (9, 1, .ireturn, 0, 0, 0, .null), (10, 1, .aload_n 0, 0, 0, 0, .null), (11, 1, .aload_n 0, 0, 0, 0, .null), (12, 3, .getfield 60, 8, 33, 4, .null), (15, 1, .iload_n 1, 1, 0, 0, .null), (16, 1, .iaload, 0, 0, 0, .null), (17, 1, .iload_n 2, 2, 0, 0, .null), (18, 3, .invokestatic 288, 184, 1, 1, .null), (21, 3, .invokevirtual 469, 224, 3, 33, .null), (24, 1, .pop, 0, 0, 0, .null), (25, 1, .aload_n 0, 0, 0, 0, .null), (26, 3, .getfield 406, 8, 54, 0, .null), (29, 1, .ireturn, 0, 0, 0, .null)]
def kX8_backers : List zE := [(0, 1, .aload_n 0, 0, 0, 0, .null), (1, 1, .iload_n 1, 1, 0, 0, .null), (2, 3, .invokevirtual 466, 223, 2, 33, .null), (5, 3, .ifCond .ne 5, 10, 0, 0, .null), (8, 1, .iconst (-1), 0, 0, 0, .int (-1)), (9, 1, .ireturn, 0, 0, 0, .null), (10, 1, .aload_n 0, 0, 0, 0, .null), (11, 1, .aload_n 0, 0, 0, 0, .null), (12, 3, .getfield 60, 8, 33, 4, .null), (15, 1, .iload_n 1, 1, 0, 0, .null), (16, 1, .iaload, 0, 0, 0, .null), (17, 1, .iload_n 2, 2, 0, 0, .null), (18, 3, .invokestatic 288, 184, 1, 1, .null), (21, 3, .invokevirtual 469, 224, 3, 33, .null), (24, 1, .pop, 0, 0, 0, .null), (25, 1, .aload_n 0, 0, 0, 0, .null), (26, 3, .getfield 409, 8, 55, 0, .null), (29, 1, .ireturn, 0, 0, 0, .null)]
def kX8_will : List zE := [(0, 1, .aload_n 0, 0, 0, 0, .null), (1, 1, .iload_n 1, 1, 0, 0, .null), (2, 3, .invokevirtual 435, 198, 2, 33, .null), (5, 3, .ifCond .eq 22, 27, 0, 0, .null), (8, 1, .iload_n 2, 2, 0, 0, .null), (9, 1, .iconst 0, 0, 0, 0, .int (0)), (10, 2, .bipush 6, 0, 0, 0, .int (6)), (12, 3, .invokestatic 396, 197, 3, 1, .null), (15, 3, .ifCond .eq 12, 27, 0, 0, .null), (18, 1, .iload_n 3, 3, 0, 0, .null), (19, 1, .iconst 0, 0, 0, 0, .int (0)), (20, 1, .iconst 1, 0, 0, 0, .int (1)), (21, 3, .invokestatic 396, 197, 3, 1, .null), (24, 3, .ifCond .ne 5, 29, 0, 0, .null), (27, 1, .iconst (-1), 0, 0, 0, .int (-1)), (28, 1, .ireturn, 0, 0, 0, .null), (29, 1, .aload_n 0, 0, 0, 0, .null), (30, 3, .invokevirtual 447, 200, 1, 32, .null), (33, 1, .iconst 0, 0, 0, 0, .int (0)), (34, 2, .istore 4, 4, 0, 0, .null), (36, 1, .iconst 0, 0, 0, 0, .int (0)), (37, 2, .istore 5, 5, 0, 0, .null), (39, 2, .iload 5, 5, 0, 0, .null), (41, 1, .aload_n 0, 0, 0, 0, .null), (42, 3, .getfield 363, 8, 42, 0, .null), (45, 3, .if_icmp .ge 48, 93, 0, 0, .null), (48, 1, .aload_n 0, 0, 0, 0, .null), (49, 2, .iload 5, 5, 0, 0, .null), (51, 3, .invokevirtual 450, 205, 2, 33, .null), (54, 3, .ifCond .ne 33, 87, 0, 0, .null), (57, 2, .iload 4, 4, 0, 0, .null), (59, 1, .iload_n 2, 2, 0, 0, .null), (60, 3, .if_icmp .ne 6, 66, 0, 0, .null), (63, 3, .goto 24, 87, 0, 0, .null), (66, 1, .aload_n 0, 0, 0, 0, .null), (67, 2, .iload 5, 5, 0, 0, .null), (69, 1, .iconst 0, 0, 0, 0, .int (0)), (70, 1, .iload_n 3, 3, 0, 0, .null), (71, 1, .iconst 1, 0, 0, 0, .int (1)), (72, 3, .if_icmp .ne 7, 79, 0, 0, .null), (75, 1, .iconst 1, 0, 0, 0, .int (1)), (76, 3, .goto 4, 80, 0, 0, .null), (79, 1, .iconst 0, 0, 0, 0, .int (0)), (80, 3, .invokevirtual 456, 210, 4, 33, .null), (83, 1, .pop, 0, 0, 0, .null), (84, 3, .iinc 4 1, 4, 0, 0, .int (1)), (87, 3, .iinc 5 1, 5, 0, 0, .int (1)), (90, 3, .goto (-51), 39, 0, 0, .null), (93, 1, .aload_n 0, 0, 0, 0, .null), (94, 3, .getfield 72, 8, 53, 4, .null), (97, 1, .iload_n 1, 1, 0, 0, .null), (98, 1, .iaload, 0, 0, 0, .null), (99, 1, .ireturn, 0, 0, 0, .null)]
def kX8_carriedBy : List zE := [(0, 1, .iconst 0, 0, 0, 0, .int (0)), (1, 1, .istore_n 2, 2, 0, 0, .null), (2, 1, .iconst 0, 0, 0, 0, .int (0)), (3, 1, .istore_n 3, 3, 0, 0, .null), (4, 1, .iload_n 3, 3, 0, 0, .null), (5, 1, .aload_n 0, 0, 0, 0, .null), (6, 3, .getfield 363, 8, 42, 0, .null), (9, 3, .if_icmp .ge 34, 43, 0, 0, .null), (12, 1, .aload_n 0, 0, 0, 0, .null), (13, 1, .iload_n 3, 3, 0, 0, .null), (14, 3, .invokevirtual 450, 205, 2, 33, .null), (17, 3, .ifCond .ne 20, 37, 0, 0, .null), (20, 1, .iload_n 2, 2, 0, 0, .null), (21, 1, .aload_n 0, 0, 0, 0, .null), (22, 1, .iload_n 3, 3, 0, 0, .null), (23, 1, .iload_n 1, 1, 0, 0, .null), (24, 1, .iload_n 3, 3, 0, 0, .null), (25, 1, .ishr, 0, 0, 0, .null), (26, 1, .iconst 1, 0, 0, 0, .int (1)), (27, 1, .iand, 0, 0, 0, .null), (28, 1, .iconst 0, 0, 0, 0, .int (0)), (29, 3, .invokevirtual 456, 210, 4, 33, .null), (32, 3, .invokestatic 288, 184, 1, 1, .null), (35, 1, .iadd, 0, 0, 0, .null), (36, 1, .istore_n 2, 2, 0, 0, .null), (37, 3, .iinc 3 1, 3, 0, 0, .int (1)), (40, 3, .goto (-36), 4, 0, 0, .null), (43, 1, .iload_n 2, 2, 0, 0, .null), (44, 1, .ireturn, 0, 0, 0, .null)]
def kX8_allOn : List zE := [(0, 1, .iload_n 0, 0, 0, 0, .null), (1, 3, .ifCond .eq 8, 9, 0, 0, .null), (4, 2, .bipush 63, 0, 0, 0, .int (63)), (6, 3, .goto 4, 10, 0, 0, .null), (9, 1, .iconst 0, 0, 0, 0, .int (0)), (10, 1, .ireturn, 0, 0, 0, .null)]
def kX8_nextRow : List zE := [(0, 1, .aload_n 0, 0, 0, 0, .null), (1, 3, .getfield 472, 8, 63, 0, .null), (4, 1, .iconst 2, 0, 0, 0, .int (2)), (5, 1, .isub, 0, 0, 0, .null), (6, 1, .istore_n 1, 1, 0, 0, .null), (7, 1, .iload_n 1, 1, 0, 0, .null), (8, 3, .ifCond .lt 26, 34, 0, 0, .null), (11, 1, .aload_n 0, 0, 0, 0, .null), (12, 3, .getfield 84, 8, 61, 4, .null), (15, 1, .iload_n 1, 1, 0, 0, .null), (16, 1, .iaload, 0, 0, 0, .null), (17, 1, .aload_n 0, 0, 0, 0, .null), (18, 3, .getfield 84, 8, 61, 4, .null), (21, 1, .iload_n 1, 1, 0, 0, .null), (22, 1, .iconst 1, 0, 0, 0, .int (1)), (23, 1, .iadd, 0, 0, 0, .null), (24, 1, .iaload, 0, 0, 0, .null), (25, 3, .if_icmp .le 9, 34, 0, 0, .null), (28, 3, .iinc 1 (-1), 1, 0, 0, .int (-1)), (31, 3, .goto (-24), 7, 0, 0, .null), (34, 1, .iload_n 1, 1, 0, 0, .null), (35, 3, .ifCond .ge 5, 40, 0, 0, .null), (38, 1, .iconst 0, 0, 0, 0, .int (0)), (39, 1, .ireturn, 0, 0, 2, .null), (40, 1, .aload_n 0, 0, 0, 0, .null), (41, 3, .getfield 472, 8, 63, 0, .null), (44, 1, .iconst 1, 0, 0, 0, .int (1)), (45, 1, .isub, 0, 0, 0, .null), (46, 1, .istore_n 2, 2, 0, 0, .null), (47, 1, .aload_n 0, 0, 0, 0, .null), (48, 3, .getfield 84, 8, 61, 4, .null), (51, 1, .iload_n 2, 2, 0, 0, .null), (52, 1, .iaload, 0, 0, 0, .null), (53, 1, .aload_n 0, 0, 0, 0, .null), (54, 3, .getfield 84, 8, 61, 4, .null), (57, 1, .iload_n 1, 1, 0, 0, .null), (58, 1, .iaload, 0, 0, 0, .null), (59, 3, .if_icmp .ge 9, 68, 0, 0, .null), (62, 3, .iinc 2 (-1), 2, 0, 0, .int (-1)), (65, 3, .goto (-18), 47, 0, 0, .null), (68, 1, .aload_n 0, 0, 0, 0, .null), (69, 1, .iload_n 1, 1, 0, 0, .null), (70, 1, .iload_n 2, 2, 0, 0, .null), (71, 3, .invokevirtual 475, 232, 3, 32, .null), (74, 1, .iload_n 1, 1, 0, 0, .null), (75, 1, .iconst 1, 0, 0, 0, .int (1)), (76, 1, .iadd, 0, 0, 0, .null), (77, 1, .istore_n 3, 3, 0, 0, .null), (78, 1, .aload_n 0, 0, 0, 0, .null), (79, 3, .getfield 472, 8, 63, 0, .null), (82, 1, .iconst 1, 0, 0, 0, .int (1)), (83, 1, .isub, 0, 0, 0, .null), (84, 2, .istore 4, 4, 0, 0, .null), (86, 1, .iload_n 3, 3, 0, 0, .null), (87, 2, .iload 4, 4, 0, 0, .null), (89, 3, .if_icmp .ge 19, 108, 0, 0, .null), (92, 1, .aload_n 0, 0, 0, 0, .null), (93, 1, .iload_n 3, 3, 0, 0, .null), (94, 2, .iload 4, 4, 0, 0, .null), (96, 3, .invokevirtual 475, 232, 3, 32, .null), (99, 3, .iinc 3 1, 3, 0, 0, .int (1)), (102, 3, .iinc 4 (-1), 4, 0, 0, .int (-1)), (105, 3, .goto (-19), 86, 0, 0, .null), (108, 1, .iconst 1, 0, 0, 0, .int (1)), (109, 1, .ireturn, 0, 0, 2, .null)]
def kX8_exchangeInRow : List zE := [(0, 1, .aload_n 0, 0, 0, 0, .null), (1, 3, .getfield 84, 8, 61, 4, .null), (4, 1, .iload_n 1, 1, 0, 0, .null), (5, 1, .iaload, 0, 0, 0, .null), (6, 1, .istore_n 3, 3, 0, 0, .null), (7, 1, .aload_n 0, 0, 0, 0, .null), (8, 3, .getfield 84, 8, 61, 4, .null), (11, 1, .iload_n 1, 1, 0, 0, .null), (12, 1, .aload_n 0, 0, 0, 0, .null), (13, 3, .getfield 84, 8, 61, 4, .null), (16, 1, .iload_n 2, 2, 0, 0, .null), (17, 1, .iaload, 0, 0, 0, .null), (18, 1, .iastore, 0, 0, 0, .null), (19, 1, .aload_n 0, 0, 0, 0, .null), (20, 3, .getfield 84, 8, 61, 4, .null), (23, 1, .iload_n 2, 2, 0, 0, .null), (24, 1, .iload_n 3, 3, 0, 0, .null), (25, 1, .iastore, 0, 0, 0, .null), (26, 1, .return_, 0, 0, 0, .null)]
def kX8_agenda : List zE := [(0, 1, .aload_n 0, 0, 0, 0, .null), (1, 1, .iconst 0, 0, 0, 0, .int (0)), (2, 3, .putfield 472, 8, 63, 0, .null), (5, 1, .iconst 0, 0, 0, 0, .int (0)), (6, 1, .istore_n 2, 2, 0, 0, .null), (7, 1, .iload_n 2, 2, 0, 0, .null), (8, 1, .aload_n 0, 0, 0, 0, .null), (9, 3, .getfield 363, 8, 42, 0, .null), (12, 3, .if_icmp .ge 40, 52, 0, 0, .null), (15, 1, .aload_n 0, 0, 0, 0, .null), (16, 1, .iload_n 2, 2, 0, 0, .null), (17, 3, .invokevirtual 450, 205, 2, 33, .null), (20, 3, .ifCond .eq 6, 26, 0, 0, .null), (23, 3, .goto 23, 46, 0, 0, .null), (26, 1, .aload_n 0, 0, 0, 0, .null), (27, 3, .getfield 84, 8, 61, 4, .null), (30, 1, .aload_n 0, 0, 0, 0, .null), (31, 3, .getfield 472, 8, 63, 0, .null), (34, 1, .iload_n 2, 2, 0, 0, .null), (35, 1, .iastore, 0, 0, 0, .null), (36, 1, .aload_n 0, 0, 0, 0, .null), (37, 1, .dup, 0, 0, 0, .null), (38, 3, .getfield 472, 8, 63, 0, .null), (41, 1, .iconst 1, 0, 0, 0, .int (1)), (42, 1, .iadd, 0, 0, 0, .null), (43, 3, .putfield 472, 8, 63, 0, .null), (46, 3, .iinc 2 1, 2, 0, 0, .int (1)), (49, 3, .goto (-42), 7, 0, 0, .null), (52, 1, .iconst (-1), 0, 0, 0, .int (-1)), (53, 1, .istore_n 2, 2, 0, 0, .null), (54, 1, .iconst 1, 0, 0, 0, .int (1)), (55, 1, .istore_n 3, 3, 0, 0, .null), (56, 1, .iload_n 3, 3, 0, 0, .null), (57, 3, .ifCond .eq 101, 158, 0, 0, .null), (60, 1, .aload_n 0, 0, 0, 0, .null), (61, 3, .invokevirtual 447, 200, 1, 32, .null), (64, 1, .iconst 0, 0, 0, 0, .int (0)), (65, 2, .istore 4, 4, 0, 0, .null), (67, 1, .iconst 0, 0, 0, 0, .int (0)), (68, 2, .istore 5, 5, 0, 0, .null), (70, 2, .iload 5, 5, 0, 0, .null), (72, 1, .aload_n 0, 0, 0, 0, .null), (73, 3, .getfield 472, 8, 63, 0, .null), (76, 3, .if_icmp .ge 33, 109, 0, 0, .null), (79, 2, .iload 4, 4, 0, 0, .null), (81, 1, .aload_n 0, 0, 0, 0, .null), (82, 1, .aload_n 0, 0, 0, 0, .null), (83, 3, .getfield 84, 8, 61, 4, .null), (86, 2, .iload 5, 5, 0, 0, .null), (88, 1, .iaload, 0, 0, 0, .null), (89, 1, .iload_n 1, 1, 0, 0, .null), (90, 3, .invokestatic 288, 184, 1, 1, .null), (93, 1, .iconst 0, 0, 0, 0, .int (0)), (94, 3, .invokevirtual 456, 210, 4, 33, .null), (97, 3, .invokestatic 288, 184, 1, 1, .null), (100, 1, .iadd, 0, 0, 0, .null), (101, 2, .istore 4, 4, 0, 0, .null), (103, 3, .iinc 5 1, 5, 0, 0, .int (1)), (106, 3, .goto (-36), 70, 0, 0, .null), (109, 2, .iload 4, 4, 0, 0, .null), (111, 1, .iload_n 2, 2, 0, 0, .null), (112, 3, .if_icmp .le 38, 150, 0, 0, .null), (115, 2, .iload 4, 4, 0, 0, .null), (117, 1, .istore_n 2, 2, 0, 0, .null), (118, 1, .iconst 0, 0, 0, 0, .int (0)), (119, 2, .istore 5, 5, 0, 0, .null), (121, 2, .iload 5, 5, 0, 0, .null), (123, 1, .aload_n 0, 0, 0, 0, .null), (124, 3, .getfield 472, 8, 63, 0, .null), (127, 3, .if_icmp .ge 23, 150, 0, 0, .null), (130, 1, .aload_n 0, 0, 0, 0, .null), (131, 3, .getfield 81, 8, 60, 4, .null), (134, 2, .iload 5, 5, 0, 0, .null), (136, 1, .aload_n 0, 0, 0, 0, .null), (137, 3, .getfield 84, 8, 61, 4, .null), (140, 2, .iload 5, 5, 0, 0, .null), (142, 1, .iaload, 0, 0, 0, .null), (143, 1, .iastore, 0, 0, 0, .null), (144, 3, .iinc 5 1, 5, 0, 0, .int (1)), (147, 3, .goto (-26), 121, 0, 0, .null), (150, 1, .aload_n 0, 0, 0, 0, .null), (151, 3, .invokevirtual 478, 231, 1, 33, .null), (154, 1, .istore_n 3, 3, 0, 0, .null), (155, 3, .goto (-99), 56, 0, 0, .null), (158, 1, .aload_n 0, 0, 0, 0, .null), (159, 1, .aload_n 0, 0, 0, 0, .null), (160, 3, .getfield 472, 8, 63, 0, .null), (163, 3, .putfield 393, 8, 62, 0, .null), (166, 1, .iload_n 2, 2, 0, 0, .null), (167, 1, .ireturn, 0, 0, 0, .null)]
def kX8_tones : List zE := [(0, 1, .iload_n 1, 1, 0, 0, .null), (1, 1, .iconst 0, 0, 0, 0, .int (0)), (2, 1, .iconst 1, 0, 0, 0, .int (1)), (3, 3, .invokestatic 396, 197, 3, 1, .null), (6, 3, .ifCond .ne 5, 11, 0, 0, .null), (9, 1, .iconst (-1), 0, 0, 0, .int (-1)), (10, 1, .ireturn, 0, 0, 0, .null), (11, 1, .iconst 1, 0, 0, 0, .int (1)), (12, 1, .aload_n 0, 0, 0, 0, .null), (13, 3, .getfield 363, 8, 42, 0, .null), (16, 1, .ishl, 0, 0, 0, .null), (17, 1, .iconst 1, 0, 0, 0, .int (1)), (18, 1, .isub, 0, 0, 0, .null), (19, 1, .aload_n 0, 0, 0, 0, .null), (20, 3, .getfield 69, 8, 52, 4, .null), (23, 2, .bipush 8, 0, 0, 0, .int (8)), (25, 1, .iaload, 0, 0, 0, .null), (26, 1, .iconst (-1), 0, 0, 0, .int (-1)), (27, 1, .ixor, 0, 0, 0, .null), (28, 1, .iand, 0, 0, 0, .null), (29, 1, .istore_n 2, 2, 0, 0, .null), (30, 1, .iconst 0, 0, 0, 0, .int (0)), (31, 1, .istore_n 3, 3, 0, 0, .null), (32, 1, .iconst (-1), 0, 0, 0, .int (-1)), (33, 2, .istore 4, 4, 0, 0, .null), (35, 1, .iconst 0, 0, 0, 0, .int (0)), (36, 2, .istore 5, 5, 0, 0, .null), (38, 2, .iload 5, 5, 0, 0, .null), (40, 1, .iload_n 2, 2, 0, 0, .null), (41, 3, .if_icmp .gt 69, 110, 0, 0, .null), (44, 2, .iload 5, 5, 0, 0, .null), (46, 1, .iload_n 2, 2, 0, 0, .null), (47, 1, .iconst (-1), 0, 0, 0, .int (-1)), (48, 1, .ixor, 0, 0, 0, .null), (49, 1, .iand, 0, 0, 0, .null), (50, 3, .ifCond .eq 6, 56, 0, 0, .null), (53, 3, .goto 51, 104, 0, 0, .null), (56, 1, .aload_n 0, 0, 0, 0, .null), (57, 3, .invokevirtual 447, 200, 1, 32, .null), (60, 1, .aload_n 0, 0, 0, 0, .null), (61, 2, .iload 5, 5, 0, 0, .null), (63, 3, .invokevirtual 481, 229, 2, 33, .null), (66, 2, .istore 6, 6, 0, 0, .null), (68, 2, .iload 6, 6, 0, 0, .null), (70, 2, .iload 4, 4, 0, 0, .null), (72, 3, .if_icmp .lt 32, 104, 0, 0, .null), (75, 2, .iload 6, 6, 0, 0, .null), (77, 2, .iload 4, 4, 0, 0, .null), (79, 3, .if_icmp .ne 18, 97, 0, 0, .null), (82, 2, .iload 5, 5, 0, 0, .null), (84, 3, .invokestatic 403, 189, 1, 1, .null), (87, 1, .iload_n 3, 3, 0, 0, .null), (88, 3, .invokestatic 403, 189, 1, 1, .null), (91, 3, .if_icmp .lt 6, 97, 0, 0, .null), (94, 3, .goto 10, 104, 0, 0, .null), (97, 2, .iload 5, 5, 0, 0, .null), (99, 1, .istore_n 3, 3, 0, 0, .null), (100, 2, .iload 6, 6, 0, 0, .null), (102, 2, .istore 4, 4, 0, 0, .null), (104, 3, .iinc 5 1, 5, 0, 0, .int (1)), (107, 3, .goto (-69), 38, 0, 0, .null), (110, 1, .iload_n 1, 1, 0, 0, .null), (111, 3, .ifCond .ne 8, 119, 0, 0, .null), (114, 2, .iload 4, 4, 0, 0, .null), (116, 3, .goto 4, 120, 0, 0, .null), (119, 1, .iload_n 3, 3, 0, 0, .null), (120, 1, .ireturn, 0, 0, 0, .null)]
def kX8_lost : List zE := [(0, 1, .aload_n 0, 0, 0, 0, .null), (1, 3, .invokevirtual 447, 200, 1, 32, .null), (4, 1, .iconst 0, 0, 0, 0, .int (0)), (5, 1, .istore_n 2, 2, 0, 0, .null), (6, 1, .iload_n 2, 2, 0, 0, .null), (7, 1, .aload_n 0, 0, 0, 0, .null), (8, 3, .getfield 363, 8, 42, 0, .null), (11, 3, .if_icmp .ge 32, 43, 0, 0, .null), (14, 1, .aload_n 0, 0, 0, 0, .null), (15, 1, .iload_n 2, 2, 0, 0, .null), (16, 3, .invokevirtual 450, 205, 2, 33, .null), (19, 3, .ifCond .ne 18, 37, 0, 0, .null), (22, 1, .aload_n 0, 0, 0, 0, .null), (23, 1, .iload_n 2, 2, 0, 0, .null), (24, 1, .iload_n 1, 1, 0, 0, .null), (25, 3, .invokestatic 288, 184, 1, 1, .null), (28, 1, .iconst 0, 0, 0, 0, .int (0)), (29, 3, .invokevirtual 456, 210, 4, 33, .null), (32, 3, .ifCond .ne 5, 37, 0, 0, .null), (35, 1, .iload_n 2, 2, 0, 0, .null), (36, 1, .ireturn, 0, 0, 0, .null), (37, 3, .iinc 2 1, 2, 0, 0, .int (1)), (40, 3, .goto (-34), 6, 0, 0, .null), (43, 1, .iconst (-1), 0, 0, 0, .int (-1)), (44, 1, .ireturn, 0, 0, 0, .null)]
def kX8_isEnough : List zE := [(0, 1, .aload_n 0, 0, 0, 0, .null), (1, 1, .iload_n 1, 1, 0, 0, .null), (2, 3, .invokevirtual 422, 207, 2, 33, .null), (5, 1, .aload_n 0, 0, 0, 0, .null), (6, 3, .getfield 66, 8, 45, 0, .null), (9, 3, .if_icmp .lt 7, 16, 0, 0, .null), (12, 1, .iconst 1, 0, 0, 0, .int (1)), (13, 3, .goto 4, 17, 0, 0, .null), (16, 1, .iconst 0, 0, 0, 0, .int (0)), (17, 1, .ireturn, 0, 0, 2, .null)]
def kX8_tiltsAt : List zE := [(0, 1, .iload_n 2, 2, 0, 0, .null), (1, 1, .iload_n 1, 1, 0, 0, .null), (2, 1, .ishr, 0, 0, 0, .null), (3, 1, .iconst 1, 0, 0, 0, .int (1)), (4, 1, .iand, 0, 0, 0, .null), (5, 3, .ifCond .ne 27, 32, 0, 0, .null), (8, 1, .aload_n 0, 0, 0, 0, .null), (9, 1, .iload_n 2, 2, 0, 0, .null), (10, 3, .invokevirtual 484, 236, 2, 33, .null), (13, 3, .ifCond .ne 19, 32, 0, 0, .null), (16, 1, .aload_n 0, 0, 0, 0, .null), (17, 1, .iload_n 2, 2, 0, 0, .null), (18, 1, .iconst 1, 0, 0, 0, .int (1)), (19, 1, .iload_n 1, 1, 0, 0, .null), (20, 1, .ishl, 0, 0, 0, .null), (21, 1, .ior, 0, 0, 0, .null), (22, 3, .invokevirtual 484, 236, 2, 33, .null), (25, 3, .ifCond .eq 7, 32, 0, 0, .null), (28, 1, .iconst 1, 0, 0, 0, .int (1)), (29, 3, .goto 4, 33, 0, 0, .null), (32, 1, .iconst 0, 0, 0, 0, .int (0)), (33, 1, .ireturn, 0, 0, 2, .null)]
def kX8_orders : List zE := [(0, 1, .iconst 1, 0, 0, 0, .int (1)), (1, 1, .istore_n 1, 1, 0, 0, .null), (2, 1, .iconst 2, 0, 0, 0, .int (2)), (3, 1, .istore_n 2, 2, 0, 0, .null), (4, 1, .iload_n 2, 2, 0, 0, .null), (5, 1, .iload_n 0, 0, 0, 0, .null), (6, 3, .if_icmp .gt 13, 19, 0, 0, .null), (9, 1, .iload_n 1, 1, 0, 0, .null), (10, 1, .iload_n 2, 2, 0, 0, .null), (11, 1, .imul, 0, 0, 0, .null), (12, 1, .istore_n 1, 1, 0, 0, .null), (13, 3, .iinc 2 1, 2, 0, 0, .int (1)), (16, 3, .goto (-12), 4, 0, 0, .null), (19, 1, .iload_n 1, 1, 0, 0, .null), (20, 1, .ireturn, 0, 0, 0, .null)]
def kX8_tips : List zE := [(0, 1, .aload_n 0, 0, 0, 0, .null), (1, 1, .iload_n 1, 1, 0, 0, .null), (2, 3, .invokevirtual 435, 198, 2, 33, .null), (5, 3, .ifCond .ne 5, 10, 0, 0, .null), (8, 1, .iconst (-1), 0, 0, 0, .int (-1)), (9, 1, .ireturn, 0, 0, 0, .null), (10, 1, .iconst 0, 0, 0, 0, .int (0)), (11, 1, .istore_n 2, 2, 0, 0, .null), (12, 1, .iconst 0, 0, 0, 0, .int (0)), (13, 1, .istore_n 3, 3, 0, 0, .null), (14, 1, .iload_n 3, 3, 0, 0, .null), (15, 1, .iconst 1, 0, 0, 0, .int (1)), (16, 1, .aload_n 0, 0, 0, 0, .null), (17, 3, .getfield 360, 8, 41, 0, .null), (20, 1, .ishl, 0, 0, 0, .null), (21, 3, .if_icmp .ge 43, 64, 0, 0, .null), (24, 1, .aload_n 0, 0, 0, 0, .null), (25, 1, .iload_n 1, 1, 0, 0, .null), (26, 1, .iload_n 3, 3, 0, 0, .null), (27, 3, .invokevirtual 487, 237, 3, 33, .null), (30, 3, .ifCond .eq 28, 58, 0, 0, .null), (33, 1, .iload_n 2, 2, 0, 0, .null), (34, 1, .iload_n 3, 3, 0, 0, .null), (35, 3, .invokestatic 403, 189, 1, 1, .null), (38, 3, .invokestatic 490, 238, 1, 1, .null), (41, 1, .aload_n 0, 0, 0, 0, .null), (42, 3, .getfield 360, 8, 41, 0, .null), (45, 1, .iconst 1, 0, 0, 0, .int (1)), (46, 1, .isub, 0, 0, 0, .null), (47, 1, .iload_n 3, 3, 0, 0, .null), (48, 3, .invokestatic 403, 189, 1, 1, .null), (51, 1, .isub, 0, 0, 0, .null), (52, 3, .invokestatic 490, 238, 1, 1, .null), (55, 1, .imul, 0, 0, 0, .null), (56, 1, .iadd, 0, 0, 0, .null), (57, 1, .istore_n 2, 2, 0, 0, .null), (58, 3, .iinc 3 1, 3, 0, 0, .int (1)), (61, 3, .goto (-47), 14, 0, 0, .null), (64, 1, .iload_n 2, 2, 0, 0, .null), (65, 1, .ireturn, 0, 0, 0, .null)]
def kX8_tilts : List zE := [(0, 1, .aload_n 0, 0, 0, 0, .null), (1, 1, .iload_n 1, 1, 0, 0, .null), (2, 3, .invokevirtual 435, 198, 2, 33, .null), (5, 3, .ifCond .ne 5, 10, 0, 0, .null), (8, 1, .iconst (-1), 0, 0, 0, .int (-1)), (9, 1, .ireturn, 0, 0, 0, .null), (10, 1, .iconst 0, 0, 0, 0, .int (0)), (11, 1, .istore_n 2, 2, 0, 0, .null), (12, 1, .iconst 0, 0, 0, 0, .int (0)), (13, 1, .istore_n 3, 3, 0, 0, .null), (14, 1, .iload_n 3, 3, 0, 0, .null), (15, 1, .iconst 1, 0, 0, 0, .int (1)), (16, 1, .aload_n 0, 0, 0, 0, .null), (17, 3, .getfield 360, 8, 41, 0, .null), (20, 1, .ishl, 0, 0, 0, .null), (21, 3, .if_icmp .ge 21, 42, 0, 0, .null), (24, 1, .iload_n 2, 2, 0, 0, .null), (25, 1, .aload_n 0, 0, 0, 0, .null), (26, 1, .iload_n 1, 1, 0, 0, .null), (27, 1, .iload_n 3, 3, 0, 0, .null), (28, 3, .invokevirtual 487, 237, 3, 33, .null), (31, 3, .invokestatic 288, 184, 1, 1, .null), (34, 1, .iadd, 0, 0, 0, .null), (35, 1, .istore_n 2, 2, 0, 0, .null), (36, 3, .iinc 3 1, 3, 0, 0, .int (1)), (39, 3, .goto (-25), 14, 0, 0, .null), (42, 1, .iload_n 2, 2, 0, 0, .null), (43, 1, .ireturn, 0, 0, 0, .null)]
def kX8_league : List zE := [(0, 1, .aload_n 0, 0, 0, 0, .null), (1, 1, .iload_n 1, 1, 0, 0, .null), (2, 3, .invokevirtual 435, 198, 2, 33, .null), (5, 3, .ifCond .eq 12, 17, 0, 0, .null), (8, 1, .iload_n 2, 2, 0, 0, .null), (9, 1, .iconst 0, 0, 0, 0, .int (0)), (10, 1, .iconst 1, 0, 0, 0, .int (1)), (11, 3, .invokestatic 396, 197, 3, 1, .null), (14, 3, .ifCond .ne 5, 19, 0, 0, .null), (17, 1, .iconst (-1), 0, 0, 0, .int (-1)), (18, 1, .ireturn, 0, 0, 0, .null), (19, 1, .iconst (-1), 0, 0, 0, .int (-1)), (20, 1, .istore_n 3, 3, 0, 0, .null), (21, 1, .iconst 0, 0, 0, 0, .int (0)), (22, 2, .istore 4, 4, 0, 0, .null), (24, 2, .iload 4, 4, 0, 0, .null), (26, 1, .iconst 1, 0, 0, 0, .int (1)), (27, 1, .aload_n 0, 0, 0, 0, .null), (28, 3, .getfield 360, 8, 41, 0, .null), (31, 1, .ishl, 0, 0, 0, .null), (32, 3, .if_icmp .ge 47, 79, 0, 0, .null), (35, 2, .iload 4, 4, 0, 0, .null), (37, 1, .iload_n 1, 1, 0, 0, .null), (38, 1, .ishr, 0, 0, 0, .null), (39, 1, .iconst 1, 0, 0, 0, .int (1)), (40, 1, .iand, 0, 0, 0, .null), (41, 1, .iconst 1, 0, 0, 0, .int (1)), (42, 3, .if_icmp .ne 31, 73, 0, 0, .null), (45, 1, .aload_n 0, 0, 0, 0, .null), (46, 2, .iload 4, 4, 0, 0, .null), (48, 3, .invokevirtual 484, 236, 2, 33, .null), (51, 3, .ifCond .eq 22, 73, 0, 0, .null), (54, 1, .iload_n 3, 3, 0, 0, .null), (55, 3, .ifCond .lt 15, 70, 0, 0, .null), (58, 2, .iload 4, 4, 0, 0, .null), (60, 3, .invokestatic 403, 189, 1, 1, .null), (63, 1, .iload_n 3, 3, 0, 0, .null), (64, 3, .invokestatic 403, 189, 1, 1, .null), (67, 3, .if_icmp .ge 6, 73, 0, 0, .null), (70, 2, .iload 4, 4, 0, 0, .null), (72, 1, .istore_n 3, 3, 0, 0, .null), (73, 3, .iinc 4 1, 4, 0, 0, .int (1)), (76, 3, .goto (-52), 24, 0, 0, .null), (79, 1, .iload_n 3, 3, 0, 0, .null), (80, 3, .ifCond .ge 7, 87, 0, 0, .null), (83, 1, .iconst (-1), 0, 0, 0, .int (-1)), (84, 3, .goto 15, 99, 0, 0, .null), (87, 1, .iload_n 2, 2, 0, 0, .null), (88, 3, .ifCond .ne 10, 98, 0, 0, .null), (91, 1, .iload_n 3, 3, 0, 0, .null), (92, 3, .invokestatic 403, 189, 1, 1, .null), (95, 3, .goto 4, 99, 0, 0, .null), (98, 1, .iload_n 3, 3, 0, 0, .null), (99, 1, .ireturn, 0, 0, 0, .null)]
def kX8_leagues : List zE := [(0, 1, .iconst 0, 0, 0, 0, .int (0)), (1, 1, .istore_n 1, 1, 0, 0, .null), (2, 1, .iconst 0, 0, 0, 0, .int (0)), (3, 1, .istore_n 2, 2, 0, 0, .null), (4, 1, .iload_n 2, 2, 0, 0, .null), (5, 1, .iconst 1, 0, 0, 0, .int (1)), (6, 1, .aload_n 0, 0, 0, 0, .null), (7, 3, .getfield 360, 8, 41, 0, .null), (10, 1, .ishl, 0, 0, 0, .null), (11, 3, .if_icmp .ge 74, 85, 0, 0, .null), (14, 1, .aload_n 0, 0, 0, 0, .null), (15, 1, .iload_n 2, 2, 0, 0, .null), (16, 3, .invokevirtual 484, 236, 2, 33, .null), (19, 1, .istore_n 3, 3, 0, 0, .null), (20, 1, .iconst 0, 0, 0, 0, .int (0)), (21, 2, .istore 4, 4, 0, 0, .null), (23, 2, .iload 4, 4, 0, 0, .null), (25, 1, .aload_n 0, 0, 0, 0, .null), (26, 3, .getfield 360, 8, 41, 0, .null), (29, 3, .if_icmp .ge 43, 72, 0, 0, .null), (32, 1, .iload_n 3, 3, 0, 0, .null), (33, 3, .ifCond .eq 31, 64, 0, 0, .null), (36, 1, .iload_n 2, 2, 0, 0, .null), (37, 2, .iload 4, 4, 0, 0, .null), (39, 1, .ishr, 0, 0, 0, .null), (40, 1, .iconst 1, 0, 0, 0, .int (1)), (41, 1, .iand, 0, 0, 0, .null), (42, 3, .ifCond .eq 18, 60, 0, 0, .null), (45, 1, .aload_n 0, 0, 0, 0, .null), (46, 1, .iload_n 2, 2, 0, 0, .null), (47, 1, .iconst 1, 0, 0, 0, .int (1)), (48, 2, .iload 4, 4, 0, 0, .null), (50, 1, .ishl, 0, 0, 0, .null), (51, 1, .iconst (-1), 0, 0, 0, .int (-1)), (52, 1, .ixor, 0, 0, 0, .null), (53, 1, .iand, 0, 0, 0, .null), (54, 3, .invokevirtual 484, 236, 2, 33, .null), (57, 3, .ifCond .ne 7, 64, 0, 0, .null), (60, 1, .iconst 1, 0, 0, 0, .int (1)), (61, 3, .goto 4, 65, 0, 0, .null), (64, 1, .iconst 0, 0, 0, 0, .int (0)), (65, 1, .istore_n 3, 3, 0, 0, .null), (66, 3, .iinc 4 1, 4, 0, 0, .int (1)), (69, 3, .goto (-46), 23, 0, 0, .null), (72, 1, .iload_n 1, 1, 0, 0, .null), (73, 1, .iload_n 3, 3, 0, 0, .null), (74, 3, .invokestatic 288, 184, 1, 1, .null), (77, 1, .iadd, 0, 0, 0, .null), (78, 1, .istore_n 1, 1, 0, 0, .null), (79, 3, .iinc 2 1, 2, 0, 0, .int (1)), (82, 3, .goto (-78), 4, 0, 0, .null), (85, 1, .iload_n 1, 1, 0, 0, .null), (86, 1, .ireturn, 0, 0, 0, .null)]
def kX8_vetoes : List zE := [(0, 1, .iconst 1, 0, 0, 0, .int (1)), (1, 1, .aload_n 0, 0, 0, 0, .null), (2, 3, .getfield 360, 8, 41, 0, .null), (5, 1, .ishl, 0, 0, 0, .null), (6, 1, .iconst 1, 0, 0, 0, .int (1)), (7, 1, .isub, 0, 0, 0, .null), (8, 1, .istore_n 1, 1, 0, 0, .null), (9, 1, .iconst 0, 0, 0, 0, .int (0)), (10, 1, .istore_n 2, 2, 0, 0, .null), (11, 1, .iconst 0, 0, 0, 0, .int (0)), (12, 1, .istore_n 3, 3, 0, 0, .null), (13, 1, .iload_n 3, 3, 0, 0, .null), (14, 1, .aload_n 0, 0, 0, 0, .null), (15, 3, .getfield 360, 8, 41, 0, .null), (18, 3, .if_icmp .ge 36, 54, 0, 0, .null), (21, 1, .iload_n 2, 2, 0, 0, .null), (22, 1, .aload_n 0, 0, 0, 0, .null), (23, 1, .iload_n 1, 1, 0, 0, .null), (24, 1, .iconst 1, 0, 0, 0, .int (1)), (25, 1, .iload_n 3, 3, 0, 0, .null), (26, 1, .ishl, 0, 0, 0, .null), (27, 1, .iconst (-1), 0, 0, 0, .int (-1)), (28, 1, .ixor, 0, 0, 0, .null), (29, 1, .iand, 0, 0, 0, .null), (30, 3, .invokevirtual 484, 236, 2, 33, .null), (33, 3, .ifCond .ne 7, 40, 0, 0, .null), (36, 1, .iconst 1, 0, 0, 0, .int (1)), (37, 3, .goto 4, 41, 0, 0, .null), (40, 1, .iconst 0, 0, 0, 0, .int (0)), (41, 3, .invokestatic 288, 184, 1, 1, .null), (44, 1, .iload_n 3, 3, 0, 0, .null), (45, 1, .ishl, 0, 0, 0, .null), (46, 1, .ior, 0, 0, 0, .null), (47, 1, .istore_n 2, 2, 0, 0, .null), (48, 3, .iinc 3 1, 3, 0, 0, .int (1)), (51, 3, .goto (-38), 13, 0, 0, .null), (54, 1, .iload_n 2, 2, 0, 0, .null), (55, 1, .ireturn, 0, 0, 0, .null)]
def kX8_areTwoOut : List zE := [(0, 1, .aload_n 0, 0, 0, 0, .null), (1, 1, .iload_n 1, 1, 0, 0, .null), (2, 3, .invokevirtual 435, 198, 2, 33, .null), (5, 3, .ifCond .eq 36, 41, 0, 0, .null), (8, 1, .aload_n 0, 0, 0, 0, .null), (9, 1, .iload_n 2, 2, 0, 0, .null), (10, 3, .invokevirtual 435, 198, 2, 33, .null), (13, 3, .ifCond .eq 28, 41, 0, 0, .null), (16, 1, .iload_n 1, 1, 0, 0, .null), (17, 1, .iload_n 2, 2, 0, 0, .null), (18, 3, .if_icmp .eq 23, 41, 0, 0, .null), (21, 1, .aload_n 0, 0, 0, 0, .null), (22, 1, .iload_n 1, 1, 0, 0, .null), (23, 3, .invokevirtual 438, 203, 2, 33, .null), (26, 3, .ifCond .eq 15, 41, 0, 0, .null), (29, 1, .aload_n 0, 0, 0, 0, .null), (30, 1, .iload_n 2, 2, 0, 0, .null), (31, 3, .invokevirtual 438, 203, 2, 33, .null), (34, 3, .ifCond .eq 7, 41, 0, 0, .null), (37, 1, .iconst 1, 0, 0, 0, .int (1)), (38, 3, .goto 4, 42, 0, 0, .null), (41, 1, .iconst 0, 0, 0, 0, .int (0)), (42, 1, .ireturn, 0, 0, 2, .null)]
def kX8_disarm : List zE := [(0, 1, .aload_n 0, 0, 0, 0, .null), (1, 1, .iload_n 1, 1, 0, 0, .null), (2, 1, .iload_n 2, 2, 0, 0, .null), (3, 3, .invokevirtual 493, 244, 3, 33, .null), (6, 3, .ifCond .eq 13, 19, 0, 0, .null), (9, 1, .iload_n 3, 3, 0, 0, .null), (10, 1, .iconst 0, 0, 0, 0, .int (0)), (11, 2, .bipush 99, 0, 0, 0, .int (99)), (13, 3, .invokestatic 396, 197, 3, 1, .null), (16, 3, .ifCond .ne 5, 21, 0, 0, .null), (19, 1, .iconst (-1), 0, 0, 0, .int (-1)), (20, 1, .ireturn, 0, 0, 0, .null), (21, 1, .aload_n 0, 0, 0, 0, .null), (22, 3, .getfield 69, 8, 52, 4, .null), (25, 1, .iload_n 1, 1, 0, 0, .null), (26, 1, .iaload, 0, 0, 0, .null), (27, 2, .istore 4, 4, 0, 0, .null), (29, 1, .aload_n 0, 0, 0, 0, .null), (30, 3, .getfield 69, 8, 52, 4, .null), (33, 1, .iload_n 2, 2, 0, 0, .null), (34, 1, .iaload, 0, 0, 0, .null), (35, 2, .istore 5, 5, 0, 0, .null), (37, 1, .iconst 0, 0, 0, 0, .int (0)), (38, 2, .istore 6, 6, 0, 0, .null), (40, 2, .iload 4, 4, 0, 0, .null), (42, 2, .iload 5, 5, 0, 0, .null), (44, 1, .iadd, 0, 0, 0, .null), (45, 3, .ifCond .le 42, 87, 0, 0, .null), (48, 2, .iload 4, 4, 0, 0, .null), (50, 2, .iload 5, 5, 0, 0, .null), (52, 3, .if_icmp .lt 9, 61, 0, 0, .null), (55, 3, .iinc 4 (-1), 4, 0, 0, .int (-1)), (58, 3, .goto 6, 64, 0, 0, .null), (61, 3, .iinc 5 (-1), 5, 0, 0, .int (-1)), (64, 3, .iinc 6 1, 6, 0, 0, .int (1)), (67, 2, .iload 4, 4, 0, 0, .null), (69, 2, .iload 5, 5, 0, 0, .null), (71, 1, .isub, 0, 0, 0, .null), (72, 1, .iload_n 3, 3, 0, 0, .null), (73, 3, .if_icmp .gt 12, 85, 0, 0, .null), (76, 2, .iload 5, 5, 0, 0, .null), (78, 2, .iload 4, 4, 0, 0, .null), (80, 1, .isub, 0, 0, 0, .null), (81, 1, .iload_n 3, 3, 0, 0, .null), (82, 3, .if_icmp .le (-42), 40, 0, 0, .null), (85, 1, .iconst (-1), 0, 0, 0, .int (-1)), (86, 1, .ireturn, 0, 0, 0, .null), (87, 2, .iload 6, 6, 0, 0, .null), (89, 1, .ireturn, 0, 0, 0, .null)]
def kX8_trusted : List zE := [(0, 1, .iload_n 0, 0, 0, 0, .null), (1, 1, .iconst 1, 0, 0, 0, .int (1)), (2, 3, .if_icmp .ne 18, 20, 0, 0, .null), (5, 1, .iconst 3, 0, 0, 0, .int (3)), (6, 1, .iload_n 1, 1, 0, 0, .null), (7, 1, .iconst 1, 0, 0, 0, .int (1)), (8, 3, .if_icmp .ne 7, 15, 0, 0, .null), (11, 1, .iconst 0, 0, 0, 0, .int (0)), (12, 3, .goto 4, 16, 0, 0, .null), (15, 1, .iload_n 2, 2, 0, 0, .null), (16, 1, .isub, 0, 0, 0, .null), (17, 3, .goto 13, 30, 0, 0, .null), (20, 1, .iload_n 1, 1, 0, 0, .null), (21, 1, .iconst 1, 0, 0, 0, .int (1)), (22, 3, .if_icmp .ne 7, 29, 0, 0, .null), (25, 1, .iconst 4, 0, 0, 0, .int (4)), (26, 3, .goto 4, 30, 0, 0, .null), (29, 1, .iconst 0, 0, 0, 0, .int (0)), (30, 1, .ireturn, 0, 0, 0, .null)]
def kX8_trust : List zE := [(0, 1, .aload_n 0, 0, 0, 0, .null), (1, 1, .iconst 0, 0, 0, 0, .int (0)), (2, 3, .putfield 393, 8, 62, 0, .null), (5, 1, .aload_n 0, 0, 0, 0, .null), (6, 1, .iload_n 1, 1, 0, 0, .null), (7, 1, .iload_n 2, 2, 0, 0, .null), (8, 3, .invokevirtual 493, 244, 3, 33, .null), (11, 3, .ifCond .ne 5, 16, 0, 0, .null), (14, 1, .iconst (-1), 0, 0, 0, .int (-1)), (15, 1, .ireturn, 0, 0, 0, .null), (16, 1, .iconst 0, 0, 0, 0, .int (0)), (17, 1, .istore_n 3, 3, 0, 0, .null), (18, 1, .iconst 0, 0, 0, 0, .int (0)), (19, 2, .istore 4, 4, 0, 0, .null), (21, 2, .iload 4, 4, 0, 0, .null), (23, 1, .iconst 4, 0, 0, 0, .int (4)), (24, 3, .if_icmp .ge 126, 150, 0, 0, .null), (27, 2, .iload 4, 4, 0, 0, .null), (29, 1, .iconst 2, 0, 0, 0, .int (2)), (30, 1, .idiv, 0, 0, 0, .null), (31, 2, .istore 5, 5, 0, 0, .null), (33, 2, .iload 4, 4, 0, 0, .null), (35, 1, .iconst 2, 0, 0, 0, .int (2)), (36, 1, .irem, 0, 0, 0, .null), (37, 2, .istore 6, 6, 0, 0, .null), (39, 1, .iconst 1, 0, 0, 0, .int (1)), (40, 2, .iload 5, 5, 0, 0, .null), (42, 1, .isub, 0, 0, 0, .null), (43, 2, .iload 6, 6, 0, 0, .null), (45, 1, .aload_n 0, 0, 0, 0, .null), (46, 3, .getfield 69, 8, 52, 4, .null), (49, 1, .iload_n 2, 2, 0, 0, .null), (50, 1, .iaload, 0, 0, 0, .null), (51, 3, .invokestatic 496, 246, 3, 1, .null), (54, 2, .iload 5, 5, 0, 0, .null), (56, 2, .iload 6, 6, 0, 0, .null), (58, 1, .aload_n 0, 0, 0, 0, .null), (59, 3, .getfield 69, 8, 52, 4, .null), (62, 1, .iload_n 2, 2, 0, 0, .null), (63, 1, .iaload, 0, 0, 0, .null), (64, 3, .invokestatic 496, 246, 3, 1, .null), (67, 3, .if_icmp .gt 38, 105, 0, 0, .null), (70, 1, .iconst 1, 0, 0, 0, .int (1)), (71, 2, .iload 6, 6, 0, 0, .null), (73, 1, .isub, 0, 0, 0, .null), (74, 2, .iload 5, 5, 0, 0, .null), (76, 1, .aload_n 0, 0, 0, 0, .null), (77, 3, .getfield 69, 8, 52, 4, .null), (80, 1, .iload_n 1, 1, 0, 0, .null), (81, 1, .iaload, 0, 0, 0, .null), (82, 3, .invokestatic 496, 246, 3, 1, .null), (85, 2, .iload 6, 6, 0, 0, .null), (87, 2, .iload 5, 5, 0, 0, .null), (89, 1, .aload_n 0, 0, 0, 0, .null), (90, 3, .getfield 69, 8, 52, 4, .null), (93, 1, .iload_n 1, 1, 0, 0, .null), (94, 1, .iaload, 0, 0, 0, .null), (95, 3, .invokestatic 496, 246, 3, 1, .null), (98, 3, .if_icmp .gt 7, 105, 0, 0, .null), (101, 1, .iconst 1, 0, 0, 0, .int (1)), (102, 3, .goto 4, 106, 0, 0, .null), (105, 1, .iconst 0, 0, 0, 0, .int (0)), (106, 2, .istore 7, 7, 0, 0, .null), (108, 2, .iload 7, 7, 0, 0, .null), (110, 3, .ifCond .ne 6, 116, 0, 0, .null), (113, 3, .goto 31, 144, 0, 0, .null), (116, 1, .iload_n 3, 3, 0, 0, .null), (117, 3, .ifCond .ne 24, 141, 0, 0, .null), (120, 1, .aload_n 0, 0, 0, 0, .null), (121, 3, .getfield 81, 8, 60, 4, .null), (124, 1, .iconst 0, 0, 0, 0, .int (0)), (125, 2, .iload 5, 5, 0, 0, .null), (127, 1, .iastore, 0, 0, 0, .null), (128, 1, .aload_n 0, 0, 0, 0, .null), (129, 3, .getfield 81, 8, 60, 4, .null), (132, 1, .iconst 1, 0, 0, 0, .int (1)), (133, 2, .iload 6, 6, 0, 0, .null), (135, 1, .iastore, 0, 0, 0, .null), (136, 1, .aload_n 0, 0, 0, 0, .null), (137, 1, .iconst 2, 0, 0, 0, .int (2)), (138, 3, .putfield 393, 8, 62, 0, .null), (141, 3, .iinc 3 1, 3, 0, 0, .int (1)), (144, 3, .iinc 4 1, 4, 0, 0, .int (1)), (147, 3, .goto (-126), 21, 0, 0, .null), (150, 1, .iload_n 3, 3, 0, 0, .null), (151, 1, .ireturn, 0, 0, 0, .null)]
def kX8_edge : List zE := [(0, 1, .aload_n 0, 0, 0, 0, .null), (1, 1, .iload_n 1, 1, 0, 0, .null), (2, 3, .invokevirtual 466, 223, 2, 33, .null), (5, 3, .ifCond .ne 5, 10, 0, 0, .null), (8, 1, .iconst (-1), 0, 0, 0, .int (-1)), (9, 1, .ireturn, 0, 0, 0, .null), (10, 1, .iconst (-1), 0, 0, 0, .int (-1)), (11, 1, .istore_n 3, 3, 0, 0, .null), (12, 1, .iconst 0, 0, 0, 0, .int (0)), (13, 2, .istore 4, 4, 0, 0, .null), (15, 2, .iload 4, 4, 0, 0, .null), (17, 2, .bipush 20, 0, 0, 0, .int (20)), (19, 3, .if_icmp .gt 29, 48, 0, 0, .null), (22, 1, .aload_n 0, 0, 0, 0, .null), (23, 2, .iload 4, 4, 0, 0, .null), (25, 1, .iload_n 2, 2, 0, 0, .null), (26, 3, .invokestatic 288, 184, 1, 1, .null), (29, 3, .invokevirtual 469, 224, 3, 33, .null), (32, 3, .ifCond .eq 8, 40, 0, 0, .null), (35, 2, .iload 4, 4, 0, 0, .null), (37, 3, .goto 4, 41, 0, 0, .null), (40, 1, .iload_n 3, 3, 0, 0, .null), (41, 1, .istore_n 3, 3, 0, 0, .null), (42, 3, .iinc 4 1, 4, 0, 0, .int (1)), (45, 3, .goto (-30), 15, 0, 0, .null), (48, 1, .iload_n 3, 3, 0, 0, .null), (49, 1, .ireturn, 0, 0, 0, .null)]
def kX8_usher : List zE := [(0, 1, .iload_n 2, 2, 0, 0, .null), (1, 1, .iconst 0, 0, 0, 0, .int (0)), (2, 1, .iconst 1, 0, 0, 0, .int (1)), (3, 3, .invokestatic 396, 197, 3, 1, .null), (6, 3, .ifCond .ne 5, 11, 0, 0, .null), (9, 1, .iconst (-1), 0, 0, 0, .int (-1)), (10, 1, .ireturn, 0, 0, 0, .null), (11, 1, .iconst (-1), 0, 0, 0, .int (-1)), (12, 1, .istore_n 3, 3, 0, 0, .null), (13, 1, .iconst (-1), 0, 0, 0, .int (-1)), (14, 2, .istore 4, 4, 0, 0, .null), (16, 1, .iconst 0, 0, 0, 0, .int (0)), (17, 2, .istore 5, 5, 0, 0, .null), (19, 2, .iload 5, 5, 0, 0, .null), (21, 1, .aload_n 0, 0, 0, 0, .null), (22, 3, .getfield 360, 8, 41, 0, .null), (25, 3, .if_icmp .ge 72, 97, 0, 0, .null), (28, 1, .aload_n 0, 0, 0, 0, .null), (29, 2, .iload 5, 5, 0, 0, .null), (31, 3, .invokevirtual 438, 203, 2, 33, .null), (34, 3, .ifCond .ne 6, 40, 0, 0, .null), (37, 3, .goto 54, 91, 0, 0, .null), (40, 1, .aload_n 0, 0, 0, 0, .null), (41, 3, .invokevirtual 447, 200, 1, 32, .null), (44, 1, .aload_n 0, 0, 0, 0, .null), (45, 3, .getfield 72, 8, 53, 4, .null), (48, 2, .iload 5, 5, 0, 0, .null), (50, 1, .iconst 0, 0, 0, 0, .int (0)), (51, 1, .aload_n 0, 0, 0, 0, .null), (52, 3, .getfield 72, 8, 53, 4, .null), (55, 2, .iload 5, 5, 0, 0, .null), (57, 1, .iaload, 0, 0, 0, .null), (58, 1, .iconst 1, 0, 0, 0, .int (1)), (59, 1, .isub, 0, 0, 0, .null), (60, 3, .invokestatic 416, 188, 2, 1, .null), (63, 1, .iastore, 0, 0, 0, .null), (64, 1, .aload_n 0, 0, 0, 0, .null), (65, 1, .iload_n 1, 1, 0, 0, .null), (66, 3, .invokestatic 499, 230, 1, 1, .null), (69, 3, .invokevirtual 481, 229, 2, 33, .null), (72, 2, .istore 6, 6, 0, 0, .null), (74, 2, .iload 6, 6, 0, 0, .null), (76, 2, .iload 4, 4, 0, 0, .null), (78, 3, .if_icmp .gt 6, 84, 0, 0, .null), (81, 3, .goto 10, 91, 0, 0, .null), (84, 2, .iload 5, 5, 0, 0, .null), (86, 1, .istore_n 3, 3, 0, 0, .null), (87, 2, .iload 6, 6, 0, 0, .null), (89, 2, .istore 4, 4, 0, 0, .null), (91, 3, .iinc 5 1, 5, 0, 0, .int (1)), (94, 3, .goto (-75), 19, 0, 0, .null), (97, 1, .iload_n 2, 2, 0, 0, .null), (98, 3, .ifCond .ne 7, 105, 0, 0, .null), (101, 1, .iload_n 3, 3, 0, 0, .null), (102, 3, .goto 5, 107, 0, 0, .null), (105, 2, .iload 4, 4, 0, 0, .null), (107, 1, .ireturn, 0, 0, 0, .null)]
def kX8_creakOf : List zE := [(0, 1, .iconst 0, 0, 0, 0, .int (0)), (1, 1, .istore_n 3, 3, 0, 0, .null), (2, 1, .iconst 0, 0, 0, 0, .int (0)), (3, 2, .istore 4, 4, 0, 0, .null), (5, 2, .iload 4, 4, 0, 0, .null), (7, 1, .aload_n 0, 0, 0, 0, .null), (8, 3, .getfield 360, 8, 41, 0, .null), (11, 3, .if_icmp .ge 33, 44, 0, 0, .null), (14, 1, .iload_n 3, 3, 0, 0, .null), (15, 1, .aload_n 0, 0, 0, 0, .null), (16, 2, .iload 4, 4, 0, 0, .null), (18, 3, .invokevirtual 438, 203, 2, 33, .null), (21, 3, .ifCond .eq 14, 35, 0, 0, .null), (24, 1, .aload_n 0, 0, 0, 0, .null), (25, 2, .iload 4, 4, 0, 0, .null), (27, 1, .iload_n 1, 1, 0, 0, .null), (28, 1, .iload_n 2, 2, 0, 0, .null), (29, 3, .invokevirtual 444, 213, 4, 33, .null), (32, 3, .goto 4, 36, 0, 0, .null), (35, 1, .iconst 0, 0, 0, 0, .int (0)), (36, 1, .iadd, 0, 0, 0, .null), (37, 1, .istore_n 3, 3, 0, 0, .null), (38, 3, .iinc 4 1, 4, 0, 0, .int (1)), (41, 3, .goto (-36), 5, 0, 0, .null), (44, 1, .iload_n 3, 3, 0, 0, .null), (45, 1, .ireturn, 0, 0, 0, .null)]
def kX8_creak : List zE := [(0, 1, .aload_n 0, 0, 0, 0, .null), (1, 1, .iload_n 1, 1, 0, 0, .null), (2, 3, .invokevirtual 441, 199, 2, 33, .null), (5, 3, .ifCond .eq 15, 20, 0, 0, .null), (8, 1, .aload_n 0, 0, 0, 0, .null), (9, 1, .iload_n 1, 1, 0, 0, .null), (10, 1, .iload_n 2, 2, 0, 0, .null), (11, 3, .invokestatic 288, 184, 1, 1, .null), (14, 3, .invokevirtual 502, 250, 3, 33, .null), (17, 3, .goto 6, 23, 0, 0, .null), (20, 3, .sipush (-1000), 0, 0, 0, .int (-1000)), (23, 1, .ireturn, 0, 0, 0, .null)]
def kX8_softest : List zE := [(0, 1, .iconst (-1), 0, 0, 0, .int (-1)), (1, 1, .istore_n 1, 1, 0, 0, .null), (2, 1, .iconst 0, 0, 0, 0, .int (0)), (3, 1, .istore_n 2, 2, 0, 0, .null), (4, 1, .iload_n 2, 2, 0, 0, .null), (5, 1, .aload_n 0, 0, 0, 0, .null), (6, 3, .getfield 363, 8, 42, 0, .null), (9, 3, .if_icmp .ge 38, 47, 0, 0, .null), (12, 1, .aload_n 0, 0, 0, 0, .null), (13, 1, .iload_n 2, 2, 0, 0, .null), (14, 3, .invokevirtual 450, 205, 2, 33, .null), (17, 3, .ifCond .ne 24, 41, 0, 0, .null), (20, 1, .iload_n 1, 1, 0, 0, .null), (21, 3, .ifCond .lt 18, 39, 0, 0, .null), (24, 1, .aload_n 0, 0, 0, 0, .null), (25, 1, .iload_n 2, 2, 0, 0, .null), (26, 1, .iconst 1, 0, 0, 0, .int (1)), (27, 3, .invokevirtual 502, 250, 3, 33, .null), (30, 1, .aload_n 0, 0, 0, 0, .null), (31, 1, .iload_n 1, 1, 0, 0, .null), (32, 1, .iconst 1, 0, 0, 0, .int (1)), (33, 3, .invokevirtual 502, 250, 3, 33, .null), (36, 3, .if_icmp .ge 5, 41, 0, 0, .null), (39, 1, .iload_n 2, 2, 0, 0, .null), (40, 1, .istore_n 1, 1, 0, 0, .null), (41, 3, .iinc 2 1, 2, 0, 0, .int (1)), (44, 3, .goto (-40), 4, 0, 0, .null), (47, 1, .iload_n 1, 1, 0, 0, .null), (48, 1, .ireturn, 0, 0, 0, .null)]
def kX8_loudest : List zE := [(0, 1, .iconst (-1), 0, 0, 0, .int (-1)), (1, 1, .istore_n 1, 1, 0, 0, .null), (2, 1, .iconst 0, 0, 0, 0, .int (0)), (3, 1, .istore_n 2, 2, 0, 0, .null), (4, 1, .iload_n 2, 2, 0, 0, .null), (5, 1, .aload_n 0, 0, 0, 0, .null), (6, 3, .getfield 363, 8, 42, 0, .null), (9, 3, .if_icmp .ge 38, 47, 0, 0, .null), (12, 1, .aload_n 0, 0, 0, 0, .null), (13, 1, .iload_n 2, 2, 0, 0, .null), (14, 3, .invokevirtual 450, 205, 2, 33, .null), (17, 3, .ifCond .ne 24, 41, 0, 0, .null), (20, 1, .iload_n 1, 1, 0, 0, .null), (21, 3, .ifCond .lt 18, 39, 0, 0, .null), (24, 1, .aload_n 0, 0, 0, 0, .null), (25, 1, .iload_n 2, 2, 0, 0, .null), (26, 1, .iconst 0, 0, 0, 0, .int (0)), (27, 3, .invokevirtual 502, 250, 3, 33, .null), (30, 1, .aload_n 0, 0, 0, 0, .null), (31, 1, .iload_n 1, 1, 0, 0, .null), (32, 1, .iconst 0, 0, 0, 0, .int (0)), (33, 3, .invokevirtual 502, 250, 3, 33, .null), (36, 3, .if_icmp .le 5, 41, 0, 0, .null), (39, 1, .iload_n 2, 2, 0, 0, .null), (40, 1, .istore_n 1, 1, 0, 0, .null), (41, 3, .iinc 2 1, 2, 0, 0, .int (1)), (44, 3, .goto (-40), 4, 0, 0, .null), (47, 1, .iload_n 1, 1, 0, 0, .null), (48, 1, .ireturn, 0, 0, 0, .null)]
def kX8_over : List zE := [(0, 1, .aload_n 0, 0, 0, 0, .null), (1, 3, .invokevirtual 447, 200, 1, 32, .null), (4, 1, .aload_n 0, 0, 0, 0, .null), (5, 3, .invokevirtual 460, 219, 1, 32, .null), (8, 1, .aload_n 0, 0, 0, 0, .null), (9, 1, .iconst 0, 0, 0, 0, .int (0)), (10, 3, .invokevirtual 481, 229, 2, 33, .null), (13, 1, .ireturn, 0, 0, 0, .null)]
def kX8_layTills : List zE := [(0, 1, .aload_n 0, 0, 0, 0, .null), (1, 3, .getfield 69, 8, 52, 4, .null), (4, 2, .bipush 8, 0, 0, 0, .int (8)), (6, 1, .iaload, 0, 0, 0, .null), (7, 3, .invokestatic 403, 189, 1, 1, .null), (10, 1, .istore_n 3, 3, 0, 0, .null), (11, 1, .iconst 0, 0, 0, 0, .int (0)), (12, 2, .istore 4, 4, 0, 0, .null), (14, 2, .iload 4, 4, 0, 0, .null), (16, 1, .aload_n 0, 0, 0, 0, .null), (17, 3, .getfield 360, 8, 41, 0, .null), (20, 3, .if_icmp .ge 176, 196, 0, 0, .null), (23, 1, .aload_n 0, 0, 0, 0, .null), (24, 3, .getfield 87, 8, 64, 4, .null), (27, 2, .iload 4, 4, 0, 0, .null), (29, 1, .aload_n 0, 0, 0, 0, .null), (30, 2, .iload 4, 4, 0, 0, .null), (32, 3, .invokevirtual 438, 203, 2, 33, .null), (35, 3, .ifCond .eq 9, 44, 0, 0, .null), (38, 3, .ldc_w 505, 0, 0, 0, .int (1000000)), (41, 3, .goto 4, 45, 0, 0, .null), (44, 1, .iconst 0, 0, 0, 0, .int (0)), (45, 1, .iastore, 0, 0, 0, .null), (46, 1, .aload_n 0, 0, 0, 0, .null), (47, 3, .getfield 90, 8, 65, 4, .null), (50, 2, .iload 4, 4, 0, 0, .null), (52, 1, .aload_n 0, 0, 0, 0, .null), (53, 2, .iload 4, 4, 0, 0, .null), (55, 3, .invokevirtual 438, 203, 2, 33, .null), (58, 3, .ifCond .eq 9, 67, 0, 0, .null), (61, 3, .ldc_w 505, 0, 0, 0, .int (1000000)), (64, 3, .goto 4, 68, 0, 0, .null), (67, 1, .iconst 0, 0, 0, 0, .int (0)), (68, 1, .iastore, 0, 0, 0, .null), (69, 1, .aload_n 0, 0, 0, 0, .null), (70, 2, .iload 4, 4, 0, 0, .null), (72, 3, .invokevirtual 438, 203, 2, 33, .null), (75, 3, .ifCond .eq 13, 88, 0, 0, .null), (78, 1, .aload_n 0, 0, 0, 0, .null), (79, 3, .getfield 69, 8, 52, 4, .null), (82, 2, .iload 4, 4, 0, 0, .null), (84, 1, .iaload, 0, 0, 0, .null), (85, 3, .goto 4, 89, 0, 0, .null), (88, 1, .iconst (-1), 0, 0, 0, .int (-1)), (89, 2, .istore 5, 5, 0, 0, .null), (91, 2, .iload 5, 5, 0, 0, .null), (93, 3, .ifCond .lt 97, 190, 0, 0, .null), (96, 1, .iconst 0, 0, 0, 0, .int (0)), (97, 1, .aload_n 0, 0, 0, 0, .null), (98, 3, .getfield 69, 8, 52, 4, .null), (101, 2, .iload 4, 4, 0, 0, .null), (103, 1, .iaload, 0, 0, 0, .null), (104, 2, .iload 5, 5, 0, 0, .null), (106, 1, .isub, 0, 0, 0, .null), (107, 1, .aload_n 0, 0, 0, 0, .null), (108, 2, .iload 4, 4, 0, 0, .null), (110, 1, .aload_n 0, 0, 0, 0, .null), (111, 3, .getfield 60, 8, 33, 4, .null), (114, 1, .iload_n 1, 1, 0, 0, .null), (115, 1, .iaload, 0, 0, 0, .null), (116, 1, .aload_n 0, 0, 0, 0, .null), (117, 3, .getfield 69, 8, 52, 4, .null), (120, 2, .iload 4, 4, 0, 0, .null), (122, 1, .iaload, 0, 0, 0, .null), (123, 2, .iload 5, 5, 0, 0, .null), (125, 1, .isub, 0, 0, 0, .null), (126, 1, .iload_n 2, 2, 0, 0, .null), (127, 1, .iload_n 3, 3, 0, 0, .null), (128, 3, .invokevirtual 412, 190, 6, 33, .null), (131, 1, .iadd, 0, 0, 0, .null), (132, 3, .invokestatic 416, 188, 2, 1, .null), (135, 2, .istore 6, 6, 0, 0, .null), (137, 2, .iload 6, 6, 0, 0, .null), (139, 1, .aload_n 0, 0, 0, 0, .null), (140, 3, .getfield 63, 8, 44, 0, .null), (143, 3, .if_icmp .ge 12, 155, 0, 0, .null), (146, 1, .aload_n 0, 0, 0, 0, .null), (147, 3, .getfield 87, 8, 64, 4, .null), (150, 2, .iload 4, 4, 0, 0, .null), (152, 2, .iload 5, 5, 0, 0, .null), (154, 1, .iastore, 0, 0, 0, .null), (155, 2, .iload 6, 6, 0, 0, .null), (157, 1, .aload_n 0, 0, 0, 0, .null), (158, 3, .getfield 63, 8, 44, 0, .null), (161, 3, .if_icmp .ge 23, 184, 0, 0, .null), (164, 1, .iconst 2, 0, 0, 0, .int (2)), (165, 2, .iload 6, 6, 0, 0, .null), (167, 1, .imul, 0, 0, 0, .null), (168, 1, .aload_n 0, 0, 0, 0, .null), (169, 3, .getfield 63, 8, 44, 0, .null), (172, 3, .if_icmp .ge 12, 184, 0, 0, .null), (175, 1, .aload_n 0, 0, 0, 0, .null), (176, 3, .getfield 90, 8, 65, 4, .null), (179, 2, .iload 4, 4, 0, 0, .null), (181, 2, .iload 5, 5, 0, 0, .null), (183, 1, .iastore, 0, 0, 0, .null), (184, 3, .iinc 5 (-1), 5, 0, 0, .int (-1)), (187, 3, .goto (-96), 91, 0, 0, .null), (190, 3, .iinc 4 1, 4, 0, 0, .int (1)), (193, 3, .goto (-179), 14, 0, 0, .null), (196, 1, .return_, 0, 0, 0, .null)]
def kX8_drops : List zE := [(0, 1, .aload_n 0, 0, 0, 0, .null), (1, 1, .iload_n 1, 1, 0, 0, .null), (2, 3, .invokevirtual 466, 223, 2, 33, .null), (5, 3, .ifCond .ne 5, 10, 0, 0, .null), (8, 1, .iconst (-1), 0, 0, 0, .int (-1)), (9, 1, .ireturn, 0, 0, 0, .null), (10, 1, .aload_n 0, 0, 0, 0, .null), (11, 1, .iload_n 1, 1, 0, 0, .null), (12, 1, .iload_n 2, 2, 0, 0, .null), (13, 3, .invokestatic 288, 184, 1, 1, .null), (16, 3, .invokevirtual 506, 255, 3, 32, .null), (19, 3, .ldc_w 505, 0, 0, 0, .int (1000000)), (22, 1, .istore_n 3, 3, 0, 0, .null), (23, 1, .iconst 0, 0, 0, 0, .int (0)), (24, 2, .istore 4, 4, 0, 0, .null), (26, 2, .iload 4, 4, 0, 0, .null), (28, 1, .iconst 1, 0, 0, 0, .int (1)), (29, 1, .aload_n 0, 0, 0, 0, .null), (30, 3, .getfield 360, 8, 41, 0, .null), (33, 1, .ishl, 0, 0, 0, .null), (34, 3, .if_icmp .ge 82, 116, 0, 0, .null), (37, 1, .aload_n 0, 0, 0, 0, .null), (38, 2, .iload 4, 4, 0, 0, .null), (40, 3, .invokevirtual 484, 236, 2, 33, .null), (43, 3, .ifCond .ne 6, 49, 0, 0, .null), (46, 3, .goto 64, 110, 0, 0, .null), (49, 1, .iconst 0, 0, 0, 0, .int (0)), (50, 2, .istore 5, 5, 0, 0, .null), (52, 1, .iconst 0, 0, 0, 0, .int (0)), (53, 2, .istore 6, 6, 0, 0, .null), (55, 2, .iload 6, 6, 0, 0, .null), (57, 1, .aload_n 0, 0, 0, 0, .null), (58, 3, .getfield 360, 8, 41, 0, .null), (61, 3, .if_icmp .ge 42, 103, 0, 0, .null), (64, 2, .iload 5, 5, 0, 0, .null), (66, 2, .iload 4, 4, 0, 0, .null), (68, 2, .iload 6, 6, 0, 0, .null), (70, 1, .ishr, 0, 0, 0, .null), (71, 1, .iconst 1, 0, 0, 0, .int (1)), (72, 1, .iand, 0, 0, 0, .null), (73, 1, .iconst 1, 0, 0, 0, .int (1)), (74, 3, .if_icmp .ne 13, 87, 0, 0, .null), (77, 1, .aload_n 0, 0, 0, 0, .null), (78, 3, .getfield 90, 8, 65, 4, .null), (81, 2, .iload 6, 6, 0, 0, .null), (83, 1, .iaload, 0, 0, 0, .null), (84, 3, .goto 10, 94, 0, 0, .null), (87, 1, .aload_n 0, 0, 0, 0, .null), (88, 3, .getfield 87, 8, 64, 4, .null), (91, 2, .iload 6, 6, 0, 0, .null), (93, 1, .iaload, 0, 0, 0, .null), (94, 1, .iadd, 0, 0, 0, .null), (95, 2, .istore 5, 5, 0, 0, .null), (97, 3, .iinc 6 1, 6, 0, 0, .int (1)), (100, 3, .goto (-45), 55, 0, 0, .null), (103, 1, .iload_n 3, 3, 0, 0, .null), (104, 2, .iload 5, 5, 0, 0, .null), (106, 3, .invokestatic 425, 187, 2, 1, .null), (109, 1, .istore_n 3, 3, 0, 0, .null), (110, 3, .iinc 4 1, 4, 0, 0, .int (1)), (113, 3, .goto (-87), 26, 0, 0, .null), (116, 1, .iload_n 3, 3, 0, 0, .null), (117, 3, .ldc_w 505, 0, 0, 0, .int (1000000)), (120, 3, .if_icmp .lt 7, 127, 0, 0, .null), (123, 1, .iconst (-1), 0, 0, 0, .int (-1)), (124, 3, .goto 4, 128, 0, 0, .null), (127, 1, .iload_n 3, 3, 0, 0, .null), (128, 1, .ireturn, 0, 0, 0, .null)]
def kX8_swap : List zE := [(0, 1, .iload_n 2, 2, 0, 0, .null), (1, 1, .iconst 0, 0, 0, 0, .int (0)), (2, 1, .iconst 2, 0, 0, 0, .int (2)), (3, 3, .invokestatic 396, 197, 3, 1, .null), (6, 3, .ifCond .ne 5, 11, 0, 0, .null), (9, 1, .iconst (-1), 0, 0, 0, .int (-1)), (10, 1, .ireturn, 0, 0, 0, .null), (11, 1, .aload_n 0, 0, 0, 0, .null), (12, 3, .invokevirtual 447, 200, 1, 32, .null), (15, 1, .aload_n 0, 0, 0, 0, .null), (16, 1, .iload_n 1, 1, 0, 0, .null), (17, 3, .invokestatic 499, 230, 1, 1, .null), (20, 3, .invokevirtual 481, 229, 2, 33, .null), (23, 1, .istore_n 3, 3, 0, 0, .null), (24, 1, .iconst (-1), 0, 0, 0, .int (-1)), (25, 2, .istore 4, 4, 0, 0, .null), (27, 1, .iconst (-1), 0, 0, 0, .int (-1)), (28, 2, .istore 5, 5, 0, 0, .null), (30, 1, .iconst 0, 0, 0, 0, .int (0)), (31, 2, .istore 6, 6, 0, 0, .null), (33, 2, .iload 6, 6, 0, 0, .null), (35, 1, .aload_n 0, 0, 0, 0, .null), (36, 3, .getfield 360, 8, 41, 0, .null), (39, 3, .if_icmp .ge 106, 145, 0, 0, .null), (42, 2, .iload 6, 6, 0, 0, .null), (44, 1, .iconst 1, 0, 0, 0, .int (1)), (45, 1, .iadd, 0, 0, 0, .null), (46, 2, .istore 7, 7, 0, 0, .null), (48, 2, .iload 7, 7, 0, 0, .null), (50, 1, .aload_n 0, 0, 0, 0, .null), (51, 3, .getfield 360, 8, 41, 0, .null), (54, 3, .if_icmp .ge 85, 139, 0, 0, .null), (57, 1, .aload_n 0, 0, 0, 0, .null), (58, 2, .iload 6, 6, 0, 0, .null), (60, 2, .iload 7, 7, 0, 0, .null), (62, 3, .invokevirtual 493, 244, 3, 33, .null), (65, 3, .ifCond .ne 6, 71, 0, 0, .null), (68, 3, .goto 65, 133, 0, 0, .null), (71, 1, .aload_n 0, 0, 0, 0, .null), (72, 3, .invokevirtual 447, 200, 1, 32, .null), (75, 1, .aload_n 0, 0, 0, 0, .null), (76, 3, .getfield 72, 8, 53, 4, .null), (79, 2, .iload 6, 6, 0, 0, .null), (81, 1, .aload_n 0, 0, 0, 0, .null), (82, 3, .getfield 69, 8, 52, 4, .null), (85, 2, .iload 7, 7, 0, 0, .null), (87, 1, .iaload, 0, 0, 0, .null), (88, 1, .iastore, 0, 0, 0, .null), (89, 1, .aload_n 0, 0, 0, 0, .null), (90, 3, .getfield 72, 8, 53, 4, .null), (93, 2, .iload 7, 7, 0, 0, .null), (95, 1, .aload_n 0, 0, 0, 0, .null), (96, 3, .getfield 69, 8, 52, 4, .null), (99, 2, .iload 6, 6, 0, 0, .null), (101, 1, .iaload, 0, 0, 0, .null), (102, 1, .iastore, 0, 0, 0, .null), (103, 1, .aload_n 0, 0, 0, 0, .null), (104, 1, .iload_n 1, 1, 0, 0, .null), (105, 3, .invokestatic 499, 230, 1, 1, .null), (108, 3, .invokevirtual 481, 229, 2, 33, .null), (111, 2, .istore 8, 8, 0, 0, .null), (113, 2, .iload 8, 8, 0, 0, .null), (115, 1, .iload_n 3, 3, 0, 0, .null), (116, 3, .if_icmp .gt 6, 122, 0, 0, .null), (119, 3, .goto 14, 133, 0, 0, .null), (122, 2, .iload 6, 6, 0, 0, .null), (124, 2, .istore 4, 4, 0, 0, .null), (126, 2, .iload 7, 7, 0, 0, .null), (128, 2, .istore 5, 5, 0, 0, .null), (130, 2, .iload 8, 8, 0, 0, .null), (132, 1, .istore_n 3, 3, 0, 0, .null), (133, 3, .iinc 7 1, 7, 0, 0, .int (1)), (136, 3, .goto (-88), 48, 0, 0, .null), (139, 3, .iinc 6 1, 6, 0, 0, .int (1)), (142, 3, .goto (-109), 33, 0, 0, .null), (145, 2, .iload 4, 4, 0, 0, .null), (147, 3, .ifCond .ge 7, 154, 0, 0, .null), (150, 1, .iconst (-1), 0, 0, 0, .int (-1)), (151, 3, .goto 23, 174, 0, 0, .null), (154, 1, .iload_n 2, 2, 0, 0, .null), (155, 3, .ifCond .ne 8, 163, 0, 0, .null), (158, 2, .iload 4, 4, 0, 0, .null), (160, 3, .goto 14, 174, 0, 0, .null), (163, 1, .iload_n 2, 2, 0, 0, .null), (164, 1, .iconst 1, 0, 0, 0, .int (1)), (165, 3, .if_icmp .ne 8, 173, 0, 0, .null), (168, 2, .iload 5, 5, 0, 0, .null), (170, 3, .goto 4, 174, 0, 0, .null), (173, 1, .iload_n 3, 3, 0, 0, .null), (174, 1, .ireturn, 0, 0, 0, .null)]
def kX8_outs : List zE := [(0, 1, .aload_n 0, 0, 0, 0, .null), (1, 3, .getfield 69, 8, 52, 4, .null), (4, 2, .bipush 7, 0, 0, 0, .int (7)), (6, 1, .iaload, 0, 0, 0, .null), (7, 1, .ireturn, 0, 0, 0, .null)]
def kX8_tensest : List zE := [(0, 1, .iconst (-1), 0, 0, 0, .int (-1)), (1, 1, .istore_n 1, 1, 0, 0, .null), (2, 1, .iconst 0, 0, 0, 0, .int (0)), (3, 1, .istore_n 2, 2, 0, 0, .null), (4, 1, .iload_n 2, 2, 0, 0, .null), (5, 1, .aload_n 0, 0, 0, 0, .null), (6, 3, .getfield 360, 8, 41, 0, .null), (9, 3, .if_icmp .ge 38, 47, 0, 0, .null), (12, 1, .aload_n 0, 0, 0, 0, .null), (13, 1, .iload_n 2, 2, 0, 0, .null), (14, 3, .invokevirtual 438, 203, 2, 33, .null), (17, 3, .ifCond .eq 24, 41, 0, 0, .null), (20, 1, .iload_n 1, 1, 0, 0, .null), (21, 3, .ifCond .lt 18, 39, 0, 0, .null), (24, 1, .aload_n 0, 0, 0, 0, .null), (25, 3, .getfield 69, 8, 52, 4, .null), (28, 1, .iload_n 2, 2, 0, 0, .null), (29, 1, .iaload, 0, 0, 0, .null), (30, 1, .aload_n 0, 0, 0, 0, .null), (31, 3, .getfield 69, 8, 52, 4, .null), (34, 1, .iload_n 1, 1, 0, 0, .null), (35, 1, .iaload, 0, 0, 0, .null), (36, 3, .if_icmp .le 5, 41, 0, 0, .null), (39, 1, .iload_n 2, 2, 0, 0, .null), (40, 1, .istore_n 1, 1, 0, 0, .null), (41, 3, .iinc 2 1, 2, 0, 0, .int (1)), (44, 3, .goto (-40), 4, 0, 0, .null), (47, 1, .iload_n 1, 1, 0, 0, .null), (48, 1, .ireturn, 0, 0, 0, .null)]
def kX8_strength : List zE := [(0, 1, .aload_n 0, 0, 0, 0, .null), (1, 1, .iconst 1, 0, 0, 0, .int (1)), (2, 1, .aload_n 0, 0, 0, 0, .null), (3, 3, .getfield 360, 8, 41, 0, .null), (6, 1, .ishl, 0, 0, 0, .null), (7, 1, .iconst 1, 0, 0, 0, .int (1)), (8, 1, .isub, 0, 0, 0, .null), (9, 1, .aload_n 0, 0, 0, 0, .null), (10, 3, .getfield 69, 8, 52, 4, .null), (13, 2, .bipush 7, 0, 0, 0, .int (7)), (15, 1, .iaload, 0, 0, 0, .null), (16, 1, .iconst (-1), 0, 0, 0, .int (-1)), (17, 1, .ixor, 0, 0, 0, .null), (18, 1, .iand, 0, 0, 0, .null), (19, 3, .invokevirtual 422, 207, 2, 33, .null), (22, 1, .ireturn, 0, 0, 0, .null)]
def kX8_cross : List zE := [(0, 1, .iconst 0, 0, 0, 0, .int (0)), (1, 1, .istore_n 1, 1, 0, 0, .null), (2, 1, .iconst 0, 0, 0, 0, .int (0)), (3, 1, .istore_n 2, 2, 0, 0, .null), (4, 1, .iload_n 2, 2, 0, 0, .null), (5, 1, .aload_n 0, 0, 0, 0, .null), (6, 3, .getfield 360, 8, 41, 0, .null), (9, 3, .if_icmp .ge 45, 54, 0, 0, .null), (12, 1, .iload_n 1, 1, 0, 0, .null), (13, 1, .aload_n 0, 0, 0, 0, .null), (14, 1, .iload_n 2, 2, 0, 0, .null), (15, 3, .invokevirtual 438, 203, 2, 33, .null), (18, 3, .ifCond .eq 22, 40, 0, 0, .null), (21, 1, .iconst 2, 0, 0, 0, .int (2)), (22, 1, .aload_n 0, 0, 0, 0, .null), (23, 3, .getfield 69, 8, 52, 4, .null), (26, 1, .iload_n 2, 2, 0, 0, .null), (27, 1, .iaload, 0, 0, 0, .null), (28, 1, .imul, 0, 0, 0, .null), (29, 1, .aload_n 0, 0, 0, 0, .null), (30, 3, .getfield 63, 8, 44, 0, .null), (33, 3, .if_icmp .lt 7, 40, 0, 0, .null), (36, 1, .iconst 1, 0, 0, 0, .int (1)), (37, 3, .goto 4, 41, 0, 0, .null), (40, 1, .iconst 0, 0, 0, 0, .int (0)), (41, 3, .invokestatic 288, 184, 1, 1, .null), (44, 1, .iload_n 2, 2, 0, 0, .null), (45, 1, .ishl, 0, 0, 0, .null), (46, 1, .ior, 0, 0, 0, .null), (47, 1, .istore_n 1, 1, 0, 0, .null), (48, 3, .iinc 2 1, 2, 0, 0, .int (1)), (51, 3, .goto (-47), 4, 0, 0, .null), (54, 1, .iload_n 1, 1, 0, 0, .null), (55, 1, .ireturn, 0, 0, 0, .null)]
def kX8_law : List zE := [(0, 1, .iload_n 1, 1, 0, 0, .null), (1, 1, .iconst 0, 0, 0, 0, .int (0)), (2, 2, .bipush 20, 0, 0, 0, .int (20)), (4, 3, .invokestatic 396, 197, 3, 1, .null), (7, 3, .ifCond .ne 5, 12, 0, 0, .null), (10, 1, .iconst (-1), 0, 0, 0, .int (-1)), (11, 1, .ireturn, 0, 0, 0, .null), (12, 1, .aload_n 0, 0, 0, 0, .null), (13, 1, .iload_n 1, 1, 0, 0, .null), (14, 3, .putfield 42, 8, 27, 0, .null), (17, 1, .aload_n 0, 0, 0, 0, .null), (18, 3, .invokevirtual 447, 200, 1, 32, .null), (21, 1, .aload_n 0, 0, 0, 0, .null), (22, 1, .iconst 0, 0, 0, 0, .int (0)), (23, 3, .invokevirtual 481, 229, 2, 33, .null), (26, 1, .istore_n 2, 2, 0, 0, .null), (27, 1, .aload_n 0, 0, 0, 0, .null), (28, 1, .iconst (-1), 0, 0, 0, .int (-1)), (29, 3, .putfield 42, 8, 27, 0, .null), (32, 1, .iload_n 2, 2, 0, 0, .null), (33, 1, .ireturn, 0, 0, 0, .null)]
def kX8_until : List zE := [(0, 1, .aload_n 0, 0, 0, 0, .null), (1, 1, .iload_n 1, 1, 0, 0, .null), (2, 3, .invokevirtual 435, 198, 2, 33, .null), (5, 3, .ifCond .eq 19, 24, 0, 0, .null), (8, 1, .aload_n 0, 0, 0, 0, .null), (9, 1, .iload_n 1, 1, 0, 0, .null), (10, 3, .invokevirtual 438, 203, 2, 33, .null), (13, 3, .ifCond .eq 11, 24, 0, 0, .null), (16, 1, .aload_n 0, 0, 0, 0, .null), (17, 1, .iload_n 2, 2, 0, 0, .null), (18, 3, .invokevirtual 441, 199, 2, 33, .null), (21, 3, .ifCond .ne 5, 26, 0, 0, .null), (24, 1, .iconst (-1), 0, 0, 0, .int (-1)), (25, 1, .ireturn, 0, 0, 0, .null), (26, 1, .aload_n 0, 0, 0, 0, .null), (27, 3, .getfield 69, 8, 52, 4, .null), (30, 1, .iload_n 1, 1, 0, 0, .null), (31, 1, .iaload, 0, 0, 0, .null), (32, 2, .istore 4, 4, 0, 0, .null), (34, 1, .iconst 1, 0, 0, 0, .int (1)), (35, 2, .istore 5, 5, 0, 0, .null), (37, 2, .iload 5, 5, 0, 0, .null), (39, 2, .bipush 60, 0, 0, 0, .int (60)), (41, 3, .if_icmp .gt 62, 103, 0, 0, .null), (44, 1, .iconst 0, 0, 0, 0, .int (0)), (45, 2, .iload 4, 4, 0, 0, .null), (47, 1, .aload_n 0, 0, 0, 0, .null), (48, 1, .iload_n 1, 1, 0, 0, .null), (49, 1, .aload_n 0, 0, 0, 0, .null), (50, 3, .getfield 60, 8, 33, 4, .null), (53, 1, .iload_n 2, 2, 0, 0, .null), (54, 1, .iaload, 0, 0, 0, .null), (55, 2, .iload 4, 4, 0, 0, .null), (57, 1, .iload_n 3, 3, 0, 0, .null), (58, 3, .invokestatic 288, 184, 1, 1, .null), (61, 1, .aload_n 0, 0, 0, 0, .null), (62, 3, .getfield 69, 8, 52, 4, .null), (65, 2, .bipush 8, 0, 0, 0, .int (8)), (67, 1, .iaload, 0, 0, 0, .null), (68, 3, .invokestatic 403, 189, 1, 1, .null), (71, 2, .iload 5, 5, 0, 0, .null), (73, 1, .iadd, 0, 0, 0, .null), (74, 1, .iconst 1, 0, 0, 0, .int (1)), (75, 1, .isub, 0, 0, 0, .null), (76, 3, .invokevirtual 412, 190, 6, 33, .null), (79, 1, .iadd, 0, 0, 0, .null), (80, 3, .invokestatic 416, 188, 2, 1, .null), (83, 2, .istore 4, 4, 0, 0, .null), (85, 2, .iload 4, 4, 0, 0, .null), (87, 1, .aload_n 0, 0, 0, 0, .null), (88, 3, .getfield 63, 8, 44, 0, .null), (91, 3, .if_icmp .lt 6, 97, 0, 0, .null), (94, 2, .iload 5, 5, 0, 0, .null), (96, 1, .ireturn, 0, 0, 0, .null), (97, 3, .iinc 5 1, 5, 0, 0, .int (1)), (100, 3, .goto (-63), 37, 0, 0, .null), (103, 1, .iconst (-1), 0, 0, 0, .int (-1)), (104, 1, .ireturn, 0, 0, 0, .null)]
def kX8_power : List zE := [(0, 1, .iconst 1, 0, 0, 0, .int (1)), (1, 1, .istore_n 2, 2, 0, 0, .null), (2, 1, .iconst 0, 0, 0, 0, .int (0)), (3, 1, .istore_n 3, 3, 0, 0, .null), (4, 1, .iload_n 3, 3, 0, 0, .null), (5, 1, .iload_n 1, 1, 0, 0, .null), (6, 3, .if_icmp .ge 13, 19, 0, 0, .null), (9, 1, .iload_n 2, 2, 0, 0, .null), (10, 1, .iload_n 0, 0, 0, 0, .null), (11, 1, .imul, 0, 0, 0, .null), (12, 1, .istore_n 2, 2, 0, 0, .null), (13, 3, .iinc 3 1, 3, 0, 0, .int (1)), (16, 3, .goto (-12), 4, 0, 0, .null), (19, 1, .iload_n 2, 2, 0, 0, .null), (20, 1, .ireturn, 0, 0, 0, .null)]
def kX8_divisor : List zE := [(0, 1, .iload_n 0, 0, 0, 0, .null), (1, 1, .istore_n 2, 2, 0, 0, .null), (2, 1, .iload_n 1, 1, 0, 0, .null), (3, 1, .istore_n 3, 3, 0, 0, .null), (4, 1, .iload_n 3, 3, 0, 0, .null), (5, 3, .ifCond .le 16, 21, 0, 0, .null), (8, 1, .iload_n 2, 2, 0, 0, .null), (9, 1, .iload_n 3, 3, 0, 0, .null), (10, 1, .irem, 0, 0, 0, .null), (11, 2, .istore 4, 4, 0, 0, .null), (13, 1, .iload_n 3, 3, 0, 0, .null), (14, 1, .istore_n 2, 2, 0, 0, .null), (15, 2, .iload 4, 4, 0, 0, .null), (17, 1, .istore_n 3, 3, 0, 0, .null), (18, 3, .goto (-14), 4, 0, 0, .null), (21, 1, .iload_n 2, 2, 0, 0, .null), (22, 1, .ireturn, 0, 0, 0, .null)]
def kX8_odds : List zE := [(0, 1, .iload_n 1, 1, 0, 0, .null), (1, 1, .iconst 0, 0, 0, 0, .int (0)), (2, 1, .iconst 4, 0, 0, 0, .int (4)), (3, 3, .invokestatic 396, 197, 3, 1, .null), (6, 3, .ifCond .eq 12, 18, 0, 0, .null), (9, 1, .iload_n 2, 2, 0, 0, .null), (10, 1, .iconst 0, 0, 0, 0, .int (0)), (11, 1, .iconst 1, 0, 0, 0, .int (1)), (12, 3, .invokestatic 396, 197, 3, 1, .null), (15, 3, .ifCond .ne 5, 20, 0, 0, .null), (18, 1, .iconst (-1), 0, 0, 0, .int (-1)), (19, 1, .ireturn, 0, 0, 0, .null), (20, 2, .bipush 100, 0, 0, 0, .int (100)), (22, 1, .aload_n 0, 0, 0, 0, .null), (23, 3, .getfield 369, 8, 46, 0, .null), (26, 1, .isub, 0, 0, 0, .null), (27, 1, .iload_n 1, 1, 0, 0, .null), (28, 3, .invokestatic 509, 264, 2, 1, .null), (31, 1, .istore_n 3, 3, 0, 0, .null), (32, 2, .bipush 100, 0, 0, 0, .int (100)), (34, 1, .iload_n 1, 1, 0, 0, .null), (35, 3, .invokestatic 509, 264, 2, 1, .null), (38, 2, .istore 4, 4, 0, 0, .null), (40, 2, .iload 4, 4, 0, 0, .null), (42, 1, .iload_n 3, 3, 0, 0, .null), (43, 3, .invokestatic 512, 265, 2, 1, .null), (46, 2, .istore 5, 5, 0, 0, .null), (48, 1, .iload_n 2, 2, 0, 0, .null), (49, 3, .ifCond .ne 10, 59, 0, 0, .null), (52, 1, .iload_n 3, 3, 0, 0, .null), (53, 2, .iload 5, 5, 0, 0, .null), (55, 1, .idiv, 0, 0, 0, .null), (56, 3, .goto 8, 64, 0, 0, .null), (59, 2, .iload 4, 4, 0, 0, .null), (61, 2, .iload 5, 5, 0, 0, .null), (63, 1, .idiv, 0, 0, 0, .null), (64, 1, .ireturn, 0, 0, 0, .null)]
def kX8_lies : List zE := [(0, 1, .iload_n 1, 1, 0, 0, .null), (1, 1, .iconst 0, 0, 0, 0, .int (0)), (2, 1, .aload_n 0, 0, 0, 0, .null), (3, 3, .getfield 393, 8, 62, 0, .null), (6, 1, .iconst 1, 0, 0, 0, .int (1)), (7, 1, .isub, 0, 0, 0, .null), (8, 3, .invokestatic 396, 197, 3, 1, .null), (11, 3, .ifCond .eq 12, 23, 0, 0, .null), (14, 1, .aload_n 0, 0, 0, 0, .null), (15, 3, .getfield 81, 8, 60, 4, .null), (18, 1, .iload_n 1, 1, 0, 0, .null), (19, 1, .iaload, 0, 0, 0, .null), (20, 3, .goto 5, 25, 0, 0, .null), (23, 2, .bipush (-2), 0, 0, 0, .int (-2)), (25, 1, .ireturn, 0, 0, 0, .null)]
def kX8_isLastOut : List zE := [(0, 1, .aload_n 0, 0, 0, 0, .null), (1, 3, .getfield 360, 8, 41, 0, .null), (4, 3, .ifCond .le 24, 28, 0, 0, .null), (7, 1, .aload_n 0, 0, 0, 0, .null), (8, 3, .getfield 366, 8, 43, 0, .null), (11, 1, .aload_n 0, 0, 0, 0, .null), (12, 3, .getfield 360, 8, 41, 0, .null), (15, 1, .iconst 1, 0, 0, 0, .int (1)), (16, 1, .isub, 0, 0, 0, .null), (17, 1, .ishr, 0, 0, 0, .null), (18, 1, .iconst 1, 0, 0, 0, .int (1)), (19, 1, .iand, 0, 0, 0, .null), (20, 1, .iconst 1, 0, 0, 0, .int (1)), (21, 3, .if_icmp .ne 7, 28, 0, 0, .null), (24, 1, .iconst 1, 0, 0, 0, .int (1)), (25, 3, .goto 4, 29, 0, 0, .null), (28, 1, .iconst 0, 0, 0, 0, .int (0)), (29, 1, .ireturn, 0, 0, 2, .null)]
def kX8_heard : List zE := [(0, 1, .iload_n 1, 1, 0, 0, .null), (1, 1, .iconst 0, 0, 0, 0, .int (0)), (2, 2, .bipush 6, 0, 0, 0, .int (6)), (4, 3, .invokestatic 396, 197, 3, 1, .null), (7, 3, .ifCond .eq 29, 36, 0, 0, .null), (10, 1, .iload_n 2, 2, 0, 0, .null), (11, 1, .iconst 0, 0, 0, 0, .int (0)), (12, 2, .bipush 99, 0, 0, 0, .int (99)), (14, 3, .invokestatic 396, 197, 3, 1, .null), (17, 3, .ifCond .eq 19, 36, 0, 0, .null), (20, 1, .aload_n 0, 0, 0, 0, .null), (21, 3, .invokevirtual 515, 268, 1, 33, .null), (24, 3, .ifCond .eq 12, 36, 0, 0, .null), (27, 1, .aload_n 0, 0, 0, 0, .null), (28, 3, .getfield 390, 8, 71, 0, .null), (31, 2, .bipush 30, 0, 0, 0, .int (30)), (33, 3, .if_icmp .ne 5, 38, 0, 0, .null), (36, 1, .iconst (-1), 0, 0, 0, .int (-1)), (37, 1, .ireturn, 0, 0, 0, .null), (38, 1, .aload_n 0, 0, 0, 0, .null), (39, 3, .getfield 93, 8, 66, 4, .null), (42, 1, .aload_n 0, 0, 0, 0, .null), (43, 3, .getfield 390, 8, 71, 0, .null), (46, 1, .iload_n 1, 1, 0, 0, .null), (47, 1, .iastore, 0, 0, 0, .null), (48, 1, .aload_n 0, 0, 0, 0, .null), (49, 3, .getfield 96, 8, 67, 4, .null), (52, 1, .aload_n 0, 0, 0, 0, .null), (53, 3, .getfield 390, 8, 71, 0, .null), (56, 1, .iload_n 2, 2, 0, 0, .null), (57, 1, .iastore, 0, 0, 0, .null), (58, 1, .aload_n 0, 0, 0, 0, .null), (59, 3, .getfield 105, 8, 70, 4, .null), (62, 1, .aload_n 0, 0, 0, 0, .null), (63, 3, .getfield 390, 8, 71, 0, .null), (66, 1, .iload_n 3, 3, 0, 0, .null), (67, 1, .bastore, 0, 0, 2, .null), (68, 1, .aload_n 0, 0, 0, 0, .null), (69, 3, .getfield 99, 8, 68, 4, .null), (72, 1, .aload_n 0, 0, 0, 0, .null), (73, 3, .getfield 390, 8, 71, 0, .null), (76, 1, .aload_n 0, 0, 0, 0, .null), (77, 3, .getfield 518, 8, 72, 0, .null), (80, 1, .iastore, 0, 0, 0, .null), (81, 1, .aload_n 0, 0, 0, 0, .null), (82, 3, .getfield 102, 8, 69, 4, .null), (85, 1, .aload_n 0, 0, 0, 0, .null), (86, 3, .getfield 390, 8, 71, 0, .null), (89, 1, .iconst (-1), 0, 0, 0, .int (-1)), (90, 1, .iastore, 0, 0, 0, .null), (91, 1, .aload_n 0, 0, 0, 0, .null), (92, 1, .dup, 0, 0, 0, .null), (93, 3, .getfield 390, 8, 71, 0, .null), (96, 1, .iconst 1, 0, 0, 0, .int (1)), (97, 1, .iadd, 0, 0, 0, .null), (98, 3, .putfield 390, 8, 71, 0, .null), (101, 1, .aload_n 0, 0, 0, 0, .null), (102, 3, .getfield 390, 8, 71, 0, .null), (105, 1, .iconst 1, 0, 0, 0, .int (1)), (106, 1, .isub, 0, 0, 0, .null), (107, 1, .ireturn, 0, 0, 0, .null)]
def kX8_untell : List zE := [(0, 1, .iload_n 1, 1, 0, 0, .null), (1, 1, .iconst 0, 0, 0, 0, .int (0)), (2, 1, .aload_n 0, 0, 0, 0, .null), (3, 3, .getfield 390, 8, 71, 0, .null), (6, 1, .iconst 1, 0, 0, 0, .int (1)), (7, 1, .isub, 0, 0, 0, .null), (8, 3, .invokestatic 396, 197, 3, 1, .null), (11, 3, .ifCond .eq 12, 23, 0, 0, .null), (14, 1, .aload_n 0, 0, 0, 0, .null), (15, 3, .getfield 102, 8, 69, 4, .null), (18, 1, .iload_n 1, 1, 0, 0, .null), (19, 1, .iaload, 0, 0, 0, .null), (20, 3, .ifCond .lt 5, 25, 0, 0, .null), (23, 1, .iconst 0, 0, 0, 0, .int (0)), (24, 1, .ireturn, 0, 0, 2, .null), (25, 1, .aload_n 0, 0, 0, 0, .null), (26, 3, .getfield 102, 8, 69, 4, .null), (29, 1, .iload_n 1, 1, 0, 0, .null), (30, 1, .aload_n 0, 0, 0, 0, .null), (31, 3, .getfield 518, 8, 72, 0, .null), (34, 1, .iastore, 0, 0, 0, .null), (35, 1, .iconst 1, 0, 0, 0, .int (1)), (36, 1, .ireturn, 0, 0, 2, .null)]
def kX8_later : List zE := [(0, 1, .iload_n 1, 1, 0, 0, .null), (1, 3, .ifCond .lt 22, 23, 0, 0, .null), (4, 1, .iload_n 1, 1, 0, 0, .null), (5, 3, .sipush 1000, 0, 0, 0, .int (1000)), (8, 3, .if_icmp .gt 15, 23, 0, 0, .null), (11, 1, .aload_n 0, 0, 0, 0, .null), (12, 3, .getfield 518, 8, 72, 0, .null), (15, 1, .iload_n 1, 1, 0, 0, .null), (16, 1, .iadd, 0, 0, 0, .null), (17, 3, .ldc_w 521, 0, 0, 0, .int (100000)), (20, 3, .if_icmp .le 5, 25, 0, 0, .null), (23, 1, .iconst (-1), 0, 0, 0, .int (-1)), (24, 1, .ireturn, 0, 0, 0, .null), (25, 1, .aload_n 0, 0, 0, 0, .null), (26, 1, .dup, 0, 0, 0, .null), (27, 3, .getfield 518, 8, 72, 0, .null), (30, 1, .iload_n 1, 1, 0, 0, .null), (31, 1, .iadd, 0, 0, 0, .null), (32, 3, .putfield 518, 8, 72, 0, .null), (35, 1, .aload_n 0, 0, 0, 0, .null), (36, 3, .getfield 518, 8, 72, 0, .null), (39, 1, .ireturn, 0, 0, 0, .null)]
def kX8_fitsMinds : List zE := [(0, 1, .iconst 1, 0, 0, 0, .int (1)), (1, 1, .istore_n 3, 3, 0, 0, .null), (2, 1, .iconst 0, 0, 0, 0, .int (0)), (3, 2, .istore 4, 4, 0, 0, .null), (5, 2, .iload 4, 4, 0, 0, .null), (7, 1, .aload_n 0, 0, 0, 0, .null), (8, 3, .getfield 390, 8, 71, 0, .null), (11, 3, .if_icmp .ge 96, 107, 0, 0, .null), (14, 1, .iload_n 3, 3, 0, 0, .null), (15, 3, .ifCond .eq 92, 107, 0, 0, .null), (18, 1, .aload_n 0, 0, 0, 0, .null), (19, 3, .getfield 99, 8, 68, 4, .null), (22, 2, .iload 4, 4, 0, 0, .null), (24, 1, .iaload, 0, 0, 0, .null), (25, 1, .iload_n 2, 2, 0, 0, .null), (26, 3, .if_icmp .gt 75, 101, 0, 0, .null), (29, 1, .aload_n 0, 0, 0, 0, .null), (30, 3, .getfield 102, 8, 69, 4, .null), (33, 2, .iload 4, 4, 0, 0, .null), (35, 1, .iaload, 0, 0, 0, .null), (36, 3, .ifCond .lt 17, 53, 0, 0, .null), (39, 1, .aload_n 0, 0, 0, 0, .null), (40, 3, .getfield 102, 8, 69, 4, .null), (43, 2, .iload 4, 4, 0, 0, .null), (45, 1, .iaload, 0, 0, 0, .null), (46, 1, .iload_n 2, 2, 0, 0, .null), (47, 3, .if_icmp .gt 6, 53, 0, 0, .null), (50, 3, .goto 51, 101, 0, 0, .null), (53, 1, .aload_n 0, 0, 0, 0, .null), (54, 3, .getfield 109, 8, 73, 4, .null), (57, 2, .bipush 7, 0, 0, 0, .int (7)), (59, 1, .iload_n 1, 1, 0, 0, .null), (60, 1, .imul, 0, 0, 0, .null), (61, 1, .aload_n 0, 0, 0, 0, .null), (62, 3, .getfield 93, 8, 66, 4, .null), (65, 2, .iload 4, 4, 0, 0, .null), (67, 1, .iaload, 0, 0, 0, .null), (68, 1, .iadd, 0, 0, 0, .null), (69, 1, .iaload, 0, 0, 0, .null), (70, 1, .aload_n 0, 0, 0, 0, .null), (71, 3, .getfield 96, 8, 67, 4, .null), (74, 2, .iload 4, 4, 0, 0, .null), (76, 1, .iaload, 0, 0, 0, .null), (77, 3, .if_icmp .lt 7, 84, 0, 0, .null), (80, 1, .iconst 1, 0, 0, 0, .int (1)), (81, 3, .goto 4, 85, 0, 0, .null), (84, 1, .iconst 0, 0, 0, 0, .int (0)), (85, 1, .aload_n 0, 0, 0, 0, .null), (86, 3, .getfield 105, 8, 70, 4, .null), (89, 2, .iload 4, 4, 0, 0, .null), (91, 1, .baload, 0, 0, 2, .null), (92, 3, .if_icmp .ne 7, 99, 0, 0, .null), (95, 1, .iconst 1, 0, 0, 0, .int (1)), (96, 3, .goto 4, 100, 0, 0, .null), (99, 1, .iconst 0, 0, 0, 0, .int (0)), (100, 1, .istore_n 3, 3, 0, 0, .null), (101, 3, .iinc 4 1, 4, 0, 0, .int (1)), (104, 3, .goto (-99), 5, 0, 0, .null), (107, 1, .iload_n 3, 3, 0, 0, .null), (108, 1, .ireturn, 0, 0, 2, .null)]
def kX8_layHad : List zE := [(0, 1, .aload_n 0, 0, 0, 0, .null), (1, 3, .getfield 360, 8, 41, 0, .null), (4, 1, .iconst 1, 0, 0, 0, .int (1)), (5, 1, .isub, 0, 0, 0, .null), (6, 1, .istore_n 2, 2, 0, 0, .null), (7, 1, .iconst 0, 0, 0, 0, .int (0)), (8, 1, .istore_n 3, 3, 0, 0, .null), (9, 1, .aload_n 0, 0, 0, 0, .null), (10, 1, .iload_n 1, 1, 0, 0, .null), (11, 3, .putfield 42, 8, 27, 0, .null), (14, 1, .iconst 0, 0, 0, 0, .int (0)), (15, 2, .istore 4, 4, 0, 0, .null), (17, 2, .iload 4, 4, 0, 0, .null), (19, 2, .bipush 6, 0, 0, 0, .int (6)), (21, 3, .if_icmp .gt 71, 92, 0, 0, .null), (24, 1, .aload_n 0, 0, 0, 0, .null), (25, 3, .getfield 109, 8, 73, 4, .null), (28, 2, .bipush 7, 0, 0, 0, .int (7)), (30, 1, .iload_n 1, 1, 0, 0, .null), (31, 1, .imul, 0, 0, 0, .null), (32, 2, .iload 4, 4, 0, 0, .null), (34, 1, .iadd, 0, 0, 0, .null), (35, 1, .iload_n 3, 3, 0, 0, .null), (36, 1, .iastore, 0, 0, 0, .null), (37, 2, .iload 4, 4, 0, 0, .null), (39, 1, .aload_n 0, 0, 0, 0, .null), (40, 3, .getfield 363, 8, 42, 0, .null), (43, 3, .if_icmp .lt 6, 49, 0, 0, .null), (46, 3, .goto 40, 86, 0, 0, .null), (49, 1, .iconst 0, 0, 0, 0, .int (0)), (50, 1, .iload_n 3, 3, 0, 0, .null), (51, 1, .aload_n 0, 0, 0, 0, .null), (52, 1, .iload_n 2, 2, 0, 0, .null), (53, 1, .aload_n 0, 0, 0, 0, .null), (54, 3, .getfield 60, 8, 33, 4, .null), (57, 2, .iload 4, 4, 0, 0, .null), (59, 1, .iaload, 0, 0, 0, .null), (60, 1, .iload_n 3, 3, 0, 0, .null), (61, 1, .iconst 0, 0, 0, 0, .int (0)), (62, 2, .iload 4, 4, 0, 0, .null), (64, 3, .invokevirtual 412, 190, 6, 33, .null), (67, 1, .iadd, 0, 0, 0, .null), (68, 3, .invokestatic 416, 188, 2, 1, .null), (71, 1, .istore_n 3, 3, 0, 0, .null), (72, 1, .iload_n 3, 3, 0, 0, .null), (73, 1, .aload_n 0, 0, 0, 0, .null), (74, 3, .getfield 63, 8, 44, 0, .null), (77, 3, .if_icmp .lt 7, 84, 0, 0, .null), (80, 1, .iconst 0, 0, 0, 0, .int (0)), (81, 3, .goto 4, 85, 0, 0, .null), (84, 1, .iload_n 3, 3, 0, 0, .null), (85, 1, .istore_n 3, 3, 0, 0, .null), (86, 3, .iinc 4 1, 4, 0, 0, .int (1)), (89, 3, .goto (-72), 17, 0, 0, .null), (92, 1, .aload_n 0, 0, 0, 0, .null), (93, 1, .iconst (-1), 0, 0, 0, .int (-1)), (94, 3, .putfield 42, 8, 27, 0, .null), (97, 1, .return_, 0, 0, 0, .null)]
def kX8_layFits : List zE := [(0, 1, .iconst 0, 0, 0, 0, .int (0)), (1, 1, .istore_n 2, 2, 0, 0, .null), (2, 1, .iconst 0, 0, 0, 0, .int (0)), (3, 1, .istore_n 3, 3, 0, 0, .null), (4, 1, .iload_n 3, 3, 0, 0, .null), (5, 2, .bipush 20, 0, 0, 0, .int (20)), (7, 3, .if_icmp .gt 45, 52, 0, 0, .null), (10, 1, .aload_n 0, 0, 0, 0, .null), (11, 3, .invokevirtual 515, 268, 1, 33, .null), (14, 3, .ifCond .eq 38, 52, 0, 0, .null), (17, 1, .aload_n 0, 0, 0, 0, .null), (18, 1, .iload_n 3, 3, 0, 0, .null), (19, 3, .invokevirtual 522, 273, 2, 32, .null), (22, 1, .aload_n 0, 0, 0, 0, .null), (23, 3, .getfield 115, 8, 75, 4, .null), (26, 1, .iload_n 3, 3, 0, 0, .null), (27, 1, .aload_n 0, 0, 0, 0, .null), (28, 1, .iload_n 3, 3, 0, 0, .null), (29, 1, .iload_n 1, 1, 0, 0, .null), (30, 3, .invokevirtual 525, 272, 3, 33, .null), (33, 1, .bastore, 0, 0, 2, .null), (34, 1, .iload_n 2, 2, 0, 0, .null), (35, 1, .aload_n 0, 0, 0, 0, .null), (36, 3, .getfield 115, 8, 75, 4, .null), (39, 1, .iload_n 3, 3, 0, 0, .null), (40, 1, .baload, 0, 0, 2, .null), (41, 3, .invokestatic 288, 184, 1, 1, .null), (44, 1, .iadd, 0, 0, 0, .null), (45, 1, .istore_n 2, 2, 0, 0, .null), (46, 3, .iinc 3 1, 3, 0, 0, .int (1)), (49, 3, .goto (-45), 4, 0, 0, .null), (52, 1, .iload_n 2, 2, 0, 0, .null), (53, 1, .ireturn, 0, 0, 0, .null)]
def kX8_fits : List zE := [(0, 1, .aload_n 0, 0, 0, 0, .null), (1, 1, .iload_n 1, 1, 0, 0, .null), (2, 3, .invokevirtual 528, 274, 2, 33, .null), (5, 1, .ireturn, 0, 0, 0, .null)]
def kX8_sure : List zE := [(0, 1, .iload_n 1, 1, 0, 0, .null), (1, 1, .iconst 0, 0, 0, 0, .int (0)), (2, 1, .iconst 1, 0, 0, 0, .int (1)), (3, 3, .invokestatic 396, 197, 3, 1, .null), (6, 3, .ifCond .eq 11, 17, 0, 0, .null), (9, 1, .aload_n 0, 0, 0, 0, .null), (10, 1, .iload_n 2, 2, 0, 0, .null), (11, 3, .invokevirtual 528, 274, 2, 33, .null), (14, 3, .ifCond .ne 5, 19, 0, 0, .null), (17, 1, .iconst (-1), 0, 0, 0, .int (-1)), (18, 1, .ireturn, 0, 0, 0, .null), (19, 1, .iconst (-1), 0, 0, 0, .int (-1)), (20, 1, .istore_n 3, 3, 0, 0, .null), (21, 1, .iconst 0, 0, 0, 0, .int (0)), (22, 2, .istore 4, 4, 0, 0, .null), (24, 2, .iload 4, 4, 0, 0, .null), (26, 2, .bipush 20, 0, 0, 0, .int (20)), (28, 3, .if_icmp .gt 31, 59, 0, 0, .null), (31, 1, .aload_n 0, 0, 0, 0, .null), (32, 3, .getfield 115, 8, 75, 4, .null), (35, 2, .iload 4, 4, 0, 0, .null), (37, 1, .baload, 0, 0, 2, .null), (38, 3, .ifCond .eq 15, 53, 0, 0, .null), (41, 1, .iload_n 3, 3, 0, 0, .null), (42, 3, .ifCond .lt 8, 50, 0, 0, .null), (45, 1, .iload_n 1, 1, 0, 0, .null), (46, 1, .iconst 1, 0, 0, 0, .int (1)), (47, 3, .if_icmp .ne 6, 53, 0, 0, .null), (50, 2, .iload 4, 4, 0, 0, .null), (52, 1, .istore_n 3, 3, 0, 0, .null), (53, 3, .iinc 4 1, 4, 0, 0, .int (1)), (56, 3, .goto (-32), 24, 0, 0, .null), (59, 1, .iload_n 3, 3, 0, 0, .null), (60, 1, .ireturn, 0, 0, 0, .null)]
def kX8_leftBy : List zE := [(0, 1, .iconst 0, 0, 0, 0, .int (0)), (1, 1, .istore_n 2, 2, 0, 0, .null), (2, 1, .iload_n 2, 2, 0, 0, .null), (3, 2, .bipush 40, 0, 0, 0, .int (40)), (5, 3, .if_icmp .ge 16, 21, 0, 0, .null), (8, 1, .aload_n 0, 0, 0, 0, .null), (9, 3, .getfield 112, 8, 74, 4, .null), (12, 1, .iload_n 2, 2, 0, 0, .null), (13, 1, .iconst 0, 0, 0, 0, .int (0)), (14, 1, .iastore, 0, 0, 0, .null), (15, 3, .iinc 2 1, 2, 0, 0, .int (1)), (18, 3, .goto (-16), 2, 0, 0, .null), (21, 1, .iconst 0, 0, 0, 0, .int (0)), (22, 1, .istore_n 2, 2, 0, 0, .null), (23, 1, .iconst 0, 0, 0, 0, .int (0)), (24, 1, .istore_n 3, 3, 0, 0, .null), (25, 1, .iload_n 3, 3, 0, 0, .null), (26, 2, .bipush 20, 0, 0, 0, .int (20)), (28, 3, .if_icmp .gt 57, 85, 0, 0, .null), (31, 1, .aload_n 0, 0, 0, 0, .null), (32, 3, .getfield 115, 8, 75, 4, .null), (35, 1, .iload_n 3, 3, 0, 0, .null), (36, 1, .baload, 0, 0, 2, .null), (37, 3, .ifCond .ne 6, 43, 0, 0, .null), (40, 3, .goto 39, 79, 0, 0, .null), (43, 1, .aload_n 0, 0, 0, 0, .null), (44, 3, .getfield 109, 8, 73, 4, .null), (47, 2, .bipush 7, 0, 0, 0, .int (7)), (49, 1, .iload_n 3, 3, 0, 0, .null), (50, 1, .imul, 0, 0, 0, .null), (51, 1, .iload_n 1, 1, 0, 0, .null), (52, 1, .iadd, 0, 0, 0, .null), (53, 1, .iaload, 0, 0, 0, .null), (54, 2, .istore 4, 4, 0, 0, .null), (56, 1, .aload_n 0, 0, 0, 0, .null), (57, 3, .getfield 112, 8, 74, 4, .null), (60, 2, .iload 4, 4, 0, 0, .null), (62, 1, .dup2, 0, 0, 0, .null), (63, 1, .iaload, 0, 0, 0, .null), (64, 1, .iconst 1, 0, 0, 0, .int (1)), (65, 1, .iadd, 0, 0, 0, .null), (66, 1, .iastore, 0, 0, 0, .null), (67, 1, .iload_n 2, 2, 0, 0, .null), (68, 1, .aload_n 0, 0, 0, 0, .null), (69, 3, .getfield 112, 8, 74, 4, .null), (72, 2, .iload 4, 4, 0, 0, .null), (74, 1, .iaload, 0, 0, 0, .null), (75, 3, .invokestatic 416, 188, 2, 1, .null), (78, 1, .istore_n 2, 2, 0, 0, .null), (79, 3, .iinc 3 1, 3, 0, 0, .int (1)), (82, 3, .goto (-57), 25, 0, 0, .null), (85, 1, .iload_n 2, 2, 0, 0, .null), (86, 1, .ireturn, 0, 0, 0, .null)]
def kX8_ask : List zE := [(0, 1, .iload_n 1, 1, 0, 0, .null), (1, 1, .iconst 0, 0, 0, 0, .int (0)), (2, 1, .iconst 1, 0, 0, 0, .int (1)), (3, 3, .invokestatic 396, 197, 3, 1, .null), (6, 3, .ifCond .eq 11, 17, 0, 0, .null), (9, 1, .aload_n 0, 0, 0, 0, .null), (10, 1, .iload_n 2, 2, 0, 0, .null), (11, 3, .invokevirtual 528, 274, 2, 33, .null), (14, 3, .ifCond .ne 5, 19, 0, 0, .null), (17, 1, .iconst (-1), 0, 0, 0, .int (-1)), (18, 1, .ireturn, 0, 0, 0, .null), (19, 1, .iconst 0, 0, 0, 0, .int (0)), (20, 1, .istore_n 3, 3, 0, 0, .null), (21, 1, .iconst 1, 0, 0, 0, .int (1)), (22, 2, .istore 4, 4, 0, 0, .null), (24, 2, .iload 4, 4, 0, 0, .null), (26, 2, .bipush 6, 0, 0, 0, .int (6)), (28, 3, .if_icmp .gt 30, 58, 0, 0, .null), (31, 1, .aload_n 0, 0, 0, 0, .null), (32, 2, .iload 4, 4, 0, 0, .null), (34, 3, .invokevirtual 531, 277, 2, 33, .null), (37, 1, .aload_n 0, 0, 0, 0, .null), (38, 1, .iload_n 3, 3, 0, 0, .null), (39, 3, .invokevirtual 531, 277, 2, 33, .null), (42, 3, .if_icmp .ge 8, 50, 0, 0, .null), (45, 2, .iload 4, 4, 0, 0, .null), (47, 3, .goto 4, 51, 0, 0, .null), (50, 1, .iload_n 3, 3, 0, 0, .null), (51, 1, .istore_n 3, 3, 0, 0, .null), (52, 3, .iinc 4 1, 4, 0, 0, .int (1)), (55, 3, .goto (-31), 24, 0, 0, .null), (58, 1, .iload_n 1, 1, 0, 0, .null), (59, 3, .ifCond .ne 7, 66, 0, 0, .null), (62, 1, .iload_n 3, 3, 0, 0, .null), (63, 3, .goto 8, 71, 0, 0, .null), (66, 1, .aload_n 0, 0, 0, 0, .null), (67, 1, .iload_n 3, 3, 0, 0, .null), (68, 3, .invokevirtual 531, 277, 2, 33, .null), (71, 1, .ireturn, 0, 0, 0, .null)]
def kX8_isBox : List zE := [(0, 1, .iload_n 0, 0, 0, 0, .null), (1, 3, .ifCond .lt 12, 13, 0, 0, .null), (4, 1, .iload_n 0, 0, 0, 0, .null), (5, 1, .iconst 3, 0, 0, 0, .int (3)), (6, 3, .if_icmp .ge 7, 13, 0, 0, .null), (9, 1, .iconst 1, 0, 0, 0, .int (1)), (10, 3, .goto 4, 14, 0, 0, .null), (13, 1, .iconst 0, 0, 0, 0, .int (0)), (14, 1, .ireturn, 0, 0, 2, .null)]
def kX8_image : List zE := [(0, 1, .iload_n 1, 1, 0, 0, .null), (1, 3, .invokestatic 534, 279, 1, 1, .null), (4, 3, .ifCond .ne 5, 9, 0, 0, .null), (7, 1, .iconst (-1), 0, 0, 0, .int (-1)), (8, 1, .ireturn, 0, 0, 0, .null), (9, 1, .aload_n 0, 0, 0, 0, .null), (10, 3, .getfield 118, 8, 76, 4, .null), (13, 1, .iload_n 1, 1, 0, 0, .null), (14, 1, .iconst 1, 0, 0, 0, .int (1)), (15, 1, .bastore, 0, 0, 2, .null), (16, 1, .iconst 0, 0, 0, 0, .int (0)), (17, 1, .istore_n 2, 2, 0, 0, .null), (18, 1, .iload_n 2, 2, 0, 0, .null), (19, 2, .bipush 11, 0, 0, 0, .int (11)), (21, 3, .if_icmp .ge 26, 47, 0, 0, .null), (24, 1, .aload_n 0, 0, 0, 0, .null), (25, 3, .getfield 121, 8, 77, 4, .null), (28, 2, .bipush 11, 0, 0, 0, .int (11)), (30, 1, .iload_n 1, 1, 0, 0, .null), (31, 1, .imul, 0, 0, 0, .null), (32, 1, .iload_n 2, 2, 0, 0, .null), (33, 1, .iadd, 0, 0, 0, .null), (34, 1, .aload_n 0, 0, 0, 0, .null), (35, 3, .getfield 69, 8, 52, 4, .null), (38, 1, .iload_n 2, 2, 0, 0, .null), (39, 1, .iaload, 0, 0, 0, .null), (40, 1, .iastore, 0, 0, 0, .null), (41, 3, .iinc 2 1, 2, 0, 0, .int (1)), (44, 3, .goto (-26), 18, 0, 0, .null), (47, 1, .aload_n 0, 0, 0, 0, .null), (48, 3, .getfield 69, 8, 52, 4, .null), (51, 2, .bipush 8, 0, 0, 0, .int (8)), (53, 1, .iaload, 0, 0, 0, .null), (54, 3, .invokestatic 403, 189, 1, 1, .null), (57, 1, .ireturn, 0, 0, 0, .null)]
def kX8_back : List zE := [(0, 1, .iload_n 1, 1, 0, 0, .null), (1, 3, .invokestatic 534, 279, 1, 1, .null), (4, 3, .ifCond .eq 12, 16, 0, 0, .null), (7, 1, .aload_n 0, 0, 0, 0, .null), (8, 3, .getfield 118, 8, 76, 4, .null), (11, 1, .iload_n 1, 1, 0, 0, .null), (12, 1, .baload, 0, 0, 2, .null), (13, 3, .ifCond .ne 5, 18, 0, 0, .null), (16, 1, .iconst (-1), 0, 0, 0, .int (-1)), (17, 1, .ireturn, 0, 0, 0, .null), (18, 1, .iconst 0, 0, 0, 0, .int (0)), (19, 1, .istore_n 2, 2, 0, 0, .null), (20, 1, .iload_n 2, 2, 0, 0, .null), (21, 2, .bipush 11, 0, 0, 0, .int (11)), (23, 3, .if_icmp .ge 26, 49, 0, 0, .null), (26, 1, .aload_n 0, 0, 0, 0, .null), (27, 3, .getfield 69, 8, 52, 4, .null), (30, 1, .iload_n 2, 2, 0, 0, .null), (31, 1, .aload_n 0, 0, 0, 0, .null), (32, 3, .getfield 121, 8, 77, 4, .null), (35, 2, .bipush 11, 0, 0, 0, .int (11)), (37, 1, .iload_n 1, 1, 0, 0, .null), (38, 1, .imul, 0, 0, 0, .null), (39, 1, .iload_n 2, 2, 0, 0, .null), (40, 1, .iadd, 0, 0, 0, .null), (41, 1, .iaload, 0, 0, 0, .null), (42, 1, .iastore, 0, 0, 0, .null), (43, 3, .iinc 2 1, 2, 0, 0, .int (1)), (46, 3, .goto (-26), 20, 0, 0, .null), (49, 1, .aload_n 0, 0, 0, 0, .null), (50, 1, .iconst 0, 0, 0, 0, .int (0)), (51, 3, .putfield 384, 8, 57, 0, .null), (54, 1, .aload_n 0, 0, 0, 0, .null), (55, 1, .iconst 0, 0, 0, 0, .int (0)), (56, 3, .putfield 387, 8, 58, 0, .null), (59, 1, .aload_n 0, 0, 0, 0, .null), (60, 3, .getfield 69, 8, 52, 4, .null), (63, 2, .bipush 8, 0, 0, 0, .int (8)), (65, 1, .iaload, 0, 0, 0, .null), (66, 3, .invokestatic 403, 189, 1, 1, .null), (69, 1, .ireturn, 0, 0, 0, .null)]
def kX8_about : List zE := [(0, 1, .iload_n 1, 1, 0, 0, .null), (1, 75, .tableswitch 159 0 14 #[75, 80, 85, 93, 101, 109, 114, 119, 124, 129, 134, 139, 144, 149, 154], 0, 0, 0, .null), (76, 1, .aload_n 0, 0, 0, 0, .null), (77, 3, .getfield 360, 8, 41, 0, .null), (80, 1, .ireturn, 0, 0, 0, .null), (81, 1, .aload_n 0, 0, 0, 0, .null), (82, 3, .getfield 363, 8, 42, 0, .null), (85, 1, .ireturn, 0, 0, 0, .null), (86, 1, .aload_n 0, 0, 0, 0, .null), (87, 3, .getfield 69, 8, 52, 4, .null), (90, 2, .bipush 8, 0, 0, 0, .int (8)), (92, 1, .iaload, 0, 0, 0, .null), (93, 1, .ireturn, 0, 0, 0, .null), (94, 1, .aload_n 0, 0, 0, 0, .null), (95, 3, .getfield 69, 8, 52, 4, .null), (98, 2, .bipush 9, 0, 0, 0, .int (9)), (100, 1, .iaload, 0, 0, 0, .null), (101, 1, .ireturn, 0, 0, 0, .null), (102, 1, .aload_n 0, 0, 0, 0, .null), (103, 3, .getfield 69, 8, 52, 4, .null), (106, 2, .bipush 10, 0, 0, 0, .int (10)), (108, 1, .iaload, 0, 0, 0, .null), (109, 1, .ireturn, 0, 0, 0, .null), (110, 1, .aload_n 0, 0, 0, 0, .null), (111, 3, .getfield 384, 8, 57, 0, .null), (114, 1, .ireturn, 0, 0, 0, .null), (115, 1, .aload_n 0, 0, 0, 0, .null), (116, 3, .getfield 387, 8, 58, 0, .null), (119, 1, .ireturn, 0, 0, 0, .null), (120, 1, .aload_n 0, 0, 0, 0, .null), (121, 3, .getfield 390, 8, 71, 0, .null), (124, 1, .ireturn, 0, 0, 0, .null), (125, 1, .aload_n 0, 0, 0, 0, .null), (126, 3, .getfield 518, 8, 72, 0, .null), (129, 1, .ireturn, 0, 0, 0, .null), (130, 1, .aload_n 0, 0, 0, 0, .null), (131, 3, .getfield 124, 8, 1, 0, .null), (134, 1, .ireturn, 0, 0, 0, .null), (135, 1, .aload_n 0, 0, 0, 0, .null), (136, 3, .getfield 375, 8, 21, 0, .null), (139, 1, .ireturn, 0, 0, 0, .null), (140, 1, .aload_n 0, 0, 0, 0, .null), (141, 3, .getfield 393, 8, 62, 0, .null), (144, 1, .ireturn, 0, 0, 0, .null), (145, 1, .aload_n 0, 0, 0, 0, .null), (146, 3, .getfield 63, 8, 44, 0, .null), (149, 1, .ireturn, 0, 0, 0, .null), (150, 1, .aload_n 0, 0, 0, 0, .null), (151, 3, .getfield 66, 8, 45, 0, .null), (154, 1, .ireturn, 0, 0, 0, .null), (155, 1, .aload_n 0, 0, 0, 0, .null), (156, 3, .getfield 369, 8, 46, 0, .null), (159, 1, .ireturn, 0, 0, 0, .null), (160, 1, .iconst (-1), 0, 0, 0, .int (-1)), (161, 1, .ireturn, 0, 0, 0, .null)]
end
section
/-! the code, instruction by instruction, links resolved -/
def kL_law : List zE := [(0, 3, .new 7, 7, 14, 0, .null), (3, 1, .dup, 0, 0, 0, .null), (4, 3, .invokespecial 9, 86, 1, 0, .ref 144003467), (7, 1, .astore_n 1, 1, 0, 0, .null), (8, 3, .new 10, 8, 78, 0, .null), (11, 1, .dup, 0, 0, 0, .null), (12, 3, .invokespecial 12, 153, 1, 0, .ref 33004052), (15, 1, .astore_n 2, 2, 0, 0, .null), (16, 1, .iconst 0, 0, 0, 0, .int (0)), (17, 1, .istore_n 3, 3, 0, 0, .null), (18, 1, .iload_n 3, 3, 0, 0, .null), (19, 1, .aload_n 0, 0, 0, 0, .null), (20, 1, .arraylength, 0, 0, 0, .null), (21, 2, .bipush 6, 0, 0, 0, .int (6)), (23, 1, .isub, 0, 0, 0, .null), (24, 3, .if_icmp .gt 1801, 1825, 0, 0, .null), (27, 1, .aload_n 0, 0, 0, 0, .null), (28, 1, .iload_n 3, 3, 0, 0, .null), (29, 1, .iaload, 0, 0, 0, .null), (30, 2, .bipush 63, 0, 0, 0, .int (63)), (32, 1, .iand, 0, 0, 0, .null), (33, 219, .tableswitch 1786 0 50 #[219, 282, 305, 318, 341, 374, 407, 466, 515, 538, 551, 564, 577, 626, 675, 724, 767, 806, 829, 868, 891, 924, 967, 1000, 1049, 1098, 1147, 1160, 1209, 1258, 1281, 1294, 1307, 1320, 1333, 1346, 1359, 1372, 1385, 1408, 1467, 1500, 1523, 1582, 1605, 1628, 1651, 1684, 1717, 1740, 1763], 0, 0, 0, .null), (252, 1, .aload_n 1, 1, 0, 0, .null), (253, 1, .aload_n 0, 0, 0, 0, .null), (254, 1, .iload_n 3, 3, 0, 0, .null), (255, 1, .iconst 1, 0, 0, 0, .int (1)), (256, 1, .iadd, 0, 0, 0, .null), (257, 1, .iaload, 0, 0, 0, .null), (258, 1, .aload_n 0, 0, 0, 0, .null), (259, 1, .iload_n 3, 3, 0, 0, .null), (260, 1, .iconst 2, 0, 0, 0, .int (2)), (261, 1, .iadd, 0, 0, 0, .null), (262, 1, .iaload, 0, 0, 0, .null), (263, 1, .aload_n 0, 0, 0, 0, .null), (264, 1, .iload_n 3, 3, 0, 0, .null), (265, 1, .iconst 3, 0, 0, 0, .int (3)), (266, 1, .iadd, 0, 0, 0, .null), (267, 1, .iaload, 0, 0, 0, .null), (268, 1, .aload_n 0, 0, 0, 0, .null), (269, 1, .iload_n 3, 3, 0, 0, .null), (270, 1, .iconst 4, 0, 0, 0, .int (4)), (271, 1, .iadd, 0, 0, 0, .null), (272, 1, .iaload, 0, 0, 0, .null), (273, 1, .aload_n 0, 0, 0, 0, .null), (274, 1, .iload_n 3, 3, 0, 0, .null), (275, 1, .iconst 5, 0, 0, 0, .int (5)), (276, 1, .iadd, 0, 0, 0, .null), (277, 1, .iaload, 0, 0, 0, .null), (278, 3, .invokevirtual 13, 87, 6, 29, .null), (281, 1, .aload_n 2, 2, 0, 0, .null), (282, 1, .aload_n 0, 0, 0, 0, .null), (283, 1, .iload_n 3, 3, 0, 0, .null), (284, 1, .iconst 1, 0, 0, 0, .int (1)), (285, 1, .iadd, 0, 0, 0, .null), (286, 1, .iaload, 0, 0, 0, .null), (287, 1, .aload_n 0, 0, 0, 0, .null), (288, 1, .iload_n 3, 3, 0, 0, .null), (289, 1, .iconst 2, 0, 0, 0, .int (2)), (290, 1, .iadd, 0, 0, 0, .null), (291, 1, .iaload, 0, 0, 0, .null), (292, 1, .aload_n 0, 0, 0, 0, .null), (293, 1, .iload_n 3, 3, 0, 0, .null), (294, 1, .iconst 3, 0, 0, 0, .int (3)), (295, 1, .iadd, 0, 0, 0, .null), (296, 1, .iaload, 0, 0, 0, .null), (297, 1, .aload_n 0, 0, 0, 0, .null), (298, 1, .iload_n 3, 3, 0, 0, .null), (299, 1, .iconst 4, 0, 0, 0, .int (4)), (300, 1, .iadd, 0, 0, 0, .null), (301, 1, .iaload, 0, 0, 0, .null), (302, 1, .aload_n 0, 0, 0, 0, .null), (303, 1, .iload_n 3, 3, 0, 0, .null), (304, 1, .iconst 5, 0, 0, 0, .int (5)), (305, 1, .iadd, 0, 0, 0, .null), (306, 1, .iaload, 0, 0, 0, .null), (307, 3, .invokevirtual 17, 154, 6, 33, .null), (310, 3, .if_icmp .eq 1509, 1819, 0, 0, .null), (313, 1, .iconst 0, 0, 0, 0, .int (0)), (314, 1, .ireturn, 0, 0, 2, .null), (315, 1, .aload_n 1, 1, 0, 0, .null), (316, 1, .aload_n 0, 0, 0, 0, .null), (317, 1, .iload_n 3, 3, 0, 0, .null), (318, 1, .iconst 1, 0, 0, 0, .int (1)), (319, 1, .iadd, 0, 0, 0, .null), (320, 1, .iaload, 0, 0, 0, .null), (321, 3, .invokevirtual 18, 88, 2, 29, .null), (324, 1, .aload_n 2, 2, 0, 0, .null), (325, 1, .aload_n 0, 0, 0, 0, .null), (326, 1, .iload_n 3, 3, 0, 0, .null), (327, 1, .iconst 1, 0, 0, 0, .int (1)), (328, 1, .iadd, 0, 0, 0, .null), (329, 1, .iaload, 0, 0, 0, .null), (330, 3, .invokevirtual 22, 156, 2, 33, .null), (333, 3, .if_icmp .eq 1486, 1819, 0, 0, .null), (336, 1, .iconst 0, 0, 0, 0, .int (0)), (337, 1, .ireturn, 0, 0, 2, .null), (338, 1, .aload_n 1, 1, 0, 0, .null), (339, 3, .invokevirtual 23, 89, 1, 29, .ref 0), (342, 1, .aload_n 2, 2, 0, 0, .null), (343, 3, .invokevirtual 27, 195, 1, 33, .null), (346, 3, .if_icmp .eq 1473, 1819, 0, 0, .null), (349, 1, .iconst 0, 0, 0, 0, .int (0)), (350, 1, .ireturn, 0, 0, 2, .null), (351, 1, .aload_n 1, 1, 0, 0, .null), (352, 1, .aload_n 0, 0, 0, 0, .null), (353, 1, .iload_n 3, 3, 0, 0, .null), (354, 1, .iconst 1, 0, 0, 0, .int (1)), (355, 1, .iadd, 0, 0, 0, .null), (356, 1, .iaload, 0, 0, 0, .null), (357, 3, .invokevirtual 28, 90, 2, 29, .null), (360, 1, .aload_n 2, 2, 0, 0, .null), (361, 1, .aload_n 0, 0, 0, 0, .null), (362, 1, .iload_n 3, 3, 0, 0, .null), (363, 1, .iconst 1, 0, 0, 0, .int (1)), (364, 1, .iadd, 0, 0, 0, .null), (365, 1, .iaload, 0, 0, 0, .null), (366, 3, .invokevirtual 31, 196, 2, 33, .null), (369, 3, .if_icmp .eq 1450, 1819, 0, 0, .null), (372, 1, .iconst 0, 0, 0, 0, .int (0)), (373, 1, .ireturn, 0, 0, 2, .null), (374, 1, .aload_n 1, 1, 0, 0, .null), (375, 1, .aload_n 0, 0, 0, 0, .null), (376, 1, .iload_n 3, 3, 0, 0, .null), (377, 1, .iconst 1, 0, 0, 0, .int (1)), (378, 1, .iadd, 0, 0, 0, .null), (379, 1, .iaload, 0, 0, 0, .null), (380, 1, .aload_n 0, 0, 0, 0, .null), (381, 1, .iload_n 3, 3, 0, 0, .null), (382, 1, .iconst 2, 0, 0, 0, .int (2)), (383, 1, .iadd, 0, 0, 0, .null), (384, 1, .iaload, 0, 0, 0, .null), (385, 3, .invokevirtual 32, 91, 3, 29, .null), (388, 1, .aload_n 2, 2, 0, 0, .null), (389, 1, .aload_n 0, 0, 0, 0, .null), (390, 1, .iload_n 3, 3, 0, 0, .null), (391, 1, .iconst 1, 0, 0, 0, .int (1)), (392, 1, .iadd, 0, 0, 0, .null), (393, 1, .iaload, 0, 0, 0, .null), (394, 1, .aload_n 0, 0, 0, 0, .null), (395, 1, .iload_n 3, 3, 0, 0, .null), (396, 1, .iconst 2, 0, 0, 0, .int (2)), (397, 1, .iadd, 0, 0, 0, .null), (398, 1, .iaload, 0, 0, 0, .null), (399, 3, .invokevirtual 36, 211, 3, 33, .null), (402, 3, .if_icmp .eq 1417, 1819, 0, 0, .null), (405, 1, .iconst 0, 0, 0, 0, .int (0)), (406, 1, .ireturn, 0, 0, 2, .null), (407, 1, .aload_n 1, 1, 0, 0, .null), (408, 1, .aload_n 0, 0, 0, 0, .null), (409, 1, .iload_n 3, 3, 0, 0, .null), (410, 1, .iconst 1, 0, 0, 0, .int (1)), (411, 1, .iadd, 0, 0, 0, .null), (412, 1, .iaload, 0, 0, 0, .null), (413, 1, .aload_n 0, 0, 0, 0, .null), (414, 1, .iload_n 3, 3, 0, 0, .null), (415, 1, .iconst 2, 0, 0, 0, .int (2)), (416, 1, .iadd, 0, 0, 0, .null), (417, 1, .iaload, 0, 0, 0, .null), (418, 3, .invokevirtual 37, 92, 3, 29, .null), (421, 1, .aload_n 2, 2, 0, 0, .null), (422, 1, .aload_n 0, 0, 0, 0, .null), (423, 1, .iload_n 3, 3, 0, 0, .null), (424, 1, .iconst 1, 0, 0, 0, .int (1)), (425, 1, .iadd, 0, 0, 0, .null), (426, 1, .iaload, 0, 0, 0, .null), (427, 1, .aload_n 0, 0, 0, 0, .null), (428, 1, .iload_n 3, 3, 0, 0, .null), (429, 1, .iconst 2, 0, 0, 0, .int (2)), (430, 1, .iadd, 0, 0, 0, .null), (431, 1, .iaload, 0, 0, 0, .null), (432, 3, .invokevirtual 40, 212, 3, 33, .null), (435, 3, .if_icmp .eq 1384, 1819, 0, 0, .null), (438, 1, .iconst 0, 0, 0, 0, .int (0)), (439, 1, .ireturn, 0, 0, 2, .null), (440, 1, .aload_n 1, 1, 0, 0, .null), (441, 1, .aload_n 0, 0, 0, 0, .null), (442, 1, .iload_n 3, 3, 0, 0, .null), (443, 1, .iconst 1, 0, 0, 0, .int (1)), (444, 1, .iadd, 0, 0, 0, .null), (445, 1, .iaload, 0, 0, 0, .null), (446, 1, .aload_n 0, 0, 0, 0, .null), (447, 1, .iload_n 3, 3, 0, 0, .null), (448, 1, .iconst 2, 0, 0, 0, .int (2)), (449, 1, .iadd, 0, 0, 0, .null), (450, 1, .iaload, 0, 0, 0, .null), (451, 1, .aload_n 0, 0, 0, 0, .null), (452, 1, .iload_n 3, 3, 0, 0, .null), (453, 1, .iconst 3, 0, 0, 0, .int (3)), (454, 1, .iadd, 0, 0, 0, .null), (455, 1, .iaload, 0, 0, 0, .null), (456, 3, .ifCond .eq 7, 463, 0, 0, .null), (459, 1, .iconst 1, 0, 0, 0, .int (1)), (460, 3, .goto 4, 464, 0, 0, .null), (463, 1, .iconst 0, 0, 0, 0, .int (0)), (464, 3, .invokevirtual 41, 93, 4, 29, .null), (467, 1, .aload_n 2, 2, 0, 0, .null), (468, 1, .aload_n 0, 0, 0, 0, .null), (469, 1, .iload_n 3, 3, 0, 0, .null), (470, 1, .iconst 1, 0, 0, 0, .int (1)), (471, 1, .iadd, 0, 0, 0, .null), (472, 1, .iaload, 0, 0, 0, .null), (473, 1, .aload_n 0, 0, 0, 0, .null), (474, 1, .iload_n 3, 3, 0, 0, .null), (475, 1, .iconst 2, 0, 0, 0, .int (2)), (476, 1, .iadd, 0, 0, 0, .null), (477, 1, .iaload, 0, 0, 0, .null), (478, 1, .aload_n 0, 0, 0, 0, .null), (479, 1, .iload_n 3, 3, 0, 0, .null), (480, 1, .iconst 3, 0, 0, 0, .int (3)), (481, 1, .iadd, 0, 0, 0, .null), (482, 1, .iaload, 0, 0, 0, .null), (483, 3, .ifCond .eq 7, 490, 0, 0, .null), (486, 1, .iconst 1, 0, 0, 0, .int (1)), (487, 3, .goto 4, 491, 0, 0, .null), (490, 1, .iconst 0, 0, 0, 0, .int (0)), (491, 3, .invokevirtual 45, 214, 4, 33, .null), (494, 3, .if_icmp .eq 1325, 1819, 0, 0, .null), (497, 1, .iconst 0, 0, 0, 0, .int (0)), (498, 1, .ireturn, 0, 0, 2, .null), (499, 1, .aload_n 1, 1, 0, 0, .null), (500, 1, .aload_n 0, 0, 0, 0, .null), (501, 1, .iload_n 3, 3, 0, 0, .null), (502, 1, .iconst 1, 0, 0, 0, .int (1)), (503, 1, .iadd, 0, 0, 0, .null), (504, 1, .iaload, 0, 0, 0, .null), (505, 1, .aload_n 0, 0, 0, 0, .null), (506, 1, .iload_n 3, 3, 0, 0, .null), (507, 1, .iconst 2, 0, 0, 0, .int (2)), (508, 1, .iadd, 0, 0, 0, .null), (509, 1, .iaload, 0, 0, 0, .null), (510, 3, .ifCond .eq 7, 517, 0, 0, .null), (513, 1, .iconst 1, 0, 0, 0, .int (1)), (514, 3, .goto 4, 518, 0, 0, .null), (517, 1, .iconst 0, 0, 0, 0, .int (0)), (518, 3, .invokevirtual 46, 94, 3, 29, .null), (521, 1, .aload_n 2, 2, 0, 0, .null), (522, 1, .aload_n 0, 0, 0, 0, .null), (523, 1, .iload_n 3, 3, 0, 0, .null), (524, 1, .iconst 1, 0, 0, 0, .int (1)), (525, 1, .iadd, 0, 0, 0, .null), (526, 1, .iaload, 0, 0, 0, .null), (527, 1, .aload_n 0, 0, 0, 0, .null), (528, 1, .iload_n 3, 3, 0, 0, .null), (529, 1, .iconst 2, 0, 0, 0, .int (2)), (530, 1, .iadd, 0, 0, 0, .null), (531, 1, .iaload, 0, 0, 0, .null), (532, 3, .ifCond .eq 7, 539, 0, 0, .null), (535, 1, .iconst 1, 0, 0, 0, .int (1)), (536, 3, .goto 4, 540, 0, 0, .null), (539, 1, .iconst 0, 0, 0, 0, .int (0)), (540, 3, .invokevirtual 50, 217, 3, 33, .null), (543, 3, .if_icmp .eq 1276, 1819, 0, 0, .null), (546, 1, .iconst 0, 0, 0, 0, .int (0)), (547, 1, .ireturn, 0, 0, 2, .null), (548, 1, .aload_n 1, 1, 0, 0, .null), (549, 1, .aload_n 0, 0, 0, 0, .null), (550, 1, .iload_n 3, 3, 0, 0, .null), (551, 1, .iconst 1, 0, 0, 0, .int (1)), (552, 1, .iadd, 0, 0, 0, .null), (553, 1, .iaload, 0, 0, 0, .null), (554, 3, .invokevirtual 51, 95, 2, 29, .null), (557, 1, .aload_n 2, 2, 0, 0, .null), (558, 1, .aload_n 0, 0, 0, 0, .null), (559, 1, .iload_n 3, 3, 0, 0, .null), (560, 1, .iconst 1, 0, 0, 0, .int (1)), (561, 1, .iadd, 0, 0, 0, .null), (562, 1, .iaload, 0, 0, 0, .null), (563, 3, .invokevirtual 54, 218, 2, 33, .null), (566, 3, .if_icmp .eq 1253, 1819, 0, 0, .null), (569, 1, .iconst 0, 0, 0, 0, .int (0)), (570, 1, .ireturn, 0, 0, 2, .null), (571, 1, .aload_n 1, 1, 0, 0, .null), (572, 3, .invokevirtual 55, 96, 1, 29, .null), (575, 1, .aload_n 2, 2, 0, 0, .null), (576, 3, .invokevirtual 58, 220, 1, 33, .null), (579, 3, .if_icmp .eq 1240, 1819, 0, 0, .null), (582, 1, .iconst 0, 0, 0, 0, .int (0)), (583, 1, .ireturn, 0, 0, 2, .null), (584, 1, .aload_n 1, 1, 0, 0, .null), (585, 3, .invokevirtual 59, 97, 1, 29, .null), (588, 1, .aload_n 2, 2, 0, 0, .null), (589, 3, .invokevirtual 63, 221, 1, 33, .null), (592, 3, .if_icmp .eq 1227, 1819, 0, 0, .null), (595, 1, .iconst 0, 0, 0, 0, .int (0)), (596, 1, .ireturn, 0, 0, 2, .null), (597, 1, .aload_n 1, 1, 0, 0, .null), (598, 3, .invokevirtual 64, 98, 1, 29, .null), (601, 1, .aload_n 2, 2, 0, 0, .null), (602, 3, .invokevirtual 67, 222, 1, 33, .null), (605, 3, .if_icmp .eq 1214, 1819, 0, 0, .null), (608, 1, .iconst 0, 0, 0, 0, .int (0)), (609, 1, .ireturn, 0, 0, 2, .null), (610, 1, .aload_n 1, 1, 0, 0, .null), (611, 1, .aload_n 0, 0, 0, 0, .null), (612, 1, .iload_n 3, 3, 0, 0, .null), (613, 1, .iconst 1, 0, 0, 0, .int (1)), (614, 1, .iadd, 0, 0, 0, .null), (615, 1, .iaload, 0, 0, 0, .null), (616, 1, .aload_n 0, 0, 0, 0, .null), (617, 1, .iload_n 3, 3, 0, 0, .null), (618, 1, .iconst 2, 0, 0, 0, .int (2)), (619, 1, .iadd, 0, 0, 0, .null), (620, 1, .iaload, 0, 0, 0, .null), (621, 3, .ifCond .eq 7, 628, 0, 0, .null), (624, 1, .iconst 1, 0, 0, 0, .int (1)), (625, 3, .goto 4, 629, 0, 0, .null), (628, 1, .iconst 0, 0, 0, 0, .int (0)), (629, 3, .invokevirtual 68, 99, 3, 29, .null), (632, 1, .aload_n 2, 2, 0, 0, .null), (633, 1, .aload_n 0, 0, 0, 0, .null), (634, 1, .iload_n 3, 3, 0, 0, .null), (635, 1, .iconst 1, 0, 0, 0, .int (1)), (636, 1, .iadd, 0, 0, 0, .null), (637, 1, .iaload, 0, 0, 0, .null), (638, 1, .aload_n 0, 0, 0, 0, .null), (639, 1, .iload_n 3, 3, 0, 0, .null), (640, 1, .iconst 2, 0, 0, 0, .int (2)), (641, 1, .iadd, 0, 0, 0, .null), (642, 1, .iaload, 0, 0, 0, .null), (643, 3, .ifCond .eq 7, 650, 0, 0, .null), (646, 1, .iconst 1, 0, 0, 0, .int (1)), (647, 3, .goto 4, 651, 0, 0, .null), (650, 1, .iconst 0, 0, 0, 0, .int (0)), (651, 3, .invokevirtual 71, 225, 3, 33, .null), (654, 3, .if_icmp .eq 1165, 1819, 0, 0, .null), (657, 1, .iconst 0, 0, 0, 0, .int (0)), (658, 1, .ireturn, 0, 0, 2, .null), (659, 1, .aload_n 1, 1, 0, 0, .null), (660, 1, .aload_n 0, 0, 0, 0, .null), (661, 1, .iload_n 3, 3, 0, 0, .null), (662, 1, .iconst 1, 0, 0, 0, .int (1)), (663, 1, .iadd, 0, 0, 0, .null), (664, 1, .iaload, 0, 0, 0, .null), (665, 1, .aload_n 0, 0, 0, 0, .null), (666, 1, .iload_n 3, 3, 0, 0, .null), (667, 1, .iconst 2, 0, 0, 0, .int (2)), (668, 1, .iadd, 0, 0, 0, .null), (669, 1, .iaload, 0, 0, 0, .null), (670, 3, .ifCond .eq 7, 677, 0, 0, .null), (673, 1, .iconst 1, 0, 0, 0, .int (1)), (674, 3, .goto 4, 678, 0, 0, .null), (677, 1, .iconst 0, 0, 0, 0, .int (0)), (678, 3, .invokevirtual 72, 100, 3, 29, .null), (681, 1, .aload_n 2, 2, 0, 0, .null), (682, 1, .aload_n 0, 0, 0, 0, .null), (683, 1, .iload_n 3, 3, 0, 0, .null), (684, 1, .iconst 1, 0, 0, 0, .int (1)), (685, 1, .iadd, 0, 0, 0, .null), (686, 1, .iaload, 0, 0, 0, .null), (687, 1, .aload_n 0, 0, 0, 0, .null), (688, 1, .iload_n 3, 3, 0, 0, .null), (689, 1, .iconst 2, 0, 0, 0, .int (2)), (690, 1, .iadd, 0, 0, 0, .null), (691, 1, .iaload, 0, 0, 0, .null), (692, 3, .ifCond .eq 7, 699, 0, 0, .null), (695, 1, .iconst 1, 0, 0, 0, .int (1)), (696, 3, .goto 4, 700, 0, 0, .null), (699, 1, .iconst 0, 0, 0, 0, .int (0)), (700, 3, .invokevirtual 75, 226, 3, 33, .null), (703, 3, .if_icmp .eq 1116, 1819, 0, 0, .null), (706, 1, .iconst 0, 0, 0, 0, .int (0)), (707, 1, .ireturn, 0, 0, 2, .null), (708, 1, .aload_n 1, 1, 0, 0, .null), (709, 1, .aload_n 0, 0, 0, 0, .null), (710, 1, .iload_n 3, 3, 0, 0, .null), (711, 1, .iconst 1, 0, 0, 0, .int (1)), (712, 1, .iadd, 0, 0, 0, .null), (713, 1, .iaload, 0, 0, 0, .null), (714, 1, .aload_n 0, 0, 0, 0, .null), (715, 1, .iload_n 3, 3, 0, 0, .null), (716, 1, .iconst 2, 0, 0, 0, .int (2)), (717, 1, .iadd, 0, 0, 0, .null), (718, 1, .iaload, 0, 0, 0, .null), (719, 3, .ifCond .eq 7, 726, 0, 0, .null), (722, 1, .iconst 1, 0, 0, 0, .int (1)), (723, 3, .goto 4, 727, 0, 0, .null), (726, 1, .iconst 0, 0, 0, 0, .int (0)), (727, 3, .invokevirtual 76, 101, 3, 29, .null), (730, 1, .aload_n 2, 2, 0, 0, .null), (731, 1, .aload_n 0, 0, 0, 0, .null), (732, 1, .iload_n 3, 3, 0, 0, .null), (733, 1, .iconst 1, 0, 0, 0, .int (1)), (734, 1, .iadd, 0, 0, 0, .null), (735, 1, .iaload, 0, 0, 0, .null), (736, 1, .aload_n 0, 0, 0, 0, .null), (737, 1, .iload_n 3, 3, 0, 0, .null), (738, 1, .iconst 2, 0, 0, 0, .int (2)), (739, 1, .iadd, 0, 0, 0, .null), (740, 1, .iaload, 0, 0, 0, .null), (741, 3, .ifCond .eq 7, 748, 0, 0, .null), (744, 1, .iconst 1, 0, 0, 0, .int (1)), (745, 3, .goto 4, 749, 0, 0, .null), (748, 1, .iconst 0, 0, 0, 0, .int (0)), (749, 3, .invokevirtual 79, 227, 3, 33, .null), (752, 3, .if_icmp .eq 1067, 1819, 0, 0, .null), (755, 1, .iconst 0, 0, 0, 0, .int (0)), (756, 1, .ireturn, 0, 0, 2, .null), (757, 1, .aload_n 1, 1, 0, 0, .null), (758, 1, .aload_n 0, 0, 0, 0, .null), (759, 1, .iload_n 3, 3, 0, 0, .null), (760, 1, .iconst 1, 0, 0, 0, .int (1)), (761, 1, .iadd, 0, 0, 0, .null), (762, 1, .iaload, 0, 0, 0, .null), (763, 1, .aload_n 0, 0, 0, 0, .null), (764, 1, .iload_n 3, 3, 0, 0, .null), (765, 1, .iconst 2, 0, 0, 0, .int (2)), (766, 1, .iadd, 0, 0, 0, .null), (767, 1, .iaload, 0, 0, 0, .null), (768, 1, .aload_n 0, 0, 0, 0, .null), (769, 1, .iload_n 3, 3, 0, 0, .null), (770, 1, .iconst 3, 0, 0, 0, .int (3)), (771, 1, .iadd, 0, 0, 0, .null), (772, 1, .iaload, 0, 0, 0, .null), (773, 3, .invokevirtual 80, 102, 4, 29, .null), (776, 1, .aload_n 2, 2, 0, 0, .null), (777, 1, .aload_n 0, 0, 0, 0, .null), (778, 1, .iload_n 3, 3, 0, 0, .null), (779, 1, .iconst 1, 0, 0, 0, .int (1)), (780, 1, .iadd, 0, 0, 0, .null), (781, 1, .iaload, 0, 0, 0, .null), (782, 1, .aload_n 0, 0, 0, 0, .null), (783, 1, .iload_n 3, 3, 0, 0, .null), (784, 1, .iconst 2, 0, 0, 0, .int (2)), (785, 1, .iadd, 0, 0, 0, .null), (786, 1, .iaload, 0, 0, 0, .null), (787, 1, .aload_n 0, 0, 0, 0, .null), (788, 1, .iload_n 3, 3, 0, 0, .null), (789, 1, .iconst 3, 0, 0, 0, .int (3)), (790, 1, .iadd, 0, 0, 0, .null), (791, 1, .iaload, 0, 0, 0, .null), (792, 3, .invokevirtual 84, 228, 4, 33, .null), (795, 3, .if_icmp .eq 1024, 1819, 0, 0, .null), (798, 1, .iconst 0, 0, 0, 0, .int (0)), (799, 1, .ireturn, 0, 0, 2, .null), (800, 1, .aload_n 1, 1, 0, 0, .null), (801, 1, .aload_n 0, 0, 0, 0, .null), (802, 1, .iload_n 3, 3, 0, 0, .null), (803, 1, .iconst 1, 0, 0, 0, .int (1)), (804, 1, .iadd, 0, 0, 0, .null), (805, 1, .iaload, 0, 0, 0, .null), (806, 3, .ifCond .eq 7, 813, 0, 0, .null), (809, 1, .iconst 1, 0, 0, 0, .int (1)), (810, 3, .goto 4, 814, 0, 0, .null), (813, 1, .iconst 0, 0, 0, 0, .int (0)), (814, 3, .invokevirtual 85, 103, 2, 29, .null), (817, 1, .aload_n 2, 2, 0, 0, .null), (818, 1, .aload_n 0, 0, 0, 0, .null), (819, 1, .iload_n 3, 3, 0, 0, .null), (820, 1, .iconst 1, 0, 0, 0, .int (1)), (821, 1, .iadd, 0, 0, 0, .null), (822, 1, .iaload, 0, 0, 0, .null), (823, 3, .ifCond .eq 7, 830, 0, 0, .null), (826, 1, .iconst 1, 0, 0, 0, .int (1)), (827, 3, .goto 4, 831, 0, 0, .null), (830, 1, .iconst 0, 0, 0, 0, .int (0)), (831, 3, .invokevirtual 89, 233, 2, 33, .null), (834, 3, .if_icmp .eq 985, 1819, 0, 0, .null), (837, 1, .iconst 0, 0, 0, 0, .int (0)), (838, 1, .ireturn, 0, 0, 2, .null), (839, 1, .aload_n 1, 1, 0, 0, .null), (840, 1, .aload_n 0, 0, 0, 0, .null), (841, 1, .iload_n 3, 3, 0, 0, .null), (842, 1, .iconst 1, 0, 0, 0, .int (1)), (843, 1, .iadd, 0, 0, 0, .null), (844, 1, .iaload, 0, 0, 0, .null), (845, 3, .invokevirtual 90, 104, 2, 29, .null), (848, 1, .aload_n 2, 2, 0, 0, .null), (849, 1, .aload_n 0, 0, 0, 0, .null), (850, 1, .iload_n 3, 3, 0, 0, .null), (851, 1, .iconst 1, 0, 0, 0, .int (1)), (852, 1, .iadd, 0, 0, 0, .null), (853, 1, .iaload, 0, 0, 0, .null), (854, 3, .invokevirtual 93, 234, 2, 33, .null), (857, 3, .if_icmp .eq 962, 1819, 0, 0, .null), (860, 1, .iconst 0, 0, 0, 0, .int (0)), (861, 1, .ireturn, 0, 0, 2, .null), (862, 1, .aload_n 1, 1, 0, 0, .null), (863, 1, .aload_n 0, 0, 0, 0, .null), (864, 1, .iload_n 3, 3, 0, 0, .null), (865, 1, .iconst 1, 0, 0, 0, .int (1)), (866, 1, .iadd, 0, 0, 0, .null), (867, 1, .iaload, 0, 0, 0, .null), (868, 3, .ifCond .eq 7, 875, 0, 0, .null), (871, 1, .iconst 1, 0, 0, 0, .int (1)), (872, 3, .goto 4, 876, 0, 0, .null), (875, 1, .iconst 0, 0, 0, 0, .int (0)), (876, 3, .invokevirtual 94, 105, 2, 29, .null), (879, 1, .aload_n 2, 2, 0, 0, .null), (880, 1, .aload_n 0, 0, 0, 0, .null), (881, 1, .iload_n 3, 3, 0, 0, .null), (882, 1, .iconst 1, 0, 0, 0, .int (1)), (883, 1, .iadd, 0, 0, 0, .null), (884, 1, .iaload, 0, 0, 0, .null), (885, 3, .ifCond .eq 7, 892, 0, 0, .null), (888, 1, .iconst 1, 0, 0, 0, .int (1)), (889, 3, .goto 4, 893, 0, 0, .null), (892, 1, .iconst 0, 0, 0, 0, .int (0)), (893, 3, .invokevirtual 97, 235, 2, 33, .null), (896, 3, .if_icmp .eq 923, 1819, 0, 0, .null), (899, 1, .iconst 0, 0, 0, 0, .int (0)), (900, 1, .ireturn, 0, 0, 2, .null), (901, 1, .aload_n 1, 1, 0, 0, .null), (902, 1, .aload_n 0, 0, 0, 0, .null), (903, 1, .iload_n 3, 3, 0, 0, .null), (904, 1, .iconst 1, 0, 0, 0, .int (1)), (905, 1, .iadd, 0, 0, 0, .null), (906, 1, .iaload, 0, 0, 0, .null), (907, 3, .invokevirtual 98, 106, 2, 29, .null), (910, 1, .aload_n 2, 2, 0, 0, .null), (911, 1, .aload_n 0, 0, 0, 0, .null), (912, 1, .iload_n 3, 3, 0, 0, .null), (913, 1, .iconst 1, 0, 0, 0, .int (1)), (914, 1, .iadd, 0, 0, 0, .null), (915, 1, .iaload, 0, 0, 0, .null), (916, 3, .invokevirtual 101, 239, 2, 33, .null), (919, 3, .if_icmp .eq 900, 1819, 0, 0, .null), (922, 1, .iconst 0, 0, 0, 0, .int (0)), (923, 1, .ireturn, 0, 0, 2, .null), (924, 1, .aload_n 1, 1, 0, 0, .null), (925, 1, .aload_n 0, 0, 0, 0, .null), (926, 1, .iload_n 3, 3, 0, 0, .null), (927, 1, .iconst 1, 0, 0, 0, .int (1)), (928, 1, .iadd, 0, 0, 0, .null), (929, 1, .iaload, 0, 0, 0, .null), (930, 1, .aload_n 0, 0, 0, 0, .null), (931, 1, .iload_n 3, 3, 0, 0, .null), (932, 1, .iconst 2, 0, 0, 0, .int (2)), (933, 1, .iadd, 0, 0, 0, .null), (934, 1, .iaload, 0, 0, 0, .null), (935, 3, .invokevirtual 102, 107, 3, 29, .null), (938, 1, .aload_n 2, 2, 0, 0, .null), (939, 1, .aload_n 0, 0, 0, 0, .null), (940, 1, .iload_n 3, 3, 0, 0, .null), (941, 1, .iconst 1, 0, 0, 0, .int (1)), (942, 1, .iadd, 0, 0, 0, .null), (943, 1, .iaload, 0, 0, 0, .null), (944, 1, .aload_n 0, 0, 0, 0, .null), (945, 1, .iload_n 3, 3, 0, 0, .null), (946, 1, .iconst 2, 0, 0, 0, .int (2)), (947, 1, .iadd, 0, 0, 0, .null), (948, 1, .iaload, 0, 0, 0, .null), (949, 3, .invokevirtual 105, 241, 3, 33, .null), (952, 3, .if_icmp .eq 867, 1819, 0, 0, .null), (955, 1, .iconst 0, 0, 0, 0, .int (0)), (956, 1, .ireturn, 0, 0, 2, .null), (957, 1, .aload_n 1, 1, 0, 0, .null), (958, 1, .aload_n 0, 0, 0, 0, .null), (959, 1, .iload_n 3, 3, 0, 0, .null), (960, 1, .iconst 1, 0, 0, 0, .int (1)), (961, 1, .iadd, 0, 0, 0, .null), (962, 1, .iaload, 0, 0, 0, .null), (963, 1, .aload_n 0, 0, 0, 0, .null), (964, 1, .iload_n 3, 3, 0, 0, .null), (965, 1, .iconst 2, 0, 0, 0, .int (2)), (966, 1, .iadd, 0, 0, 0, .null), (967, 1, .iaload, 0, 0, 0, .null), (968, 1, .aload_n 0, 0, 0, 0, .null), (969, 1, .iload_n 3, 3, 0, 0, .null), (970, 1, .iconst 3, 0, 0, 0, .int (3)), (971, 1, .iadd, 0, 0, 0, .null), (972, 1, .iaload, 0, 0, 0, .null), (973, 3, .invokevirtual 106, 108, 4, 29, .null), (976, 1, .aload_n 2, 2, 0, 0, .null), (977, 1, .aload_n 0, 0, 0, 0, .null), (978, 1, .iload_n 3, 3, 0, 0, .null), (979, 1, .iconst 1, 0, 0, 0, .int (1)), (980, 1, .iadd, 0, 0, 0, .null), (981, 1, .iaload, 0, 0, 0, .null), (982, 1, .aload_n 0, 0, 0, 0, .null), (983, 1, .iload_n 3, 3, 0, 0, .null), (984, 1, .iconst 2, 0, 0, 0, .int (2)), (985, 1, .iadd, 0, 0, 0, .null), (986, 1, .iaload, 0, 0, 0, .null), (987, 1, .aload_n 0, 0, 0, 0, .null), (988, 1, .iload_n 3, 3, 0, 0, .null), (989, 1, .iconst 3, 0, 0, 0, .int (3)), (990, 1, .iadd, 0, 0, 0, .null), (991, 1, .iaload, 0, 0, 0, .null), (992, 3, .invokevirtual 109, 245, 4, 33, .null), (995, 3, .if_icmp .eq 824, 1819, 0, 0, .null), (998, 1, .iconst 0, 0, 0, 0, .int (0)), (999, 1, .ireturn, 0, 0, 2, .null), (1000, 1, .aload_n 1, 1, 0, 0, .null), (1001, 1, .aload_n 0, 0, 0, 0, .null), (1002, 1, .iload_n 3, 3, 0, 0, .null), (1003, 1, .iconst 1, 0, 0, 0, .int (1)), (1004, 1, .iadd, 0, 0, 0, .null), (1005, 1, .iaload, 0, 0, 0, .null), (1006, 1, .aload_n 0, 0, 0, 0, .null), (1007, 1, .iload_n 3, 3, 0, 0, .null), (1008, 1, .iconst 2, 0, 0, 0, .int (2)), (1009, 1, .iadd, 0, 0, 0, .null), (1010, 1, .iaload, 0, 0, 0, .null), (1011, 3, .invokevirtual 110, 109, 3, 29, .null), (1014, 1, .aload_n 2, 2, 0, 0, .null), (1015, 1, .aload_n 0, 0, 0, 0, .null), (1016, 1, .iload_n 3, 3, 0, 0, .null), (1017, 1, .iconst 1, 0, 0, 0, .int (1)), (1018, 1, .iadd, 0, 0, 0, .null), (1019, 1, .iaload, 0, 0, 0, .null), (1020, 1, .aload_n 0, 0, 0, 0, .null), (1021, 1, .iload_n 3, 3, 0, 0, .null), (1022, 1, .iconst 2, 0, 0, 0, .int (2)), (1023, 1, .iadd, 0, 0, 0, .null), (1024, 1, .iaload, 0, 0, 0, .null), (1025, 3, .invokevirtual 113, 247, 3, 33, .null), (1028, 3, .if_icmp .eq 791, 1819, 0, 0, .null), (1031, 1, .iconst 0, 0, 0, 0, .int (0)), (1032, 1, .ireturn, 0, 0, 2, .null), (1033, 1, .aload_n 1, 1, 0, 0, .null), (1034, 1, .aload_n 0, 0, 0, 0, .null), (1035, 1, .iload_n 3, 3, 0, 0, .null), (1036, 1, .iconst 1, 0, 0, 0, .int (1)), (1037, 1, .iadd, 0, 0, 0, .null), (1038, 1, .iaload, 0, 0, 0, .null), (1039, 1, .aload_n 0, 0, 0, 0, .null), (1040, 1, .iload_n 3, 3, 0, 0, .null), (1041, 1, .iconst 2, 0, 0, 0, .int (2)), (1042, 1, .iadd, 0, 0, 0, .null), (1043, 1, .iaload, 0, 0, 0, .null), (1044, 3, .ifCond .eq 7, 1051, 0, 0, .null), (1047, 1, .iconst 1, 0, 0, 0, .int (1)), (1048, 3, .goto 4, 1052, 0, 0, .null), (1051, 1, .iconst 0, 0, 0, 0, .int (0)), (1052, 3, .invokevirtual 114, 110, 3, 29, .null), (1055, 1, .aload_n 2, 2, 0, 0, .null), (1056, 1, .aload_n 0, 0, 0, 0, .null), (1057, 1, .iload_n 3, 3, 0, 0, .null), (1058, 1, .iconst 1, 0, 0, 0, .int (1)), (1059, 1, .iadd, 0, 0, 0, .null), (1060, 1, .iaload, 0, 0, 0, .null), (1061, 1, .aload_n 0, 0, 0, 0, .null), (1062, 1, .iload_n 3, 3, 0, 0, .null), (1063, 1, .iconst 2, 0, 0, 0, .int (2)), (1064, 1, .iadd, 0, 0, 0, .null), (1065, 1, .iaload, 0, 0, 0, .null), (1066, 3, .ifCond .eq 7, 1073, 0, 0, .null), (1069, 1, .iconst 1, 0, 0, 0, .int (1)), (1070, 3, .goto 4, 1074, 0, 0, .null), (1073, 1, .iconst 0, 0, 0, 0, .int (0)), (1074, 3, .invokevirtual 117, 248, 3, 33, .null), (1077, 3, .if_icmp .eq 742, 1819, 0, 0, .null), (1080, 1, .iconst 0, 0, 0, 0, .int (0)), (1081, 1, .ireturn, 0, 0, 2, .null), (1082, 1, .aload_n 1, 1, 0, 0, .null), (1083, 1, .aload_n 0, 0, 0, 0, .null), (1084, 1, .iload_n 3, 3, 0, 0, .null), (1085, 1, .iconst 1, 0, 0, 0, .int (1)), (1086, 1, .iadd, 0, 0, 0, .null), (1087, 1, .iaload, 0, 0, 0, .null), (1088, 3, .ifCond .eq 7, 1095, 0, 0, .null), (1091, 1, .iconst 1, 0, 0, 0, .int (1)), (1092, 3, .goto 4, 1096, 0, 0, .null), (1095, 1, .iconst 0, 0, 0, 0, .int (0)), (1096, 1, .aload_n 0, 0, 0, 0, .null), (1097, 1, .iload_n 3, 3, 0, 0, .null), (1098, 1, .iconst 2, 0, 0, 0, .int (2)), (1099, 1, .iadd, 0, 0, 0, .null), (1100, 1, .iaload, 0, 0, 0, .null), (1101, 3, .invokevirtual 118, 111, 3, 29, .null), (1104, 1, .aload_n 2, 2, 0, 0, .null), (1105, 1, .aload_n 0, 0, 0, 0, .null), (1106, 1, .iload_n 3, 3, 0, 0, .null), (1107, 1, .iconst 1, 0, 0, 0, .int (1)), (1108, 1, .iadd, 0, 0, 0, .null), (1109, 1, .iaload, 0, 0, 0, .null), (1110, 3, .ifCond .eq 7, 1117, 0, 0, .null), (1113, 1, .iconst 1, 0, 0, 0, .int (1)), (1114, 3, .goto 4, 1118, 0, 0, .null), (1117, 1, .iconst 0, 0, 0, 0, .int (0)), (1118, 1, .aload_n 0, 0, 0, 0, .null), (1119, 1, .iload_n 3, 3, 0, 0, .null), (1120, 1, .iconst 2, 0, 0, 0, .int (2)), (1121, 1, .iadd, 0, 0, 0, .null), (1122, 1, .iaload, 0, 0, 0, .null), (1123, 3, .invokevirtual 122, 249, 3, 33, .null), (1126, 3, .if_icmp .eq 693, 1819, 0, 0, .null), (1129, 1, .iconst 0, 0, 0, 0, .int (0)), (1130, 1, .ireturn, 0, 0, 2, .null), (1131, 1, .aload_n 1, 1, 0, 0, .null), (1132, 1, .aload_n 0, 0, 0, 0, .null), (1133, 1, .iload_n 3, 3, 0, 0, .null), (1134, 1, .iconst 1, 0, 0, 0, .int (1)), (1135, 1, .iadd, 0, 0, 0, .null), (1136, 1, .iaload, 0, 0, 0, .null), (1137, 1, .aload_n 0, 0, 0, 0, .null), (1138, 1, .iload_n 3, 3, 0, 0, .null), (1139, 1, .iconst 2, 0, 0, 0, .int (2)), (1140, 1, .iadd, 0, 0, 0, .null), (1141, 1, .iaload, 0, 0, 0, .null), (1142, 3, .ifCond .eq 7, 1149, 0, 0, .null), (1145, 1, .iconst 1, 0, 0, 0, .int (1)), (1146, 3, .goto 4, 1150, 0, 0, .null), (1149, 1, .iconst 0, 0, 0, 0, .int (0)), (1150, 3, .invokevirtual 123, 112, 3, 29, .null), (1153, 1, .aload_n 2, 2, 0, 0, .null), (1154, 1, .aload_n 0, 0, 0, 0, .null), (1155, 1, .iload_n 3, 3, 0, 0, .null), (1156, 1, .iconst 1, 0, 0, 0, .int (1)), (1157, 1, .iadd, 0, 0, 0, .null), (1158, 1, .iaload, 0, 0, 0, .null), (1159, 1, .aload_n 0, 0, 0, 0, .null), (1160, 1, .iload_n 3, 3, 0, 0, .null), (1161, 1, .iconst 2, 0, 0, 0, .int (2)), (1162, 1, .iadd, 0, 0, 0, .null), (1163, 1, .iaload, 0, 0, 0, .null), (1164, 3, .ifCond .eq 7, 1171, 0, 0, .null), (1167, 1, .iconst 1, 0, 0, 0, .int (1)), (1168, 3, .goto 4, 1172, 0, 0, .null), (1171, 1, .iconst 0, 0, 0, 0, .int (0)), (1172, 3, .invokevirtual 126, 251, 3, 33, .null), (1175, 3, .if_icmp .eq 644, 1819, 0, 0, .null), (1178, 1, .iconst 0, 0, 0, 0, .int (0)), (1179, 1, .ireturn, 0, 0, 2, .null), (1180, 1, .aload_n 1, 1, 0, 0, .null), (1181, 3, .invokevirtual 127, 113, 1, 29, .null), (1184, 1, .aload_n 2, 2, 0, 0, .null), (1185, 3, .invokevirtual 130, 254, 1, 33, .null), (1188, 3, .if_icmp .eq 631, 1819, 0, 0, .null), (1191, 1, .iconst 0, 0, 0, 0, .int (0)), (1192, 1, .ireturn, 0, 0, 2, .null), (1193, 1, .aload_n 1, 1, 0, 0, .null), (1194, 1, .aload_n 0, 0, 0, 0, .null), (1195, 1, .iload_n 3, 3, 0, 0, .null), (1196, 1, .iconst 1, 0, 0, 0, .int (1)), (1197, 1, .iadd, 0, 0, 0, .null), (1198, 1, .iaload, 0, 0, 0, .null), (1199, 1, .aload_n 0, 0, 0, 0, .null), (1200, 1, .iload_n 3, 3, 0, 0, .null), (1201, 1, .iconst 2, 0, 0, 0, .int (2)), (1202, 1, .iadd, 0, 0, 0, .null), (1203, 1, .iaload, 0, 0, 0, .null), (1204, 3, .ifCond .eq 7, 1211, 0, 0, .null), (1207, 1, .iconst 1, 0, 0, 0, .int (1)), (1208, 3, .goto 4, 1212, 0, 0, .null), (1211, 1, .iconst 0, 0, 0, 0, .int (0)), (1212, 3, .invokevirtual 131, 114, 3, 29, .null), (1215, 1, .aload_n 2, 2, 0, 0, .null), (1216, 1, .aload_n 0, 0, 0, 0, .null), (1217, 1, .iload_n 3, 3, 0, 0, .null), (1218, 1, .iconst 1, 0, 0, 0, .int (1)), (1219, 1, .iadd, 0, 0, 0, .null), (1220, 1, .iaload, 0, 0, 0, .null), (1221, 1, .aload_n 0, 0, 0, 0, .null), (1222, 1, .iload_n 3, 3, 0, 0, .null), (1223, 1, .iconst 2, 0, 0, 0, .int (2)), (1224, 1, .iadd, 0, 0, 0, .null), (1225, 1, .iaload, 0, 0, 0, .null), (1226, 3, .ifCond .eq 7, 1233, 0, 0, .null), (1229, 1, .iconst 1, 0, 0, 0, .int (1)), (1230, 3, .goto 4, 1234, 0, 0, .null), (1233, 1, .iconst 0, 0, 0, 0, .int (0)), (1234, 3, .invokevirtual 134, 256, 3, 33, .null), (1237, 3, .if_icmp .eq 582, 1819, 0, 0, .null), (1240, 1, .iconst 0, 0, 0, 0, .int (0)), (1241, 1, .ireturn, 0, 0, 2, .null), (1242, 1, .aload_n 1, 1, 0, 0, .null), (1243, 1, .aload_n 0, 0, 0, 0, .null), (1244, 1, .iload_n 3, 3, 0, 0, .null), (1245, 1, .iconst 1, 0, 0, 0, .int (1)), (1246, 1, .iadd, 0, 0, 0, .null), (1247, 1, .iaload, 0, 0, 0, .null), (1248, 3, .ifCond .eq 7, 1255, 0, 0, .null), (1251, 1, .iconst 1, 0, 0, 0, .int (1)), (1252, 3, .goto 4, 1256, 0, 0, .null), (1255, 1, .iconst 0, 0, 0, 0, .int (0)), (1256, 1, .aload_n 0, 0, 0, 0, .null), (1257, 1, .iload_n 3, 3, 0, 0, .null), (1258, 1, .iconst 2, 0, 0, 0, .int (2)), (1259, 1, .iadd, 0, 0, 0, .null), (1260, 1, .iaload, 0, 0, 0, .null), (1261, 3, .invokevirtual 135, 115, 3, 29, .null), (1264, 1, .aload_n 2, 2, 0, 0, .null), (1265, 1, .aload_n 0, 0, 0, 0, .null), (1266, 1, .iload_n 3, 3, 0, 0, .null), (1267, 1, .iconst 1, 0, 0, 0, .int (1)), (1268, 1, .iadd, 0, 0, 0, .null), (1269, 1, .iaload, 0, 0, 0, .null), (1270, 3, .ifCond .eq 7, 1277, 0, 0, .null), (1273, 1, .iconst 1, 0, 0, 0, .int (1)), (1274, 3, .goto 4, 1278, 0, 0, .null), (1277, 1, .iconst 0, 0, 0, 0, .int (0)), (1278, 1, .aload_n 0, 0, 0, 0, .null), (1279, 1, .iload_n 3, 3, 0, 0, .null), (1280, 1, .iconst 2, 0, 0, 0, .int (2)), (1281, 1, .iadd, 0, 0, 0, .null), (1282, 1, .iaload, 0, 0, 0, .null), (1283, 3, .invokevirtual 138, 257, 3, 33, .null), (1286, 3, .if_icmp .eq 533, 1819, 0, 0, .null), (1289, 1, .iconst 0, 0, 0, 0, .int (0)), (1290, 1, .ireturn, 0, 0, 2, .null), (1291, 1, .aload_n 1, 1, 0, 0, .null), (1292, 1, .aload_n 0, 0, 0, 0, .null), (1293, 1, .iload_n 3, 3, 0, 0, .null), (1294, 1, .iconst 1, 0, 0, 0, .int (1)), (1295, 1, .iadd, 0, 0, 0, .null), (1296, 1, .iaload, 0, 0, 0, .null), (1297, 3, .invokevirtual 139, 116, 2, 29, .null), (1300, 1, .aload_n 2, 2, 0, 0, .null), (1301, 1, .aload_n 0, 0, 0, 0, .null), (1302, 1, .iload_n 3, 3, 0, 0, .null), (1303, 1, .iconst 1, 0, 0, 0, .int (1)), (1304, 1, .iadd, 0, 0, 0, .null), (1305, 1, .iaload, 0, 0, 0, .null), (1306, 3, .invokevirtual 142, 240, 2, 33, .null), (1309, 3, .if_icmp .eq 510, 1819, 0, 0, .null), (1312, 1, .iconst 0, 0, 0, 0, .int (0)), (1313, 1, .ireturn, 0, 0, 2, .null), (1314, 1, .aload_n 1, 1, 0, 0, .null), (1315, 3, .invokevirtual 143, 117, 1, 29, .null), (1318, 1, .aload_n 2, 2, 0, 0, .null), (1319, 3, .invokevirtual 146, 242, 1, 33, .null), (1322, 3, .if_icmp .eq 497, 1819, 0, 0, .null), (1325, 1, .iconst 0, 0, 0, 0, .int (0)), (1326, 1, .ireturn, 0, 0, 2, .null), (1327, 1, .aload_n 1, 1, 0, 0, .null), (1328, 3, .invokevirtual 147, 118, 1, 29, .null), (1331, 1, .aload_n 2, 2, 0, 0, .null), (1332, 3, .invokevirtual 150, 252, 1, 33, .null), (1335, 3, .if_icmp .eq 484, 1819, 0, 0, .null), (1338, 1, .iconst 0, 0, 0, 0, .int (0)), (1339, 1, .ireturn, 0, 0, 2, .null), (1340, 1, .aload_n 1, 1, 0, 0, .null), (1341, 3, .invokevirtual 151, 119, 1, 29, .null), (1344, 1, .aload_n 2, 2, 0, 0, .null), (1345, 3, .invokevirtual 154, 258, 1, 33, .null), (1348, 3, .if_icmp .eq 471, 1819, 0, 0, .null), (1351, 1, .iconst 0, 0, 0, 0, .int (0)), (1352, 1, .ireturn, 0, 0, 2, .null), (1353, 1, .aload_n 1, 1, 0, 0, .null), (1354, 3, .invokevirtual 155, 120, 1, 29, .null), (1357, 1, .aload_n 2, 2, 0, 0, .null), (1358, 3, .invokevirtual 158, 253, 1, 33, .null), (1361, 3, .if_icmp .eq 458, 1819, 0, 0, .null), (1364, 1, .iconst 0, 0, 0, 0, .int (0)), (1365, 1, .ireturn, 0, 0, 2, .null), (1366, 1, .aload_n 1, 1, 0, 0, .null), (1367, 3, .invokevirtual 159, 121, 1, 29, .null), (1370, 1, .aload_n 2, 2, 0, 0, .null), (1371, 3, .invokevirtual 162, 259, 1, 33, .null), (1374, 3, .if_icmp .eq 445, 1819, 0, 0, .null), (1377, 1, .iconst 0, 0, 0, 0, .int (0)), (1378, 1, .ireturn, 0, 0, 2, .null), (1379, 1, .aload_n 1, 1, 0, 0, .null), (1380, 3, .invokevirtual 163, 122, 1, 29, .null), (1383, 1, .aload_n 2, 2, 0, 0, .null), (1384, 3, .invokevirtual 166, 260, 1, 33, .null), (1387, 3, .if_icmp .eq 432, 1819, 0, 0, .null), (1390, 1, .iconst 0, 0, 0, 0, .int (0)), (1391, 1, .ireturn, 0, 0, 2, .null), (1392, 1, .aload_n 1, 1, 0, 0, .null), (1393, 3, .invokevirtual 167, 123, 1, 29, .null), (1396, 1, .aload_n 2, 2, 0, 0, .null), (1397, 3, .invokevirtual 170, 261, 1, 33, .null), (1400, 3, .if_icmp .eq 419, 1819, 0, 0, .null), (1403, 1, .iconst 0, 0, 0, 0, .int (0)), (1404, 1, .ireturn, 0, 0, 2, .null), (1405, 1, .aload_n 1, 1, 0, 0, .null), (1406, 3, .invokevirtual 171, 124, 1, 29, .null), (1409, 1, .aload_n 2, 2, 0, 0, .null), (1410, 3, .invokevirtual 174, 243, 1, 33, .null), (1413, 3, .if_icmp .eq 406, 1819, 0, 0, .null), (1416, 1, .iconst 0, 0, 0, 0, .int (0)), (1417, 1, .ireturn, 0, 0, 2, .null), (1418, 1, .aload_n 1, 1, 0, 0, .null), (1419, 1, .aload_n 0, 0, 0, 0, .null), (1420, 1, .iload_n 3, 3, 0, 0, .null), (1421, 1, .iconst 1, 0, 0, 0, .int (1)), (1422, 1, .iadd, 0, 0, 0, .null), (1423, 1, .iaload, 0, 0, 0, .null), (1424, 3, .invokevirtual 175, 125, 2, 29, .null), (1427, 1, .aload_n 2, 2, 0, 0, .null), (1428, 1, .aload_n 0, 0, 0, 0, .null), (1429, 1, .iload_n 3, 3, 0, 0, .null), (1430, 1, .iconst 1, 0, 0, 0, .int (1)), (1431, 1, .iadd, 0, 0, 0, .null), (1432, 1, .iaload, 0, 0, 0, .null), (1433, 3, .invokevirtual 178, 262, 2, 33, .null), (1436, 3, .if_icmp .eq 383, 1819, 0, 0, .null), (1439, 1, .iconst 0, 0, 0, 0, .int (0)), (1440, 1, .ireturn, 0, 0, 2, .null), (1441, 1, .aload_n 1, 1, 0, 0, .null), (1442, 1, .aload_n 0, 0, 0, 0, .null), (1443, 1, .iload_n 3, 3, 0, 0, .null), (1444, 1, .iconst 1, 0, 0, 0, .int (1)), (1445, 1, .iadd, 0, 0, 0, .null), (1446, 1, .iaload, 0, 0, 0, .null), (1447, 1, .aload_n 0, 0, 0, 0, .null), (1448, 1, .iload_n 3, 3, 0, 0, .null), (1449, 1, .iconst 2, 0, 0, 0, .int (2)), (1450, 1, .iadd, 0, 0, 0, .null), (1451, 1, .iaload, 0, 0, 0, .null), (1452, 1, .aload_n 0, 0, 0, 0, .null), (1453, 1, .iload_n 3, 3, 0, 0, .null), (1454, 1, .iconst 3, 0, 0, 0, .int (3)), (1455, 1, .iadd, 0, 0, 0, .null), (1456, 1, .iaload, 0, 0, 0, .null), (1457, 3, .ifCond .eq 7, 1464, 0, 0, .null), (1460, 1, .iconst 1, 0, 0, 0, .int (1)), (1461, 3, .goto 4, 1465, 0, 0, .null), (1464, 1, .iconst 0, 0, 0, 0, .int (0)), (1465, 3, .invokevirtual 179, 126, 4, 29, .null), (1468, 1, .aload_n 2, 2, 0, 0, .null), (1469, 1, .aload_n 0, 0, 0, 0, .null), (1470, 1, .iload_n 3, 3, 0, 0, .null), (1471, 1, .iconst 1, 0, 0, 0, .int (1)), (1472, 1, .iadd, 0, 0, 0, .null), (1473, 1, .iaload, 0, 0, 0, .null), (1474, 1, .aload_n 0, 0, 0, 0, .null), (1475, 1, .iload_n 3, 3, 0, 0, .null), (1476, 1, .iconst 2, 0, 0, 0, .int (2)), (1477, 1, .iadd, 0, 0, 0, .null), (1478, 1, .iaload, 0, 0, 0, .null), (1479, 1, .aload_n 0, 0, 0, 0, .null), (1480, 1, .iload_n 3, 3, 0, 0, .null), (1481, 1, .iconst 3, 0, 0, 0, .int (3)), (1482, 1, .iadd, 0, 0, 0, .null), (1483, 1, .iaload, 0, 0, 0, .null), (1484, 3, .ifCond .eq 7, 1491, 0, 0, .null), (1487, 1, .iconst 1, 0, 0, 0, .int (1)), (1488, 3, .goto 4, 1492, 0, 0, .null), (1491, 1, .iconst 0, 0, 0, 0, .int (0)), (1492, 3, .invokevirtual 182, 263, 4, 33, .null), (1495, 3, .if_icmp .eq 324, 1819, 0, 0, .null), (1498, 1, .iconst 0, 0, 0, 0, .int (0)), (1499, 1, .ireturn, 0, 0, 2, .null), (1500, 1, .aload_n 1, 1, 0, 0, .null), (1501, 1, .aload_n 0, 0, 0, 0, .null), (1502, 1, .iload_n 3, 3, 0, 0, .null), (1503, 1, .iconst 1, 0, 0, 0, .int (1)), (1504, 1, .iadd, 0, 0, 0, .null), (1505, 1, .iaload, 0, 0, 0, .null), (1506, 1, .aload_n 0, 0, 0, 0, .null), (1507, 1, .iload_n 3, 3, 0, 0, .null), (1508, 1, .iconst 2, 0, 0, 0, .int (2)), (1509, 1, .iadd, 0, 0, 0, .null), (1510, 1, .iaload, 0, 0, 0, .null), (1511, 3, .invokevirtual 183, 127, 3, 29, .null), (1514, 1, .aload_n 2, 2, 0, 0, .null), (1515, 1, .aload_n 0, 0, 0, 0, .null), (1516, 1, .iload_n 3, 3, 0, 0, .null), (1517, 1, .iconst 1, 0, 0, 0, .int (1)), (1518, 1, .iadd, 0, 0, 0, .null), (1519, 1, .iaload, 0, 0, 0, .null), (1520, 1, .aload_n 0, 0, 0, 0, .null), (1521, 1, .iload_n 3, 3, 0, 0, .null), (1522, 1, .iconst 2, 0, 0, 0, .int (2)), (1523, 1, .iadd, 0, 0, 0, .null), (1524, 1, .iaload, 0, 0, 0, .null), (1525, 3, .invokevirtual 186, 266, 3, 33, .null), (1528, 3, .if_icmp .eq 291, 1819, 0, 0, .null), (1531, 1, .iconst 0, 0, 0, 0, .int (0)), (1532, 1, .ireturn, 0, 0, 2, .null), (1533, 1, .aload_n 1, 1, 0, 0, .null), (1534, 1, .aload_n 0, 0, 0, 0, .null), (1535, 1, .iload_n 3, 3, 0, 0, .null), (1536, 1, .iconst 1, 0, 0, 0, .int (1)), (1537, 1, .iadd, 0, 0, 0, .null), (1538, 1, .iaload, 0, 0, 0, .null), (1539, 3, .invokevirtual 187, 128, 2, 29, .null), (1542, 1, .aload_n 2, 2, 0, 0, .null), (1543, 1, .aload_n 0, 0, 0, 0, .null), (1544, 1, .iload_n 3, 3, 0, 0, .null), (1545, 1, .iconst 1, 0, 0, 0, .int (1)), (1546, 1, .iadd, 0, 0, 0, .null), (1547, 1, .iaload, 0, 0, 0, .null), (1548, 3, .invokevirtual 190, 267, 2, 33, .null), (1551, 3, .if_icmp .eq 268, 1819, 0, 0, .null), (1554, 1, .iconst 0, 0, 0, 0, .int (0)), (1555, 1, .ireturn, 0, 0, 2, .null), (1556, 1, .aload_n 1, 1, 0, 0, .null), (1557, 1, .aload_n 0, 0, 0, 0, .null), (1558, 1, .iload_n 3, 3, 0, 0, .null), (1559, 1, .iconst 1, 0, 0, 0, .int (1)), (1560, 1, .iadd, 0, 0, 0, .null), (1561, 1, .iaload, 0, 0, 0, .null), (1562, 1, .aload_n 0, 0, 0, 0, .null), (1563, 1, .iload_n 3, 3, 0, 0, .null), (1564, 1, .iconst 2, 0, 0, 0, .int (2)), (1565, 1, .iadd, 0, 0, 0, .null), (1566, 1, .iaload, 0, 0, 0, .null), (1567, 1, .aload_n 0, 0, 0, 0, .null), (1568, 1, .iload_n 3, 3, 0, 0, .null), (1569, 1, .iconst 3, 0, 0, 0, .int (3)), (1570, 1, .iadd, 0, 0, 0, .null), (1571, 1, .iaload, 0, 0, 0, .null), (1572, 3, .ifCond .eq 7, 1579, 0, 0, .null), (1575, 1, .iconst 1, 0, 0, 0, .int (1)), (1576, 3, .goto 4, 1580, 0, 0, .null), (1579, 1, .iconst 0, 0, 0, 0, .int (0)), (1580, 3, .invokevirtual 191, 129, 4, 29, .null), (1583, 1, .aload_n 2, 2, 0, 0, .null), (1584, 1, .aload_n 0, 0, 0, 0, .null), (1585, 1, .iload_n 3, 3, 0, 0, .null), (1586, 1, .iconst 1, 0, 0, 0, .int (1)), (1587, 1, .iadd, 0, 0, 0, .null), (1588, 1, .iaload, 0, 0, 0, .null), (1589, 1, .aload_n 0, 0, 0, 0, .null), (1590, 1, .iload_n 3, 3, 0, 0, .null), (1591, 1, .iconst 2, 0, 0, 0, .int (2)), (1592, 1, .iadd, 0, 0, 0, .null), (1593, 1, .iaload, 0, 0, 0, .null), (1594, 1, .aload_n 0, 0, 0, 0, .null), (1595, 1, .iload_n 3, 3, 0, 0, .null), (1596, 1, .iconst 3, 0, 0, 0, .int (3)), (1597, 1, .iadd, 0, 0, 0, .null), (1598, 1, .iaload, 0, 0, 0, .null), (1599, 3, .ifCond .eq 7, 1606, 0, 0, .null), (1602, 1, .iconst 1, 0, 0, 0, .int (1)), (1603, 3, .goto 4, 1607, 0, 0, .null), (1606, 1, .iconst 0, 0, 0, 0, .int (0)), (1607, 3, .invokevirtual 194, 269, 4, 33, .null), (1610, 3, .if_icmp .eq 209, 1819, 0, 0, .null), (1613, 1, .iconst 0, 0, 0, 0, .int (0)), (1614, 1, .ireturn, 0, 0, 2, .null), (1615, 1, .aload_n 1, 1, 0, 0, .null), (1616, 1, .aload_n 0, 0, 0, 0, .null), (1617, 1, .iload_n 3, 3, 0, 0, .null), (1618, 1, .iconst 1, 0, 0, 0, .int (1)), (1619, 1, .iadd, 0, 0, 0, .null), (1620, 1, .iaload, 0, 0, 0, .null), (1621, 3, .invokevirtual 195, 130, 2, 29, .null), (1624, 1, .aload_n 2, 2, 0, 0, .null), (1625, 1, .aload_n 0, 0, 0, 0, .null), (1626, 1, .iload_n 3, 3, 0, 0, .null), (1627, 1, .iconst 1, 0, 0, 0, .int (1)), (1628, 1, .iadd, 0, 0, 0, .null), (1629, 1, .iaload, 0, 0, 0, .null), (1630, 3, .invokevirtual 199, 270, 2, 33, .null), (1633, 3, .if_icmp .eq 186, 1819, 0, 0, .null), (1636, 1, .iconst 0, 0, 0, 0, .int (0)), (1637, 1, .ireturn, 0, 0, 2, .null), (1638, 1, .aload_n 1, 1, 0, 0, .null), (1639, 1, .aload_n 0, 0, 0, 0, .null), (1640, 1, .iload_n 3, 3, 0, 0, .null), (1641, 1, .iconst 1, 0, 0, 0, .int (1)), (1642, 1, .iadd, 0, 0, 0, .null), (1643, 1, .iaload, 0, 0, 0, .null), (1644, 3, .invokevirtual 200, 131, 2, 29, .null), (1647, 1, .aload_n 2, 2, 0, 0, .null), (1648, 1, .aload_n 0, 0, 0, 0, .null), (1649, 1, .iload_n 3, 3, 0, 0, .null), (1650, 1, .iconst 1, 0, 0, 0, .int (1)), (1651, 1, .iadd, 0, 0, 0, .null), (1652, 1, .iaload, 0, 0, 0, .null), (1653, 3, .invokevirtual 203, 271, 2, 33, .null), (1656, 3, .if_icmp .eq 163, 1819, 0, 0, .null), (1659, 1, .iconst 0, 0, 0, 0, .int (0)), (1660, 1, .ireturn, 0, 0, 2, .null), (1661, 1, .aload_n 1, 1, 0, 0, .null), (1662, 1, .aload_n 0, 0, 0, 0, .null), (1663, 1, .iload_n 3, 3, 0, 0, .null), (1664, 1, .iconst 1, 0, 0, 0, .int (1)), (1665, 1, .iadd, 0, 0, 0, .null), (1666, 1, .iaload, 0, 0, 0, .null), (1667, 3, .invokevirtual 204, 132, 2, 29, .null), (1670, 1, .aload_n 2, 2, 0, 0, .null), (1671, 1, .aload_n 0, 0, 0, 0, .null), (1672, 1, .iload_n 3, 3, 0, 0, .null), (1673, 1, .iconst 1, 0, 0, 0, .int (1)), (1674, 1, .iadd, 0, 0, 0, .null), (1675, 1, .iaload, 0, 0, 0, .null), (1676, 3, .invokevirtual 207, 275, 2, 33, .null), (1679, 3, .if_icmp .eq 140, 1819, 0, 0, .null), (1682, 1, .iconst 0, 0, 0, 0, .int (0)), (1683, 1, .ireturn, 0, 0, 2, .null), (1684, 1, .aload_n 1, 1, 0, 0, .null), (1685, 1, .aload_n 0, 0, 0, 0, .null), (1686, 1, .iload_n 3, 3, 0, 0, .null), (1687, 1, .iconst 1, 0, 0, 0, .int (1)), (1688, 1, .iadd, 0, 0, 0, .null), (1689, 1, .iaload, 0, 0, 0, .null), (1690, 1, .aload_n 0, 0, 0, 0, .null), (1691, 1, .iload_n 3, 3, 0, 0, .null), (1692, 1, .iconst 2, 0, 0, 0, .int (2)), (1693, 1, .iadd, 0, 0, 0, .null), (1694, 1, .iaload, 0, 0, 0, .null), (1695, 3, .invokevirtual 208, 133, 3, 29, .null), (1698, 1, .aload_n 2, 2, 0, 0, .null), (1699, 1, .aload_n 0, 0, 0, 0, .null), (1700, 1, .iload_n 3, 3, 0, 0, .null), (1701, 1, .iconst 1, 0, 0, 0, .int (1)), (1702, 1, .iadd, 0, 0, 0, .null), (1703, 1, .iaload, 0, 0, 0, .null), (1704, 1, .aload_n 0, 0, 0, 0, .null), (1705, 1, .iload_n 3, 3, 0, 0, .null), (1706, 1, .iconst 2, 0, 0, 0, .int (2)), (1707, 1, .iadd, 0, 0, 0, .null), (1708, 1, .iaload, 0, 0, 0, .null), (1709, 3, .invokevirtual 211, 276, 3, 33, .null), (1712, 3, .if_icmp .eq 107, 1819, 0, 0, .null), (1715, 1, .iconst 0, 0, 0, 0, .int (0)), (1716, 1, .ireturn, 0, 0, 2, .null), (1717, 1, .aload_n 1, 1, 0, 0, .null), (1718, 1, .aload_n 0, 0, 0, 0, .null), (1719, 1, .iload_n 3, 3, 0, 0, .null), (1720, 1, .iconst 1, 0, 0, 0, .int (1)), (1721, 1, .iadd, 0, 0, 0, .null), (1722, 1, .iaload, 0, 0, 0, .null), (1723, 1, .aload_n 0, 0, 0, 0, .null), (1724, 1, .iload_n 3, 3, 0, 0, .null), (1725, 1, .iconst 2, 0, 0, 0, .int (2)), (1726, 1, .iadd, 0, 0, 0, .null), (1727, 1, .iaload, 0, 0, 0, .null), (1728, 3, .invokevirtual 212, 134, 3, 29, .null), (1731, 1, .aload_n 2, 2, 0, 0, .null), (1732, 1, .aload_n 0, 0, 0, 0, .null), (1733, 1, .iload_n 3, 3, 0, 0, .null), (1734, 1, .iconst 1, 0, 0, 0, .int (1)), (1735, 1, .iadd, 0, 0, 0, .null), (1736, 1, .iaload, 0, 0, 0, .null), (1737, 1, .aload_n 0, 0, 0, 0, .null), (1738, 1, .iload_n 3, 3, 0, 0, .null), (1739, 1, .iconst 2, 0, 0, 0, .int (2)), (1740, 1, .iadd, 0, 0, 0, .null), (1741, 1, .iaload, 0, 0, 0, .null), (1742, 3, .invokevirtual 215, 278, 3, 33, .null), (1745, 3, .if_icmp .eq 74, 1819, 0, 0, .null), (1748, 1, .iconst 0, 0, 0, 0, .int (0)), (1749, 1, .ireturn, 0, 0, 2, .null), (1750, 1, .aload_n 1, 1, 0, 0, .null), (1751, 1, .aload_n 0, 0, 0, 0, .null), (1752, 1, .iload_n 3, 3, 0, 0, .null), (1753, 1, .iconst 1, 0, 0, 0, .int (1)), (1754, 1, .iadd, 0, 0, 0, .null), (1755, 1, .iaload, 0, 0, 0, .null), (1756, 3, .invokevirtual 216, 135, 2, 29, .null), (1759, 1, .aload_n 2, 2, 0, 0, .null), (1760, 1, .aload_n 0, 0, 0, 0, .null), (1761, 1, .iload_n 3, 3, 0, 0, .null), (1762, 1, .iconst 1, 0, 0, 0, .int (1)), (1763, 1, .iadd, 0, 0, 0, .null), (1764, 1, .iaload, 0, 0, 0, .null), (1765, 3, .invokevirtual 219, 280, 2, 33, .null), (1768, 3, .if_icmp .eq 51, 1819, 0, 0, .null), (1771, 1, .iconst 0, 0, 0, 0, .int (0)), (1772, 1, .ireturn, 0, 0, 2, .null), (1773, 1, .aload_n 1, 1, 0, 0, .null), (1774, 1, .aload_n 0, 0, 0, 0, .null), (1775, 1, .iload_n 3, 3, 0, 0, .null), (1776, 1, .iconst 1, 0, 0, 0, .int (1)), (1777, 1, .iadd, 0, 0, 0, .null), (1778, 1, .iaload, 0, 0, 0, .null), (1779, 3, .invokevirtual 220, 136, 2, 29, .null), (1782, 1, .aload_n 2, 2, 0, 0, .null), (1783, 1, .aload_n 0, 0, 0, 0, .null), (1784, 1, .iload_n 3, 3, 0, 0, .null), (1785, 1, .iconst 1, 0, 0, 0, .int (1)), (1786, 1, .iadd, 0, 0, 0, .null), (1787, 1, .iaload, 0, 0, 0, .null), (1788, 3, .invokevirtual 223, 281, 2, 33, .null), (1791, 3, .if_icmp .eq 28, 1819, 0, 0, .null), (1794, 1, .iconst 0, 0, 0, 0, .int (0)), (1795, 1, .ireturn, 0, 0, 2, .null), (1796, 1, .aload_n 1, 1, 0, 0, .null), (1797, 1, .aload_n 0, 0, 0, 0, .null), (1798, 1, .iload_n 3, 3, 0, 0, .null), (1799, 1, .iconst 1, 0, 0, 0, .int (1)), (1800, 1, .iadd, 0, 0, 0, .null), (1801, 1, .iaload, 0, 0, 0, .null), (1802, 3, .invokevirtual 224, 137, 2, 29, .null), (1805, 1, .aload_n 2, 2, 0, 0, .null), (1806, 1, .aload_n 0, 0, 0, 0, .null), (1807, 1, .iload_n 3, 3, 0, 0, .null), (1808, 1, .iconst 1, 0, 0, 0, .int (1)), (1809, 1, .iadd, 0, 0, 0, .null), (1810, 1, .iaload, 0, 0, 0, .null), (1811, 3, .invokevirtual 227, 282, 2, 33, .null), (1814, 3, .if_icmp .eq 5, 1819, 0, 0, .null), (1817, 1, .iconst 0, 0, 0, 0, .int (0)), (1818, 1, .ireturn, 0, 0, 2, .null), (1819, 3, .iinc 3 6, 3, 0, 0, .int (6)), (1822, 3, .goto (-1804), 18, 0, 0, .null), (1825, 1, .iconst 1, 0, 0, 0, .int (1)), (1826, 1, .ireturn, 0, 0, 2, .null)]
end
section
/-! the methods by number -/
def zcodes : List (List zE) := [kJ6_bitCount_0f7a4, kJ9_floorMod_7cf53, kJ9_abs_0f7a4, kJ9_max_7cf53, kJ9_min_7cf53, kJ7_fill_53178, kJ0_isLatin1_aae02, kJ0_coder_7d493, kJ0_length_8abf5, kJ3_checkIndex_8e157, kJ0_checkIndex_df160, kJ1_charAt_3b067, kJ0_charAt_5068e, kJ1_canEncode_9a6ad, kJ1_indexOfChar_4cfef, kJ1_indexOf_4cfef, kJ0_indexOf_7cf53, kJ0_indexOf_0f7a4, kX0_init, kX0_seek, kX0_goOn, kX1_init, kX1_clear, kX1_addStep, kX1_value, kX1_joined, kX2_init, kX2_restart, kX2_track, kX2_tell, kX2_takeBack, kX2_fitting, kX2_isBorneOut, kX2_leftAtMost, kX3_init, kX3_clear, kX3_keep, kX3_takeBack, kX3_doAgain, kX3_row, kX3_exchange, kX4_init, kX4_clear, kX4_addMember, kX4_addClause, kX4_everyone, kX4_votesOf, kX4_windOf, kX4_tipsOver, kX4_ordersTipped, kX4_setsTilted, kX4_leastLeague, kX4_countLeagues, kX4_needsEach, kX5_init, kX5_put, kX5_tell, kX5_memberLine, kX5_clauseLine, kX5_numberLine, kX5_formulaLine, kX5_either, kX5_both, kX5_one, kX5_sum, kX5_term, kX5_unit, kX5_takeOnce, kX5_take, kX5_takeNumber, kX5_takeName, kX5_refuse, kX5_fail, kX5_advance, kX5_scanWord, kX5_scanNumber, kX5_isLetter, kX5_isDigit, kX6_init, kX6_begin, kX6_copy, kX6_sit, kX6_sitAs, kX6_sitAll, kX6_drawPun, kX6_handOver, kX7_init, kX7_feed, kX7_end, kX7_house, kX7_fault, kX7_member, kX7_clause, kX7_winds, kX7_read, kX7_oil, kX7_change, kX7_undo, kX7_redo, kX7_carries, kX7_shots, kX7_backers, kX7_will, kX7_agenda, kX7_tones, kX7_lost, kX7_tips, kX7_league, kX7_disarm, kX7_trust, kX7_edge, kX7_usher, kX7_creak, kX7_over, kX7_drops, kX7_swap, kX7_tilts, kX7_leagues, kX7_softest, kX7_outs, kX7_loudest, kX7_tensest, kX7_strength, kX7_cross, kX7_vetoes, kX7_law, kX7_until, kX7_odds, kX7_lies, kX7_heard, kX7_untell, kX7_later, kX7_fits, kX7_sure, kX7_ask, kX7_image, kX7_back, kX7_about, kX7_isMember, kX7_isOut, kX7_areTwoOut, kX7_isClause, kX7_isUnread, kX7_trialFromNow, kX7_windNow, kX7_creakAt, kX7_carriedByTones, kX7_staysWith, kX7_gain, kX7_countDrops, kX7_dropsWith, kX7_has, kX7_commonDivisor, kX8_init, kX8_feed, kX8_four, kX8_end, kX8_here, kX8_isLetter, kX8_isDigit, kX8_isSign, kX8_token, kX8_wrong, kX8_isWord, kX8_isOwn, kX8_isName, kX8_want, kX8_toldNumber, kX8_told, kX8_find, kX8_newName, kX8_add, kX8_tight, kX8_close, kX8_hasRelation, kX8_mayNot, kX8_asked, kX8_isFull, kX8_countUnit, kX8_openUp, kX8_unit, kX8_sign, kX8_hasBracket, kX8_formula, kX8_truth, kX8_done, kX8_within, kX8_lesser, kX8_greater, kX8_members, kX8_windOf, kX8_readMember, kX8_readClause, kX8_readLine, kX8_readAll, kX8_house, kX8_fault, kX8_isIn, kX8_isMember, kX8_isClause, kX8_fill, kX8_keepAir, kX8_layTold, kX8_isOut, kX8_isOutHere, kX8_isRead, kX8_isFor, kX8_votesOf, kX8_windAll, kX8_punAll, kX8_readOne, kX8_member, kX8_clause, kX8_windNow, kX8_winds, kX8_act, kX8_exchange, kX8_read, kX8_oil, kX8_changes, kX8_change, kX8_undo, kX8_redo, kX8_mayRead, kX8_thinkRead, kX8_carries, kX8_shots, kX8_backers, kX8_will, kX8_carriedBy, kX8_allOn, kX8_nextRow, kX8_exchangeInRow, kX8_agenda, kX8_tones, kX8_lost, kX8_isEnough, kX8_tiltsAt, kX8_orders, kX8_tips, kX8_tilts, kX8_league, kX8_leagues, kX8_vetoes, kX8_areTwoOut, kX8_disarm, kX8_trusted, kX8_trust, kX8_edge, kX8_usher, kX8_creakOf, kX8_creak, kX8_softest, kX8_loudest, kX8_over, kX8_layTills, kX8_drops, kX8_swap, kX8_outs, kX8_tensest, kX8_strength, kX8_cross, kX8_law, kX8_until, kX8_power, kX8_divisor, kX8_odds, kX8_lies, kX8_isLastOut, kX8_heard, kX8_untell, kX8_later, kX8_fitsMinds, kX8_layHad, kX8_layFits, kX8_fits, kX8_sure, kX8_leftBy, kX8_ask, kX8_isBox, kX8_image, kX8_back, kX8_about, kL_law]
def znls : List Nat := [1, 3, 1, 2, 2, 4, 1, 1, 1, 3, 2, 2, 2, 1, 6, 4, 3, 2, 2, 4, 10, 1, 1, 2, 5, 3, 1, 4, 6, 5, 2, 4, 6, 8, 2, 1, 2, 2, 2, 2, 3, 1, 1, 4, 2, 1, 4, 8, 4, 6, 4, 4, 3, 3, 3, 3, 3, 5, 3, 4, 2, 4, 4, 4, 5, 5, 5, 2, 2, 4, 4, 1, 2, 2, 2, 2, 1, 1, 1, 2, 2, 4, 10, 6, 3, 4, 2, 6, 2, 3, 2, 3, 3, 4, 4, 2, 1, 1, 1, 3, 3, 3, 6, 3, 8, 3, 2, 4, 7, 7, 4, 7, 3, 1, 6, 9, 2, 1, 5, 1, 5, 4, 1, 3, 3, 2, 9, 6, 2, 4, 2, 2, 2, 6, 8, 2, 2, 2, 2, 2, 3, 2, 2, 1, 6, 5, 4, 3, 3, 7, 4, 2, 6, 1, 6, 3, 2, 2, 1, 1, 1, 3, 2, 3, 1, 1, 3, 4, 5, 5, 3, 3, 1, 2, 2, 1, 1, 1, 1, 2, 3, 1, 3, 3, 1, 3, 3, 2, 2, 3, 8, 2, 1, 1, 1, 2, 2, 3, 2, 2, 2, 2, 2, 2, 2, 2, 2, 4, 6, 2, 5, 3, 3, 4, 4, 2, 4, 4, 2, 4, 1, 1, 1, 2, 3, 3, 3, 3, 6, 4, 1, 5, 4, 6, 7, 3, 2, 3, 3, 4, 4, 5, 5, 4, 3, 7, 3, 8, 5, 7, 5, 3, 3, 3, 1, 7, 7, 9, 1, 3, 1, 3, 3, 6, 4, 5, 6, 2, 1, 4, 2, 2, 5, 5, 4, 2, 5, 5, 5, 1, 3, 3, 2, 4]
def zlgs : List Bool := [true, true, true, true, true, true, true, true, true, true, true, true, true, true, true, true, true, true, true, true, true, true, true, true, true, true, true, true, true, true, true, true, true, true, true, true, true, true, true, true, true, true, true, true, true, true, true, true, true, true, true, true, true, true, true, true, true, true, true, true, true, true, true, true, true, true, true, true, true, true, true, true, true, true, true, true, true, true, true, true, true, true, true, true, true, true, true, true, true, true, true, true, true, true, true, true, true, true, true, true, true, true, true, true, true, true, true, true, true, true, true, true, true, true, true, true, true, true, true, true, true, true, true, true, true, true, true, true, true, true, true, true, true, true, true, true, true, true, true, true, true, true, true, true, true, true, true, true, true, true, true, true, true, true, true, true, true, true, true, true, true, true, true, false, true, true, false, true, false, true, true, true, true, true, true, true, true, true, true, true, true, true, true, true, true, true, true, true, true, true, true, true, true, true, true, true, true, true, true, true, true, true, true, true, true, true, true, true, true, true, true, true, true, true, true, true, true, true, true, true, true, true, true, true, true, true, true, true, true, true, true, true, true, true, true, true, true, true, true, true, true, true, true, true, true, true, true, true, true, true, true, true, true, true, true, true, true, true, true, true, true, true, true, true, true, true, true, true, true, true, true, true, true, true, true, true, true, true, true, true, true, true, true, true]
def zcode (a : Nat) : List zE := zcodes.getD a []
def znl (a : Nat) : Nat := znls.getD a 0
/-- no long among the arguments -/
def zlg (a : Nat) : Bool := zlgs.getD a false
/-- the cells and slots that a method makes -/
def zalc (a : Nat) : Nat × Nat := match Nat.beq a 18 with
  | true => (17, 117)
  | false => match Nat.beq a 21 with
  | true => (3, 306)
  | false => match Nat.beq a 26 with
  | true => (6, 297)
  | false => match Nat.beq a 34 with
  | true => (83, 614)
  | false => match Nat.beq a 41 with
  | true => (7, 331)
  | false => match Nat.beq a 54 with
  | true => (4, 1631)
  | false => match Nat.beq a 78 with
  | true => (1, 7)
  | false => match Nat.beq a 86 with
  | true => (144, 3467)
  | false => match Nat.beq a 153 with
  | true => (33, 4052)
  | false => (0, 0)
end
section
/-! static tables: what the links of each class are, by their places among the words -/
def zcn : List String := [RX0, RX1, RX2, RX3, RX4, RX5, RX6, RX7, RX8, RL, RJ6, RJ9, RJ7, RJ0, RJ1, RJ3]
/-- fields: own class, pool number, class (99: String), place; and the place of the word -/
def zfp : List (Nat × Nat × Nat × Nat × Nat) := [(13, 15, 99, 1, 1855), (13, 9, 99, 0, 1856), (0, 9, 0, 1, 396), (0, 15, 0, 2, 398), (0, 20, 0, 3, 399), (0, 25, 0, 0, 394), (0, 37, 4, 4, 272), (0, 42, 6, 2, 334), (1, 9, 1, 2, 234), (1, 15, 1, 3, 236), (1, 18, 1, 4, 237), (1, 21, 1, 0, 229), (1, 25, 1, 1, 231), (2, 9, 2, 3, 420), (2, 15, 2, 4, 421), (2, 18, 2, 5, 422), (2, 22, 2, 6, 423), (2, 25, 2, 7, 424), (2, 28, 2, 8, 425), (2, 31, 2, 0, 415), (2, 35, 4, 0, 259), (2, 40, 4, 1, 265), (2, 47, 2, 2, 419), (2, 55, 4, 4, 273), (2, 58, 4, 5, 278), (2, 65, 4, 6, 282), (2, 68, 2, 1, 417), (3, 11, 3, 3, 373), (3, 18, 3, 4, 374), (3, 22, 3, 0, 368), (3, 26, 3, 1, 370), (3, 29, 3, 2, 372), (4, 9, 4, 2, 266), (4, 15, 4, 3, 269), (4, 18, 4, 5, 277), (4, 24, 4, 10, 297), (4, 31, 4, 0, 258), (4, 35, 4, 1, 263), (4, 38, 4, 4, 271), (4, 41, 4, 6, 281), (4, 44, 4, 7, 286), (4, 47, 4, 8, 290), (4, 50, 4, 9, 295), (4, 58, 1, 0, 230), (4, 61, 1, 2, 235), (5, 9, 5, 2, 176), (5, 15, 5, 3, 178), (5, 19, 5, 4, 179), (5, 23, 5, 5, 180), (5, 26, 5, 12, 187), (5, 37, 5, 0, 173), (5, 40, 5, 1, 174), (5, 43, 5, 6, 181), (5, 46, 5, 9, 184), (5, 52, 5, 7, 182), (5, 62, 4, 10, 298), (5, 76, 4, 6, 283), (5, 79, 4, 7, 287), (5, 82, 4, 8, 291), (5, 85, 4, 9, 296), (5, 91, 4, 0, 260), (5, 112, 4, 4, 274), (5, 145, 1, 1, 232), (5, 148, 5, 10, 185), (5, 151, 5, 11, 186), (5, 155, 5, 8, 183), (6, 9, 6, 0, 329), (6, 21, 4, 1, 264), (6, 27, 6, 1, 331), (6, 28, 6, 2, 333), (6, 31, 6, 3, 336), (6, 34, 4, 9, 294), (6, 37, 6, 4, 338), (6, 46, 4, 5, 279), (6, 59, 6, 5, 340), (6, 66, 6, 6, 342), (6, 69, 4, 0, 262), (6, 76, 4, 2, 267), (6, 83, 4, 6, 284), (6, 89, 4, 7, 288), (6, 92, 4, 4, 275), (6, 95, 4, 8, 292), (7, 12, 7, 0, 446), (7, 19, 7, 1, 447), (7, 23, 7, 2, 448), (7, 29, 7, 3, 449), (7, 33, 7, 4, 450), (7, 39, 7, 5, 451), (7, 46, 7, 6, 452), (7, 53, 7, 7, 453), (7, 57, 7, 8, 454), (7, 61, 7, 10, 456), (7, 65, 7, 12, 458), (7, 68, 7, 13, 459), (7, 71, 5, 0, 172), (7, 94, 7, 9, 455), (7, 97, 7, 11, 457), (7, 100, 4, 0, 261), (7, 103, 5, 1, 175), (7, 106, 5, 2, 177), (7, 113, 6, 1, 332), (7, 120, 4, 2, 268), (7, 123, 4, 3, 270), (7, 126, 6, 0, 330), (7, 132, 4, 5, 280), (7, 135, 6, 2, 335), (7, 138, 6, 3, 337), (7, 176, 6, 5, 341), (7, 179, 6, 6, 343), (7, 182, 4, 4, 276), (7, 201, 0, 1, 397), (7, 204, 0, 0, 395), (7, 261, 4, 6, 285), (7, 264, 4, 7, 289), (7, 271, 4, 8, 293), (7, 282, 2, 1, 418), (7, 295, 6, 4, 339), (7, 298, 3, 0, 369), (7, 301, 3, 1, 371), (7, 304, 2, 0, 416), (7, 307, 4, 10, 299), (7, 311, 1, 1, 233), (8, 7, 8, 0, 1101), (8, 13, 8, 3, 1104), (8, 17, 8, 10, 1111), (8, 21, 8, 11, 1112), (8, 24, 8, 12, 1113), (8, 27, 8, 13, 1114), (8, 30, 8, 14, 1115), (8, 33, 8, 15, 1116), (8, 36, 8, 16, 1117), (8, 39, 8, 26, 1127), (8, 42, 8, 27, 1128), (8, 45, 8, 28, 1129), (8, 48, 8, 29, 1130), (8, 51, 8, 30, 1131), (8, 54, 8, 31, 1132), (8, 57, 8, 32, 1133), (8, 60, 8, 33, 1134), (8, 63, 8, 44, 1145), (8, 66, 8, 45, 1146), (8, 69, 8, 52, 1153), (8, 72, 8, 53, 1154), (8, 75, 8, 56, 1157), (8, 78, 8, 59, 1160), (8, 81, 8, 60, 1161), (8, 84, 8, 61, 1162), (8, 87, 8, 64, 1165), (8, 90, 8, 65, 1166), (8, 93, 8, 66, 1167), (8, 96, 8, 67, 1168), (8, 99, 8, 68, 1169), (8, 102, 8, 69, 1170), (8, 105, 8, 70, 1171), (8, 109, 8, 73, 1174), (8, 112, 8, 74, 1175), (8, 115, 8, 75, 1176), (8, 118, 8, 76, 1177), (8, 121, 8, 77, 1178), (8, 124, 8, 1, 1102), (8, 131, 8, 4, 1105), (8, 134, 8, 5, 1106), (8, 141, 8, 7, 1108), (8, 144, 8, 9, 1110), (8, 148, 8, 8, 1109), (8, 151, 8, 6, 1107), (8, 164, 8, 2, 1103), (8, 231, 8, 17, 1118), (8, 234, 8, 19, 1120), (8, 244, 8, 23, 1124), (8, 247, 8, 20, 1121), (8, 250, 8, 22, 1123), (8, 269, 8, 24, 1125), (8, 292, 8, 25, 1126), (8, 299, 8, 18, 1119), (8, 305, 8, 34, 1135), (8, 315, 8, 36, 1137), (8, 318, 8, 35, 1136), (8, 330, 8, 48, 1149), (8, 333, 8, 37, 1138), (8, 336, 8, 49, 1150), (8, 339, 8, 38, 1139), (8, 342, 8, 50, 1151), (8, 345, 8, 39, 1140), (8, 348, 8, 51, 1152), (8, 351, 8, 40, 1141), (8, 360, 8, 41, 1142), (8, 363, 8, 42, 1143), (8, 366, 8, 43, 1144), (8, 369, 8, 46, 1147), (8, 372, 8, 47, 1148), (8, 375, 8, 21, 1122), (8, 384, 8, 57, 1158), (8, 387, 8, 58, 1159), (8, 390, 8, 71, 1172), (8, 393, 8, 62, 1163), (8, 406, 8, 54, 1155), (8, 409, 8, 55, 1156), (8, 472, 8, 63, 1164), (8, 518, 8, 72, 1173)]
/-- methods: own class, pool number, method, sort (0 virtual, 1 static, 2 static of a nest mate, 3 constructor, 4 constructor of a nest mate, 8 arraycopy, 9 Object()) -/
def zmp : List (Nat × Nat × Nat × Nat × Nat) := [(13, 335, 7, 0, 541), (13, 1059, 9, 1, 150), (14, 9, 10, 1, 145), (13, 492, 6, 0, 136), (13, 495, 11, 1, 142), (14, 88, 13, 1, 548), (14, 92, 3, 1, 551), (14, 38, 4, 1, 554), (14, 95, 14, 1, 557), (13, 505, 8, 0, 537), (13, 637, 15, 1, 545), (13, 633, 16, 0, 533), (0, 3, 1001, 9, 391), (0, 24, 78, 4, 393), (0, 29, 80, 0, 858), (0, 33, 20, 0, 859), (0, 45, 0, 1, 863), (0, 51, 1000, 8, 864), (0, 57, 151, 2, 865), (0, 61, 81, 0, 866), (1, 3, 1001, 9, 228), (1, 28, 25, 1, 701), (2, 3, 1001, 9, 414), (2, 43, 151, 2, 686), (2, 51, 28, 0, 689), (2, 61, 47, 0, 693), (2, 72, 32, 0, 1066), (2, 75, 3, 1, 1082), (3, 3, 1001, 9, 364), (3, 17, 78, 4, 367), (3, 32, 39, 0, 758), (3, 36, 80, 0, 765), (3, 40, 40, 0, 817), (3, 44, 1, 1, 762), (4, 3, 1001, 9, 222), (4, 23, 21, 4, 225), (4, 28, 42, 0, 250), (4, 53, 22, 0, 254), (4, 54, 151, 2, 791), (4, 64, 24, 0, 697), (4, 68, 3, 1, 704), (4, 74, 4, 1, 705), (4, 77, 46, 0, 892), (4, 81, 48, 0, 888), (4, 84, 0, 1, 893), (4, 92, 53, 0, 985), (5, 3, 1001, 9, 130), (5, 31, 12, 0, 132), (5, 49, 73, 0, 510), (5, 55, 57, 0, 595), (5, 59, 58, 0, 623), (5, 68, 60, 0, 631), (5, 72, 59, 0, 667), (5, 88, 71, 0, 607), (5, 94, 72, 0, 599), (5, 98, 70, 0, 603), (5, 102, 68, 0, 611), (5, 105, 69, 0, 615), (5, 108, 43, 0, 619), (5, 115, 44, 0, 627), (5, 118, 67, 0, 635), (5, 121, 61, 0, 639), (5, 125, 62, 0, 643), (5, 128, 23, 0, 651), (5, 133, 63, 0, 647), (5, 136, 64, 0, 655), (5, 139, 65, 0, 659), (5, 142, 66, 0, 663), (5, 158, 76, 1, 514), (5, 162, 74, 0, 517), (5, 165, 77, 1, 521), (5, 168, 75, 0, 524), (5, 173, 17, 0, 529), (6, 3, 1001, 9, 328), (6, 15, 5, 1, 675), (6, 40, 1000, 8, 769), (6, 49, 82, 0, 776), (6, 53, 0, 1, 780), (6, 62, 45, 0, 781), (6, 72, 151, 2, 785), (6, 79, 47, 0, 786), (6, 86, 46, 0, 787), (6, 98, 4, 1, 796), (7, 3, 1001, 9, 122), (7, 11, 54, 3, 127), (7, 18, 41, 3, 219), (7, 28, 78, 4, 325), (7, 38, 34, 3, 361), (7, 45, 18, 3, 388), (7, 52, 26, 4, 411), (7, 75, 55, 0, 493), (7, 79, 42, 0, 505), (7, 82, 56, 0, 506), (7, 86, 79, 0, 671), (7, 90, 35, 0, 678), (7, 91, 27, 0, 682), (7, 109, 138, 0, 714), (7, 116, 151, 1, 718), (7, 129, 141, 0, 723), (7, 141, 139, 0, 731), (7, 144, 144, 0, 735), (7, 148, 142, 0, 750), (7, 151, 36, 0, 754), (7, 155, 81, 0, 772), (7, 159, 84, 0, 792), (7, 162, 85, 0, 805), (7, 165, 37, 0, 813), (7, 169, 38, 0, 825), (7, 172, 143, 0, 833), (7, 185, 19, 0, 854), (7, 189, 0, 1, 739), (7, 195, 4, 1, 867), (7, 207, 146, 0, 872), (7, 210, 49, 0, 884), (7, 213, 51, 0, 900), (7, 216, 140, 0, 908), (7, 219, 2, 1, 912), (7, 222, 147, 1, 919), (7, 226, 82, 0, 929), (7, 230, 3, 1, 934), (7, 233, 83, 0, 935), (7, 237, 145, 0, 943), (7, 241, 149, 0, 955), (7, 245, 150, 0, 959), (7, 248, 50, 0, 973), (7, 251, 52, 0, 981), (7, 255, 45, 0, 963), (7, 258, 46, 0, 964), (7, 267, 47, 0, 745), (7, 274, 152, 1, 1029), (7, 277, 29, 0, 1040), (7, 280, 30, 0, 1049), (7, 286, 31, 0, 1062), (7, 289, 33, 0, 1078), (7, 292, 80, 0, 837), (7, 316, 148, 1, 922), (8, 1, 1001, 9, 1100), (8, 127, 155, 0, 1340), (8, 137, 157, 0, 1360), (8, 154, 158, 1, 1364), (8, 158, 159, 1, 1367), (8, 161, 160, 1, 1370), (8, 203, 164, 0, 1394), (8, 207, 163, 0, 1378), (8, 211, 162, 0, 1415), (8, 214, 161, 0, 1356), (8, 217, 166, 0, 1427), (8, 221, 167, 0, 1431), (8, 225, 165, 0, 1390), (8, 228, 169, 0, 1419), (8, 237, 172, 1, 1454), (8, 240, 171, 0, 1473), (8, 253, 175, 0, 1450), (8, 256, 179, 0, 1457), (8, 259, 177, 0, 1461), (8, 262, 178, 0, 1465), (8, 265, 176, 0, 1469), (8, 273, 180, 0, 1446), (8, 276, 181, 0, 1477), (8, 279, 182, 0, 1481), (8, 282, 173, 0, 1485), (8, 285, 174, 0, 1489), (8, 288, 184, 1, 1435), (8, 295, 186, 1, 1543), (8, 302, 185, 1, 1546), (8, 308, 170, 0, 1386), (8, 311, 168, 0, 1423), (8, 321, 191, 0, 1382), (8, 324, 192, 0, 1438), (8, 327, 183, 0, 1442), (8, 354, 193, 0, 1373), (8, 357, 194, 0, 1352), (8, 378, 202, 0, 1493), (8, 381, 201, 0, 1497), (8, 396, 197, 1, 1513), (8, 400, 204, 0, 1576), (8, 403, 189, 1, 1536), (8, 412, 190, 0, 1539), (8, 416, 188, 1, 1549), (8, 419, 206, 0, 1580), (8, 422, 207, 0, 1584), (8, 425, 187, 1, 1592), (8, 428, 208, 0, 1572), (8, 432, 209, 0, 1588), (8, 435, 198, 0, 1509), (8, 438, 203, 0, 1516), (8, 441, 199, 0, 1524), (8, 444, 213, 0, 1532), (8, 447, 200, 0, 1564), (8, 450, 205, 0, 1556), (8, 453, 215, 0, 1560), (8, 456, 210, 0, 1568), (8, 460, 219, 0, 1603), (8, 463, 216, 0, 1611), (8, 466, 223, 0, 1623), (8, 469, 224, 0, 1627), (8, 475, 232, 0, 1651), (8, 478, 231, 0, 1647), (8, 481, 229, 0, 1659), (8, 484, 236, 0, 1675), (8, 487, 237, 0, 1671), (8, 490, 238, 1, 1679), (8, 493, 244, 0, 1702), (8, 496, 246, 1, 1710), (8, 499, 230, 1, 1721), (8, 502, 250, 0, 1728), (8, 506, 255, 0, 1748), (8, 509, 264, 1, 1785), (8, 512, 265, 1, 1788), (8, 515, 268, 0, 1799), (8, 522, 273, 0, 1820), (8, 525, 272, 0, 1824), (8, 528, 274, 0, 1816), (8, 531, 277, 0, 1836), (8, 534, 279, 1, 1844), (9, 9, 86, 3, 119), (9, 12, 153, 3, 1097), (9, 13, 87, 0, 489), (9, 17, 154, 0, 1336), (9, 18, 88, 0, 497), (9, 22, 156, 0, 1344), (9, 23, 89, 0, 501), (9, 27, 195, 0, 1348), (9, 28, 90, 0, 706), (9, 31, 196, 0, 1501), (9, 32, 91, 0, 710), (9, 36, 211, 0, 1505), (9, 37, 92, 0, 719), (9, 40, 212, 0, 1520), (9, 41, 93, 0, 727), (9, 45, 214, 0, 1528), (9, 46, 94, 0, 746), (9, 50, 217, 0, 1552), (9, 51, 95, 0, 797), (9, 54, 218, 0, 1595), (9, 55, 96, 0, 801), (9, 58, 220, 0, 1599), (9, 59, 97, 0, 809), (9, 63, 221, 0, 1607), (9, 64, 98, 0, 821), (9, 67, 222, 0, 1615), (9, 68, 99, 0, 829), (9, 71, 225, 0, 1619), (9, 72, 100, 0, 838), (9, 75, 226, 0, 1631), (9, 76, 101, 0, 842), (9, 79, 227, 0, 1635), (9, 80, 102, 0, 846), (9, 84, 228, 0, 1639), (9, 85, 103, 0, 850), (9, 89, 233, 0, 1643), (9, 90, 104, 0, 868), (9, 93, 234, 0, 1655), (9, 94, 105, 0, 876), (9, 97, 235, 0, 1663), (9, 98, 106, 0, 880), (9, 101, 239, 0, 1667), (9, 102, 107, 0, 896), (9, 105, 241, 0, 1686), (9, 106, 108, 0, 904), (9, 109, 245, 0, 1698), (9, 110, 109, 0, 915), (9, 113, 247, 0, 1706), (9, 114, 110, 0, 925), (9, 117, 248, 0, 1713), (9, 118, 111, 0, 930), (9, 122, 249, 0, 1717), (9, 123, 112, 0, 939), (9, 126, 251, 0, 1724), (9, 127, 113, 0, 947), (9, 130, 254, 0, 1740), (9, 131, 114, 0, 951), (9, 134, 256, 0, 1744), (9, 135, 115, 0, 965), (9, 138, 257, 0, 1753), (9, 139, 116, 0, 969), (9, 142, 240, 0, 1682), (9, 143, 117, 0, 977), (9, 146, 242, 0, 1690), (9, 147, 118, 0, 989), (9, 150, 252, 0, 1732), (9, 151, 119, 0, 993), (9, 154, 258, 0, 1757), (9, 155, 120, 0, 997), (9, 158, 253, 0, 1736), (9, 159, 121, 0, 1001), (9, 162, 259, 0, 1761), (9, 163, 122, 0, 1005), (9, 166, 260, 0, 1765), (9, 167, 123, 0, 1009), (9, 170, 261, 0, 1769), (9, 171, 124, 0, 1013), (9, 174, 243, 0, 1694), (9, 175, 125, 0, 1017), (9, 178, 262, 0, 1773), (9, 179, 126, 0, 1021), (9, 182, 263, 0, 1777), (9, 183, 127, 0, 1025), (9, 186, 266, 0, 1781), (9, 187, 128, 0, 1032), (9, 190, 267, 0, 1791), (9, 191, 129, 0, 1036), (9, 194, 269, 0, 1795), (9, 195, 130, 0, 1045), (9, 199, 270, 0, 1803), (9, 200, 131, 0, 1053), (9, 203, 271, 0, 1807), (9, 204, 132, 0, 1058), (9, 207, 275, 0, 1812), (9, 208, 133, 0, 1070), (9, 211, 276, 0, 1828), (9, 212, 134, 0, 1074), (9, 215, 278, 0, 1832), (9, 216, 135, 0, 1083), (9, 219, 280, 0, 1840), (9, 220, 136, 0, 1087), (9, 223, 281, 0, 1847), (9, 224, 137, 0, 1091), (9, 227, 282, 0, 1851)]
def zcp : List (Nat × Nat × Nat × Nat) := [(0, 18, 6, 392), (3, 9, 6, 365), (4, 21, 1, 223), (7, 9, 5, 125), (7, 16, 4, 217), (7, 26, 6, 323), (7, 36, 3, 359), (7, 43, 0, 386), (7, 50, 2, 409), (9, 7, 7, 117), (9, 10, 8, 1095)]
def zkp : List (Nat × Nat × Int32 × Nat) := [(10, 265, 1431655765, 742), (10, 266, 858993459, 743), (10, 267, 252645135, 744), (2, 71, 100001, 1044), (7, 285, 100000, 1057), (8, 505, 1000000, 1752), (8, 521, 100000, 1811)]
def zlp : List (Nat × Nat × Int64 × Nat) := [(8, 167, 120282394289522, 1377), (8, 169, 26990, 1398), (8, 171, 7304564, 1399), (8, 173, 469920277619, 1400), (8, 175, 508676040051, 1401), (8, 177, 109317142704997, 1402), (8, 179, 495672455792, 1403), (8, 181, 512869950579, 1404), (8, 183, 1668244331, 1405), (8, 185, 487301543009, 1406), (8, 187, 1886744179, 1407), (8, 189, 1685217655, 1408), (8, 191, 474316301160, 1409), (8, 193, 28817565927698023, 1410), (8, 195, 1919246692, 1411), (8, 197, 6385252, 1412), (8, 199, 28530, 1413), (8, 201, 7237492, 1414)]
def zys : List MethodName := [yJ6_bitCount_0f7a4, yJ9_floorMod_7cf53, yJ9_abs_0f7a4, yJ9_max_7cf53, yJ9_min_7cf53, yJ7_fill_53178, yJ0_isLatin1_aae02, yJ0_coder_7d493, yJ0_length_8abf5, yJ3_checkIndex_8e157, yJ0_checkIndex_df160, yJ1_charAt_3b067, yJ0_charAt_5068e, yJ1_canEncode_9a6ad, yJ1_indexOfChar_4cfef, yJ1_indexOf_4cfef, yJ0_indexOf_7cf53, yJ0_indexOf_0f7a4, yX0_init, yX0_seek, yX0_goOn, yX1_init, yX1_clear, yX1_addStep, yX1_value, yX1_joined, yX2_init, yX2_restart, yX2_track, yX2_tell, yX2_takeBack, yX2_fitting, yX2_isBorneOut, yX2_leftAtMost, yX3_init, yX3_clear, yX3_keep, yX3_takeBack, yX3_doAgain, yX3_row, yX3_exchange, yX4_init, yX4_clear, yX4_addMember, yX4_addClause, yX4_everyone, yX4_votesOf, yX4_windOf, yX4_tipsOver, yX4_ordersTipped, yX4_setsTilted, yX4_leastLeague, yX4_countLeagues, yX4_needsEach, yX5_init, yX5_put, yX5_tell, yX5_memberLine, yX5_clauseLine, yX5_numberLine, yX5_formulaLine, yX5_either, yX5_both, yX5_one, yX5_sum, yX5_term, yX5_unit, yX5_takeOnce, yX5_take, yX5_takeNumber, yX5_takeName, yX5_refuse, yX5_fail, yX5_advance, yX5_scanWord, yX5_scanNumber, yX5_isLetter, yX5_isDigit, yX6_init, yX6_begin, yX6_copy, yX6_sit, yX6_sitAs, yX6_sitAll, yX6_drawPun, yX6_handOver, yX7_init, yX7_feed, yX7_end, yX7_house, yX7_fault, yX7_member, yX7_clause, yX7_winds, yX7_read, yX7_oil, yX7_change, yX7_undo, yX7_redo, yX7_carries, yX7_shots, yX7_backers, yX7_will, yX7_agenda, yX7_tones, yX7_lost, yX7_tips, yX7_league, yX7_disarm, yX7_trust, yX7_edge, yX7_usher, yX7_creak, yX7_over, yX7_drops, yX7_swap, yX7_tilts, yX7_leagues, yX7_softest, yX7_outs, yX7_loudest, yX7_tensest, yX7_strength, yX7_cross, yX7_vetoes, yX7_law, yX7_until, yX7_odds, yX7_lies, yX7_heard, yX7_untell, yX7_later, yX7_fits, yX7_sure, yX7_ask, yX7_image, yX7_back, yX7_about, yX7_isMember, yX7_isOut, yX7_areTwoOut, yX7_isClause, yX7_isUnread, yX7_trialFromNow, yX7_windNow, yX7_creakAt, yX7_carriedByTones, yX7_staysWith, yX7_gain, yX7_countDrops, yX7_dropsWith, yX7_has, yX7_commonDivisor, yX8_init, yX8_feed, yX8_four, yX8_end, yX8_here, yX8_isLetter, yX8_isDigit, yX8_isSign, yX8_token, yX8_wrong, yX8_isWord, yX8_isOwn, yX8_isName, yX8_want, yX8_toldNumber, yX8_told, yX8_find, yX8_newName, yX8_add, yX8_tight, yX8_close, yX8_hasRelation, yX8_mayNot, yX8_asked, yX8_isFull, yX8_countUnit, yX8_openUp, yX8_unit, yX8_sign, yX8_hasBracket, yX8_formula, yX8_truth, yX8_done, yX8_within, yX8_lesser, yX8_greater, yX8_members, yX8_windOf, yX8_readMember, yX8_readClause, yX8_readLine, yX8_readAll, yX8_house, yX8_fault, yX8_isIn, yX8_isMember, yX8_isClause, yX8_fill, yX8_keepAir, yX8_layTold, yX8_isOut, yX8_isOutHere, yX8_isRead, yX8_isFor, yX8_votesOf, yX8_windAll, yX8_punAll, yX8_readOne, yX8_member, yX8_clause, yX8_windNow, yX8_winds, yX8_act, yX8_exchange, yX8_read, yX8_oil, yX8_changes, yX8_change, yX8_undo, yX8_redo, yX8_mayRead, yX8_thinkRead, yX8_carries, yX8_shots, yX8_backers, yX8_will, yX8_carriedBy, yX8_allOn, yX8_nextRow, yX8_exchangeInRow, yX8_agenda, yX8_tones, yX8_lost, yX8_isEnough, yX8_tiltsAt, yX8_orders, yX8_tips, yX8_tilts, yX8_league, yX8_leagues, yX8_vetoes, yX8_areTwoOut, yX8_disarm, yX8_trusted, yX8_trust, yX8_edge, yX8_usher, yX8_creakOf, yX8_creak, yX8_softest, yX8_loudest, yX8_over, yX8_layTills, yX8_drops, yX8_swap, yX8_outs, yX8_tensest, yX8_strength, yX8_cross, yX8_law, yX8_until, yX8_power, yX8_divisor, yX8_odds, yX8_lies, yX8_isLastOut, yX8_heard, yX8_untell, yX8_later, yX8_fitsMinds, yX8_layHad, yX8_layFits, yX8_fits, yX8_sure, yX8_leftBy, yX8_ask, yX8_isBox, yX8_image, yX8_back, yX8_about, yL_law]
def zbss : List ByteArray := [cJ6_bitCount_0f7a4, cJ9_floorMod_7cf53, cJ9_abs_0f7a4, cJ9_max_7cf53, cJ9_min_7cf53, cJ7_fill_53178, cJ0_isLatin1_aae02, cJ0_coder_7d493, cJ0_length_8abf5, cJ3_checkIndex_8e157, cJ0_checkIndex_df160, cJ1_charAt_3b067, cJ0_charAt_5068e, cJ1_canEncode_9a6ad, cJ1_indexOfChar_4cfef, cJ1_indexOf_4cfef, cJ0_indexOf_7cf53, cJ0_indexOf_0f7a4, cX0_init, cX0_seek, cX0_goOn, cX1_init, cX1_clear, cX1_addStep, cX1_value, cX1_joined, cX2_init, cX2_restart, cX2_track, cX2_tell, cX2_takeBack, cX2_fitting, cX2_isBorneOut, cX2_leftAtMost, cX3_init, cX3_clear, cX3_keep, cX3_takeBack, cX3_doAgain, cX3_row, cX3_exchange, cX4_init, cX4_clear, cX4_addMember, cX4_addClause, cX4_everyone, cX4_votesOf, cX4_windOf, cX4_tipsOver, cX4_ordersTipped, cX4_setsTilted, cX4_leastLeague, cX4_countLeagues, cX4_needsEach, cX5_init, cX5_put, cX5_tell, cX5_memberLine, cX5_clauseLine, cX5_numberLine, cX5_formulaLine, cX5_either, cX5_both, cX5_one, cX5_sum, cX5_term, cX5_unit, cX5_takeOnce, cX5_take, cX5_takeNumber, cX5_takeName, cX5_refuse, cX5_fail, cX5_advance, cX5_scanWord, cX5_scanNumber, cX5_isLetter, cX5_isDigit, cX6_init, cX6_begin, cX6_copy, cX6_sit, cX6_sitAs, cX6_sitAll, cX6_drawPun, cX6_handOver, cX7_init, cX7_feed, cX7_end, cX7_house, cX7_fault, cX7_member, cX7_clause, cX7_winds, cX7_read, cX7_oil, cX7_change, cX7_undo, cX7_redo, cX7_carries, cX7_shots, cX7_backers, cX7_will, cX7_agenda, cX7_tones, cX7_lost, cX7_tips, cX7_league, cX7_disarm, cX7_trust, cX7_edge, cX7_usher, cX7_creak, cX7_over, cX7_drops, cX7_swap, cX7_tilts, cX7_leagues, cX7_softest, cX7_outs, cX7_loudest, cX7_tensest, cX7_strength, cX7_cross, cX7_vetoes, cX7_law, cX7_until, cX7_odds, cX7_lies, cX7_heard, cX7_untell, cX7_later, cX7_fits, cX7_sure, cX7_ask, cX7_image, cX7_back, cX7_about, cX7_isMember, cX7_isOut, cX7_areTwoOut, cX7_isClause, cX7_isUnread, cX7_trialFromNow, cX7_windNow, cX7_creakAt, cX7_carriedByTones, cX7_staysWith, cX7_gain, cX7_countDrops, cX7_dropsWith, cX7_has, cX7_commonDivisor, cX8_init, cX8_feed, cX8_four, cX8_end, cX8_here, cX8_isLetter, cX8_isDigit, cX8_isSign, cX8_token, cX8_wrong, cX8_isWord, cX8_isOwn, cX8_isName, cX8_want, cX8_toldNumber, cX8_told, cX8_find, cX8_newName, cX8_add, cX8_tight, cX8_close, cX8_hasRelation, cX8_mayNot, cX8_asked, cX8_isFull, cX8_countUnit, cX8_openUp, cX8_unit, cX8_sign, cX8_hasBracket, cX8_formula, cX8_truth, cX8_done, cX8_within, cX8_lesser, cX8_greater, cX8_members, cX8_windOf, cX8_readMember, cX8_readClause, cX8_readLine, cX8_readAll, cX8_house, cX8_fault, cX8_isIn, cX8_isMember, cX8_isClause, cX8_fill, cX8_keepAir, cX8_layTold, cX8_isOut, cX8_isOutHere, cX8_isRead, cX8_isFor, cX8_votesOf, cX8_windAll, cX8_punAll, cX8_readOne, cX8_member, cX8_clause, cX8_windNow, cX8_winds, cX8_act, cX8_exchange, cX8_read, cX8_oil, cX8_changes, cX8_change, cX8_undo, cX8_redo, cX8_mayRead, cX8_thinkRead, cX8_carries, cX8_shots, cX8_backers, cX8_will, cX8_carriedBy, cX8_allOn, cX8_nextRow, cX8_exchangeInRow, cX8_agenda, cX8_tones, cX8_lost, cX8_isEnough, cX8_tiltsAt, cX8_orders, cX8_tips, cX8_tilts, cX8_league, cX8_leagues, cX8_vetoes, cX8_areTwoOut, cX8_disarm, cX8_trusted, cX8_trust, cX8_edge, cX8_usher, cX8_creakOf, cX8_creak, cX8_softest, cX8_loudest, cX8_over, cX8_layTills, cX8_drops, cX8_swap, cX8_outs, cX8_tensest, cX8_strength, cX8_cross, cX8_law, cX8_until, cX8_power, cX8_divisor, cX8_odds, cX8_lies, cX8_isLastOut, cX8_heard, cX8_untell, cX8_later, cX8_fitsMinds, cX8_layHad, cX8_layFits, cX8_fits, cX8_sure, cX8_leftBy, cX8_ask, cX8_isBox, cX8_image, cX8_back, cX8_about, cL_law]
def zrts : List (Option FieldType) := [(some .int), (some .int), (some .int), (some .int), (some .int), none, (some .boolean), (some .byte), (some .int), (some .int), none, (some .char), (some .char), (some .boolean), (some .int), (some .int), (some .int), (some .int), none, none, none, none, none, none, (some .int), (some .int), none, none, none, (some .int), (some .boolean), (some .int), (some .boolean), (some .int), none, none, none, (some .boolean), (some .boolean), (some (.object "BowHouse$State")), none, none, none, none, none, (some .int), (some .int), (some .int), (some .boolean), (some .int), (some .int), (some .int), (some .int), (some .boolean), none, none, (some .boolean), none, none, (some .int), none, none, none, none, none, none, none, none, none, (some .int), none, none, none, none, none, none, (some .boolean), (some .boolean), none, none, none, (some .boolean), (some .boolean), (some .int), none, none, none, (some .int), (some .int), (some .int), (some .int), (some .int), (some .int), (some .int), (some .int), (some .int), (some .int), (some .boolean), (some .boolean), (some .int), (some .int), (some .int), (some .int), (some .int), (some .int), (some .int), (some .int), (some .int), (some .int), (some .int), (some .int), (some .int), (some .int), (some .int), (some .int), (some .int), (some .int), (some .int), (some .int), (some .int), (some .int), (some .int), (some .int), (some .int), (some .int), (some .int), (some .int), (some .int), (some .int), (some .int), (some .boolean), (some .int), (some .int), (some .int), (some .int), (some .int), (some .int), (some .int), (some .boolean), (some .boolean), (some .boolean), (some .boolean), (some .boolean), (some (.object "BowHouse$State")), (some .int), (some .int), (some .int), (some .boolean), (some .int), (some .boolean), (some .int), (some .boolean), (some .int), none, (some .int), none, (some .int), (some .int), (some .boolean), (some .boolean), (some .boolean), none, none, (some .boolean), (some .boolean), (some .boolean), none, (some .int), (some .int), (some .int), none, none, (some .int), none, (some .boolean), (some .boolean), (some .int), (some .boolean), none, none, none, (some .int), (some .boolean), none, (some .int), (some .int), (some .int), (some .int), (some .int), (some .int), (some .int), none, none, none, none, (some .int), (some .int), (some .boolean), (some .boolean), (some .boolean), none, none, none, (some .boolean), (some .boolean), (some .boolean), (some .boolean), (some .int), (some .boolean), none, (some .boolean), (some .int), (some .int), (some .int), (some .int), none, none, (some .int), (some .int), none, (some .int), (some .boolean), (some .boolean), (some .boolean), (some .boolean), (some .int), (some .int), (some .int), (some .int), (some .int), (some .int), (some .boolean), none, (some .int), (some .int), (some .int), (some .boolean), (some .boolean), (some .int), (some .int), (some .int), (some .int), (some .int), (some .int), (some .boolean), (some .int), (some .int), (some .int), (some .int), (some .int), (some .int), (some .int), (some .int), (some .int), (some .int), none, (some .int), (some .int), (some .int), (some .int), (some .int), (some .int), (some .int), (some .int), (some .int), (some .int), (some .int), (some .int), (some .boolean), (some .int), (some .boolean), (some .int), (some .boolean), none, (some .int), (some .int), (some .int), (some .int), (some .int), (some .boolean), (some .int), (some .int), (some .int), (some .boolean)]
/-- own class; places of the words code, static, instanceMethod, selects -/
def zmr : List (Nat × Nat × Nat × Nat × Nat) := [(10, 741, 740, 0, 0), (11, 764, 763, 0, 0), (11, 914, 913, 0, 0), (11, 553, 552, 0, 0), (11, 556, 555, 0, 0), (12, 677, 676, 0, 0), (13, 139, 0, 137, 138), (13, 544, 0, 542, 543), (13, 540, 0, 538, 539), (15, 152, 151, 0, 0), (13, 147, 146, 0, 0), (14, 144, 143, 0, 0), (13, 135, 0, 133, 134), (14, 550, 549, 0, 0), (14, 559, 558, 0, 0), (14, 547, 546, 0, 0), (13, 536, 0, 534, 535), (13, 532, 0, 530, 531), (0, 390, 0, 389, 0), (0, 857, 0, 855, 856), (0, 862, 0, 861, 28), (1, 227, 0, 226, 0), (1, 257, 0, 255, 256), (1, 654, 0, 652, 653), (1, 700, 0, 698, 699), (1, 703, 702, 0, 0), (2, 413, 0, 412, 0), (2, 685, 0, 683, 684), (2, 692, 0, 691, 19), (2, 1043, 0, 1041, 1042), (2, 1052, 0, 1050, 1051), (2, 1065, 0, 1063, 1064), (2, 1069, 0, 1068, 36), (2, 1081, 0, 1079, 1080), (3, 363, 0, 362, 0), (3, 681, 0, 679, 680), (3, 757, 0, 755, 756), (3, 816, 0, 814, 815), (3, 828, 0, 826, 827), (3, 761, 0, 760, 25), (3, 820, 0, 819, 26), (4, 221, 0, 220, 0), (4, 253, 0, 251, 252), (4, 622, 0, 620, 621), (4, 630, 0, 628, 629), (4, 784, 0, 782, 783), (4, 790, 0, 788, 789), (4, 696, 0, 694, 695), (4, 891, 0, 890, 30), (4, 887, 0, 885, 886), (4, 976, 0, 974, 975), (4, 903, 0, 901, 902), (4, 984, 0, 982, 983), (4, 988, 0, 987, 35), (5, 129, 0, 128, 0), (5, 496, 0, 494, 495), (5, 509, 0, 507, 508), (5, 598, 0, 597, 3), (5, 626, 0, 625, 9), (5, 670, 0, 669, 18), (5, 634, 0, 633, 10), (5, 642, 0, 641, 12), (5, 646, 0, 645, 13), (5, 650, 0, 649, 14), (5, 658, 0, 657, 15), (5, 662, 0, 661, 16), (5, 666, 0, 665, 17), (5, 638, 0, 637, 11), (5, 614, 0, 613, 7), (5, 618, 0, 617, 8), (5, 606, 0, 605, 5), (5, 610, 0, 609, 6), (5, 602, 0, 601, 4), (5, 513, 0, 512, 0), (5, 520, 0, 519, 1), (5, 527, 0, 526, 2), (5, 516, 515, 0, 0), (5, 523, 522, 0, 0), (6, 327, 0, 326, 0), (6, 674, 0, 672, 673), (6, 768, 0, 766, 767), (6, 775, 0, 773, 774), (6, 779, 0, 777, 778), (6, 938, 0, 936, 937), (6, 795, 0, 793, 794), (6, 808, 0, 806, 807), (7, 121, 0, 120, 0), (7, 492, 0, 490, 491), (7, 500, 0, 498, 499), (7, 504, 0, 502, 503), (7, 709, 0, 707, 708), (7, 713, 0, 711, 712), (7, 722, 0, 720, 721), (7, 730, 0, 728, 729), (7, 749, 0, 747, 748), (7, 800, 0, 798, 799), (7, 804, 0, 802, 803), (7, 812, 0, 810, 811), (7, 824, 0, 822, 823), (7, 832, 0, 830, 831), (7, 841, 0, 839, 840), (7, 845, 0, 843, 844), (7, 849, 0, 847, 848), (7, 853, 0, 851, 852), (7, 871, 0, 869, 870), (7, 879, 0, 877, 878), (7, 883, 0, 881, 882), (7, 899, 0, 897, 898), (7, 907, 0, 905, 906), (7, 918, 0, 916, 917), (7, 928, 0, 926, 927), (7, 933, 0, 931, 932), (7, 942, 0, 940, 941), (7, 950, 0, 948, 949), (7, 954, 0, 952, 953), (7, 968, 0, 966, 967), (7, 972, 0, 970, 971), (7, 980, 0, 978, 979), (7, 992, 0, 990, 991), (7, 996, 0, 994, 995), (7, 1000, 0, 998, 999), (7, 1004, 0, 1002, 1003), (7, 1008, 0, 1006, 1007), (7, 1012, 0, 1010, 1011), (7, 1016, 0, 1014, 1015), (7, 1020, 0, 1018, 1019), (7, 1024, 0, 1022, 1023), (7, 1028, 0, 1026, 1027), (7, 1035, 0, 1033, 1034), (7, 1039, 0, 1037, 1038), (7, 1048, 0, 1046, 1047), (7, 1056, 0, 1054, 1055), (7, 1061, 0, 1059, 1060), (7, 1073, 0, 1071, 1072), (7, 1077, 0, 1075, 1076), (7, 1086, 0, 1084, 1085), (7, 1090, 0, 1088, 1089), (7, 1094, 0, 1092, 1093), (7, 717, 0, 716, 20), (7, 734, 0, 733, 22), (7, 911, 0, 910, 31), (7, 726, 0, 725, 21), (7, 753, 0, 752, 24), (7, 836, 0, 835, 27), (7, 738, 0, 737, 23), (7, 946, 0, 945, 32), (7, 875, 0, 874, 29), (7, 921, 920, 0, 0), (7, 924, 923, 0, 0), (7, 958, 0, 957, 33), (7, 962, 0, 961, 34), (7, 688, 687, 0, 0), (7, 1031, 1030, 0, 0), (8, 1099, 0, 1098, 0), (8, 1339, 0, 1337, 1338), (8, 1343, 0, 1342, 37), (8, 1347, 0, 1345, 1346), (8, 1363, 0, 1362, 40), (8, 1366, 1365, 0, 0), (8, 1369, 1368, 0, 0), (8, 1372, 1371, 0, 0), (8, 1359, 0, 1358, 39), (8, 1418, 0, 1417, 47), (8, 1381, 0, 1380, 42), (8, 1397, 0, 1396, 46), (8, 1393, 0, 1392, 45), (8, 1430, 0, 1429, 50), (8, 1434, 0, 1433, 51), (8, 1426, 0, 1425, 49), (8, 1422, 0, 1421, 48), (8, 1389, 0, 1388, 44), (8, 1476, 0, 1475, 60), (8, 1456, 1455, 0, 0), (8, 1488, 0, 1487, 63), (8, 1492, 0, 1491, 64), (8, 1453, 0, 1452, 55), (8, 1472, 0, 1471, 59), (8, 1464, 0, 1463, 57), (8, 1468, 0, 1467, 58), (8, 1460, 0, 1459, 56), (8, 1449, 0, 1448, 54), (8, 1480, 0, 1479, 61), (8, 1484, 0, 1483, 62), (8, 1445, 0, 1444, 53), (8, 1437, 1436, 0, 0), (8, 1548, 1547, 0, 0), (8, 1545, 1544, 0, 0), (8, 1594, 1593, 0, 0), (8, 1551, 1550, 0, 0), (8, 1538, 1537, 0, 0), (8, 1542, 0, 1541, 71), (8, 1385, 0, 1384, 43), (8, 1441, 0, 1440, 52), (8, 1376, 0, 1375, 41), (8, 1355, 0, 1354, 38), (8, 1351, 0, 1349, 1350), (8, 1504, 0, 1502, 1503), (8, 1515, 1514, 0, 0), (8, 1512, 0, 1511, 67), (8, 1527, 0, 1526, 69), (8, 1567, 0, 1566, 74), (8, 1500, 0, 1499, 66), (8, 1496, 0, 1495, 65), (8, 1519, 0, 1518, 68), (8, 1579, 0, 1578, 77), (8, 1559, 0, 1558, 72), (8, 1583, 0, 1582, 78), (8, 1587, 0, 1586, 79), (8, 1575, 0, 1574, 76), (8, 1591, 0, 1590, 80), (8, 1571, 0, 1570, 75), (8, 1508, 0, 1506, 1507), (8, 1523, 0, 1521, 1522), (8, 1535, 0, 1534, 70), (8, 1531, 0, 1529, 1530), (8, 1563, 0, 1562, 73), (8, 1614, 0, 1613, 82), (8, 1555, 0, 1553, 1554), (8, 1598, 0, 1596, 1597), (8, 1606, 0, 1605, 81), (8, 1602, 0, 1600, 1601), (8, 1610, 0, 1608, 1609), (8, 1618, 0, 1616, 1617), (8, 1626, 0, 1625, 83), (8, 1630, 0, 1629, 84), (8, 1622, 0, 1620, 1621), (8, 1634, 0, 1632, 1633), (8, 1638, 0, 1636, 1637), (8, 1642, 0, 1640, 1641), (8, 1662, 0, 1661, 87), (8, 1723, 1722, 0, 0), (8, 1650, 0, 1649, 85), (8, 1654, 0, 1653, 86), (8, 1646, 0, 1644, 1645), (8, 1658, 0, 1656, 1657), (8, 1666, 0, 1664, 1665), (8, 1678, 0, 1677, 89), (8, 1674, 0, 1673, 88), (8, 1681, 1680, 0, 0), (8, 1670, 0, 1668, 1669), (8, 1685, 0, 1683, 1684), (8, 1689, 0, 1687, 1688), (8, 1693, 0, 1691, 1692), (8, 1697, 0, 1695, 1696), (8, 1705, 0, 1704, 90), (8, 1701, 0, 1699, 1700), (8, 1712, 1711, 0, 0), (8, 1709, 0, 1707, 1708), (8, 1716, 0, 1714, 1715), (8, 1720, 0, 1718, 1719), (8, 1731, 0, 1730, 91), (8, 1727, 0, 1725, 1726), (8, 1735, 0, 1733, 1734), (8, 1739, 0, 1737, 1738), (8, 1743, 0, 1741, 1742), (8, 1751, 0, 1750, 92), (8, 1747, 0, 1745, 1746), (8, 1756, 0, 1754, 1755), (8, 1760, 0, 1758, 1759), (8, 1764, 0, 1762, 1763), (8, 1768, 0, 1766, 1767), (8, 1772, 0, 1770, 1771), (8, 1776, 0, 1774, 1775), (8, 1780, 0, 1778, 1779), (8, 1787, 1786, 0, 0), (8, 1790, 1789, 0, 0), (8, 1784, 0, 1782, 1783), (8, 1794, 0, 1792, 1793), (8, 1802, 0, 1801, 93), (8, 1798, 0, 1796, 1797), (8, 1806, 0, 1804, 1805), (8, 1810, 0, 1808, 1809), (8, 1827, 0, 1826, 96), (8, 1823, 0, 1822, 95), (8, 1819, 0, 1818, 94), (8, 1815, 0, 1813, 1814), (8, 1831, 0, 1829, 1830), (8, 1839, 0, 1838, 97), (8, 1835, 0, 1833, 1834), (8, 1846, 1845, 0, 0), (8, 1843, 0, 1841, 1842), (8, 1850, 0, 1848, 1849), (8, 1854, 0, 1852, 1853), (9, 0, 0, 0, 0)]
def zow (a : Nat) : String := zcn.getD (zmr.getD a (0, 0, 0, 0, 0)).1 ""
def zoc (a : Nat) : Nat := (zmr.getD a (0, 0, 0, 0, 0)).1
def zy (a : Nat) : MethodName := zys.getD a ⟨"", "", ""⟩
def zbs (a : Nat) : ByteArray := zbss.getD a ⟨#[]⟩
def zrt (a : Nat) : Option FieldType := zrts.getD a none
def zcls (c : Nat) : vw_C := vwCl.getD c ("", fun _ => ("", "", "", false), 0)
def zTy (c : Nat) : Nat → FieldType := match c with
  | 0 => tyX0
  | 1 => tyX1
  | 2 => tyX2
  | 3 => tyX3
  | 4 => tyX4
  | 5 => tyX5
  | 6 => tyX6
  | 7 => tyX7
  | _ => tyX8
def ztc (ty : FieldType) : Nat := match ty with
  | .long => 3
  | .boolean => 2
  | .object _ => 4
  | .array _ => 4
  | .byte => 1
  | _ => 0
/-- a word, with its place -/
def zwd (p : Nat) (w : Cond) : Bool := decide (lw_tbl[p]? = some w) && goodWord w
def zwn (p : Nat) (w : Cond) : Bool := decide (lw_tbl[p]? = some w)
def zfl (o i c k : Nat) : Cond := match c with
  | 99 => (match k with
    | 0 => .fieldLink (zcn.getD o "") i "java/lang/String" "value" "[B"
    | _ => .fieldLink (zcn.getD o "") i "java/lang/String" "coder" "B")
  | _ => .fieldLink (zcn.getD o "") i ((zcls c).2.1 k).1 ((zcls c).2.1 k).2.1 ((zcls c).2.1 k).2.2.1
set_option maxRecDepth 100000 in
theorem zfp_b : zfp.all (fun e => zwd e.2.2.2.2 (zfl e.1 e.2.1 e.2.2.1 e.2.2.2.1)) = true := by decide +kernel
set_option maxRecDepth 100000 in
theorem zcp_b : zcp.all (fun e => zwd e.2.2.2 (.classLink (zcn.getD e.1 "") e.2.1 (zcls e.2.2.1).1)) = true := by decide +kernel
set_option maxRecDepth 100000 in
theorem zkp_b : zkp.all (fun e => zwd e.2.2.2 (.constant (zcn.getD e.1 "") e.2.1 e.2.2.1)) = true := by decide +kernel
set_option maxRecDepth 100000 in
theorem zlp_b : zlp.all (fun e => zwd e.2.2.2 (.constantLong (zcn.getD e.1 "") e.2.1 e.2.2.1)) = true := by decide +kernel
/-- a call's link -/
def zml (o i a k : Nat) : Cond := match k with
  | 2 => .methodLinkNest (zcn.getD o "") i (zy a) RX7
  | 4 => .methodLinkNest (zcn.getD o "") i (zy a) RX7
  | 8 => .methodLink (zcn.getD o "") i arraycopyName
  | 9 => .methodLink (zcn.getD o "") i Lib.objectInit
  | _ => .methodLink (zcn.getD o "") i (zy a)
def zpn (a n : Nat) : Bool := decide ((parseMethodDescriptor (zy a).desc).map (fun d => d.parameters.length) = some n)
def zmh (a : Nat) : Bool := decide ((zy a).cls ≠ "java/lang/invoke/MethodHandle") && decide ((zy a).cls ≠ "java/lang/invoke/VarHandle")
/-- what a callee's own words must be, by the sort of the call -/
def zmw (a k : Nat) : Bool := match k, zmr.getD a (0, 0, 0, 0, 0) with
  | 0, (_, _, _, im, se) => zwd im (.instanceMethod (zy a)) && zwd se (.selects (zy a).cls (zy a) (zy a))
  | 1, (_, _, st, _, _) => zwd st (.static (zy a))
  | 2, (_, _, st, _, _) => zwd st (.static (zy a))
  | 3, (_, _, _, im, _) => zwd im (.instanceMethod (zy a)) && decide ((zy a).name = "<init>") && decide (zrt a = none)
  | 4, (_, _, _, im, _) => zwd im (.instanceMethod (zy a)) && decide ((zy a).name = "<init>") && decide (zrt a = none)
  | _, _ => true
def znestk (k : Nat) : Bool := match k with
  | 2 => true
  | 4 => true
  | _ => false
set_option maxRecDepth 100000 in
theorem zmp_b1 : (zmp.take 150).all (fun e => (match znestk e.2.2.2.1 with
  | true => zwn e.2.2.2.2 (zml e.1 e.2.1 e.2.2.1 e.2.2.2.1)
  | false => zwd e.2.2.2.2 (zml e.1 e.2.1 e.2.2.1 e.2.2.2.1)) && zmw e.2.2.1 e.2.2.2.1) = true := by decide +kernel
set_option maxRecDepth 100000 in
theorem zmp_b2 : ((zmp.drop 150).take 150).all (fun e => (match znestk e.2.2.2.1 with
  | true => zwn e.2.2.2.2 (zml e.1 e.2.1 e.2.2.1 e.2.2.2.1)
  | false => zwd e.2.2.2.2 (zml e.1 e.2.1 e.2.2.1 e.2.2.2.1)) && zmw e.2.2.1 e.2.2.2.1) = true := by decide +kernel
set_option maxRecDepth 100000 in
theorem zmp_b3 : (zmp.drop 300).all (fun e => (match znestk e.2.2.2.1 with
  | true => zwn e.2.2.2.2 (zml e.1 e.2.1 e.2.2.1 e.2.2.2.1)
  | false => zwd e.2.2.2.2 (zml e.1 e.2.1 e.2.2.1 e.2.2.2.1)) && zmw e.2.2.1 e.2.2.2.1) = true := by decide +kernel
end
section
/-! each instruction of each method: decoded, its links and operands as they are -/
def zfq (o i a b : Nat) : Bool := zfp.any (fun e => Nat.beq e.1 o && Nat.beq e.2.1 i && Nat.beq e.2.2.1 a && Nat.beq e.2.2.2.1 b)
def zmq (o i a k : Nat) : Bool := zmp.any (fun e => Nat.beq e.1 o && Nat.beq e.2.1 i && Nat.beq e.2.2.1 a && Nat.beq e.2.2.2.1 k)
def zcq (o i a : Nat) : Bool := zcp.any (fun e => Nat.beq e.1 o && Nat.beq e.2.1 i && Nat.beq e.2.2.1 a)
def zkq (o i : Nat) (x : Int32) : Bool := zkp.any (fun e => Nat.beq e.1 o && Nat.beq e.2.1 i && decide (e.2.2.1 = x))
def zlq (o i : Nat) (x : Int64) : Bool := zlp.any (fun e => Nat.beq e.1 o && Nat.beq e.2.1 i && decide (e.2.2.1 = x))
def zvq (a : Nat) (v : Value) : Bool := match v with
  | .null => decide (zalc a = (0, 0))
  | .ref n => decide (zalc a = (n / 1000000, n % 1000000))
  | _ => false
def zokI (mi pc len : Nat) (ins : Instr) (a b c : Nat) (v : Value) : Bool := match ins with
  | .iload i => decide (a = i) && decide (len = 2)
  | .iload_n i => decide (a = i.val) && decide (len = 1)
  | .aload i => decide (a = i) && decide (len = 2)
  | .aload_n i => decide (a = i.val) && decide (len = 1)
  | .lload_n i => decide (a = i.val) && decide (len = 1)
  | .istore i => decide (a = i) && decide (len = 2) && decide (a < znl mi) && zlg mi
  | .istore_n i => decide (a = i.val) && decide (len = 1) && decide (a < znl mi) && zlg mi
  | .astore i => decide (a = i) && decide (len = 2) && decide (a < znl mi) && zlg mi
  | .astore_n i => decide (a = i.val) && decide (len = 1) && decide (a < znl mi) && zlg mi
  | .iinc i n => decide (a = i) && decide (len = 3) && decide (a < znl mi) && zlg mi && decide (v = .int (Int32.ofInt n))
  | .iconst n => decide (v = .int (Int32.ofInt n)) && decide (len = 1)
  | .bipush n => decide (v = .int (Int8.ofInt n).toInt32) && decide (len = 2)
  | .sipush n => decide (v = .int (Int16.ofInt n).toInt32) && decide (len = 3)
  | .lconst n => decide (v = .long (Int64.ofNat n.val)) && decide (len = 1)
  | .ldc i => decide (len = 2) && (match v with
    | .int x => zkq (zoc mi) i x
    | .retAddr k => (decide (k = 3) && decide (zoc mi = 5) && decide (i = 29)) || (decide (k = 4) && decide (zoc mi = 5) && decide (i = 171))
    | _ => false)
  | .ldc_w i => decide (len = 3) && (match v with
    | .int x => zkq (zoc mi) i x
    | _ => false)
  | .ldc2_w i => decide (len = 3) && (match v with
    | .long x => zlq (zoc mi) i x
    | _ => false)
  | .getstatic i => decide (len = 3) && ((decide (v = .retAddr 2) && decide (zoc mi = 4) && decide (i = 89)) || (decide (v = .int 1) && decide (zoc mi = 13) && decide (i = 38)) || (decide (v = .retAddr 7) && decide (zoc mi = 13) && decide (i = 1053)))
  | .iadd => decide (len = 1)
  | .isub => decide (len = 1)
  | .imul => decide (len = 1)
  | .iand => decide (len = 1)
  | .ior => decide (len = 1)
  | .ixor => decide (len = 1)
  | .ishl => decide (len = 1)
  | .ishr => decide (len = 1)
  | .iushr => decide (len = 1)
  | .idiv => decide (len = 1)
  | .irem => decide (len = 1)
  | .ineg => decide (len = 1)
  | .i2b => decide (len = 1)
  | .i2c => decide (len = 1)
  | .i2l => decide (len = 1)
  | .lcmp => decide (len = 1)
  | .lor => decide (len = 1)
  | .lshl => decide (len = 1)
  | .if_icmp _ o => decide (len = 3) && decide ((pc : Int) + o = (a : Int))
  | .ifCond _ o => decide (len = 3) && decide ((pc : Int) + o = (a : Int))
  | .goto o => decide (len = 3) && decide ((pc : Int) + o = (a : Int))
  | .tableswitch d lo hi os => decide (0 ≤ (pc : Int) + d) && os.toList.all (fun o => decide (0 ≤ (pc : Int) + o)) && decide (hi - lo + 1 = (os.toList.length : Int)) && decide (-1000 ≤ lo) && decide (hi ≤ 1000)
  | .lookupswitch d ps => decide (0 ≤ (pc : Int) + d) && ps.toList.all (fun o => decide (0 ≤ (pc : Int) + o.2) && decide (-1000 ≤ o.1) && decide (o.1 ≤ 1000)) && (ps.toList.zip (ps.toList.drop 1)).all (fun (a, next) => decide (a.1 < next.1))
  | .dup => decide (len = 1)
  | .dup2 => decide (len = 1)
  | .pop => decide (len = 1)
  | .getfield i => decide (len = 3) && zfq (zoc mi) i a b && (decide (a = 99) || (decide (a < 9) && decide (b < (zcls a).2.2) && decide (c = ztc (zTy a b))))
  | .putfield i => decide (len = 3) && zfq (zoc mi) i a b && decide (a < 9) && decide (b < (zcls a).2.2) && decide (c = ztc (zTy a b)) && (decide (((zcls a).2.1 b).2.2.2 = false) || (decide (((zcls a).2.1 b).2.2.2 = true) && decide ((zy mi).name = "<init>") && decide (((zcls a).2.1 b).1 = zow mi)))
  | .iaload => decide (len = 1)
  | .baload => decide (len = 1) && (decide (c = 1) || decide (c = 2))
  | .laload => decide (len = 1)
  | .aaload => decide (len = 1)
  | .iastore => decide (len = 1)
  | .bastore => decide (len = 1) && (decide (c = 1) || decide (c = 2))
  | .lastore => decide (len = 1)
  | .aastore => decide (len = 1)
  | .arraylength => decide (len = 1)
  | .new i => decide (len = 3) && zcq (zoc mi) i a && decide (a < 9) && decide (b = (zcls a).2.2)
  | .newarray t => decide (len = 2) && ((decide (a = 0) && decide (t = .int)) || (decide (a = 1) && decide (t = .byte)) || (decide (a = 2) && decide (t = .boolean)) || (decide (a = 3) && decide (t = .long)))
  | .anewarray i => decide (len = 3) && zcq (zoc mi) i 6
  | .invokevirtual i => decide (len = 3) && decide (zoc a = c / 4) && (decide (c / 4 < 9) || decide (c / 4 = 13)) && decide (1 ≤ b) && zmq (zoc mi) i a 0 && zpn a (b - 1) && zmh a && zvq a v && decide (a < 283)
  | .invokestatic i => decide (len = 3) && (match c with
    | 8 => zmq (zoc mi) i 1000 8
    | _ => (zmq (zoc mi) i a 1 || zmq (zoc mi) i a 2) && zpn a b && zmh a && zvq a v && decide (a < 283))
  | .invokespecial i => decide (len = 3) && (match c with
    | 9 => zmq (zoc mi) i 1001 9
    | _ => decide (1 ≤ b) && (zmq (zoc mi) i a 3 || zmq (zoc mi) i a 4) && zpn a (b - 1) && zmh a && zvq a v && decide (a < 283))
  | .ireturn => decide (len = 1) && ((decide (c = 2) && decide (zrt mi = some .boolean)) || (decide (c = 5) && decide (zrt mi = some .char)) || (decide (c = 1) && decide (zrt mi = some .byte)) || (decide (c = 0) && decide (zrt mi = some .int)))
  | .areturn => decide (len = 1) && decide (zrt mi = some (.object "BowHouse$State"))
  | .return_ => decide (len = 1) && decide (zrt mi = none)
  | _ => false
def zokb (mi : Nat) (e : zE) : Bool := match e with
  | (pc, len, ins, a, b, c, v) => decide (decode (zbs mi) pc = .ok (ins, len)) && zokI mi pc len ins a b c v
end
section
set_option maxRecDepth 1000000 in
theorem zchk_0 : ((List.range 33).drop 0).all (fun mi => (zcode mi).all (zokb mi)) = true := by decide +kernel
end
section
set_option maxRecDepth 1000000 in
theorem zchk_1 : ((List.range 62).drop 33).all (fun mi => (zcode mi).all (zokb mi)) = true := by decide +kernel
end
section
set_option maxRecDepth 1000000 in
theorem zchk_2 : ((List.range 85).drop 62).all (fun mi => (zcode mi).all (zokb mi)) = true := by decide +kernel
end
section
set_option maxRecDepth 1000000 in
theorem zchk_3 : ((List.range 111).drop 85).all (fun mi => (zcode mi).all (zokb mi)) = true := by decide +kernel
end
section
set_option maxRecDepth 1000000 in
theorem zchk_4 : ((List.range 143).drop 111).all (fun mi => (zcode mi).all (zokb mi)) = true := by decide +kernel
end
section
set_option maxRecDepth 1000000 in
theorem zchk_5 : ((List.range 167).drop 143).all (fun mi => (zcode mi).all (zokb mi)) = true := by decide +kernel
end
section
set_option maxRecDepth 1000000 in
theorem zchk_6 : ((List.range 190).drop 167).all (fun mi => (zcode mi).all (zokb mi)) = true := by decide +kernel
end
section
set_option maxRecDepth 1000000 in
theorem zchk_7 : ((List.range 209).drop 190).all (fun mi => (zcode mi).all (zokb mi)) = true := by decide +kernel
end
section
set_option maxRecDepth 1000000 in
theorem zchk_8 : ((List.range 235).drop 209).all (fun mi => (zcode mi).all (zokb mi)) = true := by decide +kernel
end
section
set_option maxRecDepth 1000000 in
theorem zchk_9 : ((List.range 257).drop 235).all (fun mi => (zcode mi).all (zokb mi)) = true := by decide +kernel
end
section
set_option maxRecDepth 1000000 in
theorem zchk_10 : ((List.range 283).drop 257).all (fun mi => (zcode mi).all (zokb mi)) = true := by decide +kernel
end
section
set_option maxRecDepth 1000000 in
theorem zchk_law_0 : (((zcode 283).drop 0).take 40).all (zokb 283) = true := by decide +kernel
set_option maxRecDepth 1000000 in
theorem zchk_law_1 : (((zcode 283).drop 40).take 40).all (zokb 283) = true := by decide +kernel
end
section
set_option maxRecDepth 1000000 in
theorem zchk_law_2 : (((zcode 283).drop 80).take 40).all (zokb 283) = true := by decide +kernel
set_option maxRecDepth 1000000 in
theorem zchk_law_3 : (((zcode 283).drop 120).take 40).all (zokb 283) = true := by decide +kernel
end
section
set_option maxRecDepth 1000000 in
theorem zchk_law_4 : (((zcode 283).drop 160).take 40).all (zokb 283) = true := by decide +kernel
set_option maxRecDepth 1000000 in
theorem zchk_law_5 : (((zcode 283).drop 200).take 40).all (zokb 283) = true := by decide +kernel
end
section
set_option maxRecDepth 1000000 in
theorem zchk_law_6 : (((zcode 283).drop 240).take 40).all (zokb 283) = true := by decide +kernel
set_option maxRecDepth 1000000 in
theorem zchk_law_7 : (((zcode 283).drop 280).take 40).all (zokb 283) = true := by decide +kernel
end
section
set_option maxRecDepth 1000000 in
theorem zchk_law_8 : (((zcode 283).drop 320).take 40).all (zokb 283) = true := by decide +kernel
set_option maxRecDepth 1000000 in
theorem zchk_law_9 : (((zcode 283).drop 360).take 40).all (zokb 283) = true := by decide +kernel
end
section
set_option maxRecDepth 1000000 in
theorem zchk_law_10 : (((zcode 283).drop 400).take 40).all (zokb 283) = true := by decide +kernel
set_option maxRecDepth 1000000 in
theorem zchk_law_11 : (((zcode 283).drop 440).take 40).all (zokb 283) = true := by decide +kernel
end
section
set_option maxRecDepth 1000000 in
theorem zchk_law_12 : (((zcode 283).drop 480).take 40).all (zokb 283) = true := by decide +kernel
set_option maxRecDepth 1000000 in
theorem zchk_law_13 : (((zcode 283).drop 520).take 40).all (zokb 283) = true := by decide +kernel
end
section
set_option maxRecDepth 1000000 in
theorem zchk_law_14 : (((zcode 283).drop 560).take 40).all (zokb 283) = true := by decide +kernel
set_option maxRecDepth 1000000 in
theorem zchk_law_15 : (((zcode 283).drop 600).take 40).all (zokb 283) = true := by decide +kernel
end
section
set_option maxRecDepth 1000000 in
theorem zchk_law_16 : (((zcode 283).drop 640).take 40).all (zokb 283) = true := by decide +kernel
set_option maxRecDepth 1000000 in
theorem zchk_law_17 : (((zcode 283).drop 680).take 40).all (zokb 283) = true := by decide +kernel
end
section
set_option maxRecDepth 1000000 in
theorem zchk_law_18 : (((zcode 283).drop 720).take 40).all (zokb 283) = true := by decide +kernel
set_option maxRecDepth 1000000 in
theorem zchk_law_19 : (((zcode 283).drop 760).take 40).all (zokb 283) = true := by decide +kernel
end
section
set_option maxRecDepth 1000000 in
theorem zchk_law_20 : (((zcode 283).drop 800).take 40).all (zokb 283) = true := by decide +kernel
set_option maxRecDepth 1000000 in
theorem zchk_law_21 : (((zcode 283).drop 840).take 40).all (zokb 283) = true := by decide +kernel
end
section
set_option maxRecDepth 1000000 in
theorem zchk_law_22 : (((zcode 283).drop 880).take 40).all (zokb 283) = true := by decide +kernel
set_option maxRecDepth 1000000 in
theorem zchk_law_23 : (((zcode 283).drop 920).take 40).all (zokb 283) = true := by decide +kernel
end
section
set_option maxRecDepth 1000000 in
theorem zchk_law_24 : (((zcode 283).drop 960).take 40).all (zokb 283) = true := by decide +kernel
set_option maxRecDepth 1000000 in
theorem zchk_law_25 : (((zcode 283).drop 1000).take 40).all (zokb 283) = true := by decide +kernel
end
section
set_option maxRecDepth 1000000 in
theorem zchk_law_26 : (((zcode 283).drop 1040).take 40).all (zokb 283) = true := by decide +kernel
set_option maxRecDepth 1000000 in
theorem zchk_law_27 : (((zcode 283).drop 1080).take 40).all (zokb 283) = true := by decide +kernel
end
section
set_option maxRecDepth 1000000 in
theorem zchk_law_28 : (((zcode 283).drop 1120).take 40).all (zokb 283) = true := by decide +kernel
set_option maxRecDepth 1000000 in
theorem zchk_law_29 : (((zcode 283).drop 1160).take 40).all (zokb 283) = true := by decide +kernel
end
section
/-! the fields' words, class by class, by their places -/
def zlay0 : List Nat := [400, 402, 404, 406]
def zlay1 : List Nat := [238, 240, 242, 244, 246]
def zlay2 : List Nat := [426, 428, 430, 432, 434, 436, 438, 440, 442]
def zlay3 : List Nat := [375, 377, 379, 381, 383]
def zlay4 : List Nat := [300, 302, 304, 306, 308, 310, 312, 314, 316, 318, 320]
def zlay5 : List Nat := [188, 190, 192, 194, 196, 198, 200, 202, 204, 206, 208, 210, 212]
def zlay6 : List Nat := [344, 346, 348, 350, 352, 354, 356]
def zlay7 : List Nat := [460, 462, 464, 466, 468, 470, 472, 474, 476, 478, 480, 482, 484, 486]
def zlay8 : List Nat := [1179, 1181, 1183, 1185, 1187, 1189, 1191, 1193, 1195, 1197, 1199, 1201, 1203, 1205, 1207, 1209, 1211, 1213, 1215, 1217, 1219, 1221, 1223, 1225, 1227, 1229, 1231, 1233, 1235, 1237, 1239, 1241, 1243, 1245, 1247, 1249, 1251, 1253, 1255, 1257, 1259, 1261, 1263, 1265, 1267, 1269, 1271, 1273, 1275, 1277, 1279, 1281, 1283, 1285, 1287, 1289, 1291, 1293, 1295, 1297, 1299, 1301, 1303, 1305, 1307, 1309, 1311, 1313, 1315, 1317, 1319, 1321, 1323, 1325, 1327, 1329, 1331, 1333]
def zlay (c : Nat) : List Nat := match c with
  | 0 => zlay0
  | 1 => zlay1
  | 2 => zlay2
  | 3 => zlay3
  | 4 => zlay4
  | 5 => zlay5
  | 6 => zlay6
  | 7 => zlay7
  | _ => zlay8
set_option maxRecDepth 100000 in
theorem zlay_b0 : (List.range 4).all (fun k => zwd ((zlay 0).getD k 0) (u_lay (zcls 0).1 (zcls 0).2.1 k)) = true := by decide +kernel
set_option maxRecDepth 100000 in
theorem zlay_b1 : (List.range 5).all (fun k => zwd ((zlay 1).getD k 0) (u_lay (zcls 1).1 (zcls 1).2.1 k)) = true := by decide +kernel
set_option maxRecDepth 100000 in
theorem zlay_b2 : (List.range 9).all (fun k => zwd ((zlay 2).getD k 0) (u_lay (zcls 2).1 (zcls 2).2.1 k)) = true := by decide +kernel
set_option maxRecDepth 100000 in
theorem zlay_b3 : (List.range 5).all (fun k => zwd ((zlay 3).getD k 0) (u_lay (zcls 3).1 (zcls 3).2.1 k)) = true := by decide +kernel
set_option maxRecDepth 100000 in
theorem zlay_b4 : (List.range 11).all (fun k => zwd ((zlay 4).getD k 0) (u_lay (zcls 4).1 (zcls 4).2.1 k)) = true := by decide +kernel
set_option maxRecDepth 100000 in
theorem zlay_b5 : (List.range 13).all (fun k => zwd ((zlay 5).getD k 0) (u_lay (zcls 5).1 (zcls 5).2.1 k)) = true := by decide +kernel
set_option maxRecDepth 100000 in
theorem zlay_b6 : (List.range 7).all (fun k => zwd ((zlay 6).getD k 0) (u_lay (zcls 6).1 (zcls 6).2.1 k)) = true := by decide +kernel
set_option maxRecDepth 100000 in
theorem zlay_b7 : (List.range 14).all (fun k => zwd ((zlay 7).getD k 0) (u_lay (zcls 7).1 (zcls 7).2.1 k)) = true := by decide +kernel
set_option maxRecDepth 100000 in
theorem zlay_b8 : (List.range 78).all (fun k => zwd ((zlay 8).getD k 0) (u_lay (zcls 8).1 (zcls 8).2.1 k)) = true := by decide +kernel
/-- words of a class: can be made, is initialised -/
def zcw : List (Nat × Nat) := [(387, 109), (224, 106), (410, 110), (360, 108), (218, 105), (126, 100), (324, 107), (118, 99), (1096, 111)]
set_option maxRecDepth 100000 in
theorem zcw_b : (List.range 9).all (fun c => zwd (zcw.getD c (0, 0)).1 (.instantiable (zcls c).1 (zcls c).2.2) && zwd (zcw.getD c (0, 0)).2 (.initialized (zcls c).1)) = true := by decide +kernel
def ziw : List Nat := [109, 106, 110, 108, 105, 100, 107, 99, 111, 98, 115, 112, 114, 101, 102, 103]
set_option maxRecDepth 100000 in
theorem ziw_b : (List.range 16).all (fun c => zwd (ziw.getD c 0) (.initialized (zcn.getD c ""))) = true := by decide +kernel
set_option maxRecDepth 100000 in
theorem zac_b : zwd 249 (.arrayClass .int) && zwd 215 (.arrayClass .byte) && zwd 445 (.arrayClass .boolean) && zwd 216 (.arrayClass .long) = true := by decide +kernel
set_option maxRecDepth 100000 in
theorem zsy_b : zwd 771 (.native arraycopyName) && zwd 770 (.static arraycopyName) && zwd 116 (.initialized "java/lang/System") && zwd 123 (.instanceMethod Lib.objectInit) && zwd 124 (.code Lib.objectInit ⟨#[0xb1]⟩ 1 none) = true := by decide +kernel
def zgf2 : Nat := 140
def zgf3 : Nat := 148
set_option maxRecDepth 100000 in
theorem zst_b : zwd zgf2 (.fieldLink RJ0 38 RJ0 "COMPACT_STRINGS" "Z") && zwd zgf3 (.fieldLink RJ0 1053 RJ3 "SIOOBE_FORMATTER" "Ljava/util/function/BiFunction;") = true := by decide +kernel
end
section
/-! each method's code word, by its place -/
set_option maxRecDepth 100000 in
theorem zpf_b : (List.range 283).all (fun a => plainFor (zy a) && decide ((zy a).cls = zow a) && decide (znl a ≤ 21)) = true := by decide +kernel
set_option maxRecDepth 100000 in
theorem zcd_0 : lw_tbl[(zmr.getD 0 (0, 0, 0, 0, 0)).2.1]? = some (.code (zy 0) (zbs 0) (znl 0) (zrt 0)) := rfl
set_option maxRecDepth 100000 in
theorem zcd_1 : lw_tbl[(zmr.getD 1 (0, 0, 0, 0, 0)).2.1]? = some (.code (zy 1) (zbs 1) (znl 1) (zrt 1)) := rfl
set_option maxRecDepth 100000 in
theorem zcd_2 : lw_tbl[(zmr.getD 2 (0, 0, 0, 0, 0)).2.1]? = some (.code (zy 2) (zbs 2) (znl 2) (zrt 2)) := rfl
set_option maxRecDepth 100000 in
theorem zcd_3 : lw_tbl[(zmr.getD 3 (0, 0, 0, 0, 0)).2.1]? = some (.code (zy 3) (zbs 3) (znl 3) (zrt 3)) := rfl
set_option maxRecDepth 100000 in
theorem zcd_4 : lw_tbl[(zmr.getD 4 (0, 0, 0, 0, 0)).2.1]? = some (.code (zy 4) (zbs 4) (znl 4) (zrt 4)) := rfl
set_option maxRecDepth 100000 in
theorem zcd_5 : lw_tbl[(zmr.getD 5 (0, 0, 0, 0, 0)).2.1]? = some (.code (zy 5) (zbs 5) (znl 5) (zrt 5)) := rfl
set_option maxRecDepth 100000 in
theorem zcd_6 : lw_tbl[(zmr.getD 6 (0, 0, 0, 0, 0)).2.1]? = some (.code (zy 6) (zbs 6) (znl 6) (zrt 6)) := rfl
set_option maxRecDepth 100000 in
theorem zcd_7 : lw_tbl[(zmr.getD 7 (0, 0, 0, 0, 0)).2.1]? = some (.code (zy 7) (zbs 7) (znl 7) (zrt 7)) := rfl
set_option maxRecDepth 100000 in
theorem zcd_8 : lw_tbl[(zmr.getD 8 (0, 0, 0, 0, 0)).2.1]? = some (.code (zy 8) (zbs 8) (znl 8) (zrt 8)) := rfl
set_option maxRecDepth 100000 in
theorem zcd_9 : lw_tbl[(zmr.getD 9 (0, 0, 0, 0, 0)).2.1]? = some (.code (zy 9) (zbs 9) (znl 9) (zrt 9)) := rfl
set_option maxRecDepth 100000 in
theorem zcd_10 : lw_tbl[(zmr.getD 10 (0, 0, 0, 0, 0)).2.1]? = some (.code (zy 10) (zbs 10) (znl 10) (zrt 10)) := rfl
set_option maxRecDepth 100000 in
theorem zcd_11 : lw_tbl[(zmr.getD 11 (0, 0, 0, 0, 0)).2.1]? = some (.code (zy 11) (zbs 11) (znl 11) (zrt 11)) := rfl
set_option maxRecDepth 100000 in
theorem zcd_12 : lw_tbl[(zmr.getD 12 (0, 0, 0, 0, 0)).2.1]? = some (.code (zy 12) (zbs 12) (znl 12) (zrt 12)) := rfl
set_option maxRecDepth 100000 in
theorem zcd_13 : lw_tbl[(zmr.getD 13 (0, 0, 0, 0, 0)).2.1]? = some (.code (zy 13) (zbs 13) (znl 13) (zrt 13)) := rfl
set_option maxRecDepth 100000 in
theorem zcd_14 : lw_tbl[(zmr.getD 14 (0, 0, 0, 0, 0)).2.1]? = some (.code (zy 14) (zbs 14) (znl 14) (zrt 14)) := rfl
set_option maxRecDepth 100000 in
theorem zcd_15 : lw_tbl[(zmr.getD 15 (0, 0, 0, 0, 0)).2.1]? = some (.code (zy 15) (zbs 15) (znl 15) (zrt 15)) := rfl
set_option maxRecDepth 100000 in
theorem zcd_16 : lw_tbl[(zmr.getD 16 (0, 0, 0, 0, 0)).2.1]? = some (.code (zy 16) (zbs 16) (znl 16) (zrt 16)) := rfl
set_option maxRecDepth 100000 in
theorem zcd_17 : lw_tbl[(zmr.getD 17 (0, 0, 0, 0, 0)).2.1]? = some (.code (zy 17) (zbs 17) (znl 17) (zrt 17)) := rfl
set_option maxRecDepth 100000 in
theorem zcd_18 : lw_tbl[(zmr.getD 18 (0, 0, 0, 0, 0)).2.1]? = some (.code (zy 18) (zbs 18) (znl 18) (zrt 18)) := rfl
set_option maxRecDepth 100000 in
theorem zcd_19 : lw_tbl[(zmr.getD 19 (0, 0, 0, 0, 0)).2.1]? = some (.code (zy 19) (zbs 19) (znl 19) (zrt 19)) := rfl
set_option maxRecDepth 100000 in
theorem zcd_20 : lw_tbl[(zmr.getD 20 (0, 0, 0, 0, 0)).2.1]? = some (.code (zy 20) (zbs 20) (znl 20) (zrt 20)) := rfl
set_option maxRecDepth 100000 in
theorem zcd_21 : lw_tbl[(zmr.getD 21 (0, 0, 0, 0, 0)).2.1]? = some (.code (zy 21) (zbs 21) (znl 21) (zrt 21)) := rfl
set_option maxRecDepth 100000 in
theorem zcd_22 : lw_tbl[(zmr.getD 22 (0, 0, 0, 0, 0)).2.1]? = some (.code (zy 22) (zbs 22) (znl 22) (zrt 22)) := rfl
set_option maxRecDepth 100000 in
theorem zcd_23 : lw_tbl[(zmr.getD 23 (0, 0, 0, 0, 0)).2.1]? = some (.code (zy 23) (zbs 23) (znl 23) (zrt 23)) := rfl
set_option maxRecDepth 100000 in
theorem zcd_24 : lw_tbl[(zmr.getD 24 (0, 0, 0, 0, 0)).2.1]? = some (.code (zy 24) (zbs 24) (znl 24) (zrt 24)) := rfl
set_option maxRecDepth 100000 in
theorem zcd_25 : lw_tbl[(zmr.getD 25 (0, 0, 0, 0, 0)).2.1]? = some (.code (zy 25) (zbs 25) (znl 25) (zrt 25)) := rfl
set_option maxRecDepth 100000 in
theorem zcd_26 : lw_tbl[(zmr.getD 26 (0, 0, 0, 0, 0)).2.1]? = some (.code (zy 26) (zbs 26) (znl 26) (zrt 26)) := rfl
set_option maxRecDepth 100000 in
theorem zcd_27 : lw_tbl[(zmr.getD 27 (0, 0, 0, 0, 0)).2.1]? = some (.code (zy 27) (zbs 27) (znl 27) (zrt 27)) := rfl
set_option maxRecDepth 100000 in
theorem zcd_28 : lw_tbl[(zmr.getD 28 (0, 0, 0, 0, 0)).2.1]? = some (.code (zy 28) (zbs 28) (znl 28) (zrt 28)) := rfl
set_option maxRecDepth 100000 in
theorem zcd_29 : lw_tbl[(zmr.getD 29 (0, 0, 0, 0, 0)).2.1]? = some (.code (zy 29) (zbs 29) (znl 29) (zrt 29)) := rfl
set_option maxRecDepth 100000 in
theorem zcd_30 : lw_tbl[(zmr.getD 30 (0, 0, 0, 0, 0)).2.1]? = some (.code (zy 30) (zbs 30) (znl 30) (zrt 30)) := rfl
set_option maxRecDepth 100000 in
theorem zcd_31 : lw_tbl[(zmr.getD 31 (0, 0, 0, 0, 0)).2.1]? = some (.code (zy 31) (zbs 31) (znl 31) (zrt 31)) := rfl
set_option maxRecDepth 100000 in
theorem zcd_32 : lw_tbl[(zmr.getD 32 (0, 0, 0, 0, 0)).2.1]? = some (.code (zy 32) (zbs 32) (znl 32) (zrt 32)) := rfl
set_option maxRecDepth 100000 in
theorem zcd_33 : lw_tbl[(zmr.getD 33 (0, 0, 0, 0, 0)).2.1]? = some (.code (zy 33) (zbs 33) (znl 33) (zrt 33)) := rfl
set_option maxRecDepth 100000 in
theorem zcd_34 : lw_tbl[(zmr.getD 34 (0, 0, 0, 0, 0)).2.1]? = some (.code (zy 34) (zbs 34) (znl 34) (zrt 34)) := rfl
set_option maxRecDepth 100000 in
theorem zcd_35 : lw_tbl[(zmr.getD 35 (0, 0, 0, 0, 0)).2.1]? = some (.code (zy 35) (zbs 35) (znl 35) (zrt 35)) := rfl
set_option maxRecDepth 100000 in
theorem zcd_36 : lw_tbl[(zmr.getD 36 (0, 0, 0, 0, 0)).2.1]? = some (.code (zy 36) (zbs 36) (znl 36) (zrt 36)) := rfl
set_option maxRecDepth 100000 in
theorem zcd_37 : lw_tbl[(zmr.getD 37 (0, 0, 0, 0, 0)).2.1]? = some (.code (zy 37) (zbs 37) (znl 37) (zrt 37)) := rfl
set_option maxRecDepth 100000 in
theorem zcd_38 : lw_tbl[(zmr.getD 38 (0, 0, 0, 0, 0)).2.1]? = some (.code (zy 38) (zbs 38) (znl 38) (zrt 38)) := rfl
set_option maxRecDepth 100000 in
theorem zcd_39 : lw_tbl[(zmr.getD 39 (0, 0, 0, 0, 0)).2.1]? = some (.code (zy 39) (zbs 39) (znl 39) (zrt 39)) := rfl
set_option maxRecDepth 100000 in
theorem zcd_40 : lw_tbl[(zmr.getD 40 (0, 0, 0, 0, 0)).2.1]? = some (.code (zy 40) (zbs 40) (znl 40) (zrt 40)) := rfl
set_option maxRecDepth 100000 in
theorem zcd_41 : lw_tbl[(zmr.getD 41 (0, 0, 0, 0, 0)).2.1]? = some (.code (zy 41) (zbs 41) (znl 41) (zrt 41)) := rfl
set_option maxRecDepth 100000 in
theorem zcd_42 : lw_tbl[(zmr.getD 42 (0, 0, 0, 0, 0)).2.1]? = some (.code (zy 42) (zbs 42) (znl 42) (zrt 42)) := rfl
set_option maxRecDepth 100000 in
theorem zcd_43 : lw_tbl[(zmr.getD 43 (0, 0, 0, 0, 0)).2.1]? = some (.code (zy 43) (zbs 43) (znl 43) (zrt 43)) := rfl
set_option maxRecDepth 100000 in
theorem zcd_44 : lw_tbl[(zmr.getD 44 (0, 0, 0, 0, 0)).2.1]? = some (.code (zy 44) (zbs 44) (znl 44) (zrt 44)) := rfl
set_option maxRecDepth 100000 in
theorem zcd_45 : lw_tbl[(zmr.getD 45 (0, 0, 0, 0, 0)).2.1]? = some (.code (zy 45) (zbs 45) (znl 45) (zrt 45)) := rfl
set_option maxRecDepth 100000 in
theorem zcd_46 : lw_tbl[(zmr.getD 46 (0, 0, 0, 0, 0)).2.1]? = some (.code (zy 46) (zbs 46) (znl 46) (zrt 46)) := rfl
set_option maxRecDepth 100000 in
theorem zcd_47 : lw_tbl[(zmr.getD 47 (0, 0, 0, 0, 0)).2.1]? = some (.code (zy 47) (zbs 47) (znl 47) (zrt 47)) := rfl
set_option maxRecDepth 100000 in
theorem zcd_48 : lw_tbl[(zmr.getD 48 (0, 0, 0, 0, 0)).2.1]? = some (.code (zy 48) (zbs 48) (znl 48) (zrt 48)) := rfl
set_option maxRecDepth 100000 in
theorem zcd_49 : lw_tbl[(zmr.getD 49 (0, 0, 0, 0, 0)).2.1]? = some (.code (zy 49) (zbs 49) (znl 49) (zrt 49)) := rfl
set_option maxRecDepth 100000 in
theorem zcd_50 : lw_tbl[(zmr.getD 50 (0, 0, 0, 0, 0)).2.1]? = some (.code (zy 50) (zbs 50) (znl 50) (zrt 50)) := rfl
set_option maxRecDepth 100000 in
theorem zcd_51 : lw_tbl[(zmr.getD 51 (0, 0, 0, 0, 0)).2.1]? = some (.code (zy 51) (zbs 51) (znl 51) (zrt 51)) := rfl
set_option maxRecDepth 100000 in
theorem zcd_52 : lw_tbl[(zmr.getD 52 (0, 0, 0, 0, 0)).2.1]? = some (.code (zy 52) (zbs 52) (znl 52) (zrt 52)) := rfl
set_option maxRecDepth 100000 in
theorem zcd_53 : lw_tbl[(zmr.getD 53 (0, 0, 0, 0, 0)).2.1]? = some (.code (zy 53) (zbs 53) (znl 53) (zrt 53)) := rfl
set_option maxRecDepth 100000 in
theorem zcd_54 : lw_tbl[(zmr.getD 54 (0, 0, 0, 0, 0)).2.1]? = some (.code (zy 54) (zbs 54) (znl 54) (zrt 54)) := rfl
set_option maxRecDepth 100000 in
theorem zcd_55 : lw_tbl[(zmr.getD 55 (0, 0, 0, 0, 0)).2.1]? = some (.code (zy 55) (zbs 55) (znl 55) (zrt 55)) := rfl
set_option maxRecDepth 100000 in
theorem zcd_56 : lw_tbl[(zmr.getD 56 (0, 0, 0, 0, 0)).2.1]? = some (.code (zy 56) (zbs 56) (znl 56) (zrt 56)) := rfl
set_option maxRecDepth 100000 in
theorem zcd_57 : lw_tbl[(zmr.getD 57 (0, 0, 0, 0, 0)).2.1]? = some (.code (zy 57) (zbs 57) (znl 57) (zrt 57)) := rfl
set_option maxRecDepth 100000 in
theorem zcd_58 : lw_tbl[(zmr.getD 58 (0, 0, 0, 0, 0)).2.1]? = some (.code (zy 58) (zbs 58) (znl 58) (zrt 58)) := rfl
set_option maxRecDepth 100000 in
theorem zcd_59 : lw_tbl[(zmr.getD 59 (0, 0, 0, 0, 0)).2.1]? = some (.code (zy 59) (zbs 59) (znl 59) (zrt 59)) := rfl
set_option maxRecDepth 100000 in
theorem zcd_60 : lw_tbl[(zmr.getD 60 (0, 0, 0, 0, 0)).2.1]? = some (.code (zy 60) (zbs 60) (znl 60) (zrt 60)) := rfl
set_option maxRecDepth 100000 in
theorem zcd_61 : lw_tbl[(zmr.getD 61 (0, 0, 0, 0, 0)).2.1]? = some (.code (zy 61) (zbs 61) (znl 61) (zrt 61)) := rfl
set_option maxRecDepth 100000 in
theorem zcd_62 : lw_tbl[(zmr.getD 62 (0, 0, 0, 0, 0)).2.1]? = some (.code (zy 62) (zbs 62) (znl 62) (zrt 62)) := rfl
set_option maxRecDepth 100000 in
theorem zcd_63 : lw_tbl[(zmr.getD 63 (0, 0, 0, 0, 0)).2.1]? = some (.code (zy 63) (zbs 63) (znl 63) (zrt 63)) := rfl
set_option maxRecDepth 100000 in
theorem zcd_64 : lw_tbl[(zmr.getD 64 (0, 0, 0, 0, 0)).2.1]? = some (.code (zy 64) (zbs 64) (znl 64) (zrt 64)) := rfl
set_option maxRecDepth 100000 in
theorem zcd_65 : lw_tbl[(zmr.getD 65 (0, 0, 0, 0, 0)).2.1]? = some (.code (zy 65) (zbs 65) (znl 65) (zrt 65)) := rfl
set_option maxRecDepth 100000 in
theorem zcd_66 : lw_tbl[(zmr.getD 66 (0, 0, 0, 0, 0)).2.1]? = some (.code (zy 66) (zbs 66) (znl 66) (zrt 66)) := rfl
set_option maxRecDepth 100000 in
theorem zcd_67 : lw_tbl[(zmr.getD 67 (0, 0, 0, 0, 0)).2.1]? = some (.code (zy 67) (zbs 67) (znl 67) (zrt 67)) := rfl
set_option maxRecDepth 100000 in
theorem zcd_68 : lw_tbl[(zmr.getD 68 (0, 0, 0, 0, 0)).2.1]? = some (.code (zy 68) (zbs 68) (znl 68) (zrt 68)) := rfl
set_option maxRecDepth 100000 in
theorem zcd_69 : lw_tbl[(zmr.getD 69 (0, 0, 0, 0, 0)).2.1]? = some (.code (zy 69) (zbs 69) (znl 69) (zrt 69)) := rfl
set_option maxRecDepth 100000 in
theorem zcd_70 : lw_tbl[(zmr.getD 70 (0, 0, 0, 0, 0)).2.1]? = some (.code (zy 70) (zbs 70) (znl 70) (zrt 70)) := rfl
set_option maxRecDepth 100000 in
theorem zcd_71 : lw_tbl[(zmr.getD 71 (0, 0, 0, 0, 0)).2.1]? = some (.code (zy 71) (zbs 71) (znl 71) (zrt 71)) := rfl
set_option maxRecDepth 100000 in
theorem zcd_72 : lw_tbl[(zmr.getD 72 (0, 0, 0, 0, 0)).2.1]? = some (.code (zy 72) (zbs 72) (znl 72) (zrt 72)) := rfl
set_option maxRecDepth 100000 in
theorem zcd_73 : lw_tbl[(zmr.getD 73 (0, 0, 0, 0, 0)).2.1]? = some (.code (zy 73) (zbs 73) (znl 73) (zrt 73)) := rfl
set_option maxRecDepth 100000 in
theorem zcd_74 : lw_tbl[(zmr.getD 74 (0, 0, 0, 0, 0)).2.1]? = some (.code (zy 74) (zbs 74) (znl 74) (zrt 74)) := rfl
set_option maxRecDepth 100000 in
theorem zcd_75 : lw_tbl[(zmr.getD 75 (0, 0, 0, 0, 0)).2.1]? = some (.code (zy 75) (zbs 75) (znl 75) (zrt 75)) := rfl
set_option maxRecDepth 100000 in
theorem zcd_76 : lw_tbl[(zmr.getD 76 (0, 0, 0, 0, 0)).2.1]? = some (.code (zy 76) (zbs 76) (znl 76) (zrt 76)) := rfl
set_option maxRecDepth 100000 in
theorem zcd_77 : lw_tbl[(zmr.getD 77 (0, 0, 0, 0, 0)).2.1]? = some (.code (zy 77) (zbs 77) (znl 77) (zrt 77)) := rfl
set_option maxRecDepth 100000 in
theorem zcd_78 : lw_tbl[(zmr.getD 78 (0, 0, 0, 0, 0)).2.1]? = some (.code (zy 78) (zbs 78) (znl 78) (zrt 78)) := rfl
set_option maxRecDepth 100000 in
theorem zcd_79 : lw_tbl[(zmr.getD 79 (0, 0, 0, 0, 0)).2.1]? = some (.code (zy 79) (zbs 79) (znl 79) (zrt 79)) := rfl
set_option maxRecDepth 100000 in
theorem zcd_80 : lw_tbl[(zmr.getD 80 (0, 0, 0, 0, 0)).2.1]? = some (.code (zy 80) (zbs 80) (znl 80) (zrt 80)) := rfl
set_option maxRecDepth 100000 in
theorem zcd_81 : lw_tbl[(zmr.getD 81 (0, 0, 0, 0, 0)).2.1]? = some (.code (zy 81) (zbs 81) (znl 81) (zrt 81)) := rfl
set_option maxRecDepth 100000 in
theorem zcd_82 : lw_tbl[(zmr.getD 82 (0, 0, 0, 0, 0)).2.1]? = some (.code (zy 82) (zbs 82) (znl 82) (zrt 82)) := rfl
set_option maxRecDepth 100000 in
theorem zcd_83 : lw_tbl[(zmr.getD 83 (0, 0, 0, 0, 0)).2.1]? = some (.code (zy 83) (zbs 83) (znl 83) (zrt 83)) := rfl
set_option maxRecDepth 100000 in
theorem zcd_84 : lw_tbl[(zmr.getD 84 (0, 0, 0, 0, 0)).2.1]? = some (.code (zy 84) (zbs 84) (znl 84) (zrt 84)) := rfl
set_option maxRecDepth 100000 in
theorem zcd_85 : lw_tbl[(zmr.getD 85 (0, 0, 0, 0, 0)).2.1]? = some (.code (zy 85) (zbs 85) (znl 85) (zrt 85)) := rfl
set_option maxRecDepth 100000 in
theorem zcd_86 : lw_tbl[(zmr.getD 86 (0, 0, 0, 0, 0)).2.1]? = some (.code (zy 86) (zbs 86) (znl 86) (zrt 86)) := rfl
set_option maxRecDepth 100000 in
theorem zcd_87 : lw_tbl[(zmr.getD 87 (0, 0, 0, 0, 0)).2.1]? = some (.code (zy 87) (zbs 87) (znl 87) (zrt 87)) := rfl
set_option maxRecDepth 100000 in
theorem zcd_88 : lw_tbl[(zmr.getD 88 (0, 0, 0, 0, 0)).2.1]? = some (.code (zy 88) (zbs 88) (znl 88) (zrt 88)) := rfl
set_option maxRecDepth 100000 in
theorem zcd_89 : lw_tbl[(zmr.getD 89 (0, 0, 0, 0, 0)).2.1]? = some (.code (zy 89) (zbs 89) (znl 89) (zrt 89)) := rfl
set_option maxRecDepth 100000 in
theorem zcd_90 : lw_tbl[(zmr.getD 90 (0, 0, 0, 0, 0)).2.1]? = some (.code (zy 90) (zbs 90) (znl 90) (zrt 90)) := rfl
set_option maxRecDepth 100000 in
theorem zcd_91 : lw_tbl[(zmr.getD 91 (0, 0, 0, 0, 0)).2.1]? = some (.code (zy 91) (zbs 91) (znl 91) (zrt 91)) := rfl
set_option maxRecDepth 100000 in
theorem zcd_92 : lw_tbl[(zmr.getD 92 (0, 0, 0, 0, 0)).2.1]? = some (.code (zy 92) (zbs 92) (znl 92) (zrt 92)) := rfl
set_option maxRecDepth 100000 in
theorem zcd_93 : lw_tbl[(zmr.getD 93 (0, 0, 0, 0, 0)).2.1]? = some (.code (zy 93) (zbs 93) (znl 93) (zrt 93)) := rfl
set_option maxRecDepth 100000 in
theorem zcd_94 : lw_tbl[(zmr.getD 94 (0, 0, 0, 0, 0)).2.1]? = some (.code (zy 94) (zbs 94) (znl 94) (zrt 94)) := rfl
set_option maxRecDepth 100000 in
theorem zcd_95 : lw_tbl[(zmr.getD 95 (0, 0, 0, 0, 0)).2.1]? = some (.code (zy 95) (zbs 95) (znl 95) (zrt 95)) := rfl
set_option maxRecDepth 100000 in
theorem zcd_96 : lw_tbl[(zmr.getD 96 (0, 0, 0, 0, 0)).2.1]? = some (.code (zy 96) (zbs 96) (znl 96) (zrt 96)) := rfl
set_option maxRecDepth 100000 in
theorem zcd_97 : lw_tbl[(zmr.getD 97 (0, 0, 0, 0, 0)).2.1]? = some (.code (zy 97) (zbs 97) (znl 97) (zrt 97)) := rfl
set_option maxRecDepth 100000 in
theorem zcd_98 : lw_tbl[(zmr.getD 98 (0, 0, 0, 0, 0)).2.1]? = some (.code (zy 98) (zbs 98) (znl 98) (zrt 98)) := rfl
set_option maxRecDepth 100000 in
theorem zcd_99 : lw_tbl[(zmr.getD 99 (0, 0, 0, 0, 0)).2.1]? = some (.code (zy 99) (zbs 99) (znl 99) (zrt 99)) := rfl
set_option maxRecDepth 100000 in
theorem zcd_100 : lw_tbl[(zmr.getD 100 (0, 0, 0, 0, 0)).2.1]? = some (.code (zy 100) (zbs 100) (znl 100) (zrt 100)) := rfl
set_option maxRecDepth 100000 in
theorem zcd_101 : lw_tbl[(zmr.getD 101 (0, 0, 0, 0, 0)).2.1]? = some (.code (zy 101) (zbs 101) (znl 101) (zrt 101)) := rfl
set_option maxRecDepth 100000 in
theorem zcd_102 : lw_tbl[(zmr.getD 102 (0, 0, 0, 0, 0)).2.1]? = some (.code (zy 102) (zbs 102) (znl 102) (zrt 102)) := rfl
set_option maxRecDepth 100000 in
theorem zcd_103 : lw_tbl[(zmr.getD 103 (0, 0, 0, 0, 0)).2.1]? = some (.code (zy 103) (zbs 103) (znl 103) (zrt 103)) := rfl
set_option maxRecDepth 100000 in
theorem zcd_104 : lw_tbl[(zmr.getD 104 (0, 0, 0, 0, 0)).2.1]? = some (.code (zy 104) (zbs 104) (znl 104) (zrt 104)) := rfl
set_option maxRecDepth 100000 in
theorem zcd_105 : lw_tbl[(zmr.getD 105 (0, 0, 0, 0, 0)).2.1]? = some (.code (zy 105) (zbs 105) (znl 105) (zrt 105)) := rfl
set_option maxRecDepth 100000 in
theorem zcd_106 : lw_tbl[(zmr.getD 106 (0, 0, 0, 0, 0)).2.1]? = some (.code (zy 106) (zbs 106) (znl 106) (zrt 106)) := rfl
set_option maxRecDepth 100000 in
theorem zcd_107 : lw_tbl[(zmr.getD 107 (0, 0, 0, 0, 0)).2.1]? = some (.code (zy 107) (zbs 107) (znl 107) (zrt 107)) := rfl
set_option maxRecDepth 100000 in
theorem zcd_108 : lw_tbl[(zmr.getD 108 (0, 0, 0, 0, 0)).2.1]? = some (.code (zy 108) (zbs 108) (znl 108) (zrt 108)) := rfl
set_option maxRecDepth 100000 in
theorem zcd_109 : lw_tbl[(zmr.getD 109 (0, 0, 0, 0, 0)).2.1]? = some (.code (zy 109) (zbs 109) (znl 109) (zrt 109)) := rfl
set_option maxRecDepth 100000 in
theorem zcd_110 : lw_tbl[(zmr.getD 110 (0, 0, 0, 0, 0)).2.1]? = some (.code (zy 110) (zbs 110) (znl 110) (zrt 110)) := rfl
set_option maxRecDepth 100000 in
theorem zcd_111 : lw_tbl[(zmr.getD 111 (0, 0, 0, 0, 0)).2.1]? = some (.code (zy 111) (zbs 111) (znl 111) (zrt 111)) := rfl
set_option maxRecDepth 100000 in
theorem zcd_112 : lw_tbl[(zmr.getD 112 (0, 0, 0, 0, 0)).2.1]? = some (.code (zy 112) (zbs 112) (znl 112) (zrt 112)) := rfl
set_option maxRecDepth 100000 in
theorem zcd_113 : lw_tbl[(zmr.getD 113 (0, 0, 0, 0, 0)).2.1]? = some (.code (zy 113) (zbs 113) (znl 113) (zrt 113)) := rfl
set_option maxRecDepth 100000 in
theorem zcd_114 : lw_tbl[(zmr.getD 114 (0, 0, 0, 0, 0)).2.1]? = some (.code (zy 114) (zbs 114) (znl 114) (zrt 114)) := rfl
set_option maxRecDepth 100000 in
theorem zcd_115 : lw_tbl[(zmr.getD 115 (0, 0, 0, 0, 0)).2.1]? = some (.code (zy 115) (zbs 115) (znl 115) (zrt 115)) := rfl
set_option maxRecDepth 100000 in
theorem zcd_116 : lw_tbl[(zmr.getD 116 (0, 0, 0, 0, 0)).2.1]? = some (.code (zy 116) (zbs 116) (znl 116) (zrt 116)) := rfl
set_option maxRecDepth 100000 in
theorem zcd_117 : lw_tbl[(zmr.getD 117 (0, 0, 0, 0, 0)).2.1]? = some (.code (zy 117) (zbs 117) (znl 117) (zrt 117)) := rfl
set_option maxRecDepth 100000 in
theorem zcd_118 : lw_tbl[(zmr.getD 118 (0, 0, 0, 0, 0)).2.1]? = some (.code (zy 118) (zbs 118) (znl 118) (zrt 118)) := rfl
set_option maxRecDepth 100000 in
theorem zcd_119 : lw_tbl[(zmr.getD 119 (0, 0, 0, 0, 0)).2.1]? = some (.code (zy 119) (zbs 119) (znl 119) (zrt 119)) := rfl
set_option maxRecDepth 100000 in
theorem zcd_120 : lw_tbl[(zmr.getD 120 (0, 0, 0, 0, 0)).2.1]? = some (.code (zy 120) (zbs 120) (znl 120) (zrt 120)) := rfl
set_option maxRecDepth 100000 in
theorem zcd_121 : lw_tbl[(zmr.getD 121 (0, 0, 0, 0, 0)).2.1]? = some (.code (zy 121) (zbs 121) (znl 121) (zrt 121)) := rfl
set_option maxRecDepth 100000 in
theorem zcd_122 : lw_tbl[(zmr.getD 122 (0, 0, 0, 0, 0)).2.1]? = some (.code (zy 122) (zbs 122) (znl 122) (zrt 122)) := rfl
set_option maxRecDepth 100000 in
theorem zcd_123 : lw_tbl[(zmr.getD 123 (0, 0, 0, 0, 0)).2.1]? = some (.code (zy 123) (zbs 123) (znl 123) (zrt 123)) := rfl
set_option maxRecDepth 100000 in
theorem zcd_124 : lw_tbl[(zmr.getD 124 (0, 0, 0, 0, 0)).2.1]? = some (.code (zy 124) (zbs 124) (znl 124) (zrt 124)) := rfl
set_option maxRecDepth 100000 in
theorem zcd_125 : lw_tbl[(zmr.getD 125 (0, 0, 0, 0, 0)).2.1]? = some (.code (zy 125) (zbs 125) (znl 125) (zrt 125)) := rfl
set_option maxRecDepth 100000 in
theorem zcd_126 : lw_tbl[(zmr.getD 126 (0, 0, 0, 0, 0)).2.1]? = some (.code (zy 126) (zbs 126) (znl 126) (zrt 126)) := rfl
set_option maxRecDepth 100000 in
theorem zcd_127 : lw_tbl[(zmr.getD 127 (0, 0, 0, 0, 0)).2.1]? = some (.code (zy 127) (zbs 127) (znl 127) (zrt 127)) := rfl
set_option maxRecDepth 100000 in
theorem zcd_128 : lw_tbl[(zmr.getD 128 (0, 0, 0, 0, 0)).2.1]? = some (.code (zy 128) (zbs 128) (znl 128) (zrt 128)) := rfl
set_option maxRecDepth 100000 in
theorem zcd_129 : lw_tbl[(zmr.getD 129 (0, 0, 0, 0, 0)).2.1]? = some (.code (zy 129) (zbs 129) (znl 129) (zrt 129)) := rfl
set_option maxRecDepth 100000 in
theorem zcd_130 : lw_tbl[(zmr.getD 130 (0, 0, 0, 0, 0)).2.1]? = some (.code (zy 130) (zbs 130) (znl 130) (zrt 130)) := rfl
set_option maxRecDepth 100000 in
theorem zcd_131 : lw_tbl[(zmr.getD 131 (0, 0, 0, 0, 0)).2.1]? = some (.code (zy 131) (zbs 131) (znl 131) (zrt 131)) := rfl
set_option maxRecDepth 100000 in
theorem zcd_132 : lw_tbl[(zmr.getD 132 (0, 0, 0, 0, 0)).2.1]? = some (.code (zy 132) (zbs 132) (znl 132) (zrt 132)) := rfl
set_option maxRecDepth 100000 in
theorem zcd_133 : lw_tbl[(zmr.getD 133 (0, 0, 0, 0, 0)).2.1]? = some (.code (zy 133) (zbs 133) (znl 133) (zrt 133)) := rfl
set_option maxRecDepth 100000 in
theorem zcd_134 : lw_tbl[(zmr.getD 134 (0, 0, 0, 0, 0)).2.1]? = some (.code (zy 134) (zbs 134) (znl 134) (zrt 134)) := rfl
set_option maxRecDepth 100000 in
theorem zcd_135 : lw_tbl[(zmr.getD 135 (0, 0, 0, 0, 0)).2.1]? = some (.code (zy 135) (zbs 135) (znl 135) (zrt 135)) := rfl
set_option maxRecDepth 100000 in
theorem zcd_136 : lw_tbl[(zmr.getD 136 (0, 0, 0, 0, 0)).2.1]? = some (.code (zy 136) (zbs 136) (znl 136) (zrt 136)) := rfl
set_option maxRecDepth 100000 in
theorem zcd_137 : lw_tbl[(zmr.getD 137 (0, 0, 0, 0, 0)).2.1]? = some (.code (zy 137) (zbs 137) (znl 137) (zrt 137)) := rfl
set_option maxRecDepth 100000 in
theorem zcd_138 : lw_tbl[(zmr.getD 138 (0, 0, 0, 0, 0)).2.1]? = some (.code (zy 138) (zbs 138) (znl 138) (zrt 138)) := rfl
set_option maxRecDepth 100000 in
theorem zcd_139 : lw_tbl[(zmr.getD 139 (0, 0, 0, 0, 0)).2.1]? = some (.code (zy 139) (zbs 139) (znl 139) (zrt 139)) := rfl
set_option maxRecDepth 100000 in
theorem zcd_140 : lw_tbl[(zmr.getD 140 (0, 0, 0, 0, 0)).2.1]? = some (.code (zy 140) (zbs 140) (znl 140) (zrt 140)) := rfl
set_option maxRecDepth 100000 in
theorem zcd_141 : lw_tbl[(zmr.getD 141 (0, 0, 0, 0, 0)).2.1]? = some (.code (zy 141) (zbs 141) (znl 141) (zrt 141)) := rfl
set_option maxRecDepth 100000 in
theorem zcd_142 : lw_tbl[(zmr.getD 142 (0, 0, 0, 0, 0)).2.1]? = some (.code (zy 142) (zbs 142) (znl 142) (zrt 142)) := rfl
set_option maxRecDepth 100000 in
theorem zcd_143 : lw_tbl[(zmr.getD 143 (0, 0, 0, 0, 0)).2.1]? = some (.code (zy 143) (zbs 143) (znl 143) (zrt 143)) := rfl
set_option maxRecDepth 100000 in
theorem zcd_144 : lw_tbl[(zmr.getD 144 (0, 0, 0, 0, 0)).2.1]? = some (.code (zy 144) (zbs 144) (znl 144) (zrt 144)) := rfl
set_option maxRecDepth 100000 in
theorem zcd_145 : lw_tbl[(zmr.getD 145 (0, 0, 0, 0, 0)).2.1]? = some (.code (zy 145) (zbs 145) (znl 145) (zrt 145)) := rfl
set_option maxRecDepth 100000 in
theorem zcd_146 : lw_tbl[(zmr.getD 146 (0, 0, 0, 0, 0)).2.1]? = some (.code (zy 146) (zbs 146) (znl 146) (zrt 146)) := rfl
set_option maxRecDepth 100000 in
theorem zcd_147 : lw_tbl[(zmr.getD 147 (0, 0, 0, 0, 0)).2.1]? = some (.code (zy 147) (zbs 147) (znl 147) (zrt 147)) := rfl
set_option maxRecDepth 100000 in
theorem zcd_148 : lw_tbl[(zmr.getD 148 (0, 0, 0, 0, 0)).2.1]? = some (.code (zy 148) (zbs 148) (znl 148) (zrt 148)) := rfl
set_option maxRecDepth 100000 in
theorem zcd_149 : lw_tbl[(zmr.getD 149 (0, 0, 0, 0, 0)).2.1]? = some (.code (zy 149) (zbs 149) (znl 149) (zrt 149)) := rfl
set_option maxRecDepth 100000 in
theorem zcd_150 : lw_tbl[(zmr.getD 150 (0, 0, 0, 0, 0)).2.1]? = some (.code (zy 150) (zbs 150) (znl 150) (zrt 150)) := rfl
set_option maxRecDepth 100000 in
theorem zcd_151 : lw_tbl[(zmr.getD 151 (0, 0, 0, 0, 0)).2.1]? = some (.code (zy 151) (zbs 151) (znl 151) (zrt 151)) := rfl
set_option maxRecDepth 100000 in
theorem zcd_152 : lw_tbl[(zmr.getD 152 (0, 0, 0, 0, 0)).2.1]? = some (.code (zy 152) (zbs 152) (znl 152) (zrt 152)) := rfl
set_option maxRecDepth 100000 in
theorem zcd_153 : lw_tbl[(zmr.getD 153 (0, 0, 0, 0, 0)).2.1]? = some (.code (zy 153) (zbs 153) (znl 153) (zrt 153)) := rfl
set_option maxRecDepth 100000 in
theorem zcd_154 : lw_tbl[(zmr.getD 154 (0, 0, 0, 0, 0)).2.1]? = some (.code (zy 154) (zbs 154) (znl 154) (zrt 154)) := rfl
set_option maxRecDepth 100000 in
theorem zcd_155 : lw_tbl[(zmr.getD 155 (0, 0, 0, 0, 0)).2.1]? = some (.code (zy 155) (zbs 155) (znl 155) (zrt 155)) := rfl
set_option maxRecDepth 100000 in
theorem zcd_156 : lw_tbl[(zmr.getD 156 (0, 0, 0, 0, 0)).2.1]? = some (.code (zy 156) (zbs 156) (znl 156) (zrt 156)) := rfl
set_option maxRecDepth 100000 in
theorem zcd_157 : lw_tbl[(zmr.getD 157 (0, 0, 0, 0, 0)).2.1]? = some (.code (zy 157) (zbs 157) (znl 157) (zrt 157)) := rfl
set_option maxRecDepth 100000 in
theorem zcd_158 : lw_tbl[(zmr.getD 158 (0, 0, 0, 0, 0)).2.1]? = some (.code (zy 158) (zbs 158) (znl 158) (zrt 158)) := rfl
set_option maxRecDepth 100000 in
theorem zcd_159 : lw_tbl[(zmr.getD 159 (0, 0, 0, 0, 0)).2.1]? = some (.code (zy 159) (zbs 159) (znl 159) (zrt 159)) := rfl
set_option maxRecDepth 100000 in
theorem zcd_160 : lw_tbl[(zmr.getD 160 (0, 0, 0, 0, 0)).2.1]? = some (.code (zy 160) (zbs 160) (znl 160) (zrt 160)) := rfl
set_option maxRecDepth 100000 in
theorem zcd_161 : lw_tbl[(zmr.getD 161 (0, 0, 0, 0, 0)).2.1]? = some (.code (zy 161) (zbs 161) (znl 161) (zrt 161)) := rfl
set_option maxRecDepth 100000 in
theorem zcd_162 : lw_tbl[(zmr.getD 162 (0, 0, 0, 0, 0)).2.1]? = some (.code (zy 162) (zbs 162) (znl 162) (zrt 162)) := rfl
set_option maxRecDepth 100000 in
theorem zcd_163 : lw_tbl[(zmr.getD 163 (0, 0, 0, 0, 0)).2.1]? = some (.code (zy 163) (zbs 163) (znl 163) (zrt 163)) := rfl
set_option maxRecDepth 100000 in
theorem zcd_164 : lw_tbl[(zmr.getD 164 (0, 0, 0, 0, 0)).2.1]? = some (.code (zy 164) (zbs 164) (znl 164) (zrt 164)) := rfl
set_option maxRecDepth 100000 in
theorem zcd_165 : lw_tbl[(zmr.getD 165 (0, 0, 0, 0, 0)).2.1]? = some (.code (zy 165) (zbs 165) (znl 165) (zrt 165)) := rfl
set_option maxRecDepth 100000 in
theorem zcd_166 : lw_tbl[(zmr.getD 166 (0, 0, 0, 0, 0)).2.1]? = some (.code (zy 166) (zbs 166) (znl 166) (zrt 166)) := rfl
set_option maxRecDepth 100000 in
theorem zcd_167 : lw_tbl[(zmr.getD 167 (0, 0, 0, 0, 0)).2.1]? = some (.code (zy 167) (zbs 167) (znl 167) (zrt 167)) := rfl
set_option maxRecDepth 100000 in
theorem zcd_168 : lw_tbl[(zmr.getD 168 (0, 0, 0, 0, 0)).2.1]? = some (.code (zy 168) (zbs 168) (znl 168) (zrt 168)) := rfl
set_option maxRecDepth 100000 in
theorem zcd_169 : lw_tbl[(zmr.getD 169 (0, 0, 0, 0, 0)).2.1]? = some (.code (zy 169) (zbs 169) (znl 169) (zrt 169)) := rfl
set_option maxRecDepth 100000 in
theorem zcd_170 : lw_tbl[(zmr.getD 170 (0, 0, 0, 0, 0)).2.1]? = some (.code (zy 170) (zbs 170) (znl 170) (zrt 170)) := rfl
set_option maxRecDepth 100000 in
theorem zcd_171 : lw_tbl[(zmr.getD 171 (0, 0, 0, 0, 0)).2.1]? = some (.code (zy 171) (zbs 171) (znl 171) (zrt 171)) := rfl
set_option maxRecDepth 100000 in
theorem zcd_172 : lw_tbl[(zmr.getD 172 (0, 0, 0, 0, 0)).2.1]? = some (.code (zy 172) (zbs 172) (znl 172) (zrt 172)) := rfl
set_option maxRecDepth 100000 in
theorem zcd_173 : lw_tbl[(zmr.getD 173 (0, 0, 0, 0, 0)).2.1]? = some (.code (zy 173) (zbs 173) (znl 173) (zrt 173)) := rfl
set_option maxRecDepth 100000 in
theorem zcd_174 : lw_tbl[(zmr.getD 174 (0, 0, 0, 0, 0)).2.1]? = some (.code (zy 174) (zbs 174) (znl 174) (zrt 174)) := rfl
set_option maxRecDepth 100000 in
theorem zcd_175 : lw_tbl[(zmr.getD 175 (0, 0, 0, 0, 0)).2.1]? = some (.code (zy 175) (zbs 175) (znl 175) (zrt 175)) := rfl
set_option maxRecDepth 100000 in
theorem zcd_176 : lw_tbl[(zmr.getD 176 (0, 0, 0, 0, 0)).2.1]? = some (.code (zy 176) (zbs 176) (znl 176) (zrt 176)) := rfl
set_option maxRecDepth 100000 in
theorem zcd_177 : lw_tbl[(zmr.getD 177 (0, 0, 0, 0, 0)).2.1]? = some (.code (zy 177) (zbs 177) (znl 177) (zrt 177)) := rfl
set_option maxRecDepth 100000 in
theorem zcd_178 : lw_tbl[(zmr.getD 178 (0, 0, 0, 0, 0)).2.1]? = some (.code (zy 178) (zbs 178) (znl 178) (zrt 178)) := rfl
set_option maxRecDepth 100000 in
theorem zcd_179 : lw_tbl[(zmr.getD 179 (0, 0, 0, 0, 0)).2.1]? = some (.code (zy 179) (zbs 179) (znl 179) (zrt 179)) := rfl
set_option maxRecDepth 100000 in
theorem zcd_180 : lw_tbl[(zmr.getD 180 (0, 0, 0, 0, 0)).2.1]? = some (.code (zy 180) (zbs 180) (znl 180) (zrt 180)) := rfl
set_option maxRecDepth 100000 in
theorem zcd_181 : lw_tbl[(zmr.getD 181 (0, 0, 0, 0, 0)).2.1]? = some (.code (zy 181) (zbs 181) (znl 181) (zrt 181)) := rfl
set_option maxRecDepth 100000 in
theorem zcd_182 : lw_tbl[(zmr.getD 182 (0, 0, 0, 0, 0)).2.1]? = some (.code (zy 182) (zbs 182) (znl 182) (zrt 182)) := rfl
set_option maxRecDepth 100000 in
theorem zcd_183 : lw_tbl[(zmr.getD 183 (0, 0, 0, 0, 0)).2.1]? = some (.code (zy 183) (zbs 183) (znl 183) (zrt 183)) := rfl
set_option maxRecDepth 100000 in
theorem zcd_184 : lw_tbl[(zmr.getD 184 (0, 0, 0, 0, 0)).2.1]? = some (.code (zy 184) (zbs 184) (znl 184) (zrt 184)) := rfl
set_option maxRecDepth 100000 in
theorem zcd_185 : lw_tbl[(zmr.getD 185 (0, 0, 0, 0, 0)).2.1]? = some (.code (zy 185) (zbs 185) (znl 185) (zrt 185)) := rfl
set_option maxRecDepth 100000 in
theorem zcd_186 : lw_tbl[(zmr.getD 186 (0, 0, 0, 0, 0)).2.1]? = some (.code (zy 186) (zbs 186) (znl 186) (zrt 186)) := rfl
set_option maxRecDepth 100000 in
theorem zcd_187 : lw_tbl[(zmr.getD 187 (0, 0, 0, 0, 0)).2.1]? = some (.code (zy 187) (zbs 187) (znl 187) (zrt 187)) := rfl
set_option maxRecDepth 100000 in
theorem zcd_188 : lw_tbl[(zmr.getD 188 (0, 0, 0, 0, 0)).2.1]? = some (.code (zy 188) (zbs 188) (znl 188) (zrt 188)) := rfl
set_option maxRecDepth 100000 in
theorem zcd_189 : lw_tbl[(zmr.getD 189 (0, 0, 0, 0, 0)).2.1]? = some (.code (zy 189) (zbs 189) (znl 189) (zrt 189)) := rfl
set_option maxRecDepth 100000 in
theorem zcd_190 : lw_tbl[(zmr.getD 190 (0, 0, 0, 0, 0)).2.1]? = some (.code (zy 190) (zbs 190) (znl 190) (zrt 190)) := rfl
set_option maxRecDepth 100000 in
theorem zcd_191 : lw_tbl[(zmr.getD 191 (0, 0, 0, 0, 0)).2.1]? = some (.code (zy 191) (zbs 191) (znl 191) (zrt 191)) := rfl
set_option maxRecDepth 100000 in
theorem zcd_192 : lw_tbl[(zmr.getD 192 (0, 0, 0, 0, 0)).2.1]? = some (.code (zy 192) (zbs 192) (znl 192) (zrt 192)) := rfl
set_option maxRecDepth 100000 in
theorem zcd_193 : lw_tbl[(zmr.getD 193 (0, 0, 0, 0, 0)).2.1]? = some (.code (zy 193) (zbs 193) (znl 193) (zrt 193)) := rfl
set_option maxRecDepth 100000 in
theorem zcd_194 : lw_tbl[(zmr.getD 194 (0, 0, 0, 0, 0)).2.1]? = some (.code (zy 194) (zbs 194) (znl 194) (zrt 194)) := rfl
set_option maxRecDepth 100000 in
theorem zcd_195 : lw_tbl[(zmr.getD 195 (0, 0, 0, 0, 0)).2.1]? = some (.code (zy 195) (zbs 195) (znl 195) (zrt 195)) := rfl
set_option maxRecDepth 100000 in
theorem zcd_196 : lw_tbl[(zmr.getD 196 (0, 0, 0, 0, 0)).2.1]? = some (.code (zy 196) (zbs 196) (znl 196) (zrt 196)) := rfl
set_option maxRecDepth 100000 in
theorem zcd_197 : lw_tbl[(zmr.getD 197 (0, 0, 0, 0, 0)).2.1]? = some (.code (zy 197) (zbs 197) (znl 197) (zrt 197)) := rfl
set_option maxRecDepth 100000 in
theorem zcd_198 : lw_tbl[(zmr.getD 198 (0, 0, 0, 0, 0)).2.1]? = some (.code (zy 198) (zbs 198) (znl 198) (zrt 198)) := rfl
set_option maxRecDepth 100000 in
theorem zcd_199 : lw_tbl[(zmr.getD 199 (0, 0, 0, 0, 0)).2.1]? = some (.code (zy 199) (zbs 199) (znl 199) (zrt 199)) := rfl
set_option maxRecDepth 100000 in
theorem zcd_200 : lw_tbl[(zmr.getD 200 (0, 0, 0, 0, 0)).2.1]? = some (.code (zy 200) (zbs 200) (znl 200) (zrt 200)) := rfl
set_option maxRecDepth 100000 in
theorem zcd_201 : lw_tbl[(zmr.getD 201 (0, 0, 0, 0, 0)).2.1]? = some (.code (zy 201) (zbs 201) (znl 201) (zrt 201)) := rfl
set_option maxRecDepth 100000 in
theorem zcd_202 : lw_tbl[(zmr.getD 202 (0, 0, 0, 0, 0)).2.1]? = some (.code (zy 202) (zbs 202) (znl 202) (zrt 202)) := rfl
set_option maxRecDepth 100000 in
theorem zcd_203 : lw_tbl[(zmr.getD 203 (0, 0, 0, 0, 0)).2.1]? = some (.code (zy 203) (zbs 203) (znl 203) (zrt 203)) := rfl
set_option maxRecDepth 100000 in
theorem zcd_204 : lw_tbl[(zmr.getD 204 (0, 0, 0, 0, 0)).2.1]? = some (.code (zy 204) (zbs 204) (znl 204) (zrt 204)) := rfl
set_option maxRecDepth 100000 in
theorem zcd_205 : lw_tbl[(zmr.getD 205 (0, 0, 0, 0, 0)).2.1]? = some (.code (zy 205) (zbs 205) (znl 205) (zrt 205)) := rfl
set_option maxRecDepth 100000 in
theorem zcd_206 : lw_tbl[(zmr.getD 206 (0, 0, 0, 0, 0)).2.1]? = some (.code (zy 206) (zbs 206) (znl 206) (zrt 206)) := rfl
set_option maxRecDepth 100000 in
theorem zcd_207 : lw_tbl[(zmr.getD 207 (0, 0, 0, 0, 0)).2.1]? = some (.code (zy 207) (zbs 207) (znl 207) (zrt 207)) := rfl
set_option maxRecDepth 100000 in
theorem zcd_208 : lw_tbl[(zmr.getD 208 (0, 0, 0, 0, 0)).2.1]? = some (.code (zy 208) (zbs 208) (znl 208) (zrt 208)) := rfl
set_option maxRecDepth 100000 in
theorem zcd_209 : lw_tbl[(zmr.getD 209 (0, 0, 0, 0, 0)).2.1]? = some (.code (zy 209) (zbs 209) (znl 209) (zrt 209)) := rfl
set_option maxRecDepth 100000 in
theorem zcd_210 : lw_tbl[(zmr.getD 210 (0, 0, 0, 0, 0)).2.1]? = some (.code (zy 210) (zbs 210) (znl 210) (zrt 210)) := rfl
set_option maxRecDepth 100000 in
theorem zcd_211 : lw_tbl[(zmr.getD 211 (0, 0, 0, 0, 0)).2.1]? = some (.code (zy 211) (zbs 211) (znl 211) (zrt 211)) := rfl
set_option maxRecDepth 100000 in
theorem zcd_212 : lw_tbl[(zmr.getD 212 (0, 0, 0, 0, 0)).2.1]? = some (.code (zy 212) (zbs 212) (znl 212) (zrt 212)) := rfl
set_option maxRecDepth 100000 in
theorem zcd_213 : lw_tbl[(zmr.getD 213 (0, 0, 0, 0, 0)).2.1]? = some (.code (zy 213) (zbs 213) (znl 213) (zrt 213)) := rfl
set_option maxRecDepth 100000 in
theorem zcd_214 : lw_tbl[(zmr.getD 214 (0, 0, 0, 0, 0)).2.1]? = some (.code (zy 214) (zbs 214) (znl 214) (zrt 214)) := rfl
set_option maxRecDepth 100000 in
theorem zcd_215 : lw_tbl[(zmr.getD 215 (0, 0, 0, 0, 0)).2.1]? = some (.code (zy 215) (zbs 215) (znl 215) (zrt 215)) := rfl
set_option maxRecDepth 100000 in
theorem zcd_216 : lw_tbl[(zmr.getD 216 (0, 0, 0, 0, 0)).2.1]? = some (.code (zy 216) (zbs 216) (znl 216) (zrt 216)) := rfl
set_option maxRecDepth 100000 in
theorem zcd_217 : lw_tbl[(zmr.getD 217 (0, 0, 0, 0, 0)).2.1]? = some (.code (zy 217) (zbs 217) (znl 217) (zrt 217)) := rfl
set_option maxRecDepth 100000 in
theorem zcd_218 : lw_tbl[(zmr.getD 218 (0, 0, 0, 0, 0)).2.1]? = some (.code (zy 218) (zbs 218) (znl 218) (zrt 218)) := rfl
set_option maxRecDepth 100000 in
theorem zcd_219 : lw_tbl[(zmr.getD 219 (0, 0, 0, 0, 0)).2.1]? = some (.code (zy 219) (zbs 219) (znl 219) (zrt 219)) := rfl
set_option maxRecDepth 100000 in
theorem zcd_220 : lw_tbl[(zmr.getD 220 (0, 0, 0, 0, 0)).2.1]? = some (.code (zy 220) (zbs 220) (znl 220) (zrt 220)) := rfl
set_option maxRecDepth 100000 in
theorem zcd_221 : lw_tbl[(zmr.getD 221 (0, 0, 0, 0, 0)).2.1]? = some (.code (zy 221) (zbs 221) (znl 221) (zrt 221)) := rfl
set_option maxRecDepth 100000 in
theorem zcd_222 : lw_tbl[(zmr.getD 222 (0, 0, 0, 0, 0)).2.1]? = some (.code (zy 222) (zbs 222) (znl 222) (zrt 222)) := rfl
set_option maxRecDepth 100000 in
theorem zcd_223 : lw_tbl[(zmr.getD 223 (0, 0, 0, 0, 0)).2.1]? = some (.code (zy 223) (zbs 223) (znl 223) (zrt 223)) := rfl
set_option maxRecDepth 100000 in
theorem zcd_224 : lw_tbl[(zmr.getD 224 (0, 0, 0, 0, 0)).2.1]? = some (.code (zy 224) (zbs 224) (znl 224) (zrt 224)) := rfl
set_option maxRecDepth 100000 in
theorem zcd_225 : lw_tbl[(zmr.getD 225 (0, 0, 0, 0, 0)).2.1]? = some (.code (zy 225) (zbs 225) (znl 225) (zrt 225)) := rfl
set_option maxRecDepth 100000 in
theorem zcd_226 : lw_tbl[(zmr.getD 226 (0, 0, 0, 0, 0)).2.1]? = some (.code (zy 226) (zbs 226) (znl 226) (zrt 226)) := rfl
set_option maxRecDepth 100000 in
theorem zcd_227 : lw_tbl[(zmr.getD 227 (0, 0, 0, 0, 0)).2.1]? = some (.code (zy 227) (zbs 227) (znl 227) (zrt 227)) := rfl
set_option maxRecDepth 100000 in
theorem zcd_228 : lw_tbl[(zmr.getD 228 (0, 0, 0, 0, 0)).2.1]? = some (.code (zy 228) (zbs 228) (znl 228) (zrt 228)) := rfl
set_option maxRecDepth 100000 in
theorem zcd_229 : lw_tbl[(zmr.getD 229 (0, 0, 0, 0, 0)).2.1]? = some (.code (zy 229) (zbs 229) (znl 229) (zrt 229)) := rfl
set_option maxRecDepth 100000 in
theorem zcd_230 : lw_tbl[(zmr.getD 230 (0, 0, 0, 0, 0)).2.1]? = some (.code (zy 230) (zbs 230) (znl 230) (zrt 230)) := rfl
set_option maxRecDepth 100000 in
theorem zcd_231 : lw_tbl[(zmr.getD 231 (0, 0, 0, 0, 0)).2.1]? = some (.code (zy 231) (zbs 231) (znl 231) (zrt 231)) := rfl
set_option maxRecDepth 100000 in
theorem zcd_232 : lw_tbl[(zmr.getD 232 (0, 0, 0, 0, 0)).2.1]? = some (.code (zy 232) (zbs 232) (znl 232) (zrt 232)) := rfl
set_option maxRecDepth 100000 in
theorem zcd_233 : lw_tbl[(zmr.getD 233 (0, 0, 0, 0, 0)).2.1]? = some (.code (zy 233) (zbs 233) (znl 233) (zrt 233)) := rfl
set_option maxRecDepth 100000 in
theorem zcd_234 : lw_tbl[(zmr.getD 234 (0, 0, 0, 0, 0)).2.1]? = some (.code (zy 234) (zbs 234) (znl 234) (zrt 234)) := rfl
set_option maxRecDepth 100000 in
theorem zcd_235 : lw_tbl[(zmr.getD 235 (0, 0, 0, 0, 0)).2.1]? = some (.code (zy 235) (zbs 235) (znl 235) (zrt 235)) := rfl
set_option maxRecDepth 100000 in
theorem zcd_236 : lw_tbl[(zmr.getD 236 (0, 0, 0, 0, 0)).2.1]? = some (.code (zy 236) (zbs 236) (znl 236) (zrt 236)) := rfl
set_option maxRecDepth 100000 in
theorem zcd_237 : lw_tbl[(zmr.getD 237 (0, 0, 0, 0, 0)).2.1]? = some (.code (zy 237) (zbs 237) (znl 237) (zrt 237)) := rfl
set_option maxRecDepth 100000 in
theorem zcd_238 : lw_tbl[(zmr.getD 238 (0, 0, 0, 0, 0)).2.1]? = some (.code (zy 238) (zbs 238) (znl 238) (zrt 238)) := rfl
set_option maxRecDepth 100000 in
theorem zcd_239 : lw_tbl[(zmr.getD 239 (0, 0, 0, 0, 0)).2.1]? = some (.code (zy 239) (zbs 239) (znl 239) (zrt 239)) := rfl
set_option maxRecDepth 100000 in
theorem zcd_240 : lw_tbl[(zmr.getD 240 (0, 0, 0, 0, 0)).2.1]? = some (.code (zy 240) (zbs 240) (znl 240) (zrt 240)) := rfl
set_option maxRecDepth 100000 in
theorem zcd_241 : lw_tbl[(zmr.getD 241 (0, 0, 0, 0, 0)).2.1]? = some (.code (zy 241) (zbs 241) (znl 241) (zrt 241)) := rfl
set_option maxRecDepth 100000 in
theorem zcd_242 : lw_tbl[(zmr.getD 242 (0, 0, 0, 0, 0)).2.1]? = some (.code (zy 242) (zbs 242) (znl 242) (zrt 242)) := rfl
set_option maxRecDepth 100000 in
theorem zcd_243 : lw_tbl[(zmr.getD 243 (0, 0, 0, 0, 0)).2.1]? = some (.code (zy 243) (zbs 243) (znl 243) (zrt 243)) := rfl
set_option maxRecDepth 100000 in
theorem zcd_244 : lw_tbl[(zmr.getD 244 (0, 0, 0, 0, 0)).2.1]? = some (.code (zy 244) (zbs 244) (znl 244) (zrt 244)) := rfl
set_option maxRecDepth 100000 in
theorem zcd_245 : lw_tbl[(zmr.getD 245 (0, 0, 0, 0, 0)).2.1]? = some (.code (zy 245) (zbs 245) (znl 245) (zrt 245)) := rfl
set_option maxRecDepth 100000 in
theorem zcd_246 : lw_tbl[(zmr.getD 246 (0, 0, 0, 0, 0)).2.1]? = some (.code (zy 246) (zbs 246) (znl 246) (zrt 246)) := rfl
set_option maxRecDepth 100000 in
theorem zcd_247 : lw_tbl[(zmr.getD 247 (0, 0, 0, 0, 0)).2.1]? = some (.code (zy 247) (zbs 247) (znl 247) (zrt 247)) := rfl
set_option maxRecDepth 100000 in
theorem zcd_248 : lw_tbl[(zmr.getD 248 (0, 0, 0, 0, 0)).2.1]? = some (.code (zy 248) (zbs 248) (znl 248) (zrt 248)) := rfl
set_option maxRecDepth 100000 in
theorem zcd_249 : lw_tbl[(zmr.getD 249 (0, 0, 0, 0, 0)).2.1]? = some (.code (zy 249) (zbs 249) (znl 249) (zrt 249)) := rfl
set_option maxRecDepth 100000 in
theorem zcd_250 : lw_tbl[(zmr.getD 250 (0, 0, 0, 0, 0)).2.1]? = some (.code (zy 250) (zbs 250) (znl 250) (zrt 250)) := rfl
set_option maxRecDepth 100000 in
theorem zcd_251 : lw_tbl[(zmr.getD 251 (0, 0, 0, 0, 0)).2.1]? = some (.code (zy 251) (zbs 251) (znl 251) (zrt 251)) := rfl
set_option maxRecDepth 100000 in
theorem zcd_252 : lw_tbl[(zmr.getD 252 (0, 0, 0, 0, 0)).2.1]? = some (.code (zy 252) (zbs 252) (znl 252) (zrt 252)) := rfl
set_option maxRecDepth 100000 in
theorem zcd_253 : lw_tbl[(zmr.getD 253 (0, 0, 0, 0, 0)).2.1]? = some (.code (zy 253) (zbs 253) (znl 253) (zrt 253)) := rfl
set_option maxRecDepth 100000 in
theorem zcd_254 : lw_tbl[(zmr.getD 254 (0, 0, 0, 0, 0)).2.1]? = some (.code (zy 254) (zbs 254) (znl 254) (zrt 254)) := rfl
set_option maxRecDepth 100000 in
theorem zcd_255 : lw_tbl[(zmr.getD 255 (0, 0, 0, 0, 0)).2.1]? = some (.code (zy 255) (zbs 255) (znl 255) (zrt 255)) := rfl
set_option maxRecDepth 100000 in
theorem zcd_256 : lw_tbl[(zmr.getD 256 (0, 0, 0, 0, 0)).2.1]? = some (.code (zy 256) (zbs 256) (znl 256) (zrt 256)) := rfl
set_option maxRecDepth 100000 in
theorem zcd_257 : lw_tbl[(zmr.getD 257 (0, 0, 0, 0, 0)).2.1]? = some (.code (zy 257) (zbs 257) (znl 257) (zrt 257)) := rfl
set_option maxRecDepth 100000 in
theorem zcd_258 : lw_tbl[(zmr.getD 258 (0, 0, 0, 0, 0)).2.1]? = some (.code (zy 258) (zbs 258) (znl 258) (zrt 258)) := rfl
set_option maxRecDepth 100000 in
theorem zcd_259 : lw_tbl[(zmr.getD 259 (0, 0, 0, 0, 0)).2.1]? = some (.code (zy 259) (zbs 259) (znl 259) (zrt 259)) := rfl
set_option maxRecDepth 100000 in
theorem zcd_260 : lw_tbl[(zmr.getD 260 (0, 0, 0, 0, 0)).2.1]? = some (.code (zy 260) (zbs 260) (znl 260) (zrt 260)) := rfl
set_option maxRecDepth 100000 in
theorem zcd_261 : lw_tbl[(zmr.getD 261 (0, 0, 0, 0, 0)).2.1]? = some (.code (zy 261) (zbs 261) (znl 261) (zrt 261)) := rfl
set_option maxRecDepth 100000 in
theorem zcd_262 : lw_tbl[(zmr.getD 262 (0, 0, 0, 0, 0)).2.1]? = some (.code (zy 262) (zbs 262) (znl 262) (zrt 262)) := rfl
set_option maxRecDepth 100000 in
theorem zcd_263 : lw_tbl[(zmr.getD 263 (0, 0, 0, 0, 0)).2.1]? = some (.code (zy 263) (zbs 263) (znl 263) (zrt 263)) := rfl
set_option maxRecDepth 100000 in
theorem zcd_264 : lw_tbl[(zmr.getD 264 (0, 0, 0, 0, 0)).2.1]? = some (.code (zy 264) (zbs 264) (znl 264) (zrt 264)) := rfl
set_option maxRecDepth 100000 in
theorem zcd_265 : lw_tbl[(zmr.getD 265 (0, 0, 0, 0, 0)).2.1]? = some (.code (zy 265) (zbs 265) (znl 265) (zrt 265)) := rfl
set_option maxRecDepth 100000 in
theorem zcd_266 : lw_tbl[(zmr.getD 266 (0, 0, 0, 0, 0)).2.1]? = some (.code (zy 266) (zbs 266) (znl 266) (zrt 266)) := rfl
set_option maxRecDepth 100000 in
theorem zcd_267 : lw_tbl[(zmr.getD 267 (0, 0, 0, 0, 0)).2.1]? = some (.code (zy 267) (zbs 267) (znl 267) (zrt 267)) := rfl
set_option maxRecDepth 100000 in
theorem zcd_268 : lw_tbl[(zmr.getD 268 (0, 0, 0, 0, 0)).2.1]? = some (.code (zy 268) (zbs 268) (znl 268) (zrt 268)) := rfl
set_option maxRecDepth 100000 in
theorem zcd_269 : lw_tbl[(zmr.getD 269 (0, 0, 0, 0, 0)).2.1]? = some (.code (zy 269) (zbs 269) (znl 269) (zrt 269)) := rfl
set_option maxRecDepth 100000 in
theorem zcd_270 : lw_tbl[(zmr.getD 270 (0, 0, 0, 0, 0)).2.1]? = some (.code (zy 270) (zbs 270) (znl 270) (zrt 270)) := rfl
set_option maxRecDepth 100000 in
theorem zcd_271 : lw_tbl[(zmr.getD 271 (0, 0, 0, 0, 0)).2.1]? = some (.code (zy 271) (zbs 271) (znl 271) (zrt 271)) := rfl
set_option maxRecDepth 100000 in
theorem zcd_272 : lw_tbl[(zmr.getD 272 (0, 0, 0, 0, 0)).2.1]? = some (.code (zy 272) (zbs 272) (znl 272) (zrt 272)) := rfl
set_option maxRecDepth 100000 in
theorem zcd_273 : lw_tbl[(zmr.getD 273 (0, 0, 0, 0, 0)).2.1]? = some (.code (zy 273) (zbs 273) (znl 273) (zrt 273)) := rfl
set_option maxRecDepth 100000 in
theorem zcd_274 : lw_tbl[(zmr.getD 274 (0, 0, 0, 0, 0)).2.1]? = some (.code (zy 274) (zbs 274) (znl 274) (zrt 274)) := rfl
set_option maxRecDepth 100000 in
theorem zcd_275 : lw_tbl[(zmr.getD 275 (0, 0, 0, 0, 0)).2.1]? = some (.code (zy 275) (zbs 275) (znl 275) (zrt 275)) := rfl
set_option maxRecDepth 100000 in
theorem zcd_276 : lw_tbl[(zmr.getD 276 (0, 0, 0, 0, 0)).2.1]? = some (.code (zy 276) (zbs 276) (znl 276) (zrt 276)) := rfl
set_option maxRecDepth 100000 in
theorem zcd_277 : lw_tbl[(zmr.getD 277 (0, 0, 0, 0, 0)).2.1]? = some (.code (zy 277) (zbs 277) (znl 277) (zrt 277)) := rfl
set_option maxRecDepth 100000 in
theorem zcd_278 : lw_tbl[(zmr.getD 278 (0, 0, 0, 0, 0)).2.1]? = some (.code (zy 278) (zbs 278) (znl 278) (zrt 278)) := rfl
set_option maxRecDepth 100000 in
theorem zcd_279 : lw_tbl[(zmr.getD 279 (0, 0, 0, 0, 0)).2.1]? = some (.code (zy 279) (zbs 279) (znl 279) (zrt 279)) := rfl
set_option maxRecDepth 100000 in
theorem zcd_280 : lw_tbl[(zmr.getD 280 (0, 0, 0, 0, 0)).2.1]? = some (.code (zy 280) (zbs 280) (znl 280) (zrt 280)) := rfl
set_option maxRecDepth 100000 in
theorem zcd_281 : lw_tbl[(zmr.getD 281 (0, 0, 0, 0, 0)).2.1]? = some (.code (zy 281) (zbs 281) (znl 281) (zrt 281)) := rfl
set_option maxRecDepth 100000 in
theorem zcd_282 : lw_tbl[(zmr.getD 282 (0, 0, 0, 0, 0)).2.1]? = some (.code (zy 282) (zbs 282) (znl 282) (zrt 282)) := rfl
theorem zca_1 : ∀ a, a < 1 → lw_tbl[(zmr.getD a (0, 0, 0, 0, 0)).2.1]? = some (.code (zy a) (zbs a) (znl a) (zrt a)) := lt_s lt_0 zcd_0
theorem zca_2 : ∀ a, a < 2 → lw_tbl[(zmr.getD a (0, 0, 0, 0, 0)).2.1]? = some (.code (zy a) (zbs a) (znl a) (zrt a)) := lt_s zca_1 zcd_1
theorem zca_3 : ∀ a, a < 3 → lw_tbl[(zmr.getD a (0, 0, 0, 0, 0)).2.1]? = some (.code (zy a) (zbs a) (znl a) (zrt a)) := lt_s zca_2 zcd_2
theorem zca_4 : ∀ a, a < 4 → lw_tbl[(zmr.getD a (0, 0, 0, 0, 0)).2.1]? = some (.code (zy a) (zbs a) (znl a) (zrt a)) := lt_s zca_3 zcd_3
theorem zca_5 : ∀ a, a < 5 → lw_tbl[(zmr.getD a (0, 0, 0, 0, 0)).2.1]? = some (.code (zy a) (zbs a) (znl a) (zrt a)) := lt_s zca_4 zcd_4
theorem zca_6 : ∀ a, a < 6 → lw_tbl[(zmr.getD a (0, 0, 0, 0, 0)).2.1]? = some (.code (zy a) (zbs a) (znl a) (zrt a)) := lt_s zca_5 zcd_5
theorem zca_7 : ∀ a, a < 7 → lw_tbl[(zmr.getD a (0, 0, 0, 0, 0)).2.1]? = some (.code (zy a) (zbs a) (znl a) (zrt a)) := lt_s zca_6 zcd_6
theorem zca_8 : ∀ a, a < 8 → lw_tbl[(zmr.getD a (0, 0, 0, 0, 0)).2.1]? = some (.code (zy a) (zbs a) (znl a) (zrt a)) := lt_s zca_7 zcd_7
theorem zca_9 : ∀ a, a < 9 → lw_tbl[(zmr.getD a (0, 0, 0, 0, 0)).2.1]? = some (.code (zy a) (zbs a) (znl a) (zrt a)) := lt_s zca_8 zcd_8
theorem zca_10 : ∀ a, a < 10 → lw_tbl[(zmr.getD a (0, 0, 0, 0, 0)).2.1]? = some (.code (zy a) (zbs a) (znl a) (zrt a)) := lt_s zca_9 zcd_9
theorem zca_11 : ∀ a, a < 11 → lw_tbl[(zmr.getD a (0, 0, 0, 0, 0)).2.1]? = some (.code (zy a) (zbs a) (znl a) (zrt a)) := lt_s zca_10 zcd_10
theorem zca_12 : ∀ a, a < 12 → lw_tbl[(zmr.getD a (0, 0, 0, 0, 0)).2.1]? = some (.code (zy a) (zbs a) (znl a) (zrt a)) := lt_s zca_11 zcd_11
theorem zca_13 : ∀ a, a < 13 → lw_tbl[(zmr.getD a (0, 0, 0, 0, 0)).2.1]? = some (.code (zy a) (zbs a) (znl a) (zrt a)) := lt_s zca_12 zcd_12
theorem zca_14 : ∀ a, a < 14 → lw_tbl[(zmr.getD a (0, 0, 0, 0, 0)).2.1]? = some (.code (zy a) (zbs a) (znl a) (zrt a)) := lt_s zca_13 zcd_13
theorem zca_15 : ∀ a, a < 15 → lw_tbl[(zmr.getD a (0, 0, 0, 0, 0)).2.1]? = some (.code (zy a) (zbs a) (znl a) (zrt a)) := lt_s zca_14 zcd_14
theorem zca_16 : ∀ a, a < 16 → lw_tbl[(zmr.getD a (0, 0, 0, 0, 0)).2.1]? = some (.code (zy a) (zbs a) (znl a) (zrt a)) := lt_s zca_15 zcd_15
theorem zca_17 : ∀ a, a < 17 → lw_tbl[(zmr.getD a (0, 0, 0, 0, 0)).2.1]? = some (.code (zy a) (zbs a) (znl a) (zrt a)) := lt_s zca_16 zcd_16
theorem zca_18 : ∀ a, a < 18 → lw_tbl[(zmr.getD a (0, 0, 0, 0, 0)).2.1]? = some (.code (zy a) (zbs a) (znl a) (zrt a)) := lt_s zca_17 zcd_17
theorem zca_19 : ∀ a, a < 19 → lw_tbl[(zmr.getD a (0, 0, 0, 0, 0)).2.1]? = some (.code (zy a) (zbs a) (znl a) (zrt a)) := lt_s zca_18 zcd_18
theorem zca_20 : ∀ a, a < 20 → lw_tbl[(zmr.getD a (0, 0, 0, 0, 0)).2.1]? = some (.code (zy a) (zbs a) (znl a) (zrt a)) := lt_s zca_19 zcd_19
theorem zca_21 : ∀ a, a < 21 → lw_tbl[(zmr.getD a (0, 0, 0, 0, 0)).2.1]? = some (.code (zy a) (zbs a) (znl a) (zrt a)) := lt_s zca_20 zcd_20
theorem zca_22 : ∀ a, a < 22 → lw_tbl[(zmr.getD a (0, 0, 0, 0, 0)).2.1]? = some (.code (zy a) (zbs a) (znl a) (zrt a)) := lt_s zca_21 zcd_21
theorem zca_23 : ∀ a, a < 23 → lw_tbl[(zmr.getD a (0, 0, 0, 0, 0)).2.1]? = some (.code (zy a) (zbs a) (znl a) (zrt a)) := lt_s zca_22 zcd_22
theorem zca_24 : ∀ a, a < 24 → lw_tbl[(zmr.getD a (0, 0, 0, 0, 0)).2.1]? = some (.code (zy a) (zbs a) (znl a) (zrt a)) := lt_s zca_23 zcd_23
theorem zca_25 : ∀ a, a < 25 → lw_tbl[(zmr.getD a (0, 0, 0, 0, 0)).2.1]? = some (.code (zy a) (zbs a) (znl a) (zrt a)) := lt_s zca_24 zcd_24
theorem zca_26 : ∀ a, a < 26 → lw_tbl[(zmr.getD a (0, 0, 0, 0, 0)).2.1]? = some (.code (zy a) (zbs a) (znl a) (zrt a)) := lt_s zca_25 zcd_25
theorem zca_27 : ∀ a, a < 27 → lw_tbl[(zmr.getD a (0, 0, 0, 0, 0)).2.1]? = some (.code (zy a) (zbs a) (znl a) (zrt a)) := lt_s zca_26 zcd_26
theorem zca_28 : ∀ a, a < 28 → lw_tbl[(zmr.getD a (0, 0, 0, 0, 0)).2.1]? = some (.code (zy a) (zbs a) (znl a) (zrt a)) := lt_s zca_27 zcd_27
theorem zca_29 : ∀ a, a < 29 → lw_tbl[(zmr.getD a (0, 0, 0, 0, 0)).2.1]? = some (.code (zy a) (zbs a) (znl a) (zrt a)) := lt_s zca_28 zcd_28
theorem zca_30 : ∀ a, a < 30 → lw_tbl[(zmr.getD a (0, 0, 0, 0, 0)).2.1]? = some (.code (zy a) (zbs a) (znl a) (zrt a)) := lt_s zca_29 zcd_29
theorem zca_31 : ∀ a, a < 31 → lw_tbl[(zmr.getD a (0, 0, 0, 0, 0)).2.1]? = some (.code (zy a) (zbs a) (znl a) (zrt a)) := lt_s zca_30 zcd_30
theorem zca_32 : ∀ a, a < 32 → lw_tbl[(zmr.getD a (0, 0, 0, 0, 0)).2.1]? = some (.code (zy a) (zbs a) (znl a) (zrt a)) := lt_s zca_31 zcd_31
theorem zca_33 : ∀ a, a < 33 → lw_tbl[(zmr.getD a (0, 0, 0, 0, 0)).2.1]? = some (.code (zy a) (zbs a) (znl a) (zrt a)) := lt_s zca_32 zcd_32
theorem zca_34 : ∀ a, a < 34 → lw_tbl[(zmr.getD a (0, 0, 0, 0, 0)).2.1]? = some (.code (zy a) (zbs a) (znl a) (zrt a)) := lt_s zca_33 zcd_33
theorem zca_35 : ∀ a, a < 35 → lw_tbl[(zmr.getD a (0, 0, 0, 0, 0)).2.1]? = some (.code (zy a) (zbs a) (znl a) (zrt a)) := lt_s zca_34 zcd_34
theorem zca_36 : ∀ a, a < 36 → lw_tbl[(zmr.getD a (0, 0, 0, 0, 0)).2.1]? = some (.code (zy a) (zbs a) (znl a) (zrt a)) := lt_s zca_35 zcd_35
theorem zca_37 : ∀ a, a < 37 → lw_tbl[(zmr.getD a (0, 0, 0, 0, 0)).2.1]? = some (.code (zy a) (zbs a) (znl a) (zrt a)) := lt_s zca_36 zcd_36
theorem zca_38 : ∀ a, a < 38 → lw_tbl[(zmr.getD a (0, 0, 0, 0, 0)).2.1]? = some (.code (zy a) (zbs a) (znl a) (zrt a)) := lt_s zca_37 zcd_37
theorem zca_39 : ∀ a, a < 39 → lw_tbl[(zmr.getD a (0, 0, 0, 0, 0)).2.1]? = some (.code (zy a) (zbs a) (znl a) (zrt a)) := lt_s zca_38 zcd_38
theorem zca_40 : ∀ a, a < 40 → lw_tbl[(zmr.getD a (0, 0, 0, 0, 0)).2.1]? = some (.code (zy a) (zbs a) (znl a) (zrt a)) := lt_s zca_39 zcd_39
theorem zca_41 : ∀ a, a < 41 → lw_tbl[(zmr.getD a (0, 0, 0, 0, 0)).2.1]? = some (.code (zy a) (zbs a) (znl a) (zrt a)) := lt_s zca_40 zcd_40
theorem zca_42 : ∀ a, a < 42 → lw_tbl[(zmr.getD a (0, 0, 0, 0, 0)).2.1]? = some (.code (zy a) (zbs a) (znl a) (zrt a)) := lt_s zca_41 zcd_41
theorem zca_43 : ∀ a, a < 43 → lw_tbl[(zmr.getD a (0, 0, 0, 0, 0)).2.1]? = some (.code (zy a) (zbs a) (znl a) (zrt a)) := lt_s zca_42 zcd_42
theorem zca_44 : ∀ a, a < 44 → lw_tbl[(zmr.getD a (0, 0, 0, 0, 0)).2.1]? = some (.code (zy a) (zbs a) (znl a) (zrt a)) := lt_s zca_43 zcd_43
theorem zca_45 : ∀ a, a < 45 → lw_tbl[(zmr.getD a (0, 0, 0, 0, 0)).2.1]? = some (.code (zy a) (zbs a) (znl a) (zrt a)) := lt_s zca_44 zcd_44
theorem zca_46 : ∀ a, a < 46 → lw_tbl[(zmr.getD a (0, 0, 0, 0, 0)).2.1]? = some (.code (zy a) (zbs a) (znl a) (zrt a)) := lt_s zca_45 zcd_45
theorem zca_47 : ∀ a, a < 47 → lw_tbl[(zmr.getD a (0, 0, 0, 0, 0)).2.1]? = some (.code (zy a) (zbs a) (znl a) (zrt a)) := lt_s zca_46 zcd_46
theorem zca_48 : ∀ a, a < 48 → lw_tbl[(zmr.getD a (0, 0, 0, 0, 0)).2.1]? = some (.code (zy a) (zbs a) (znl a) (zrt a)) := lt_s zca_47 zcd_47
theorem zca_49 : ∀ a, a < 49 → lw_tbl[(zmr.getD a (0, 0, 0, 0, 0)).2.1]? = some (.code (zy a) (zbs a) (znl a) (zrt a)) := lt_s zca_48 zcd_48
theorem zca_50 : ∀ a, a < 50 → lw_tbl[(zmr.getD a (0, 0, 0, 0, 0)).2.1]? = some (.code (zy a) (zbs a) (znl a) (zrt a)) := lt_s zca_49 zcd_49
theorem zca_51 : ∀ a, a < 51 → lw_tbl[(zmr.getD a (0, 0, 0, 0, 0)).2.1]? = some (.code (zy a) (zbs a) (znl a) (zrt a)) := lt_s zca_50 zcd_50
theorem zca_52 : ∀ a, a < 52 → lw_tbl[(zmr.getD a (0, 0, 0, 0, 0)).2.1]? = some (.code (zy a) (zbs a) (znl a) (zrt a)) := lt_s zca_51 zcd_51
theorem zca_53 : ∀ a, a < 53 → lw_tbl[(zmr.getD a (0, 0, 0, 0, 0)).2.1]? = some (.code (zy a) (zbs a) (znl a) (zrt a)) := lt_s zca_52 zcd_52
theorem zca_54 : ∀ a, a < 54 → lw_tbl[(zmr.getD a (0, 0, 0, 0, 0)).2.1]? = some (.code (zy a) (zbs a) (znl a) (zrt a)) := lt_s zca_53 zcd_53
theorem zca_55 : ∀ a, a < 55 → lw_tbl[(zmr.getD a (0, 0, 0, 0, 0)).2.1]? = some (.code (zy a) (zbs a) (znl a) (zrt a)) := lt_s zca_54 zcd_54
theorem zca_56 : ∀ a, a < 56 → lw_tbl[(zmr.getD a (0, 0, 0, 0, 0)).2.1]? = some (.code (zy a) (zbs a) (znl a) (zrt a)) := lt_s zca_55 zcd_55
theorem zca_57 : ∀ a, a < 57 → lw_tbl[(zmr.getD a (0, 0, 0, 0, 0)).2.1]? = some (.code (zy a) (zbs a) (znl a) (zrt a)) := lt_s zca_56 zcd_56
theorem zca_58 : ∀ a, a < 58 → lw_tbl[(zmr.getD a (0, 0, 0, 0, 0)).2.1]? = some (.code (zy a) (zbs a) (znl a) (zrt a)) := lt_s zca_57 zcd_57
theorem zca_59 : ∀ a, a < 59 → lw_tbl[(zmr.getD a (0, 0, 0, 0, 0)).2.1]? = some (.code (zy a) (zbs a) (znl a) (zrt a)) := lt_s zca_58 zcd_58
theorem zca_60 : ∀ a, a < 60 → lw_tbl[(zmr.getD a (0, 0, 0, 0, 0)).2.1]? = some (.code (zy a) (zbs a) (znl a) (zrt a)) := lt_s zca_59 zcd_59
theorem zca_61 : ∀ a, a < 61 → lw_tbl[(zmr.getD a (0, 0, 0, 0, 0)).2.1]? = some (.code (zy a) (zbs a) (znl a) (zrt a)) := lt_s zca_60 zcd_60
theorem zca_62 : ∀ a, a < 62 → lw_tbl[(zmr.getD a (0, 0, 0, 0, 0)).2.1]? = some (.code (zy a) (zbs a) (znl a) (zrt a)) := lt_s zca_61 zcd_61
theorem zca_63 : ∀ a, a < 63 → lw_tbl[(zmr.getD a (0, 0, 0, 0, 0)).2.1]? = some (.code (zy a) (zbs a) (znl a) (zrt a)) := lt_s zca_62 zcd_62
theorem zca_64 : ∀ a, a < 64 → lw_tbl[(zmr.getD a (0, 0, 0, 0, 0)).2.1]? = some (.code (zy a) (zbs a) (znl a) (zrt a)) := lt_s zca_63 zcd_63
theorem zca_65 : ∀ a, a < 65 → lw_tbl[(zmr.getD a (0, 0, 0, 0, 0)).2.1]? = some (.code (zy a) (zbs a) (znl a) (zrt a)) := lt_s zca_64 zcd_64
theorem zca_66 : ∀ a, a < 66 → lw_tbl[(zmr.getD a (0, 0, 0, 0, 0)).2.1]? = some (.code (zy a) (zbs a) (znl a) (zrt a)) := lt_s zca_65 zcd_65
theorem zca_67 : ∀ a, a < 67 → lw_tbl[(zmr.getD a (0, 0, 0, 0, 0)).2.1]? = some (.code (zy a) (zbs a) (znl a) (zrt a)) := lt_s zca_66 zcd_66
theorem zca_68 : ∀ a, a < 68 → lw_tbl[(zmr.getD a (0, 0, 0, 0, 0)).2.1]? = some (.code (zy a) (zbs a) (znl a) (zrt a)) := lt_s zca_67 zcd_67
theorem zca_69 : ∀ a, a < 69 → lw_tbl[(zmr.getD a (0, 0, 0, 0, 0)).2.1]? = some (.code (zy a) (zbs a) (znl a) (zrt a)) := lt_s zca_68 zcd_68
theorem zca_70 : ∀ a, a < 70 → lw_tbl[(zmr.getD a (0, 0, 0, 0, 0)).2.1]? = some (.code (zy a) (zbs a) (znl a) (zrt a)) := lt_s zca_69 zcd_69
theorem zca_71 : ∀ a, a < 71 → lw_tbl[(zmr.getD a (0, 0, 0, 0, 0)).2.1]? = some (.code (zy a) (zbs a) (znl a) (zrt a)) := lt_s zca_70 zcd_70
theorem zca_72 : ∀ a, a < 72 → lw_tbl[(zmr.getD a (0, 0, 0, 0, 0)).2.1]? = some (.code (zy a) (zbs a) (znl a) (zrt a)) := lt_s zca_71 zcd_71
theorem zca_73 : ∀ a, a < 73 → lw_tbl[(zmr.getD a (0, 0, 0, 0, 0)).2.1]? = some (.code (zy a) (zbs a) (znl a) (zrt a)) := lt_s zca_72 zcd_72
theorem zca_74 : ∀ a, a < 74 → lw_tbl[(zmr.getD a (0, 0, 0, 0, 0)).2.1]? = some (.code (zy a) (zbs a) (znl a) (zrt a)) := lt_s zca_73 zcd_73
theorem zca_75 : ∀ a, a < 75 → lw_tbl[(zmr.getD a (0, 0, 0, 0, 0)).2.1]? = some (.code (zy a) (zbs a) (znl a) (zrt a)) := lt_s zca_74 zcd_74
theorem zca_76 : ∀ a, a < 76 → lw_tbl[(zmr.getD a (0, 0, 0, 0, 0)).2.1]? = some (.code (zy a) (zbs a) (znl a) (zrt a)) := lt_s zca_75 zcd_75
theorem zca_77 : ∀ a, a < 77 → lw_tbl[(zmr.getD a (0, 0, 0, 0, 0)).2.1]? = some (.code (zy a) (zbs a) (znl a) (zrt a)) := lt_s zca_76 zcd_76
theorem zca_78 : ∀ a, a < 78 → lw_tbl[(zmr.getD a (0, 0, 0, 0, 0)).2.1]? = some (.code (zy a) (zbs a) (znl a) (zrt a)) := lt_s zca_77 zcd_77
theorem zca_79 : ∀ a, a < 79 → lw_tbl[(zmr.getD a (0, 0, 0, 0, 0)).2.1]? = some (.code (zy a) (zbs a) (znl a) (zrt a)) := lt_s zca_78 zcd_78
theorem zca_80 : ∀ a, a < 80 → lw_tbl[(zmr.getD a (0, 0, 0, 0, 0)).2.1]? = some (.code (zy a) (zbs a) (znl a) (zrt a)) := lt_s zca_79 zcd_79
theorem zca_81 : ∀ a, a < 81 → lw_tbl[(zmr.getD a (0, 0, 0, 0, 0)).2.1]? = some (.code (zy a) (zbs a) (znl a) (zrt a)) := lt_s zca_80 zcd_80
theorem zca_82 : ∀ a, a < 82 → lw_tbl[(zmr.getD a (0, 0, 0, 0, 0)).2.1]? = some (.code (zy a) (zbs a) (znl a) (zrt a)) := lt_s zca_81 zcd_81
theorem zca_83 : ∀ a, a < 83 → lw_tbl[(zmr.getD a (0, 0, 0, 0, 0)).2.1]? = some (.code (zy a) (zbs a) (znl a) (zrt a)) := lt_s zca_82 zcd_82
theorem zca_84 : ∀ a, a < 84 → lw_tbl[(zmr.getD a (0, 0, 0, 0, 0)).2.1]? = some (.code (zy a) (zbs a) (znl a) (zrt a)) := lt_s zca_83 zcd_83
theorem zca_85 : ∀ a, a < 85 → lw_tbl[(zmr.getD a (0, 0, 0, 0, 0)).2.1]? = some (.code (zy a) (zbs a) (znl a) (zrt a)) := lt_s zca_84 zcd_84
theorem zca_86 : ∀ a, a < 86 → lw_tbl[(zmr.getD a (0, 0, 0, 0, 0)).2.1]? = some (.code (zy a) (zbs a) (znl a) (zrt a)) := lt_s zca_85 zcd_85
theorem zca_87 : ∀ a, a < 87 → lw_tbl[(zmr.getD a (0, 0, 0, 0, 0)).2.1]? = some (.code (zy a) (zbs a) (znl a) (zrt a)) := lt_s zca_86 zcd_86
theorem zca_88 : ∀ a, a < 88 → lw_tbl[(zmr.getD a (0, 0, 0, 0, 0)).2.1]? = some (.code (zy a) (zbs a) (znl a) (zrt a)) := lt_s zca_87 zcd_87
theorem zca_89 : ∀ a, a < 89 → lw_tbl[(zmr.getD a (0, 0, 0, 0, 0)).2.1]? = some (.code (zy a) (zbs a) (znl a) (zrt a)) := lt_s zca_88 zcd_88
theorem zca_90 : ∀ a, a < 90 → lw_tbl[(zmr.getD a (0, 0, 0, 0, 0)).2.1]? = some (.code (zy a) (zbs a) (znl a) (zrt a)) := lt_s zca_89 zcd_89
theorem zca_91 : ∀ a, a < 91 → lw_tbl[(zmr.getD a (0, 0, 0, 0, 0)).2.1]? = some (.code (zy a) (zbs a) (znl a) (zrt a)) := lt_s zca_90 zcd_90
theorem zca_92 : ∀ a, a < 92 → lw_tbl[(zmr.getD a (0, 0, 0, 0, 0)).2.1]? = some (.code (zy a) (zbs a) (znl a) (zrt a)) := lt_s zca_91 zcd_91
theorem zca_93 : ∀ a, a < 93 → lw_tbl[(zmr.getD a (0, 0, 0, 0, 0)).2.1]? = some (.code (zy a) (zbs a) (znl a) (zrt a)) := lt_s zca_92 zcd_92
theorem zca_94 : ∀ a, a < 94 → lw_tbl[(zmr.getD a (0, 0, 0, 0, 0)).2.1]? = some (.code (zy a) (zbs a) (znl a) (zrt a)) := lt_s zca_93 zcd_93
theorem zca_95 : ∀ a, a < 95 → lw_tbl[(zmr.getD a (0, 0, 0, 0, 0)).2.1]? = some (.code (zy a) (zbs a) (znl a) (zrt a)) := lt_s zca_94 zcd_94
theorem zca_96 : ∀ a, a < 96 → lw_tbl[(zmr.getD a (0, 0, 0, 0, 0)).2.1]? = some (.code (zy a) (zbs a) (znl a) (zrt a)) := lt_s zca_95 zcd_95
theorem zca_97 : ∀ a, a < 97 → lw_tbl[(zmr.getD a (0, 0, 0, 0, 0)).2.1]? = some (.code (zy a) (zbs a) (znl a) (zrt a)) := lt_s zca_96 zcd_96
theorem zca_98 : ∀ a, a < 98 → lw_tbl[(zmr.getD a (0, 0, 0, 0, 0)).2.1]? = some (.code (zy a) (zbs a) (znl a) (zrt a)) := lt_s zca_97 zcd_97
theorem zca_99 : ∀ a, a < 99 → lw_tbl[(zmr.getD a (0, 0, 0, 0, 0)).2.1]? = some (.code (zy a) (zbs a) (znl a) (zrt a)) := lt_s zca_98 zcd_98
theorem zca_100 : ∀ a, a < 100 → lw_tbl[(zmr.getD a (0, 0, 0, 0, 0)).2.1]? = some (.code (zy a) (zbs a) (znl a) (zrt a)) := lt_s zca_99 zcd_99
theorem zca_101 : ∀ a, a < 101 → lw_tbl[(zmr.getD a (0, 0, 0, 0, 0)).2.1]? = some (.code (zy a) (zbs a) (znl a) (zrt a)) := lt_s zca_100 zcd_100
theorem zca_102 : ∀ a, a < 102 → lw_tbl[(zmr.getD a (0, 0, 0, 0, 0)).2.1]? = some (.code (zy a) (zbs a) (znl a) (zrt a)) := lt_s zca_101 zcd_101
theorem zca_103 : ∀ a, a < 103 → lw_tbl[(zmr.getD a (0, 0, 0, 0, 0)).2.1]? = some (.code (zy a) (zbs a) (znl a) (zrt a)) := lt_s zca_102 zcd_102
theorem zca_104 : ∀ a, a < 104 → lw_tbl[(zmr.getD a (0, 0, 0, 0, 0)).2.1]? = some (.code (zy a) (zbs a) (znl a) (zrt a)) := lt_s zca_103 zcd_103
theorem zca_105 : ∀ a, a < 105 → lw_tbl[(zmr.getD a (0, 0, 0, 0, 0)).2.1]? = some (.code (zy a) (zbs a) (znl a) (zrt a)) := lt_s zca_104 zcd_104
theorem zca_106 : ∀ a, a < 106 → lw_tbl[(zmr.getD a (0, 0, 0, 0, 0)).2.1]? = some (.code (zy a) (zbs a) (znl a) (zrt a)) := lt_s zca_105 zcd_105
theorem zca_107 : ∀ a, a < 107 → lw_tbl[(zmr.getD a (0, 0, 0, 0, 0)).2.1]? = some (.code (zy a) (zbs a) (znl a) (zrt a)) := lt_s zca_106 zcd_106
theorem zca_108 : ∀ a, a < 108 → lw_tbl[(zmr.getD a (0, 0, 0, 0, 0)).2.1]? = some (.code (zy a) (zbs a) (znl a) (zrt a)) := lt_s zca_107 zcd_107
theorem zca_109 : ∀ a, a < 109 → lw_tbl[(zmr.getD a (0, 0, 0, 0, 0)).2.1]? = some (.code (zy a) (zbs a) (znl a) (zrt a)) := lt_s zca_108 zcd_108
theorem zca_110 : ∀ a, a < 110 → lw_tbl[(zmr.getD a (0, 0, 0, 0, 0)).2.1]? = some (.code (zy a) (zbs a) (znl a) (zrt a)) := lt_s zca_109 zcd_109
theorem zca_111 : ∀ a, a < 111 → lw_tbl[(zmr.getD a (0, 0, 0, 0, 0)).2.1]? = some (.code (zy a) (zbs a) (znl a) (zrt a)) := lt_s zca_110 zcd_110
theorem zca_112 : ∀ a, a < 112 → lw_tbl[(zmr.getD a (0, 0, 0, 0, 0)).2.1]? = some (.code (zy a) (zbs a) (znl a) (zrt a)) := lt_s zca_111 zcd_111
theorem zca_113 : ∀ a, a < 113 → lw_tbl[(zmr.getD a (0, 0, 0, 0, 0)).2.1]? = some (.code (zy a) (zbs a) (znl a) (zrt a)) := lt_s zca_112 zcd_112
theorem zca_114 : ∀ a, a < 114 → lw_tbl[(zmr.getD a (0, 0, 0, 0, 0)).2.1]? = some (.code (zy a) (zbs a) (znl a) (zrt a)) := lt_s zca_113 zcd_113
theorem zca_115 : ∀ a, a < 115 → lw_tbl[(zmr.getD a (0, 0, 0, 0, 0)).2.1]? = some (.code (zy a) (zbs a) (znl a) (zrt a)) := lt_s zca_114 zcd_114
theorem zca_116 : ∀ a, a < 116 → lw_tbl[(zmr.getD a (0, 0, 0, 0, 0)).2.1]? = some (.code (zy a) (zbs a) (znl a) (zrt a)) := lt_s zca_115 zcd_115
theorem zca_117 : ∀ a, a < 117 → lw_tbl[(zmr.getD a (0, 0, 0, 0, 0)).2.1]? = some (.code (zy a) (zbs a) (znl a) (zrt a)) := lt_s zca_116 zcd_116
theorem zca_118 : ∀ a, a < 118 → lw_tbl[(zmr.getD a (0, 0, 0, 0, 0)).2.1]? = some (.code (zy a) (zbs a) (znl a) (zrt a)) := lt_s zca_117 zcd_117
theorem zca_119 : ∀ a, a < 119 → lw_tbl[(zmr.getD a (0, 0, 0, 0, 0)).2.1]? = some (.code (zy a) (zbs a) (znl a) (zrt a)) := lt_s zca_118 zcd_118
theorem zca_120 : ∀ a, a < 120 → lw_tbl[(zmr.getD a (0, 0, 0, 0, 0)).2.1]? = some (.code (zy a) (zbs a) (znl a) (zrt a)) := lt_s zca_119 zcd_119
theorem zca_121 : ∀ a, a < 121 → lw_tbl[(zmr.getD a (0, 0, 0, 0, 0)).2.1]? = some (.code (zy a) (zbs a) (znl a) (zrt a)) := lt_s zca_120 zcd_120
theorem zca_122 : ∀ a, a < 122 → lw_tbl[(zmr.getD a (0, 0, 0, 0, 0)).2.1]? = some (.code (zy a) (zbs a) (znl a) (zrt a)) := lt_s zca_121 zcd_121
theorem zca_123 : ∀ a, a < 123 → lw_tbl[(zmr.getD a (0, 0, 0, 0, 0)).2.1]? = some (.code (zy a) (zbs a) (znl a) (zrt a)) := lt_s zca_122 zcd_122
theorem zca_124 : ∀ a, a < 124 → lw_tbl[(zmr.getD a (0, 0, 0, 0, 0)).2.1]? = some (.code (zy a) (zbs a) (znl a) (zrt a)) := lt_s zca_123 zcd_123
theorem zca_125 : ∀ a, a < 125 → lw_tbl[(zmr.getD a (0, 0, 0, 0, 0)).2.1]? = some (.code (zy a) (zbs a) (znl a) (zrt a)) := lt_s zca_124 zcd_124
theorem zca_126 : ∀ a, a < 126 → lw_tbl[(zmr.getD a (0, 0, 0, 0, 0)).2.1]? = some (.code (zy a) (zbs a) (znl a) (zrt a)) := lt_s zca_125 zcd_125
theorem zca_127 : ∀ a, a < 127 → lw_tbl[(zmr.getD a (0, 0, 0, 0, 0)).2.1]? = some (.code (zy a) (zbs a) (znl a) (zrt a)) := lt_s zca_126 zcd_126
theorem zca_128 : ∀ a, a < 128 → lw_tbl[(zmr.getD a (0, 0, 0, 0, 0)).2.1]? = some (.code (zy a) (zbs a) (znl a) (zrt a)) := lt_s zca_127 zcd_127
theorem zca_129 : ∀ a, a < 129 → lw_tbl[(zmr.getD a (0, 0, 0, 0, 0)).2.1]? = some (.code (zy a) (zbs a) (znl a) (zrt a)) := lt_s zca_128 zcd_128
theorem zca_130 : ∀ a, a < 130 → lw_tbl[(zmr.getD a (0, 0, 0, 0, 0)).2.1]? = some (.code (zy a) (zbs a) (znl a) (zrt a)) := lt_s zca_129 zcd_129
theorem zca_131 : ∀ a, a < 131 → lw_tbl[(zmr.getD a (0, 0, 0, 0, 0)).2.1]? = some (.code (zy a) (zbs a) (znl a) (zrt a)) := lt_s zca_130 zcd_130
theorem zca_132 : ∀ a, a < 132 → lw_tbl[(zmr.getD a (0, 0, 0, 0, 0)).2.1]? = some (.code (zy a) (zbs a) (znl a) (zrt a)) := lt_s zca_131 zcd_131
theorem zca_133 : ∀ a, a < 133 → lw_tbl[(zmr.getD a (0, 0, 0, 0, 0)).2.1]? = some (.code (zy a) (zbs a) (znl a) (zrt a)) := lt_s zca_132 zcd_132
theorem zca_134 : ∀ a, a < 134 → lw_tbl[(zmr.getD a (0, 0, 0, 0, 0)).2.1]? = some (.code (zy a) (zbs a) (znl a) (zrt a)) := lt_s zca_133 zcd_133
theorem zca_135 : ∀ a, a < 135 → lw_tbl[(zmr.getD a (0, 0, 0, 0, 0)).2.1]? = some (.code (zy a) (zbs a) (znl a) (zrt a)) := lt_s zca_134 zcd_134
theorem zca_136 : ∀ a, a < 136 → lw_tbl[(zmr.getD a (0, 0, 0, 0, 0)).2.1]? = some (.code (zy a) (zbs a) (znl a) (zrt a)) := lt_s zca_135 zcd_135
theorem zca_137 : ∀ a, a < 137 → lw_tbl[(zmr.getD a (0, 0, 0, 0, 0)).2.1]? = some (.code (zy a) (zbs a) (znl a) (zrt a)) := lt_s zca_136 zcd_136
theorem zca_138 : ∀ a, a < 138 → lw_tbl[(zmr.getD a (0, 0, 0, 0, 0)).2.1]? = some (.code (zy a) (zbs a) (znl a) (zrt a)) := lt_s zca_137 zcd_137
theorem zca_139 : ∀ a, a < 139 → lw_tbl[(zmr.getD a (0, 0, 0, 0, 0)).2.1]? = some (.code (zy a) (zbs a) (znl a) (zrt a)) := lt_s zca_138 zcd_138
theorem zca_140 : ∀ a, a < 140 → lw_tbl[(zmr.getD a (0, 0, 0, 0, 0)).2.1]? = some (.code (zy a) (zbs a) (znl a) (zrt a)) := lt_s zca_139 zcd_139
theorem zca_141 : ∀ a, a < 141 → lw_tbl[(zmr.getD a (0, 0, 0, 0, 0)).2.1]? = some (.code (zy a) (zbs a) (znl a) (zrt a)) := lt_s zca_140 zcd_140
theorem zca_142 : ∀ a, a < 142 → lw_tbl[(zmr.getD a (0, 0, 0, 0, 0)).2.1]? = some (.code (zy a) (zbs a) (znl a) (zrt a)) := lt_s zca_141 zcd_141
theorem zca_143 : ∀ a, a < 143 → lw_tbl[(zmr.getD a (0, 0, 0, 0, 0)).2.1]? = some (.code (zy a) (zbs a) (znl a) (zrt a)) := lt_s zca_142 zcd_142
theorem zca_144 : ∀ a, a < 144 → lw_tbl[(zmr.getD a (0, 0, 0, 0, 0)).2.1]? = some (.code (zy a) (zbs a) (znl a) (zrt a)) := lt_s zca_143 zcd_143
theorem zca_145 : ∀ a, a < 145 → lw_tbl[(zmr.getD a (0, 0, 0, 0, 0)).2.1]? = some (.code (zy a) (zbs a) (znl a) (zrt a)) := lt_s zca_144 zcd_144
theorem zca_146 : ∀ a, a < 146 → lw_tbl[(zmr.getD a (0, 0, 0, 0, 0)).2.1]? = some (.code (zy a) (zbs a) (znl a) (zrt a)) := lt_s zca_145 zcd_145
theorem zca_147 : ∀ a, a < 147 → lw_tbl[(zmr.getD a (0, 0, 0, 0, 0)).2.1]? = some (.code (zy a) (zbs a) (znl a) (zrt a)) := lt_s zca_146 zcd_146
theorem zca_148 : ∀ a, a < 148 → lw_tbl[(zmr.getD a (0, 0, 0, 0, 0)).2.1]? = some (.code (zy a) (zbs a) (znl a) (zrt a)) := lt_s zca_147 zcd_147
theorem zca_149 : ∀ a, a < 149 → lw_tbl[(zmr.getD a (0, 0, 0, 0, 0)).2.1]? = some (.code (zy a) (zbs a) (znl a) (zrt a)) := lt_s zca_148 zcd_148
theorem zca_150 : ∀ a, a < 150 → lw_tbl[(zmr.getD a (0, 0, 0, 0, 0)).2.1]? = some (.code (zy a) (zbs a) (znl a) (zrt a)) := lt_s zca_149 zcd_149
theorem zca_151 : ∀ a, a < 151 → lw_tbl[(zmr.getD a (0, 0, 0, 0, 0)).2.1]? = some (.code (zy a) (zbs a) (znl a) (zrt a)) := lt_s zca_150 zcd_150
theorem zca_152 : ∀ a, a < 152 → lw_tbl[(zmr.getD a (0, 0, 0, 0, 0)).2.1]? = some (.code (zy a) (zbs a) (znl a) (zrt a)) := lt_s zca_151 zcd_151
theorem zca_153 : ∀ a, a < 153 → lw_tbl[(zmr.getD a (0, 0, 0, 0, 0)).2.1]? = some (.code (zy a) (zbs a) (znl a) (zrt a)) := lt_s zca_152 zcd_152
theorem zca_154 : ∀ a, a < 154 → lw_tbl[(zmr.getD a (0, 0, 0, 0, 0)).2.1]? = some (.code (zy a) (zbs a) (znl a) (zrt a)) := lt_s zca_153 zcd_153
theorem zca_155 : ∀ a, a < 155 → lw_tbl[(zmr.getD a (0, 0, 0, 0, 0)).2.1]? = some (.code (zy a) (zbs a) (znl a) (zrt a)) := lt_s zca_154 zcd_154
theorem zca_156 : ∀ a, a < 156 → lw_tbl[(zmr.getD a (0, 0, 0, 0, 0)).2.1]? = some (.code (zy a) (zbs a) (znl a) (zrt a)) := lt_s zca_155 zcd_155
theorem zca_157 : ∀ a, a < 157 → lw_tbl[(zmr.getD a (0, 0, 0, 0, 0)).2.1]? = some (.code (zy a) (zbs a) (znl a) (zrt a)) := lt_s zca_156 zcd_156
theorem zca_158 : ∀ a, a < 158 → lw_tbl[(zmr.getD a (0, 0, 0, 0, 0)).2.1]? = some (.code (zy a) (zbs a) (znl a) (zrt a)) := lt_s zca_157 zcd_157
theorem zca_159 : ∀ a, a < 159 → lw_tbl[(zmr.getD a (0, 0, 0, 0, 0)).2.1]? = some (.code (zy a) (zbs a) (znl a) (zrt a)) := lt_s zca_158 zcd_158
theorem zca_160 : ∀ a, a < 160 → lw_tbl[(zmr.getD a (0, 0, 0, 0, 0)).2.1]? = some (.code (zy a) (zbs a) (znl a) (zrt a)) := lt_s zca_159 zcd_159
theorem zca_161 : ∀ a, a < 161 → lw_tbl[(zmr.getD a (0, 0, 0, 0, 0)).2.1]? = some (.code (zy a) (zbs a) (znl a) (zrt a)) := lt_s zca_160 zcd_160
theorem zca_162 : ∀ a, a < 162 → lw_tbl[(zmr.getD a (0, 0, 0, 0, 0)).2.1]? = some (.code (zy a) (zbs a) (znl a) (zrt a)) := lt_s zca_161 zcd_161
theorem zca_163 : ∀ a, a < 163 → lw_tbl[(zmr.getD a (0, 0, 0, 0, 0)).2.1]? = some (.code (zy a) (zbs a) (znl a) (zrt a)) := lt_s zca_162 zcd_162
theorem zca_164 : ∀ a, a < 164 → lw_tbl[(zmr.getD a (0, 0, 0, 0, 0)).2.1]? = some (.code (zy a) (zbs a) (znl a) (zrt a)) := lt_s zca_163 zcd_163
theorem zca_165 : ∀ a, a < 165 → lw_tbl[(zmr.getD a (0, 0, 0, 0, 0)).2.1]? = some (.code (zy a) (zbs a) (znl a) (zrt a)) := lt_s zca_164 zcd_164
theorem zca_166 : ∀ a, a < 166 → lw_tbl[(zmr.getD a (0, 0, 0, 0, 0)).2.1]? = some (.code (zy a) (zbs a) (znl a) (zrt a)) := lt_s zca_165 zcd_165
theorem zca_167 : ∀ a, a < 167 → lw_tbl[(zmr.getD a (0, 0, 0, 0, 0)).2.1]? = some (.code (zy a) (zbs a) (znl a) (zrt a)) := lt_s zca_166 zcd_166
theorem zca_168 : ∀ a, a < 168 → lw_tbl[(zmr.getD a (0, 0, 0, 0, 0)).2.1]? = some (.code (zy a) (zbs a) (znl a) (zrt a)) := lt_s zca_167 zcd_167
theorem zca_169 : ∀ a, a < 169 → lw_tbl[(zmr.getD a (0, 0, 0, 0, 0)).2.1]? = some (.code (zy a) (zbs a) (znl a) (zrt a)) := lt_s zca_168 zcd_168
theorem zca_170 : ∀ a, a < 170 → lw_tbl[(zmr.getD a (0, 0, 0, 0, 0)).2.1]? = some (.code (zy a) (zbs a) (znl a) (zrt a)) := lt_s zca_169 zcd_169
theorem zca_171 : ∀ a, a < 171 → lw_tbl[(zmr.getD a (0, 0, 0, 0, 0)).2.1]? = some (.code (zy a) (zbs a) (znl a) (zrt a)) := lt_s zca_170 zcd_170
theorem zca_172 : ∀ a, a < 172 → lw_tbl[(zmr.getD a (0, 0, 0, 0, 0)).2.1]? = some (.code (zy a) (zbs a) (znl a) (zrt a)) := lt_s zca_171 zcd_171
theorem zca_173 : ∀ a, a < 173 → lw_tbl[(zmr.getD a (0, 0, 0, 0, 0)).2.1]? = some (.code (zy a) (zbs a) (znl a) (zrt a)) := lt_s zca_172 zcd_172
theorem zca_174 : ∀ a, a < 174 → lw_tbl[(zmr.getD a (0, 0, 0, 0, 0)).2.1]? = some (.code (zy a) (zbs a) (znl a) (zrt a)) := lt_s zca_173 zcd_173
theorem zca_175 : ∀ a, a < 175 → lw_tbl[(zmr.getD a (0, 0, 0, 0, 0)).2.1]? = some (.code (zy a) (zbs a) (znl a) (zrt a)) := lt_s zca_174 zcd_174
theorem zca_176 : ∀ a, a < 176 → lw_tbl[(zmr.getD a (0, 0, 0, 0, 0)).2.1]? = some (.code (zy a) (zbs a) (znl a) (zrt a)) := lt_s zca_175 zcd_175
theorem zca_177 : ∀ a, a < 177 → lw_tbl[(zmr.getD a (0, 0, 0, 0, 0)).2.1]? = some (.code (zy a) (zbs a) (znl a) (zrt a)) := lt_s zca_176 zcd_176
theorem zca_178 : ∀ a, a < 178 → lw_tbl[(zmr.getD a (0, 0, 0, 0, 0)).2.1]? = some (.code (zy a) (zbs a) (znl a) (zrt a)) := lt_s zca_177 zcd_177
theorem zca_179 : ∀ a, a < 179 → lw_tbl[(zmr.getD a (0, 0, 0, 0, 0)).2.1]? = some (.code (zy a) (zbs a) (znl a) (zrt a)) := lt_s zca_178 zcd_178
theorem zca_180 : ∀ a, a < 180 → lw_tbl[(zmr.getD a (0, 0, 0, 0, 0)).2.1]? = some (.code (zy a) (zbs a) (znl a) (zrt a)) := lt_s zca_179 zcd_179
theorem zca_181 : ∀ a, a < 181 → lw_tbl[(zmr.getD a (0, 0, 0, 0, 0)).2.1]? = some (.code (zy a) (zbs a) (znl a) (zrt a)) := lt_s zca_180 zcd_180
theorem zca_182 : ∀ a, a < 182 → lw_tbl[(zmr.getD a (0, 0, 0, 0, 0)).2.1]? = some (.code (zy a) (zbs a) (znl a) (zrt a)) := lt_s zca_181 zcd_181
theorem zca_183 : ∀ a, a < 183 → lw_tbl[(zmr.getD a (0, 0, 0, 0, 0)).2.1]? = some (.code (zy a) (zbs a) (znl a) (zrt a)) := lt_s zca_182 zcd_182
theorem zca_184 : ∀ a, a < 184 → lw_tbl[(zmr.getD a (0, 0, 0, 0, 0)).2.1]? = some (.code (zy a) (zbs a) (znl a) (zrt a)) := lt_s zca_183 zcd_183
theorem zca_185 : ∀ a, a < 185 → lw_tbl[(zmr.getD a (0, 0, 0, 0, 0)).2.1]? = some (.code (zy a) (zbs a) (znl a) (zrt a)) := lt_s zca_184 zcd_184
theorem zca_186 : ∀ a, a < 186 → lw_tbl[(zmr.getD a (0, 0, 0, 0, 0)).2.1]? = some (.code (zy a) (zbs a) (znl a) (zrt a)) := lt_s zca_185 zcd_185
theorem zca_187 : ∀ a, a < 187 → lw_tbl[(zmr.getD a (0, 0, 0, 0, 0)).2.1]? = some (.code (zy a) (zbs a) (znl a) (zrt a)) := lt_s zca_186 zcd_186
theorem zca_188 : ∀ a, a < 188 → lw_tbl[(zmr.getD a (0, 0, 0, 0, 0)).2.1]? = some (.code (zy a) (zbs a) (znl a) (zrt a)) := lt_s zca_187 zcd_187
theorem zca_189 : ∀ a, a < 189 → lw_tbl[(zmr.getD a (0, 0, 0, 0, 0)).2.1]? = some (.code (zy a) (zbs a) (znl a) (zrt a)) := lt_s zca_188 zcd_188
theorem zca_190 : ∀ a, a < 190 → lw_tbl[(zmr.getD a (0, 0, 0, 0, 0)).2.1]? = some (.code (zy a) (zbs a) (znl a) (zrt a)) := lt_s zca_189 zcd_189
theorem zca_191 : ∀ a, a < 191 → lw_tbl[(zmr.getD a (0, 0, 0, 0, 0)).2.1]? = some (.code (zy a) (zbs a) (znl a) (zrt a)) := lt_s zca_190 zcd_190
theorem zca_192 : ∀ a, a < 192 → lw_tbl[(zmr.getD a (0, 0, 0, 0, 0)).2.1]? = some (.code (zy a) (zbs a) (znl a) (zrt a)) := lt_s zca_191 zcd_191
theorem zca_193 : ∀ a, a < 193 → lw_tbl[(zmr.getD a (0, 0, 0, 0, 0)).2.1]? = some (.code (zy a) (zbs a) (znl a) (zrt a)) := lt_s zca_192 zcd_192
theorem zca_194 : ∀ a, a < 194 → lw_tbl[(zmr.getD a (0, 0, 0, 0, 0)).2.1]? = some (.code (zy a) (zbs a) (znl a) (zrt a)) := lt_s zca_193 zcd_193
theorem zca_195 : ∀ a, a < 195 → lw_tbl[(zmr.getD a (0, 0, 0, 0, 0)).2.1]? = some (.code (zy a) (zbs a) (znl a) (zrt a)) := lt_s zca_194 zcd_194
theorem zca_196 : ∀ a, a < 196 → lw_tbl[(zmr.getD a (0, 0, 0, 0, 0)).2.1]? = some (.code (zy a) (zbs a) (znl a) (zrt a)) := lt_s zca_195 zcd_195
theorem zca_197 : ∀ a, a < 197 → lw_tbl[(zmr.getD a (0, 0, 0, 0, 0)).2.1]? = some (.code (zy a) (zbs a) (znl a) (zrt a)) := lt_s zca_196 zcd_196
theorem zca_198 : ∀ a, a < 198 → lw_tbl[(zmr.getD a (0, 0, 0, 0, 0)).2.1]? = some (.code (zy a) (zbs a) (znl a) (zrt a)) := lt_s zca_197 zcd_197
theorem zca_199 : ∀ a, a < 199 → lw_tbl[(zmr.getD a (0, 0, 0, 0, 0)).2.1]? = some (.code (zy a) (zbs a) (znl a) (zrt a)) := lt_s zca_198 zcd_198
theorem zca_200 : ∀ a, a < 200 → lw_tbl[(zmr.getD a (0, 0, 0, 0, 0)).2.1]? = some (.code (zy a) (zbs a) (znl a) (zrt a)) := lt_s zca_199 zcd_199
theorem zca_201 : ∀ a, a < 201 → lw_tbl[(zmr.getD a (0, 0, 0, 0, 0)).2.1]? = some (.code (zy a) (zbs a) (znl a) (zrt a)) := lt_s zca_200 zcd_200
theorem zca_202 : ∀ a, a < 202 → lw_tbl[(zmr.getD a (0, 0, 0, 0, 0)).2.1]? = some (.code (zy a) (zbs a) (znl a) (zrt a)) := lt_s zca_201 zcd_201
theorem zca_203 : ∀ a, a < 203 → lw_tbl[(zmr.getD a (0, 0, 0, 0, 0)).2.1]? = some (.code (zy a) (zbs a) (znl a) (zrt a)) := lt_s zca_202 zcd_202
theorem zca_204 : ∀ a, a < 204 → lw_tbl[(zmr.getD a (0, 0, 0, 0, 0)).2.1]? = some (.code (zy a) (zbs a) (znl a) (zrt a)) := lt_s zca_203 zcd_203
theorem zca_205 : ∀ a, a < 205 → lw_tbl[(zmr.getD a (0, 0, 0, 0, 0)).2.1]? = some (.code (zy a) (zbs a) (znl a) (zrt a)) := lt_s zca_204 zcd_204
theorem zca_206 : ∀ a, a < 206 → lw_tbl[(zmr.getD a (0, 0, 0, 0, 0)).2.1]? = some (.code (zy a) (zbs a) (znl a) (zrt a)) := lt_s zca_205 zcd_205
theorem zca_207 : ∀ a, a < 207 → lw_tbl[(zmr.getD a (0, 0, 0, 0, 0)).2.1]? = some (.code (zy a) (zbs a) (znl a) (zrt a)) := lt_s zca_206 zcd_206
theorem zca_208 : ∀ a, a < 208 → lw_tbl[(zmr.getD a (0, 0, 0, 0, 0)).2.1]? = some (.code (zy a) (zbs a) (znl a) (zrt a)) := lt_s zca_207 zcd_207
theorem zca_209 : ∀ a, a < 209 → lw_tbl[(zmr.getD a (0, 0, 0, 0, 0)).2.1]? = some (.code (zy a) (zbs a) (znl a) (zrt a)) := lt_s zca_208 zcd_208
theorem zca_210 : ∀ a, a < 210 → lw_tbl[(zmr.getD a (0, 0, 0, 0, 0)).2.1]? = some (.code (zy a) (zbs a) (znl a) (zrt a)) := lt_s zca_209 zcd_209
theorem zca_211 : ∀ a, a < 211 → lw_tbl[(zmr.getD a (0, 0, 0, 0, 0)).2.1]? = some (.code (zy a) (zbs a) (znl a) (zrt a)) := lt_s zca_210 zcd_210
theorem zca_212 : ∀ a, a < 212 → lw_tbl[(zmr.getD a (0, 0, 0, 0, 0)).2.1]? = some (.code (zy a) (zbs a) (znl a) (zrt a)) := lt_s zca_211 zcd_211
theorem zca_213 : ∀ a, a < 213 → lw_tbl[(zmr.getD a (0, 0, 0, 0, 0)).2.1]? = some (.code (zy a) (zbs a) (znl a) (zrt a)) := lt_s zca_212 zcd_212
theorem zca_214 : ∀ a, a < 214 → lw_tbl[(zmr.getD a (0, 0, 0, 0, 0)).2.1]? = some (.code (zy a) (zbs a) (znl a) (zrt a)) := lt_s zca_213 zcd_213
theorem zca_215 : ∀ a, a < 215 → lw_tbl[(zmr.getD a (0, 0, 0, 0, 0)).2.1]? = some (.code (zy a) (zbs a) (znl a) (zrt a)) := lt_s zca_214 zcd_214
theorem zca_216 : ∀ a, a < 216 → lw_tbl[(zmr.getD a (0, 0, 0, 0, 0)).2.1]? = some (.code (zy a) (zbs a) (znl a) (zrt a)) := lt_s zca_215 zcd_215
theorem zca_217 : ∀ a, a < 217 → lw_tbl[(zmr.getD a (0, 0, 0, 0, 0)).2.1]? = some (.code (zy a) (zbs a) (znl a) (zrt a)) := lt_s zca_216 zcd_216
theorem zca_218 : ∀ a, a < 218 → lw_tbl[(zmr.getD a (0, 0, 0, 0, 0)).2.1]? = some (.code (zy a) (zbs a) (znl a) (zrt a)) := lt_s zca_217 zcd_217
theorem zca_219 : ∀ a, a < 219 → lw_tbl[(zmr.getD a (0, 0, 0, 0, 0)).2.1]? = some (.code (zy a) (zbs a) (znl a) (zrt a)) := lt_s zca_218 zcd_218
theorem zca_220 : ∀ a, a < 220 → lw_tbl[(zmr.getD a (0, 0, 0, 0, 0)).2.1]? = some (.code (zy a) (zbs a) (znl a) (zrt a)) := lt_s zca_219 zcd_219
theorem zca_221 : ∀ a, a < 221 → lw_tbl[(zmr.getD a (0, 0, 0, 0, 0)).2.1]? = some (.code (zy a) (zbs a) (znl a) (zrt a)) := lt_s zca_220 zcd_220
theorem zca_222 : ∀ a, a < 222 → lw_tbl[(zmr.getD a (0, 0, 0, 0, 0)).2.1]? = some (.code (zy a) (zbs a) (znl a) (zrt a)) := lt_s zca_221 zcd_221
theorem zca_223 : ∀ a, a < 223 → lw_tbl[(zmr.getD a (0, 0, 0, 0, 0)).2.1]? = some (.code (zy a) (zbs a) (znl a) (zrt a)) := lt_s zca_222 zcd_222
theorem zca_224 : ∀ a, a < 224 → lw_tbl[(zmr.getD a (0, 0, 0, 0, 0)).2.1]? = some (.code (zy a) (zbs a) (znl a) (zrt a)) := lt_s zca_223 zcd_223
theorem zca_225 : ∀ a, a < 225 → lw_tbl[(zmr.getD a (0, 0, 0, 0, 0)).2.1]? = some (.code (zy a) (zbs a) (znl a) (zrt a)) := lt_s zca_224 zcd_224
theorem zca_226 : ∀ a, a < 226 → lw_tbl[(zmr.getD a (0, 0, 0, 0, 0)).2.1]? = some (.code (zy a) (zbs a) (znl a) (zrt a)) := lt_s zca_225 zcd_225
theorem zca_227 : ∀ a, a < 227 → lw_tbl[(zmr.getD a (0, 0, 0, 0, 0)).2.1]? = some (.code (zy a) (zbs a) (znl a) (zrt a)) := lt_s zca_226 zcd_226
theorem zca_228 : ∀ a, a < 228 → lw_tbl[(zmr.getD a (0, 0, 0, 0, 0)).2.1]? = some (.code (zy a) (zbs a) (znl a) (zrt a)) := lt_s zca_227 zcd_227
theorem zca_229 : ∀ a, a < 229 → lw_tbl[(zmr.getD a (0, 0, 0, 0, 0)).2.1]? = some (.code (zy a) (zbs a) (znl a) (zrt a)) := lt_s zca_228 zcd_228
theorem zca_230 : ∀ a, a < 230 → lw_tbl[(zmr.getD a (0, 0, 0, 0, 0)).2.1]? = some (.code (zy a) (zbs a) (znl a) (zrt a)) := lt_s zca_229 zcd_229
theorem zca_231 : ∀ a, a < 231 → lw_tbl[(zmr.getD a (0, 0, 0, 0, 0)).2.1]? = some (.code (zy a) (zbs a) (znl a) (zrt a)) := lt_s zca_230 zcd_230
theorem zca_232 : ∀ a, a < 232 → lw_tbl[(zmr.getD a (0, 0, 0, 0, 0)).2.1]? = some (.code (zy a) (zbs a) (znl a) (zrt a)) := lt_s zca_231 zcd_231
theorem zca_233 : ∀ a, a < 233 → lw_tbl[(zmr.getD a (0, 0, 0, 0, 0)).2.1]? = some (.code (zy a) (zbs a) (znl a) (zrt a)) := lt_s zca_232 zcd_232
theorem zca_234 : ∀ a, a < 234 → lw_tbl[(zmr.getD a (0, 0, 0, 0, 0)).2.1]? = some (.code (zy a) (zbs a) (znl a) (zrt a)) := lt_s zca_233 zcd_233
theorem zca_235 : ∀ a, a < 235 → lw_tbl[(zmr.getD a (0, 0, 0, 0, 0)).2.1]? = some (.code (zy a) (zbs a) (znl a) (zrt a)) := lt_s zca_234 zcd_234
theorem zca_236 : ∀ a, a < 236 → lw_tbl[(zmr.getD a (0, 0, 0, 0, 0)).2.1]? = some (.code (zy a) (zbs a) (znl a) (zrt a)) := lt_s zca_235 zcd_235
theorem zca_237 : ∀ a, a < 237 → lw_tbl[(zmr.getD a (0, 0, 0, 0, 0)).2.1]? = some (.code (zy a) (zbs a) (znl a) (zrt a)) := lt_s zca_236 zcd_236
theorem zca_238 : ∀ a, a < 238 → lw_tbl[(zmr.getD a (0, 0, 0, 0, 0)).2.1]? = some (.code (zy a) (zbs a) (znl a) (zrt a)) := lt_s zca_237 zcd_237
theorem zca_239 : ∀ a, a < 239 → lw_tbl[(zmr.getD a (0, 0, 0, 0, 0)).2.1]? = some (.code (zy a) (zbs a) (znl a) (zrt a)) := lt_s zca_238 zcd_238
theorem zca_240 : ∀ a, a < 240 → lw_tbl[(zmr.getD a (0, 0, 0, 0, 0)).2.1]? = some (.code (zy a) (zbs a) (znl a) (zrt a)) := lt_s zca_239 zcd_239
theorem zca_241 : ∀ a, a < 241 → lw_tbl[(zmr.getD a (0, 0, 0, 0, 0)).2.1]? = some (.code (zy a) (zbs a) (znl a) (zrt a)) := lt_s zca_240 zcd_240
theorem zca_242 : ∀ a, a < 242 → lw_tbl[(zmr.getD a (0, 0, 0, 0, 0)).2.1]? = some (.code (zy a) (zbs a) (znl a) (zrt a)) := lt_s zca_241 zcd_241
theorem zca_243 : ∀ a, a < 243 → lw_tbl[(zmr.getD a (0, 0, 0, 0, 0)).2.1]? = some (.code (zy a) (zbs a) (znl a) (zrt a)) := lt_s zca_242 zcd_242
theorem zca_244 : ∀ a, a < 244 → lw_tbl[(zmr.getD a (0, 0, 0, 0, 0)).2.1]? = some (.code (zy a) (zbs a) (znl a) (zrt a)) := lt_s zca_243 zcd_243
theorem zca_245 : ∀ a, a < 245 → lw_tbl[(zmr.getD a (0, 0, 0, 0, 0)).2.1]? = some (.code (zy a) (zbs a) (znl a) (zrt a)) := lt_s zca_244 zcd_244
theorem zca_246 : ∀ a, a < 246 → lw_tbl[(zmr.getD a (0, 0, 0, 0, 0)).2.1]? = some (.code (zy a) (zbs a) (znl a) (zrt a)) := lt_s zca_245 zcd_245
theorem zca_247 : ∀ a, a < 247 → lw_tbl[(zmr.getD a (0, 0, 0, 0, 0)).2.1]? = some (.code (zy a) (zbs a) (znl a) (zrt a)) := lt_s zca_246 zcd_246
theorem zca_248 : ∀ a, a < 248 → lw_tbl[(zmr.getD a (0, 0, 0, 0, 0)).2.1]? = some (.code (zy a) (zbs a) (znl a) (zrt a)) := lt_s zca_247 zcd_247
theorem zca_249 : ∀ a, a < 249 → lw_tbl[(zmr.getD a (0, 0, 0, 0, 0)).2.1]? = some (.code (zy a) (zbs a) (znl a) (zrt a)) := lt_s zca_248 zcd_248
theorem zca_250 : ∀ a, a < 250 → lw_tbl[(zmr.getD a (0, 0, 0, 0, 0)).2.1]? = some (.code (zy a) (zbs a) (znl a) (zrt a)) := lt_s zca_249 zcd_249
theorem zca_251 : ∀ a, a < 251 → lw_tbl[(zmr.getD a (0, 0, 0, 0, 0)).2.1]? = some (.code (zy a) (zbs a) (znl a) (zrt a)) := lt_s zca_250 zcd_250
theorem zca_252 : ∀ a, a < 252 → lw_tbl[(zmr.getD a (0, 0, 0, 0, 0)).2.1]? = some (.code (zy a) (zbs a) (znl a) (zrt a)) := lt_s zca_251 zcd_251
theorem zca_253 : ∀ a, a < 253 → lw_tbl[(zmr.getD a (0, 0, 0, 0, 0)).2.1]? = some (.code (zy a) (zbs a) (znl a) (zrt a)) := lt_s zca_252 zcd_252
theorem zca_254 : ∀ a, a < 254 → lw_tbl[(zmr.getD a (0, 0, 0, 0, 0)).2.1]? = some (.code (zy a) (zbs a) (znl a) (zrt a)) := lt_s zca_253 zcd_253
theorem zca_255 : ∀ a, a < 255 → lw_tbl[(zmr.getD a (0, 0, 0, 0, 0)).2.1]? = some (.code (zy a) (zbs a) (znl a) (zrt a)) := lt_s zca_254 zcd_254
theorem zca_256 : ∀ a, a < 256 → lw_tbl[(zmr.getD a (0, 0, 0, 0, 0)).2.1]? = some (.code (zy a) (zbs a) (znl a) (zrt a)) := lt_s zca_255 zcd_255
theorem zca_257 : ∀ a, a < 257 → lw_tbl[(zmr.getD a (0, 0, 0, 0, 0)).2.1]? = some (.code (zy a) (zbs a) (znl a) (zrt a)) := lt_s zca_256 zcd_256
theorem zca_258 : ∀ a, a < 258 → lw_tbl[(zmr.getD a (0, 0, 0, 0, 0)).2.1]? = some (.code (zy a) (zbs a) (znl a) (zrt a)) := lt_s zca_257 zcd_257
theorem zca_259 : ∀ a, a < 259 → lw_tbl[(zmr.getD a (0, 0, 0, 0, 0)).2.1]? = some (.code (zy a) (zbs a) (znl a) (zrt a)) := lt_s zca_258 zcd_258
theorem zca_260 : ∀ a, a < 260 → lw_tbl[(zmr.getD a (0, 0, 0, 0, 0)).2.1]? = some (.code (zy a) (zbs a) (znl a) (zrt a)) := lt_s zca_259 zcd_259
theorem zca_261 : ∀ a, a < 261 → lw_tbl[(zmr.getD a (0, 0, 0, 0, 0)).2.1]? = some (.code (zy a) (zbs a) (znl a) (zrt a)) := lt_s zca_260 zcd_260
theorem zca_262 : ∀ a, a < 262 → lw_tbl[(zmr.getD a (0, 0, 0, 0, 0)).2.1]? = some (.code (zy a) (zbs a) (znl a) (zrt a)) := lt_s zca_261 zcd_261
theorem zca_263 : ∀ a, a < 263 → lw_tbl[(zmr.getD a (0, 0, 0, 0, 0)).2.1]? = some (.code (zy a) (zbs a) (znl a) (zrt a)) := lt_s zca_262 zcd_262
theorem zca_264 : ∀ a, a < 264 → lw_tbl[(zmr.getD a (0, 0, 0, 0, 0)).2.1]? = some (.code (zy a) (zbs a) (znl a) (zrt a)) := lt_s zca_263 zcd_263
theorem zca_265 : ∀ a, a < 265 → lw_tbl[(zmr.getD a (0, 0, 0, 0, 0)).2.1]? = some (.code (zy a) (zbs a) (znl a) (zrt a)) := lt_s zca_264 zcd_264
theorem zca_266 : ∀ a, a < 266 → lw_tbl[(zmr.getD a (0, 0, 0, 0, 0)).2.1]? = some (.code (zy a) (zbs a) (znl a) (zrt a)) := lt_s zca_265 zcd_265
theorem zca_267 : ∀ a, a < 267 → lw_tbl[(zmr.getD a (0, 0, 0, 0, 0)).2.1]? = some (.code (zy a) (zbs a) (znl a) (zrt a)) := lt_s zca_266 zcd_266
theorem zca_268 : ∀ a, a < 268 → lw_tbl[(zmr.getD a (0, 0, 0, 0, 0)).2.1]? = some (.code (zy a) (zbs a) (znl a) (zrt a)) := lt_s zca_267 zcd_267
theorem zca_269 : ∀ a, a < 269 → lw_tbl[(zmr.getD a (0, 0, 0, 0, 0)).2.1]? = some (.code (zy a) (zbs a) (znl a) (zrt a)) := lt_s zca_268 zcd_268
theorem zca_270 : ∀ a, a < 270 → lw_tbl[(zmr.getD a (0, 0, 0, 0, 0)).2.1]? = some (.code (zy a) (zbs a) (znl a) (zrt a)) := lt_s zca_269 zcd_269
theorem zca_271 : ∀ a, a < 271 → lw_tbl[(zmr.getD a (0, 0, 0, 0, 0)).2.1]? = some (.code (zy a) (zbs a) (znl a) (zrt a)) := lt_s zca_270 zcd_270
theorem zca_272 : ∀ a, a < 272 → lw_tbl[(zmr.getD a (0, 0, 0, 0, 0)).2.1]? = some (.code (zy a) (zbs a) (znl a) (zrt a)) := lt_s zca_271 zcd_271
theorem zca_273 : ∀ a, a < 273 → lw_tbl[(zmr.getD a (0, 0, 0, 0, 0)).2.1]? = some (.code (zy a) (zbs a) (znl a) (zrt a)) := lt_s zca_272 zcd_272
theorem zca_274 : ∀ a, a < 274 → lw_tbl[(zmr.getD a (0, 0, 0, 0, 0)).2.1]? = some (.code (zy a) (zbs a) (znl a) (zrt a)) := lt_s zca_273 zcd_273
theorem zca_275 : ∀ a, a < 275 → lw_tbl[(zmr.getD a (0, 0, 0, 0, 0)).2.1]? = some (.code (zy a) (zbs a) (znl a) (zrt a)) := lt_s zca_274 zcd_274
theorem zca_276 : ∀ a, a < 276 → lw_tbl[(zmr.getD a (0, 0, 0, 0, 0)).2.1]? = some (.code (zy a) (zbs a) (znl a) (zrt a)) := lt_s zca_275 zcd_275
theorem zca_277 : ∀ a, a < 277 → lw_tbl[(zmr.getD a (0, 0, 0, 0, 0)).2.1]? = some (.code (zy a) (zbs a) (znl a) (zrt a)) := lt_s zca_276 zcd_276
theorem zca_278 : ∀ a, a < 278 → lw_tbl[(zmr.getD a (0, 0, 0, 0, 0)).2.1]? = some (.code (zy a) (zbs a) (znl a) (zrt a)) := lt_s zca_277 zcd_277
theorem zca_279 : ∀ a, a < 279 → lw_tbl[(zmr.getD a (0, 0, 0, 0, 0)).2.1]? = some (.code (zy a) (zbs a) (znl a) (zrt a)) := lt_s zca_278 zcd_278
theorem zca_280 : ∀ a, a < 280 → lw_tbl[(zmr.getD a (0, 0, 0, 0, 0)).2.1]? = some (.code (zy a) (zbs a) (znl a) (zrt a)) := lt_s zca_279 zcd_279
theorem zca_281 : ∀ a, a < 281 → lw_tbl[(zmr.getD a (0, 0, 0, 0, 0)).2.1]? = some (.code (zy a) (zbs a) (znl a) (zrt a)) := lt_s zca_280 zcd_280
theorem zca_282 : ∀ a, a < 282 → lw_tbl[(zmr.getD a (0, 0, 0, 0, 0)).2.1]? = some (.code (zy a) (zbs a) (znl a) (zrt a)) := lt_s zca_281 zcd_281
theorem zca_283 : ∀ a, a < 283 → lw_tbl[(zmr.getD a (0, 0, 0, 0, 0)).2.1]? = some (.code (zy a) (zbs a) (znl a) (zrt a)) := lt_s zca_282 zcd_282
end
section
/-! THE ABSTRACT MACHINE: cells by number (the order in which they are made), ints, longs and references apart; a method's run as a predicate transformer -/
abbrev zF : Type := Nat × Nat × (Nat → Nat ⊕ (Nat × Nat)) × (Nat → Nat → Option Nat)
abbrev zM : Type := zF × (Nat → Nat → Int32) × (Nat → Nat → Int64)
abbrev zQ : Type := zM → Option Value → Prop
abbrev zX : Type := Nat → List Value → List Value → zM → Prop
abbrev zC : Type := Nat → zM → List Value → zQ → Prop
def zup {α : Type} (f : Nat → Nat → α) (c j : Nat) (v : α) : Nat → Nat → α := fun c' j' => if c' = c then (if j' = j then v else f c' j') else f c' j'
def zrow {α : Type} (f : Nat → Nat → α) (c : Nat) (g : Nat → α) : Nat → Nat → α := fun c' j' => if c' = c then g j' else f c' j'
def zn (M : zM) : Nat := M.1.1
def zsl (M : zM) : Nat := M.1.2.1
def zS (M : zM) (c : Nat) : Nat ⊕ (Nat × Nat) := M.1.2.2.1 c
def zR (M : zM) (c j : Nat) : Option Nat := M.1.2.2.2 c j
def zI (M : zM) (c j : Nat) : Int32 := M.2.1 c j
def zL (M : zM) (c j : Nat) : Int64 := M.2.2 c j
def zwI (M : zM) (c j : Nat) (v : Int32) : zM := (M.1, zup M.2.1 c j v, M.2.2)
def zwL (M : zM) (c j : Nat) (v : Int64) : zM := (M.1, M.2.1, zup M.2.2 c j v)
def zwR (M : zM) (c j : Nat) (v : Option Nat) : zM := ((M.1.1, M.1.2.1, M.1.2.2.1, zup M.1.2.2.2 c j v), M.2.1, M.2.2)
/-- a new cell of that shape and so many slots -/
def znew (M : zM) (sh : Nat ⊕ (Nat × Nat)) (N : Nat) : zM := ((M.1.1 + 1, M.1.2.1 + N, (fun c => if c = M.1.1 then sh else M.1.2.2.1 c), zrow M.1.2.2.2 M.1.1 (fun _ => none)), zrow M.2.1 M.1.1 (fun _ => 0), zrow M.2.2 M.1.1 (fun _ => 0))
/-- System.arraycopy of ints -/
def zcpy (M : zM) (q0 sp q1 dp n : Nat) : zM := (M.1, zrow M.2.1 q1 (va_cpy (M.2.1 q0) (M.2.1 q1) sp dp n), M.2.2)
/-- how many cells and slots a method makes: by number; those that make none aren't listed -/
def zfind : List zE → Nat → Option zE
  | [], _ => none
  | e :: es, pc => match Nat.beq e.1 pc with
    | true => some e
    | false => zfind es pc
def zcat : List Value → Nat
  | [] => 0
  | v :: r => v.category + zcat r
/-- a branch: to A where the relation holds, else to B; said by = and < alone; gone where both are written out -/
def zif2 (b : Bool) (A B : Prop) : Prop := match b with
  | true => A
  | false => B
def zbr (k : ClassFile.Cond) (x y : Int32) (A B : Prop) : Prop := match k with
  | .eq => zif2 (decide (x = y)) A B
  | .ne => zif2 (decide (x = y)) B A
  | .lt => zif2 (decide (x < y)) A B
  | .ge => zif2 (decide (x < y)) B A
  | .gt => zif2 (decide (y < x)) A B
  | .le => zif2 (decide (y < x)) B A
/-- a switch: the first pair that fits -/
def zsw (x : Int32) (P : Nat → Prop) (d : Nat) : List (Int32 × Nat) → Prop
  | [] => P d
  | q :: qs => zif2 (decide (x = q.1)) (P q.2) (zsw x P d qs)
def ztab (pc : Nat) : Int → List Int → List (Int32 × Nat)
  | _, [] => []
  | k, o :: os => (Int32.ofInt k, ((pc : Int) + o).toNat) :: ztab pc (k + 1) os
def zloo (pc : Nat) : List (Int × Int) → List (Int32 × Nat)
  | [] => []
  | q :: qs => (Int32.ofInt q.1, ((pc : Int) + q.2).toNat) :: zloo pc qs
/-- the arrays that are only read: 1 the script, 2 FACTORIALS, 5 and 6 the bytes of the two String constants (3, 4) -/
def zwords : List Int32 := [109, 101, 109, 98, 101, 114, 32, 32, 99, 108, 97, 117, 115, 101, 32, 32, 119, 105, 110, 100, 115, 32, 32, 32, 99, 111, 99, 107, 32, 32, 32, 32, 113, 117, 111, 116, 97, 32, 32, 32, 112, 117, 110, 115, 32, 32, 32, 32, 100, 114, 97, 119, 32, 32, 32, 32, 105, 110, 32, 32, 32, 32, 32, 32, 111, 117, 116, 32, 32, 32, 32, 32, 111, 114, 32, 32, 32, 32, 32, 32, 97, 110, 100, 32, 32, 32, 32, 32, 110, 111, 116, 32, 32, 32, 32, 32, 115, 104, 97, 114, 112, 32, 32, 32, 109, 105, 110, 100, 115, 32, 32, 32, 118, 111, 116, 101, 115, 32, 32, 32, 110, 111, 116, 99, 104, 32, 32, 32, 102, 97, 108, 108, 105, 110, 103, 32, 114, 101, 97, 100, 32, 32, 32, 32]
def zsigns : List Int32 := [59, 40, 41, 60, 62, 61, 43, 45, 42, 47, 37]
def zfacts : List Int32 := [1, 1, 2, 6, 24, 120, 720, 5040]
def zspA (xs : List Int32) : Nat → Option (Nat × List Int32)
  | 1 => some (0, xs)
  | 2 => some (0, zfacts)
  | 5 => some (1, zwords)
  | 6 => some (1, zsigns)
  | _ => none
/-- checks that are gone where their terms are written out: a shape of an object, of an array, a reference, an index, a boolean -/
def zck (s : Nat ⊕ (Nat × Nat)) (a : Nat) (P : Prop) : Prop := match s with
  | .inl a' => (match Nat.beq a' a with
    | true => P
    | false => False)
  | .inr _ => False
def zsh (s : Nat ⊕ (Nat × Nat)) (t : Nat) (P : Nat → Prop) : Prop := match s with
  | .inl _ => False
  | .inr (t', n) => (match Nat.beq t' t with
    | true => P n
    | false => False)
def zro (o : Option Nat) (P : Nat → Prop) : Prop := match o with
  | some t => P t
  | none => False
def zix (i : Int32) (n : Nat) (P : Prop) : Prop := match decide (i < 0), Nat.ble n i.toNatClampNeg with
  | false, false => P
  | _, _ => False
def zbo (x : Int32) (P : Prop) : Prop := match decide (x = 0), decide (x = 1) with
  | false, false => False
  | _, _ => P
def zldi (X : zX) (np : Nat) (ls : List Value) (a : Nat) (st : List Value) (M : zM) : Prop := match ls.getD a (.retAddr 0) with
  | .int x => X np ls (.int x :: st) M
  | _ => False
def zldl (X : zX) (np : Nat) (ls : List Value) (a : Nat) (st : List Value) (M : zM) : Prop := match ls.getD a (.retAddr 0) with
  | .long x => X np ls (.long x :: st) M
  | _ => False
def zlda (X : zX) (np : Nat) (ls : List Value) (a : Nat) (st : List Value) (M : zM) : Prop := match ls.getD a (.retAddr 0) with
  | .ref x => X np ls (.ref x :: st) M
  | .retAddr k => (match Nat.ble 1 k, Nat.ble k 6 with
    | true, true => X np ls (.retAddr k :: st) M
    | _, _ => False)
  | _ => False
def zsti (X : zX) (np : Nat) (ls : List Value) (a : Nat) (st : List Value) (M : zM) : Prop := match st with
  | .int x :: r => X np (ls.set a (.int x)) r M
  | _ => False
def zsta (X : zX) (np : Nat) (ls : List Value) (a : Nat) (st : List Value) (M : zM) : Prop := match st with
  | .ref x :: r => X np (ls.set a (.ref x)) r M
  | _ => False
def zinc (X : zX) (np : Nat) (ls : List Value) (a : Nat) (v : Value) (st : List Value) (M : zM) : Prop := match ls.getD a (.retAddr 0), v with
  | .int x, .int k => X np (ls.set a (.int (x + k))) st M
  | _, _ => False
def zun (f : Int32 → Int32) (X : zX) (np : Nat) (ls st : List Value) (M : zM) : Prop := match st with
  | .int x :: r => X np ls (.int (f x) :: r) M
  | _ => False
def zbin (f : Int32 → Int32 → Int32) (X : zX) (np : Nat) (ls st : List Value) (M : zM) : Prop := match st with
  | .int y :: .int x :: r => X np ls (.int (f x y) :: r) M
  | _ => False
def zdiv (f : Int32 → Int32 → Int32) (X : zX) (np : Nat) (ls st : List Value) (M : zM) : Prop := match st with
  | .int y :: .int x :: r => ¬ y = 0 ∧ X np ls (.int (f x y) :: r) M
  | _ => False
def zlcm (X : zX) (np : Nat) (ls st : List Value) (M : zM) : Prop := match st with
  | .long y :: .long x :: r => X np ls (.int (lg_cmp x y) :: r) M
  | _ => False
def zlor (X : zX) (np : Nat) (ls st : List Value) (M : zM) : Prop := match st with
  | .long y :: .long x :: r => X np ls (.long (x ||| y) :: r) M
  | _ => False
def zlsh (X : zX) (np : Nat) (ls st : List Value) (M : zM) : Prop := match st with
  | .int y :: .long x :: r => X np ls (.long (x <<< (y.toInt64 &&& 63)) :: r) M
  | _ => False
def zi2l (X : zX) (np : Nat) (ls st : List Value) (M : zM) : Prop := match st with
  | .int x :: r => X np ls (.long x.toInt64 :: r) M
  | _ => False
def zic (c : ClassFile.Cond) (X : zX) (tgt np : Nat) (ls st : List Value) (M : zM) : Prop := match st with
  | .int y :: .int x :: r => zbr c x y (X tgt ls r M) (X np ls r M)
  | _ => False
def zif (c : ClassFile.Cond) (X : zX) (tgt np : Nat) (ls st : List Value) (M : zM) : Prop := match st with
  | .int x :: r => zbr c x 0 (X tgt ls r M) (X np ls r M)
  | _ => False
def zsws (ps : List (Int32 × Nat)) (d : Nat) (X : zX) (ls st : List Value) (M : zM) : Prop := match st with
  | .int x :: r => zsw x (fun t => X t ls r M) d ps
  | _ => False
def zdup (X : zX) (np : Nat) (ls st : List Value) (M : zM) : Prop := match st with
  | .int x :: r => X np ls (.int x :: .int x :: r) M
  | .ref x :: r => X np ls (.ref x :: .ref x :: r) M
  | _ => False
def zdup2 (X : zX) (np : Nat) (ls st : List Value) (M : zM) : Prop := match st with
  | .int x :: .ref y :: r => X np ls (.int x :: .ref y :: .int x :: .ref y :: r) M
  | _ => False
def zpop (X : zX) (np : Nat) (ls st : List Value) (M : zM) : Prop := match st with
  | .int _ :: r => X np ls r M
  | .ref _ :: r => X np ls r M
  | _ => False
/-- a field: class a (99: String), place b, sort c (4 a reference, 3 a long, 2 a boolean, 0 an int) -/
def zgf (a b c : Nat) (X : zX) (np : Nat) (ls st : List Value) (M : zM) : Prop := match st with
  | .ref q :: r => zck (zS M q) a (match c with
    | 4 => zro (zR M q b) (fun t => X np ls (.ref t :: r) M)
    | 3 => X np ls (.long (zL M q b) :: r) M
    | _ => X np ls (.int (zI M q b) :: r) M)
  | .retAddr k :: r => (match a, b, k with
    | 99, 0, 3 => X np ls (.retAddr 5 :: r) M
    | 99, 0, 4 => X np ls (.retAddr 6 :: r) M
    | 99, 1, 3 => X np ls (.int 0 :: r) M
    | 99, 1, 4 => X np ls (.int 0 :: r) M
    | _, _, _ => False)
  | _ => False
def zpf (a b c : Nat) (X : zX) (np : Nat) (ls st : List Value) (M : zM) : Prop := match c, st with
  | 0, .int x :: .ref q :: r => zck (zS M q) a (X np ls r (zwI M q b x))
  | 2, .int x :: .ref q :: r => zck (zS M q) a (zbo x (X np ls r (zwI M q b x)))
  | 3, .long x :: .ref q :: r => zck (zS M q) a (X np ls r (zwL M q b x))
  | 4, .ref t :: .ref q :: r => zck (zS M q) a (X np ls r (zwR M q b (some t)))
  | _, _ => False
def zal (xs : List Int32) (t : Nat) (X : zX) (np : Nat) (ls st : List Value) (M : zM) : Prop := match st with
  | .int i :: .ref q :: r => zsh (zS M q) t (fun n => zix i n (X np ls (.int (zI M q i.toNatClampNeg) :: r) M))
  | .int i :: .retAddr k :: r => (match zspA xs k with
    | some (t', l) => (match Nat.beq t' t with
      | true => zix i l.length (X np ls (.int (l.getD i.toNatClampNeg 0) :: r) M)
      | false => False)
    | none => False)
  | _ => False
def zll (X : zX) (np : Nat) (ls st : List Value) (M : zM) : Prop := match st with
  | .int i :: .ref q :: r => zsh (zS M q) 3 (fun n => zix i n (X np ls (.long (zL M q i.toNatClampNeg) :: r) M))
  | _ => False
def zaa (X : zX) (np : Nat) (ls st : List Value) (M : zM) : Prop := match st with
  | .int i :: .ref q :: r => zsh (zS M q) 4 (fun n => zix i n (zro (zR M q i.toNatClampNeg) (fun t => X np ls (.ref t :: r) M)))
  | _ => False
def zas (t : Nat) (f : Int32 → Int32) (X : zX) (np : Nat) (ls st : List Value) (M : zM) : Prop := match st with
  | .int x :: .int i :: .ref q :: r => zsh (zS M q) t (fun n => zix i n (X np ls r (zwI M q i.toNatClampNeg (f x))))
  | _ => False
def zls (X : zX) (np : Nat) (ls st : List Value) (M : zM) : Prop := match st with
  | .long x :: .int i :: .ref q :: r => zsh (zS M q) 3 (fun n => zix i n (X np ls r (zwL M q i.toNatClampNeg x)))
  | _ => False
def zaas (X : zX) (np : Nat) (ls st : List Value) (M : zM) : Prop := match st with
  | .ref t :: .int i :: .ref q :: r => zsh (zS M q) 4 (fun n => zix i n (zck (zS M t) 6 (X np ls r (zwR M q i.toNatClampNeg (some t)))))
  | _ => False
def zlen (xs : List Int32) (X : zX) (np : Nat) (ls st : List Value) (M : zM) : Prop := match st with
  | .ref q :: r => (match zS M q with
    | .inl _ => False
    | .inr (t, n) => (match Nat.blt t 5 with
      | true => X np ls (.int (nI n) :: r) M
      | false => False))
  | .retAddr k :: r => (match zspA xs k with
    | some (_, l) => X np ls (.int (nI l.length) :: r) M
    | none => False)
  | _ => False
def znw (Bn Bs a b : Nat) (X : zX) (np : Nat) (ls st : List Value) (M : zM) : Prop := zn M + 1 ≤ Bn ∧ zsl M + b ≤ Bs ∧ X np ls (.ref (zn M) :: st) (znew M (.inl a) b)
def zna (Bn Bs t : Nat) (X : zX) (np : Nat) (ls st : List Value) (M : zM) : Prop := match st with
  | .int k :: r => ¬ k < 0 ∧ k.toNatClampNeg ≤ 100000 ∧ zn M + 1 ≤ Bn ∧ zsl M + k.toNatClampNeg ≤ Bs ∧ X np ls (.ref (zn M) :: r) (znew M (.inr (t, k.toNatClampNeg)) k.toNatClampNeg)
  | _ => False
/-- a call's answer: where the callee makes nothing and writes no reference, all but ints and longs is as it was -/
abbrev zIL : Type := (Nat → Nat → Int32) × (Nat → Nat → Int64)
def zkI (F : zF) (f : zIL → Int32 → Prop) : zQ := fun M o => M.1 = F ∧ (match o with
  | some (.int x) => f M.2 x
  | _ => False)
def zkA (F : zF) (f : zIL → Nat → Prop) : zQ := fun M o => M.1 = F ∧ (match o with
  | some (.ref x) => f M.2 x
  | _ => False)
def zkV (F : zF) (f : zIL → Prop) : zQ := fun M o => M.1 = F ∧ (match o with
  | none => f M.2
  | _ => False)
def zans (c : Nat) (F : zF) (X : zX) (np : Nat) (ls r : List Value) : zQ := match c with
  | 0 => zkV F (fun IL => X np ls r (F, IL))
  | 1 => zkI F (fun IL x => X np ls (.int x :: r) (F, IL))
  | 2 => zkA F (fun IL x => X np ls (.ref x :: r) (F, IL))
  | _ => fun _ _ => False
/-- of a callee that makes cells or writes references -/
def zuV (n s : Nat) (f : zM → Prop) : zQ := fun M o => zn M = n ∧ zsl M = s ∧ (match o with
  | none => f M
  | _ => False)
def zuI (n s : Nat) (f : zM → Int32 → Prop) : zQ := fun M o => zn M = n ∧ zsl M = s ∧ (match o with
  | some (.int x) => f M x
  | _ => False)
def zanu (c n s : Nat) (X : zX) (np : Nat) (ls r : List Value) : zQ := match c with
  | 0 => zuV n s (fun M => X np ls r M)
  | 1 => zuI n s (fun M x => X np ls (.int x :: r) M)
  | _ => fun _ _ => False
/-- a call of method a with b values (its receiver too); v: null, or the cells (by a million) and slots that it makes -/
def zcl (C : zC) (Bn Bs a b c : Nat) (v : Value) (X : zX) (np : Nat) (ls st : List Value) (M : zM) : Prop := match Nat.ble b st.length, Nat.ble (zcat (st.drop b)) 8 with
  | true, true => (match v with
    | .ref mc => zn M + mc / 1000000 ≤ Bn ∧ zsl M + mc % 1000000 ≤ Bs ∧ C a M (st.take b).reverse (zanu c (zn M + mc / 1000000) (zsl M + mc % 1000000) X np ls (st.drop b))
    | _ => C a M (st.take b).reverse (zans c M.1 X np ls (st.drop b)))
  | _, _ => False
/-- the receiver of a virtual call: an object of that class (13: String) -/
def zvr (v : Value) (M : zM) (o : Nat) (P : Prop) : Prop := match v with
  | .ref q => zck (zS M q) o P
  | .retAddr k => (match k, o with
    | 3, 13 => P
    | 4, 13 => P
    | _, _ => False)
  | _ => False
def zsr (v : Value) (P : Prop) : Prop := match v with
  | .ref _ => P
  | _ => False
def zoi (X : zX) (np : Nat) (ls st : List Value) (M : zM) : Prop := match st with
  | .ref _ :: r => (match Nat.ble (zcat r) 8 with
    | true => X np ls r M
    | false => False)
  | _ => False
def zac (X : zX) (np : Nat) (ls st : List Value) (M : zM) : Prop := match st with
  | [.int n, .int dp, .ref q1, .int sp, .ref q0] => zsh (zS M q0) 0 (fun n0 => zsh (zS M q1) 0 (fun n1 => (match decide (sp < 0), decide (dp < 0), decide (n < 0), Nat.ble (sp.toNatClampNeg + n.toNatClampNeg) n0, Nat.ble (dp.toNatClampNeg + n.toNatClampNeg) n1 with
    | false, false, false, true, true => X np ls [] (zcpy M q0 sp.toNatClampNeg q1 dp.toNatClampNeg n.toNatClampNeg)
    | _, _, _, _, _ => False)))
  | _ => False
/-- an int's return: c 2 of a boolean, 5 of a char, 1 of a byte, else of an int -/
def zri (c : Nat) (Q : zQ) (st : List Value) (M : zM) : Prop := match st with
  | [.int x] => (match c with
    | 2 => zbo x (Q M (some (.int x)))
    | 5 => narrow .char (.int x) = .int x ∧ Q M (some (.int x))
    | 1 => narrow .byte (.int x) = .int x ∧ Q M (some (.int x))
    | _ => Q M (some (.int x)))
  | _ => False
def zra (Q : zQ) (st : List Value) (M : zM) : Prop := match st with
  | [.ref x] => Q M (some (.ref x))
  | _ => False
def zrv (Q : zQ) (st : List Value) (M : zM) : Prop := match st with
  | [] => Q M none
  | _ => False
/-- what a small array keeps of an int -/
def zbn (c : Nat) : Int32 → Int32 := match c with
  | 1 => vp_nar .byte
  | _ => vp_nar .boolean
/-- one instruction -/
def zop (xs : List Int32) (C : zC) (Bn Bs : Nat) (Q : zQ) (X : zX) (pc np : Nat) (ins : Instr) (a b c : Nat) (v : Value) (ls st : List Value) (M : zM) : Prop := match ins with
  | .iload _ => zldi X np ls a st M
  | .iload_n _ => zldi X np ls a st M
  | .aload _ => zlda X np ls a st M
  | .aload_n _ => zlda X np ls a st M
  | .lload_n _ => zldl X np ls a st M
  | .istore _ => zsti X np ls a st M
  | .istore_n _ => zsti X np ls a st M
  | .astore _ => zsta X np ls a st M
  | .astore_n _ => zsta X np ls a st M
  | .iinc _ _ => zinc X np ls a v st M
  | .iconst _ => X np ls (v :: st) M
  | .bipush _ => X np ls (v :: st) M
  | .sipush _ => X np ls (v :: st) M
  | .lconst _ => X np ls (v :: st) M
  | .ldc _ => X np ls (v :: st) M
  | .ldc_w _ => X np ls (v :: st) M
  | .ldc2_w _ => X np ls (v :: st) M
  | .getstatic _ => X np ls (v :: st) M
  | .iadd => zbin (fun x y => x + y) X np ls st M
  | .isub => zbin (fun x y => x - y) X np ls st M
  | .imul => zbin (fun x y => x * y) X np ls st M
  | .iand => zbin (fun x y => x &&& y) X np ls st M
  | .ior => zbin (fun x y => x ||| y) X np ls st M
  | .ixor => zbin (fun x y => x ^^^ y) X np ls st M
  | .ishl => zbin (fun x y => x <<< (y &&& 31)) X np ls st M
  | .ishr => zbin (fun x y => x >>> (y &&& 31)) X np ls st M
  | .iushr => zbin (fun x y => (x.toUInt32 >>> (y.toUInt32 &&& Int32.toUInt32 31)).toInt32) X np ls st M
  | .idiv => zdiv (fun x y => x / y) X np ls st M
  | .irem => zdiv (fun x y => x - x / y * y) X np ls st M
  | .ineg => zun (fun x => -x) X np ls st M
  | .i2b => zun (fun x => x.toInt8.toInt32) X np ls st M
  | .i2c => zun (fun x => (x.toUInt32 % 65536).toInt32) X np ls st M
  | .i2l => zi2l X np ls st M
  | .lcmp => zlcm X np ls st M
  | .lor => zlor X np ls st M
  | .lshl => zlsh X np ls st M
  | .if_icmp k _ => zic k X a np ls st M
  | .ifCond k _ => zif k X a np ls st M
  | .goto _ => X a ls st M
  | .tableswitch d lo _ os => zsws (ztab pc lo os.toList) ((pc : Int) + d).toNat X ls st M
  | .lookupswitch d ps => zsws (zloo pc ps.toList) ((pc : Int) + d).toNat X ls st M
  | .dup => zdup X np ls st M
  | .dup2 => zdup2 X np ls st M
  | .pop => zpop X np ls st M
  | .getfield _ => zgf a b c X np ls st M
  | .putfield _ => zpf a b c X np ls st M
  | .iaload => zal xs 0 X np ls st M
  | .baload => zal xs c X np ls st M
  | .laload => zll X np ls st M
  | .aaload => zaa X np ls st M
  | .iastore => zas 0 (fun x => x) X np ls st M
  | .bastore => zas c (zbn c) X np ls st M
  | .lastore => zls X np ls st M
  | .aastore => zaas X np ls st M
  | .arraylength => zlen xs X np ls st M
  | .new _ => znw Bn Bs a b X np ls st M
  | .newarray _ => zna Bn Bs a X np ls st M
  | .anewarray _ => zna Bn Bs 4 X np ls st M
  | .invokevirtual _ => zvr (st.getD (b - 1) .null) M (c / 4) (zcl C Bn Bs a b (c % 4) v X np ls st M)
  | .invokestatic _ => (match c with
    | 8 => zac X np ls st M
    | _ => zcl C Bn Bs a b c v X np ls st M)
  | .invokespecial _ => (match c with
    | 9 => zoi X np ls st M
    | _ => zsr (st.getD (b - 1) .null) (zcl C Bn Bs a b c v X np ls st M))
  | .ireturn => zri c Q st M
  | .areturn => zra Q st M
  | .return_ => zrv Q st M
  | _ => False
def zat (xs : List Int32) (C : zC) (Bn Bs : Nat) (cd : List zE) (Q : zQ) (X : zX) (pc : Nat) (ls st : List Value) (M : zM) : Prop := match zfind cd pc with
  | some (p, len, ins, a, b, c, v) => zop xs C Bn Bs Q X p (p + len) ins a b c v ls st M
  | none => False
/-- a run from there ends, and Q holds of its end: the least predicate that is closed under the steps -/
def zgo (xs : List Int32) (C : zC) (Bn Bs : Nat) (cd : List zE) (Q : zQ) : zX := fun pc ls st M => ∀ X : zX, (∀ pc ls st M, zat xs C Bn Bs cd Q X pc ls st M → X pc ls st M) → X pc ls st M
/-- so many steps, but not beyond the places in 'stops' -/
def zrun (xs : List Int32) (C : zC) (Bn Bs : Nat) (cd : List zE) (Q : zQ) (stops : List Nat) (X : zX) : Nat → zX
  | 0 => X
  | k + 1 => fun pc ls st M => match stops.elem pc with
    | true => X pc ls st M
    | false => zat xs C Bn Bs cd Q (zrun xs C Bn Bs cd Q stops X k) pc ls st M
def zflat : List Value → List Value
  | [] => []
  | .long x :: r => .long x :: .retAddr 0 :: zflat r
  | .double x :: r => .double x :: .retAddr 0 :: zflat r
  | v :: r => v :: zflat r
def zlocs (as : List Value) (n : Nat) : List Value := zflat as ++ List.replicate (n - (zflat as).length) (.retAddr 0)
end
section
/-! the steps are monotone; runs by segments; calls by depth -/
theorem zck_mono {s : Nat ⊕ (Nat × Nat)} {a : Nat} {P P' : Prop} (h : P → P') : zck s a P → zck s a P' := by
  unfold zck; split
  · split
    · exact h
    · exact id
  · exact id
theorem zsh_mono {s : Nat ⊕ (Nat × Nat)} {a : Nat} {P P' : Nat → Prop} (h : ∀ n, P n → P' n) : zsh s a P → zsh s a P' := by
  unfold zsh; split
  · exact id
  · split
    · exact h _
    · exact id
theorem zro_mono {o : Option Nat} {P P' : Nat → Prop} (h : ∀ n, P n → P' n) : zro o P → zro o P' := by
  unfold zro; split
  · exact h _
  · exact id
theorem zix_mono {i : Int32} {n : Nat} {P P' : Prop} (h : P → P') : zix i n P → zix i n P' := by
  unfold zix; split
  · exact h
  · exact id
theorem zbo_mono {x : Int32} {P P' : Prop} (h : P → P') : zbo x P → zbo x P' := by
  unfold zbo; split
  · exact id
  · exact h
theorem zck_i {s : Nat ⊕ (Nat × Nat)} {a : Nat} {P : Prop} (hs : s = .inl a) (h : P) : zck s a P := by
  subst hs; simpa [zck] using h
theorem zck_e {s : Nat ⊕ (Nat × Nat)} {a : Nat} {P : Prop} (h : zck s a P) : s = .inl a ∧ P := by
  unfold zck at h; split at h
  · split at h
    next e => exact ⟨by rw [Nat.eq_of_beq_eq_true e], h⟩
    · exact h.elim
  · exact h.elim
theorem zsh_i {s : Nat ⊕ (Nat × Nat)} {t n : Nat} {P : Nat → Prop} (hs : s = .inr (t, n)) (h : P n) : zsh s t P := by
  subst hs; simpa [zsh] using h
theorem zsh_e {s : Nat ⊕ (Nat × Nat)} {t : Nat} {P : Nat → Prop} (h : zsh s t P) : ∃ n, s = .inr (t, n) ∧ P n := by
  unfold zsh at h; split at h
  · exact h.elim
  · split at h
    next e => exact ⟨_, by rw [Nat.eq_of_beq_eq_true e], h⟩
    · exact h.elim
theorem zro_i {o : Option Nat} {t : Nat} {P : Nat → Prop} (hs : o = some t) (h : P t) : zro o P := by
  subst hs; exact h
theorem zro_e {o : Option Nat} {P : Nat → Prop} (h : zro o P) : ∃ t, o = some t ∧ P t := by
  unfold zro at h; split at h
  · exact ⟨_, rfl, h⟩
  · exact h.elim
theorem zix_i {i : Int32} {n : Nat} {P : Prop} (hs : vp_in i n) (h : P) : zix i n P := by
  have h1 : ¬ i < 0 := fun q => hs (Or.inl q)
  have h2 : ¬ n ≤ i.toNatClampNeg := fun q => hs (Or.inr q)
  have h3 : Nat.ble n i.toNatClampNeg = false := by
    cases hb : Nat.ble n i.toNatClampNeg with
    | false => rfl
    | true => exact absurd (Nat.le_of_ble_eq_true hb) h2
  simpa [zix, h1, h3] using h
theorem zix_e {i : Int32} {n : Nat} {P : Prop} (h : zix i n P) : vp_in i n ∧ P := by
  unfold zix at h; split at h
  next e1 e2 =>
    refine ⟨fun q => ?_, h⟩
    rcases q with q | q
    · simp [q] at e1
    · rw [Nat.ble_eq_true_of_le q] at e2; cases e2
  · exact h.elim
theorem zbo_i {x : Int32} {P : Prop} (hs : x = 0 ∨ x = 1) (h : P) : zbo x P := by
  rcases hs with rfl | rfl <;> exact h
theorem zbo_e {x : Int32} {P : Prop} (h : zbo x P) : (x = 0 ∨ x = 1) ∧ P := by
  unfold zbo at h; split at h
  · exact h.elim
  next e =>
    refine ⟨?_, h⟩
    by_cases h0 : x = 0
    · exact Or.inl h0
    · by_cases h1 : x = 1
      · exact Or.inr h1
      · exact absurd (decide_eq_false h1) (e (decide_eq_false h0))
theorem zif2_mono {b : Bool} {A A' B B' : Prop} (hA : A → A') (hB : B → B') : zif2 b A B → zif2 b A' B' := by
  cases b
  · exact hB
  · exact hA
theorem zdec {p : Prop} [h : Decidable p] {A B : Prop} (hA : p → A) (hB : ¬ p → B) : zif2 (decide p) A B := by
  by_cases q : p
  · rw [decide_eq_true q]; exact hA q
  · rw [decide_eq_false q]; exact hB q
theorem zdec_e {p : Prop} [h : Decidable p] {A B : Prop} (z : zif2 (decide p) A B) : (p → A) ∧ (¬ p → B) := by
  refine ⟨fun q => ?_, fun q => ?_⟩
  · rw [decide_eq_true q] at z; exact z
  · rw [decide_eq_false q] at z; exact z
theorem zbr_mono {k : ClassFile.Cond} {x y : Int32} {A A' B B' : Prop} (hA : A → A') (hB : B → B') : zbr k x y A B → zbr k x y A' B' := by
  cases k <;> first | exact zif2_mono hA hB | exact zif2_mono hB hA
def zbrc (k : ClassFile.Cond) (x y : Int32) (A B : Prop) : Prop := match k with
  | .eq => (x = y → A) ∧ (¬ x = y → B)
  | .ne => (x = y → B) ∧ (¬ x = y → A)
  | .lt => (x < y → A) ∧ (¬ x < y → B)
  | .ge => (x < y → B) ∧ (¬ x < y → A)
  | .gt => (y < x → A) ∧ (¬ y < x → B)
  | .le => (y < x → B) ∧ (¬ y < x → A)
theorem zbr_e {k : ClassFile.Cond} {x y : Int32} {A B : Prop} (h : zbr k x y A B) : zbrc k x y A B := by
  cases k <;> exact zdec_e h
section MO
variable {xs : List Int32} {C C' : zC} {Bn Bs : Nat} {Q Q' : zQ} {X X' : zX} {np : Nat} {ls st : List Value} {M : zM}
theorem zldi_mono (hX : ∀ pc ls st M, X pc ls st M → X' pc ls st M) {a : Nat} : zldi X np ls a st M → zldi X' np ls a st M := by
  unfold zldi; split <;> first | exact hX _ _ _ _ | exact id
theorem zldl_mono (hX : ∀ pc ls st M, X pc ls st M → X' pc ls st M) {a : Nat} : zldl X np ls a st M → zldl X' np ls a st M := by
  unfold zldl; split <;> first | exact hX _ _ _ _ | exact id
theorem zlda_mono (hX : ∀ pc ls st M, X pc ls st M → X' pc ls st M) {a : Nat} : zlda X np ls a st M → zlda X' np ls a st M := by
  unfold zlda; split
  · exact hX _ _ _ _
  · split
    · exact hX _ _ _ _
    · exact id
  · exact id
theorem zsti_mono (hX : ∀ pc ls st M, X pc ls st M → X' pc ls st M) {a : Nat} : zsti X np ls a st M → zsti X' np ls a st M := by
  unfold zsti; split <;> first | exact hX _ _ _ _ | exact id
theorem zsta_mono (hX : ∀ pc ls st M, X pc ls st M → X' pc ls st M) {a : Nat} : zsta X np ls a st M → zsta X' np ls a st M := by
  unfold zsta; split <;> first | exact hX _ _ _ _ | exact id
theorem zinc_mono (hX : ∀ pc ls st M, X pc ls st M → X' pc ls st M) {a : Nat} {v : Value} : zinc X np ls a v st M → zinc X' np ls a v st M := by
  unfold zinc; split <;> first | exact hX _ _ _ _ | exact id
theorem zun_mono (hX : ∀ pc ls st M, X pc ls st M → X' pc ls st M) {f : Int32 → Int32} : zun f X np ls st M → zun f X' np ls st M := by
  unfold zun; split <;> first | exact hX _ _ _ _ | exact id
theorem zbin_mono (hX : ∀ pc ls st M, X pc ls st M → X' pc ls st M) {f : Int32 → Int32 → Int32} : zbin f X np ls st M → zbin f X' np ls st M := by
  unfold zbin; split <;> first | exact hX _ _ _ _ | exact id
theorem zdiv_mono (hX : ∀ pc ls st M, X pc ls st M → X' pc ls st M) {f : Int32 → Int32 → Int32} : zdiv f X np ls st M → zdiv f X' np ls st M := by
  unfold zdiv; split
  · exact fun h => ⟨h.1, hX _ _ _ _ h.2⟩
  · exact id
theorem zlcm_mono (hX : ∀ pc ls st M, X pc ls st M → X' pc ls st M) : zlcm X np ls st M → zlcm X' np ls st M := by
  unfold zlcm; split <;> first | exact hX _ _ _ _ | exact id
theorem zlor_mono (hX : ∀ pc ls st M, X pc ls st M → X' pc ls st M) : zlor X np ls st M → zlor X' np ls st M := by
  unfold zlor; split <;> first | exact hX _ _ _ _ | exact id
theorem zlsh_mono (hX : ∀ pc ls st M, X pc ls st M → X' pc ls st M) : zlsh X np ls st M → zlsh X' np ls st M := by
  unfold zlsh; split <;> first | exact hX _ _ _ _ | exact id
theorem zi2l_mono (hX : ∀ pc ls st M, X pc ls st M → X' pc ls st M) : zi2l X np ls st M → zi2l X' np ls st M := by
  unfold zi2l; split <;> first | exact hX _ _ _ _ | exact id
theorem zic_mono (hX : ∀ pc ls st M, X pc ls st M → X' pc ls st M) {k : ClassFile.Cond} {t : Nat} : zic k X t np ls st M → zic k X' t np ls st M := by
  unfold zic; split
  · exact zbr_mono (hX _ _ _ _) (hX _ _ _ _)
  · exact id
theorem zif_mono (hX : ∀ pc ls st M, X pc ls st M → X' pc ls st M) {k : ClassFile.Cond} {t : Nat} : zif k X t np ls st M → zif k X' t np ls st M := by
  unfold zif; split
  · exact zbr_mono (hX _ _ _ _) (hX _ _ _ _)
  · exact id
theorem zsw_mono {x : Int32} {P P' : Nat → Prop} (h : ∀ t, P t → P' t) {d : Nat} : ∀ ps : List (Int32 × Nat), zsw x P d ps → zsw x P' d ps
  | [] => h d
  | q :: qs => zif2_mono (h _) (zsw_mono h qs)
theorem zsws_mono (hX : ∀ pc ls st M, X pc ls st M → X' pc ls st M) {ps : List (Int32 × Nat)} {d : Nat} : zsws ps d X ls st M → zsws ps d X' ls st M := by
  unfold zsws; split
  · exact zsw_mono (fun t => hX _ _ _ _) ps
  · exact id
theorem zdup_mono (hX : ∀ pc ls st M, X pc ls st M → X' pc ls st M) : zdup X np ls st M → zdup X' np ls st M := by
  unfold zdup; split <;> first | exact hX _ _ _ _ | exact id
theorem zdup2_mono (hX : ∀ pc ls st M, X pc ls st M → X' pc ls st M) : zdup2 X np ls st M → zdup2 X' np ls st M := by
  unfold zdup2; split <;> first | exact hX _ _ _ _ | exact id
theorem zpop_mono (hX : ∀ pc ls st M, X pc ls st M → X' pc ls st M) : zpop X np ls st M → zpop X' np ls st M := by
  unfold zpop; split <;> first | exact hX _ _ _ _ | exact id
theorem zgf_mono (hX : ∀ pc ls st M, X pc ls st M → X' pc ls st M) {a b c : Nat} : zgf a b c X np ls st M → zgf a b c X' np ls st M := by
  unfold zgf; split
  · refine zck_mono ?_
    split
    · exact zro_mono fun t => hX _ _ _ _
    · exact hX _ _ _ _
    · exact hX _ _ _ _
  · split <;> first | exact hX _ _ _ _ | exact id
  · exact id
theorem zpf_mono (hX : ∀ pc ls st M, X pc ls st M → X' pc ls st M) {a b c : Nat} : zpf a b c X np ls st M → zpf a b c X' np ls st M := by
  unfold zpf; split
  · exact zck_mono (hX _ _ _ _)
  · exact zck_mono (zbo_mono (hX _ _ _ _))
  · exact zck_mono (hX _ _ _ _)
  · exact zck_mono (hX _ _ _ _)
  · exact id
theorem zal_mono (hX : ∀ pc ls st M, X pc ls st M → X' pc ls st M) {t : Nat} : zal xs t X np ls st M → zal xs t X' np ls st M := by
  unfold zal; split
  · exact zsh_mono fun n => zix_mono (hX _ _ _ _)
  · split
    · split
      · exact zix_mono (hX _ _ _ _)
      · exact id
    · exact id
  · exact id
theorem zll_mono (hX : ∀ pc ls st M, X pc ls st M → X' pc ls st M) : zll X np ls st M → zll X' np ls st M := by
  unfold zll; split
  · exact zsh_mono fun n => zix_mono (hX _ _ _ _)
  · exact id
theorem zaa_mono (hX : ∀ pc ls st M, X pc ls st M → X' pc ls st M) : zaa X np ls st M → zaa X' np ls st M := by
  unfold zaa; split
  · exact zsh_mono fun n => zix_mono (zro_mono fun t => hX _ _ _ _)
  · exact id
theorem zas_mono (hX : ∀ pc ls st M, X pc ls st M → X' pc ls st M) {t : Nat} {f : Int32 → Int32} : zas t f X np ls st M → zas t f X' np ls st M := by
  unfold zas; split
  · exact zsh_mono fun n => zix_mono (hX _ _ _ _)
  · exact id
theorem zls_mono (hX : ∀ pc ls st M, X pc ls st M → X' pc ls st M) : zls X np ls st M → zls X' np ls st M := by
  unfold zls; split
  · exact zsh_mono fun n => zix_mono (hX _ _ _ _)
  · exact id
theorem zaas_mono (hX : ∀ pc ls st M, X pc ls st M → X' pc ls st M) : zaas X np ls st M → zaas X' np ls st M := by
  unfold zaas; split
  · exact zsh_mono fun n => zix_mono (zck_mono (hX _ _ _ _))
  · exact id
theorem zlen_mono (hX : ∀ pc ls st M, X pc ls st M → X' pc ls st M) : zlen xs X np ls st M → zlen xs X' np ls st M := by
  unfold zlen; split
  · split
    · exact id
    · split
      · exact hX _ _ _ _
      · exact id
  · split
    · exact hX _ _ _ _
    · exact id
  · exact id
theorem znw_mono (hX : ∀ pc ls st M, X pc ls st M → X' pc ls st M) {a b : Nat} : znw Bn Bs a b X np ls st M → znw Bn Bs a b X' np ls st M := fun h => ⟨h.1, h.2.1, hX _ _ _ _ h.2.2⟩
theorem zna_mono (hX : ∀ pc ls st M, X pc ls st M → X' pc ls st M) {t : Nat} : zna Bn Bs t X np ls st M → zna Bn Bs t X' np ls st M := by
  unfold zna; split
  · exact fun ⟨h1, h2, h3, h4, h5⟩ => ⟨h1, h2, h3, h4, hX _ _ _ _ h5⟩
  · exact id
theorem zkI_mono {F : zF} {f f' : zIL → Int32 → Prop} (h : ∀ IL x, f IL x → f' IL x) : ∀ M o, zkI F f M o → zkI F f' M o := by
  intro M o z
  refine ⟨z.1, ?_⟩
  have z2 := z.2
  split at z2
  · exact h _ _ z2
  · exact z2.elim
theorem zkA_mono {F : zF} {f f' : zIL → Nat → Prop} (h : ∀ IL x, f IL x → f' IL x) : ∀ M o, zkA F f M o → zkA F f' M o := by
  intro M o z
  refine ⟨z.1, ?_⟩
  have z2 := z.2
  split at z2
  · exact h _ _ z2
  · exact z2.elim
theorem zkV_mono {F : zF} {f f' : zIL → Prop} (h : ∀ IL, f IL → f' IL) : ∀ M o, zkV F f M o → zkV F f' M o := by
  intro M o z
  refine ⟨z.1, ?_⟩
  have z2 := z.2
  split at z2
  · exact h _ z2
  · exact z2.elim
theorem zuI_mono {n s : Nat} {f f' : zM → Int32 → Prop} (h : ∀ IL x, f IL x → f' IL x) : ∀ M o, zuI n s f M o → zuI n s f' M o := by
  intro M o z
  refine ⟨z.1, z.2.1, ?_⟩
  have z2 := z.2.2
  split at z2
  · exact h _ _ z2
  · exact z2.elim
theorem zuV_mono {n s : Nat} {f f' : zM → Prop} (h : ∀ IL, f IL → f' IL) : ∀ M o, zuV n s f M o → zuV n s f' M o := by
  intro M o z
  refine ⟨z.1, z.2.1, ?_⟩
  have z2 := z.2.2
  split at z2
  · exact h _ z2
  · exact z2.elim
theorem zans_mono (hX : ∀ pc ls st M, X pc ls st M → X' pc ls st M) {c : Nat} {F : zF} {r : List Value} : ∀ M o, zans c F X np ls r M o → zans c F X' np ls r M o := by
  unfold zans; split
  · exact zkV_mono fun M => hX _ _ _ _
  · exact zkI_mono fun M x => hX _ _ _ _
  · exact zkA_mono fun M x => hX _ _ _ _
  · exact fun _ _ => id
theorem zanu_mono (hX : ∀ pc ls st M, X pc ls st M → X' pc ls st M) {c n s : Nat} {r : List Value} : ∀ M o, zanu c n s X np ls r M o → zanu c n s X' np ls r M o := by
  unfold zanu; split
  · exact zuV_mono fun M => hX _ _ _ _
  · exact zuI_mono fun M x => hX _ _ _ _
  · exact fun _ _ => id
theorem zcl_mono (hC : ∀ a M as (Q Q' : zQ), (∀ M r, Q M r → Q' M r) → C a M as Q → C' a M as Q') (hX : ∀ pc ls st M, X pc ls st M → X' pc ls st M) {a b c : Nat} {v : Value} : zcl C Bn Bs a b c v X np ls st M → zcl C' Bn Bs a b c v X' np ls st M := by
  unfold zcl; split
  · split
    · exact fun ⟨h1, h2, h3⟩ => ⟨h1, h2, hC _ _ _ _ _ (zanu_mono hX) h3⟩
    · exact hC _ _ _ _ _ (zans_mono hX)
  · exact id
theorem zvr_mono {v : Value} {o : Nat} {P P' : Prop} (h : P → P') : zvr v M o P → zvr v M o P' := by
  unfold zvr; split
  · exact zck_mono h
  · split <;> first | exact h | exact id
  · exact id
theorem zsr_mono {v : Value} {P P' : Prop} (h : P → P') : zsr v P → zsr v P' := by
  unfold zsr; split
  · exact h
  · exact id
theorem zoi_mono (hX : ∀ pc ls st M, X pc ls st M → X' pc ls st M) : zoi X np ls st M → zoi X' np ls st M := by
  unfold zoi; split
  · split
    · exact hX _ _ _ _
    · exact id
  · exact id
theorem zac_mono (hX : ∀ pc ls st M, X pc ls st M → X' pc ls st M) : zac X np ls st M → zac X' np ls st M := by
  unfold zac; split
  · refine zsh_mono fun n0 => zsh_mono fun n1 => ?_
    split
    · exact hX _ _ _ _
    · exact id
  · exact id
theorem zri_mono (hQ : ∀ M r, Q M r → Q' M r) {c : Nat} : zri c Q st M → zri c Q' st M := by
  unfold zri; split
  · split
    · exact zbo_mono (hQ _ _)
    · exact fun h => ⟨h.1, hQ _ _ h.2⟩
    · exact fun h => ⟨h.1, hQ _ _ h.2⟩
    · exact hQ _ _
  · exact id
theorem zra_mono (hQ : ∀ M r, Q M r → Q' M r) : zra Q st M → zra Q' st M := by
  unfold zra; split
  · exact hQ _ _
  · exact id
theorem zrv_mono (hQ : ∀ M r, Q M r → Q' M r) : zrv Q st M → zrv Q' st M := by
  unfold zrv; split
  · exact hQ _ _
  · exact id
set_option maxHeartbeats 4000000 in
theorem zop_mono (hC : ∀ a M as (Q Q' : zQ), (∀ M r, Q M r → Q' M r) → C a M as Q → C' a M as Q') (hQ : ∀ M r, Q M r → Q' M r) (hX : ∀ pc ls st M, X pc ls st M → X' pc ls st M) {pc : Nat} {ins : Instr} {a b c : Nat} {v : Value} : zop xs C Bn Bs Q X pc np ins a b c v ls st M → zop xs C' Bn Bs Q' X' pc np ins a b c v ls st M := by
  cases ins <;> simp only [zop]
  all_goals first
    | exact id
    | exact hX _ _ _ _
    | exact zldi_mono hX
    | exact zlda_mono hX
    | exact zldl_mono hX
    | exact zsti_mono hX
    | exact zsta_mono hX
    | exact zinc_mono hX
    | exact zbin_mono hX
    | exact zun_mono hX
    | exact zdiv_mono hX
    | exact zlcm_mono hX
    | exact zlor_mono hX
    | exact zlsh_mono hX
    | exact zi2l_mono hX
    | exact zic_mono hX
    | exact zif_mono hX
    | exact zsws_mono hX
    | exact zdup_mono hX
    | exact zdup2_mono hX
    | exact zpop_mono hX
    | exact zgf_mono hX
    | exact zpf_mono hX
    | exact zal_mono hX
    | exact zll_mono hX
    | exact zaa_mono hX
    | exact zas_mono hX
    | exact zls_mono hX
    | exact zaas_mono hX
    | exact zlen_mono hX
    | exact znw_mono hX
    | exact zna_mono hX
    | exact zri_mono hQ
    | exact zra_mono hQ
    | exact zrv_mono hQ
    | exact zcl_mono hC hX
    | exact zvr_mono (zcl_mono hC hX)
    | (split <;> first | exact zac_mono hX | exact zoi_mono hX | exact zcl_mono hC hX | exact zsr_mono (zcl_mono hC hX))
theorem zat_mono {cd : List zE} (hC : ∀ a M as (Q Q' : zQ), (∀ M r, Q M r → Q' M r) → C a M as Q → C' a M as Q') (hQ : ∀ M r, Q M r → Q' M r) (hX : ∀ pc ls st M, X pc ls st M → X' pc ls st M) {pc : Nat} : zat xs C Bn Bs cd Q X pc ls st M → zat xs C' Bn Bs cd Q' X' pc ls st M := by
  unfold zat; split
  · exact zop_mono hC hQ hX
  · exact id
/-- calls are monotone in what they must end in -/
def zCm (C : zC) : Prop := ∀ a M as (Q Q' : zQ), (∀ M r, Q M r → Q' M r) → C a M as Q → C a M as Q'
theorem zgo_in {cd : List zE} (hC : zCm C) {pc : Nat} (h : zat xs C Bn Bs cd Q (zgo xs C Bn Bs cd Q) pc ls st M) : zgo xs C Bn Bs cd Q pc ls st M := fun X hX => hX _ _ _ _ (zat_mono hC (fun _ _ => id) (fun _ _ _ _ g => g X hX) h)
theorem zrun_go {cd : List zE} (hC : zCm C) {stops : List Nat} : ∀ (k : Nat) (pc : Nat) (ls st : List Value) (M : zM), zrun xs C Bn Bs cd Q stops (zgo xs C Bn Bs cd Q) k pc ls st M → zgo xs C Bn Bs cd Q pc ls st M
  | 0, _, _, _, _ => id
  | k + 1, pc, ls, st, M => fun h => by
    unfold zrun at h
    split at h
    · exact h
    · exact zgo_in hC (zat_mono hC (fun _ _ => id) (zrun_go hC k) h)
theorem zseg {cd : List zE} (hC : zCm C) (k : Nat) (stops : List Nat) {pc : Nat} (h : zat xs C Bn Bs cd Q (zrun xs C Bn Bs cd Q stops (zgo xs C Bn Bs cd Q) k) pc ls st M) : zgo xs C Bn Bs cd Q pc ls st M := zgo_in hC (zat_mono hC (fun _ _ => id) (zrun_go hC k) h)
theorem zgo_mono {cd : List zE} (hC : ∀ a M as (Q Q' : zQ), (∀ M r, Q M r → Q' M r) → C a M as Q → C' a M as Q') (hQ : ∀ M r, Q M r → Q' M r) {pc : Nat} (h : zgo xs C Bn Bs cd Q pc ls st M) : zgo xs C' Bn Bs cd Q' pc ls st M := fun X hX => h X fun pc ls st M g => hX _ _ _ _ (zat_mono hC hQ (fun _ _ _ _ => id) g)
end MO
end
section
/-! calls -/
def zflc : List Value → Bool
  | [] => true
  | v :: r => Nat.beq v.category 1 && zflc r
/-- the arguments fit -/
def zent (a : Nat) (as : List Value) : Bool := Nat.ble (zflat as).length (znl a) && (!(zlg a) || zflc as)
/-- a call of a method, so many frames deep at most -/
def zcall (xs : List Int32) : Nat → zC
  | 0 => fun _ _ _ _ => False
  | d + 1 => fun a M as Q => match zent a as with
    | true => zgo xs (zcall xs d) (zn M + (zalc a).1) (zsl M + (zalc a).2) (zcode a) Q 0 (zlocs as (znl a)) [] M
    | false => False
theorem zcall_m (xs : List Int32) : ∀ d, zCm (zcall xs d)
  | 0 => fun _ _ _ _ _ _ h => h
  | d + 1 => fun a M as Q Q2 hQ h => by
    unfold zcall at h ⊢
    split at h
    · exact zgo_mono (zcall_m xs d) hQ h
    · exact h.elim
theorem zcall_s (xs : List Int32) : ∀ d, ∀ a M as (Q Q' : zQ), (∀ M r, Q M r → Q' M r) → zcall xs d a M as Q → zcall xs (d + 1) a M as Q'
  | 0 => fun _ _ _ _ _ _ h => h.elim
  | d + 1 => fun a M as Q Q2 hQ h => by
    unfold zcall at h ⊢
    split at h
    · exact zgo_mono (zcall_s xs d) hQ h
    · exact h.elim
theorem zcall_le {xs : List Int32} {d e : Nat} {a : Nat} {M : zM} {as : List Value} {Q : zQ} (hde : d ≤ e) (h : zcall xs d a M as Q) : zcall xs e a M as Q := by
  obtain ⟨k, rfl⟩ := Nat.le.dest hde
  induction k with
  | zero => exact h
  | succ k ih => exact zcall_s xs (d + k) a M as Q Q (fun _ _ => id) (ih (by omega))
end
section
/-- a value of the abstract machine as the machine has it: cells from z on; what is only read by sv -/
def zcv (z : Nat) (sv : Nat → Value) : Value → Value
  | .ref q => .ref (z + q)
  | .retAddr k => sv k
  | v => v
/-! what a step says, by its parts -/
section INV
variable {xs : List Int32} {C : zC} {Bn Bs : Nat} {Q : zQ} {X : zX} {np : Nat} {ls st : List Value} {M : zM}
theorem zldi_e {a : Nat} (h : zldi X np ls a st M) : ∃ x, ls.getD a (.retAddr 0) = .int x ∧ X np ls (.int x :: st) M := by
  unfold zldi at h; split at h
  next x hx => exact ⟨x, hx, h⟩
  · exact h.elim
theorem zldl_e {a : Nat} (h : zldl X np ls a st M) : ∃ x, ls.getD a (.retAddr 0) = .long x ∧ X np ls (.long x :: st) M := by
  unfold zldl at h; split at h
  next x hx => exact ⟨x, hx, h⟩
  · exact h.elim
theorem zlda_e {a : Nat} (h : zlda X np ls a st M) : (∃ x, ls.getD a (.retAddr 0) = .ref x ∧ X np ls (.ref x :: st) M) ∨ ∃ k, 1 ≤ k ∧ k ≤ 6 ∧ ls.getD a (.retAddr 0) = .retAddr k ∧ X np ls (.retAddr k :: st) M := by
  unfold zlda at h; split at h
  next x hx => exact Or.inl ⟨x, hx, h⟩
  next k hk =>
    split at h
    next e1 e2 => exact Or.inr ⟨k, Nat.le_of_ble_eq_true e1, Nat.le_of_ble_eq_true e2, hk, h⟩
    · exact h.elim
  · exact h.elim
theorem zsti_e {a : Nat} (h : zsti X np ls a st M) : ∃ x r, st = .int x :: r ∧ X np (ls.set a (.int x)) r M := by
  unfold zsti at h; split at h
  · exact ⟨_, _, rfl, h⟩
  · exact h.elim
theorem zsta_e {a : Nat} (h : zsta X np ls a st M) : ∃ x r, st = .ref x :: r ∧ X np (ls.set a (.ref x)) r M := by
  unfold zsta at h; split at h
  · exact ⟨_, _, rfl, h⟩
  · exact h.elim
theorem zinc_e {a : Nat} {v : Value} (h : zinc X np ls a v st M) : ∃ x k, ls.getD a (.retAddr 0) = .int x ∧ v = .int k ∧ X np (ls.set a (.int (x + k))) st M := by
  unfold zinc at h; split at h
  next x k hx => exact ⟨x, k, hx, rfl, h⟩
  · exact h.elim
theorem zun_e {f : Int32 → Int32} (h : zun f X np ls st M) : ∃ x r, st = .int x :: r ∧ X np ls (.int (f x) :: r) M := by
  unfold zun at h; split at h
  · exact ⟨_, _, rfl, h⟩
  · exact h.elim
theorem zbin_e {f : Int32 → Int32 → Int32} (h : zbin f X np ls st M) : ∃ y x r, st = .int y :: .int x :: r ∧ X np ls (.int (f x y) :: r) M := by
  unfold zbin at h; split at h
  · exact ⟨_, _, _, rfl, h⟩
  · exact h.elim
theorem zdiv_e {f : Int32 → Int32 → Int32} (h : zdiv f X np ls st M) : ∃ y x r, st = .int y :: .int x :: r ∧ ¬ y = 0 ∧ X np ls (.int (f x y) :: r) M := by
  unfold zdiv at h; split at h
  · exact ⟨_, _, _, rfl, h⟩
  · exact h.elim
theorem zlcm_e (h : zlcm X np ls st M) : ∃ y x r, st = .long y :: .long x :: r ∧ X np ls (.int (lg_cmp x y) :: r) M := by
  unfold zlcm at h; split at h
  · exact ⟨_, _, _, rfl, h⟩
  · exact h.elim
theorem zlor_e (h : zlor X np ls st M) : ∃ y x r, st = .long y :: .long x :: r ∧ X np ls (.long (x ||| y) :: r) M := by
  unfold zlor at h; split at h
  · exact ⟨_, _, _, rfl, h⟩
  · exact h.elim
theorem zlsh_e (h : zlsh X np ls st M) : ∃ y x r, st = .int y :: .long x :: r ∧ X np ls (.long (x <<< (y.toInt64 &&& 63)) :: r) M := by
  unfold zlsh at h; split at h
  · exact ⟨_, _, _, rfl, h⟩
  · exact h.elim
theorem zi2l_e (h : zi2l X np ls st M) : ∃ x r, st = .int x :: r ∧ X np ls (.long x.toInt64 :: r) M := by
  unfold zi2l at h; split at h
  · exact ⟨_, _, rfl, h⟩
  · exact h.elim
theorem zic_e {k : ClassFile.Cond} {t : Nat} (h : zic k X t np ls st M) : ∃ y x r, st = .int y :: .int x :: r ∧ zbrc k x y (X t ls r M) (X np ls r M) := by
  unfold zic at h; split at h
  · exact ⟨_, _, _, rfl, zbr_e h⟩
  · exact h.elim
theorem zif_e {k : ClassFile.Cond} {t : Nat} (h : zif k X t np ls st M) : ∃ x r, st = .int x :: r ∧ zbrc k x 0 (X t ls r M) (X np ls r M) := by
  unfold zif at h; split at h
  · exact ⟨_, _, rfl, zbr_e h⟩
  · exact h.elim
theorem zsws_e {ps : List (Int32 × Nat)} {d : Nat} (h : zsws ps d X ls st M) : ∃ x r, st = .int x :: r ∧ zsw x (fun t => X t ls r M) d ps := by
  unfold zsws at h; split at h
  · exact ⟨_, _, rfl, h⟩
  · exact h.elim
theorem zdup_e (h : zdup X np ls st M) : ∃ v r, st = v :: r ∧ v.category = 1 ∧ (∀ z sv, (zcv z sv v).category = 1) ∧ X np ls (v :: v :: r) M := by
  unfold zdup at h; split at h
  · exact ⟨_, _, rfl, rfl, fun _ _ => rfl, h⟩
  · exact ⟨_, _, rfl, rfl, fun _ _ => rfl, h⟩
  · exact h.elim
theorem zdup2_e (h : zdup2 X np ls st M) : ∃ x y r, st = .int x :: .ref y :: r ∧ X np ls (.int x :: .ref y :: .int x :: .ref y :: r) M := by
  unfold zdup2 at h; split at h
  · exact ⟨_, _, _, rfl, h⟩
  · exact h.elim
theorem zpop_e (h : zpop X np ls st M) : ∃ v r, st = v :: r ∧ (∀ z sv, (zcv z sv v).category = 1) ∧ X np ls r M := by
  unfold zpop at h; split at h
  · exact ⟨_, _, rfl, fun _ _ => rfl, h⟩
  · exact ⟨_, _, rfl, fun _ _ => rfl, h⟩
  · exact h.elim
theorem zgf_e {a b c : Nat} (h : zgf a b c X np ls st M) : (∃ q r, st = .ref q :: r ∧ zS M q = .inl a ∧ ((c = 4 ∧ ∃ t, zR M q b = some t ∧ X np ls (.ref t :: r) M) ∨ (c = 3 ∧ X np ls (.long (zL M q b) :: r) M) ∨ (c ≠ 4 ∧ c ≠ 3 ∧ X np ls (.int (zI M q b) :: r) M))) ∨ ∃ k r, st = .retAddr k :: r ∧ a = 99 ∧ (k = 3 ∨ k = 4) ∧ ((b = 0 ∧ X np ls (.retAddr (k + 2) :: r) M) ∨ (b = 1 ∧ X np ls (.int 0 :: r) M)) := by
  unfold zgf at h; split at h
  next q r =>
    obtain ⟨h1, h2⟩ := zck_e h
    refine Or.inl ⟨q, r, rfl, h1, ?_⟩
    split at h2
    · exact Or.inl ⟨rfl, zro_e h2⟩
    · exact Or.inr (Or.inl ⟨rfl, h2⟩)
    next c h4 h3 => exact Or.inr (Or.inr ⟨h4, h3, h2⟩)
  next k r =>
    split at h
    · exact Or.inr ⟨3, r, rfl, rfl, Or.inl rfl, Or.inl ⟨rfl, h⟩⟩
    · exact Or.inr ⟨4, r, rfl, rfl, Or.inr rfl, Or.inl ⟨rfl, h⟩⟩
    · exact Or.inr ⟨3, r, rfl, rfl, Or.inl rfl, Or.inr ⟨rfl, h⟩⟩
    · exact Or.inr ⟨4, r, rfl, rfl, Or.inr rfl, Or.inr ⟨rfl, h⟩⟩
    · exact h.elim
  · exact h.elim
theorem zpf_e {a b c : Nat} (h : zpf a b c X np ls st M) : ∃ q r, (∃ x : Int32, st = .int x :: .ref q :: r ∧ (c = 0 ∨ (c = 2 ∧ (x = 0 ∨ x = 1))) ∧ zS M q = .inl a ∧ X np ls r (zwI M q b x)) ∨ (∃ x : Int64, st = .long x :: .ref q :: r ∧ c = 3 ∧ zS M q = .inl a ∧ X np ls r (zwL M q b x)) ∨ (∃ t : Nat, st = .ref t :: .ref q :: r ∧ c = 4 ∧ zS M q = .inl a ∧ X np ls r (zwR M q b (some t))) := by
  unfold zpf at h; split at h
  · exact ⟨_, _, Or.inl ⟨_, rfl, Or.inl rfl, zck_e h⟩⟩
  · obtain ⟨h1, h2⟩ := zck_e h
    obtain ⟨h3, h4⟩ := zbo_e h2
    exact ⟨_, _, Or.inl ⟨_, rfl, Or.inr ⟨rfl, h3⟩, h1, h4⟩⟩
  · exact ⟨_, _, Or.inr (Or.inl ⟨_, rfl, rfl, zck_e h⟩)⟩
  · exact ⟨_, _, Or.inr (Or.inr ⟨_, rfl, rfl, zck_e h⟩)⟩
  · exact h.elim
theorem zal_e {t : Nat} (h : zal xs t X np ls st M) : ∃ i r, (∃ q n, st = .int i :: .ref q :: r ∧ zS M q = .inr (t, n) ∧ vp_in i n ∧ X np ls (.int (zI M q i.toNatClampNeg) :: r) M) ∨ ∃ k l, st = .int i :: .retAddr k :: r ∧ zspA xs k = some (t, l) ∧ vp_in i l.length ∧ X np ls (.int (l.getD i.toNatClampNeg 0) :: r) M := by
  unfold zal at h; split at h
  next i q r =>
    obtain ⟨n, h1, h2⟩ := zsh_e h
    obtain ⟨h3, h4⟩ := zix_e h2
    exact ⟨i, r, Or.inl ⟨q, n, rfl, h1, h3, h4⟩⟩
  next i k r =>
    split at h
    next t' l hl =>
      split at h
      next et =>
        obtain ⟨h3, h4⟩ := zix_e h
        exact ⟨i, r, Or.inr ⟨k, l, rfl, by rw [hl, Nat.eq_of_beq_eq_true et], h3, h4⟩⟩
      · exact h.elim
    · exact h.elim
  · exact h.elim
theorem zll_e (h : zll X np ls st M) : ∃ i q n r, st = .int i :: .ref q :: r ∧ zS M q = .inr (3, n) ∧ vp_in i n ∧ X np ls (.long (zL M q i.toNatClampNeg) :: r) M := by
  unfold zll at h; split at h
  next i q r =>
    obtain ⟨n, h1, h2⟩ := zsh_e h
    obtain ⟨h3, h4⟩ := zix_e h2
    exact ⟨i, q, n, r, rfl, h1, h3, h4⟩
  · exact h.elim
theorem zaa_e (h : zaa X np ls st M) : ∃ i q n t r, st = .int i :: .ref q :: r ∧ zS M q = .inr (4, n) ∧ vp_in i n ∧ zR M q i.toNatClampNeg = some t ∧ X np ls (.ref t :: r) M := by
  unfold zaa at h; split at h
  next i q r =>
    obtain ⟨n, h1, h2⟩ := zsh_e h
    obtain ⟨h3, h4⟩ := zix_e h2
    obtain ⟨t, h5, h6⟩ := zro_e h4
    exact ⟨i, q, n, t, r, rfl, h1, h3, h5, h6⟩
  · exact h.elim
theorem zas_e {t : Nat} {f : Int32 → Int32} (h : zas t f X np ls st M) : ∃ x i q n r, st = .int x :: .int i :: .ref q :: r ∧ zS M q = .inr (t, n) ∧ vp_in i n ∧ X np ls r (zwI M q i.toNatClampNeg (f x)) := by
  unfold zas at h; split at h
  next x i q r =>
    obtain ⟨n, h1, h2⟩ := zsh_e h
    obtain ⟨h3, h4⟩ := zix_e h2
    exact ⟨x, i, q, n, r, rfl, h1, h3, h4⟩
  · exact h.elim
theorem zls_e (h : zls X np ls st M) : ∃ x i q n r, st = .long x :: .int i :: .ref q :: r ∧ zS M q = .inr (3, n) ∧ vp_in i n ∧ X np ls r (zwL M q i.toNatClampNeg x) := by
  unfold zls at h; split at h
  next x i q r =>
    obtain ⟨n, h1, h2⟩ := zsh_e h
    obtain ⟨h3, h4⟩ := zix_e h2
    exact ⟨x, i, q, n, r, rfl, h1, h3, h4⟩
  · exact h.elim
theorem zaas_e (h : zaas X np ls st M) : ∃ t i q n r, st = .ref t :: .int i :: .ref q :: r ∧ zS M q = .inr (4, n) ∧ vp_in i n ∧ zS M t = .inl 6 ∧ X np ls r (zwR M q i.toNatClampNeg (some t)) := by
  unfold zaas at h; split at h
  next t i q r =>
    obtain ⟨n, h1, h2⟩ := zsh_e h
    obtain ⟨h3, h4⟩ := zix_e h2
    obtain ⟨h5, h6⟩ := zck_e h4
    exact ⟨t, i, q, n, r, rfl, h1, h3, h5, h6⟩
  · exact h.elim
theorem zlen_e (h : zlen xs X np ls st M) : ∃ r, (∃ q t n, st = .ref q :: r ∧ zS M q = .inr (t, n) ∧ t < 5 ∧ X np ls (.int (nI n) :: r) M) ∨ ∃ k t l, st = .retAddr k :: r ∧ zspA xs k = some (t, l) ∧ X np ls (.int (nI l.length) :: r) M := by
  unfold zlen at h; split at h
  next q r =>
    split at h
    · exact h.elim
    next t n hq =>
      split at h
      next hb => exact ⟨r, Or.inl ⟨q, t, n, rfl, hq, Nat.le_of_ble_eq_true hb, h⟩⟩
      · exact h.elim
  next k r =>
    split at h
    next t l hk => exact ⟨r, Or.inr ⟨k, t, l, rfl, hk, h⟩⟩
    · exact h.elim
  · exact h.elim
theorem zna_e {t : Nat} (h : zna Bn Bs t X np ls st M) : ∃ k r, st = .int k :: r ∧ ¬ k < 0 ∧ k.toNatClampNeg ≤ 100000 ∧ zn M + 1 ≤ Bn ∧ zsl M + k.toNatClampNeg ≤ Bs ∧ X np ls (.ref (zn M) :: r) (znew M (.inr (t, k.toNatClampNeg)) k.toNatClampNeg) := by
  unfold zna at h; split at h
  next k r => exact ⟨k, r, rfl, h⟩
  · exact h.elim
theorem zcl_e {a b c : Nat} {v : Value} (h : zcl C Bn Bs a b c v X np ls st M) : b ≤ st.length ∧ zcat (st.drop b) ≤ 8 ∧ ((∃ mc, v = .ref mc ∧ zn M + mc / 1000000 ≤ Bn ∧ zsl M + mc % 1000000 ≤ Bs ∧ C a M (st.take b).reverse (zanu c (zn M + mc / 1000000) (zsl M + mc % 1000000) X np ls (st.drop b))) ∨ ((∀ mc, v ≠ .ref mc) ∧ C a M (st.take b).reverse (zans c M.1 X np ls (st.drop b)))) := by
  unfold zcl at h; split at h
  next e1 e2 =>
    refine ⟨Nat.le_of_ble_eq_true e1, Nat.le_of_ble_eq_true e2, ?_⟩
    split at h
    next mc => exact Or.inl ⟨mc, rfl, h⟩
    next v hv => exact Or.inr ⟨hv, h⟩
  · exact h.elim
theorem zvr_e {v : Value} {o : Nat} {P : Prop} (h : zvr v M o P) : P ∧ ((∃ q, v = .ref q ∧ zS M q = .inl o) ∨ ∃ k, v = .retAddr k ∧ (k = 3 ∨ k = 4) ∧ o = 13) := by
  unfold zvr at h; split at h
  next q =>
    obtain ⟨h1, h2⟩ := zck_e h
    exact ⟨h2, Or.inl ⟨q, rfl, h1⟩⟩
  next k =>
    split at h
    · exact ⟨h, Or.inr ⟨3, rfl, Or.inl rfl, rfl⟩⟩
    · exact ⟨h, Or.inr ⟨4, rfl, Or.inr rfl, rfl⟩⟩
    · exact h.elim
  · exact h.elim
theorem zsr_e {v : Value} {P : Prop} (h : zsr v P) : P ∧ ∃ q, v = .ref q := by
  unfold zsr at h; split at h
  next q => exact ⟨h, q, rfl⟩
  · exact h.elim
theorem zoi_e (h : zoi X np ls st M) : ∃ q r, st = .ref q :: r ∧ zcat r ≤ 8 ∧ X np ls r M := by
  unfold zoi at h; split at h
  next q r =>
    split at h
    next hb => exact ⟨q, r, rfl, Nat.le_of_ble_eq_true hb, h⟩
    · exact h.elim
  · exact h.elim
theorem zac_e (h : zac X np ls st M) : ∃ n dp q1 sp q0 n0 n1, st = [.int n, .int dp, .ref q1, .int sp, .ref q0] ∧ zS M q0 = .inr (0, n0) ∧ zS M q1 = .inr (0, n1) ∧ ¬ sp < 0 ∧ ¬ dp < 0 ∧ ¬ n < 0 ∧ sp.toNatClampNeg + n.toNatClampNeg ≤ n0 ∧ dp.toNatClampNeg + n.toNatClampNeg ≤ n1 ∧ X np ls [] (zcpy M q0 sp.toNatClampNeg q1 dp.toNatClampNeg n.toNatClampNeg) := by
  unfold zac at h; split at h
  next n dp q1 sp q0 =>
    obtain ⟨n0, h1, h⟩ := zsh_e h
    obtain ⟨n1, h2, h⟩ := zsh_e h
    split at h
    next e1 e2 e3 e4 e5 => exact ⟨n, dp, q1, sp, q0, n0, n1, rfl, h1, h2, of_decide_eq_false e1, of_decide_eq_false e2, of_decide_eq_false e3, Nat.le_of_ble_eq_true e4, Nat.le_of_ble_eq_true e5, h⟩
    · exact h.elim
  · exact h.elim
theorem zri_e {c : Nat} (h : zri c Q st M) : ∃ x, st = [.int x] ∧ (c = 2 → x = 0 ∨ x = 1) ∧ (c = 5 → narrow .char (.int x) = .int x) ∧ (c = 1 → narrow .byte (.int x) = .int x) ∧ Q M (some (.int x)) := by
  unfold zri at h; split at h
  next x =>
    refine ⟨x, rfl, ?_⟩
    split at h
    · obtain ⟨h1, h2⟩ := zbo_e h
      exact ⟨fun _ => h1, fun e => (by cases e), fun e => (by cases e), h2⟩
    · exact ⟨fun e => (by cases e), fun _ => h.1, fun e => (by cases e), h.2⟩
    · exact ⟨fun e => (by cases e), fun e => (by cases e), fun _ => h.1, h.2⟩
    next c h2 h5 h1 => exact ⟨fun e => absurd e h2, fun e => absurd e h5, fun e => absurd e h1, h⟩
  · exact h.elim
theorem zra_e (h : zra Q st M) : ∃ x, st = [.ref x] ∧ Q M (some (.ref x)) := by
  unfold zra at h; split at h
  · exact ⟨_, rfl, h⟩
  · exact h.elim
theorem zrv_e (h : zrv Q st M) : st = [] ∧ Q M none := by
  unfold zrv at h; split at h
  · exact ⟨rfl, h⟩
  · exact h.elim
end INV
end
section
/-! the heap that stands for an abstract memory -/
def zgw : List Cond := lw_tbl.filter goodWord
theorem zwd_in {p : Nat} {w : Cond} (h : zwd p w = true) : w ∈ zgw := by
  unfold zwd at h
  simp only [Bool.and_eq_true, decide_eq_true_eq] at h
  exact List.mem_filter.mpr ⟨List.mem_of_getElem? h.1, h.2⟩
theorem zgw_good {w : Cond} (h : w ∈ zgw) : (w.onTables && w.keeps) = true ∨ ∃ ty, w = .arrayClass ty := good_of_word (List.mem_filter.mp h).2
theorem zfq_in {o i a b : Nat} (h : zfq o i a b = true) : zfl o i a b ∈ zgw := by
  unfold zfq at h
  obtain ⟨e, he, hb⟩ := List.any_eq_true.mp h
  simp only [Bool.and_eq_true] at hb
  have hw := List.all_eq_true.mp zfp_b e he
  rw [Nat.eq_of_beq_eq_true hb.1.1.1, Nat.eq_of_beq_eq_true hb.1.1.2, Nat.eq_of_beq_eq_true hb.1.2, Nat.eq_of_beq_eq_true hb.2] at hw
  exact zwd_in hw
theorem zcq_in {o i a : Nat} (h : zcq o i a = true) : Cond.classLink (zcn.getD o "") i (zcls a).1 ∈ zgw := by
  unfold zcq at h
  obtain ⟨e, he, hb⟩ := List.any_eq_true.mp h
  simp only [Bool.and_eq_true] at hb
  have hw := List.all_eq_true.mp zcp_b e he
  rw [Nat.eq_of_beq_eq_true hb.1.1, Nat.eq_of_beq_eq_true hb.1.2, Nat.eq_of_beq_eq_true hb.2] at hw
  exact zwd_in hw
theorem zkq_in {o i : Nat} {x : Int32} (h : zkq o i x = true) : Cond.constant (zcn.getD o "") i x ∈ zgw := by
  unfold zkq at h
  obtain ⟨e, he, hb⟩ := List.any_eq_true.mp h
  simp only [Bool.and_eq_true, decide_eq_true_eq] at hb
  have hw := List.all_eq_true.mp zkp_b e he
  rw [Nat.eq_of_beq_eq_true hb.1.1, Nat.eq_of_beq_eq_true hb.1.2, hb.2] at hw
  exact zwd_in hw
theorem zlq_in {o i : Nat} {x : Int64} (h : zlq o i x = true) : Cond.constantLong (zcn.getD o "") i x ∈ zgw := by
  unfold zlq at h
  obtain ⟨e, he, hb⟩ := List.any_eq_true.mp h
  simp only [Bool.and_eq_true, decide_eq_true_eq] at hb
  have hw := List.all_eq_true.mp zlp_b e he
  rw [Nat.eq_of_beq_eq_true hb.1.1, Nat.eq_of_beq_eq_true hb.1.2, hb.2] at hw
  exact zwd_in hw
theorem zmp_b : zmp.all (fun e => (match znestk e.2.2.2.1 with
  | true => zwn e.2.2.2.2 (zml e.1 e.2.1 e.2.2.1 e.2.2.2.1)
  | false => zwd e.2.2.2.2 (zml e.1 e.2.1 e.2.2.1 e.2.2.2.1)) && zmw e.2.2.1 e.2.2.2.1) = true := by
  have e : zmp = zmp.take 150 ++ ((zmp.drop 150).take 150 ++ zmp.drop 300) := by
    rw [show zmp.drop 300 = (zmp.drop 150).drop 150 by rw [List.drop_drop], List.take_append_drop, List.take_append_drop]
  rw [e, List.all_append, List.all_append, Bool.and_eq_true, Bool.and_eq_true]
  exact ⟨zmp_b1, zmp_b2, zmp_b3⟩
theorem zmq_in {o i a k : Nat} (h : zmq o i a k = true) : (znestk k = true → zml o i a k ∈ lw_tbl) ∧ (znestk k = false → zml o i a k ∈ zgw) ∧ zmw a k = true := by
  unfold zmq at h
  obtain ⟨e, he, hb⟩ := List.any_eq_true.mp h
  simp only [Bool.and_eq_true] at hb
  have hw := List.all_eq_true.mp zmp_b e he
  rw [Nat.eq_of_beq_eq_true hb.1.1.1, Nat.eq_of_beq_eq_true hb.1.1.2, Nat.eq_of_beq_eq_true hb.1.2, Nat.eq_of_beq_eq_true hb.2] at hw
  simp only [Bool.and_eq_true] at hw
  refine ⟨fun hk => ?_, fun hk => ?_, hw.2⟩
  · have := hw.1
    rw [hk] at this
    unfold zwn at this
    exact List.mem_of_getElem? (of_decide_eq_true this)
  · have := hw.1
    rw [hk] at this
    exact zwd_in this
theorem zcls_get {c : Nat} (h : c < 9) : vwCl[c]? = some (zcls c) := by
  unfold zcls
  rw [List.getD_eq_getElem?_getD, List.getElem?_eq_getElem (show c < vwCl.length from h)]
  rfl
theorem z9 {P : Nat → Prop} (h0 : P 0) (h1 : P 1) (h2 : P 2) (h3 : P 3) (h4 : P 4) (h5 : P 5) (h6 : P 6) (h7 : P 7) (h8 : P 8) : ∀ c, c < 9 → P c := by
  intro c hc
  match c, hc with
  | 0, _ => exact h0
  | 1, _ => exact h1
  | 2, _ => exact h2
  | 3, _ => exact h3
  | 4, _ => exact h4
  | 5, _ => exact h5
  | 6, _ => exact h6
  | 7, _ => exact h7
  | 8, _ => exact h8
  | c + 9, h => omega
theorem zlay_in : ∀ c, c < 9 → ∀ w ∈ u_ws (zcls c).1 (zcls c).2.1 (zcls c).2.2, w ∈ zgw := by
  have key : ∀ (c n : Nat), (List.range n).all (fun k => zwd ((zlay c).getD k 0) (u_lay (zcls c).1 (zcls c).2.1 k)) = true → ∀ w ∈ u_ws (zcls c).1 (zcls c).2.1 n, w ∈ zgw := by
    intro c n h w hw
    obtain ⟨k, hk, rfl⟩ := List.mem_map.mp hw
    exact zwd_in (List.all_eq_true.mp h k hk)
  exact z9 (key 0 _ zlay_b0) (key 1 _ zlay_b1) (key 2 _ zlay_b2) (key 3 _ zlay_b3) (key 4 _ zlay_b4) (key 5 _ zlay_b5) (key 6 _ zlay_b6) (key 7 _ zlay_b7) (key 8 _ zlay_b8)
theorem zty_ok : ∀ c, c < 9 → ∀ k, k < (zcls c).2.2 → parseFieldDescriptor ((zcls c).2.1 k).2.2.1 = some (zTy c k) := z9 tyX0_ok tyX1_ok tyX2_ok tyX3_ok tyX4_ok tyX5_ok tyX6_ok tyX7_ok tyX8_ok
theorem znm_ok : ∀ c, c < 9 → ∀ a, a < (zcls c).2.2 → ∀ b, b < (zcls c).2.2 → a ≠ b → ((zcls c).2.1 a).2.1 ≠ ((zcls c).2.1 b).2.1 := z9 nmX0 nmX1 nmX2 nmX3 nmX4 nmX5 nmX6 nmX7 nmX8
theorem zfl_9 {o i c k : Nat} (h : c < 9) : zfl o i c k = .fieldLink (zcn.getD o "") i ((zcls c).2.1 k).1 ((zcls c).2.1 k).2.1 ((zcls c).2.1 k).2.2.1 := by
  unfold zfl
  split
  · omega
  · rfl
def zfv (z : Nat) (M : zM) (c ci k : Nat) : Value := match ztc (zTy ci k) with
  | 4 => va_rf ((zR M c k).map (fun q => z + q))
  | 3 => .long (zL M c k)
  | _ => .int (zI M c k)
def zfs (z : Nat) (M : zM) (c ci : Nat) : List Value := (List.range (zcls ci).2.2).map (zfv z M c ci)
def zcon (z : Nat) (M : zM) (c t : Nat) : (Nat → Int32) ⊕ (Nat → Int64) ⊕ (Nat → UInt32) ⊕ (Nat → UInt64) ⊕ (Nat → Option Nat) := match t with
  | 4 => .inr (.inr (.inr (.inr (fun j => (zR M c j).map (fun q => z + q)))))
  | 3 => .inr (.inl (zL M c))
  | _ => .inl (zI M c)
def zcell (z : Nat) (dA : Nat → ClassId) (M : zM) (c : Nat) : va_E := match zS M c with
  | .inl ci => .inr (ci, zfs z M c ci)
  | .inr (t, n) => .inl (dA t, n, zcon z M c t)
def ztys (dA : Nat → ClassId) : List (ClassId × FieldType) := [(dA 0, .int), (dA 1, .byte), (dA 2, .boolean), (dA 3, .long), (dA 4, .object RX6)]
def zrep (D : va_G) (H0 : Heap) (dA : Nat → ClassId) (M : zM) (H : Heap) : Prop :=
  H.size = H0.size + zn M ∧ (∀ q : Nat, q < H0.size → H[q]? = H0[q]?) ∧ (∀ c, zn M ≤ c → zS M c = .inr (9, 0)) ∧ (∀ c ci, zS M c = .inl ci → ci < 9) ∧ ∀ c, c < zn M → va_at D vwCl (H0.size + c, zcell H0.size dA M c) H
section REP
variable {D : va_G} {H0 H H1 : Heap} {dA : Nat → ClassId} {M M' : zM}
theorem va_P1 {cl : List vw_C} {q : Nat × va_E} (h : va_at D cl q H) : va_P D cl [q] H := by
  intro k x hx
  cases k with
  | zero => cases hx; exact h
  | succ k => simp at hx
theorem zrep_lt1 (h : zrep D H0 dA M H) {q ci : Nat} (hs : zS M q = .inl ci) : q < zn M := by
  rcases Nat.lt_or_ge q (zn M) with g | g
  · exact g
  · have := h.2.2.1 q g
    rw [hs] at this
    cases this
theorem zrep_lt2 (h : zrep D H0 dA M H) {q t n : Nat} (hs : zS M q = .inr (t, n)) (ht : t < 5) : q < zn M := by
  rcases Nat.lt_or_ge q (zn M) with g | g
  · exact g
  · have := h.2.2.1 q g
    rw [hs] at this
    injection this with e
    injection e with e1 e2
    omega
theorem zcell_o {q ci z : Nat} (hs : zS M q = .inl ci) : zcell z dA M q = .inr (ci, zfs z M q ci) := by
  unfold zcell; rw [hs]
theorem zcell_a {q t n z : Nat} (hs : zS M q = .inr (t, n)) : zcell z dA M q = .inl (dA t, n, zcon z M q t) := by
  unfold zcell; rw [hs]
theorem zrep_o (h : zrep D H0 dA M H) {q ci : Nat} (hs : zS M q = .inl ci) : va_at D vwCl (H0.size + q, .inr (ci, zfs H0.size M q ci)) H := by
  have := h.2.2.2.2 q (zrep_lt1 h hs)
  rw [zcell_o hs] at this
  exact this
theorem zrep_a (h : zrep D H0 dA M H) {q t n : Nat} (hs : zS M q = .inr (t, n)) (ht : t < 5) : va_at D vwCl (H0.size + q, .inl (dA t, n, zcon H0.size M q t)) H := by
  have := h.2.2.2.2 q (zrep_lt2 h hs ht)
  rw [zcell_a hs] at this
  exact this
theorem zfs_get {z q ci k : Nat} (hk : k < (zcls ci).2.2) : (zfs z M q ci)[k]? = some (zfv z M q ci k) := by
  unfold zfs
  rw [List.getElem?_map, List.getElem?_range hk]
  rfl
theorem zfs_len {z q ci : Nat} : (zfs z M q ci).length = (zcls ci).2.2 := by
  unfold zfs
  rw [List.length_map, List.length_range]
theorem zrep_set {c : Nat} (h : zrep D H0 dA M H) (hc : c < zn M) (hz : H1.size = H.size) (ho : ∀ q, q ≠ H0.size + c → H1[q]? = H[q]?) (hn : zn M' = zn M) (hS : ∀ x, zS M' x = zS M x) (he : ∀ x, x ≠ c → zcell H0.size dA M' x = zcell H0.size dA M x) (ha : va_at D vwCl (H0.size + c, zcell H0.size dA M' c) H1) : zrep D H0 dA M' H1 := by
  obtain ⟨h1, h2, h3, h4, h5⟩ := h
  refine ⟨by rw [hz, hn]; exact h1, fun q hq => (ho q (by omega)).trans (h2 q hq), fun x hx => by rw [hS]; exact h3 x (by omega), fun x ci hx => h4 x ci (by rw [← hS]; exact hx), fun x hx => ?_⟩
  by_cases e : x = c
  · subst e; exact ha
  · rw [he x e]
    exact (h5 x (by omega)).kept (ho _ (by omega))
/-- a list set at one place, where all else is as it was -/
theorem zfs_set {z q ci k : Nat} {v : Value} (hk : k < (zcls ci).2.2) (hv : zfv z M' q ci k = v) (ho : ∀ j, j ≠ k → zfv z M' q ci j = zfv z M q ci j) : (zfs z M q ci).set k v = zfs z M' q ci := by
  apply List.ext_getElem?
  intro j
  rw [List.getElem?_set]
  by_cases e : k = j
  · subst e
    rw [if_pos rfl, if_pos (by rw [zfs_len]; exact hk), zfs_get hk, hv]
  · rw [if_neg e]
    by_cases hj : j < (zcls ci).2.2
    · rw [zfs_get hj, zfs_get hj, ho j (fun q => e q.symm)]
    · rw [List.getElem?_eq_none (by rw [zfs_len]; omega), List.getElem?_eq_none (by rw [zfs_len]; omega)]
theorem zup_ne {α : Type} {f : Nat → Nat → α} {c j c' : Nat} {v : α} (h : c' ≠ c) : zup f c j v c' = f c' := by
  funext x
  unfold zup
  rw [if_neg h]
theorem zup_at {α : Type} {f : Nat → Nat → α} {c j j' : Nat} {v : α} : zup f c j v c j' = if j' = j then v else f c j' := by
  unfold zup
  rw [if_pos rfl]
theorem zcell_wI {z q j x : Nat} {v : Int32} (h : x ≠ q) : zcell z dA (zwI M q j v) x = zcell z dA M x := by
  have e : (zwI M q j v).2.1 x = M.2.1 x := zup_ne h
  unfold zcell zfs zfv zcon zI zR zL zS
  rw [e]
  rfl
theorem zcell_wL {z q j x : Nat} {v : Int64} (h : x ≠ q) : zcell z dA (zwL M q j v) x = zcell z dA M x := by
  have e : (zwL M q j v).2.2 x = M.2.2 x := zup_ne h
  unfold zcell zfs zfv zcon zI zR zL zS
  rw [e]
  rfl
theorem zcell_wR {z q j x : Nat} {v : Option Nat} (h : x ≠ q) : zcell z dA (zwR M q j v) x = zcell z dA M x := by
  have e : (zwR M q j v).1.2.2.2 x = M.1.2.2.2 x := zup_ne h
  unfold zcell zfs zfv zcon zI zR zL zS
  rw [e]
  rfl
end REP
end
section
/-! what the tables and the cells that are only read say, at every state of the run -/
def zbty (t : Nat) : FieldType := match t with
  | 0 => .int
  | _ => .byte
def ztx3 : String := "member  clause  winds   cock    quota   puns    draw    in      out     or      and     not     sharp   minds   votes   notch   falling read    "
def ztx4 : String := ";()<>=+-*/%"
def zenv (D : va_G) (H0 : Heap) (xs : List Int32) (sv : Nat → Value) (dA : Nat → ClassId) (U : State) : Prop :=
  va_K D vwCl (ztys dA) U ∧ (∀ o i a k, zmq o i a k = true → znestk k = true → va_Nw (zml o i a k) U) ∧ va_Nw (.fieldLinkNest RX4 89 RX7 "FACTORIALS" "[I" RX7) U ∧ va_AO RX6 U ∧
  (∃ a, sv 3 = .ref a ∧ vk_R RX5 29 ztx3 a U) ∧ (∃ a, sv 4 = .ref a ∧ vk_R RX5 171 ztx4 a U) ∧
  va_Z RJ0 "COMPACT_STRINGS" "Z" (.int 1) (fun q => H0.size ≤ q) U H0 ∧ va_Z RJ3 "SIOOBE_FORMATTER" "Ljava/util/function/BiFunction;" (sv 7) (fun q => H0.size ≤ q) U H0 ∧ va_Z RX7 "FACTORIALS" "[I" (sv 2) (fun q => H0.size ≤ q) U H0 ∧
  (∀ k t l, zspA xs k = some (t, l) → ∃ a, sv k = .ref a ∧ va_T (zbty t) a l.length (fun j => .int (l.getD j 0)) (fun q => H0.size ≤ q) U H0) ∧
  (∀ k, k = 3 ∨ k = 4 → ∃ a, sv k = .ref a ∧ va_O RJ0 a (fun q => H0.size ≤ q) U H0 ∧ va_OF RJ0 "value" "[B" (sv (k + 2)) a (fun q => H0.size ≤ q) U H0 ∧ va_OF RJ0 "coder" "B" (.int 0) a (fun q => H0.size ≤ q) U H0)
section ENV
variable {D : va_G} {H0 : Heap} {xs : List Int32} {sv : Nat → Value} {dA : Nat → ClassId} {u U : State}
theorem znest_form {o i a k : Nat} (h : znestk k = true) : zml o i a k = .methodLinkNest (zcn.getD o "") i (zy a) RX7 := by
  unfold znestk at h
  split at h
  · rfl
  · rfl
  · cases h
theorem zenv_same (hv : u.vm = U.vm) (h : zenv D H0 xs sv dA u) : zenv D H0 xs sv dA U := by
  have al : u.vm.Alike U.vm := hv ▸ Vm.Alike.refl u.vm
  obtain ⟨h1, h2, h3, h4, ⟨a5, e5, h5⟩, ⟨a6, e6, h6⟩, h7, h8, h9, h10, h11⟩ := h
  refine ⟨va_K.moved al h1, fun o i a k hq hk => ?_, va_Nw.same rfl hv h3, h4.moved al, ⟨a5, e5, vk_R.same hv.symm h5⟩, ⟨a6, e6, vk_R.same hv.symm h6⟩, h7.moved al, h8.moved al, h9.moved al, fun k t l hk => ?_, fun k hk => ?_⟩
  · have := h2 o i a k hq hk
    rw [znest_form hk] at this ⊢
    exact va_Nw.same rfl hv this
  · obtain ⟨a, e, g⟩ := h10 k t l hk
    exact ⟨a, e, g.moved al⟩
  · obtain ⟨a, e, g1, g2, g3⟩ := h11 k hk
    exact ⟨a, e, g1.moved al, g2.moved al, g3.moved al⟩
theorem zenv_warm (hW : u.WarmedH U.vm) (h : zenv D H0 xs sv dA u) : zenv D H0 xs sv dA U := by
  have al : u.vm.Alike U.vm := hW.alike
  obtain ⟨h1, h2, h3, h4, ⟨a5, e5, h5⟩, ⟨a6, e6, h6⟩, h7, h8, h9, h10, h11⟩ := h
  refine ⟨va_K.moved al h1, fun o i a k hq hk => ?_, va_Nw.warmF hW h3, h4.moved al, ⟨a5, e5, vk_R.warm hW h5⟩, ⟨a6, e6, vk_R.warm hW h6⟩, h7.moved al, h8.moved al, h9.moved al, fun k t l hk => ?_, fun k hk => ?_⟩
  · have := h2 o i a k hq hk
    rw [znest_form hk] at this ⊢
    exact va_Nw.warmM hW this
  · obtain ⟨a, e, g⟩ := h10 k t l hk
    exact ⟨a, e, g.moved al⟩
  · obtain ⟨a, e, g1, g2, g3⟩ := h11 k hk
    exact ⟨a, e, g1.moved al, g2.moved al, g3.moved al⟩
end ENV
/-- a method's frame: what is known while it runs -/
def zctx (D : va_G) (H0 : Heap) (xs : List Int32) (sv : Nat → Value) (dA : Nat → ClassId) (mi : Nat) (p : Program) (s : State) (m : MethodId) (args : Array Value) (meth : Method) (c : Code) : Prop :=
  p.tables.exec = Jvm.exec ∧ c.code = zbs mi ∧ c.maxLocals = znl mi ∧ meth.sig.returnType = zrt mi ∧ s.vm.findClass (zow mi) = some m.cls ∧ (∀ w ∈ zgw, w.before args s = true) ∧ meth.locks = false ∧ ((zy mi).name = "<init>" → meth.name = "<init>") ∧ zenv D H0 xs sv dA s ∧ H0.size ≤ s.heap.size ∧ (∀ q : Nat, q < H0.size → s.heap[q]? = H0[q]?) ∧ ∀ k, (sv k).category = 1
/-- the locals -/
def zlv (z : Nat) (sv : Nat → Value) (lsA : Array Slot) (n : Nat) (ls : List Value) : Prop := lsA.size = n ∧ lv_wf lsA ∧ ls.length = n ∧ ∀ (i : Nat) (v : Value), ls[i]? = some v → v ≠ .retAddr 0 → lsA[i]? = some (.val (zcv z sv v))
def zinv (D : va_G) (H0 : Heap) (sv : Nat → Value) (dA : Nat → ClassId) (mi n0 s0 : Nat) (R : Room) (s : State) (H : Heap) (locs : List Loc) (lsA : Array Slot) (cells slots : Nat) (ls : List Value) (M : zM) : Prop :=
  zrep D H0 dA M H ∧ (∀ x ∈ locs, H0.size ≤ x.base) ∧ zlv H0.size sv lsA (znl mi) ls ∧ (zlg mi = true → zflc ls = true) ∧ cells + n0 = zn M ∧ slots + s0 = zsl M ∧ zn M ≤ n0 + R.cells ∧ zsl M ≤ s0 + R.slots ∧ s.heap.size ≤ H.size
def zXW (D : va_G) (H0 : Heap) (sv : Nat → Value) (dA : Nat → ClassId) (mi n0 s0 : Nat) (p : Program) (l : Launch) (e : Env) (R : Room) (s : State) (m : MethodId) (args : Array Value) (below : List Frame) (meth : Method) (c : Code) (Qf : State → Prop) : zX :=
  fun pc ls st M => ∀ H locs lsA cells slots, zinv D H0 sv dA mi n0 s0 R s H locs lsA cells slots ls M → W p l e R s m args below meth c H locs cells slots Qf (F0 m pc lsA (st.map (zcv H0.size sv)))
section LOC
variable {z n : Nat} {sv : Nat → Value} {lsA : Array Slot} {ls : List Value}
theorem zlv_get (h : zlv z sv lsA n ls) {a : Nat} {v : Value} (hv : ls.getD a (.retAddr 0) = v) (hne : v ≠ .retAddr 0) : lsA[a]? = some (.val (zcv z sv v)) := by
  rw [List.getD_eq_getElem?_getD] at hv
  cases hq : ls[a]? with
  | none =>
    rw [hq] at hv
    exact absurd hv.symm hne
  | some w =>
    rw [hq] at hv
    have hw : w = v := hv
    subst hw
    exact h.2.2.2 a w hq hne
theorem zcv_cat (hsv : ∀ k, (sv k).category = 1) {v : Value} : (zcv z sv v).category = v.category := by
  cases v <;> first | rfl | exact hsv _
theorem zcat_map (hsv : ∀ k, (sv k).category = 1) : ∀ st : List Value, ((st.map (zcv z sv)).map fun v => v.category).sum = zcat st
  | [] => rfl
  | v :: r => by
    rw [List.map_cons, List.map_cons, List.sum_cons, zcv_cat hsv, zcat_map hsv r]
    rfl
theorem zflc_mem : ∀ {ls : List Value}, zflc ls = true → ∀ v ∈ ls, v.category = 1
  | [], _, v, h => by cases h
  | w :: r, h, v, hv => by
    have h' : (Nat.beq w.category 1 && zflc r) = true := h
    rw [Bool.and_eq_true] at h'
    rcases List.mem_cons.mp hv with e | e
    · rw [e]; exact Nat.eq_of_beq_eq_true h'.1
    · exact zflc_mem h'.2 v e
theorem zflc_of : ∀ {ls : List Value}, (∀ v ∈ ls, v.category = 1) → zflc ls = true
  | [], _ => rfl
  | w :: r, h => by
    show (Nat.beq w.category 1 && zflc r) = true
    rw [h w List.mem_cons_self, zflc_of (fun v hv => h v (List.mem_cons_of_mem _ hv))]
    rfl
theorem zflc_set (h : zflc ls = true) {a : Nat} {v : Value} (hv : v.category = 1) : zflc (ls.set a v) = true := by
  refine zflc_of fun w hw => ?_
  rcases List.mem_or_eq_of_mem_set hw with e | e
  · exact zflc_mem h w e
  · rw [e]; exact hv
/-- the listed locals, as the rows of the kit want them -/
def zprs (z : Nat) (sv : Nat → Value) (ls : List Value) : List (Nat × Value) := (List.range ls.length).filterMap (fun i => match ls[i]? with
  | some v => if v = .retAddr 0 then none else some (i, zcv z sv v)
  | none => none)
theorem zprs_mem {q : Nat × Value} : q ∈ zprs z sv ls ↔ ∃ v, ls[q.1]? = some v ∧ v ≠ .retAddr 0 ∧ q.2 = zcv z sv v := by
  unfold zprs
  rw [List.mem_filterMap]
  constructor
  · rintro ⟨i, hi, h⟩
    cases hv : ls[i]? with
    | none => rw [hv] at h; cases h
    | some v =>
      rw [hv] at h
      by_cases e : v = .retAddr 0
      · simp [e] at h
      · simp only [e, if_false] at h
        cases h
        exact ⟨v, hv, e, rfl⟩
  · rintro ⟨v, hv, hne, hq⟩
    have hi : q.1 < ls.length := (List.getElem?_eq_some_iff.mp hv).1
    refine ⟨q.1, List.mem_range.mpr hi, ?_⟩
    rw [hv]
    simp only [hne, if_false]
    rw [← hq]
theorem zlv_has (h : zlv z sv lsA n ls) : lv_has lsA n (zprs z sv ls) := ⟨h.1, h.2.1, fun q hq => by
  obtain ⟨v, hv, hne, e⟩ := zprs_mem.mp hq
  rw [e]
  exact h.2.2.2 q.1 v hv hne⟩
theorem zlv_set (hsv : ∀ k, (sv k).category = 1) (h : zlv z sv lsA n ls) (hf : zflc ls = true) {a : Nat} {v : Value} {lsB : Array Slot} (hB : lv_has lsB n ((a, zcv z sv v) :: (zprs z sv ls).filter (fun q => !(q.1 == a) && !(q.1 + 1 == a && q.2.category == 2)))) : zlv z sv lsB n (ls.set a v) := by
  refine ⟨hB.1, hB.2.1, by rw [List.length_set]; exact h.2.2.1, fun i w hw hne => ?_⟩
  rw [List.getElem?_set] at hw
  by_cases e : a = i
  · subst e
    rw [if_pos rfl] at hw
    by_cases hl : a < ls.length
    · rw [if_pos hl] at hw
      cases hw
      exact hB.2.2 (a, zcv z sv v) List.mem_cons_self
    · rw [if_neg hl] at hw
      cases hw
  · rw [if_neg e] at hw
    refine hB.2.2 (i, zcv z sv w) (List.mem_cons_of_mem _ (List.mem_filter.mpr ⟨zprs_mem.mpr ⟨w, hw, hne, rfl⟩, ?_⟩))
    have hc : (zcv z sv w).category = 1 := by rw [zcv_cat hsv]; exact zflc_mem hf w (List.mem_of_getElem? hw)
    have h1 : (i == a) = false := by simp; exact fun q => e q.symm
    simp [h1, hc]
end LOC
end
section
/-! one step of the abstract machine is one of the machine: loads, stores, numbers, branches -/
section SND
variable {p : Program} {l : Launch} {e : Env} {R : Room} {s : State} {m : MethodId} {args : Array Value} {below : List Frame} {meth : Method} {c : Code} {Qf : State → Prop}
variable {D : va_G} {H0 : Heap} {xs : List Int32} {sv : Nat → Value} {dA : Nat → ClassId} {mi n0 s0 : Nat} {X : zX}
variable {pc : Nat} {ls st : List Value} {M : zM} {a : Nat} {v : Value}
theorem zs_iload (hX : X = zXW D H0 sv dA mi n0 s0 p l e R s m args below meth c Qf) (K : zctx D H0 xs sv dA mi p s m args meth c) (hd : decode (zbs mi) pc = .ok (.iload a, 2)) (h : zldi X (pc + 2) ls a st M) : X pc ls st M := by
  subst hX
  obtain ⟨x, hx, h⟩ := zldi_e h
  intro H locs lsA cells slots I
  exact lv_iload K.1 K.2.1 hd (zlv_get I.2.2.1 hx (fun q => by cases q)) (h H locs lsA cells slots I)
theorem zs_iload_n (hX : X = zXW D H0 sv dA mi n0 s0 p l e R s m args below meth c Qf) (K : zctx D H0 xs sv dA mi p s m args meth c) {k : Fin 4} (hk : a = k.val) (hd : decode (zbs mi) pc = .ok (.iload_n k, 1)) (h : zldi X (pc + 1) ls a st M) : X pc ls st M := by
  subst hX
  obtain ⟨x, hx, h⟩ := zldi_e h
  intro H locs lsA cells slots I
  exact lv_iload_n K.1 K.2.1 hd hk.symm (zlv_get I.2.2.1 hx (fun q => by cases q)) (h H locs lsA cells slots I)
theorem zs_lload_n (hX : X = zXW D H0 sv dA mi n0 s0 p l e R s m args below meth c Qf) (K : zctx D H0 xs sv dA mi p s m args meth c) {k : Fin 4} (hk : a = k.val) (hd : decode (zbs mi) pc = .ok (.lload_n k, 1)) (h : zldl X (pc + 1) ls a st M) : X pc ls st M := by
  subst hX
  obtain ⟨x, hx, h⟩ := zldl_e h
  intro H locs lsA cells slots I
  exact lv_lload_n K.1 K.2.1 hd hk.symm (zlv_get I.2.2.1 hx (fun q => by cases q)) (h H locs lsA cells slots I)
/-- what is only read, but for the seventh, is a reference -/
theorem zsv_ref (K : zctx D H0 xs sv dA mi p s m args meth c) {k : Nat} (h1 : 1 ≤ k) (h2 : k ≤ 6) : ∃ t, sv k = .ref t := by
  obtain ⟨-, -, -, -, -, -, -, -, hE, -⟩ := K
  obtain ⟨-, -, -, -, ⟨a5, e5, -⟩, ⟨a6, e6, -⟩, -, -, -, h10, -⟩ := hE
  match k, h1, h2 with
  | 1, _, _ => obtain ⟨t, g, -⟩ := h10 1 0 xs rfl; exact ⟨t, g⟩
  | 2, _, _ => obtain ⟨t, g, -⟩ := h10 2 0 zfacts rfl; exact ⟨t, g⟩
  | 3, _, _ => exact ⟨a5, e5⟩
  | 4, _, _ => exact ⟨a6, e6⟩
  | 5, _, _ => obtain ⟨t, g, -⟩ := h10 5 1 zwords rfl; exact ⟨t, g⟩
  | 6, _, _ => obtain ⟨t, g, -⟩ := h10 6 1 zsigns rfl; exact ⟨t, g⟩
  | k + 7, _, h => omega
theorem zs_aload (hX : X = zXW D H0 sv dA mi n0 s0 p l e R s m args below meth c Qf) (K : zctx D H0 xs sv dA mi p s m args meth c) (hd : decode (zbs mi) pc = .ok (.aload a, 2)) (h : zlda X (pc + 2) ls a st M) : X pc ls st M := by
  subst hX
  intro H locs lsA cells slots I
  rcases zlda_e h with ⟨x, hx, h⟩ | ⟨k, h1, h2, hx, h⟩
  · exact lv_aload K.1 K.2.1 hd (zlv_get I.2.2.1 hx (fun q => by cases q)) (h H locs lsA cells slots I)
  · obtain ⟨t, ht⟩ := zsv_ref K h1 h2
    have hg := zlv_get I.2.2.1 hx (fun q => by injection q; omega)
    have hz : zcv H0.size sv (.retAddr k) = .ref t := ht
    rw [hz] at hg
    have hw := h H locs lsA cells slots I
    rw [List.map_cons, hz] at hw
    exact lv_aload K.1 K.2.1 hd hg hw
theorem zs_aload_n (hX : X = zXW D H0 sv dA mi n0 s0 p l e R s m args below meth c Qf) (K : zctx D H0 xs sv dA mi p s m args meth c) {k : Fin 4} (hk : a = k.val) (hd : decode (zbs mi) pc = .ok (.aload_n k, 1)) (h : zlda X (pc + 1) ls a st M) : X pc ls st M := by
  subst hX
  intro H locs lsA cells slots I
  rcases zlda_e h with ⟨x, hx, h⟩ | ⟨k, h1, h2, hx, h⟩
  · exact lv_aload_n K.1 K.2.1 hd hk.symm (zlv_get I.2.2.1 hx (fun q => by cases q)) (h H locs lsA cells slots I)
  · obtain ⟨t, ht⟩ := zsv_ref K h1 h2
    have hg := zlv_get I.2.2.1 hx (fun q => by injection q; omega)
    have hz : zcv H0.size sv (.retAddr k) = .ref t := ht
    rw [hz] at hg
    have hw := h H locs lsA cells slots I
    rw [List.map_cons, hz] at hw
    exact lv_aload_n K.1 K.2.1 hd hk.symm hg hw
theorem zK_sv (K : zctx D H0 xs sv dA mi p s m args meth c) : ∀ k, (sv k).category = 1 := K.2.2.2.2.2.2.2.2.2.2.2
theorem zinv_loc {H : Heap} {locs : List Loc} {lsA lsB : Array Slot} {cells slots : Nat} {lt : List Value} (I : zinv D H0 sv dA mi n0 s0 R s H locs lsA cells slots ls M) (h1 : zlv H0.size sv lsB (znl mi) lt) (h2 : zflc lt = true) : zinv D H0 sv dA mi n0 s0 R s H locs lsB cells slots lt M := ⟨I.1, I.2.1, h1, fun _ => h2, I.2.2.2.2⟩
theorem zs_istore (hX : X = zXW D H0 sv dA mi n0 s0 p l e R s m args below meth c Qf) (K : zctx D H0 xs sv dA mi p s m args meth c) (hd : decode (zbs mi) pc = .ok (.istore a, 2)) (ha : a < znl mi) (hg : zlg mi = true) (h : zsti X (pc + 2) ls a st M) : X pc ls st M := by
  subst hX
  obtain ⟨x, r, rfl, h⟩ := zsti_e h
  intro H locs lsA cells slots I
  exact lv_istore (x := x) K.1 K.2.1 hd (zlv_has I.2.2.1) ha rfl fun lsB hB => h H locs lsB cells slots (zinv_loc I (zlv_set (zK_sv K) I.2.2.1 (I.2.2.2.1 hg) hB) (zflc_set (I.2.2.2.1 hg) rfl))
theorem zs_istore_n (hX : X = zXW D H0 sv dA mi n0 s0 p l e R s m args below meth c Qf) (K : zctx D H0 xs sv dA mi p s m args meth c) {k : Fin 4} (hk : a = k.val) (hd : decode (zbs mi) pc = .ok (.istore_n k, 1)) (ha : a < znl mi) (hg : zlg mi = true) (h : zsti X (pc + 1) ls a st M) : X pc ls st M := by
  subst hX
  obtain ⟨x, r, rfl, h⟩ := zsti_e h
  intro H locs lsA cells slots I
  exact lv_istore_n (x := x) K.1 K.2.1 hd hk.symm (zlv_has I.2.2.1) ha rfl fun lsB hB => h H locs lsB cells slots (zinv_loc I (zlv_set (zK_sv K) I.2.2.1 (I.2.2.2.1 hg) hB) (zflc_set (I.2.2.2.1 hg) rfl))
theorem zs_astore (hX : X = zXW D H0 sv dA mi n0 s0 p l e R s m args below meth c Qf) (K : zctx D H0 xs sv dA mi p s m args meth c) (hd : decode (zbs mi) pc = .ok (.astore a, 2)) (ha : a < znl mi) (hg : zlg mi = true) (h : zsta X (pc + 2) ls a st M) : X pc ls st M := by
  subst hX
  obtain ⟨x, r, rfl, h⟩ := zsta_e h
  intro H locs lsA cells slots I
  exact lv_astore (x := H0.size + x) K.1 K.2.1 hd (zlv_has I.2.2.1) ha rfl fun lsB hB => h H locs lsB cells slots (zinv_loc I (zlv_set (v := .ref x) (zK_sv K) I.2.2.1 (I.2.2.2.1 hg) hB) (zflc_set (I.2.2.2.1 hg) rfl))
theorem zs_astore_n (hX : X = zXW D H0 sv dA mi n0 s0 p l e R s m args below meth c Qf) (K : zctx D H0 xs sv dA mi p s m args meth c) {k : Fin 4} (hk : a = k.val) (hd : decode (zbs mi) pc = .ok (.astore_n k, 1)) (ha : a < znl mi) (hg : zlg mi = true) (h : zsta X (pc + 1) ls a st M) : X pc ls st M := by
  subst hX
  obtain ⟨x, r, rfl, h⟩ := zsta_e h
  intro H locs lsA cells slots I
  exact lv_astore_n (x := H0.size + x) K.1 K.2.1 hd hk.symm (zlv_has I.2.2.1) ha rfl fun lsB hB => h H locs lsB cells slots (zinv_loc I (zlv_set (v := .ref x) (zK_sv K) I.2.2.1 (I.2.2.2.1 hg) hB) (zflc_set (I.2.2.2.1 hg) rfl))
theorem zs_iinc (hX : X = zXW D H0 sv dA mi n0 s0 p l e R s m args below meth c Qf) (K : zctx D H0 xs sv dA mi p s m args meth c) {k : Int} (hd : decode (zbs mi) pc = .ok (.iinc a k, 3)) (ha : a < znl mi) (hg : zlg mi = true) (hv : v = .int (Int32.ofInt k)) (h : zinc X (pc + 3) ls a v st M) : X pc ls st M := by
  subst hX
  obtain ⟨x, w, hx, hw, h⟩ := zinc_e h
  have ew : Int32.ofInt k = w := by rw [hv] at hw; injection hw
  intro H locs lsA cells slots I
  have hl := zlv_has I.2.2.1
  have hm : (a, Value.int x) ∈ zprs H0.size sv ls := by
    refine zprs_mem.mpr ⟨.int x, ?_, fun q => (by cases q), rfl⟩
    rw [List.getD_eq_getElem?_getD] at hx
    cases hq : ls[a]? with
    | none => rw [hq] at hx; cases hx
    | some u => rw [hq] at hx; exact congrArg some hx
  obtain ⟨j, hj⟩ := List.getElem?_of_mem hm
  exact lv_iinc (k := j) (v := x + w) K.1 K.2.1 hd hl hj (by rw [ew]) ha rfl fun lsB hB => h H locs lsB cells slots (zinv_loc I (zlv_set (v := .int (x + w)) (zK_sv K) I.2.2.1 (I.2.2.2.1 hg) hB) (zflc_set (I.2.2.2.1 hg) rfl))
theorem zs_bin {f : Int32 → Int32 → Int32} (hX : X = zXW D H0 sv dA mi n0 s0 p l e R s m args below meth c Qf)
    (row : ∀ (x y : Int32) (H : Heap) (locs : List Loc) (cells slots : Nat) (lsA : Array Slot) (r : List Value), W p l e R s m args below meth c H locs cells slots Qf (F0 m (pc + 1) lsA (.int (f x y) :: r)) → W p l e R s m args below meth c H locs cells slots Qf (F0 m pc lsA (.int y :: .int x :: r)))
    (h : zbin f X (pc + 1) ls st M) : X pc ls st M := by
  subst hX
  obtain ⟨y, x, r, rfl, h⟩ := zbin_e h
  intro H locs lsA cells slots I
  exact row x y H locs cells slots lsA _ (h H locs lsA cells slots I)
theorem zs_un {f : Int32 → Int32} (hX : X = zXW D H0 sv dA mi n0 s0 p l e R s m args below meth c Qf)
    (row : ∀ (x : Int32) (H : Heap) (locs : List Loc) (cells slots : Nat) (lsA : Array Slot) (r : List Value), W p l e R s m args below meth c H locs cells slots Qf (F0 m (pc + 1) lsA (.int (f x) :: r)) → W p l e R s m args below meth c H locs cells slots Qf (F0 m pc lsA (.int x :: r)))
    (h : zun f X (pc + 1) ls st M) : X pc ls st M := by
  subst hX
  obtain ⟨x, r, rfl, h⟩ := zun_e h
  intro H locs lsA cells slots I
  exact row x H locs cells slots lsA _ (h H locs lsA cells slots I)
theorem zs_div {f : Int32 → Int32 → Int32} (hX : X = zXW D H0 sv dA mi n0 s0 p l e R s m args below meth c Qf)
    (row : ∀ (x y : Int32) (H : Heap) (locs : List Loc) (cells slots : Nat) (lsA : Array Slot) (r : List Value), ¬ y = 0 → W p l e R s m args below meth c H locs cells slots Qf (F0 m (pc + 1) lsA (.int (f x y) :: r)) → W p l e R s m args below meth c H locs cells slots Qf (F0 m pc lsA (.int y :: .int x :: r)))
    (h : zdiv f X (pc + 1) ls st M) : X pc ls st M := by
  subst hX
  obtain ⟨y, x, r, rfl, hy, h⟩ := zdiv_e h
  intro H locs lsA cells slots I
  exact row x y H locs cells slots lsA _ hy (h H locs lsA cells slots I)
theorem zs_lcmp (hX : X = zXW D H0 sv dA mi n0 s0 p l e R s m args below meth c Qf) (K : zctx D H0 xs sv dA mi p s m args meth c) (hd : decode (zbs mi) pc = .ok (.lcmp, 1)) (h : zlcm X (pc + 1) ls st M) : X pc ls st M := by
  subst hX
  obtain ⟨y, x, r, rfl, h⟩ := zlcm_e h
  intro H locs lsA cells slots I
  exact W.lcmp K.1 K.2.1 hd (h H locs lsA cells slots I)
theorem zs_lor (hX : X = zXW D H0 sv dA mi n0 s0 p l e R s m args below meth c Qf) (K : zctx D H0 xs sv dA mi p s m args meth c) (hd : decode (zbs mi) pc = .ok (.lor, 1)) (h : zlor X (pc + 1) ls st M) : X pc ls st M := by
  subst hX
  obtain ⟨y, x, r, rfl, h⟩ := zlor_e h
  intro H locs lsA cells slots I
  exact lv_lor K.1 K.2.1 hd (h H locs lsA cells slots I)
theorem zs_lshl (hX : X = zXW D H0 sv dA mi n0 s0 p l e R s m args below meth c Qf) (K : zctx D H0 xs sv dA mi p s m args meth c) (hd : decode (zbs mi) pc = .ok (.lshl, 1)) (h : zlsh X (pc + 1) ls st M) : X pc ls st M := by
  subst hX
  obtain ⟨y, x, r, rfl, h⟩ := zlsh_e h
  intro H locs lsA cells slots I
  exact lv_lshl K.1 K.2.1 hd rfl (h H locs lsA cells slots I)
theorem zs_i2l (hX : X = zXW D H0 sv dA mi n0 s0 p l e R s m args below meth c Qf) (K : zctx D H0 xs sv dA mi p s m args meth c) (hd : decode (zbs mi) pc = .ok (.i2l, 1)) (h : zi2l X (pc + 1) ls st M) : X pc ls st M := by
  subst hX
  obtain ⟨x, r, rfl, h⟩ := zi2l_e h
  intro H locs lsA cells slots I
  exact lv_i2l K.1 K.2.1 hd rfl (h H locs lsA cells slots I)
theorem zs_ic (hX : X = zXW D H0 sv dA mi n0 s0 p l e R s m args below meth c Qf) (K : zctx D H0 xs sv dA mi p s m args meth c) {k : ClassFile.Cond} {o : Int} (hd : decode (zbs mi) pc = .ok (.if_icmp k o, 3)) (ht : (pc : Int) + o = (a : Int)) (h : zic k X a (pc + 3) ls st M) : X pc ls st M := by
  subst hX
  obtain ⟨y, x, r, rfl, g⟩ := zic_e h
  intro H locs lsA cells slots I
  cases k
  · exact lv_icmp_eq K.1 K.2.1 hd ht (fun q => g.1 q H locs lsA cells slots I) (fun q => g.2 q H locs lsA cells slots I)
  · exact lv_icmp_ne K.1 K.2.1 hd ht (fun q => g.2 q H locs lsA cells slots I) (fun q => g.1 q H locs lsA cells slots I)
  · exact lv_icmp_lt K.1 K.2.1 hd ht (fun q => g.1 q H locs lsA cells slots I) (fun q => g.2 q H locs lsA cells slots I)
  · exact lv_icmp_ge K.1 K.2.1 hd ht (fun q => g.2 (Int32.not_lt.mpr q) H locs lsA cells slots I) (fun q => g.1 (Int32.not_le.mp q) H locs lsA cells slots I)
  · exact lv_icmp_gt K.1 K.2.1 hd ht (fun q => g.1 q H locs lsA cells slots I) (fun q => g.2 q H locs lsA cells slots I)
  · exact lv_icmp_le K.1 K.2.1 hd ht (fun q => g.2 (Int32.not_lt.mpr q) H locs lsA cells slots I) (fun q => g.1 (Int32.not_le.mp q) H locs lsA cells slots I)
theorem zs_if (hX : X = zXW D H0 sv dA mi n0 s0 p l e R s m args below meth c Qf) (K : zctx D H0 xs sv dA mi p s m args meth c) {k : ClassFile.Cond} {o : Int} (hd : decode (zbs mi) pc = .ok (.ifCond k o, 3)) (ht : (pc : Int) + o = (a : Int)) (h : zif k X a (pc + 3) ls st M) : X pc ls st M := by
  subst hX
  obtain ⟨x, r, rfl, g⟩ := zif_e h
  intro H locs lsA cells slots I
  cases k
  · exact lv_if_eq K.1 K.2.1 hd ht (fun q => g.1 q H locs lsA cells slots I) (fun q => g.2 q H locs lsA cells slots I)
  · exact lv_if_ne K.1 K.2.1 hd ht (fun q => g.2 q H locs lsA cells slots I) (fun q => g.1 q H locs lsA cells slots I)
  · exact lv_if_lt K.1 K.2.1 hd ht (fun q => g.1 q H locs lsA cells slots I) (fun q => g.2 q H locs lsA cells slots I)
  · exact lv_if_ge K.1 K.2.1 hd ht (fun q => g.2 (Int32.not_lt.mpr q) H locs lsA cells slots I) (fun q => g.1 (Int32.not_le.mp q) H locs lsA cells slots I)
  · exact lv_if_gt K.1 K.2.1 hd ht (fun q => g.1 q H locs lsA cells slots I) (fun q => g.2 q H locs lsA cells slots I)
  · exact lv_if_le K.1 K.2.1 hd ht (fun q => g.2 (Int32.not_lt.mpr q) H locs lsA cells slots I) (fun q => g.1 (Int32.not_le.mp q) H locs lsA cells slots I)
theorem zs_goto (hX : X = zXW D H0 sv dA mi n0 s0 p l e R s m args below meth c Qf) (K : zctx D H0 xs sv dA mi p s m args meth c) {o : Int} (hd : decode (zbs mi) pc = .ok (.goto o, 3)) (ht : (pc : Int) + o = (a : Int)) (h : X a ls st M) : X pc ls st M := by
  subst hX
  intro H locs lsA cells slots I
  exact lv_goto K.1 K.2.1 hd ht (h H locs lsA cells slots I)
theorem zint_eq {x : Int32} {k : Int} (h1 : -1000 ≤ k) (h2 : k ≤ 1000) : x = Int32.ofInt k ↔ x.toInt = k := by
  have e : (Int32.ofInt k).toInt = k := Int32.toInt_ofInt_of_le (by omega) (by omega)
  constructor
  · intro h; rw [h, e]
  · intro h; exact Int32.toInt_inj.mp (by rw [e, h])
theorem ztab_in {P : Nat → Prop} {d pc : Nat} {x : Int32} : ∀ (os : List Int) (lo : Int), -1000 ≤ lo → lo + os.length ≤ 1001 → zsw x P d (ztab pc lo os) → (∀ o, lo ≤ x.toInt → os[(x.toInt - lo).toNat]? = some o → P ((pc : Int) + o).toNat) ∧ (x.toInt < lo ∨ lo + os.length ≤ x.toInt → P d)
  | [], lo, _, _, h => ⟨fun o _ ho => by simp at ho, fun _ => h⟩
  | o :: os, lo, h1, h2, h => by
    have h2' : lo + 1 + (os.length : Int) ≤ 1001 := by simp only [List.length_cons] at h2; omega
    obtain ⟨g1, g2⟩ := zdec_e h
    have hk := zint_eq (x := x) (k := lo) h1 (by simp only [List.length_cons] at h2; omega)
    refine ⟨fun o' hl ho => ?_, fun hd => ?_⟩
    · by_cases q : x.toInt = lo
      · rw [show (x.toInt - lo).toNat = 0 by omega] at ho
        cases ho
        exact g1 (hk.mpr q)
      · have ih := ztab_in os (lo + 1) (by omega) h2' (g2 (fun z => q (hk.mp z)))
        refine ih.1 o' (by omega) ?_
        rw [show (x.toInt - lo).toNat = (x.toInt - (lo + 1)).toNat + 1 by omega] at ho
        exact ho
    · have q : ¬ x.toInt = lo := by simp only [List.length_cons] at hd; omega
      have ih := ztab_in os (lo + 1) (by omega) h2' (g2 (fun z => q (hk.mp z)))
      refine ih.2 ?_
      simp only [List.length_cons] at hd
      omega
theorem zs_table (hX : X = zXW D H0 sv dA mi n0 s0 p l e R s m args below meth c Qf) (K : zctx D H0 xs sv dA mi p s m args meth c) {d lo hi : Int} {os : Array Int} {len : Nat} (hd : decode (zbs mi) pc = .ok (.tableswitch d lo hi os, len)) (g1 : 0 ≤ (pc : Int) + d) (g2 : os.toList.all (fun o => decide (0 ≤ (pc : Int) + o)) = true) (g3 : hi - lo + 1 = (os.toList.length : Int)) (g4 : -1000 ≤ lo) (g5 : hi ≤ 1000) (h : zsws (ztab pc lo os.toList) ((pc : Int) + d).toNat X ls st M) : X pc ls st M := by
  subst hX
  obtain ⟨x, r, rfl, h⟩ := zsws_e h
  obtain ⟨h1, h2⟩ := ztab_in os.toList lo g4 (by omega) h
  intro H locs lsA cells slots I
  by_cases q : x.toInt < lo ∨ hi < x.toInt
  · exact lv_tableOut (tgt := ((pc : Int) + d).toNat) K.1 K.2.1 hd q (by omega) (h2 (by omega) H locs lsA cells slots I)
  · have hlt : (x.toInt - lo).toNat < os.toList.length := by omega
    have ho : os.toList[(x.toInt - lo).toNat]? = some os.toList[(x.toInt - lo).toNat] := List.getElem?_eq_getElem hlt
    have hp := of_decide_eq_true (List.all_eq_true.mp g2 _ (List.getElem_mem hlt))
    exact lv_tableIn (tgt := ((pc : Int) + os.toList[(x.toInt - lo).toNat]).toNat) K.1 K.2.1 hd (fun z => q (Or.inl z)) (fun z => q (Or.inr z)) (by rw [← Array.getElem?_toList]; exact ho) (by omega) (h1 _ (by omega) ho H locs lsA cells slots I)
theorem zloo_in {P : Nat → Prop} {d : Int} {pc : Nat} {x : Int32} : ∀ (ps : List (Int × Int)), ps.all (fun o => decide (0 ≤ (pc : Int) + o.2) && decide (-1000 ≤ o.1) && decide (o.1 ≤ 1000)) = true → zsw x P ((pc : Int) + d).toNat (zloo pc ps) → P ((pc : Int) + Op.lookupswitch.offset ps d x.toInt).toNat
  | [], _, h => h
  | q :: ps, ha, h => by
    obtain ⟨k, o⟩ := q
    obtain ⟨g1, g2⟩ := zdec_e h
    rw [List.all_cons, Bool.and_eq_true] at ha
    simp only [Bool.and_eq_true, decide_eq_true_eq] at ha
    have hk := zint_eq (x := x) (k := k) ha.1.1.2 ha.1.2
    rw [Op.lookupswitch.offset_cons]
    by_cases z : k = x.toInt
    · rw [if_pos z]
      exact g1 (hk.mpr z.symm)
    · rw [if_neg z]
      exact zloo_in ps (by simpa only [Bool.and_eq_true, decide_eq_true_eq] using ha.2) (g2 (fun w => z (hk.mp w).symm))
theorem zoff_in {d : Int} {x : Int} {pc : Nat} (hd : 0 ≤ (pc : Int) + d) : ∀ (ps : List (Int × Int)), ps.all (fun o => decide (0 ≤ (pc : Int) + o.2) && decide (-1000 ≤ o.1) && decide (o.1 ≤ 1000)) = true → 0 ≤ (pc : Int) + Op.lookupswitch.offset ps d x
  | [], _ => hd
  | q :: ps, ha => by
    obtain ⟨k, o⟩ := q
    rw [List.all_cons, Bool.and_eq_true] at ha
    simp only [Bool.and_eq_true, decide_eq_true_eq] at ha
    rw [Op.lookupswitch.offset_cons]
    by_cases z : k = x
    · rw [if_pos z]; exact ha.1.1.1
    · rw [if_neg z]
      exact zoff_in hd ps (by simpa only [Bool.and_eq_true, decide_eq_true_eq] using ha.2)
theorem zs_lookup (hX : X = zXW D H0 sv dA mi n0 s0 p l e R s m args below meth c Qf) (K : zctx D H0 xs sv dA mi p s m args meth c) {d : Int} {ps : Array (Int × Int)} {len : Nat} (hd : decode (zbs mi) pc = .ok (.lookupswitch d ps, len)) (g1 : 0 ≤ (pc : Int) + d) (g2 : ps.toList.all (fun o => decide (0 ≤ (pc : Int) + o.2) && decide (-1000 ≤ o.1) && decide (o.1 ≤ 1000)) = true) (g3 : (ps.toList.zip (ps.toList.drop 1)).all (fun (a, next) => decide (a.1 < next.1)) = true) (h : zsws (zloo pc ps.toList) ((pc : Int) + d).toNat X ls st M) : X pc ls st M := by
  subst hX
  obtain ⟨x, r, rfl, h⟩ := zsws_e h
  have h1 := zloo_in ps.toList g2 h
  have h2 := zoff_in (x := x.toInt) g1 ps.toList g2
  intro H locs lsA cells slots I
  exact lv_lookup (tgt := ((pc : Int) + Op.lookupswitch.offset ps.toList d x.toInt).toNat) K.1 K.2.1 hd g3 rfl (by omega) (h1 H locs lsA cells slots I)
theorem zs_dup (hX : X = zXW D H0 sv dA mi n0 s0 p l e R s m args below meth c Qf) (K : zctx D H0 xs sv dA mi p s m args meth c) (hd : decode (zbs mi) pc = .ok (.dup, 1)) (h : zdup X (pc + 1) ls st M) : X pc ls st M := by
  subst hX
  obtain ⟨w, r, rfl, -, hc, h⟩ := zdup_e h
  intro H locs lsA cells slots I
  exact lv_dup K.1 K.2.1 hd (hc _ _) (h H locs lsA cells slots I)
theorem zs_dup2 (hX : X = zXW D H0 sv dA mi n0 s0 p l e R s m args below meth c Qf) (K : zctx D H0 xs sv dA mi p s m args meth c) (hd : decode (zbs mi) pc = .ok (.dup2, 1)) (h : zdup2 X (pc + 1) ls st M) : X pc ls st M := by
  subst hX
  obtain ⟨x, y, r, rfl, h⟩ := zdup2_e h
  intro H locs lsA cells slots I
  exact lv_dup2_11 K.1 K.2.1 hd rfl rfl (h H locs lsA cells slots I)
theorem zs_pop (hX : X = zXW D H0 sv dA mi n0 s0 p l e R s m args below meth c Qf) (K : zctx D H0 xs sv dA mi p s m args meth c) (hd : decode (zbs mi) pc = .ok (.pop, 1)) (h : zpop X (pc + 1) ls st M) : X pc ls st M := by
  subst hX
  obtain ⟨w, r, rfl, hc, h⟩ := zpop_e h
  intro H locs lsA cells slots I
  exact lv_pop K.1 K.2.1 hd (hc _ _) (h H locs lsA cells slots I)
end SND
end
section
/-! one step: fields and arrays -/
section SND2
variable {p : Program} {l : Launch} {e : Env} {R : Room} {s : State} {m : MethodId} {args : Array Value} {below : List Frame} {meth : Method} {c : Code} {Qf : State → Prop}
variable {D : va_G} {H0 : Heap} {xs : List Int32} {sv : Nat → Value} {dA : Nat → ClassId} {mi n0 s0 : Nat} {X : zX}
variable {pc : Nat} {ls st : List Value} {M : zM} {a b : Nat} {v : Value}
theorem zI_S {H : Heap} {locs : List Loc} {lsA : Array Slot} {cells slots : Nat} (K : zctx D H0 xs sv dA mi p s m args meth c) (I : zinv D H0 sv dA mi n0 s0 R s H locs lsA cells slots ls M) : va_S (fun q => H0.size ≤ q) s.heap H locs :=
  ⟨I.2.2.2.2.2.2.2.2, fun q _ h2 => (I.1.2.1 q (Nat.not_le.mp h2)).trans (K.2.2.2.2.2.2.2.2.2.2.1 q (Nat.not_le.mp h2)).symm, fun x hx => I.2.1 x hx⟩
theorem zK_kept (K : zctx D H0 xs sv dA mi p s m args meth c) : ∀ a : Nat, a < H0.size → ¬ (fun q => H0.size ≤ q) a → s.heap[a]? = H0[a]? := fun a h _ => K.2.2.2.2.2.2.2.2.2.2.1 a h
theorem zK_env (K : zctx D H0 xs sv dA mi p s m args meth c) : zenv D H0 xs sv dA s := K.2.2.2.2.2.2.2.2.1
theorem zK_own (K : zctx D H0 xs sv dA mi p s m args meth c) : s.vm.findClass (zow mi) = some m.cls := K.2.2.2.2.1
theorem zK_ts (K : zctx D H0 xs sv dA mi p s m args meth c) : ∀ w ∈ zgw, w.before args s = true := K.2.2.2.2.2.1
theorem zfv_r {z q ci k t : Nat} (h : 4 = ztc (zTy ci k)) (hR : zR M q k = some t) : zfv z M q ci k = .ref (z + t) := by
  unfold zfv
  rw [← h, hR]
  rfl
theorem zfv_l {z q ci k : Nat} (h : 3 = ztc (zTy ci k)) : zfv z M q ci k = .long (zL M q k) := by
  unfold zfv
  rw [← h]
  rfl
theorem zfv_i {z q ci k : Nat} (h3 : ztc (zTy ci k) ≠ 3) (h4 : ztc (zTy ci k) ≠ 4) : zfv z M q ci k = .int (zI M q k) := by
  unfold zfv
  split
  next h => exact absurd h h4
  next h => exact absurd h h3
  · rfl
theorem zs_getfield (hX : X = zXW D H0 sv dA mi n0 s0 p l e R s m args below meth c Qf) (K : zctx D H0 xs sv dA mi p s m args meth c) {i cc : Nat} (hd : decode (zbs mi) pc = .ok (.getfield i, 3)) (hq : zfq (zoc mi) i a b = true) (hc : a = 99 ∨ (a < 9 ∧ b < (zcls a).2.2 ∧ cc = ztc (zTy a b))) (h : zgf a b cc X (pc + 3) ls st M) : X pc ls st M := by
  subst hX
  intro H locs lsA cells slots I
  have hE := zK_env K
  rcases zgf_e h with ⟨q, r, rfl, hS, h⟩ | ⟨k, r, rfl, rfl, hk, g⟩
  · have ha : a < 9 := I.1.2.2.2.1 q a hS
    obtain ⟨-, hb9, hcc⟩ : a < 9 ∧ b < (zcls a).2.2 ∧ cc = ztc (zTy a b) := by
      rcases hc with g | g
      · omega
      · exact g
    have hl := zK_ts K _ (zfq_in hq)
    rw [zfl_9 ha] at hl
    refine va_get (D := D) (cl := vwCl) (tys := ztys dA) (ws := [(H0.size + q, .inr (a, zfs H0.size M q a))]) (ref := ((zcls a).2.1 b).1) (own := zow mi) (C := (zcls a).1) (T := (zcls a).2.1) (N := (zcls a).2.2) K.1 K.2.1 (zK_ts K) (zlay_in a ha) (zK_own K) hE.1 (va_P1 (zrep_o I.1 hS)) 0 rfl (zcls_get ha) b hb9 hl (fun _ h9 => h9) (zfs_get hb9) hd ?_
    rcases h with ⟨h4, t, hR, h⟩ | ⟨h3, h⟩ | ⟨h4, h3, h⟩
    · rw [zfv_r (h4 ▸ hcc) hR]
      exact h H locs lsA cells slots I
    · rw [zfv_l (h3 ▸ hcc)]
      exact h H locs lsA cells slots I
    · rw [zfv_i (hcc ▸ h3) (hcc ▸ h4)]
      exact h H locs lsA cells slots I
  · obtain ⟨t, et, -, hV, hCo⟩ := hE.2.2.2.2.2.2.2.2.2.2 k hk
    have hl := zK_ts K _ (zfq_in hq)
    show W p l e R s m args below meth c H locs cells slots Qf (F0 m pc lsA (sv k :: r.map (zcv H0.size sv)))
    rw [et]
    rcases g with ⟨rfl, g⟩ | ⟨rfl, g⟩
    · exact vk_getf (own := zow mi) (ref := RJ0) K.1 K.2.1 (hV.kept (zK_kept K)) (zI_S K I) (zK_own K) hl (fun _ h9 => h9) hd (g H locs lsA cells slots I)
    · exact vk_getf (own := zow mi) (ref := RJ0) K.1 K.2.1 (hCo.kept (zK_kept K)) (zI_S K I) (zK_own K) hl (fun _ h9 => h9) hd (g H locs lsA cells slots I)
/-- a field's new value; the heap keeps its size -/
theorem zv_put (K : zctx D H0 xs sv dA mi p s m args meth c) {i ci k q : Nat} {fs : List Value} {H : Heap} {locs : List Loc} {cells slots : Nat} {lsA : Array Slot} {r : List Value} (hci : ci < 9) (hk : k < (zcls ci).2.2) (hat : va_at D vwCl (q, .inr (ci, fs)) H) (hq : zfq (zoc mi) i ci k = true) (hfin : ((zcls ci).2.1 k).2.2.2 = false ∨ (((zcls ci).2.1 k).2.2.2 = true ∧ (zy mi).name = "<init>" ∧ ((zcls ci).2.1 k).1 = zow mi)) (hn : narrow (zTy ci k) v = v) (hfit : fits (zTy ci k) v = true) (hl : k < fs.length) (hd : decode (zbs mi) pc = .ok (.putfield i, 3))
    (kk : ∀ (H1 : Heap) (j : Nat), va_at D vwCl (q, .inr (ci, fs.set k v)) H1 → H1.size = H.size → (∀ x, x ≠ q → H1[x]? = H[x]?) → W p l e R s m args below meth c H1 (locs ++ [⟨q, j⟩]) cells slots Qf (F0 m (pc + 3) lsA r)) : W p l e R s m args below meth c H locs cells slots Qf (F0 m pc lsA (v :: .ref q :: r)) := by
  have hts := zK_ts K
  have hown := zK_own K
  have hK := (zK_env K).1
  have hin := zlay_in ci hci
  have hc := zcls_get hci
  have hlk := hts _ (zfq_in hq)
  rw [zfl_9 hci] at hlk
  have hap := va_apart (own := zow mi) (T := (zcls ci).2.1) hts hin (zTy ci) (zty_ok ci hci) (znm_ok ci hci) hK hc
  obtain ⟨r0, h1, cell, q1, q2, q3, q4⟩ := hat
  have hr : r0 = zcls ci := Option.some.inj (h1.symm.trans hc)
  subst hr
  obtain ⟨hS, hfc, kC, hkC, hkind⟩ := hK.1 ci _ hc
  obtain ⟨cf, kf, fi, f, hi, hsl⟩ := hS k hk
  have hlay := hts _ (hin _ (u_in_lay hk))
  have hst := (u_facts hfc hkC (u_lays hts hin hk) hi).1
  have hd9 := zty_ok ci hci k hk
  have fin : ∀ (H' : Heap), H'[q]? = some (cell.setSlot (D.2 ci k) v) → H'.size = H.size → (∀ x, x ≠ q → H'[x]? = H[x]?) → va_at D vwCl (q, .inr (ci, fs.set k v)) H' := fun H' e1 e2 e3 => ⟨_, hc, t_OB.to (V := updV (vp_V fs) k v) ⟨_, e1, q2, q3, t_set q4 hap hk v⟩ (fun j _ => vp_updV_set hl v j)⟩
  rcases hfin with hf | ⟨hf, hnm, hdecl⟩
  · unfold u_lay at hlay
    rw [if_neg (by rw [hf]; decide)] at hlay
    have h6 := u_store hfc hkC hkind hlay hi hd9 hn hfit
    refine W.putK K.1 K.2.1 (f := f) ⟨hown, hlk, ⟨_, _, _, hi⟩, hst⟩ (by rw [q2]; exact h6) q1 q3 (by rw [hsl]; exact k2_hasslot (q4 k hk)) rfl rfl hd fun H' e1 e2 e3 => ?_
    rw [hsl] at e1
    exact kk H' _ (fin H' e1 e2 e3) e2 e3
  · unfold u_lay at hlay
    rw [if_pos hf] at hlay
    have hcf : m.cls = cf := by
      obtain ⟨_, _, c', _, _, _, -, -, hf', -, -, -, hown2, -⟩ := Cond.laysFinal_spec hlay
      have e1 : c' = cf := by have := hi.symm.trans hf'; simp at this; exact this.1.symm
      rw [hdecl] at hown2
      rw [← e1]; exact Option.some.inj (hown.symm.trans hown2)
    have h6 := u_fits hfc hkC hkind (Or.inr hlay) hi hd9 hn hfit
    refine W.putFinK K.1 K.2.1 hown hlk hi hst hcf (K.2.2.2.2.2.2.2.1 hnm) (by rw [q2]; exact h6) q1 q3 (by rw [hsl]; exact k2_hasslot (q4 k hk)) rfl rfl hd fun H' e1 e2 e3 => ?_
    rw [hsl] at e1
    exact kk H' _ (fin H' e1 e2 e3) e2 e3
theorem zinv_set {H H1 : Heap} {locs : List Loc} {lsA : Array Slot} {cells slots q j : Nat} {M' : zM} (I : zinv D H0 sv dA mi n0 s0 R s H locs lsA cells slots ls M) (hr : zrep D H0 dA M' H1) (hz : H1.size = H.size) (hn : zn M' = zn M) (hs : zsl M' = zsl M) : zinv D H0 sv dA mi n0 s0 R s H1 (locs ++ [⟨H0.size + q, j⟩]) lsA cells slots ls M' := by
  obtain ⟨-, h2, h3, h4, h5, h6, h7, h8, h9⟩ := I
  refine ⟨hr, fun x hx => ?_, h3, h4, by rw [hn]; exact h5, by rw [hs]; exact h6, by rw [hn]; exact h7, by rw [hs]; exact h8, by rw [hz]; exact h9⟩
  rcases List.mem_append.mp hx with g | g
  · exact h2 x g
  · rw [List.mem_singleton.mp g]
    exact Nat.le_add_right _ _
theorem zfits_int {ty : FieldType} (h : ztc ty = 0) (hx : ty = .int) (x : Int32) : narrow ty (.int x) = .int x ∧ fits ty (.int x) = true := by
  subst hx; exact ⟨rfl, rfl⟩
/-- which types the fields have -/
theorem zTy_ok : ∀ ci, ci < 9 → ∀ k, k < (zcls ci).2.2 → (ztc (zTy ci k) = 0 → zTy ci k = .int) ∧ (ztc (zTy ci k) = 2 → zTy ci k = .boolean) ∧ (ztc (zTy ci k) = 3 → zTy ci k = .long) ∧ ztc (zTy ci k) ≠ 1 ∧ zTy ci k ≠ .float ∧ zTy ci k ≠ .double := z9 (by decide +kernel) (by decide +kernel) (by decide +kernel) (by decide +kernel) (by decide +kernel) (by decide +kernel) (by decide +kernel) (by decide +kernel) (by decide +kernel)
theorem zbool_ok {x : Int32} (h : x = 0 ∨ x = 1) : narrow .boolean (.int x) = .int x ∧ fits .boolean (.int x) = true := by
  rcases h with rfl | rfl <;> exact ⟨by decide +kernel, by decide +kernel⟩
theorem zref_ok {ty : FieldType} (h : ztc ty = 4) (q : Nat) : narrow ty (.ref q) = .ref q ∧ fits ty (.ref q) = true := by
  cases ty <;> first | exact ⟨rfl, rfl⟩ | cases h
theorem zs_putfield (hX : X = zXW D H0 sv dA mi n0 s0 p l e R s m args below meth c Qf) (K : zctx D H0 xs sv dA mi p s m args meth c) {i cc : Nat} (hd : decode (zbs mi) pc = .ok (.putfield i, 3)) (hq : zfq (zoc mi) i a b = true) (ha : a < 9) (hb : b < (zcls a).2.2) (hcc : cc = ztc (zTy a b)) (hfin : ((zcls a).2.1 b).2.2.2 = false ∨ (((zcls a).2.1 b).2.2.2 = true ∧ (zy mi).name = "<init>" ∧ ((zcls a).2.1 b).1 = zow mi)) (h : zpf a b cc X (pc + 3) ls st M) : X pc ls st M := by
  subst hX
  intro H locs lsA cells slots I
  obtain ⟨t0, t2, t3, t1, tf, td⟩ := zTy_ok a ha b hb
  obtain ⟨q, r, ⟨x, rfl, hx, hS, h⟩ | ⟨x, rfl, hx, hS, h⟩ | ⟨x, rfl, hx, hS, h⟩⟩ := zpf_e h
  · have hty : narrow (zTy a b) (.int x) = .int x ∧ fits (zTy a b) (.int x) = true := by
      rcases hx with hx | ⟨hx, hx2⟩
      · rw [t0 (by rw [← hcc]; exact hx)]; exact ⟨rfl, rfl⟩
      · rw [t2 (by rw [← hcc]; exact hx)]; exact zbool_ok hx2
    have hn3 : ztc (zTy a b) ≠ 3 := by rw [← hcc]; rcases hx with hx | ⟨hx, -⟩ <;> omega
    have hn4 : ztc (zTy a b) ≠ 4 := by rw [← hcc]; rcases hx with hx | ⟨hx, -⟩ <;> omega
    refine zv_put (q := H0.size + q) (fs := zfs H0.size M q a) K ha hb (zrep_o I.1 hS) hq hfin hty.1 hty.2 (by rw [zfs_len]; exact hb) hd fun H1 j g1 g2 g3 => ?_
    have hr : zrep D H0 dA (zwI M q b x) H1 := zrep_set I.1 (zrep_lt1 I.1 hS) g2 g3 rfl (fun _ => rfl) (fun y hy => zcell_wI hy) (by
      rw [zcell_o (show zS (zwI M q b x) q = .inl a from hS)]
      rw [zfs_set (M' := zwI M q b x) hb (by rw [zfv_i hn3 hn4]; exact congrArg Value.int (by show zup _ _ _ _ _ _ = _; rw [zup_at, if_pos rfl])) (fun j hj => by
        unfold zfv zR zL zI
        show (match ztc (zTy a j) with | 4 => _ | 3 => _ | _ => Value.int (zup M.2.1 q b x q j)) = _
        rw [zup_at, if_neg hj]
        rfl)] at g1
      exact g1)
    exact h H1 _ lsA cells slots (zinv_set I hr g2 rfl rfl)
  · have hty : narrow (zTy a b) (.long x) = .long x ∧ fits (zTy a b) (.long x) = true := by
      rw [t3 (by rw [← hcc]; exact hx)]; exact ⟨rfl, rfl⟩
    refine zv_put (q := H0.size + q) (fs := zfs H0.size M q a) K ha hb (zrep_o I.1 hS) hq hfin hty.1 hty.2 (by rw [zfs_len]; exact hb) hd fun H1 j g1 g2 g3 => ?_
    have hr : zrep D H0 dA (zwL M q b x) H1 := zrep_set I.1 (zrep_lt1 I.1 hS) g2 g3 rfl (fun _ => rfl) (fun y hy => zcell_wL hy) (by
      rw [zcell_o (show zS (zwL M q b x) q = .inl a from hS)]
      rw [zfs_set (M' := zwL M q b x) hb (by rw [zfv_l (by rw [← hcc]; exact hx.symm)]; exact congrArg Value.long (by show zup _ _ _ _ _ _ = _; rw [zup_at, if_pos rfl])) (fun j hj => by
        unfold zfv zR zL zI
        show (match ztc (zTy a j) with | 4 => _ | 3 => Value.long (zup M.2.2 q b x q j) | _ => _) = _
        rw [zup_at, if_neg hj]
        rfl)] at g1
      exact g1)
    exact h H1 _ lsA cells slots (zinv_set I hr g2 rfl rfl)
  · have hty := zref_ok (ty := zTy a b) (by rw [← hcc]; exact hx) (H0.size + x)
    refine zv_put (v := .ref (H0.size + x)) (q := H0.size + q) (fs := zfs H0.size M q a) K ha hb (zrep_o I.1 hS) hq hfin hty.1 hty.2 (by rw [zfs_len]; exact hb) hd fun H1 j g1 g2 g3 => ?_
    have hr : zrep D H0 dA (zwR M q b (some x)) H1 := zrep_set I.1 (zrep_lt1 I.1 hS) g2 g3 rfl (fun _ => rfl) (fun y hy => zcell_wR hy) (by
      rw [zcell_o (show zS (zwR M q b (some x)) q = .inl a from hS)]
      rw [zfs_set (M' := zwR M q b (some x)) hb (zfv_r (by rw [← hcc]; exact hx.symm) (by show zup _ _ _ _ _ _ = _; rw [zup_at, if_pos rfl])) (fun j hj => by
        unfold zfv zR zL zI
        show (match ztc (zTy a j) with | 4 => va_rf (Option.map _ (zup M.1.2.2.2 q b (some x) q j)) | 3 => _ | _ => _) = _
        rw [zup_at, if_neg hj]
        rfl)] at g1
      exact g1)
    exact h H1 _ lsA cells slots (zinv_set I hr g2 rfl rfl)
end SND2
end
section
/-! one step: arrays, new cells -/
section SND3
variable {p : Program} {l : Launch} {e : Env} {R : Room} {s : State} {m : MethodId} {args : Array Value} {below : List Frame} {meth : Method} {c : Code} {Qf : State → Prop}
variable {D : va_G} {H0 : Heap} {xs : List Int32} {sv : Nat → Value} {dA : Nat → ClassId} {mi n0 s0 : Nat} {X : zX}
variable {pc : Nat} {ls st : List Value} {M : zM} {a b : Nat} {v : Value}
theorem zs_iaload (hX : X = zXW D H0 sv dA mi n0 s0 p l e R s m args below meth c Qf) (K : zctx D H0 xs sv dA mi p s m args meth c) (hd : decode (zbs mi) pc = .ok (.iaload, 1)) (h : zal xs 0 X (pc + 1) ls st M) : X pc ls st M := by
  subst hX
  intro H locs lsA cells slots I
  obtain ⟨i, r, ⟨q, n, rfl, hS, hin, h⟩ | ⟨k, w, rfl, hk, hin, h⟩⟩ := zal_e h
  · exact va_iald (ws := [(H0.size + q, .inl (dA 0, n, zcon H0.size M q 0))]) K.1 K.2.1 (zK_env K).1 (va_P1 (zrep_a I.1 hS (by decide))) 0 0 (f := zI M q) rfl rfl hin hd (h H locs lsA cells slots I)
  · obtain ⟨t, et, hT⟩ := (zK_env K).2.2.2.2.2.2.2.2.2.1 k 0 w hk
    show W p l e R s m args below meth c H locs cells slots Qf (F0 m pc lsA (.int i :: sv k :: r.map (zcv H0.size sv)))
    rw [et]
    exact va_ti K.1 K.2.1 (hT.kept (zK_kept K)) (zI_S K I) hin rfl hd (h H locs lsA cells slots I)
theorem zs_baload (hX : X = zXW D H0 sv dA mi n0 s0 p l e R s m args below meth c Qf) (K : zctx D H0 xs sv dA mi p s m args meth c) {t : Nat} (ht : t = 1 ∨ t = 2) (hd : decode (zbs mi) pc = .ok (.baload, 1)) (h : zal xs t X (pc + 1) ls st M) : X pc ls st M := by
  subst hX
  intro H locs lsA cells slots I
  obtain ⟨i, r, ⟨q, n, rfl, hS, hin, g⟩ | ⟨k, w, rfl, hk, hin, g⟩⟩ := zal_e h
  · rcases ht with rfl | rfl
    · exact va_bald (ws := [(H0.size + q, .inl (dA 1, n, zcon H0.size M q 1))]) K.1 K.2.1 (zK_env K).1 (va_P1 (zrep_a I.1 hS (by decide))) 0 1 (f := zI M q) rfl rfl hin hd (g H locs lsA cells slots I)
    · exact va_zald (ws := [(H0.size + q, .inl (dA 2, n, zcon H0.size M q 2))]) K.1 K.2.1 (zK_env K).1 (va_P1 (zrep_a I.1 hS (by decide))) 0 2 (f := zI M q) rfl rfl hin hd (g H locs lsA cells slots I)
  · obtain ⟨u, et, hT⟩ := (zK_env K).2.2.2.2.2.2.2.2.2.1 k t w hk
    have e1 : zbty t = .byte := by rcases ht with rfl | rfl <;> rfl
    rw [e1] at hT
    show W p l e R s m args below meth c H locs cells slots Qf (F0 m pc lsA (.int i :: sv k :: r.map (zcv H0.size sv)))
    rw [et]
    exact va_tb K.1 K.2.1 (hT.kept (zK_kept K)) (zI_S K I) hin rfl hd (g H locs lsA cells slots I)
theorem zs_laload (hX : X = zXW D H0 sv dA mi n0 s0 p l e R s m args below meth c Qf) (K : zctx D H0 xs sv dA mi p s m args meth c) (hd : decode (zbs mi) pc = .ok (.laload, 1)) (h : zll X (pc + 1) ls st M) : X pc ls st M := by
  subst hX
  intro H locs lsA cells slots I
  obtain ⟨i, q, n, r, rfl, hS, hin, h⟩ := zll_e h
  exact va_lald (ws := [(H0.size + q, .inl (dA 3, n, zcon H0.size M q 3))]) K.1 K.2.1 (zK_env K).1 (va_P1 (zrep_a I.1 hS (by decide))) 0 3 (f := zL M q) rfl rfl hin hd (h H locs lsA cells slots I)
theorem zs_aaload (hX : X = zXW D H0 sv dA mi n0 s0 p l e R s m args below meth c Qf) (K : zctx D H0 xs sv dA mi p s m args meth c) (hd : decode (zbs mi) pc = .ok (.aaload, 1)) (h : zaa X (pc + 1) ls st M) : X pc ls st M := by
  subst hX
  intro H locs lsA cells slots I
  obtain ⟨i, q, n, t, r, rfl, hS, hin, hR, h⟩ := zaa_e h
  refine va_aldq (ws := [(H0.size + q, .inl (dA 4, n, zcon H0.size M q 4))]) K.1 K.2.1 (zK_env K).1 (va_P1 (zrep_a I.1 hS (by decide))) 0 4 (f := fun j => (zR M q j).map (fun y => H0.size + y)) rfl rfl hin hd ?_
  rw [hR]
  exact h H locs lsA cells slots I
theorem zs_len (hX : X = zXW D H0 sv dA mi n0 s0 p l e R s m args below meth c Qf) (K : zctx D H0 xs sv dA mi p s m args meth c) (hd : decode (zbs mi) pc = .ok (.arraylength, 1)) (h : zlen xs X (pc + 1) ls st M) : X pc ls st M := by
  subst hX
  intro H locs lsA cells slots I
  obtain ⟨r, ⟨q, t, n, rfl, hS, ht, h⟩ | ⟨k, t, w, rfl, hk, h⟩⟩ := zlen_e h
  · have hty : ∃ ty, (ztys dA)[t]? = some (dA t, ty) := by
      match t, ht with
      | 0, _ => exact ⟨_, rfl⟩
      | 1, _ => exact ⟨_, rfl⟩
      | 2, _ => exact ⟨_, rfl⟩
      | 3, _ => exact ⟨_, rfl⟩
      | 4, _ => exact ⟨_, rfl⟩
      | t + 5, h => omega
    obtain ⟨ty, hty⟩ := hty
    exact va_alen (ws := [(H0.size + q, .inl (dA t, n, zcon H0.size M q t))]) K.1 K.2.1 (zK_env K).1 (va_P1 (zrep_a I.1 hS ht)) 0 t rfl hty rfl hd (h H locs lsA cells slots I)
  · obtain ⟨u, et, hT⟩ := (zK_env K).2.2.2.2.2.2.2.2.2.1 k t w hk
    show W p l e R s m args below meth c H locs cells slots Qf (F0 m pc lsA (sv k :: r.map (zcv H0.size sv)))
    rw [et]
    exact va_tlen K.1 K.2.1 (hT.kept (zK_kept K)) (zI_S K I) rfl hd (h H locs lsA cells slots I)
theorem zst_i {cA : ClassId} {n k : Nat} {f : Nat → Int32} {x : Int32} : (vp_cell cA (n, .inl f)).setSlot k (.int x) = vp_cell cA (n, .inl (fun j => if j = k then x else f j)) := by
  rw [vp_cell_i, vp_cell_i, arrV_store]
  congr 1
  funext q
  unfold updV
  split <;> rfl
theorem zst_l {cA : ClassId} {n k : Nat} {f : Nat → Int64} {x : Int64} : (vp_cell cA (n, .inr (.inl f))).setSlot k (.long x) = vp_cell cA (n, .inr (.inl (fun j => if j = k then x else f j))) := by
  rw [vp_cell_l, vp_cell_l, arrV_store]
  congr 1
  funext q
  unfold updV
  split <;> rfl
theorem zst_q {cA : ClassId} {n k : Nat} {f : Nat → Option Nat} {x : Nat} : (vp_cell cA (n, .inr (.inr (.inr (.inr f))))).setSlot k (.ref x) = vp_cell cA (n, .inr (.inr (.inr (.inr (fun j => if j = k then some x else f j))))) := by
  rw [vp_cell_q, vp_cell_q, arrV_store]
  congr 1
  funext q
  unfold updV
  split <;> rfl
theorem zrow_wI {q k : Nat} {x : Int32} : zI (zwI M q k x) q = fun j => if j = k then x else zI M q j := by
  funext j
  exact zup_at
theorem zrow_wL {q k : Nat} {x : Int64} : zL (zwL M q k x) q = fun j => if j = k then x else zL M q j := by
  funext j
  exact zup_at
theorem zrep_wI {H H1 : Heap} {q k t n : Nat} {x : Int32} (hr : zrep D H0 dA M H) (ht : t < 3) (hS : zS M q = .inr (t, n)) (e1 : H1[H0.size + q]? = some ((vp_cell (dA t) (n, .inl (zI M q))).setSlot k (.int x))) (e2 : H1.size = H.size) (e3 : ∀ y, y ≠ H0.size + q → H1[y]? = H[y]?) : zrep D H0 dA (zwI M q k x) H1 := by
  refine zrep_set hr (zrep_lt2 hr hS (by omega)) e2 e3 rfl (fun _ => rfl) (fun y hy => zcell_wI hy) ?_
  rw [zcell_a (show zS (zwI M q k x) q = .inr (t, n) from hS)]
  have hc : zcon H0.size (zwI M q k x) q t = .inl (zI (zwI M q k x) q) := by
    match t, ht with
    | 0, _ => rfl
    | 1, _ => rfl
    | 2, _ => rfl
    | t + 3, h => omega
  rw [hc, zrow_wI]
  show H1[H0.size + q]? = some (vp_cell (dA t) (n, .inl (fun j => if j = k then x else zI M q j)))
  rw [e1, zst_i]
theorem zarr_in {i : Int32} {n : Nat} {cA : ClassId} {f : Nat → Value} (h : vp_in i n) : ¬ (i < 0 ∨ (arrV cA n f).slots.size ≤ i.toNatClampNeg) := by
  rw [arrV_size]; exact h
theorem zs_iastore (hX : X = zXW D H0 sv dA mi n0 s0 p l e R s m args below meth c Qf) (K : zctx D H0 xs sv dA mi p s m args meth c) (hd : decode (zbs mi) pc = .ok (.iastore, 1)) (h : zas 0 (fun x => x) X (pc + 1) ls st M) : X pc ls st M := by
  subst hX
  intro H locs lsA cells slots I
  obtain ⟨x, i, q, n, r, rfl, hS, hin, h⟩ := zas_e h
  exact W.iast K.1 K.2.1 (cell := vp_cell (dA 0) (n, .inl (zI M q))) (zrep_a I.1 hS (by decide)) (((zK_env K).1.2 0 _ rfl).1 n (fun j => .int (zI M q j))) (fun z => by cases z) (zarr_in hin) rfl rfl hd fun H1 e1 e2 e3 =>
    h H1 _ lsA cells slots (zinv_set I (zrep_wI I.1 (by decide) hS e1 e2 e3) e2 rfl rfl)
theorem znar_b (x : Int32) : narrow .byte (.int x) = .int (vp_nar .byte x) := rfl
theorem znar_z (x : Int32) : narrow .boolean (.int x) = .int (vp_nar .boolean x) := rfl
theorem zs_bastore (hX : X = zXW D H0 sv dA mi n0 s0 p l e R s m args below meth c Qf) (K : zctx D H0 xs sv dA mi p s m args meth c) {t : Nat} (ht : t = 1 ∨ t = 2) (hd : decode (zbs mi) pc = .ok (.bastore, 1)) (h : zas t (zbn t) X (pc + 1) ls st M) : X pc ls st M := by
  subst hX
  intro H locs lsA cells slots I
  obtain ⟨x, i, q, n, r, rfl, hS, hin, h⟩ := zas_e h
  rcases ht with rfl | rfl
  · exact W.bast K.1 K.2.1 (cell := vp_cell (dA 1) (n, .inl (zI M q))) (zrep_a I.1 hS (by decide)) (((zK_env K).1.2 1 _ rfl).1 n (fun j => .int (zI M q j))) (fun z => by cases z) (zarr_in hin) rfl rfl hd fun H1 e1 e2 e3 =>
      h H1 _ lsA cells slots (zinv_set I (zrep_wI I.1 (by decide) hS (by show _ = some (Cell.setSlot _ _ (.int (vp_nar .byte x))); rw [← znar_b]; exact e1) e2 e3) e2 rfl rfl)
  · exact W.zast K.1 K.2.1 (cell := vp_cell (dA 2) (n, .inl (zI M q))) (zrep_a I.1 hS (by decide)) (((zK_env K).1.2 2 _ rfl).1 n (fun j => .int (zI M q j))) (fun z => by cases z) (zarr_in hin) rfl rfl hd fun H1 e1 e2 e3 =>
      h H1 _ lsA cells slots (zinv_set I (zrep_wI I.1 (by decide) hS (by show _ = some (Cell.setSlot _ _ (.int (vp_nar .boolean x))); rw [← znar_z]; exact e1) e2 e3) e2 rfl rfl)
theorem zs_lastore (hX : X = zXW D H0 sv dA mi n0 s0 p l e R s m args below meth c Qf) (K : zctx D H0 xs sv dA mi p s m args meth c) (hd : decode (zbs mi) pc = .ok (.lastore, 1)) (h : zls X (pc + 1) ls st M) : X pc ls st M := by
  subst hX
  intro H locs lsA cells slots I
  obtain ⟨x, i, q, n, r, rfl, hS, hin, h⟩ := zls_e h
  refine W.last K.1 K.2.1 (cell := vp_cell (dA 3) (n, .inr (.inl (zL M q)))) (zrep_a I.1 hS (by decide)) (((zK_env K).1.2 3 _ rfl).1 n (fun j => .long (zL M q j))) (fun z => by cases z) (zarr_in hin) rfl rfl hd fun H1 e1 e2 e3 => ?_
  have hr : zrep D H0 dA (zwL M q i.toNatClampNeg x) H1 := by
    refine zrep_set I.1 (zrep_lt2 I.1 hS (by decide)) e2 e3 rfl (fun _ => rfl) (fun y hy => zcell_wL hy) ?_
    rw [zcell_a (show zS (zwL M q i.toNatClampNeg x) q = .inr (3, n) from hS)]
    show H1[H0.size + q]? = some (vp_cell (dA 3) (n, .inr (.inl (zL (zwL M q i.toNatClampNeg x) q))))
    rw [e1, zst_l, zrow_wL]
  exact h H1 _ lsA cells slots (zinv_set I hr e2 rfl rfl)
theorem zs_aastore (hX : X = zXW D H0 sv dA mi n0 s0 p l e R s m args below meth c Qf) (K : zctx D H0 xs sv dA mi p s m args meth c) (hd : decode (zbs mi) pc = .ok (.aastore, 1)) (h : zaas X (pc + 1) ls st M) : X pc ls st M := by
  subst hX
  intro H locs lsA cells slots I
  obtain ⟨t, i, q, n, r, rfl, hS, hin, hT, h⟩ := zaas_e h
  have hE := (zK_env K).1
  obtain ⟨r', hr', cellV, g1, g2, g3, -⟩ := zrep_o I.1 hT
  have hcls := (hE.1 6 _ (zcls_get (by decide))).2
  obtain ⟨kA, comp, k1, k2, k3, -⟩ := (hE.2 4 _ rfl).2
  have hcomp : comp = D.1 6 := Option.some.inj (k3.symm.trans hcls.1)
  subst hcomp
  obtain ⟨kC, hkC, -⟩ := hcls.2
  refine W.aast K.1 K.2.1 (cell := vp_cell (dA 4) (n, .inr (.inr (.inr (.inr (fun j => (zR M q j).map (fun y => H0.size + y))))))) (zrep_a I.1 hS (by decide)) (fun q h => by cases h) (fun h => by cases h) k1 k2 rfl hkC ⟨fun z => hin (Or.inl z), by show _ < (arrV _ _ _).slots.size; rw [arrV_size]; exact Nat.not_le.mp fun z => hin (Or.inr z)⟩ g1 (fun q h => by rw [g3] at h; cases h) (by rw [g2]; exact hkC) (by rw [g2]; exact va_assign hcls) rfl rfl hd fun H1 e1 e2 e3 => ?_
  have hr : zrep D H0 dA (zwR M q i.toNatClampNeg (some t)) H1 := by
    refine zrep_set I.1 (zrep_lt2 I.1 hS (by decide)) e2 e3 rfl (fun _ => rfl) (fun y hy => zcell_wR hy) ?_
    rw [zcell_a (show zS (zwR M q i.toNatClampNeg (some t)) q = .inr (4, n) from hS)]
    show H1[H0.size + q]? = some (vp_cell (dA 4) (n, .inr (.inr (.inr (.inr (fun j => (zup M.1.2.2.2 q i.toNatClampNeg (some t) q j).map (fun y => H0.size + y)))))))
    rw [e1, zst_q]
    congr 7
    funext j
    rw [zup_at]
    split <;> rfl
  exact h H1 _ lsA cells slots (zinv_set I hr e2 rfl rfl)
theorem zs_copy (hX : X = zXW D H0 sv dA mi n0 s0 p l e R s m args below meth c Qf) (K : zctx D H0 xs sv dA mi p s m args meth c) {i : Nat} (hR1 : 1 ≤ R.frames) (hR2 : 40 ≤ R.locals) (hd : decode (zbs mi) pc = .ok (.invokestatic i, 3)) (hm : zmq (zoc mi) i 1000 8 = true) (h : zac X (pc + 3) ls st M) : X pc ls st M := by
  subst hX
  intro H locs lsA cells slots I
  obtain ⟨n, dp, q1, sp, q0, m0, m1, rfl, hS0, hS1, h1, h2, h3, h4, h5, h⟩ := zac_e h
  have hlk := zK_ts K _ ((zmq_in hm).2.1 rfl)
  have hsy := zsy_b
  simp only [Bool.and_eq_true] at hsy
  obtain ⟨⟨⟨⟨y1, y2⟩, y3⟩, -⟩, -⟩ := hsy
  have hK := (zK_env K).1
  have nn : ∀ z : Int32, ¬ z < 0 → z.toInt = (z.toNatClampNeg : Int) := by
    intro z hz
    have hz0 : (0 : Int) ≤ z.toInt := by
      have := Int32.not_lt.mp hz
      simpa using Int32.le_iff_toInt_le.mp this
    show z.toInt = ((z.toInt.toNat : Nat) : Int)
    omega
  intro T hT Y
  have hc0 : H[H0.size + q0]? = some (vp_cell (dA 0) (m0, .inl (zI M q0))) := zrep_a I.1 hS0 (by decide)
  have hc1 : H[H0.size + q1]? = some (vp_cell (dA 0) (m1, .inl (zI M q1))) := zrep_a I.1 hS1 (by decide)
  obtain ⟨-, k0, hk0, cm0, hkk0⟩ := (hK.2 0 _ rfl).1 m0 (fun j => .int (zI M q0 j))
  obtain ⟨-, k1, hk1, cm1, hkk1⟩ := (hK.2 0 _ rfl).1 m1 (fun j => .int (zI M q1 j))
  obtain ⟨vm', Y', step⟩ := Y.arraycopy K.1 (zK_own K) hlk (zK_ts K _ (zwd_in y1)) (zK_ts K _ (zwd_in y2)) (zK_ts K _ (zwd_in y3)) (src := H0.size + q0) (dst := H0.size + q1) (cs := vp_cell (dA 0) (m0, .inl (zI M q0))) (cd := vp_cell (dA 0) (m1, .inl (zI M q1))) (srcPos := sp) (destPos := dp) (n := n) (by rw [hT]; exact hc0) (by rw [hT]; exact hc1)
    (fun _ h => by cases h) (fun _ h => by cases h) (fun h => by cases h) (fun h => by cases h) hk0 hk1 hkk0 hkk1 (by rfl) h1 h2 h3
    (by rw [nn sp h1, nn n h3]; show ¬ _ > ((arrV (dA 0) m0 (fun j => .int (zI M q0 j))).slots.size : Int); rw [arrV_size]; omega)
    (by rw [nn dp h2, nn n h3]; show ¬ _ > ((arrV (dA 0) m1 (fun j => .int (zI M q1 j))).slots.size : Int); rw [arrV_size]; omega)
    (fun vm₁ _ i hi => by
      have e : (vp_cell (dA 0) (m0, .inl (zI M q0))).slots.getD (sp.toNatClampNeg + i) .null = .int (zI M q0 (sp.toNatClampNeg + i)) := by
        show (arrV (dA 0) m0 (fun j => .int (zI M q0 j))).slots.getD _ _ = _
        rw [Array.getD_eq_getD_getElem?, arrV_read _ _ (by omega)]
        rfl
      refine ⟨?_, ?_⟩
      · rw [e]; rfl
      · rw [e]; exact trivial)
    (g := F0 m pc lsA [.int n, .int dp, .ref (H0.size + q1), .int sp, .ref (H0.size + q0)]) rfl (by show lsA.size = _; rw [I.2.2.1.1]; exact K.2.2.1.symm) (rest := []) rfl (by rw [K.2.1]; exact hd) hR1 (by show 2 * 0 + 0 + _ ≤ _; exact Nat.le_trans (by decide) hR2)
  have e1 : copied (vp_cell (dA 0) (m0, .inl (zI M q0))) (vp_cell (dA 0) (m1, .inl (zI M q1))) sp dp n = vp_cell (dA 0) (m1, .inl (va_cpy (zI M q0) (zI M q1) sp.toNatClampNeg dp.toNatClampNeg n.toNatClampNeg)) := va_copied (fun z => .int z) (dA 0) (dA 0) (zI M q0) (zI M q1) h4
  rw [e1] at Y' step
  have hl : H0.size + q1 < H.size := (Array.getElem?_eq_some_iff.mp hc1).1
  generalize hV : vp_cell (dA 0) (m1, .inl (va_cpy (zI M q0) (zI M q1) sp.toNatClampNeg dp.toNatClampNeg n.toNatClampNeg)) = V at Y' step
  have hheap : ((T.setVm vm').setCell (H0.size + q1) V).heap = H.setIfInBounds (H0.size + q1) V := by rw [← hT]; rfl
  have oq : ∀ q : Nat, q ≠ H0.size + q1 → (H.setIfInBounds (H0.size + q1) V)[q]? = H[q]? := fun q hq => by simp [Array.getElem?_setIfInBounds, Ne.symm hq]
  have hr : zrep D H0 dA (zcpy M q0 sp.toNatClampNeg q1 dp.toNatClampNeg n.toNatClampNeg) (H.setIfInBounds (H0.size + q1) V) := by
    refine zrep_set I.1 (zrep_lt2 I.1 hS1 (by decide)) (by simp) oq rfl (fun _ => rfl) (fun y hy => ?_) ?_
    · have ez : (zcpy M q0 sp.toNatClampNeg q1 dp.toNatClampNeg n.toNatClampNeg).2.1 y = M.2.1 y := by
        funext j
        show zrow _ _ _ _ _ = _
        unfold zrow
        rw [if_neg hy]
      unfold zcell zfs zfv zcon zI zR zL zS
      rw [ez]
      rfl
    · rw [zcell_a (show zS (zcpy M q0 sp.toNatClampNeg q1 dp.toNatClampNeg n.toNatClampNeg) q1 = .inr (0, m1) from hS1)]
      show (H.setIfInBounds (H0.size + q1) V)[H0.size + q1]? = some (vp_cell (dA 0) (m1, .inl (fun j => zrow _ _ _ q1 j)))
      have ez : (fun j => zrow M.2.1 q1 (va_cpy (M.2.1 q0) (M.2.1 q1) sp.toNatClampNeg dp.toNatClampNeg n.toNatClampNeg) q1 j) = va_cpy (zI M q0) (zI M q1) sp.toNatClampNeg dp.toNatClampNeg n.toNatClampNeg := by
        funext j
        unfold zrow
        rw [if_pos rfl]
        rfl
      rw [ez, hV]
      simp [Array.getElem?_setIfInBounds, hl]
  have I' : ∀ L : List Loc, (∀ x ∈ L, H0.size ≤ x.base) → zinv D H0 sv dA mi n0 s0 R s (H.setIfInBounds (H0.size + q1) V) (locs ++ L) lsA cells slots ls (zcpy M q0 sp.toNatClampNeg q1 dp.toNatClampNeg n.toNatClampNeg) := by
    intro L hL
    obtain ⟨-, i2, i3, i4, i5, i6, i7, i8, i9⟩ := I
    refine ⟨hr, fun x hx => ?_, i3, i4, i5, i6, i7, i8, by simpa using i9⟩
    rcases List.mem_append.mp hx with g | g
    · exact i2 x g
    · exact hL x g
  obtain ⟨t, a1, b1⟩ := h _ _ lsA cells slots (I' _ (fun x hx => by
    obtain ⟨z, -, hz⟩ := List.mem_map.mp hx
    rw [← hz]
    exact Nat.le_add_right _ _)) _ hheap Y'
  exact ⟨t, step t a1, b1⟩
end SND3
end
section
/-! one step: new cells, constants, calls, returns -/
section SND4
variable {p : Program} {l : Launch} {e : Env} {R : Room} {s : State} {m : MethodId} {args : Array Value} {below : List Frame} {meth : Method} {c : Code} {Qf : State → Prop}
variable {D : va_G} {H0 : Heap} {xs : List Int32} {sv : Nat → Value} {dA : Nat → ClassId} {mi n0 s0 : Nat} {X : zX}
variable {pc : Nat} {ls st : List Value} {M : zM} {a b : Nat} {v : Value}
theorem znew_cell {sh : Nat ⊕ (Nat × Nat)} {N x z : Nat} (h : x ≠ zn M) : zcell z dA (znew M sh N) x = zcell z dA M x := by
  have e0 : zS (znew M sh N) x = zS M x := if_neg h
  have e1 : (znew M sh N).2.1 x = M.2.1 x := by
    funext j
    exact if_neg h
  have e2 : (znew M sh N).2.2 x = M.2.2 x := by
    funext j
    exact if_neg h
  have e3 : (znew M sh N).1.2.2.2 x = M.1.2.2.2 x := by
    funext j
    exact if_neg h
  unfold zcell
  rw [e0]
  unfold zfs zfv zcon zI zR zL
  rw [e1, e2, e3]
theorem znew_S {sh : Nat ⊕ (Nat × Nat)} {N : Nat} : zS (znew M sh N) (zn M) = sh := if_pos rfl
theorem znew_I {sh : Nat ⊕ (Nat × Nat)} {N j : Nat} : zI (znew M sh N) (zn M) j = 0 := if_pos rfl
theorem znew_L {sh : Nat ⊕ (Nat × Nat)} {N j : Nat} : zL (znew M sh N) (zn M) j = 0 := if_pos rfl
theorem znew_R {sh : Nat ⊕ (Nat × Nat)} {N j : Nat} : zR (znew M sh N) (zn M) j = none := if_pos rfl
theorem zrep_new {H H1 : Heap} {sh : Nat ⊕ (Nat × Nat)} {N : Nat} (hr : zrep D H0 dA M H) (hsh : ∀ ci, sh = .inl ci → ci < 9) (hz : H1.size = H.size + 1) (ho : ∀ q, q < H.size → H1[q]? = H[q]?) (ha : va_at D vwCl (H0.size + zn M, zcell H0.size dA (znew M sh N) (zn M)) H1) : zrep D H0 dA (znew M sh N) H1 := by
  obtain ⟨h1, h2, h3, h4, h5⟩ := hr
  refine ⟨by rw [hz, h1]; rfl, fun q hq => (ho q (by omega)).trans (h2 q hq), fun x hx => ?_, fun x ci hx => ?_, fun x hx => ?_⟩
  · have hx' : zn M + 1 ≤ x := hx
    show (if x = M.1.1 then sh else M.1.2.2.1 x) = _
    rw [if_neg (by show ¬ x = zn M; omega)]
    exact h3 x (by omega)
  · by_cases e : x = zn M
    · subst e
      rw [znew_S] at hx
      exact hsh ci hx
    · exact h4 x ci (by rw [← hx]; exact (if_neg e).symm)
  · have hx' : x < zn M + 1 := hx
    by_cases e : x = zn M
    · subst e; exact ha
    · rw [znew_cell e]
      exact (h5 x (by omega)).kept (ho _ (by rw [h1]; show H0.size + x < _; omega))
theorem zinv_new {H H1 : Heap} {locs : List Loc} {lsA : Array Slot} {cells slots N : Nat} {sh : Nat ⊕ (Nat × Nat)} (I : zinv D H0 sv dA mi n0 s0 R s H locs lsA cells slots ls M) (hr : zrep D H0 dA (znew M sh N) H1) (hz : H1.size = H.size + 1) (b1 : zn M + 1 ≤ n0 + R.cells) (b2 : zsl M + N ≤ s0 + R.slots) : zinv D H0 sv dA mi n0 s0 R s H1 locs lsA (cells + 1) (slots + N) ls (znew M sh N) := by
  obtain ⟨-, h2, h3, h4, h5, h6, h7, h8, h9⟩ := I
  refine ⟨hr, h2, h3, h4, ?_, ?_, b1, b2, by omega⟩
  · show cells + 1 + n0 = zn M + 1
    omega
  · show slots + N + s0 = zsl M + N
    omega
theorem zs_new (hX : X = zXW D H0 sv dA mi n0 s0 p l e R s m args below meth c Qf) (K : zctx D H0 xs sv dA mi p s m args meth c) {i Bn Bs : Nat} (hBn : Bn = n0 + R.cells) (hBs : Bs = s0 + R.slots) (hd : decode (zbs mi) pc = .ok (.new i, 3)) (hq : zcq (zoc mi) i a = true) (ha : a < 9) (hb : b = (zcls a).2.2) (h : znw Bn Bs a b X (pc + 3) ls st M) : X pc ls st M := by
  subst hX hb
  obtain ⟨b1, b2, h⟩ := h
  intro H locs lsA cells slots I
  have hts := zK_ts K
  have hE := (zK_env K).1
  have hw := List.all_eq_true.mp zcw_b a (List.mem_range.mpr ha)
  simp only [Bool.and_eq_true] at hw
  have hKn := hE.1 a _ (zcls_get ha)
  have c1 : cells + n0 = zn M := I.2.2.2.2.1
  have c2 : slots + s0 = zsl M := I.2.2.2.2.2.1
  refine W.newcK K.1 K.2.1 (zK_own K) (hts _ (zcq_in hq)) (hts _ (zwd_in hw.1)) (hts _ (zwd_in hw.2)) rfl hd (by omega) (by omega) hKn.2.1 I.1.1 fun H1 kC hkC e1 e2 e3 => ?_
  have hr : zrep D H0 dA (znew M (.inl a) (zcls a).2.2) H1 := by
    refine zrep_new I.1 (fun ci h => by cases h; exact ha) (by rw [e2, I.1.1]) (fun q hq => e3 q (by rw [← I.1.1]; exact hq)) ?_
    rw [zcell_o znew_S]
    refine ⟨_, zcls_get ha, (u_born (zTy a) hts (zlay_in a ha) hKn hkC e1 (zty_ok a ha)).to fun j hj => ?_⟩
    obtain ⟨-, -, -, t1, tf, td⟩ := zTy_ok a ha j hj
    show _ = (zfs H0.size (znew M (.inl a) (zcls a).2.2) (zn M) a).getD j .null
    rw [List.getD_eq_getElem?_getD, zfs_get hj]
    show _ = zfv _ _ _ _ _
    unfold zfv
    rw [znew_R, znew_I, znew_L]
    generalize zTy a j = ty at *
    cases ty <;> first | rfl | exact absurd rfl tf | exact absurd rfl td
  exact h H1 locs lsA (cells + 1) (slots + (zcls a).2.2) (zinv_new I hr (by rw [e2, I.1.1]) (by omega) (by omega))
theorem zs_newarray (hX : X = zXW D H0 sv dA mi n0 s0 p l e R s m args below meth c Qf) (K : zctx D H0 xs sv dA mi p s m args meth c) {Bn Bs : Nat} {t : ArrayType} (hBn : Bn = n0 + R.cells) (hBs : Bs = s0 + R.slots) (hd : decode (zbs mi) pc = .ok (.newarray t, 2)) (ht : (a = 0 ∧ t = .int) ∨ (a = 1 ∧ t = .byte) ∨ (a = 2 ∧ t = .boolean) ∨ (a = 3 ∧ t = .long)) (h : zna Bn Bs a X (pc + 2) ls st M) : X pc ls st M := by
  subst hX
  obtain ⟨k, r, rfl, k1, k2, b1, b2, h⟩ := zna_e h
  intro H locs lsA cells slots I
  have hts := zK_ts K
  have hE := (zK_env K).1
  have hw := zac_b
  simp only [Bool.and_eq_true] at hw
  obtain ⟨⟨⟨w0, w1⟩, w2⟩, w3⟩ := hw
  have c1 : cells + n0 = zn M := I.2.2.2.2.1
  have c2 : slots + s0 = zsl M := I.2.2.2.2.2.1
  have harr : (Cond.arrayClass (newarray.typeOf t)).before args s = true := by
    rcases ht with ⟨-, rfl⟩ | ⟨-, rfl⟩ | ⟨-, rfl⟩ | ⟨-, rfl⟩
    · exact hts _ (zwd_in w0)
    · exact hts _ (zwd_in w1)
    · exact hts _ (zwd_in w2)
    · exact hts _ (zwd_in (of_decide_eq_true w3))
  have hby : k.toNatClampNeg * componentBytes (newarray.typeOf t) ≤ 536870912 := by
    have : componentBytes (newarray.typeOf t) ≤ 8 := by cases t <;> decide
    calc _ ≤ 100000 * 8 := Nat.mul_le_mul k2 this
      _ ≤ _ := by decide
  refine va_newaK K.1 K.2.1 harr rfl hd rfl k1 rfl hby (by omega) (by omega) I.1.1 fun H1 cA e1 e2 e3 e4 e5 => ?_
  have hcA : cA = dA a := by
    rcases ht with ⟨rfl, rfl⟩ | ⟨rfl, rfl⟩ | ⟨rfl, rfl⟩ | ⟨rfl, rfl⟩
    · exact Option.some.inj (e5.symm.trans (hE.2 0 _ rfl).2)
    · exact Option.some.inj (e5.symm.trans (hE.2 1 _ rfl).2)
    · exact Option.some.inj (e5.symm.trans (hE.2 2 _ rfl).2)
    · exact Option.some.inj (e5.symm.trans (hE.2 3 _ rfl).2)
  have hr : zrep D H0 dA (znew M (.inr (a, k.toNatClampNeg)) k.toNatClampNeg) H1 := by
    refine zrep_new I.1 (fun ci h => by cases h) (by rw [e2, I.1.1]) (fun q hq => e3 q (by rw [← I.1.1]; exact hq)) ?_
    rw [zcell_a znew_S]
    show H1[H0.size + zn M]? = some (vp_cell (dA a) (k.toNatClampNeg, zcon _ _ _ _))
    rw [e1, hcA]
    have hI : zI (znew M (.inr (a, k.toNatClampNeg)) k.toNatClampNeg) (zn M) = fun _ => 0 := funext fun j => znew_I
    have hL : zL (znew M (.inr (a, k.toNatClampNeg)) k.toNatClampNeg) (zn M) = fun _ => 0 := funext fun j => znew_L
    unfold zcon
    rw [hI, hL]
    rcases ht with ⟨rfl, rfl⟩ | ⟨rfl, rfl⟩ | ⟨rfl, rfl⟩ | ⟨rfl, rfl⟩ <;> rfl
  have hw := h H1 locs lsA (cells + 1) (slots + k.toNatClampNeg) (zinv_new I hr (by rw [e2, I.1.1]) (by omega) (by omega))
  exact hw
theorem zs_anewarray (hX : X = zXW D H0 sv dA mi n0 s0 p l e R s m args below meth c Qf) (K : zctx D H0 xs sv dA mi p s m args meth c) {i Bn Bs : Nat} (hBn : Bn = n0 + R.cells) (hBs : Bs = s0 + R.slots) (hd : decode (zbs mi) pc = .ok (.anewarray i, 3)) (hq : zcq (zoc mi) i 6 = true) (h : zna Bn Bs 4 X (pc + 3) ls st M) : X pc ls st M := by
  subst hX
  obtain ⟨k, r, rfl, k1, k2, b1, b2, h⟩ := zna_e h
  intro H locs lsA cells slots I
  have hE := (zK_env K).1
  have c1 : cells + n0 = zn M := I.2.2.2.2.1
  have c2 : slots + s0 = zsl M := I.2.2.2.2.2.1
  refine W.anew K.1 K.2.1 (zK_own K) (zK_ts K _ (zcq_in hq)) (va_AO.use (zK_env K).2.2.2.1) rfl hd rfl k1 (by omega) (by omega) (by omega) fun cA kA comp f1 f2 f3 f4 => ?_
  obtain ⟨-, -, -, -, -, g5⟩ := (hE.2 4 _ rfl).2
  have hcA : cA = dA 4 := Option.some.inj (f1.symm.trans g5)
  generalize hH1 : H.push ({ cls := cA, slots := Array.replicate k.toNatClampNeg .null, vm := .none } : Cell) = H1
  have e2 : H1.size = H.size + 1 := by rw [← hH1, Array.size_push]
  have e1 : H1[H.size]? = some (arrV cA k.toNatClampNeg (fun _ => .null)) := by rw [← hH1, Array.getElem?_push_size, ← arrV_new]
  have e3 : ∀ q : Nat, q < H.size → H1[q]? = H[q]? := fun q hq => by rw [← hH1, Array.getElem?_push, if_neg (Nat.ne_of_lt hq)]
  have hr : zrep D H0 dA (znew M (.inr (4, k.toNatClampNeg)) k.toNatClampNeg) H1 := by
    refine zrep_new I.1 (fun ci h => by cases h) e2 e3 ?_
    rw [zcell_a znew_S]
    show H1[H0.size + zn M]? = some (vp_cell (dA 4) (k.toNatClampNeg, .inr (.inr (.inr (.inr (fun j => Option.map _ (zR (znew M _ _) (zn M) j)))))))
    rw [← I.1.1, e1, hcA]
    have hz : (fun j => Option.map (fun q => H0.size + q) (zR (znew M (.inr (4, k.toNatClampNeg)) k.toNatClampNeg) (zn M) j)) = fun _ => none := funext fun j => by rw [znew_R]; rfl
    rw [hz]
    rfl
  have hw := h H1 locs lsA (cells + 1) (slots + k.toNatClampNeg) (zinv_new I hr e2 (by omega) (by omega))
  show W p l e R s m args below meth c H1 locs (cells + 1) (slots + k.toNatClampNeg) Qf (F0 m (pc + 3) lsA (.ref H.size :: r.map (zcv H0.size sv)))
  rw [I.1.1]
  exact hw
theorem zs_objinit (hX : X = zXW D H0 sv dA mi n0 s0 p l e R s m args below meth c Qf) (K : zctx D H0 xs sv dA mi p s m args meth c) {i : Nat} (hR1 : 1 ≤ R.frames) (hR2 : 40 ≤ R.locals) (hd : decode (zbs mi) pc = .ok (.invokespecial i, 3)) (hm : zmq (zoc mi) i 1001 9 = true) (h : zoi X (pc + 3) ls st M) : X pc ls st M := by
  subst hX
  obtain ⟨q, r, rfl, hc, h⟩ := zoi_e h
  intro H locs lsA cells slots I
  have hsy := zsy_b
  simp only [Bool.and_eq_true] at hsy
  obtain ⟨⟨-, y4⟩, y5⟩ := hsy
  refine W.objInit K.1 K.2.1 (zK_own K) (zK_ts K _ ((zmq_in hm).2.1 rfl)) (zK_ts K _ (zwd_in y4)) (zK_ts K _ (zwd_in (of_decide_eq_true y5))) rfl (by show lsA.size = _; rw [I.2.2.1.1]; exact K.2.2.1.symm) rfl hd hR1 ?_ (h H locs lsA cells slots I)
  show 2 * 0 + ((r.map (zcv H0.size sv)).map fun v => v.category).sum + 12 ≤ R.locals
  rw [zcat_map (zK_sv K)]
  omega
theorem zs_const (hX : X = zXW D H0 sv dA mi n0 s0 p l e R s m args below meth c Qf) {np : Nat}
    (row : ∀ (H : Heap) (locs : List Loc) (cells slots : Nat) (lsA : Array Slot) (r : List Value), va_S (fun q => H0.size ≤ q) s.heap H locs → W p l e R s m args below meth c H locs cells slots Qf (F0 m np lsA (zcv H0.size sv v :: r)) → W p l e R s m args below meth c H locs cells slots Qf (F0 m pc lsA r)) (K : zctx D H0 xs sv dA mi p s m args meth c)
    (h : X np ls (v :: st) M) : X pc ls st M := by
  subst hX
  intro H locs lsA cells slots I
  exact row H locs cells slots lsA _ (zI_S K I) (h H locs lsA cells slots I)
end SND4
end
section
/-! calls: a method's contract out of its run -/
def zws (a : Nat) : List Cond := .code (zy a) (zbs a) (znl a) (zrt a) :: zgw
def zrm (d a : Nat) : Room := { frames := d, cells := (zalc a).1, slots := (zalc a).2, locals := 40 * d }
def zPc (D : va_G) (H0 : Heap) (xs : List Int32) (sv : Nat → Value) (dA : Nat → ClassId) (M : zM) (as : List Value) : Array Value → State → Prop := va_Pc (as.map (zcv H0.size sv)) (fun U => zrep D H0 dA M U.heap ∧ zenv D H0 xs sv dA U)
def zQc (D : va_G) (H0 : Heap) (sv : Nat → Value) (dA : Nat → ClassId) (Q : zQ) : Array Value → State → Outcome → State → Prop := fun _ _ o t => ∃ M' r, Q M' r ∧ o = .returned (r.map (zcv H0.size sv)) ∧ zrep D H0 dA M' t.heap
/-- the contract of a call of depth d -/
def zmet (l : Launch) (D : va_G) (H0 : Heap) (xs : List Int32) (sv : Nat → Value) (dA : Nat → ClassId) (d a : Nat) (M : zM) (as : List Value) (Q : zQ) : Prop := Met l (zy a) (zws a) (zrm d a) (zPc D H0 xs sv dA M as) (zQc D H0 sv dA Q) (zalc a).1 (zalc a).2 (fun q => H0.size ≤ q)
section SND5
variable {p : Program} {l : Launch} {e : Env} {R : Room} {s : State} {m : MethodId} {args : Array Value} {below : List Frame} {meth : Method} {c : Code} {Qf : State → Prop}
variable {D : va_G} {H0 : Heap} {xs : List Int32} {sv : Nat → Value} {dA : Nat → ClassId} {mi n0 s0 : Nat} {X : zX}
variable {pc : Nat} {ls st : List Value} {M : zM} {a b : Nat} {v : Value}
theorem zPc_blind {as : List Value} : FrameBlind (zPc D H0 xs sv dA M as) := fun A U g mk h => ⟨h.1, h.2.1, zenv_same (u := U) rfl h.2.2⟩
theorem zcode_in {a : Nat} (ha : a < 283) : Cond.code (zy a) (zbs a) (znl a) (zrt a) ∈ zgw := List.mem_filter.mpr ⟨List.mem_of_getElem? (zca_283 a ha), rfl⟩
theorem zws_good {a : Nat} (ha : a < 283) : GoodIn zgw (zws a) := by
  intro w hw
  rcases List.mem_cons.mp hw with h | h
  · rw [h]
    exact ⟨zcode_in ha, zgw_good (zcode_in ha)⟩
  · exact ⟨h, zgw_good h⟩
theorem zplain {a : Nat} (ha : a < 283) : plainFor (zy a) = true ∧ (zy a).cls = zow a ∧ znl a ≤ 21 := by
  have h := List.all_eq_true.mp zpf_b a (List.mem_range.mpr ha)
  simp only [Bool.and_eq_true, decide_eq_true_eq] at h
  exact ⟨h.1.1, h.1.2, h.2⟩
theorem zini {a : Nat} (ha : a < 283) : Cond.initialized (zy a).cls ∈ zgw := by
  have hz : zoc a < 16 := by
    have : (List.range 283).all (fun a => decide (zoc a < 16)) = true := by decide +kernel
    exact of_decide_eq_true (List.all_eq_true.mp this a (List.mem_range.mpr ha))
  have h := List.all_eq_true.mp ziw_b (zoc a) (List.mem_range.mpr hz)
  rw [(zplain ha).2.1]
  exact zwd_in h
/-- behind a call -/
theorem zgo_on {mc ms : Nat} {lsA : Array Slot} {H : Heap} {locs : List Loc} {cells slots : Nat} {st0 rest : List Value} {A : Array Value} {Q : zQ} (hr : va_Run p l e R s m args below meth c H locs cells slots mc ms (F0 m pc lsA st0) rest (zQc D H0 sv dA Q A) (fun q => H0.size ≤ q)) (hl : ∀ x ∈ locs, H0.size ≤ x.base)
    (kk : ∀ (M' : zM) (r : Option Value) (H1 : Heap) (locs1 : List Loc), Q M' r → zrep D H0 dA M' H1 → (∀ x ∈ locs1, H0.size ≤ x.base) → W p l e R s m args below meth c H1 locs1 (cells + mc) (slots + ms) Qf (F0 m (pc + 3) lsA ((r.map (zcv H0.size sv)).toList ++ rest))) : W p l e R s m args below meth c H locs cells slots Qf (F0 m pc lsA st0) := by
  intro T hT Y
  obtain ⟨v, st₀, t, T', L, h0, Y', hL, e1, e2, ⟨M', r, hQ, hv, hrep⟩, stp⟩ := hr T hT Y
  cases hv
  obtain ⟨t2, a1, b1⟩ := kk M' r T'.heap (locs ++ L) hQ (by rw [e1]; exact hrep) (fun x hx => by
    rcases List.mem_append.mp hx with g | g
    · exact hl x g
    · exact hL x g) T' rfl Y'
  exact ⟨t2, stp t2 a1, b1⟩
theorem zvq_e {a : Nat} {v : Value} (h : zvq a v = true) : (zalc a = (0, 0) ∧ ∀ n, v ≠ .ref n) ∨ ∃ n, v = .ref n ∧ zalc a = (n / 1000000, n % 1000000) := by
  unfold zvq at h
  split at h
  · exact Or.inl ⟨of_decide_eq_true h, fun n hn => by cases hn⟩
  next n => exact Or.inr ⟨n, rfl, of_decide_eq_true h⟩
  · cases h
/-- what a call's continuation says of its end, either sort -/
theorem zanu_x {k n sl np : Nat} {r : List Value} {M' : zM} {o : Option Value} (h : zanu k n sl X np ls r M' o) : zn M' = n ∧ zsl M' = sl ∧ X np ls (o.toList ++ r) M' := by
  unfold zanu at h
  split at h
  · obtain ⟨h1, h2, h3⟩ := h
    cases o with
    | none => exact ⟨h1, h2, h3⟩
    | some w => exact h3.elim
  · obtain ⟨h1, h2, h3⟩ := h
    cases o with
    | none => exact h3.elim
    | some w =>
      cases w <;> first | exact ⟨h1, h2, h3⟩ | exact h3.elim
  · exact h.elim
theorem zans_x {k np : Nat} {F : zF} {r : List Value} {M' : zM} {o : Option Value} (h : zans k F X np ls r M' o) : M'.1 = F ∧ X np ls (o.toList ++ r) M' := by
  unfold zans at h
  split at h
  · obtain ⟨h1, h3⟩ := h
    subst h1
    cases o with
    | none => exact ⟨rfl, h3⟩
    | some w => exact h3.elim
  · obtain ⟨h1, h3⟩ := h
    subst h1
    cases o with
    | none => exact h3.elim
    | some w =>
      cases w <;> first | exact ⟨rfl, h3⟩ | exact h3.elim
  · obtain ⟨h1, h3⟩ := h
    subst h1
    cases o with
    | none => exact h3.elim
    | some w =>
      cases w <;> first | exact ⟨rfl, h3⟩ | exact h3.elim
  · exact h.elim
/-- a call's continuation, either sort: the counts, and the run behind it -/
theorem zcl_x {C : zC} {Bn Bs k : Nat} (hv : zvq a v = true) (hX : X = zXW D H0 sv dA mi n0 s0 p l e R s m args below meth c Qf) (hBn : Bn = n0 + R.cells) (hBs : Bs = s0 + R.slots) (h : zcl C Bn Bs a b k v X (pc + 3) ls st M) (hn : zn M ≤ Bn) (hs : zsl M ≤ Bs) : b ≤ st.length ∧ zcat (st.drop b) ≤ 8 ∧ zn M + (zalc a).1 ≤ Bn ∧ zsl M + (zalc a).2 ≤ Bs ∧ ∃ Q : zQ, C a M (st.take b).reverse Q ∧ ∀ M' o, Q M' o → zn M' = zn M + (zalc a).1 ∧ zsl M' = zsl M + (zalc a).2 ∧ X (pc + 3) ls (o.toList ++ st.drop b) M' := by
  obtain ⟨h1, h2, h⟩ := zcl_e h
  refine ⟨h1, h2, ?_⟩
  rcases h with ⟨mc, ev, g1, g2, g3⟩ | ⟨ev, g3⟩
  · have hz : zalc a = (mc / 1000000, mc % 1000000) := by
      rcases zvq_e hv with ⟨-, q⟩ | ⟨n, q1, q2⟩
      · exact absurd ev (q mc)
      · rw [ev] at q1; cases q1; exact q2
    rw [hz]
    exact ⟨g1, g2, _, g3, fun M' o hq => zanu_x hq⟩
  · have hz : zalc a = (0, 0) := by
      rcases zvq_e hv with ⟨q, -⟩ | ⟨n, q1, -⟩
      · exact q
      · exact absurd q1 (ev n)
    rw [hz]
    refine ⟨hn, hs, _, g3, fun M' o hq => ?_⟩
    obtain ⟨q1, q2⟩ := zans_x hq
    refine ⟨?_, ?_, q2⟩
    · show M'.1.1 = M.1.1 + 0
      rw [q1]; rfl
    · show M'.1.2.1 = M.1.2.1 + 0
      rw [q1]; rfl
theorem zinv_call {H H1 : Heap} {locs locs1 : List Loc} {lsA : Array Slot} {cells slots mc ms : Nat} {M' : zM} (I : zinv D H0 sv dA mi n0 s0 R s H locs lsA cells slots ls M) (hr : zrep D H0 dA M' H1) (hl : ∀ x ∈ locs1, H0.size ≤ x.base) (hn : zn M' = zn M + mc) (hs : zsl M' = zsl M + ms) (b1 : zn M + mc ≤ n0 + R.cells) (b2 : zsl M + ms ≤ s0 + R.slots) : zinv D H0 sv dA mi n0 s0 R s H1 locs1 lsA (cells + mc) (slots + ms) ls M' := by
  obtain ⟨h1, h2, h3, h4, h5, h6, h7, h8, h9⟩ := I
  refine ⟨hr, hl, h3, h4, by omega, by omega, by omega, by omega, ?_⟩
  have := hr.1
  have := h1.1
  omega
theorem zsplit {b : Nat} (h : b ≤ st.length) : st.map (zcv H0.size sv) = (((st.take b).reverse).map (zcv H0.size sv)).reverse ++ (st.drop b).map (zcv H0.size sv) := by
  rw [← List.map_reverse, List.reverse_reverse, ← List.map_append, List.take_append_drop]
theorem zroom (K : zctx D H0 xs sv dA mi p s m args meth c) {lsA : Array Slot} {st0 r : List Value} (h : zcat r ≤ 8) : 2 * (F0 m pc lsA st0).monitorRoom + (((r.map (zcv H0.size sv)).map fun v => v.category).sum) ≤ 8 := by
  rw [zcat_map (zK_sv K)]
  show 2 * 0 + _ ≤ 8
  omega
theorem zpay {a : Nat} (ha : a < 283) (K : zctx D H0 xs sv dA mi p s m args meth c) : ∀ w ∈ zws a, ∀ (a' : Array Value) (U : State), s.WarmedH U.vm → w.before a' U = true := pay_in (zK_ts K) (zws_good ha)
theorem zparam {a n : Nat} (h : zpn a n = true) : ∀ sig, parseMethodDescriptor (zy a).desc = some sig → n = sig.parameters.length := by
  intro sig hs
  have := of_decide_eq_true h
  rw [hs] at this
  exact (Option.some.inj this).symm
theorem zmhs {a : Nat} (h : zmh a = true) : (zy a).cls ≠ "java/lang/invoke/MethodHandle" ∧ (zy a).cls ≠ "java/lang/invoke/VarHandle" := by
  unfold zmh at h
  simp only [Bool.and_eq_true, decide_eq_true_eq] at h
  exact h
/-- the words of a call -/
theorem zcallB {d a i k n : Nat} (ha : a < 283) (K : zctx D H0 xs sv dA mi p s m args meth c) (hR1 : d + 1 ≤ R.frames) (hR2 : 40 * (d + 1) ≤ R.locals) (hm : zmq (zoc mi) i a k = true) (hk : zml (zoc mi) i a k = .methodLink (zow mi) i (zy a)) (hk2 : znestk k = false) (hp : zpn a n = true) (hmh : zmh a = true) : CallB R s args (zow mi) i (zy a) (zbs a) (znl a) (zrt a) (zws a) (zrm d a) (zalc a).1 (zalc a).2 n := by
  have hl := zK_ts K _ ((zmq_in hm).2.1 hk2)
  rw [hk] at hl
  have h21 := (zplain ha).2.2
  refine ⟨rfl, rfl, hR1, ?_, zpay ha K, List.mem_cons_self, zK_ts K _ (zcode_in ha), zK_ts K _ (zini ha), zmhs hmh, zparam hp, hl⟩
  show 8 + (znl a + 11) + 40 * d ≤ R.locals
  omega
theorem zcallN {d a i k n : Nat} (ha : a < 283) (K : zctx D H0 xs sv dA mi p s m args meth c) (hR1 : d + 1 ≤ R.frames) (hR2 : 40 * (d + 1) ≤ R.locals) (hm : zmq (zoc mi) i a k = true) (hk2 : znestk k = true) (hp : zpn a n = true) (hmh : zmh a = true) : va_CN R s args (zow mi) i (zy a) RX7 (zbs a) (znl a) (zrt a) (zws a) (zrm d a) (zalc a).1 (zalc a).2 n := by
  have hl := (zK_env K).2.1 _ _ _ _ hm hk2
  rw [znest_form hk2] at hl
  have h21 := (zplain ha).2.2
  refine ⟨⟨rfl, rfl, hR1, ?_, zpay ha K, List.mem_cons_self⟩, zK_ts K _ (zcode_in ha), zK_ts K _ (zini ha), zmhs hmh, zparam hp, va_Nw.use rfl hl⟩
  show 8 + (znl a + 11) + 40 * d ≤ R.locals
  omega
theorem zpre (K : zctx D H0 xs sv dA mi p s m args meth c) {H : Heap} {as : List Value} (hr : zrep D H0 dA M H) : PreS s H (zPc D H0 xs sv dA M as) (as.map (zcv H0.size sv)) := ⟨zPc_blind, fun U hU hW => ⟨rfl, by rw [hU]; exact hr, zenv_warm hW (zK_env K)⟩⟩
end SND5
end
section
/-! calls and returns, one step each -/
section SND6
variable {p : Program} {l : Launch} {e : Env} {R : Room} {s : State} {m : MethodId} {args : Array Value} {below : List Frame} {meth : Method} {c : Code} {Qf : State → Prop}
variable {D : va_G} {H0 : Heap} {xs : List Int32} {sv : Nat → Value} {dA : Nat → ClassId} {mi n0 s0 : Nat} {X : zX}
variable {pc : Nat} {ls st : List Value} {M : zM} {a b : Nat} {v : Value} {C : zC} {Bn Bs d i k : Nat}
theorem ztake (h1 : 1 ≤ b) (h2 : b ≤ st.length) : (st.take b).reverse = st.getD (b - 1) .null :: (st.take (b - 1)).reverse := by
  obtain ⟨n, rfl⟩ : ∃ n, b = n + 1 := ⟨b - 1, by omega⟩
  have hn : n < st.length := by omega
  rw [List.take_succ, List.reverse_append, Nat.add_sub_cancel, List.getD_eq_getElem?_getD, List.getElem?_eq_getElem hn]
  rfl
theorem zstack {w : Value} (h1 : 1 ≤ b) (h2 : b ≤ st.length) (hw : zcv H0.size sv (st.getD (b - 1) .null) = w) : st.map (zcv H0.size sv) = ((st.take (b - 1)).reverse.map (zcv H0.size sv)).reverse ++ w :: (st.drop b).map (zcv H0.size sv) := by
  rw [zsplit (H0 := H0) (sv := sv) h2, ztake h1 h2, List.map_cons, List.reverse_cons, hw, List.append_assoc]
  rfl
theorem zback {r : Option Value} {st : List Value} : (r.map (zcv H0.size sv)).toList ++ st.map (zcv H0.size sv) = (r.toList ++ st).map (zcv H0.size sv) := by
  cases r <;> rfl
theorem zmw0 (h : zmw a 0 = true) : Cond.instanceMethod (zy a) ∈ zgw ∧ Cond.selects (zy a).cls (zy a) (zy a) ∈ zgw := by
  unfold zmw at h
  generalize zmr.getD a (0, 0, 0, 0, 0) = t at h
  obtain ⟨t1, t2, t3, t4, t5⟩ := t
  simp only [Bool.and_eq_true] at h
  exact ⟨zwd_in h.1, zwd_in h.2⟩
theorem zmw1 (h : zmw a 1 = true) : Cond.static (zy a) ∈ zgw := by
  unfold zmw at h
  generalize zmr.getD a (0, 0, 0, 0, 0) = t at h
  obtain ⟨t1, t2, t3, t4, t5⟩ := t
  exact zwd_in h
theorem zmw2 (h : zmw a 2 = true) : Cond.static (zy a) ∈ zgw := by
  unfold zmw at h
  generalize zmr.getD a (0, 0, 0, 0, 0) = t at h
  obtain ⟨t1, t2, t3, t4, t5⟩ := t
  exact zwd_in h
theorem zmw3 (h : zmw a 3 = true) : Cond.instanceMethod (zy a) ∈ zgw ∧ (zy a).name = "<init>" ∧ zrt a = none := by
  unfold zmw at h
  generalize zmr.getD a (0, 0, 0, 0, 0) = t at h
  obtain ⟨t1, t2, t3, t4, t5⟩ := t
  simp only [Bool.and_eq_true, decide_eq_true_eq] at h
  exact ⟨zwd_in h.1.1, h.1.2, h.2⟩
theorem zmw4 (h : zmw a 4 = true) : Cond.instanceMethod (zy a) ∈ zgw ∧ (zy a).name = "<init>" ∧ zrt a = none := by
  unfold zmw at h
  generalize zmr.getD a (0, 0, 0, 0, 0) = t at h
  obtain ⟨t1, t2, t3, t4, t5⟩ := t
  simp only [Bool.and_eq_true, decide_eq_true_eq] at h
  exact ⟨zwd_in h.1.1, h.1.2, h.2⟩
theorem zcn_9 : ∀ o, o < 9 → zcn.getD o "" = (zcls o).1 := z9 rfl rfl rfl rfl rfl rfl rfl rfl rfl
theorem zs_static (hX : X = zXW D H0 sv dA mi n0 s0 p l e R s m args below meth c Qf) (K : zctx D H0 xs sv dA mi p s m args meth c) (hBn : Bn = n0 + R.cells) (hBs : Bs = s0 + R.slots) (hR1 : d + 1 ≤ R.frames) (hR2 : 40 * (d + 1) ≤ R.locals) (hC : ∀ a M as Q, a < 283 → C a M as Q → zmet l D H0 xs sv dA d a M as Q) (hd : decode (zbs mi) pc = .ok (.invokestatic i, 3)) (hm : zmq (zoc mi) i a 1 = true ∨ zmq (zoc mi) i a 2 = true) (hp : zpn a b = true) (hmh : zmh a = true) (hv : zvq a v = true) (ha : a < 283) (h : zcl C Bn Bs a b k v X (pc + 3) ls st M) : X pc ls st M := by
  have h0 := h
  subst hX
  intro H locs lsA cells slots I
  have c1 : cells + n0 = zn M := I.2.2.2.2.1
  have c2 : slots + s0 = zsl M := I.2.2.2.2.2.1
  obtain ⟨q1, q2, q3, q4, Q, hQ, hk⟩ := zcl_x hv rfl hBn hBs h0 (by rw [hBn]; exact I.2.2.2.2.2.2.1) (by rw [hBs]; exact I.2.2.2.2.2.2.2.1)
  have hM := hC a M _ Q ha hQ
  have hlen : ((st.take b).reverse.map (zcv H0.size sv)).length = b := by
    rw [List.length_map, List.length_reverse, List.length_take]; omega
  have hr : va_Run p l e R s m args below meth c H locs cells slots (zalc a).1 (zalc a).2 (F0 m pc lsA (st.map (zcv H0.size sv))) ((st.drop b).map (zcv H0.size sv)) (zQc D H0 sv dA Q ((st.take b).reverse.map (zcv H0.size sv)).toArray) (fun q => H0.size ≤ q) := by
    rcases hm with hm | hm
    · exact va_runS ⟨K.1, K.2.1, K.2.2.1, zK_own K, zK_ts K⟩ hM ⟨zcallB ha K hR1 hR2 hm rfl rfl hp hmh, zK_ts K _ (zmw1 (zmq_in hm).2.2)⟩ (zpre K I.1) rfl hlen (by show lsA.size = _; exact I.2.2.1.1) (zsplit q1) (zroom K q2) hd ⟨by omega, by omega⟩
    · exact va_runSN ⟨K.1, K.2.1, K.2.2.1, zK_own K, zK_ts K⟩ hM ⟨zcallN ha K hR1 hR2 hm rfl hp hmh, zK_ts K _ (zmw2 (zmq_in hm).2.2), trivial⟩ (zpre K I.1) rfl hlen (by show lsA.size = _; exact I.2.2.1.1) (zsplit q1) (zroom K q2) hd ⟨by omega, by omega⟩
  refine zgo_on hr I.2.1 fun M' r H1 locs1 hQ' hr' hl' => ?_
  obtain ⟨z1, z2, z3⟩ := hk M' r hQ'
  rw [zback]
  exact z3 H1 locs1 lsA _ _ (zinv_call I hr' hl' z1 z2 (by omega) (by omega))
theorem zs_special (hX : X = zXW D H0 sv dA mi n0 s0 p l e R s m args below meth c Qf) (K : zctx D H0 xs sv dA mi p s m args meth c) (hBn : Bn = n0 + R.cells) (hBs : Bs = s0 + R.slots) (hR1 : d + 1 ≤ R.frames) (hR2 : 40 * (d + 1) ≤ R.locals) (hC : ∀ a M as Q, a < 283 → C a M as Q → zmet l D H0 xs sv dA d a M as Q) (hd : decode (zbs mi) pc = .ok (.invokespecial i, 3)) (hb1 : 1 ≤ b) (hm : zmq (zoc mi) i a 3 = true ∨ zmq (zoc mi) i a 4 = true) (hp : zpn a (b - 1) = true) (hmh : zmh a = true) (hv : zvq a v = true) (ha : a < 283) (h : zsr (st.getD (b - 1) .null) (zcl C Bn Bs a b k v X (pc + 3) ls st M)) : X pc ls st M := by
  obtain ⟨h0, q, hq⟩ := zsr_e h
  subst hX
  intro H locs lsA cells slots I
  have c1 : cells + n0 = zn M := I.2.2.2.2.1
  have c2 : slots + s0 = zsl M := I.2.2.2.2.2.1
  obtain ⟨q1, q2, q3, q4, Q, hQ, hk⟩ := zcl_x hv rfl hBn hBs h0 (by rw [hBn]; exact I.2.2.2.2.2.2.1) (by rw [hBs]; exact I.2.2.2.2.2.2.2.1)
  have hM := hC a M _ Q ha hQ
  have hlen : ((st.take (b - 1)).reverse.map (zcv H0.size sv)).length = b - 1 := by
    rw [List.length_map, List.length_reverse, List.length_take]; omega
  have hcv : zcv H0.size sv (st.getD (b - 1) .null) = .ref (H0.size + q) := by rw [hq]; rfl
  have has : (st.take b).reverse.map (zcv H0.size sv) = .ref (H0.size + q) :: (st.take (b - 1)).reverse.map (zcv H0.size sv) := by
    rw [ztake hb1 q1, List.map_cons, hcv]
  have hP := zpre (xs := xs) (as := (st.take b).reverse) K I.1
  rw [has] at hP
  have hr : va_Run p l e R s m args below meth c H locs cells slots (zalc a).1 (zalc a).2 (F0 m pc lsA (st.map (zcv H0.size sv))) ((st.drop b).map (zcv H0.size sv)) (zQc D H0 sv dA Q (Value.ref (H0.size + q) :: (st.take (b - 1)).reverse.map (zcv H0.size sv)).toArray) (fun q => H0.size ≤ q) := by
    rcases hm with hm | hm
    · obtain ⟨w1, w2, w3⟩ := zmw3 (zmq_in hm).2.2
      have hB := zcallB ha K hR1 hR2 hm rfl rfl hp hmh
      rw [w3] at hB
      exact va_runI ⟨K.1, K.2.1, K.2.2.1, zK_own K, zK_ts K⟩ hM ⟨hB, w2, zK_ts K _ w1⟩ hP rfl hlen (by show lsA.size = _; exact I.2.2.1.1) (zstack hb1 q1 hcv) (zroom K q2) hd ⟨by omega, by omega⟩
    · obtain ⟨w1, w2, w3⟩ := zmw4 (zmq_in hm).2.2
      have hB := zcallN ha K hR1 hR2 hm rfl hp hmh
      rw [w3] at hB
      exact va_runIN ⟨K.1, K.2.1, K.2.2.1, zK_own K, zK_ts K⟩ hM ⟨hB, w2, zK_ts K _ w1⟩ hP rfl hlen (by show lsA.size = _; exact I.2.2.1.1) (zstack hb1 q1 hcv) (zroom K q2) hd ⟨by omega, by omega⟩
  refine zgo_on hr I.2.1 fun M' r H1 locs1 hQ' hr' hl' => ?_
  obtain ⟨z1, z2, z3⟩ := hk M' r hQ'
  rw [zback]
  exact z3 H1 locs1 lsA _ _ (zinv_call I hr' hl' z1 z2 (by omega) (by omega))
theorem zs_virtual (hX : X = zXW D H0 sv dA mi n0 s0 p l e R s m args below meth c Qf) (K : zctx D H0 xs sv dA mi p s m args meth c) (hBn : Bn = n0 + R.cells) (hBs : Bs = s0 + R.slots) (hR1 : d + 1 ≤ R.frames) (hR2 : 40 * (d + 1) ≤ R.locals) (hC : ∀ a M as Q, a < 283 → C a M as Q → zmet l D H0 xs sv dA d a M as Q) (hd : decode (zbs mi) pc = .ok (.invokevirtual i, 3)) {o : Nat} (ho : zoc a = o) (hb1 : 1 ≤ b) (hm : zmq (zoc mi) i a 0 = true) (hp : zpn a (b - 1) = true) (hmh : zmh a = true) (hv : zvq a v = true) (ha : a < 283) (h : zvr (st.getD (b - 1) .null) M o (zcl C Bn Bs a b k v X (pc + 3) ls st M)) : X pc ls st M := by
  obtain ⟨h0, hrc⟩ := zvr_e h
  subst hX
  intro H locs lsA cells slots I
  have c1 : cells + n0 = zn M := I.2.2.2.2.1
  have c2 : slots + s0 = zsl M := I.2.2.2.2.2.1
  obtain ⟨q1, q2, q3, q4, Q, hQ, hk⟩ := zcl_x hv rfl hBn hBs h0 (by rw [hBn]; exact I.2.2.2.2.2.2.1) (by rw [hBs]; exact I.2.2.2.2.2.2.2.1)
  have hM := hC a M _ Q ha hQ
  have hlen : ((st.take (b - 1)).reverse.map (zcv H0.size sv)).length = b - 1 := by
    rw [List.length_map, List.length_reverse, List.length_take]; omega
  have hcl : (zy a).cls = zcn.getD o "" := by rw [(zplain ha).2.1, ← ho]; rfl
  obtain ⟨rb, hcv, hrecv⟩ : ∃ rb, zcv H0.size sv (st.getD (b - 1) .null) = .ref rb ∧ ∃ cellB : Cell, H[rb]? = some cellB ∧ cellB.vm.isStatics = false ∧ s.vm.findClass (zy a).cls = some cellB.cls := by
    rcases hrc with ⟨q, e1, hS⟩ | ⟨t, e1, ht, e2⟩
    · refine ⟨H0.size + q, by rw [e1]; rfl, ?_⟩
      have ho9 : o < 9 := I.1.2.2.2.1 q o hS
      obtain ⟨r, -, cell, g1, g2, g3, -⟩ := zrep_o I.1 hS
      refine ⟨cell, g1, by rw [g3]; rfl, ?_⟩
      rw [g2, hcl, zcn_9 o ho9]
      exact ((zK_env K).1.1 o _ (zcls_get ho9)).2.1
    · obtain ⟨t0, et, hO, -⟩ := (zK_env K).2.2.2.2.2.2.2.2.2.2 t ht
      refine ⟨t0, by rw [e1]; exact et, ?_⟩
      obtain ⟨cell, g1, g2, g3, -⟩ := (hO.kept (zK_kept K)).kept (zI_S K I).2.1
      refine ⟨cell, g1, g2, ?_⟩
      rw [hcl, e2]
      exact g3
  have has : (st.take b).reverse.map (zcv H0.size sv) = .ref rb :: (st.take (b - 1)).reverse.map (zcv H0.size sv) := by
    rw [ztake hb1 q1, List.map_cons, hcv]
  have hP := zpre (xs := xs) (as := (st.take b).reverse) K I.1
  rw [has] at hP
  obtain ⟨w1, w2⟩ := zmw0 (zmq_in hm).2.2
  refine zgo_on (va_runV ⟨K.1, K.2.1, K.2.2.1, zK_own K, zK_ts K⟩ hM ⟨zcallB ha K hR1 hR2 hm rfl rfl hp hmh, zK_ts K _ w1, zK_ts K _ w2⟩ ⟨hP.1, hrecv, hP.2⟩ rfl hlen (by show lsA.size = _; exact I.2.2.1.1) (zstack hb1 q1 hcv) (zroom K q2) hd ⟨by omega, by omega⟩) I.2.1 fun M' r H1 locs1 hQ' hr' hl' => ?_
  obtain ⟨z1, z2, z3⟩ := hk M' r hQ'
  rw [zback]
  exact z3 H1 locs1 lsA _ _ (zinv_call I hr' hl' z1 z2 (by omega) (by omega))
end SND6
/-- what the returns of a method must do -/
def zreti (D : va_G) (H0 : Heap) (sv : Nat → Value) (dA : Nat → ClassId) (mi n0 s0 : Nat) (p : Program) (l : Launch) (e : Env) (R : Room) (s : State) (m : MethodId) (args : Array Value) (below : List Frame) (meth : Method) (c : Code) (Qf : State → Prop) (Q : zQ) : Prop :=
  (∀ (x : Int32) (M : zM) (pc : Nat) (ty : FieldType) (H : Heap) (locs : List Loc) (lsA : Array Slot) (cells slots : Nat) (ls : List Value), Q M (some (.int x)) → zinv D H0 sv dA mi n0 s0 R s H locs lsA cells slots ls M → decode (zbs mi) pc = .ok (.ireturn, 1) → zrt mi = some ty → narrow ty (.int x) = .int x → W p l e R s m args below meth c H locs cells slots Qf (F0 m pc lsA [.int x])) ∧
  (∀ (x : Nat) (M : zM) (pc : Nat) (cn : String) (H : Heap) (locs : List Loc) (lsA : Array Slot) (cells slots : Nat) (ls : List Value), Q M (some (.ref x)) → zinv D H0 sv dA mi n0 s0 R s H locs lsA cells slots ls M → decode (zbs mi) pc = .ok (.areturn, 1) → zrt mi = some (.object cn) → W p l e R s m args below meth c H locs cells slots Qf (F0 m pc lsA [.ref (H0.size + x)])) ∧
  (∀ (M : zM) (pc : Nat) (H : Heap) (locs : List Loc) (lsA : Array Slot) (cells slots : Nat) (ls : List Value), Q M none → zinv D H0 sv dA mi n0 s0 R s H locs lsA cells slots ls M → decode (zbs mi) pc = .ok (.return_, 1) → zrt mi = none → W p l e R s m args below meth c H locs cells slots Qf (F0 m pc lsA []))
end
section
/-! all steps; a method's contract by its run -/
section SND7
variable {p : Program} {l : Launch} {e : Env} {R : Room} {s : State} {m : MethodId} {args : Array Value} {below : List Frame} {meth : Method} {c : Code} {Qf : State → Prop}
variable {D : va_G} {H0 : Heap} {xs : List Int32} {sv : Nat → Value} {dA : Nat → ClassId} {mi n0 s0 : Nat} {X : zX}
variable {pc len : Nat} {ls st : List Value} {M : zM} {a b k : Nat} {v : Value} {C : zC} {Bn Bs d : Nat} {Q : zQ}
set_option maxHeartbeats 8000000 in
theorem zstep (hX : X = zXW D H0 sv dA mi n0 s0 p l e R s m args below meth c Qf) (K : zctx D H0 xs sv dA mi p s m args meth c) (hBn : Bn = n0 + R.cells) (hBs : Bs = s0 + R.slots) (hR1 : d + 1 ≤ R.frames) (hR2 : 40 * (d + 1) ≤ R.locals) (hC : ∀ a M as Q, a < 283 → C a M as Q → zmet l D H0 xs sv dA d a M as Q)
    (hQ : zreti D H0 sv dA mi n0 s0 p l e R s m args below meth c Qf Q) {ins : Instr} (hchk : zokb mi (pc, len, ins, a, b, k, v) = true) (h : zop xs C Bn Bs Q X pc (pc + len) ins a b k v ls st M) : X pc ls st M := by
  unfold zokb at hchk
  rw [Bool.and_eq_true, decide_eq_true_eq] at hchk
  obtain ⟨hd, hk⟩ := hchk
  cases ins <;> simp only [zokI, Bool.and_eq_true, Bool.or_eq_true, decide_eq_true_eq] at hk <;> simp only [zop] at h
  all_goals first | cases hk; done | skip
  case iload i => obtain ⟨rfl, rfl⟩ := hk; exact zs_iload hX K hd h
  case iload_n i => obtain ⟨h1, rfl⟩ := hk; exact zs_iload_n hX K h1 hd h
  case aload i => obtain ⟨rfl, rfl⟩ := hk; exact zs_aload hX K hd h
  case aload_n i => obtain ⟨h1, rfl⟩ := hk; exact zs_aload_n hX K h1 hd h
  case lload_n i => obtain ⟨h1, rfl⟩ := hk; exact zs_lload_n hX K h1 hd h
  case istore i => obtain ⟨⟨⟨rfl, rfl⟩, h3⟩, h4⟩ := hk; exact zs_istore hX K hd h3 h4 h
  case istore_n i => obtain ⟨⟨⟨h1, rfl⟩, h3⟩, h4⟩ := hk; exact zs_istore_n hX K h1 hd h3 h4 h
  case astore i => obtain ⟨⟨⟨rfl, rfl⟩, h3⟩, h4⟩ := hk; exact zs_astore hX K hd h3 h4 h
  case astore_n i => obtain ⟨⟨⟨h1, rfl⟩, h3⟩, h4⟩ := hk; exact zs_astore_n hX K h1 hd h3 h4 h
  case iinc i n => obtain ⟨⟨⟨⟨rfl, rfl⟩, h3⟩, h4⟩, h5⟩ := hk; exact zs_iinc hX K hd h3 h4 h5 h
  case iconst n => obtain ⟨rfl, rfl⟩ := hk; exact zs_const hX (fun H locs cells slots lsA r _ g => lv_iconst K.1 K.2.1 hd rfl g) K h
  case bipush n => obtain ⟨rfl, rfl⟩ := hk; exact zs_const hX (fun H locs cells slots lsA r _ g => lv_bipush K.1 K.2.1 hd rfl g) K h
  case sipush n => obtain ⟨rfl, rfl⟩ := hk; exact zs_const hX (fun H locs cells slots lsA r _ g => lv_sipush K.1 K.2.1 hd rfl g) K h
  case lconst n => obtain ⟨rfl, rfl⟩ := hk; exact zs_const hX (fun H locs cells slots lsA r _ g => lv_lconst K.1 K.2.1 hd rfl g) K h
  case ldc i =>
    obtain ⟨rfl, hk⟩ := hk
    cases v with
    | int x => exact zs_const hX (fun H locs cells slots lsA r _ g => lv_ldc K.1 K.2.1 (zK_own K) (zK_ts K _ (zkq_in hk)) hd g) K h
    | retAddr q =>
      simp only [Bool.and_eq_true, Bool.or_eq_true, decide_eq_true_eq] at hk
      have hE := zK_env K
      rcases hk with ⟨⟨rfl, h5⟩, rfl⟩ | ⟨⟨rfl, h5⟩, rfl⟩
      · obtain ⟨t, et, hR⟩ := hE.2.2.2.2.1
        refine zs_const hX (fun H locs cells slots lsA r _ g => ?_) K h
        have hz : zcv H0.size sv (.retAddr 3) = .ref t := et
        rw [hz] at g
        refine va_ldcS K.1 K.2.1 (own := RX5) ?_ hR hd g
        have := zK_own K
        rw [show zow mi = zcn.getD (zoc mi) "" from rfl, h5] at this
        exact this
      · obtain ⟨t, et, hR⟩ := hE.2.2.2.2.2.1
        refine zs_const hX (fun H locs cells slots lsA r _ g => ?_) K h
        have hz : zcv H0.size sv (.retAddr 4) = .ref t := et
        rw [hz] at g
        refine va_ldcS K.1 K.2.1 (own := RX5) ?_ hR hd g
        have := zK_own K
        rw [show zow mi = zcn.getD (zoc mi) "" from rfl, h5] at this
        exact this
    | _ => cases hk
  case ldc_w i =>
    obtain ⟨rfl, hk⟩ := hk
    cases v with
    | int x => exact zs_const hX (fun H locs cells slots lsA r _ g => lv_ldcw K.1 K.2.1 (zK_own K) (zK_ts K _ (zkq_in hk)) hd g) K h
    | _ => cases hk
  case ldc2_w i =>
    obtain ⟨rfl, hk⟩ := hk
    cases v with
    | long x => exact zs_const hX (fun H locs cells slots lsA r _ g => lv_ldc2 K.1 K.2.1 (zK_own K) (zK_ts K _ (zlq_in hk)) hd g) K h
    | _ => cases hk
  case getstatic i =>
    obtain ⟨rfl, hk⟩ := hk
    have hE := zK_env K
    have ho := zK_own K
    rw [show zow mi = zcn.getD (zoc mi) "" from rfl] at ho
    have hw := zst_b
    simp only [Bool.and_eq_true] at hw
    rcases hk with (⟨⟨rfl, h5⟩, rfl⟩ | ⟨⟨rfl, h5⟩, rfl⟩) | ⟨⟨rfl, h5⟩, rfl⟩
    · rw [h5] at ho
      exact zs_const hX (fun H locs cells slots lsA r hS g => va_getsN (own := RX4) K.1 K.2.1 (hE.2.2.2.2.2.2.2.2.1.kept (zK_kept K)) hS ho (va_Nw.use rfl hE.2.2.1) (fun _ h9 => h9) hd g) K h
    · rw [h5] at ho
      exact zs_const hX (fun H locs cells slots lsA r hS g => va_gets (own := RJ0) K.1 K.2.1 (hE.2.2.2.2.2.2.1.kept (zK_kept K)) hS ho (zK_ts K _ (zwd_in hw.1)) (fun _ h9 => h9) hd g) K h
    · rw [h5] at ho
      exact zs_const hX (fun H locs cells slots lsA r hS g => va_gets (own := RJ0) K.1 K.2.1 (hE.2.2.2.2.2.2.2.1.kept (zK_kept K)) hS ho (zK_ts K _ (zwd_in (of_decide_eq_true hw.2))) (fun _ h9 => h9) hd g) K h
  case iadd => subst hk; exact zs_bin hX (fun x y H locs cells slots lsA r g => lv_iadd K.1 K.2.1 hd g) h
  case isub => subst hk; exact zs_bin hX (fun x y H locs cells slots lsA r g => lv_isub K.1 K.2.1 hd g) h
  case imul => subst hk; exact zs_bin hX (fun x y H locs cells slots lsA r g => lv_imul K.1 K.2.1 hd g) h
  case iand => subst hk; exact zs_bin hX (fun x y H locs cells slots lsA r g => lv_iand K.1 K.2.1 hd g) h
  case ior => subst hk; exact zs_bin hX (fun x y H locs cells slots lsA r g => lv_ior K.1 K.2.1 hd g) h
  case ixor => subst hk; exact zs_bin hX (fun x y H locs cells slots lsA r g => lv_ixor K.1 K.2.1 hd g) h
  case ishl => subst hk; exact zs_bin hX (fun x y H locs cells slots lsA r g => lv_ishl K.1 K.2.1 hd g) h
  case ishr => subst hk; exact zs_bin hX (fun x y H locs cells slots lsA r g => lv_ishr K.1 K.2.1 hd g) h
  case iushr => subst hk; exact zs_bin hX (fun x y H locs cells slots lsA r g => lv_iushr K.1 K.2.1 hd rfl g) h
  case idiv => subst hk; exact zs_div hX (fun x y H locs cells slots lsA r q g => lv_idiv K.1 K.2.1 hd q g) h
  case irem => subst hk; exact zs_div hX (fun x y H locs cells slots lsA r q g => lv_irem K.1 K.2.1 hd q g) h
  case ineg => subst hk; exact zs_un hX (fun x H locs cells slots lsA r g => lv_ineg K.1 K.2.1 hd g) h
  case i2b => subst hk; exact zs_un hX (fun x H locs cells slots lsA r g => lv_i2b K.1 K.2.1 hd rfl g) h
  case i2c => subst hk; exact zs_un hX (fun x H locs cells slots lsA r g => lv_i2c K.1 K.2.1 hd rfl g) h
  case i2l => subst hk; exact zs_i2l hX K hd h
  case lcmp => subst hk; exact zs_lcmp hX K hd h
  case lor => subst hk; exact zs_lor hX K hd h
  case lshl => subst hk; exact zs_lshl hX K hd h
  case if_icmp q o => obtain ⟨rfl, h2⟩ := hk; exact zs_ic hX K hd h2 h
  case ifCond q o => obtain ⟨rfl, h2⟩ := hk; exact zs_if hX K hd h2 h
  case goto o => obtain ⟨rfl, h2⟩ := hk; exact zs_goto hX K hd h2 h
  case tableswitch dd lo hi os => obtain ⟨⟨⟨⟨h1, h2⟩, h3⟩, h4⟩, h5⟩ := hk; exact zs_table hX K hd h1 h2 h3 h4 h5 h
  case lookupswitch dd ps => obtain ⟨⟨h1, h2⟩, h3⟩ := hk; exact zs_lookup hX K hd h1 h2 h3 h
  case dup => subst hk; exact zs_dup hX K hd h
  case dup2 => subst hk; exact zs_dup2 hX K hd h
  case pop => subst hk; exact zs_pop hX K hd h
  case getfield i =>
    obtain ⟨⟨rfl, h2⟩, h3⟩ := hk
    have h3' : a = 99 ∨ (a < 9 ∧ b < (zcls a).2.2 ∧ k = ztc (zTy a b)) := h3.elim Or.inl (fun g => Or.inr ⟨g.1.1, g.1.2, g.2⟩)
    exact zs_getfield hX K hd h2 h3' h
  case putfield i =>
    obtain ⟨⟨⟨⟨⟨rfl, h2⟩, h3⟩, h4⟩, h5⟩, h6⟩ := hk
    exact zs_putfield hX K hd h2 h3 h4 h5 (h6.elim Or.inl (fun g => Or.inr ⟨g.1.1, g.1.2, g.2⟩)) h
  case iaload => subst hk; exact zs_iaload hX K hd h
  case baload => obtain ⟨rfl, h2⟩ := hk; exact zs_baload hX K h2 hd h
  case laload => subst hk; exact zs_laload hX K hd h
  case aaload => subst hk; exact zs_aaload hX K hd h
  case iastore => subst hk; exact zs_iastore hX K hd h
  case bastore => obtain ⟨rfl, h2⟩ := hk; exact zs_bastore hX K h2 hd h
  case lastore => subst hk; exact zs_lastore hX K hd h
  case aastore => subst hk; exact zs_aastore hX K hd h
  case arraylength => subst hk; exact zs_len hX K hd h
  case new i => obtain ⟨⟨⟨rfl, h2⟩, h3⟩, h4⟩ := hk; exact zs_new hX K hBn hBs hd h2 h3 h4 h
  case newarray t =>
    obtain ⟨rfl, h2⟩ := hk
    have h2' : (a = 0 ∧ t = .int) ∨ (a = 1 ∧ t = .byte) ∨ (a = 2 ∧ t = .boolean) ∨ (a = 3 ∧ t = .long) := by
      rcases h2 with ((g | g) | g) | g
      · exact Or.inl g
      · exact Or.inr (Or.inl g)
      · exact Or.inr (Or.inr (Or.inl g))
      · exact Or.inr (Or.inr (Or.inr g))
    exact zs_newarray hX K hBn hBs hd h2' h
  case anewarray i => obtain ⟨rfl, h2⟩ := hk; exact zs_anewarray hX K hBn hBs hd h2 h
  case invokevirtual i =>
    obtain ⟨⟨⟨⟨⟨⟨⟨⟨rfl, h1⟩, -⟩, h2⟩, h3⟩, h4⟩, h5⟩, h6⟩, h7⟩ := hk
    exact zs_virtual hX K hBn hBs hR1 hR2 hC hd h1 h2 h3 h4 h5 h6 h7 h
  case invokestatic i =>
    obtain ⟨rfl, hk⟩ := hk
    split at h
    next => exact zs_copy hX K (by omega) (by omega) hd hk h
    next k hk8 =>
      split at hk
      next => exact absurd rfl hk8
      next =>
        simp only [Bool.and_eq_true, Bool.or_eq_true, decide_eq_true_eq] at hk
        obtain ⟨⟨⟨⟨h2, h3⟩, h4⟩, h5⟩, h6⟩ := hk
        exact zs_static hX K hBn hBs hR1 hR2 hC hd h2 h3 h4 h5 h6 h
  case invokespecial i =>
    obtain ⟨rfl, hk⟩ := hk
    split at h
    next => exact zs_objinit hX K (by omega) (by omega) hd hk h
    next k hk9 =>
      split at hk
      next => exact absurd rfl hk9
      next =>
        simp only [Bool.and_eq_true, Bool.or_eq_true, decide_eq_true_eq] at hk
        obtain ⟨⟨⟨⟨⟨h1, h2⟩, h3⟩, h4⟩, h5⟩, h6⟩ := hk
        exact zs_special hX K hBn hBs hR1 hR2 hC hd h1 h2 h3 h4 h5 h6 h
  case ireturn =>
    obtain ⟨rfl, hk⟩ := hk
    obtain ⟨x, rfl, z2, z5, z1, hq⟩ := zri_e h
    subst hX
    intro H locs lsA cells slots I
    rcases hk with ((⟨g1, g2⟩ | ⟨g1, g2⟩) | ⟨g1, g2⟩) | ⟨g1, g2⟩
    · exact hQ.1 x M pc .boolean H locs lsA cells slots ls hq I hd g2 (zbool_ok (z2 g1)).1
    · exact hQ.1 x M pc .char H locs lsA cells slots ls hq I hd g2 (z5 g1)
    · exact hQ.1 x M pc .byte H locs lsA cells slots ls hq I hd g2 (z1 g1)
    · exact hQ.1 x M pc .int H locs lsA cells slots ls hq I hd g2 rfl
  case areturn =>
    obtain ⟨rfl, hk⟩ := hk
    obtain ⟨x, rfl, hq⟩ := zra_e h
    subst hX
    intro H locs lsA cells slots I
    exact hQ.2.1 x M pc _ H locs lsA cells slots ls hq I hd hk
  case return_ =>
    obtain ⟨rfl, hk⟩ := hk
    obtain ⟨rfl, hq⟩ := zrv_e h
    subst hX
    intro H locs lsA cells slots I
    exact hQ.2.2 M pc H locs lsA cells slots ls hq I hd hk
theorem zfind_mem : ∀ {cd : List zE} {e : zE}, zfind cd pc = some e → e ∈ cd ∧ e.1 = pc
  | [], e, h => by cases h
  | x :: cd, e, h => by
    unfold zfind at h
    split at h
    next hb => cases h; exact ⟨List.mem_cons_self, Nat.eq_of_beq_eq_true hb⟩
    · obtain ⟨h1, h2⟩ := zfind_mem h
      exact ⟨List.mem_cons_of_mem _ h1, h2⟩
theorem zat_sound (hX : X = zXW D H0 sv dA mi n0 s0 p l e R s m args below meth c Qf) (K : zctx D H0 xs sv dA mi p s m args meth c) (hBn : Bn = n0 + R.cells) (hBs : Bs = s0 + R.slots) (hR1 : d + 1 ≤ R.frames) (hR2 : 40 * (d + 1) ≤ R.locals) (hC : ∀ a M as Q, a < 283 → C a M as Q → zmet l D H0 xs sv dA d a M as Q)
    (hQ : zreti D H0 sv dA mi n0 s0 p l e R s m args below meth c Qf Q) (hchk : ∀ e ∈ zcode mi, zokb mi e = true) (h : zat xs C Bn Bs (zcode mi) Q X pc ls st M) : X pc ls st M := by
  unfold zat at h
  split at h
  next p' len ins a b k v hf =>
    obtain ⟨h1, h2⟩ := zfind_mem hf
    have h2' : p' = pc := h2
    subst h2'
    exact zstep hX K hBn hBs hR1 hR2 hC hQ (hchk _ h1) h
  · exact h.elim
theorem zgo_sound (K : zctx D H0 xs sv dA mi p s m args meth c) (hBn : Bn = n0 + R.cells) (hBs : Bs = s0 + R.slots) (hR1 : d + 1 ≤ R.frames) (hR2 : 40 * (d + 1) ≤ R.locals) (hC : ∀ a M as Q, a < 283 → C a M as Q → zmet l D H0 xs sv dA d a M as Q)
    (hQ : zreti D H0 sv dA mi n0 s0 p l e R s m args below meth c Qf Q) (hchk : ∀ e ∈ zcode mi, zokb mi e = true) (h : zgo xs C Bn Bs (zcode mi) Q pc ls st M) : zXW D H0 sv dA mi n0 s0 p l e R s m args below meth c Qf pc ls st M := h _ fun _ _ _ _ g => zat_sound rfl K hBn hBs hR1 hR2 hC hQ hchk g
end SND7
end
section
/-! every method's contract -/
theorem zchk_r {n k : Nat} (h : ((List.range n).drop k).all (fun mi => (zcode mi).all (zokb mi)) = true) : ∀ a, k ≤ a → a < n → ∀ e ∈ zcode a, zokb a e = true := by
  intro a h1 h2 e he
  have hm : a ∈ (List.range n).drop k := by
    rw [List.mem_iff_getElem?]
    refine ⟨a - k, ?_⟩
    rw [List.getElem?_drop, show k + (a - k) = a by omega, List.getElem?_range h2]
  exact List.all_eq_true.mp (List.all_eq_true.mp h a hm) e he
theorem zchk_all : ∀ a, a < 283 → ∀ e ∈ zcode a, zokb a e = true := by
  intro a ha
  by_cases h0 : a < 33
  · exact zchk_r zchk_0 a (by omega) h0
  by_cases h1 : a < 62
  · exact zchk_r zchk_1 a (by omega) h1
  by_cases h2 : a < 85
  · exact zchk_r zchk_2 a (by omega) h2
  by_cases h3 : a < 111
  · exact zchk_r zchk_3 a (by omega) h3
  by_cases h4 : a < 143
  · exact zchk_r zchk_4 a (by omega) h4
  by_cases h5 : a < 167
  · exact zchk_r zchk_5 a (by omega) h5
  by_cases h6 : a < 190
  · exact zchk_r zchk_6 a (by omega) h6
  by_cases h7 : a < 209
  · exact zchk_r zchk_7 a (by omega) h7
  by_cases h8 : a < 235
  · exact zchk_r zchk_8 a (by omega) h8
  by_cases h9 : a < 257
  · exact zchk_r zchk_9 a (by omega) h9
  exact zchk_r zchk_10 a (by omega) ha
theorem zflat_cat (z : Nat) (sv : Nat → Value) (hsv : ∀ k, (sv k).category = 1) : ∀ (as : List Value) (i o : Nat) (v : Value), (zflat as)[i]? = some v → v ≠ .retAddr 0 → (o + i, zcv z sv v) ∈ lv_args o (as.map (zcv z sv))
  | [], i, o, v, h, _ => by simp [zflat] at h
  | w :: r, i, o, v, h, hne => by
    have key : ∀ (u : Value), u.category = 1 → zflat (u :: r) = u :: zflat r → w = u → (o + i, zcv z sv v) ∈ lv_args o ((w :: r).map (zcv z sv)) := by
      intro u hu hz hw
      subst hw
      rw [hz] at h
      rw [List.map_cons]
      unfold lv_args
      rw [if_neg (by rw [zcv_cat hsv, hu]; decide)]
      cases i with
      | zero => cases h; exact List.mem_cons_self
      | succ j =>
        have ih := zflat_cat z sv hsv r j (o + 1) v h hne
        rw [show o + (j + 1) = o + 1 + j by omega]
        exact List.mem_cons_of_mem _ ih
    have key2 : ∀ (u : Value), u.category = 2 → zflat (u :: r) = u :: .retAddr 0 :: zflat r → w = u → (o + i, zcv z sv v) ∈ lv_args o ((w :: r).map (zcv z sv)) := by
      intro u hu hz hw
      subst hw
      rw [hz] at h
      rw [List.map_cons]
      unfold lv_args
      rw [if_pos (by rw [zcv_cat hsv, hu])]
      match i, h with
      | 0, h => cases h; exact List.mem_cons_self
      | 1, h => cases h; exact absurd rfl hne
      | j + 2, h =>
        have ih := zflat_cat z sv hsv r j (o + 2) v h hne
        rw [show o + (j + 2) = o + 2 + j by omega]
        exact List.mem_cons_of_mem _ ih
    cases w with
    | long x => exact key2 _ rfl rfl rfl
    | double x => exact key2 _ rfl rfl rfl
    | int x => exact key _ rfl rfl rfl
    | float x => exact key _ rfl rfl rfl
    | null => exact key _ rfl rfl rfl
    | ref x => exact key _ rfl rfl rfl
    | retAddr x => exact key _ rfl rfl rfl
theorem zflat_len (z : Nat) (sv : Nat → Value) (hsv : ∀ k, (sv k).category = 1) : ∀ (as : List Value), (lg_sl (as.map (zcv z sv))).length = (zflat as).length
  | [] => rfl
  | w :: r => by
    have ih := zflat_len z sv hsv r
    have e : lg_sl ((w :: r).map (zcv z sv)) = (if (zcv z sv w).category = 2 then [Slot.val (zcv z sv w), .second] else [.val (zcv z sv w)]) ++ lg_sl (r.map (zcv z sv)) := by
      unfold lg_sl
      rw [List.map_cons, List.flatMap_cons]
    rw [e, List.length_append, ih, zcv_cat hsv]
    cases w <;> simp [Value.category, zflat] <;> omega
theorem zlocs_len {as : List Value} {n : Nat} (h : (zflat as).length ≤ n) : (zlocs as n).length = n := by
  unfold zlocs
  rw [List.length_append, List.length_replicate]
  omega
theorem zlocs_zlv {z n : Nat} {sv : Nat → Value} (hsv : ∀ k, (sv k).category = 1) {as : List Value} (h : (zflat as).length ≤ n) : zlv z sv ((lg_sl (as.map (zcv z sv)) ++ List.replicate (n - (lg_sl (as.map (zcv z sv))).length) Slot.unset).toArray) n (zlocs as n) := by
  have hl := lv_entry (as.map (zcv z sv)) (n := n) (by rw [zflat_len z sv hsv]; exact h)
  refine ⟨hl.1, hl.2.1, zlocs_len h, fun i v hv hne => ?_⟩
  unfold zlocs at hv
  by_cases hi : i < (zflat as).length
  · rw [List.getElem?_append_left hi] at hv
    have := zflat_cat z sv hsv as i 0 v hv hne
    rw [Nat.zero_add] at this
    exact hl.2.2 _ this
  · rw [List.getElem?_append_right (by omega), List.getElem?_replicate] at hv
    split at hv
    · cases hv; exact absurd rfl hne
    · cases hv
theorem zflc_flat : ∀ {as : List Value}, zflc as = true → zflc (zflat as) = true
  | [], _ => rfl
  | w :: r, h => by
    have h' : (Nat.beq w.category 1 && zflc r) = true := h
    rw [Bool.and_eq_true] at h'
    have ih := zflc_flat h'.2
    cases w with
    | long x => exact absurd h'.1 (by simp [Value.category])
    | double x => exact absurd h'.1 (by simp [Value.category])
    | int x => show (Nat.beq 1 1 && zflc (zflat r)) = true; rw [ih]; rfl
    | float x => show (Nat.beq 1 1 && zflc (zflat r)) = true; rw [ih]; rfl
    | null => show (Nat.beq 1 1 && zflc (zflat r)) = true; rw [ih]; rfl
    | ref x => show (Nat.beq 1 1 && zflc (zflat r)) = true; rw [ih]; rfl
    | retAddr x => show (Nat.beq 1 1 && zflc (zflat r)) = true; rw [ih]; rfl
theorem zlocs_flc {as : List Value} {n : Nat} (h : zflc as = true) : zflc (zlocs as n) = true := by
  refine zflc_of fun v hv => ?_
  unfold zlocs at hv
  rcases List.mem_append.mp hv with g | g
  · exact zflc_mem (zflc_flat h) v g
  · rw [(List.mem_replicate.mp g).2]; rfl
section MET
variable {l : Launch} {D : va_G} {H0 : Heap} {xs : List Int32} {sv : Nat → Value} {dA : Nat → ClassId}
theorem zret_met {p : Program} {e : Env} {s : State} {m : MethodId} {args : Array Value} {below : List Frame} {meth : Method} {c : Code} {a d : Nat} {M : zM} {Q : zQ} (K : zctx D H0 xs sv dA a p s m args meth c) : zreti D H0 sv dA a (zn M) (zsl M) p l e (zrm d a) s m args below meth c (MQ below (zQc D H0 sv dA Q) args s (zalc a).1 (zalc a).2 (fun q => H0.size ≤ q)) Q := by
  obtain ⟨hx, hb, hml, hr, -, -, hlk, -⟩ := K
  refine ⟨fun x M' pc ty H locs lsA cells slots ls hq I hd ht hn => ?_, fun x M' pc cn H locs lsA cells slots ls hq I hd ht => ?_, fun M' pc H locs lsA cells slots ls hq I hd ht => ?_⟩
  all_goals
    have c1 : cells + zn M = zn M' := I.2.2.2.2.1
    have c2 : slots + zsl M = zsl M' := I.2.2.2.2.2.1
    have c3 : zn M' ≤ zn M + (zalc a).1 := I.2.2.2.2.2.2.1
    have c4 : zsl M' ≤ zsl M + (zalc a).2 := I.2.2.2.2.2.2.2.1
    refine W.widen (k := (zalc a).1) (n := (zalc a).2) (by omega) (by omega) ?_
  · exact W.zret hx hb (hr.trans ht) hn (fun t hT _ => ⟨M', some (.int x), hq, rfl, by rw [hT]; exact I.1⟩) I.2.1 hd hlk
  · exact W.aret hx hb (hr.trans ht) (Or.inl ⟨_, rfl⟩) (Or.inr ⟨_, rfl⟩) (fun t hT _ => ⟨M', some (.ref x), hq, rfl, by rw [hT]; exact I.1⟩) I.2.1 hd hlk
  · exact W.vret hx hb (hr.trans ht) (fun t hT _ => ⟨M', none, hq, rfl, by rw [hT]; exact I.1⟩) I.2.1 hd hlk
theorem zmet_all (hsv : ∀ k, (sv k).category = 1) : ∀ d a M as Q, a < 283 → zcall xs d a M as Q → zmet l D H0 xs sv dA d a M as Q
  | 0 => fun _ _ _ _ _ h => h.elim
  | d + 1 => by
    intro a M as Q ha h
    unfold zcall at h
    split at h
    next he =>
      unfold zent at he
      rw [Bool.and_eq_true, Bool.or_eq_true] at he
      have hlen : (zflat as).length ≤ znl a := Nat.le_of_ble_eq_true he.1
      refine va_MetF (cc := zbs a) (maxL := znl a) (ret := zrt a) (ws' := zgw) (zplain ha).1 rfl ?_
      intro p e s m args below meth c s₁ B hml hv
      obtain ⟨hargs, hrep, henv⟩ := hv
      subst hargs
      have hts := atoms_spec (ws := zws a) B.pre
      have K : zctx D H0 xs sv dA a p s m (as.map (zcv H0.size sv)).toArray meth c := by
        refine ⟨B.exec, B.bytes, hml, B.returns, ?_, fun w hw => hts w (List.mem_cons_of_mem _ hw), B.notSynchronized, fun q => ((name_of_methodNamed B.named B.method).1).trans q, henv, by rw [hrep.1]; exact Nat.le_add_right _ _, hrep.2.1, hsv⟩
        rw [← (zplain ha).2.1]
        exact findClass_of_methodNamed B.named
      have hgo := zgo_sound (l := l) (e := e) (below := below) (R := zrm (d + 1) a) (n0 := zn M) (s0 := zsl M) K rfl rfl (Nat.le_refl _) (Nat.le_refl _) (fun a M as Q ha h => zmet_all hsv d a M as Q ha h) (zret_met (d := d + 1) (M := M) (Q := Q) K) (zchk_all a ha) h
      rw [lg_entry_eq]
      refine hgo s.heap [] _ 0 0 ⟨hrep, fun x hx => (by cases hx), zlocs_zlv hsv hlen, fun hg => ?_, Nat.zero_add _, Nat.zero_add _, Nat.le_add_right _ _, Nat.le_add_right _ _, Nat.le_refl _⟩
      refine zlocs_flc ?_
      rcases he.2 with g | g
      · rw [hg] at g; cases g
      · exact g
    · exact h.elim
end MET
end
section
/-! THE CLAIM OUT OF ONE WALK OF THE LAW'S BODY. Your part is whole_start (and what it stands on); all else here is the same for every law, but numbers. -/
def R_law : String := "BowHouseLaw"
def lw_P (b : Addr) (xs : List Int32) (args : Array Value) (s : State) : Prop := args = #[.ref b] ∧ s.IntsAt b xs ∧ xs.length ≤ 3072 ∧ (Jvm.Cond.and given_1 narrow_1).before args s = true
def lw_Q (_ : Array Value) (s : State) (o : Outcome) (t : State) : Prop := o = .returned (some (.int 1)) ∧ Framed s o t [] 600000 7302250
def lw_Z (below : List Frame) (a : Array Value) (s : State) : State → Prop := fun t => ∃ o, t.status = .running ∧ Ended t below o ∧ lw_Q a s o t
/-- the law's own end, with 1 on the stack, nothing written that was there before, its room as the claim has it -/
theorem lw_ret {p : Program} {l : Launch} {e : Env} {s : State} {m : MethodId} {below : List Frame} {meth : Method} {c : Code} {b : Nat} (hx : p.tables.exec = Jvm.exec) (hb : c.code = code) (hr : meth.sig.returnType = ret) (hlocks : meth.locks = false) {pc : Nat} {H : Heap} {ls : Array Slot} (hdg : decode code pc = .ok (.ireturn, 1)) : W p l e room_1 s m #[Value.ref b] below meth c H [] 600000 7302250 (lw_Z below #[Value.ref b] s) (F0 m pc ls [.int 1]) := by
  intro T hT X
  obtain ⟨fs, hret, hrun, hended, hW, hframe⟩ := X.leave (v := some (.int 1)) (hlocks := hlocks) (fun h => by rw [hr] at h; cases h)
  have hmeth' : T.vm.method? m = some meth := X.method'
  refine ⟨T.setFrames fs, ?_, .returned (some (.int 1)), hrun, hended, rfl, ⟨_, rfl⟩, hW, hframe⟩
  jvm_step X.here [X.here.top, hx, hb, hdg, hmeth', hr, ret, narrow_b1]
  (try refine ⟨rfl, ?_⟩); (try refine ⟨rfl, ?_⟩)
  first | (intro acts; rw [hret _ acts rfl rfl rfl]) | rw [hret _ _ rfl rfl rfl]
  exact Steps.refl _
/-- what holds at the law's entry: the machine, the code, the tables' words (any of lw_tbl by 'hts w (by decide +kernel)'), the script of L ints xs at the cell b, what the Statement gives of the start (any of its parts by flat_of_before) -/
def lw_At (p : Program) (s : State) (m : MethodId) (meth : Method) (c : Code) (b L : Nat) (xs : Nat → Int32) : Prop :=
  p.tables.exec = Jvm.exec ∧ c.code = code ∧ meth.sig.returnType = ret ∧ c.maxLocals = 4 ∧ s.vm.findClass R_law = some m.cls ∧ (∀ w ∈ lw_tbl, w.before #[Value.ref b] s = true) ∧ va_X b L xs s s.heap ∧ b < s.heap.size ∧ meth.locks = false ∧ (Jvm.Cond.and given_1 narrow_1).before #[Value.ref b] s = true
/-! the law's entry: what the tables and the start say, for the abstract machine -/
def zfc : List Jvm.Cond := flatC (Jvm.Cond.and given_1 narrow_1)
def zstr (i : Nat) : Term := match i with
  | 0 => .string RX5 29
  | _ => .string RX5 171
def zsl2 : List Nat := [144, 11]
def zsb2 : List (List Int32) := [zwords, zsigns]
set_option maxRecDepth 100000 in
theorem zfc_1 : zfc[4]? = some (.eq (.static RJ0 "COMPACT_STRINGS" "Z") (.int 1)) ∧ zfc[5]? = some (.isRef (.static RJ3 "SIOOBE_FORMATTER" "Ljava/util/function/BiFunction;")) ∧ zfc[10]? = some (.arrayOf (.static RX7 "FACTORIALS" "[I") .int) ∧ zfc[11]? = some (.eq (.length (.static RX7 "FACTORIALS" "[I")) (.int (Int32.ofNat 8))) ∧ (∀ j, j < 8 → zfc[12 + j]? = some (.eq (.elem (.static RX7 "FACTORIALS" "[I") (.int (Int32.ofNat j))) (.int (zfacts.getD j 0)))) := by decide +kernel
set_option maxRecDepth 100000 in
theorem zfc_2 : (∀ i, i < 2 → zfc[20 + 148 * i]? = some (.exactly (zstr i) "java/lang/String") ∧ zfc[21 + 148 * i]? = some (.eq (.field (zstr i) "java/lang/String" "coder" "B") (.int 0)) ∧ zfc[22 + 148 * i]? = some (.arrayOf (.field (zstr i) "java/lang/String" "value" "[B") .byte) ∧ zfc[23 + 148 * i]? = some (.eq (.length (.field (zstr i) "java/lang/String" "value" "[B")) (.int (Int32.ofNat (zsl2.getD i 0))))) ∧ zfc[183]? = some (.not (.eq (zstr 0) (zstr 1))) := by decide +kernel
set_option maxRecDepth 100000 in
theorem zfc_3 : ∀ i, i < 2 → ∀ j, j < zsl2.getD i 0 → zfc[24 + 148 * i + j]? = some (.eq (.elem (.field (zstr i) "java/lang/String" "value" "[B") (.int (Int32.ofNat j))) (.int ((zsb2.getD i []).getD j 0))) := by decide +kernel
set_option maxRecDepth 100000 in
theorem zfc_4 : lw_tbl[131]? = some (.stringRef RX5 29 ztx3) ∧ lw_tbl[528]? = some (.stringRef RX5 171 ztx4) ∧ lw_tbl[141]? = some (.laysStatic RJ0 "COMPACT_STRINGS" "Z") ∧ lw_tbl[149]? = some (.laysStatic RJ3 "SIOOBE_FORMATTER" "Ljava/util/function/BiFunction;") ∧ lw_tbl[895]? = some (.laysStatic RX7 "FACTORIALS" "[I") ∧ lw_tbl[894]? = some (.fieldLinkNest RX4 89 RX7 "FACTORIALS" "[I" RX7) ∧ lw_tbl[366]? = some (.arrayOver (.object RX6)) := by decide +kernel
theorem zfc_in {s : State} {b k : Nat} {q : Jvm.Cond} (h : (Jvm.Cond.and given_1 narrow_1).before #[Value.ref b] s = true) (hk : zfc[k]? = some q) : q.before #[Value.ref b] s = true := flat_of_before _ h q (List.mem_of_getElem? hk)
set_option maxHeartbeats 4000000 in
theorem zenv_start {p : Program} {s : State} {m : MethodId} {meth : Method} {c : Code} {b L : Nat} {xs : Nat → Int32} (C0 : lw_At p s m meth c b L xs) (hL : L ≤ 3072) : ∃ (D : va_G) (sv : Nat → Value) (dA : Nat → ClassId), (∀ k, (sv k).category = 1) ∧ sv 1 = .ref b ∧ zenv D s.heap ((List.range L).map xs) sv dA s := by
  obtain ⟨hx, hb, hr, hml, hown, hts, hX, hbl, hlocks, hgv⟩ := C0
  have hg : ∀ w ∈ zgw, w.before #[Value.ref b] s = true := fun w hw => hts w (List.mem_filter.mp hw).1
  have hA : ∀ a : Nat, a < s.heap.size → ¬ (fun q => s.heap.size ≤ q) a := fun a h z => absurd z (Nat.not_le.mpr h)
  -- the classes
  have hkn : ∀ k, ∃ q : ClassId × (Nat → Nat), k < 9 → u_Kn s (zcls k).1 (zcls k).2.1 (zcls k).2.2 q.1 q.2 := by
    intro k
    by_cases hk : k < 9
    · have hw := List.all_eq_true.mp zcw_b k (List.mem_range.mpr hk)
      simp only [Bool.and_eq_true] at hw
      obtain ⟨cC, iS, h⟩ := u_known (C := (zcls k).1) (T := (zcls k).2.1) (N := (zcls k).2.2) hg (zlay_in k hk) (hg _ (zwd_in hw.1))
      exact ⟨(cC, iS), fun _ => h⟩
    · exact ⟨(0, fun _ => 0), fun h => absurd h hk⟩
  obtain ⟨f, hf⟩ := Classical.axiomOfChoice hkn
  -- the arrays
  have hw := zac_b
  simp only [Bool.and_eq_true] at hw
  obtain ⟨⟨⟨w0, w1⟩, w2⟩, w3⟩ := hw
  obtain ⟨c0, k0, m0, a1, a2, a3⟩ := Cond.arrayClass_spec (hg _ (zwd_in w0))
  obtain ⟨c1, k1, m1, b1, b2, b3⟩ := Cond.arrayClass_spec (hg _ (zwd_in w1))
  obtain ⟨c2, k2, m2, d1, d2, d3⟩ := Cond.arrayClass_spec (hg _ (zwd_in w2))
  obtain ⟨c3, k3, m3, e1, e2, e3⟩ := Cond.arrayClass_spec (hg _ (zwd_in (of_decide_eq_true w3)))
  obtain ⟨z1, z2, z3, z4, z5, z6, z7⟩ := zfc_4
  have hAO : va_AO RX6 s := va_AO.of (hts _ (List.mem_of_getElem? z7))
  obtain ⟨comp, c4, k4, g1, g2, g3, g4, g5⟩ := Cond.arrayOver_spec hAO
  -- the cells that are only read
  obtain ⟨y1, y2, y3, y4, y5⟩ := zfc_1
  obtain ⟨x1, x2⟩ := zfc_2
  have hini : ∀ k, k < 16 → (Cond.initialized (zcn.getD k "")).before #[Value.ref b] s = true := fun k hk => hg _ (zwd_in (List.all_eq_true.mp ziw_b k (List.mem_range.mpr hk)))
  obtain ⟨ft, hft, hFT⟩ := va_Tof (N := 8) (f := fun j => .int (zfacts.getD j 0)) (A := fun q => s.heap.size ≤ q) (by decide) (zfc_in hgv y3) (va_eqt (zfc_in hgv y4)) (fun j hj => va_eqt (zfc_in hgv (y5 j hj))) hA
  obtain ⟨adK, adV, hSt, hev⟩ := vk_Sof (args := #[Value.ref b]) (s := s) (N := 2) (tm := zstr) (len := zsl2) (byt := zsb2) (A := fun q => s.heap.size ≤ q) (fun i hi => by
    match i, hi with
    | 0, _ => decide
    | 1, _ => decide
    | i + 2, h => omega) (fun i hi => zfc_in hgv (x1 i hi).1) (fun i hi => zfc_in hgv (x1 i hi).2.1) (fun i hi => zfc_in hgv (x1 i hi).2.2.1) (fun i hi => zfc_in hgv (x1 i hi).2.2.2) (fun i hi j hj => zfc_in hgv (zfc_3 i hi j hj)) (fun i j hi hj hne => by
    match i, j, hi, hj with
    | 0, 0, _, _ => exact absurd rfl hne
    | 0, 1, _, _ => exact Or.inl (zfc_in hgv x2)
    | 1, 0, _, _ => exact Or.inr (zfc_in hgv x2)
    | 1, 1, _, _ => exact absurd rfl hne
    | i + 2, _, h, _ => omega
    | _, j + 2, _, h => omega) hA
  obtain ⟨sf, hsf, hZf⟩ : ∃ sf : Value, sf.category = 1 ∧ va_Z RJ3 "SIOOBE_FORMATTER" "Ljava/util/function/BiFunction;" sf (fun q => s.heap.size ≤ q) s s.heap := by
    rcases va_Zqof (A := fun q => s.heap.size ≤ q) (hts _ (List.mem_of_getElem? z4)) (hini 15 (by decide)) (zfc_in hgv y2) hA with h | ⟨t, h⟩
    · exact ⟨_, rfl, h⟩
    · exact ⟨_, rfl, h⟩
  have hlen : ((List.range L).map xs).length = L := by rw [List.length_map, List.length_range]
  refine ⟨(fun k => (f k).1, fun k => (f k).2), fun k => match k with
    | 1 => .ref b
    | 2 => .ref ft
    | 3 => .ref (adK 0)
    | 4 => .ref (adK 1)
    | 5 => .ref (adV 0)
    | 6 => .ref (adV 1)
    | 7 => sf
    | _ => .null, fun t => match t with
    | 0 => c0
    | 1 => c1
    | 2 => c2
    | 3 => c3
    | _ => c4, fun k => ?_, rfl, ?_⟩
  · dsimp only
    split <;> first | rfl | exact hsf
  · refine ⟨⟨fun k q hq => ?_, fun k q hq => ?_⟩, fun o i a k hq hk => ?_, va_Nw.of rfl (hts _ (List.mem_of_getElem? z6)), hAO, ⟨_, rfl, vk_R.of (hts _ (List.mem_of_getElem? z1)) (hev 0 (by decide))⟩, ⟨_, rfl, vk_R.of (hts _ (List.mem_of_getElem? z2)) (hev 1 (by decide))⟩, va_Zof (hts _ (List.mem_of_getElem? z3)) (hini 13 (by decide)) (va_eqi (zfc_in hgv y1)) hA, hZf, va_Zof (hts _ (List.mem_of_getElem? z5)) (hini 7 (by decide)) hft hA, fun k t l hk => ?_, fun k hk => ?_⟩
    · have hk : k < 9 := (List.getElem?_eq_some_iff.mp hq).1
      have e := Option.some.inj ((zcls_get hk).symm.trans hq)
      rw [← e]
      exact hf k hk
    · match k, hq with
      | 0, hq => cases hq; exact ⟨fun n z => ⟨fun _ h => (by cases h), k0, a2, m0, a3⟩, a1⟩
      | 1, hq => cases hq; exact ⟨fun n z => ⟨fun _ h => (by cases h), k1, b2, m1, b3⟩, b1⟩
      | 2, hq => cases hq; exact ⟨fun n z => ⟨fun _ h => (by cases h), k2, d2, m2, d3⟩, d1⟩
      | 3, hq => cases hq; exact ⟨fun n z => ⟨fun _ h => (by cases h), k3, e2, m3, e3⟩, e1⟩
      | 4, hq => cases hq; exact ⟨fun n z => ⟨fun _ h => (by cases h), k4, g3, comp, g4⟩, k4, comp, g3, g4, g1, g5⟩
      | k + 5, hq => cases hq
    · have hw := hts _ ((zmq_in hq).1 hk)
      rw [znest_form hk] at hw ⊢
      exact va_Nw.of rfl hw
    · match k, hk with
      | 1, hk =>
        cases hk
        obtain ⟨scr, h1, h2, h3, h4, h5⟩ := hX
        refine ⟨b, rfl, scr, h1, h2, h3, Nat.le_of_eq (by rw [hlen, h4]), by rw [hlen, h4]; try rfl, fun j hj => ?_, hA b hbl⟩
        rw [hlen] at hj
        show _ = some (Value.int (List.getD _ _ _))
        rw [h5 j hj, List.getD_eq_getElem?_getD, List.getElem?_map, List.getElem?_range hj]
        rfl
      | 2, hk => cases hk; exact ⟨ft, rfl, hFT⟩
      | 5, hk => cases hk; exact ⟨_, rfl, (hSt.1 0 (by decide)).2.2.2⟩
      | 6, hk => cases hk; exact ⟨_, rfl, (hSt.1 1 (by decide)).2.2.2⟩
      | 0, hk => cases hk
      | 3, hk => cases hk
      | 4, hk => cases hk
      | k + 7, hk => cases hk
    · rcases hk with rfl | rfl
      · obtain ⟨h1, h2, h3, -⟩ := hSt.1 0 (by decide)
        exact ⟨_, rfl, h1, h3, h2⟩
      · obtain ⟨h1, h2, h3, -⟩ := hSt.1 1 (by decide)
        exact ⟨_, rfl, h1, h3, h2⟩
end
section
/-! the law's run in the abstract machine gives its walk -/
def zM0 : zM := ((0, 0, (fun _ => .inr (9, 0)), (fun _ _ => none)), (fun _ _ => 0), (fun _ _ => 0))
def zlaw (xs : List Int32) : Prop := zgo xs (zcall xs 100) 600000 7302250 kL_law (fun _ r => r = some (.int 1)) 0 [.retAddr 1, .retAddr 0, .retAddr 0, .retAddr 0] [] zM0
theorem zall_split {α : Type} {p : α → Bool} (k : Nat) : ∀ (n : Nat) (l : List α), l.length ≤ n * k → (∀ i, i < n → ((l.drop (i * k)).take k).all p = true) → l.all p = true
  | 0, l, hl, _ => by
    have : l = [] := List.eq_nil_of_length_eq_zero (by omega)
    rw [this]; rfl
  | n + 1, l, hl, h => by
    rw [← List.take_append_drop k l, List.all_append, Bool.and_eq_true]
    refine ⟨by simpa using h 0 (Nat.succ_pos n), zall_split k n (l.drop k) (by rw [List.length_drop, Nat.succ_mul] at *; omega) fun i hi => ?_⟩
    have := h (i + 1) (by omega)
    rw [List.drop_drop, Nat.add_comm k, ← Nat.succ_mul]
    exact this
theorem zchk_law : ∀ e ∈ zcode 283, zokb 283 e = true := by
  have hl : (zcode 283).length ≤ 30 * 40 := by decide +kernel
  have h := zall_split (p := zokb 283) 40 30 (zcode 283) hl (fun i hi => by
    match i, hi with
    | 0, _ => exact zchk_law_0
    | 1, _ => exact zchk_law_1
    | 2, _ => exact zchk_law_2
    | 3, _ => exact zchk_law_3
    | 4, _ => exact zchk_law_4
    | 5, _ => exact zchk_law_5
    | 6, _ => exact zchk_law_6
    | 7, _ => exact zchk_law_7
    | 8, _ => exact zchk_law_8
    | 9, _ => exact zchk_law_9
    | 10, _ => exact zchk_law_10
    | 11, _ => exact zchk_law_11
    | 12, _ => exact zchk_law_12
    | 13, _ => exact zchk_law_13
    | 14, _ => exact zchk_law_14
    | 15, _ => exact zchk_law_15
    | 16, _ => exact zchk_law_16
    | 17, _ => exact zchk_law_17
    | 18, _ => exact zchk_law_18
    | 19, _ => exact zchk_law_19
    | 20, _ => exact zchk_law_20
    | 21, _ => exact zchk_law_21
    | 22, _ => exact zchk_law_22
    | 23, _ => exact zchk_law_23
    | 24, _ => exact zchk_law_24
    | 25, _ => exact zchk_law_25
    | 26, _ => exact zchk_law_26
    | 27, _ => exact zchk_law_27
    | 28, _ => exact zchk_law_28
    | 29, _ => exact zchk_law_29
    | i + 30, h => omega)
  exact fun e he => List.all_eq_true.mp h e he
set_option maxHeartbeats 4000000 in
theorem law_start {p : Program} {e : Env} {s : State} {m : MethodId} {below : List Frame} {meth : Method} {c : Code} (l : Launch) {b L : Nat} {xs : Nat → Int32} (hL : L ≤ 3072) (C0 : lw_At p s m meth c b L xs) (hz : zlaw ((List.range L).map xs)) : W p l e room_1 s m #[Value.ref b] below meth c s.heap [] 0 0 (lw_Z below #[Value.ref b] s) (entryFrame m ([Value.ref b] : List Value).toArray 4) := by
  obtain ⟨D, sv, dA, hsv, hs1, hE⟩ := zenv_start C0 hL
  obtain ⟨hx, hb, hr, hml, hown, hts, hX, hbl, hlocks, hgv⟩ := C0
  have K : zctx D s.heap ((List.range L).map xs) sv dA 283 p s m #[Value.ref b] meth c := ⟨hx, hb, hml, hr, hown, fun w hw => hts w (List.mem_filter.mp hw).1, hlocks, fun q => absurd q (by decide +kernel), hE, Nat.le_refl _, fun _ _ => rfl, hsv⟩
  have hQ : zreti D s.heap sv dA 283 0 0 p l e room_1 s m #[Value.ref b] below meth c (lw_Z below #[Value.ref b] s) (fun _ r => r = some (.int 1)) := by
    refine ⟨fun x M' pc ty H locs lsA cells slots ls hq I hd ht hn => ?_, fun x M' pc cn H locs lsA cells slots ls hq I hd ht => (by cases hq), fun M' pc H locs lsA cells slots ls hq I hd ht => (by cases hq)⟩
    have hx1 : x = 1 := Value.int.inj (Option.some.inj hq)
    subst hx1
    have c1 : cells + 0 = zn M' := I.2.2.2.2.1
    have c2 : slots + 0 = zsl M' := I.2.2.2.2.2.1
    have c3 : zn M' ≤ 0 + 600000 := I.2.2.2.2.2.2.1
    have c4 : zsl M' ≤ 0 + 7302250 := I.2.2.2.2.2.2.2.1
    refine va_forget (fun q hq => I.2.1 q hq) ?_
    refine W.widen (k := 600000) (n := 7302250) (by omega) (by omega) ?_
    exact lw_ret hx hb hr hlocks hd
  have hgo := zgo_sound (l := l) (e := e) (below := below) (R := room_1) (n0 := 0) (s0 := 0) (mi := 283) (d := 100) K rfl rfl (Nat.le_of_ble_eq_true rfl) (Nat.le_of_ble_eq_true rfl) (fun a M as Q ha h => zmet_all hsv 100 a M as Q ha h) hQ zchk_law hz
  have he : ([Value.ref b] : List Value) = [Value.retAddr 1].map (zcv s.heap.size sv) := by
    show [Value.ref b] = [sv 1]
    rw [hs1]
  have hent : entryFrame m ([Value.ref b] : List Value).toArray 4 = F0 m 0 ((lg_sl ([Value.retAddr 1].map (zcv s.heap.size sv)) ++ List.replicate (4 - (lg_sl ([Value.retAddr 1].map (zcv s.heap.size sv))).length) Slot.unset).toArray) [] := by
    rw [he]
    exact lg_entry_eq _ _ _
  rw [hent]
  refine hgo s.heap [] _ 0 0 ⟨⟨rfl, fun _ _ => rfl, fun _ _ => rfl, fun c ci h => (by cases h), fun c h => absurd h (Nat.not_lt_zero c)⟩, fun x hx => (by cases hx), zlocs_zlv (as := [.retAddr 1]) hsv (Nat.le_of_ble_eq_true rfl), fun _ => rfl, rfl, rfl, Nat.le_of_ble_eq_true rfl, Nat.le_of_ble_eq_true rfl, Nat.le_refl _⟩
end
