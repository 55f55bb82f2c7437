section
-- ===== PART A: goes FIRST, ahead of the names: the tables' words, and 'selects' of the private methods out of them =====
/-- a private method of a class that the tables say can be made, by its rows of tables_1 -/
def lw_okq (q : MethodName × Nat) : Prop := (q.1.cls ≠ "java/lang/invoke/MethodHandle" ∧ q.1.cls ≠ "java/lang/invoke/VarHandle") ∧ Cond.instantiable q.1.cls q.2 ∈ tables_1 ∧ Cond.privateMethod q.1 ∈ tables_1 ∧ Cond.instanceMethod q.1 ∈ tables_1
theorem lw_p0 : lw_okq (⟨"SlewRails", "found", "(I)I"⟩, 10) := ⟨⟨by decide +kernel, by decide +kernel⟩, List.mem_of_getElem? (i := 14) (by decide +kernel), List.mem_of_getElem? (i := 204) (by decide +kernel), List.mem_of_getElem? (i := 205) (by decide +kernel)⟩
theorem lw_p1 : lw_okq (⟨"SlewRails", "fine", "(I)I"⟩, 10) := ⟨⟨by decide +kernel, by decide +kernel⟩, List.mem_of_getElem? (i := 14) (by decide +kernel), List.mem_of_getElem? (i := 216) (by decide +kernel), List.mem_of_getElem? (i := 217) (by decide +kernel)⟩
theorem lw_p2 : lw_okq (⟨"SlewRails$Tape", "faultAt", "(IILSlewRails$Rail;)I"⟩, 4) := ⟨⟨by decide +kernel, by decide +kernel⟩, List.mem_of_getElem? (i := 24) (by decide +kernel), List.mem_of_getElem? (i := 276) (by decide +kernel), List.mem_of_getElem? (i := 277) (by decide +kernel)⟩
theorem lw_p3 : lw_okq (⟨"SlewRails$Tape", "faultOfNumber", "(II)I"⟩, 4) := ⟨⟨by decide +kernel, by decide +kernel⟩, List.mem_of_getElem? (i := 24) (by decide +kernel), List.mem_of_getElem? (i := 283) (by decide +kernel), List.mem_of_getElem? (i := 284) (by decide +kernel)⟩
theorem lw_p4 : lw_okq (⟨"SlewRails$Tape", "figuresAt", "(I)I"⟩, 4) := ⟨⟨by decide +kernel, by decide +kernel⟩, List.mem_of_getElem? (i := 24) (by decide +kernel), List.mem_of_getElem? (i := 287) (by decide +kernel), List.mem_of_getElem? (i := 288) (by decide +kernel)⟩
theorem lw_p5 : lw_okq (⟨"SlewRails$Tape", "numberAt", "(I)I"⟩, 4) := ⟨⟨by decide +kernel, by decide +kernel⟩, List.mem_of_getElem? (i := 24) (by decide +kernel), List.mem_of_getElem? (i := 291) (by decide +kernel), List.mem_of_getElem? (i := 292) (by decide +kernel)⟩
theorem lw_p6 : lw_okq (⟨"SlewRails$Tape", "fail", "(II)Z"⟩, 4) := ⟨⟨by decide +kernel, by decide +kernel⟩, List.mem_of_getElem? (i := 24) (by decide +kernel), List.mem_of_getElem? (i := 298) (by decide +kernel), List.mem_of_getElem? (i := 299) (by decide +kernel)⟩
theorem lw_p7 : lw_okq (⟨"SlewRails", "isPeg", "(I)Z"⟩, 10) := ⟨⟨by decide +kernel, by decide +kernel⟩, List.mem_of_getElem? (i := 14) (by decide +kernel), List.mem_of_getElem? (i := 331) (by decide +kernel), List.mem_of_getElem? (i := 332) (by decide +kernel)⟩
theorem lw_p8 : lw_okq (⟨"SlewRails", "laySlew", "(II)V"⟩, 10) := ⟨⟨by decide +kernel, by decide +kernel⟩, List.mem_of_getElem? (i := 14) (by decide +kernel), List.mem_of_getElem? (i := 344) (by decide +kernel), List.mem_of_getElem? (i := 345) (by decide +kernel)⟩
theorem lw_p9 : lw_okq (⟨"SlewRails$Search", "fillTable", "()V"⟩, 7) := ⟨⟨by decide +kernel, by decide +kernel⟩, List.mem_of_getElem? (i := 475) (by decide +kernel), List.mem_of_getElem? (i := 518) (by decide +kernel), List.mem_of_getElem? (i := 519) (by decide +kernel)⟩
theorem lw_p10 : lw_okq (⟨"SlewRails$Search", "fillChoices", "(IIII)V"⟩, 7) := ⟨⟨by decide +kernel, by decide +kernel⟩, List.mem_of_getElem? (i := 475) (by decide +kernel), List.mem_of_getElem? (i := 523) (by decide +kernel), List.mem_of_getElem? (i := 524) (by decide +kernel)⟩
theorem lw_p11 : lw_okq (⟨"SlewRails$Search", "leastFrom", "(IIII)I"⟩, 7) := ⟨⟨by decide +kernel, by decide +kernel⟩, List.mem_of_getElem? (i := 475) (by decide +kernel), List.mem_of_getElem? (i := 530) (by decide +kernel), List.mem_of_getElem? (i := 531) (by decide +kernel)⟩
theorem lw_p12 : lw_okq (⟨"SlewRails$Search", "leanOf", "(IIII)I"⟩, 7) := ⟨⟨by decide +kernel, by decide +kernel⟩, List.mem_of_getElem? (i := 475) (by decide +kernel), List.mem_of_getElem? (i := 535) (by decide +kernel), List.mem_of_getElem? (i := 536) (by decide +kernel)⟩
theorem lw_p13 : lw_okq (⟨"SlewRails$Search", "costOf", "(III)I"⟩, 7) := ⟨⟨by decide +kernel, by decide +kernel⟩, List.mem_of_getElem? (i := 475) (by decide +kernel), List.mem_of_getElem? (i := 541) (by decide +kernel), List.mem_of_getElem? (i := 542) (by decide +kernel)⟩
theorem lw_p14 : lw_okq (⟨"SlewRails$Search", "leastOfAll", "()I"⟩, 7) := ⟨⟨by decide +kernel, by decide +kernel⟩, List.mem_of_getElem? (i := 475) (by decide +kernel), List.mem_of_getElem? (i := 545) (by decide +kernel), List.mem_of_getElem? (i := 546) (by decide +kernel)⟩
theorem lw_p15 : lw_okq (⟨"SlewRails$Search", "costOfFirst", "(II)I"⟩, 7) := ⟨⟨by decide +kernel, by decide +kernel⟩, List.mem_of_getElem? (i := 475) (by decide +kernel), List.mem_of_getElem? (i := 549) (by decide +kernel), List.mem_of_getElem? (i := 550) (by decide +kernel)⟩
def lw_privs_1 : List (MethodName × Nat) := [(⟨"SlewRails", "found", "(I)I"⟩, 10), (⟨"SlewRails", "fine", "(I)I"⟩, 10), (⟨"SlewRails$Tape", "faultAt", "(IILSlewRails$Rail;)I"⟩, 4), (⟨"SlewRails$Tape", "faultOfNumber", "(II)I"⟩, 4), (⟨"SlewRails$Tape", "figuresAt", "(I)I"⟩, 4), (⟨"SlewRails$Tape", "numberAt", "(I)I"⟩, 4), (⟨"SlewRails$Tape", "fail", "(II)Z"⟩, 4), (⟨"SlewRails", "isPeg", "(I)Z"⟩, 10), (⟨"SlewRails", "laySlew", "(II)V"⟩, 10), (⟨"SlewRails$Search", "fillTable", "()V"⟩, 7), (⟨"SlewRails$Search", "fillChoices", "(IIII)V"⟩, 7), (⟨"SlewRails$Search", "leastFrom", "(IIII)I"⟩, 7), (⟨"SlewRails$Search", "leanOf", "(IIII)I"⟩, 7), (⟨"SlewRails$Search", "costOf", "(III)I"⟩, 7), (⟨"SlewRails$Search", "leastOfAll", "()I"⟩, 7), (⟨"SlewRails$Search", "costOfFirst", "(II)I"⟩, 7)]
theorem lw_r1 : ∀ q ∈ lw_privs_1, lw_okq q := List.forall_mem_cons.mpr ⟨lw_p0, List.forall_mem_cons.mpr ⟨lw_p1, List.forall_mem_cons.mpr ⟨lw_p2, List.forall_mem_cons.mpr ⟨lw_p3, List.forall_mem_cons.mpr ⟨lw_p4, List.forall_mem_cons.mpr ⟨lw_p5, List.forall_mem_cons.mpr ⟨lw_p6, List.forall_mem_cons.mpr ⟨lw_p7, List.forall_mem_cons.mpr ⟨lw_p8, List.forall_mem_cons.mpr ⟨lw_p9, List.forall_mem_cons.mpr ⟨lw_p10, List.forall_mem_cons.mpr ⟨lw_p11, List.forall_mem_cons.mpr ⟨lw_p12, List.forall_mem_cons.mpr ⟨lw_p13, List.forall_mem_cons.mpr ⟨lw_p14, List.forall_mem_cons.mpr ⟨lw_p15, fun _ h => absurd h List.not_mem_nil⟩⟩⟩⟩⟩⟩⟩⟩⟩⟩⟩⟩⟩⟩⟩⟩
theorem lw_p16 : lw_okq (⟨"SlewRails$Search", "pickSlews", "(I)V"⟩, 7) := ⟨⟨by decide +kernel, by decide +kernel⟩, List.mem_of_getElem? (i := 475) (by decide +kernel), List.mem_of_getElem? (i := 554) (by decide +kernel), List.mem_of_getElem? (i := 555) (by decide +kernel)⟩
theorem lw_p17 : lw_okq (⟨"SlewRails$Search", "pickFirst", "(I)V"⟩, 7) := ⟨⟨by decide +kernel, by decide +kernel⟩, List.mem_of_getElem? (i := 475) (by decide +kernel), List.mem_of_getElem? (i := 558) (by decide +kernel), List.mem_of_getElem? (i := 559) (by decide +kernel)⟩
theorem lw_p18 : lw_okq (⟨"SlewRails$Search", "pickNext", "(IIII)I"⟩, 7) := ⟨⟨by decide +kernel, by decide +kernel⟩, List.mem_of_getElem? (i := 475) (by decide +kernel), List.mem_of_getElem? (i := 562) (by decide +kernel), List.mem_of_getElem? (i := 563) (by decide +kernel)⟩
theorem lw_p19 : lw_okq (⟨"SlewRails", "slewsThatFit", "(ILSlewRails$Row;I)I"⟩, 10) := ⟨⟨by decide +kernel, by decide +kernel⟩, List.mem_of_getElem? (i := 14) (by decide +kernel), List.mem_of_getElem? (i := 588) (by decide +kernel), List.mem_of_getElem? (i := 589) (by decide +kernel)⟩
theorem lw_p20 : lw_okq (⟨"SlewRails", "versinesThatFit", "(ILSlewRails$Row;I)I"⟩, 10) := ⟨⟨by decide +kernel, by decide +kernel⟩, List.mem_of_getElem? (i := 14) (by decide +kernel), List.mem_of_getElem? (i := 597) (by decide +kernel), List.mem_of_getElem? (i := 598) (by decide +kernel)⟩
theorem lw_p21 : lw_okq (⟨"SlewRails", "leastVersineThatFits", "(ILSlewRails$Row;I)I"⟩, 10) := ⟨⟨by decide +kernel, by decide +kernel⟩, List.mem_of_getElem? (i := 14) (by decide +kernel), List.mem_of_getElem? (i := 601) (by decide +kernel), List.mem_of_getElem? (i := 602) (by decide +kernel)⟩
theorem lw_p22 : lw_okq (⟨"SlewRails$Settling", "beginWays", "(LSlewRails$Rail;)V"⟩, 5) := ⟨⟨by decide +kernel, by decide +kernel⟩, List.mem_of_getElem? (i := 119) (by decide +kernel), List.mem_of_getElem? (i := 619) (by decide +kernel), List.mem_of_getElem? (i := 620) (by decide +kernel)⟩
theorem lw_p23 : lw_okq (⟨"SlewRails$Settling", "waysOf", "(LSlewRails$Rail;II)I"⟩, 5) := ⟨⟨by decide +kernel, by decide +kernel⟩, List.mem_of_getElem? (i := 119) (by decide +kernel), List.mem_of_getElem? (i := 626) (by decide +kernel), List.mem_of_getElem? (i := 627) (by decide +kernel)⟩
theorem lw_p24 : lw_okq (⟨"SlewRails$Settling", "goOn", "(LSlewRails$Rail;II)V"⟩, 5) := ⟨⟨by decide +kernel, by decide +kernel⟩, List.mem_of_getElem? (i := 119) (by decide +kernel), List.mem_of_getElem? (i := 635) (by decide +kernel), List.mem_of_getElem? (i := 636) (by decide +kernel)⟩
theorem lw_p25 : lw_okq (⟨"SlewRails$Asks", "answer", "(LSlewRails$Rail;III)I"⟩, 2) := ⟨⟨by decide +kernel, by decide +kernel⟩, List.mem_of_getElem? (i := 104) (by decide +kernel), List.mem_of_getElem? (i := 690) (by decide +kernel), List.mem_of_getElem? (i := 691) (by decide +kernel)⟩
theorem lw_p26 : lw_okq (⟨"SlewRails$Asks", "run", "(LSlewRails$Rail;III)I"⟩, 2) := ⟨⟨by decide +kernel, by decide +kernel⟩, List.mem_of_getElem? (i := 104) (by decide +kernel), List.mem_of_getElem? (i := 699) (by decide +kernel), List.mem_of_getElem? (i := 700) (by decide +kernel)⟩
theorem lw_p27 : lw_okq (⟨"SlewRails$Asks", "leave", "(I)V"⟩, 2) := ⟨⟨by decide +kernel, by decide +kernel⟩, List.mem_of_getElem? (i := 104) (by decide +kernel), List.mem_of_getElem? (i := 703) (by decide +kernel), List.mem_of_getElem? (i := 704) (by decide +kernel)⟩
theorem lw_p28 : lw_okq (⟨"SlewRails", "rowsThere", "()I"⟩, 10) := ⟨⟨by decide +kernel, by decide +kernel⟩, List.mem_of_getElem? (i := 14) (by decide +kernel), List.mem_of_getElem? (i := 716) (by decide +kernel), List.mem_of_getElem? (i := 717) (by decide +kernel)⟩
theorem lw_p29 : lw_okq (⟨"SlewRailsModel", "found", "(I)I"⟩, 26) := ⟨⟨by decide +kernel, by decide +kernel⟩, List.mem_of_getElem? (i := 728) (by decide +kernel), List.mem_of_getElem? (i := 826) (by decide +kernel), List.mem_of_getElem? (i := 827) (by decide +kernel)⟩
theorem lw_p30 : lw_okq (⟨"SlewRailsModel", "well", "(I)I"⟩, 26) := ⟨⟨by decide +kernel, by decide +kernel⟩, List.mem_of_getElem? (i := 728) (by decide +kernel), List.mem_of_getElem? (i := 831) (by decide +kernel), List.mem_of_getElem? (i := 832) (by decide +kernel)⟩
theorem lw_p31 : lw_okq (⟨"SlewRailsModel", "isMissing", "(I)Z"⟩, 26) := ⟨⟨by decide +kernel, by decide +kernel⟩, List.mem_of_getElem? (i := 728) (by decide +kernel), List.mem_of_getElem? (i := 839) (by decide +kernel), List.mem_of_getElem? (i := 840) (by decide +kernel)⟩
def lw_privs_2 : List (MethodName × Nat) := [(⟨"SlewRails$Search", "pickSlews", "(I)V"⟩, 7), (⟨"SlewRails$Search", "pickFirst", "(I)V"⟩, 7), (⟨"SlewRails$Search", "pickNext", "(IIII)I"⟩, 7), (⟨"SlewRails", "slewsThatFit", "(ILSlewRails$Row;I)I"⟩, 10), (⟨"SlewRails", "versinesThatFit", "(ILSlewRails$Row;I)I"⟩, 10), (⟨"SlewRails", "leastVersineThatFits", "(ILSlewRails$Row;I)I"⟩, 10), (⟨"SlewRails$Settling", "beginWays", "(LSlewRails$Rail;)V"⟩, 5), (⟨"SlewRails$Settling", "waysOf", "(LSlewRails$Rail;II)I"⟩, 5), (⟨"SlewRails$Settling", "goOn", "(LSlewRails$Rail;II)V"⟩, 5), (⟨"SlewRails$Asks", "answer", "(LSlewRails$Rail;III)I"⟩, 2), (⟨"SlewRails$Asks", "run", "(LSlewRails$Rail;III)I"⟩, 2), (⟨"SlewRails$Asks", "leave", "(I)V"⟩, 2), (⟨"SlewRails", "rowsThere", "()I"⟩, 10), (⟨"SlewRailsModel", "found", "(I)I"⟩, 26), (⟨"SlewRailsModel", "well", "(I)I"⟩, 26), (⟨"SlewRailsModel", "isMissing", "(I)Z"⟩, 26)]
theorem lw_r2 : ∀ q ∈ lw_privs_2, lw_okq q := List.forall_mem_cons.mpr ⟨lw_p16, List.forall_mem_cons.mpr ⟨lw_p17, List.forall_mem_cons.mpr ⟨lw_p18, List.forall_mem_cons.mpr ⟨lw_p19, List.forall_mem_cons.mpr ⟨lw_p20, List.forall_mem_cons.mpr ⟨lw_p21, List.forall_mem_cons.mpr ⟨lw_p22, List.forall_mem_cons.mpr ⟨lw_p23, List.forall_mem_cons.mpr ⟨lw_p24, List.forall_mem_cons.mpr ⟨lw_p25, List.forall_mem_cons.mpr ⟨lw_p26, List.forall_mem_cons.mpr ⟨lw_p27, List.forall_mem_cons.mpr ⟨lw_p28, List.forall_mem_cons.mpr ⟨lw_p29, List.forall_mem_cons.mpr ⟨lw_p30, List.forall_mem_cons.mpr ⟨lw_p31, fun _ h => absurd h List.not_mem_nil⟩⟩⟩⟩⟩⟩⟩⟩⟩⟩⟩⟩⟩⟩⟩⟩
theorem lw_p32 : lw_okq (⟨"SlewRailsModel", "isPart", "(III)Z"⟩, 26) := ⟨⟨by decide +kernel, by decide +kernel⟩, List.mem_of_getElem? (i := 728) (by decide +kernel), List.mem_of_getElem? (i := 850) (by decide +kernel), List.mem_of_getElem? (i := 851) (by decide +kernel)⟩
theorem lw_p33 : lw_okq (⟨"SlewRailsModel", "advances", "()V"⟩, 26) := ⟨⟨by decide +kernel, by decide +kernel⟩, List.mem_of_getElem? (i := 728) (by decide +kernel), List.mem_of_getElem? (i := 867) (by decide +kernel), List.mem_of_getElem? (i := 868) (by decide +kernel)⟩
theorem lw_p34 : lw_okq (⟨"SlewRailsModel", "byteAt", "(I)I"⟩, 26) := ⟨⟨by decide +kernel, by decide +kernel⟩, List.mem_of_getElem? (i := 728) (by decide +kernel), List.mem_of_getElem? (i := 871) (by decide +kernel), List.mem_of_getElem? (i := 872) (by decide +kernel)⟩
theorem lw_p35 : lw_okq (⟨"SlewRailsModel", "isWell", "()Z"⟩, 26) := ⟨⟨by decide +kernel, by decide +kernel⟩, List.mem_of_getElem? (i := 728) (by decide +kernel), List.mem_of_getElem? (i := 875) (by decide +kernel), List.mem_of_getElem? (i := 876) (by decide +kernel)⟩
theorem lw_p36 : lw_okq (⟨"SlewRailsModel", "readsPeg", "()V"⟩, 26) := ⟨⟨by decide +kernel, by decide +kernel⟩, List.mem_of_getElem? (i := 728) (by decide +kernel), List.mem_of_getElem? (i := 882) (by decide +kernel), List.mem_of_getElem? (i := 883) (by decide +kernel)⟩
theorem lw_p37 : lw_okq (⟨"SlewRailsModel", "takes", "(ZI)I"⟩, 26) := ⟨⟨by decide +kernel, by decide +kernel⟩, List.mem_of_getElem? (i := 728) (by decide +kernel), List.mem_of_getElem? (i := 886) (by decide +kernel), List.mem_of_getElem? (i := 887) (by decide +kernel)⟩
theorem lw_p38 : lw_okq (⟨"SlewRailsModel", "figure", "(II)I"⟩, 26) := ⟨⟨by decide +kernel, by decide +kernel⟩, List.mem_of_getElem? (i := 728) (by decide +kernel), List.mem_of_getElem? (i := 890) (by decide +kernel), List.mem_of_getElem? (i := 891) (by decide +kernel)⟩
theorem lw_p39 : lw_okq (⟨"SlewRailsModel", "must", "(ZI)V"⟩, 26) := ⟨⟨by decide +kernel, by decide +kernel⟩, List.mem_of_getElem? (i := 728) (by decide +kernel), List.mem_of_getElem? (i := 894) (by decide +kernel), List.mem_of_getElem? (i := 895) (by decide +kernel)⟩
theorem lw_p40 : lw_okq (⟨"SlewRailsModel", "isPeg", "(I)Z"⟩, 26) := ⟨⟨by decide +kernel, by decide +kernel⟩, List.mem_of_getElem? (i := 728) (by decide +kernel), List.mem_of_getElem? (i := 910) (by decide +kernel), List.mem_of_getElem? (i := 911) (by decide +kernel)⟩
theorem lw_p41 : lw_okq (⟨"SlewRailsModel", "notes", "()V"⟩, 26) := ⟨⟨by decide +kernel, by decide +kernel⟩, List.mem_of_getElem? (i := 728) (by decide +kernel), List.mem_of_getElem? (i := 921) (by decide +kernel), List.mem_of_getElem? (i := 922) (by decide +kernel)⟩
theorem lw_p42 : lw_okq (⟨"SlewRailsModel", "isRail", "()Z"⟩, 26) := ⟨⟨by decide +kernel, by decide +kernel⟩, List.mem_of_getElem? (i := 728) (by decide +kernel), List.mem_of_getElem? (i := 929) (by decide +kernel), List.mem_of_getElem? (i := 930) (by decide +kernel)⟩
theorem lw_p43 : lw_okq (⟨"SlewRailsModel", "gangs", "(I)I"⟩, 26) := ⟨⟨by decide +kernel, by decide +kernel⟩, List.mem_of_getElem? (i := 728) (by decide +kernel), List.mem_of_getElem? (i := 949) (by decide +kernel), List.mem_of_getElem? (i := 950) (by decide +kernel)⟩
theorem lw_p44 : lw_okq (⟨"SlewRailsModel", "wish", "(I)I"⟩, 26) := ⟨⟨by decide +kernel, by decide +kernel⟩, List.mem_of_getElem? (i := 728) (by decide +kernel), List.mem_of_getElem? (i := 982) (by decide +kernel), List.mem_of_getElem? (i := 983) (by decide +kernel)⟩
theorem lw_p45 : lw_okq (⟨"SlewRailsModel", "secondSum", "(I)I"⟩, 26) := ⟨⟨by decide +kernel, by decide +kernel⟩, List.mem_of_getElem? (i := 728) (by decide +kernel), List.mem_of_getElem? (i := 986) (by decide +kernel), List.mem_of_getElem? (i := 987) (by decide +kernel)⟩
theorem lw_p46 : lw_okq (⟨"SlewRailsModel", "isClosing", "()Z"⟩, 26) := ⟨⟨by decide +kernel, by decide +kernel⟩, List.mem_of_getElem? (i := 728) (by decide +kernel), List.mem_of_getElem? (i := 997) (by decide +kernel), List.mem_of_getElem? (i := 998) (by decide +kernel)⟩
theorem lw_p47 : lw_okq (⟨"SlewRailsModel", "findsBest", "()V"⟩, 26) := ⟨⟨by decide +kernel, by decide +kernel⟩, List.mem_of_getElem? (i := 728) (by decide +kernel), List.mem_of_getElem? (i := 1005) (by decide +kernel), List.mem_of_getElem? (i := 1006) (by decide +kernel)⟩
def lw_privs_3 : List (MethodName × Nat) := [(⟨"SlewRailsModel", "isPart", "(III)Z"⟩, 26), (⟨"SlewRailsModel", "advances", "()V"⟩, 26), (⟨"SlewRailsModel", "byteAt", "(I)I"⟩, 26), (⟨"SlewRailsModel", "isWell", "()Z"⟩, 26), (⟨"SlewRailsModel", "readsPeg", "()V"⟩, 26), (⟨"SlewRailsModel", "takes", "(ZI)I"⟩, 26), (⟨"SlewRailsModel", "figure", "(II)I"⟩, 26), (⟨"SlewRailsModel", "must", "(ZI)V"⟩, 26), (⟨"SlewRailsModel", "isPeg", "(I)Z"⟩, 26), (⟨"SlewRailsModel", "notes", "()V"⟩, 26), (⟨"SlewRailsModel", "isRail", "()Z"⟩, 26), (⟨"SlewRailsModel", "gangs", "(I)I"⟩, 26), (⟨"SlewRailsModel", "wish", "(I)I"⟩, 26), (⟨"SlewRailsModel", "secondSum", "(I)I"⟩, 26), (⟨"SlewRailsModel", "isClosing", "()Z"⟩, 26), (⟨"SlewRailsModel", "findsBest", "()V"⟩, 26)]
theorem lw_r3 : ∀ q ∈ lw_privs_3, lw_okq q := List.forall_mem_cons.mpr ⟨lw_p32, List.forall_mem_cons.mpr ⟨lw_p33, List.forall_mem_cons.mpr ⟨lw_p34, List.forall_mem_cons.mpr ⟨lw_p35, List.forall_mem_cons.mpr ⟨lw_p36, List.forall_mem_cons.mpr ⟨lw_p37, List.forall_mem_cons.mpr ⟨lw_p38, List.forall_mem_cons.mpr ⟨lw_p39, List.forall_mem_cons.mpr ⟨lw_p40, List.forall_mem_cons.mpr ⟨lw_p41, List.forall_mem_cons.mpr ⟨lw_p42, List.forall_mem_cons.mpr ⟨lw_p43, List.forall_mem_cons.mpr ⟨lw_p44, List.forall_mem_cons.mpr ⟨lw_p45, List.forall_mem_cons.mpr ⟨lw_p46, List.forall_mem_cons.mpr ⟨lw_p47, fun _ h => absurd h List.not_mem_nil⟩⟩⟩⟩⟩⟩⟩⟩⟩⟩⟩⟩⟩⟩⟩⟩
theorem lw_p48 : lw_okq (⟨"SlewRailsModel", "reckons", "(I)I"⟩, 26) := ⟨⟨by decide +kernel, by decide +kernel⟩, List.mem_of_getElem? (i := 728) (by decide +kernel), List.mem_of_getElem? (i := 1009) (by decide +kernel), List.mem_of_getElem? (i := 1010) (by decide +kernel)⟩
theorem lw_p49 : lw_okq (⟨"SlewRailsModel", "reachAt", "(I)I"⟩, 26) := ⟨⟨by decide +kernel, by decide +kernel⟩, List.mem_of_getElem? (i := 728) (by decide +kernel), List.mem_of_getElem? (i := 1013) (by decide +kernel), List.mem_of_getElem? (i := 1014) (by decide +kernel)⟩
theorem lw_p50 : lw_okq (⟨"SlewRailsModel", "costBy", "(IIIIII)I"⟩, 26) := ⟨⟨by decide +kernel, by decide +kernel⟩, List.mem_of_getElem? (i := 728) (by decide +kernel), List.mem_of_getElem? (i := 1017) (by decide +kernel), List.mem_of_getElem? (i := 1018) (by decide +kernel)⟩
theorem lw_p51 : lw_okq (⟨"SlewRailsModel", "stepBy", "(IIIII)I"⟩, 26) := ⟨⟨by decide +kernel, by decide +kernel⟩, List.mem_of_getElem? (i := 728) (by decide +kernel), List.mem_of_getElem? (i := 1021) (by decide +kernel), List.mem_of_getElem? (i := 1022) (by decide +kernel)⟩
theorem lw_p52 : lw_okq (⟨"SlewRailsModel", "isSeen", "(II)Z"⟩, 26) := ⟨⟨by decide +kernel, by decide +kernel⟩, List.mem_of_getElem? (i := 728) (by decide +kernel), List.mem_of_getElem? (i := 1045) (by decide +kernel), List.mem_of_getElem? (i := 1046) (by decide +kernel)⟩
theorem lw_p53 : lw_okq (⟨"SlewRailsModel", "kindIn", "(I)I"⟩, 26) := ⟨⟨by decide +kernel, by decide +kernel⟩, List.mem_of_getElem? (i := 728) (by decide +kernel), List.mem_of_getElem? (i := 1079) (by decide +kernel), List.mem_of_getElem? (i := 1080) (by decide +kernel)⟩
theorem lw_p54 : lw_okq (⟨"SlewRailsModel", "bridgeSize", "(I)I"⟩, 26) := ⟨⟨by decide +kernel, by decide +kernel⟩, List.mem_of_getElem? (i := 728) (by decide +kernel), List.mem_of_getElem? (i := 1091) (by decide +kernel), List.mem_of_getElem? (i := 1092) (by decide +kernel)⟩
theorem lw_p55 : lw_okq (⟨"SlewRailsModel", "begins", "(I)V"⟩, 26) := ⟨⟨by decide +kernel, by decide +kernel⟩, List.mem_of_getElem? (i := 728) (by decide +kernel), List.mem_of_getElem? (i := 1095) (by decide +kernel), List.mem_of_getElem? (i := 1096) (by decide +kernel)⟩
theorem lw_p56 : lw_okq (⟨"SlewRailsModel", "plainSize", "(I)I"⟩, 26) := ⟨⟨by decide +kernel, by decide +kernel⟩, List.mem_of_getElem? (i := 728) (by decide +kernel), List.mem_of_getElem? (i := 1099) (by decide +kernel), List.mem_of_getElem? (i := 1100) (by decide +kernel)⟩
theorem lw_p57 : lw_okq (⟨"SlewRailsModel", "plainMark", "(I)I"⟩, 26) := ⟨⟨by decide +kernel, by decide +kernel⟩, List.mem_of_getElem? (i := 728) (by decide +kernel), List.mem_of_getElem? (i := 1103) (by decide +kernel), List.mem_of_getElem? (i := 1104) (by decide +kernel)⟩
theorem lw_p58 : lw_okq (⟨"SlewRailsModel", "bridgeMark", "(I)I"⟩, 26) := ⟨⟨by decide +kernel, by decide +kernel⟩, List.mem_of_getElem? (i := 728) (by decide +kernel), List.mem_of_getElem? (i := 1107) (by decide +kernel), List.mem_of_getElem? (i := 1108) (by decide +kernel)⟩
def lw_privs_4 : List (MethodName × Nat) := [(⟨"SlewRailsModel", "reckons", "(I)I"⟩, 26), (⟨"SlewRailsModel", "reachAt", "(I)I"⟩, 26), (⟨"SlewRailsModel", "costBy", "(IIIIII)I"⟩, 26), (⟨"SlewRailsModel", "stepBy", "(IIIII)I"⟩, 26), (⟨"SlewRailsModel", "isSeen", "(II)Z"⟩, 26), (⟨"SlewRailsModel", "kindIn", "(I)I"⟩, 26), (⟨"SlewRailsModel", "bridgeSize", "(I)I"⟩, 26), (⟨"SlewRailsModel", "begins", "(I)V"⟩, 26), (⟨"SlewRailsModel", "plainSize", "(I)I"⟩, 26), (⟨"SlewRailsModel", "plainMark", "(I)I"⟩, 26), (⟨"SlewRailsModel", "bridgeMark", "(I)I"⟩, 26)]
theorem lw_r4 : ∀ q ∈ lw_privs_4, lw_okq q := List.forall_mem_cons.mpr ⟨lw_p48, List.forall_mem_cons.mpr ⟨lw_p49, List.forall_mem_cons.mpr ⟨lw_p50, List.forall_mem_cons.mpr ⟨lw_p51, List.forall_mem_cons.mpr ⟨lw_p52, List.forall_mem_cons.mpr ⟨lw_p53, List.forall_mem_cons.mpr ⟨lw_p54, List.forall_mem_cons.mpr ⟨lw_p55, List.forall_mem_cons.mpr ⟨lw_p56, List.forall_mem_cons.mpr ⟨lw_p57, List.forall_mem_cons.mpr ⟨lw_p58, fun _ h => absurd h List.not_mem_nil⟩⟩⟩⟩⟩⟩⟩⟩⟩⟩⟩
def lw_privs : List (MethodName × Nat) := lw_privs_1 ++ (lw_privs_2 ++ (lw_privs_3 ++ (lw_privs_4)))
def lw_tbl : List Cond := k2_sels lw_privs ++ tables_1
theorem lw_privs_ok : ∀ q ∈ lw_privs, lw_okq q := by
  show ∀ q ∈ lw_privs_1 ++ (lw_privs_2 ++ (lw_privs_3 ++ (lw_privs_4))), lw_okq q
  exact List.forall_mem_append.mpr ⟨lw_r1, List.forall_mem_append.mpr ⟨lw_r2, List.forall_mem_append.mpr ⟨lw_r3, lw_r4⟩⟩⟩
-- ===== end of PART A; then your names; then what follows =====
end
section
/-! ===== BEGIN words of one list among another's, by their places ===== -/
theorem goodIn_r {big : List Cond} (ws : List Cond) (ps : List Nat) (hp : ws = ps.filterMap (fun i => big[i]?)) (h : ws.all goodWord = true) : GoodIn big ws := by
  intro w hw
  have h1 := List.all_eq_true.mp h w hw
  rw [hp] at hw
  obtain ⟨i, -, hi⟩ := List.mem_filterMap.mp hw
  have hm : w ∈ big := by first | exact List.mem_of_getElem? hi | exact List.getElem?_mem hi
  exact ⟨hm, good_of_word h1⟩
theorem goodIn_app {big a b : List Cond} (ha : GoodIn big a) (hb : GoodIn big b) : GoodIn big (a ++ b) := fun w h => (List.mem_append.mp h).elim (ha w) (hb w)
theorem goodIn_ca {big a b : List Cond} {c : Cond} (ha : GoodIn big (c :: a)) (hb : GoodIn big b) : GoodIn big (c :: (a ++ b)) := fun w h => (List.mem_cons.mp h).elim (fun e => ha w (List.mem_cons.mpr (Or.inl e))) (fun h => (List.mem_append.mp h).elim (fun h => ha w (List.mem_cons.mpr (Or.inr h))) (hb w))
theorem goodIn_sub {big ws : List Cond} (hm : ∀ w ∈ ws, w ∈ big) (h : ws.all goodWord = true) : GoodIn big ws := fun w hw => ⟨hm w hw, good_of_word (List.all_eq_true.mp h w hw)⟩
/-! ===== END ===== -/

/-! ===== BEGIN printed: names, fields, word lists, decode rows ===== -/
def RX0 : String := "SlewRails$Asks"
def TX0 : u_T := fun k => match k with
  | 0 => ("SlewRails$Asks", "trace", "[I", true)
  | _ => ("SlewRails$Asks", "left", "I", false)
def tyX0 : Nat → FieldType := fun k => match k with
  | 0 => .array .int
  | _ => .int
abbrev wsX00 : List Cond := u_ws RX0 TX0 2
theorem nmX0 : ∀ a, a < 2 → ∀ b, b < 2 → a ≠ b → (TX0 a).2.1 ≠ (TX0 b).2.1 := by decide +kernel
theorem tyX0_ok : ∀ k, k < 2 → parseFieldDescriptor (TX0 k).2.2.1 = some (tyX0 k) := by decide +kernel
abbrev cX0_init : ByteArray := prog_2_method_1_code
def yX0_init : MethodName := ⟨RX0, "<init>", "()V"⟩
abbrev cX0_begin : ByteArray := prog_2_method_2_code
def yX0_begin : MethodName := ⟨RX0, "begin", "(LSlewRails$Rail;II)I"⟩
abbrev cX0_answer : ByteArray := prog_2_method_3_code
def yX0_answer : MethodName := ⟨RX0, "answer", "(LSlewRails$Rail;III)I"⟩
abbrev cX0_run : ByteArray := prog_2_method_4_code
def yX0_run : MethodName := ⟨RX0, "run", "(LSlewRails$Rail;III)I"⟩
abbrev cX0_leave : ByteArray := prog_2_method_5_code
def yX0_leave : MethodName := ⟨RX0, "leave", "(I)V"⟩
def RX1 : String := "SlewRails$History"
def TX1 : u_T := fun k => match k with
  | 0 => ("SlewRails$History", "before", "[LSlewRails$Rail;", true)
  | 1 => ("SlewRails$History", "held", "I", false)
  | _ => ("SlewRails$History", "next", "I", false)
def tyX1 : Nat → FieldType := fun k => match k with
  | 0 => .array (.object "SlewRails$Rail")
  | 1 => .int
  | _ => .int
abbrev wsX10 : List Cond := u_ws RX1 TX1 3
theorem nmX1 : ∀ a, a < 3 → ∀ b, b < 3 → a ≠ b → (TX1 a).2.1 ≠ (TX1 b).2.1 := by decide +kernel
theorem tyX1_ok : ∀ k, k < 3 → parseFieldDescriptor (TX1 k).2.2.1 = some (tyX1 k) := by decide +kernel
abbrev cX1_init : ByteArray := prog_3_method_1_code
def yX1_init : MethodName := ⟨RX1, "<init>", "()V"⟩
abbrev cX1_keep : ByteArray := prog_3_method_2_code
def yX1_keep : MethodName := ⟨RX1, "keep", "(LSlewRails$Rail;)V"⟩
abbrev cX1_bringBack : ByteArray := prog_3_method_3_code
def yX1_bringBack : MethodName := ⟨RX1, "bringBack", "(LSlewRails$Rail;)V"⟩
abbrev cX1_forget : ByteArray := prog_3_method_4_code
def yX1_forget : MethodName := ⟨RX1, "forget", "()V"⟩
def RX2 : String := "SlewRails$Rail"
def TX2 : u_T := fun k => match k with
  | 0 => ("SlewRails$Rail", "pegs", "I", false)
  | 1 => ("SlewRails$Rail", "worked", "I", false)
  | 2 => ("SlewRails$Rail", "kinds", "[I", true)
  | 3 => ("SlewRails$Rail", "versines", "[I", true)
  | 4 => ("SlewRails$Rail", "bounds", "[I", true)
  | _ => ("SlewRails$Rail", "slews", "[I", true)
def tyX2 : Nat → FieldType := fun k => match k with
  | 0 => .int
  | 1 => .int
  | 2 => .array .int
  | 3 => .array .int
  | 4 => .array .int
  | _ => .array .int
abbrev wsX20 : List Cond := u_ws RX2 TX2 6
theorem nmX2 : ∀ a, a < 6 → ∀ b, b < 6 → a ≠ b → (TX2 a).2.1 ≠ (TX2 b).2.1 := by decide +kernel
theorem tyX2_ok : ∀ k, k < 6 → parseFieldDescriptor (TX2 k).2.2.1 = some (tyX2 k) := by decide +kernel
abbrev cX2_init : ByteArray := prog_4_method_1_code
def yX2_init : MethodName := ⟨RX2, "<init>", "()V"⟩
abbrev cX2_isThere : ByteArray := prog_4_method_2_code
def yX2_isThere : MethodName := ⟨RX2, "isThere", "()Z"⟩
abbrev cX2_clear : ByteArray := prog_4_method_3_code
def yX2_clear : MethodName := ⟨RX2, "clear", "()V"⟩
abbrev cX2_add : ByteArray := prog_4_method_4_code
def yX2_add : MethodName := ⟨RX2, "add", "(III)V"⟩
abbrev cX2_become : ByteArray := prog_4_method_5_code
def yX2_become : MethodName := ⟨RX2, "become", "(LSlewRails$Rail;)V"⟩
abbrev cX2_isLike : ByteArray := prog_4_method_6_code
def yX2_isLike : MethodName := ⟨RX2, "isLike", "(LSlewRails$Rail;)Z"⟩
abbrev cX2_reach : ByteArray := prog_4_method_7_code
def yX2_reach : MethodName := ⟨RX2, "reach", "(I)I"⟩
abbrev cX2_slewAt : ByteArray := prog_4_method_8_code
def yX2_slewAt : MethodName := ⟨RX2, "slewAt", "(I)I"⟩
abbrev cX2_settledAt : ByteArray := prog_4_method_9_code
def yX2_settledAt : MethodName := ⟨RX2, "settledAt", "(I)I"⟩
abbrev cX2_isSoft : ByteArray := prog_4_method_10_code
def yX2_isSoft : MethodName := ⟨RX2, "isSoft", "(I)Z"⟩
abbrev cX2_now : ByteArray := prog_4_method_11_code
def yX2_now : MethodName := ⟨RX2, "now", "(I)I"⟩
abbrev cX2_isEased : ByteArray := prog_4_method_12_code
def yX2_isEased : MethodName := ⟨RX2, "isEased", "(I)Z"⟩
abbrev cX2_step : ByteArray := prog_4_method_13_code
def yX2_step : MethodName := ⟨RX2, "step", "(I)I"⟩
abbrev cX2_worst : ByteArray := prog_4_method_14_code
def yX2_worst : MethodName := ⟨RX2, "worst", "()I"⟩
abbrev cX2_uneven : ByteArray := prog_4_method_15_code
def yX2_uneven : MethodName := ⟨RX2, "uneven", "()I"⟩
abbrev cX2_allNow : ByteArray := prog_4_method_16_code
def yX2_allNow : MethodName := ⟨RX2, "allNow", "()I"⟩
abbrev cX2_allSlews : ByteArray := prog_4_method_17_code
def yX2_allSlews : MethodName := ⟨RX2, "allSlews", "()I"⟩
abbrev cX2_moved : ByteArray := prog_4_method_18_code
def yX2_moved : MethodName := ⟨RX2, "moved", "()I"⟩
abbrev cX2_slewed : ByteArray := prog_4_method_19_code
def yX2_slewed : MethodName := ⟨RX2, "slewed", "()I"⟩
abbrev cX2_dropSlews : ByteArray := prog_4_method_20_code
def yX2_dropSlews : MethodName := ⟨RX2, "dropSlews", "()V"⟩
abbrev cX2_workIn : ByteArray := prog_4_method_21_code
def yX2_workIn : MethodName := ⟨RX2, "workIn", "()V"⟩
abbrev cX2_evenestSlew : ByteArray := prog_4_method_22_code
def yX2_evenestSlew : MethodName := ⟨RX2, "evenestSlew", "(I)I"⟩
abbrev cX2_wish : ByteArray := prog_4_method_23_code
def yX2_wish : MethodName := ⟨RX2, "wish", "(I)I"⟩
abbrev cX2_secondSum : ByteArray := prog_4_method_24_code
def yX2_secondSum : MethodName := ⟨RX2, "secondSum", "(I)I"⟩
abbrev cX2_closes : ByteArray := prog_4_method_25_code
def yX2_closes : MethodName := ⟨RX2, "closes", "()Z"⟩
abbrev cX2_misread : ByteArray := prog_4_method_26_code
def yX2_misread : MethodName := ⟨RX2, "misread", "()I"⟩
abbrev cX2_passYears : ByteArray := prog_4_method_27_code
def yX2_passYears : MethodName := ⟨RX2, "passYears", "(II)I"⟩
def RX3 : String := "SlewRails$Row"
def TX3 : u_T := fun k => match k with
  | 0 => ("SlewRails$Row", "lane", "I", false)
  | 1 => ("SlewRails$Row", "size", "I", false)
  | _ => ("SlewRails$Row", "items", "[I", true)
def tyX3 : Nat → FieldType := fun k => match k with
  | 0 => .int
  | 1 => .int
  | _ => .array .int
abbrev wsX30 : List Cond := u_ws RX3 TX3 3
theorem nmX3 : ∀ a, a < 3 → ∀ b, b < 3 → a ≠ b → (TX3 a).2.1 ≠ (TX3 b).2.1 := by decide +kernel
theorem tyX3_ok : ∀ k, k < 3 → parseFieldDescriptor (TX3 k).2.2.1 = some (tyX3 k) := by decide +kernel
abbrev cX3_init : ByteArray := prog_5_method_1_code
def yX3_init : MethodName := ⟨RX3, "<init>", "()V"⟩
abbrev cX3_isMissing : ByteArray := prog_5_method_2_code
def yX3_isMissing : MethodName := ⟨RX3, "isMissing", "()Z"⟩
abbrev cX3_begin : ByteArray := prog_5_method_3_code
def yX3_begin : MethodName := ⟨RX3, "begin", "(II)V"⟩
abbrev cX3_end : ByteArray := prog_5_method_4_code
def yX3_end : MethodName := ⟨RX3, "end", "()I"⟩
abbrev cX3_holds : ByteArray := prog_5_method_5_code
def yX3_holds : MethodName := ⟨RX3, "holds", "(II)Z"⟩
abbrev cX3_put : ByteArray := prog_5_method_6_code
def yX3_put : MethodName := ⟨RX3, "put", "(II)I"⟩
abbrev cX3_tellsNow : ByteArray := prog_5_method_7_code
def yX3_tellsNow : MethodName := ⟨RX3, "tellsNow", "(LSlewRails$Rail;I)Z"⟩
def RX4 : String := "SlewRails$Search"
def TX4 : u_T := fun k => match k with
  | 0 => ("SlewRails$Search", "known", "LSlewRails$Rail;", true)
  | 1 => ("SlewRails$Search", "table", "[I", true)
  | 2 => ("SlewRails$Search", "slews", "[I", true)
  | 3 => ("SlewRails$Search", "worst", "I", false)
  | 4 => ("SlewRails$Search", "uneven", "I", false)
  | 5 => ("SlewRails$Search", "moved", "I", false)
  | _ => ("SlewRails$Search", "limit", "I", false)
def tyX4 : Nat → FieldType := fun k => match k with
  | 0 => .object "SlewRails$Rail"
  | 1 => .array .int
  | 2 => .array .int
  | 3 => .int
  | 4 => .int
  | 5 => .int
  | _ => .int
abbrev wsX40 : List Cond := u_ws RX4 TX4 7
theorem nmX4 : ∀ a, a < 7 → ∀ b, b < 7 → a ≠ b → (TX4 a).2.1 ≠ (TX4 b).2.1 := by decide +kernel
theorem tyX4_ok : ∀ k, k < 7 → parseFieldDescriptor (TX4 k).2.2.1 = some (tyX4 k) := by decide +kernel
abbrev cX4_init : ByteArray := prog_6_method_1_code
def yX4_init : MethodName := ⟨RX4, "<init>", "()V"⟩
abbrev cX4_solve : ByteArray := prog_6_method_2_code
def yX4_solve : MethodName := ⟨RX4, "solve", "(LSlewRails$Rail;)V"⟩
abbrev cX4_placeOf : ByteArray := prog_6_method_3_code
def yX4_placeOf : MethodName := ⟨RX4, "placeOf", "(IIII)I"⟩
abbrev cX4_fillTable : ByteArray := prog_6_method_4_code
def yX4_fillTable : MethodName := ⟨RX4, "fillTable", "()V"⟩
abbrev cX4_fillChoices : ByteArray := prog_6_method_5_code
def yX4_fillChoices : MethodName := ⟨RX4, "fillChoices", "(IIII)V"⟩
abbrev cX4_leastFrom : ByteArray := prog_6_method_6_code
def yX4_leastFrom : MethodName := ⟨RX4, "leastFrom", "(IIII)I"⟩
abbrev cX4_leanOf : ByteArray := prog_6_method_7_code
def yX4_leanOf : MethodName := ⟨RX4, "leanOf", "(IIII)I"⟩
abbrev cX4_costOf : ByteArray := prog_6_method_8_code
def yX4_costOf : MethodName := ⟨RX4, "costOf", "(III)I"⟩
abbrev cX4_costOfFirst : ByteArray := prog_6_method_9_code
def yX4_costOfFirst : MethodName := ⟨RX4, "costOfFirst", "(II)I"⟩
abbrev cX4_leastOfAll : ByteArray := prog_6_method_10_code
def yX4_leastOfAll : MethodName := ⟨RX4, "leastOfAll", "()I"⟩
abbrev cX4_pickSlews : ByteArray := prog_6_method_11_code
def yX4_pickSlews : MethodName := ⟨RX4, "pickSlews", "(I)V"⟩
abbrev cX4_pickFirst : ByteArray := prog_6_method_12_code
def yX4_pickFirst : MethodName := ⟨RX4, "pickFirst", "(I)V"⟩
abbrev cX4_pickNext : ByteArray := prog_6_method_13_code
def yX4_pickNext : MethodName := ⟨RX4, "pickNext", "(IIII)I"⟩
def RX5 : String := "SlewRails$Settling"
def TX5 : u_T := fun k => match k with
  | 0 => ("SlewRails$Settling", "above", "J", false)
  | 1 => ("SlewRails$Settling", "below", "J", false)
  | 2 => ("SlewRails$Settling", "ways", "[J", false)
  | 3 => ("SlewRails$Settling", "waysOn", "[J", false)
  | _ => ("SlewRails$Settling", "settled", "I", false)
def tyX5 : Nat → FieldType := fun k => match k with
  | 0 => .long
  | 1 => .long
  | 2 => .array .long
  | 3 => .array .long
  | _ => .int
abbrev wsX50 : List Cond := u_ws RX5 TX5 5
theorem nmX5 : ∀ a, a < 5 → ∀ b, b < 5 → a ≠ b → (TX5 a).2.1 ≠ (TX5 b).2.1 := by decide +kernel
theorem tyX5_ok : ∀ k, k < 5 → parseFieldDescriptor (TX5 k).2.2.1 = some (tyX5 k) := by decide +kernel
abbrev cX5_init : ByteArray := prog_7_method_1_code
def yX5_init : MethodName := ⟨RX5, "<init>", "()V"⟩
abbrev cX5_solve : ByteArray := prog_7_method_2_code
def yX5_solve : MethodName := ⟨RX5, "solve", "(LSlewRails$Rail;II)V"⟩
abbrev cX5_settles : ByteArray := prog_7_method_3_code
def yX5_settles : MethodName := ⟨RX5, "settles", "(LSlewRails$Rail;I)Z"⟩
abbrev cX5_slewBy : ByteArray := prog_7_method_4_code
def yX5_slewBy : MethodName := ⟨RX5, "slewBy", "(LSlewRails$Rail;II)I"⟩
abbrev cX5_waysOf : ByteArray := prog_7_method_5_code
def yX5_waysOf : MethodName := ⟨RX5, "waysOf", "(LSlewRails$Rail;II)I"⟩
abbrev cX5_beginWays : ByteArray := prog_7_method_6_code
def yX5_beginWays : MethodName := ⟨RX5, "beginWays", "(LSlewRails$Rail;)V"⟩
abbrev cX5_goOn : ByteArray := prog_7_method_7_code
def yX5_goOn : MethodName := ⟨RX5, "goOn", "(LSlewRails$Rail;II)V"⟩
abbrev cX5_stepBy : ByteArray := prog_7_method_8_code
def yX5_stepBy : MethodName := ⟨RX5, "stepBy", "(LSlewRails$Rail;II)I"⟩
abbrev cX5_commonDivisor : ByteArray := prog_7_method_9_code
def yX5_commonDivisor : MethodName := ⟨RX5, "commonDivisor", "(JJ)J"⟩
def RX6 : String := "SlewRails$Tape"
def TX6 : u_T := fun k => match k with
  | 0 => ("SlewRails$Tape", "bytes", "[I", true)
  | 1 => ("SlewRails$Tape", "length", "I", false)
  | 2 => ("SlewRails$Tape", "fault", "I", false)
  | _ => ("SlewRails$Tape", "faultPlace", "I", false)
def tyX6 : Nat → FieldType := fun k => match k with
  | 0 => .array .int
  | 1 => .int
  | 2 => .int
  | _ => .int
abbrev wsX60 : List Cond := u_ws RX6 TX6 4
theorem nmX6 : ∀ a, a < 4 → ∀ b, b < 4 → a ≠ b → (TX6 a).2.1 ≠ (TX6 b).2.1 := by decide +kernel
theorem tyX6_ok : ∀ k, k < 4 → parseFieldDescriptor (TX6 k).2.2.1 = some (tyX6 k) := by decide +kernel
abbrev cX6_init : ByteArray := prog_8_method_1_code
def yX6_init : MethodName := ⟨RX6, "<init>", "()V"⟩
abbrev cX6_isFull : ByteArray := prog_8_method_2_code
def yX6_isFull : MethodName := ⟨RX6, "isFull", "()Z"⟩
abbrev cX6_append : ByteArray := prog_8_method_3_code
def yX6_append : MethodName := ⟨RX6, "append", "(I)I"⟩
abbrev cX6_clear : ByteArray := prog_8_method_4_code
def yX6_clear : MethodName := ⟨RX6, "clear", "()V"⟩
abbrev cX6_parse : ByteArray := prog_8_method_5_code
def yX6_parse : MethodName := ⟨RX6, "parse", "(LSlewRails$Rail;)Z"⟩
abbrev cX6_fail : ByteArray := prog_8_method_6_code
def yX6_fail : MethodName := ⟨RX6, "fail", "(II)Z"⟩
abbrev cX6_faultAt : ByteArray := prog_8_method_7_code
def yX6_faultAt : MethodName := ⟨RX6, "faultAt", "(IILSlewRails$Rail;)I"⟩
abbrev cX6_faultOfNumber : ByteArray := prog_8_method_8_code
def yX6_faultOfNumber : MethodName := ⟨RX6, "faultOfNumber", "(II)I"⟩
abbrev cX6_kindOf : ByteArray := prog_8_method_9_code
def yX6_kindOf : MethodName := ⟨RX6, "kindOf", "(I)I"⟩
abbrev cX6_figuresAt : ByteArray := prog_8_method_10_code
def yX6_figuresAt : MethodName := ⟨RX6, "figuresAt", "(I)I"⟩
abbrev cX6_numberAt : ByteArray := prog_8_method_11_code
def yX6_numberAt : MethodName := ⟨RX6, "numberAt", "(I)I"⟩
def RX7 : String := "SlewRails"
def TX7 : u_T := fun k => match k with
  | 0 => ("SlewRails", "rows", "[LSlewRails$Row;", true)
  | 1 => ("SlewRails", "tape", "LSlewRails$Tape;", true)
  | 2 => ("SlewRails", "rail", "LSlewRails$Rail;", true)
  | 3 => ("SlewRails", "draft", "LSlewRails$Rail;", true)
  | 4 => ("SlewRails", "images", "[LSlewRails$Rail;", true)
  | 5 => ("SlewRails", "history", "LSlewRails$History;", true)
  | 6 => ("SlewRails", "asks", "LSlewRails$Asks;", true)
  | 7 => ("SlewRails", "settling", "LSlewRails$Settling;", true)
  | 8 => ("SlewRails", "search", "LSlewRails$Search;", false)
  | _ => ("SlewRails", "status", "I", false)
def tyX7 : Nat → FieldType := fun k => match k with
  | 0 => .array (.object "SlewRails$Row")
  | 1 => .object "SlewRails$Tape"
  | 2 => .object "SlewRails$Rail"
  | 3 => .object "SlewRails$Rail"
  | 4 => .array (.object "SlewRails$Rail")
  | 5 => .object "SlewRails$History"
  | 6 => .object "SlewRails$Asks"
  | 7 => .object "SlewRails$Settling"
  | 8 => .object "SlewRails$Search"
  | _ => .int
abbrev wsX70 : List Cond := u_ws RX7 TX7 10
theorem nmX7 : ∀ a, a < 10 → ∀ b, b < 10 → a ≠ b → (TX7 a).2.1 ≠ (TX7 b).2.1 := by decide +kernel
theorem tyX7_ok : ∀ k, k < 10 → parseFieldDescriptor (TX7 k).2.2.1 = some (tyX7 k) := by decide +kernel
abbrev cX7_init : ByteArray := prog_1_method_1_code
def yX7_init : MethodName := ⟨RX7, "<init>", "()V"⟩
abbrev cX7_row : ByteArray := prog_1_method_2_code
def yX7_row : MethodName := ⟨RX7, "row", "(III)I"⟩
abbrev cX7_set : ByteArray := prog_1_method_3_code
def yX7_set : MethodName := ⟨RX7, "set", "(III)I"⟩
abbrev cX7_copy : ByteArray := prog_1_method_4_code
def yX7_copy : MethodName := ⟨RX7, "copy", "(IIIII)I"⟩
abbrev cX7_drop : ByteArray := prog_1_method_5_code
def yX7_drop : MethodName := ⟨RX7, "drop", "(I)I"⟩
abbrev cX7_feed : ByteArray := prog_1_method_6_code
def yX7_feed : MethodName := ⟨RX7, "feed", "(I)I"⟩
abbrev cX7_rail : ByteArray := prog_1_method_7_code
def yX7_rail : MethodName := ⟨RX7, "rail", "()I"⟩
abbrev cX7_fault : ByteArray := prog_1_method_8_code
def yX7_fault : MethodName := ⟨RX7, "fault", "()I"⟩
abbrev cX7_lay : ByteArray := prog_1_method_9_code
def yX7_lay : MethodName := ⟨RX7, "lay", "(II)I"⟩
abbrev cX7_work : ByteArray := prog_1_method_10_code
def yX7_work : MethodName := ⟨RX7, "work", "()I"⟩
abbrev cX7_gang : ByteArray := prog_1_method_11_code
def yX7_gang : MethodName := ⟨RX7, "gang", "(II)I"⟩
abbrev cX7_read : ByteArray := prog_1_method_12_code
def yX7_read : MethodName := ⟨RX7, "read", "(II)I"⟩
abbrev cX7_bound : ByteArray := prog_1_method_13_code
def yX7_bound : MethodName := ⟨RX7, "bound", "(II)I"⟩
abbrev cX7_undo : ByteArray := prog_1_method_14_code
def yX7_undo : MethodName := ⟨RX7, "undo", "()I"⟩
abbrev cX7_peg : ByteArray := prog_1_method_15_code
def yX7_peg : MethodName := ⟨RX7, "peg", "(II)I"⟩
abbrev cX7_line : ByteArray := prog_1_method_16_code
def yX7_line : MethodName := ⟨RX7, "line", "(I)I"⟩
abbrev cX7_best : ByteArray := prog_1_method_17_code
def yX7_best : MethodName := ⟨RX7, "best", "(I)I"⟩
abbrev cX7_wrong : ByteArray := prog_1_method_18_code
def yX7_wrong : MethodName := ⟨RX7, "wrong", "(I)I"⟩
abbrev cX7_moment : ByteArray := prog_1_method_19_code
def yX7_moment : MethodName := ⟨RX7, "moment", "(I)I"⟩
abbrev cX7_fits : ByteArray := prog_1_method_20_code
def yX7_fits : MethodName := ⟨RX7, "fits", "(IIII)I"⟩
abbrev cX7_tell : ByteArray := prog_1_method_21_code
def yX7_tell : MethodName := ⟨RX7, "tell", "(III)I"⟩
abbrev cX7_chance : ByteArray := prog_1_method_22_code
def yX7_chance : MethodName := ⟨RX7, "chance", "(III)J"⟩
abbrev cX7_drawn : ByteArray := prog_1_method_23_code
def yX7_drawn : MethodName := ⟨RX7, "drawn", "(III)I"⟩
abbrev cX7_image : ByteArray := prog_1_method_24_code
def yX7_image : MethodName := ⟨RX7, "image", "(I)I"⟩
abbrev cX7_restore : ByteArray := prog_1_method_25_code
def yX7_restore : MethodName := ⟨RX7, "restore", "(I)I"⟩
abbrev cX7_kind : ByteArray := prog_1_method_26_code
def yX7_kind : MethodName := ⟨RX7, "kind", "(I)I"⟩
abbrev cX7_as : ByteArray := prog_1_method_27_code
def yX7_as : MethodName := ⟨RX7, "as", "(II)I"⟩
abbrev cX7_ask : ByteArray := prog_1_method_28_code
def yX7_ask : MethodName := ⟨RX7, "ask", "(II)I"⟩
abbrev cX7_trace : ByteArray := prog_1_method_29_code
def yX7_trace : MethodName := ⟨RX7, "trace", "(I)I"⟩
abbrev cX7_count : ByteArray := prog_1_method_30_code
def yX7_count : MethodName := ⟨RX7, "count", "(I)I"⟩
abbrev cX7_status : ByteArray := prog_1_method_31_code
def yX7_status : MethodName := ⟨RX7, "status", "()I"⟩
abbrev cX7_isWithin : ByteArray := prog_1_method_32_code
def yX7_isWithin : MethodName := ⟨RX7, "isWithin", "(III)Z"⟩
abbrev cX7_isBeyondInt : ByteArray := prog_1_method_33_code
def yX7_isBeyondInt : MethodName := ⟨RX7, "isBeyondInt", "(J)Z"⟩
abbrev cX7_isRow : ByteArray := prog_1_method_34_code
def yX7_isRow : MethodName := ⟨RX7, "isRow", "(I)Z"⟩
abbrev cX7_isPeg : ByteArray := prog_1_method_35_code
def yX7_isPeg : MethodName := ⟨RX7, "isPeg", "(I)Z"⟩
abbrev cX7_found : ByteArray := prog_1_method_36_code
def yX7_found : MethodName := ⟨RX7, "found", "(I)I"⟩
abbrev cX7_fine : ByteArray := prog_1_method_37_code
def yX7_fine : MethodName := ⟨RX7, "fine", "(I)I"⟩
abbrev cX7_laySlew : ByteArray := prog_1_method_38_code
def yX7_laySlew : MethodName := ⟨RX7, "laySlew", "(II)V"⟩
abbrev cX7_rowsThere : ByteArray := prog_1_method_39_code
def yX7_rowsThere : MethodName := ⟨RX7, "rowsThere", "()I"⟩
abbrev cX7_slewsThatFit : ByteArray := prog_1_method_40_code
def yX7_slewsThatFit : MethodName := ⟨RX7, "slewsThatFit", "(ILSlewRails$Row;I)I"⟩
abbrev cX7_versinesThatFit : ByteArray := prog_1_method_41_code
def yX7_versinesThatFit : MethodName := ⟨RX7, "versinesThatFit", "(ILSlewRails$Row;I)I"⟩
abbrev cX7_leastVersineThatFits : ByteArray := prog_1_method_42_code
def yX7_leastVersineThatFits : MethodName := ⟨RX7, "leastVersineThatFits", "(ILSlewRails$Row;I)I"⟩
def RX8 : String := "SlewRailsModel"
def TX8 : u_T := fun k => match k with
  | 0 => ("SlewRailsModel", "lane", "[I", true)
  | 1 => ("SlewRailsModel", "many", "[I", true)
  | 2 => ("SlewRailsModel", "items", "[I", true)
  | 3 => ("SlewRailsModel", "spare", "[I", true)
  | 4 => ("SlewRailsModel", "status", "I", false)
  | 5 => ("SlewRailsModel", "tape", "[I", true)
  | 6 => ("SlewRailsModel", "taped", "I", false)
  | 7 => ("SlewRailsModel", "faultKind", "I", false)
  | 8 => ("SlewRailsModel", "faultPlace", "I", false)
  | 9 => ("SlewRailsModel", "at", "I", false)
  | 10 => ("SlewRailsModel", "start", "I", false)
  | 11 => ("SlewRailsModel", "token", "I", false)
  | 12 => ("SlewRailsModel", "value", "I", false)
  | 13 => ("SlewRailsModel", "now", "[I", true)
  | 14 => ("SlewRailsModel", "draft", "[I", true)
  | 15 => ("SlewRailsModel", "tried", "[I", true)
  | 16 => ("SlewRailsModel", "past", "[I", true)
  | 17 => ("SlewRailsModel", "acts", "I", false)
  | 18 => ("SlewRailsModel", "images", "[I", true)
  | 19 => ("SlewRailsModel", "kept", "[Z", true)
  | 20 => ("SlewRailsModel", "least", "[I", true)
  | 21 => ("SlewRailsModel", "bestSlews", "[I", true)
  | 22 => ("SlewRailsModel", "bestWorst", "I", false)
  | 23 => ("SlewRailsModel", "bestCost", "I", false)
  | 24 => ("SlewRailsModel", "trace", "[I", true)
  | _ => ("SlewRailsModel", "traced", "I", false)
def tyX8 : Nat → FieldType := fun k => match k with
  | 0 => .array .int
  | 1 => .array .int
  | 2 => .array .int
  | 3 => .array .int
  | 4 => .int
  | 5 => .array .int
  | 6 => .int
  | 7 => .int
  | 8 => .int
  | 9 => .int
  | 10 => .int
  | 11 => .int
  | 12 => .int
  | 13 => .array .int
  | 14 => .array .int
  | 15 => .array .int
  | 16 => .array .int
  | 17 => .int
  | 18 => .array .int
  | 19 => .array .boolean
  | 20 => .array .int
  | 21 => .array .int
  | 22 => .int
  | 23 => .int
  | 24 => .array .int
  | _ => .int
abbrev wsX80 : List Cond := u_ws RX8 TX8 26
theorem nmX8 : ∀ a, a < 26 → ∀ b, b < 26 → a ≠ b → (TX8 a).2.1 ≠ (TX8 b).2.1 := by decide +kernel
theorem tyX8_ok : ∀ k, k < 26 → parseFieldDescriptor (TX8 k).2.2.1 = some (tyX8 k) := by decide +kernel
abbrev cX8_init : ByteArray := prog_10_method_1_code
def yX8_init : MethodName := ⟨RX8, "<init>", "()V"⟩
abbrev cX8_in : ByteArray := prog_10_method_3_code
def yX8_in : MethodName := ⟨RX8, "in", "(III)Z"⟩
abbrev cX8_size : ByteArray := prog_10_method_4_code
def yX8_size : MethodName := ⟨RX8, "size", "(I)I"⟩
abbrev cX8_found : ByteArray := prog_10_method_5_code
def yX8_found : MethodName := ⟨RX8, "found", "(I)I"⟩
abbrev cX8_well : ByteArray := prog_10_method_6_code
def yX8_well : MethodName := ⟨RX8, "well", "(I)I"⟩
abbrev cX8_copies : ByteArray := prog_10_method_7_code
def yX8_copies : MethodName := ⟨RX8, "copies", "([II[II)V"⟩
abbrev cX8_isRow : ByteArray := prog_10_method_8_code
def yX8_isRow : MethodName := ⟨RX8, "isRow", "(I)Z"⟩
abbrev cX8_isMissing : ByteArray := prog_10_method_9_code
def yX8_isMissing : MethodName := ⟨RX8, "isMissing", "(I)Z"⟩
abbrev cX8_lowest : ByteArray := prog_10_method_10_code
def yX8_lowest : MethodName := ⟨RX8, "lowest", "(II)I"⟩
abbrev cX8_row : ByteArray := prog_10_method_11_code
def yX8_row : MethodName := ⟨RX8, "row", "(III)I"⟩
abbrev cX8_set : ByteArray := prog_10_method_12_code
def yX8_set : MethodName := ⟨RX8, "set", "(III)I"⟩
abbrev cX8_isPart : ByteArray := prog_10_method_13_code
def yX8_isPart : MethodName := ⟨RX8, "isPart", "(III)Z"⟩
abbrev cX8_copy : ByteArray := prog_10_method_14_code
def yX8_copy : MethodName := ⟨RX8, "copy", "(IIIII)I"⟩
abbrev cX8_drop : ByteArray := prog_10_method_15_code
def yX8_drop : MethodName := ⟨RX8, "drop", "(I)I"⟩
abbrev cX8_feed : ByteArray := prog_10_method_16_code
def yX8_feed : MethodName := ⟨RX8, "feed", "(I)I"⟩
abbrev cX8_byteAt : ByteArray := prog_10_method_17_code
def yX8_byteAt : MethodName := ⟨RX8, "byteAt", "(I)I"⟩
abbrev cX8_advances : ByteArray := prog_10_method_18_code
def yX8_advances : MethodName := ⟨RX8, "advances", "()V"⟩
abbrev cX8_isWell : ByteArray := prog_10_method_19_code
def yX8_isWell : MethodName := ⟨RX8, "isWell", "()Z"⟩
abbrev cX8_takes : ByteArray := prog_10_method_20_code
def yX8_takes : MethodName := ⟨RX8, "takes", "(ZI)I"⟩
abbrev cX8_figure : ByteArray := prog_10_method_21_code
def yX8_figure : MethodName := ⟨RX8, "figure", "(II)I"⟩
abbrev cX8_kindOf : ByteArray := prog_10_method_22_code
def yX8_kindOf : MethodName := ⟨RX8, "kindOf", "(I)I"⟩
abbrev cX8_must : ByteArray := prog_10_method_23_code
def yX8_must : MethodName := ⟨RX8, "must", "(ZI)V"⟩
abbrev cX8_readsPeg : ByteArray := prog_10_method_24_code
def yX8_readsPeg : MethodName := ⟨RX8, "readsPeg", "()V"⟩
abbrev cX8_rail : ByteArray := prog_10_method_25_code
def yX8_rail : MethodName := ⟨RX8, "rail", "()I"⟩
abbrev cX8_fault : ByteArray := prog_10_method_26_code
def yX8_fault : MethodName := ⟨RX8, "fault", "()I"⟩
abbrev cX8_isRail : ByteArray := prog_10_method_27_code
def yX8_isRail : MethodName := ⟨RX8, "isRail", "()Z"⟩
abbrev cX8_isPeg : ByteArray := prog_10_method_28_code
def yX8_isPeg : MethodName := ⟨RX8, "isPeg", "(I)Z"⟩
abbrev cX8_reach : ByteArray := prog_10_method_29_code
def yX8_reach : MethodName := ⟨RX8, "reach", "([II)I"⟩
abbrev cX8_slewOf : ByteArray := prog_10_method_30_code
def yX8_slewOf : MethodName := ⟨RX8, "slewOf", "([II)I"⟩
abbrev cX8_nowOf : ByteArray := prog_10_method_31_code
def yX8_nowOf : MethodName := ⟨RX8, "nowOf", "([II)I"⟩
abbrev cX8_isLoose : ByteArray := prog_10_method_32_code
def yX8_isLoose : MethodName := ⟨RX8, "isLoose", "([II)Z"⟩
abbrev cX8_step : ByteArray := prog_10_method_33_code
def yX8_step : MethodName := ⟨RX8, "step", "([II)I"⟩
abbrev cX8_worst : ByteArray := prog_10_method_34_code
def yX8_worst : MethodName := ⟨RX8, "worst", "([I)I"⟩
abbrev cX8_uneven : ByteArray := prog_10_method_35_code
def yX8_uneven : MethodName := ⟨RX8, "uneven", "([I)I"⟩
abbrev cX8_moved : ByteArray := prog_10_method_36_code
def yX8_moved : MethodName := ⟨RX8, "moved", "([I)I"⟩
abbrev cX8_settles : ByteArray := prog_10_method_37_code
def yX8_settles : MethodName := ⟨RX8, "settles", "([II)V"⟩
abbrev cX8_works : ByteArray := prog_10_method_38_code
def yX8_works : MethodName := ⟨RX8, "works", "([I)V"⟩
abbrev cX8_notes : ByteArray := prog_10_method_39_code
def yX8_notes : MethodName := ⟨RX8, "notes", "()V"⟩
abbrev cX8_lay : ByteArray := prog_10_method_40_code
def yX8_lay : MethodName := ⟨RX8, "lay", "(II)I"⟩
abbrev cX8_work : ByteArray := prog_10_method_41_code
def yX8_work : MethodName := ⟨RX8, "work", "()I"⟩
abbrev cX8_gangs : ByteArray := prog_10_method_42_code
def yX8_gangs : MethodName := ⟨RX8, "gangs", "(I)I"⟩
abbrev cX8_gang : ByteArray := prog_10_method_43_code
def yX8_gang : MethodName := ⟨RX8, "gang", "(II)I"⟩
abbrev cX8_read : ByteArray := prog_10_method_44_code
def yX8_read : MethodName := ⟨RX8, "read", "(II)I"⟩
abbrev cX8_bound : ByteArray := prog_10_method_45_code
def yX8_bound : MethodName := ⟨RX8, "bound", "(II)I"⟩
abbrev cX8_undo : ByteArray := prog_10_method_46_code
def yX8_undo : MethodName := ⟨RX8, "undo", "()I"⟩
abbrev cX8_wish : ByteArray := prog_10_method_47_code
def yX8_wish : MethodName := ⟨RX8, "wish", "(I)I"⟩
abbrev cX8_secondSum : ByteArray := prog_10_method_48_code
def yX8_secondSum : MethodName := ⟨RX8, "secondSum", "(I)I"⟩
abbrev cX8_isClosing : ByteArray := prog_10_method_49_code
def yX8_isClosing : MethodName := ⟨RX8, "isClosing", "()Z"⟩
abbrev cX8_peg : ByteArray := prog_10_method_50_code
def yX8_peg : MethodName := ⟨RX8, "peg", "(II)I"⟩
abbrev cX8_line : ByteArray := prog_10_method_51_code
def yX8_line : MethodName := ⟨RX8, "line", "(I)I"⟩
abbrev cX8_stepBy : ByteArray := prog_10_method_52_code
def yX8_stepBy : MethodName := ⟨RX8, "stepBy", "(IIIII)I"⟩
abbrev cX8_reachAt : ByteArray := prog_10_method_53_code
def yX8_reachAt : MethodName := ⟨RX8, "reachAt", "(I)I"⟩
abbrev cX8_place : ByteArray := prog_10_method_54_code
def yX8_place : MethodName := ⟨RX8, "place", "(IIII)I"⟩
abbrev cX8_costBy : ByteArray := prog_10_method_55_code
def yX8_costBy : MethodName := ⟨RX8, "costBy", "(IIIIII)I"⟩
abbrev cX8_reckons : ByteArray := prog_10_method_56_code
def yX8_reckons : MethodName := ⟨RX8, "reckons", "(I)I"⟩
abbrev cX8_findsBest : ByteArray := prog_10_method_57_code
def yX8_findsBest : MethodName := ⟨RX8, "findsBest", "()V"⟩
abbrev cX8_best : ByteArray := prog_10_method_58_code
def yX8_best : MethodName := ⟨RX8, "best", "(I)I"⟩
abbrev cX8_wrong : ByteArray := prog_10_method_59_code
def yX8_wrong : MethodName := ⟨RX8, "wrong", "(I)I"⟩
abbrev cX8_isInt : ByteArray := prog_10_method_60_code
def yX8_isInt : MethodName := ⟨RX8, "isInt", "(J)Z"⟩
abbrev cX8_moment : ByteArray := prog_10_method_61_code
def yX8_moment : MethodName := ⟨RX8, "moment", "(I)I"⟩
abbrev cX8_isSeen : ByteArray := prog_10_method_62_code
def yX8_isSeen : MethodName := ⟨RX8, "isSeen", "(II)Z"⟩
abbrev cX8_fits : ByteArray := prog_10_method_63_code
def yX8_fits : MethodName := ⟨RX8, "fits", "(IIII)I"⟩
abbrev cX8_tell : ByteArray := prog_10_method_64_code
def yX8_tell : MethodName := ⟨RX8, "tell", "(III)I"⟩
abbrev cX8_chance : ByteArray := prog_10_method_65_code
def yX8_chance : MethodName := ⟨RX8, "chance", "(III)J"⟩
abbrev cX8_drawn : ByteArray := prog_10_method_66_code
def yX8_drawn : MethodName := ⟨RX8, "drawn", "(III)I"⟩
abbrev cX8_image : ByteArray := prog_10_method_67_code
def yX8_image : MethodName := ⟨RX8, "image", "(I)I"⟩
abbrev cX8_restore : ByteArray := prog_10_method_68_code
def yX8_restore : MethodName := ⟨RX8, "restore", "(I)I"⟩
abbrev cX8_kindIn : ByteArray := prog_10_method_69_code
def yX8_kindIn : MethodName := ⟨RX8, "kindIn", "(I)I"⟩
abbrev cX8_kind : ByteArray := prog_10_method_70_code
def yX8_kind : MethodName := ⟨RX8, "kind", "(I)I"⟩
abbrev cX8_as : ByteArray := prog_10_method_71_code
def yX8_as : MethodName := ⟨RX8, "as", "(II)I"⟩
abbrev cX8_begins : ByteArray := prog_10_method_72_code
def yX8_begins : MethodName := ⟨RX8, "begins", "(I)V"⟩
abbrev cX8_plainMark : ByteArray := prog_10_method_73_code
def yX8_plainMark : MethodName := ⟨RX8, "plainMark", "(I)I"⟩
abbrev cX8_bridgeSize : ByteArray := prog_10_method_74_code
def yX8_bridgeSize : MethodName := ⟨RX8, "bridgeSize", "(I)I"⟩
abbrev cX8_plainSize : ByteArray := prog_10_method_75_code
def yX8_plainSize : MethodName := ⟨RX8, "plainSize", "(I)I"⟩
abbrev cX8_bridgeMark : ByteArray := prog_10_method_76_code
def yX8_bridgeMark : MethodName := ⟨RX8, "bridgeMark", "(I)I"⟩
abbrev cX8_ask : ByteArray := prog_10_method_77_code
def yX8_ask : MethodName := ⟨RX8, "ask", "(II)I"⟩
abbrev cX8_trace : ByteArray := prog_10_method_78_code
def yX8_trace : MethodName := ⟨RX8, "trace", "(I)I"⟩
abbrev cX8_count : ByteArray := prog_10_method_79_code
def yX8_count : MethodName := ⟨RX8, "count", "(I)I"⟩
abbrev cX8_status : ByteArray := prog_10_method_80_code
def yX8_status : MethodName := ⟨RX8, "status", "()I"⟩
def RJ9 : String := "java/lang/Math"
def TJ9 : u_T := fun k => match k with
  | _ => ("", "", "", false)
def tyJ9 : Nat → FieldType := fun k => match k with
  | _ => .int
abbrev wsJ90 : List Cond := u_ws RJ9 TJ9 0
theorem nmJ9 : ∀ a, a < 0 → ∀ b, b < 0 → a ≠ b → (TJ9 a).2.1 ≠ (TJ9 b).2.1 := by decide +kernel
theorem tyJ9_ok : ∀ k, k < 0 → parseFieldDescriptor (TJ9 k).2.2.1 = some (tyJ9 k) := by decide +kernel
abbrev cJ9_abs_0f7a4 : ByteArray := prog_11_method_59_code
def yJ9_abs_0f7a4 : MethodName := ⟨RJ9, "abs", "(I)I"⟩
abbrev cJ9_max_7cf53 : ByteArray := prog_11_method_65_code
def yJ9_max_7cf53 : MethodName := ⟨RJ9, "max", "(II)I"⟩
abbrev cJ9_min_7cf53 : ByteArray := prog_11_method_69_code
def yJ9_min_7cf53 : MethodName := ⟨RJ9, "min", "(II)I"⟩
def RJ10 : String := "java/lang/System"
def TJ10 : u_T := fun k => match k with
  | _ => ("", "", "", false)
def tyJ10 : Nat → FieldType := fun k => match k with
  | _ => .int
abbrev wsJ100 : List Cond := u_ws RJ10 TJ10 0
theorem nmJ10 : ∀ a, a < 0 → ∀ b, b < 0 → a ≠ b → (TJ10 a).2.1 ≠ (TJ10 b).2.1 := by decide +kernel
theorem tyJ10_ok : ∀ k, k < 0 → parseFieldDescriptor (TJ10 k).2.2.1 = some (tyJ10 k) := by decide +kernel
def RJ7 : String := "java/util/Arrays"
def TJ7 : u_T := fun k => match k with
  | _ => ("", "", "", false)
def tyJ7 : Nat → FieldType := fun k => match k with
  | _ => .int
abbrev wsJ70 : List Cond := u_ws RJ7 TJ7 0
theorem nmJ7 : ∀ a, a < 0 → ∀ b, b < 0 → a ≠ b → (TJ7 a).2.1 ≠ (TJ7 b).2.1 := by decide +kernel
theorem tyJ7_ok : ∀ k, k < 0 → parseFieldDescriptor (TJ7 k).2.2.1 = some (tyJ7 k) := by decide +kernel
abbrev cJ7_fill_d0a16 : ByteArray := prog_13_method_101_code
def yJ7_fill_d0a16 : MethodName := ⟨RJ7, "fill", "([JJ)V"⟩
abbrev cJ7_fill_53178 : ByteArray := prog_13_method_103_code
def yJ7_fill_53178 : MethodName := ⟨RJ7, "fill", "([II)V"⟩
def RL : String := "SlewRailsLaw"
def yL_law : MethodName := ⟨RL, "law", "([I)Z"⟩
def wsX0_init : List Cond := .code yX0_init cX0_init 1 none :: ([.methodLink RX0 3 objectInit, .instanceMethod objectInit, .code objectInit ⟨#[0xb1]⟩ 1 none, .arrayClass .int, .fieldLink RX0 9 "SlewRails$Asks" "trace" "[I", .fieldLink RX0 15 "SlewRails$Asks" "left" "I"] ++ wsX00)
def wsX0_leave : List Cond := .code yX0_leave cX0_leave 2 none :: ([.fieldLink RX0 15 "SlewRails$Asks" "left" "I", .fieldLink RX0 9 "SlewRails$Asks" "trace" "[I"] ++ wsX00)
def wsX2_slewAt : List Cond := .code yX2_slewAt cX2_slewAt 2 (some .int) :: ([.fieldLink RX2 9 "SlewRails$Rail" "pegs" "I", .fieldLink RX2 28 "SlewRails$Rail" "slews" "[I"] ++ wsX20)
def wsX2_now : List Cond := .code yX2_now cX2_now 2 (some .int) :: ([.fieldLink RX2 22 "SlewRails$Rail" "versines" "[I", .fieldLink RX2 28 "SlewRails$Rail" "slews" "[I", .methodLink RX2 43 yX2_slewAt, .instanceMethod yX2_slewAt, .selects RX2 yX2_slewAt yX2_slewAt, .initialized RX2, .code yX2_slewAt cX2_slewAt 2 (some .int), .fieldLink RX2 9 "SlewRails$Rail" "pegs" "I"] ++ wsX20)
def wsX0_answer_r1 : List Cond := [Cond.fieldLink RX0 23 "SlewRails$Rail" "kinds" "[I", Cond.fieldLink RX0 31 "SlewRails$Asks" "SIZE_BODIES" "[I", Cond.fieldLink RX0 34 "SlewRails$Asks" "MARK_BODIES" "[I", Cond.methodLink RX0 37 yX0_run, Cond.instanceMethod yX0_run, Cond.selects RX0 yX0_run yX0_run, Cond.initialized RX0, Cond.code yX0_run cX0_run 6 (some .int), Cond.fieldLink RX0 48 "SlewRails$Rail" "slews" "[I", Cond.methodLink RX0 40 yX0_leave, Cond.instanceMethod yX0_leave, Cond.selects RX0 yX0_leave yX0_leave, Cond.code yX0_leave cX0_leave 2 none, Cond.fieldLink RX0 15 "SlewRails$Asks" "left" "I", Cond.fieldLink RX0 9 "SlewRails$Asks" "trace" "[I", Cond.methodLink RX0 44 yX2_now, Cond.instanceMethod yX2_now, Cond.selects RX2 yX2_now yX2_now, Cond.initialized RX2, Cond.code yX2_now cX2_now 2 (some .int), Cond.fieldLink RX2 22 "SlewRails$Rail" "versines" "[I", Cond.fieldLink RX2 28 "SlewRails$Rail" "slews" "[I", Cond.methodLink RX2 43 yX2_slewAt, Cond.instanceMethod yX2_slewAt]
def wsX0_answer_r2 : List Cond := [Cond.selects RX2 yX2_slewAt yX2_slewAt, Cond.code yX2_slewAt cX2_slewAt 2 (some .int), Cond.fieldLink RX2 9 "SlewRails$Rail" "pegs" "I", Cond.methodLink RX0 19 yX0_answer, Cond.instanceMethod yX0_answer, Cond.selects RX0 yX0_answer yX0_answer]
def wsX0_answer : List Cond := .code yX0_answer cX0_answer 8 (some .int) :: ((wsX0_answer_r1 ++ wsX0_answer_r2) ++ wsX20 ++ wsX00)
def wsX0_run_r1 : List Cond := [Cond.fieldLink RX0 48 "SlewRails$Rail" "slews" "[I", Cond.methodLink RX0 40 yX0_leave, Cond.instanceMethod yX0_leave, Cond.selects RX0 yX0_leave yX0_leave, Cond.initialized RX0, Cond.code yX0_leave cX0_leave 2 none, Cond.fieldLink RX0 15 "SlewRails$Asks" "left" "I", Cond.fieldLink RX0 9 "SlewRails$Asks" "trace" "[I", Cond.methodLink RX0 44 yX2_now, Cond.instanceMethod yX2_now, Cond.selects RX2 yX2_now yX2_now, Cond.initialized RX2, Cond.code yX2_now cX2_now 2 (some .int), Cond.fieldLink RX2 22 "SlewRails$Rail" "versines" "[I", Cond.fieldLink RX2 28 "SlewRails$Rail" "slews" "[I", Cond.methodLink RX2 43 yX2_slewAt, Cond.instanceMethod yX2_slewAt, Cond.selects RX2 yX2_slewAt yX2_slewAt, Cond.code yX2_slewAt cX2_slewAt 2 (some .int), Cond.fieldLink RX2 9 "SlewRails$Rail" "pegs" "I", Cond.methodLink RX0 37 yX0_run, Cond.instanceMethod yX0_run, Cond.selects RX0 yX0_run yX0_run, Cond.methodLink RX0 19 yX0_answer]
def wsX0_run_r2 : List Cond := [Cond.instanceMethod yX0_answer, Cond.selects RX0 yX0_answer yX0_answer, Cond.code yX0_answer cX0_answer 8 (some .int), Cond.fieldLink RX0 23 "SlewRails$Rail" "kinds" "[I", Cond.fieldLink RX0 31 "SlewRails$Asks" "SIZE_BODIES" "[I", Cond.fieldLink RX0 34 "SlewRails$Asks" "MARK_BODIES" "[I"]
def wsX0_run : List Cond := .code yX0_run cX0_run 6 (some .int) :: ((wsX0_run_r1 ++ wsX0_run_r2) ++ wsX20 ++ wsX00)
def wsX0_begin_r1 : List Cond := [Cond.fieldLink RX0 15 "SlewRails$Asks" "left" "I", Cond.methodLink RX0 19 yX0_answer, Cond.instanceMethod yX0_answer, Cond.selects RX0 yX0_answer yX0_answer, Cond.initialized RX0, Cond.code yX0_answer cX0_answer 8 (some .int), Cond.fieldLink RX0 23 "SlewRails$Rail" "kinds" "[I", Cond.fieldLink RX0 31 "SlewRails$Asks" "SIZE_BODIES" "[I", Cond.fieldLink RX0 34 "SlewRails$Asks" "MARK_BODIES" "[I", Cond.methodLink RX0 37 yX0_run, Cond.instanceMethod yX0_run, Cond.selects RX0 yX0_run yX0_run, Cond.code yX0_run cX0_run 6 (some .int), Cond.fieldLink RX0 48 "SlewRails$Rail" "slews" "[I", Cond.methodLink RX0 40 yX0_leave, Cond.instanceMethod yX0_leave, Cond.selects RX0 yX0_leave yX0_leave, Cond.code yX0_leave cX0_leave 2 none, Cond.fieldLink RX0 9 "SlewRails$Asks" "trace" "[I", Cond.methodLink RX0 44 yX2_now, Cond.instanceMethod yX2_now, Cond.selects RX2 yX2_now yX2_now, Cond.initialized RX2, Cond.code yX2_now cX2_now 2 (some .int)]
def wsX0_begin_r2 : List Cond := [Cond.fieldLink RX2 22 "SlewRails$Rail" "versines" "[I", Cond.fieldLink RX2 28 "SlewRails$Rail" "slews" "[I", Cond.methodLink RX2 43 yX2_slewAt, Cond.instanceMethod yX2_slewAt, Cond.selects RX2 yX2_slewAt yX2_slewAt, Cond.code yX2_slewAt cX2_slewAt 2 (some .int), Cond.fieldLink RX2 9 "SlewRails$Rail" "pegs" "I"]
def wsX0_begin : List Cond := .code yX0_begin cX0_begin 4 (some .int) :: ((wsX0_begin_r1 ++ wsX0_begin_r2) ++ wsX00 ++ wsX20)
def wsX1_init : List Cond := .code yX1_init cX1_init 1 none :: ([.methodLink RX1 3 objectInit, .instanceMethod objectInit, .code objectInit ⟨#[0xb1]⟩ 1 none, .classLink RX1 9 RX2, .fieldLink RX1 11 "SlewRails$History" "before" "[LSlewRails$Rail;", .fieldLink RX1 17 "SlewRails$History" "held" "I", .fieldLink RX1 21 "SlewRails$History" "next" "I"] ++ wsX10)
def wsX2_init : List Cond := .code yX2_init cX2_init 1 none :: ([.methodLink RX2 3 objectInit, .instanceMethod objectInit, .code objectInit ⟨#[0xb1]⟩ 1 none, .fieldLink RX2 9 "SlewRails$Rail" "pegs" "I", .fieldLink RX2 15 "SlewRails$Rail" "worked" "I", .arrayClass .int, .fieldLink RX2 18 "SlewRails$Rail" "kinds" "[I", .fieldLink RX2 22 "SlewRails$Rail" "versines" "[I", .fieldLink RX2 25 "SlewRails$Rail" "bounds" "[I", .fieldLink RX2 28 "SlewRails$Rail" "slews" "[I"] ++ wsX20)
def wsX2_become : List Cond := .code yX2_become cX2_become 2 none :: ([.fieldLink RX2 9 "SlewRails$Rail" "pegs" "I", .fieldLink RX2 15 "SlewRails$Rail" "worked" "I", .fieldLink RX2 18 "SlewRails$Rail" "kinds" "[I", .methodLink RX2 31 arraycopyName, .native arraycopyName, .static arraycopyName, .initialized "java/lang/System", .fieldLink RX2 22 "SlewRails$Rail" "versines" "[I", .fieldLink RX2 25 "SlewRails$Rail" "bounds" "[I", .fieldLink RX2 28 "SlewRails$Rail" "slews" "[I"] ++ wsX20)
def wsX1_keep_r1 : List Cond := [Cond.fieldLink RX1 11 "SlewRails$History" "before" "[LSlewRails$Rail;", Cond.fieldLink RX1 21 "SlewRails$History" "next" "I", Cond.classLink RX1 9 RX2, Cond.instantiable RX2 6, Cond.initialized RX2, Cond.fieldLink RX1 17 "SlewRails$History" "held" "I", Cond.methodLink RX1 29 Lib.Math.min.name, Cond.static Lib.Math.min.name, Cond.initialized "java/lang/Math", Cond.code Lib.Math.min.name Lib.Math.min.code 2 (some .int), Cond.instanceMethod yX2_init, Cond.code yX2_init cX2_init 1 none, Cond.methodLink RX2 3 objectInit, Cond.instanceMethod objectInit, Cond.code objectInit ⟨#[0xb1]⟩ 1 none, Cond.fieldLink RX2 9 "SlewRails$Rail" "pegs" "I", Cond.fieldLink RX2 15 "SlewRails$Rail" "worked" "I", Cond.arrayClass .int, Cond.fieldLink RX2 18 "SlewRails$Rail" "kinds" "[I", Cond.fieldLink RX2 22 "SlewRails$Rail" "versines" "[I", Cond.fieldLink RX2 25 "SlewRails$Rail" "bounds" "[I", Cond.fieldLink RX2 28 "SlewRails$Rail" "slews" "[I", Cond.methodLink RX1 25 yX2_become, Cond.instanceMethod yX2_become]
def wsX1_keep_r2 : List Cond := [Cond.selects RX2 yX2_become yX2_become, Cond.code yX2_become cX2_become 2 none, Cond.methodLink RX2 31 arraycopyName, Cond.native arraycopyName, Cond.static arraycopyName, Cond.initialized "java/lang/System"]
def wsX1_keep : List Cond := .code yX1_keep cX1_keep 2 none :: ((wsX1_keep_r1 ++ wsX1_keep_r2) ++ wsX10 ++ wsX20)
def wsX1_bringBack : List Cond := .code yX1_bringBack cX1_bringBack 3 none :: ([.fieldLink RX1 21 "SlewRails$History" "next" "I", .fieldLink RX1 17 "SlewRails$History" "held" "I", .fieldLink RX1 11 "SlewRails$History" "before" "[LSlewRails$Rail;", .methodLink RX1 25 yX2_become, .instanceMethod yX2_become, .selects RX2 yX2_become yX2_become, .initialized RX2, .code yX2_become cX2_become 2 none, .fieldLink RX2 9 "SlewRails$Rail" "pegs" "I", .fieldLink RX2 15 "SlewRails$Rail" "worked" "I", .fieldLink RX2 18 "SlewRails$Rail" "kinds" "[I", .methodLink RX2 31 arraycopyName, .native arraycopyName, .static arraycopyName, .initialized "java/lang/System", .fieldLink RX2 22 "SlewRails$Rail" "versines" "[I", .fieldLink RX2 25 "SlewRails$Rail" "bounds" "[I", .fieldLink RX2 28 "SlewRails$Rail" "slews" "[I"] ++ wsX10 ++ wsX20)
def wsX1_forget : List Cond := .code yX1_forget cX1_forget 1 none :: ([.fieldLink RX1 17 "SlewRails$History" "held" "I"] ++ wsX10)
def wsX2_isThere : List Cond := .code yX2_isThere cX2_isThere 1 (some .boolean) :: ([.fieldLink RX2 9 "SlewRails$Rail" "pegs" "I"] ++ wsX20)
def wsX2_clear : List Cond := .code yX2_clear cX2_clear 1 none :: ([.fieldLink RX2 9 "SlewRails$Rail" "pegs" "I", .fieldLink RX2 15 "SlewRails$Rail" "worked" "I"] ++ wsX20)
def wsX2_add : List Cond := .code yX2_add cX2_add 4 none :: ([.fieldLink RX2 9 "SlewRails$Rail" "pegs" "I", .fieldLink RX2 18 "SlewRails$Rail" "kinds" "[I", .fieldLink RX2 22 "SlewRails$Rail" "versines" "[I", .fieldLink RX2 25 "SlewRails$Rail" "bounds" "[I", .fieldLink RX2 28 "SlewRails$Rail" "slews" "[I"] ++ wsX20)
def wsX2_isLike : List Cond := .code yX2_isLike cX2_isLike 3 (some .boolean) :: ([.fieldLink RX2 9 "SlewRails$Rail" "pegs" "I", .fieldLink RX2 18 "SlewRails$Rail" "kinds" "[I", .fieldLink RX2 22 "SlewRails$Rail" "versines" "[I", .fieldLink RX2 25 "SlewRails$Rail" "bounds" "[I"] ++ wsX20)
def wsX2_reach : List Cond := .code yX2_reach cX2_reach 2 (some .int) :: ([.fieldLink RX2 9 "SlewRails$Rail" "pegs" "I", .fieldLink RX2 18 "SlewRails$Rail" "kinds" "[I", .fieldLink RX2 25 "SlewRails$Rail" "bounds" "[I", .methodLink RX2 37 Lib.Math.max.name, .static Lib.Math.max.name, .initialized "java/lang/Math", .code Lib.Math.max.name Lib.Math.max.code 2 (some .int)] ++ wsX20)
def wsX2_isSoft : List Cond := .code yX2_isSoft cX2_isSoft 2 (some .boolean) :: ([.fieldLink RX2 9 "SlewRails$Rail" "pegs" "I", .fieldLink RX2 18 "SlewRails$Rail" "kinds" "[I"] ++ wsX20)
def wsX2_settledAt : List Cond := .code yX2_settledAt cX2_settledAt 3 (some .int) :: ([.methodLink RX2 43 yX2_slewAt, .instanceMethod yX2_slewAt, .selects RX2 yX2_slewAt yX2_slewAt, .initialized RX2, .code yX2_slewAt cX2_slewAt 2 (some .int), .fieldLink RX2 9 "SlewRails$Rail" "pegs" "I", .fieldLink RX2 28 "SlewRails$Rail" "slews" "[I", .methodLink RX2 47 yX2_isSoft, .instanceMethod yX2_isSoft, .selects RX2 yX2_isSoft yX2_isSoft, .code yX2_isSoft cX2_isSoft 2 (some .boolean), .fieldLink RX2 18 "SlewRails$Rail" "kinds" "[I"] ++ wsX20)
def wsX2_isEased : List Cond := .code yX2_isEased cX2_isEased 2 (some .boolean) :: ([.fieldLink RX2 9 "SlewRails$Rail" "pegs" "I", .fieldLink RX2 18 "SlewRails$Rail" "kinds" "[I"] ++ wsX20)
def wsX2_step : List Cond := .code yX2_step cX2_step 2 (some .int) :: ([.methodLink RX2 57 Lib.Math.abs.name, .static Lib.Math.abs.name, .initialized "java/lang/Math", .code Lib.Math.abs.name Lib.Math.abs.code 1 (some .int), .methodLink RX2 51 yX2_isEased, .instanceMethod yX2_isEased, .selects RX2 yX2_isEased yX2_isEased, .initialized RX2, .code yX2_isEased cX2_isEased 2 (some .boolean), .fieldLink RX2 9 "SlewRails$Rail" "pegs" "I", .fieldLink RX2 18 "SlewRails$Rail" "kinds" "[I", .methodLink RX2 54 yX2_now, .instanceMethod yX2_now, .selects RX2 yX2_now yX2_now, .code yX2_now cX2_now 2 (some .int), .fieldLink RX2 22 "SlewRails$Rail" "versines" "[I", .fieldLink RX2 28 "SlewRails$Rail" "slews" "[I", .methodLink RX2 43 yX2_slewAt, .instanceMethod yX2_slewAt, .selects RX2 yX2_slewAt yX2_slewAt, .code yX2_slewAt cX2_slewAt 2 (some .int)] ++ wsX20)
def wsX2_worst_r1 : List Cond := [Cond.fieldLink RX2 9 "SlewRails$Rail" "pegs" "I", Cond.methodLink RX2 37 Lib.Math.max.name, Cond.static Lib.Math.max.name, Cond.initialized "java/lang/Math", Cond.code Lib.Math.max.name Lib.Math.max.code 2 (some .int), Cond.methodLink RX2 60 yX2_step, Cond.instanceMethod yX2_step, Cond.selects RX2 yX2_step yX2_step, Cond.initialized RX2, Cond.code yX2_step cX2_step 2 (some .int), Cond.methodLink RX2 57 Lib.Math.abs.name, Cond.static Lib.Math.abs.name, Cond.code Lib.Math.abs.name Lib.Math.abs.code 1 (some .int), Cond.methodLink RX2 51 yX2_isEased, Cond.instanceMethod yX2_isEased, Cond.selects RX2 yX2_isEased yX2_isEased, Cond.code yX2_isEased cX2_isEased 2 (some .boolean), Cond.fieldLink RX2 18 "SlewRails$Rail" "kinds" "[I", Cond.methodLink RX2 54 yX2_now, Cond.instanceMethod yX2_now, Cond.selects RX2 yX2_now yX2_now, Cond.code yX2_now cX2_now 2 (some .int), Cond.fieldLink RX2 22 "SlewRails$Rail" "versines" "[I", Cond.fieldLink RX2 28 "SlewRails$Rail" "slews" "[I"]
def wsX2_worst_r2 : List Cond := [Cond.methodLink RX2 43 yX2_slewAt, Cond.instanceMethod yX2_slewAt, Cond.selects RX2 yX2_slewAt yX2_slewAt, Cond.code yX2_slewAt cX2_slewAt 2 (some .int)]
def wsX2_worst : List Cond := .code yX2_worst cX2_worst 3 (some .int) :: ((wsX2_worst_r1 ++ wsX2_worst_r2) ++ wsX20)
def wsX2_uneven_r1 : List Cond := [Cond.fieldLink RX2 9 "SlewRails$Rail" "pegs" "I", Cond.methodLink RX2 60 yX2_step, Cond.instanceMethod yX2_step, Cond.selects RX2 yX2_step yX2_step, Cond.initialized RX2, Cond.code yX2_step cX2_step 2 (some .int), Cond.methodLink RX2 57 Lib.Math.abs.name, Cond.static Lib.Math.abs.name, Cond.initialized "java/lang/Math", Cond.code Lib.Math.abs.name Lib.Math.abs.code 1 (some .int), Cond.methodLink RX2 51 yX2_isEased, Cond.instanceMethod yX2_isEased, Cond.selects RX2 yX2_isEased yX2_isEased, Cond.code yX2_isEased cX2_isEased 2 (some .boolean), Cond.fieldLink RX2 18 "SlewRails$Rail" "kinds" "[I", Cond.methodLink RX2 54 yX2_now, Cond.instanceMethod yX2_now, Cond.selects RX2 yX2_now yX2_now, Cond.code yX2_now cX2_now 2 (some .int), Cond.fieldLink RX2 22 "SlewRails$Rail" "versines" "[I", Cond.fieldLink RX2 28 "SlewRails$Rail" "slews" "[I", Cond.methodLink RX2 43 yX2_slewAt, Cond.instanceMethod yX2_slewAt, Cond.selects RX2 yX2_slewAt yX2_slewAt]
def wsX2_uneven_r2 : List Cond := [Cond.code yX2_slewAt cX2_slewAt 2 (some .int)]
def wsX2_uneven : List Cond := .code yX2_uneven cX2_uneven 3 (some .int) :: ((wsX2_uneven_r1 ++ wsX2_uneven_r2) ++ wsX20)
def wsX2_allNow : List Cond := .code yX2_allNow cX2_allNow 3 (some .int) :: ([.fieldLink RX2 9 "SlewRails$Rail" "pegs" "I", .methodLink RX2 54 yX2_now, .instanceMethod yX2_now, .selects RX2 yX2_now yX2_now, .initialized RX2, .code yX2_now cX2_now 2 (some .int), .fieldLink RX2 22 "SlewRails$Rail" "versines" "[I", .fieldLink RX2 28 "SlewRails$Rail" "slews" "[I", .methodLink RX2 43 yX2_slewAt, .instanceMethod yX2_slewAt, .selects RX2 yX2_slewAt yX2_slewAt, .code yX2_slewAt cX2_slewAt 2 (some .int)] ++ wsX20)
def wsX2_allSlews : List Cond := .code yX2_allSlews cX2_allSlews 3 (some .int) :: ([.fieldLink RX2 9 "SlewRails$Rail" "pegs" "I", .fieldLink RX2 28 "SlewRails$Rail" "slews" "[I"] ++ wsX20)
def wsX2_moved : List Cond := .code yX2_moved cX2_moved 3 (some .int) :: ([.fieldLink RX2 9 "SlewRails$Rail" "pegs" "I", .fieldLink RX2 28 "SlewRails$Rail" "slews" "[I", .methodLink RX2 57 Lib.Math.abs.name, .static Lib.Math.abs.name, .initialized "java/lang/Math", .code Lib.Math.abs.name Lib.Math.abs.code 1 (some .int)] ++ wsX20)
def wsX2_slewed : List Cond := .code yX2_slewed cX2_slewed 3 (some .int) :: ([.fieldLink RX2 9 "SlewRails$Rail" "pegs" "I", .fieldLink RX2 28 "SlewRails$Rail" "slews" "[I"] ++ wsX20)
def wsJ7_fill_53178 : List Cond := .code yJ7_fill_53178 cJ7_fill_53178 4 none :: ([])
def wsX2_dropSlews : List Cond := .code yX2_dropSlews cX2_dropSlews 1 none :: ([.fieldLink RX2 28 "SlewRails$Rail" "slews" "[I", .methodLink RX2 63 yJ7_fill_53178, .static yJ7_fill_53178, .initialized RJ7, .code yJ7_fill_53178 cJ7_fill_53178 4 none] ++ wsX20)
def wsX2_workIn_r1 : List Cond := [Cond.fieldLink RX2 9 "SlewRails$Rail" "pegs" "I", Cond.fieldLink RX2 28 "SlewRails$Rail" "slews" "[I", Cond.fieldLink RX2 22 "SlewRails$Rail" "versines" "[I", Cond.methodLink RX2 72 Lib.Math.min.name, Cond.static Lib.Math.min.name, Cond.initialized "java/lang/Math", Cond.code Lib.Math.min.name Lib.Math.min.code 2 (some .int), Cond.methodLink RX2 37 Lib.Math.max.name, Cond.static Lib.Math.max.name, Cond.code Lib.Math.max.name Lib.Math.max.code 2 (some .int), Cond.methodLink RX2 69 yX2_settledAt, Cond.instanceMethod yX2_settledAt, Cond.selects RX2 yX2_settledAt yX2_settledAt, Cond.initialized RX2, Cond.code yX2_settledAt cX2_settledAt 3 (some .int), Cond.methodLink RX2 43 yX2_slewAt, Cond.instanceMethod yX2_slewAt, Cond.selects RX2 yX2_slewAt yX2_slewAt, Cond.code yX2_slewAt cX2_slewAt 2 (some .int), Cond.methodLink RX2 47 yX2_isSoft, Cond.instanceMethod yX2_isSoft, Cond.selects RX2 yX2_isSoft yX2_isSoft, Cond.code yX2_isSoft cX2_isSoft 2 (some .boolean), Cond.fieldLink RX2 18 "SlewRails$Rail" "kinds" "[I"]
def wsX2_workIn_r2 : List Cond := [Cond.methodLink RX2 54 yX2_now, Cond.instanceMethod yX2_now, Cond.selects RX2 yX2_now yX2_now, Cond.code yX2_now cX2_now 2 (some .int), Cond.methodLink RX2 75 yX2_dropSlews, Cond.instanceMethod yX2_dropSlews, Cond.selects RX2 yX2_dropSlews yX2_dropSlews, Cond.code yX2_dropSlews cX2_dropSlews 1 none, Cond.methodLink RX2 63 yJ7_fill_53178, Cond.static yJ7_fill_53178, Cond.initialized RJ7, Cond.code yJ7_fill_53178 cJ7_fill_53178 4 none]
def wsX2_workIn : List Cond := .code yX2_workIn cX2_workIn 2 none :: ((wsX2_workIn_r1 ++ wsX2_workIn_r2) ++ wsX20)
def wsX2_evenestSlew_r1 : List Cond := [Cond.fieldLink RX2 28 "SlewRails$Rail" "slews" "[I", Cond.methodLink RX2 37 Lib.Math.max.name, Cond.static Lib.Math.max.name, Cond.initialized "java/lang/Math", Cond.code Lib.Math.max.name Lib.Math.max.code 2 (some .int), Cond.constant RX2 83 (2147483647), Cond.methodLink RX2 78 yX2_reach, Cond.instanceMethod yX2_reach, Cond.selects RX2 yX2_reach yX2_reach, Cond.initialized RX2, Cond.code yX2_reach cX2_reach 2 (some .int), Cond.fieldLink RX2 9 "SlewRails$Rail" "pegs" "I", Cond.fieldLink RX2 18 "SlewRails$Rail" "kinds" "[I", Cond.fieldLink RX2 25 "SlewRails$Rail" "bounds" "[I", Cond.methodLink RX2 60 yX2_step, Cond.instanceMethod yX2_step, Cond.selects RX2 yX2_step yX2_step, Cond.code yX2_step cX2_step 2 (some .int), Cond.methodLink RX2 57 Lib.Math.abs.name, Cond.static Lib.Math.abs.name, Cond.code Lib.Math.abs.name Lib.Math.abs.code 1 (some .int), Cond.methodLink RX2 51 yX2_isEased, Cond.instanceMethod yX2_isEased, Cond.selects RX2 yX2_isEased yX2_isEased]
def wsX2_evenestSlew_r2 : List Cond := [Cond.code yX2_isEased cX2_isEased 2 (some .boolean), Cond.methodLink RX2 54 yX2_now, Cond.instanceMethod yX2_now, Cond.selects RX2 yX2_now yX2_now, Cond.code yX2_now cX2_now 2 (some .int), Cond.fieldLink RX2 22 "SlewRails$Rail" "versines" "[I", Cond.methodLink RX2 43 yX2_slewAt, Cond.instanceMethod yX2_slewAt, Cond.selects RX2 yX2_slewAt yX2_slewAt, Cond.code yX2_slewAt cX2_slewAt 2 (some .int)]
def wsX2_evenestSlew : List Cond := .code yX2_evenestSlew cX2_evenestSlew 10 (some .int) :: ((wsX2_evenestSlew_r1 ++ wsX2_evenestSlew_r2) ++ wsX20)
def wsX2_wish : List Cond := .code yX2_wish cX2_wish 2 (some .int) :: ([.fieldLink RX2 9 "SlewRails$Rail" "pegs" "I", .fieldLink RX2 22 "SlewRails$Rail" "versines" "[I"] ++ wsX20)
def wsX2_secondSum : List Cond := .code yX2_secondSum cX2_secondSum 4 (some .int) :: ([.fieldLink RX2 22 "SlewRails$Rail" "versines" "[I", .methodLink RX2 84 yX2_wish, .instanceMethod yX2_wish, .selects RX2 yX2_wish yX2_wish, .initialized RX2, .code yX2_wish cX2_wish 2 (some .int), .fieldLink RX2 9 "SlewRails$Rail" "pegs" "I"] ++ wsX20)
def wsX2_closes : List Cond := .code yX2_closes cX2_closes 3 (some .boolean) :: ([.fieldLink RX2 9 "SlewRails$Rail" "pegs" "I", .fieldLink RX2 22 "SlewRails$Rail" "versines" "[I", .methodLink RX2 84 yX2_wish, .instanceMethod yX2_wish, .selects RX2 yX2_wish yX2_wish, .initialized RX2, .code yX2_wish cX2_wish 2 (some .int), .methodLink RX2 87 yX2_secondSum, .instanceMethod yX2_secondSum, .selects RX2 yX2_secondSum yX2_secondSum, .code yX2_secondSum cX2_secondSum 4 (some .int)] ++ wsX20)
def wsX2_misread_r1 : List Cond := [Cond.fieldLink RX2 9 "SlewRails$Rail" "pegs" "I", Cond.fieldLink RX2 22 "SlewRails$Rail" "versines" "[I", Cond.methodLink RX2 60 yX2_step, Cond.instanceMethod yX2_step, Cond.selects RX2 yX2_step yX2_step, Cond.initialized RX2, Cond.code yX2_step cX2_step 2 (some .int), Cond.methodLink RX2 57 Lib.Math.abs.name, Cond.static Lib.Math.abs.name, Cond.initialized "java/lang/Math", Cond.code Lib.Math.abs.name Lib.Math.abs.code 1 (some .int), Cond.methodLink RX2 51 yX2_isEased, Cond.instanceMethod yX2_isEased, Cond.selects RX2 yX2_isEased yX2_isEased, Cond.code yX2_isEased cX2_isEased 2 (some .boolean), Cond.fieldLink RX2 18 "SlewRails$Rail" "kinds" "[I", Cond.methodLink RX2 54 yX2_now, Cond.instanceMethod yX2_now, Cond.selects RX2 yX2_now yX2_now, Cond.code yX2_now cX2_now 2 (some .int), Cond.fieldLink RX2 28 "SlewRails$Rail" "slews" "[I", Cond.methodLink RX2 43 yX2_slewAt, Cond.instanceMethod yX2_slewAt, Cond.selects RX2 yX2_slewAt yX2_slewAt]
def wsX2_misread_r2 : List Cond := [Cond.code yX2_slewAt cX2_slewAt 2 (some .int)]
def wsX2_misread : List Cond := .code yX2_misread cX2_misread 8 (some .int) :: ((wsX2_misread_r1 ++ wsX2_misread_r2) ++ wsX20)
def wsX2_passYears_r1 : List Cond := [Cond.fieldLink RX2 9 "SlewRails$Rail" "pegs" "I", Cond.constantLong RX2 90 (16807), Cond.constantLong RX2 92 (2147483647), Cond.constantLong RX2 94 (7), Cond.methodLink RX2 57 Lib.Math.abs.name, Cond.static Lib.Math.abs.name, Cond.initialized "java/lang/Math", Cond.code Lib.Math.abs.name Lib.Math.abs.code 1 (some .int), Cond.fieldLink RX2 28 "SlewRails$Rail" "slews" "[I", Cond.methodLink RX2 78 yX2_reach, Cond.instanceMethod yX2_reach, Cond.selects RX2 yX2_reach yX2_reach, Cond.initialized RX2, Cond.code yX2_reach cX2_reach 2 (some .int), Cond.fieldLink RX2 18 "SlewRails$Rail" "kinds" "[I", Cond.fieldLink RX2 25 "SlewRails$Rail" "bounds" "[I", Cond.methodLink RX2 37 Lib.Math.max.name, Cond.static Lib.Math.max.name, Cond.code Lib.Math.max.name Lib.Math.max.code 2 (some .int), Cond.methodLink RX2 96 yX2_workIn, Cond.instanceMethod yX2_workIn, Cond.selects RX2 yX2_workIn yX2_workIn, Cond.code yX2_workIn cX2_workIn 2 none, Cond.fieldLink RX2 22 "SlewRails$Rail" "versines" "[I"]
def wsX2_passYears_r2 : List Cond := [Cond.methodLink RX2 72 Lib.Math.min.name, Cond.static Lib.Math.min.name, Cond.code Lib.Math.min.name Lib.Math.min.code 2 (some .int), Cond.methodLink RX2 69 yX2_settledAt, Cond.instanceMethod yX2_settledAt, Cond.selects RX2 yX2_settledAt yX2_settledAt, Cond.code yX2_settledAt cX2_settledAt 3 (some .int), Cond.methodLink RX2 43 yX2_slewAt, Cond.instanceMethod yX2_slewAt, Cond.selects RX2 yX2_slewAt yX2_slewAt, Cond.code yX2_slewAt cX2_slewAt 2 (some .int), Cond.methodLink RX2 47 yX2_isSoft, Cond.instanceMethod yX2_isSoft, Cond.selects RX2 yX2_isSoft yX2_isSoft, Cond.code yX2_isSoft cX2_isSoft 2 (some .boolean), Cond.methodLink RX2 54 yX2_now, Cond.instanceMethod yX2_now, Cond.selects RX2 yX2_now yX2_now, Cond.code yX2_now cX2_now 2 (some .int), Cond.methodLink RX2 75 yX2_dropSlews, Cond.instanceMethod yX2_dropSlews, Cond.selects RX2 yX2_dropSlews yX2_dropSlews, Cond.code yX2_dropSlews cX2_dropSlews 1 none, Cond.methodLink RX2 63 yJ7_fill_53178]
def wsX2_passYears_r3 : List Cond := [Cond.static yJ7_fill_53178, Cond.initialized RJ7, Cond.code yJ7_fill_53178 cJ7_fill_53178 4 none]
def wsX2_passYears : List Cond := .code yX2_passYears cX2_passYears 9 (some .int) :: ((wsX2_passYears_r1 ++ (wsX2_passYears_r2 ++ wsX2_passYears_r3)) ++ wsX20)
def wsX3_init : List Cond := .code yX3_init cX3_init 1 none :: ([.methodLink RX3 3 objectInit, .instanceMethod objectInit, .code objectInit ⟨#[0xb1]⟩ 1 none, .fieldLink RX3 11 "SlewRails$Row" "lane" "I", .fieldLink RX3 15 "SlewRails$Row" "size" "I", .arrayClass .int, .fieldLink RX3 18 "SlewRails$Row" "items" "[I"] ++ wsX30)
def wsX3_isMissing : List Cond := .code yX3_isMissing cX3_isMissing 1 (some .boolean) :: ([.fieldLink RX3 11 "SlewRails$Row" "lane" "I"] ++ wsX30)
def wsX3_begin : List Cond := .code yX3_begin cX3_begin 3 none :: ([.fieldLink RX3 11 "SlewRails$Row" "lane" "I", .fieldLink RX3 15 "SlewRails$Row" "size" "I", .fieldLink RX3 18 "SlewRails$Row" "items" "[I", .methodLink RX3 22 yJ7_fill_53178, .static yJ7_fill_53178, .initialized RJ7, .code yJ7_fill_53178 cJ7_fill_53178 4 none] ++ wsX30)
def wsX3_end : List Cond := .code yX3_end cX3_end 2 (some .int) :: ([.fieldLink RX3 15 "SlewRails$Row" "size" "I", .fieldLink RX3 11 "SlewRails$Row" "lane" "I"] ++ wsX30)
def wsX3_holds : List Cond := .code yX3_holds cX3_holds 3 (some .boolean) :: ([.fieldLink RX3 15 "SlewRails$Row" "size" "I"] ++ wsX30)
def wsX3_put : List Cond := .code yX3_put cX3_put 3 (some .int) :: ([.fieldLink RX3 18 "SlewRails$Row" "items" "[I", .fieldLink RX3 11 "SlewRails$Row" "lane" "I"] ++ wsX30)
def wsX3_tellsNow : List Cond := .code yX3_tellsNow cX3_tellsNow 4 (some .boolean) :: ([.fieldLink RX3 18 "SlewRails$Row" "items" "[I", .methodLink RX3 28 yX2_now, .instanceMethod yX2_now, .selects RX2 yX2_now yX2_now, .initialized RX2, .code yX2_now cX2_now 2 (some .int), .fieldLink RX2 22 "SlewRails$Rail" "versines" "[I", .fieldLink RX2 28 "SlewRails$Rail" "slews" "[I", .methodLink RX2 43 yX2_slewAt, .instanceMethod yX2_slewAt, .selects RX2 yX2_slewAt yX2_slewAt, .code yX2_slewAt cX2_slewAt 2 (some .int), .fieldLink RX2 9 "SlewRails$Rail" "pegs" "I"] ++ wsX30 ++ wsX20)
def wsX4_init : List Cond := .code yX4_init cX4_init 1 none :: ([.methodLink RX4 3 objectInit, .instanceMethod objectInit, .code objectInit ⟨#[0xb1]⟩ 1 none, .classLink RX4 9 RX2, .instantiable RX2 6, .initialized RX2, .fieldLink RX4 12 "SlewRails$Search" "known" "LSlewRails$Rail;", .arrayClass .int, .fieldLink RX4 18 "SlewRails$Search" "table" "[I", .fieldLink RX4 22 "SlewRails$Search" "slews" "[I", .fieldLink RX4 25 "SlewRails$Search" "worst" "I", .fieldLink RX4 29 "SlewRails$Search" "uneven" "I", .fieldLink RX4 32 "SlewRails$Search" "moved" "I", .fieldLink RX4 35 "SlewRails$Search" "limit" "I", .instanceMethod yX2_init, .code yX2_init cX2_init 1 none, .methodLink RX2 3 objectInit, .fieldLink RX2 9 "SlewRails$Rail" "pegs" "I", .fieldLink RX2 15 "SlewRails$Rail" "worked" "I", .fieldLink RX2 18 "SlewRails$Rail" "kinds" "[I", .fieldLink RX2 22 "SlewRails$Rail" "versines" "[I", .fieldLink RX2 25 "SlewRails$Rail" "bounds" "[I", .fieldLink RX2 28 "SlewRails$Rail" "slews" "[I"] ++ wsX20 ++ wsX40)
def wsX4_placeOf : List Cond := .code yX4_placeOf cX4_placeOf 4 (some .int) :: ([])
def wsX4_leanOf : List Cond := .code yX4_leanOf cX4_leanOf 5 (some .int) :: ([.fieldLink RX4 12 "SlewRails$Search" "known" "LSlewRails$Rail;", .fieldLink RX4 92 "SlewRails$Rail" "versines" "[I"] ++ wsX40 ++ wsX20)
def wsX4_costOf : List Cond := .code yX4_costOf cX4_costOf 4 (some .int) :: ([.fieldLink RX4 35 "SlewRails$Search" "limit" "I", .constant RX4 82 (268435456)] ++ wsX40)
def wsX4_leastFrom_r1 : List Cond := [Cond.fieldLink RX4 12 "SlewRails$Search" "known" "LSlewRails$Rail;", Cond.constant RX4 82 (268435456), Cond.methodLink RX4 83 Lib.Math.abs.name, Cond.static Lib.Math.abs.name, Cond.initialized "java/lang/Math", Cond.code Lib.Math.abs.name Lib.Math.abs.code 1 (some .int), Cond.fieldLink RX4 18 "SlewRails$Search" "table" "[I", Cond.methodLink RX4 60 yX2_reach, Cond.instanceMethod yX2_reach, Cond.selects RX2 yX2_reach yX2_reach, Cond.initialized RX2, Cond.code yX2_reach cX2_reach 2 (some .int), Cond.fieldLink RX2 9 "SlewRails$Rail" "pegs" "I", Cond.fieldLink RX2 18 "SlewRails$Rail" "kinds" "[I", Cond.fieldLink RX2 25 "SlewRails$Rail" "bounds" "[I", Cond.methodLink RX2 37 Lib.Math.max.name, Cond.static Lib.Math.max.name, Cond.code Lib.Math.max.name Lib.Math.max.code 2 (some .int), Cond.methodLink RX4 75 yX2_isEased, Cond.instanceMethod yX2_isEased, Cond.selects RX2 yX2_isEased yX2_isEased, Cond.code yX2_isEased cX2_isEased 2 (some .boolean), Cond.methodLink RX4 79 yX4_leanOf, Cond.instanceMethod yX4_leanOf]
def wsX4_leastFrom_r2 : List Cond := [Cond.selects RX4 yX4_leanOf yX4_leanOf, Cond.initialized RX4, Cond.code yX4_leanOf cX4_leanOf 5 (some .int), Cond.fieldLink RX4 92 "SlewRails$Rail" "versines" "[I", Cond.methodLink RX4 68 yX4_placeOf, Cond.static yX4_placeOf, Cond.code yX4_placeOf cX4_placeOf 4 (some .int), Cond.methodLink RX4 88 yX4_costOf, Cond.instanceMethod yX4_costOf, Cond.selects RX4 yX4_costOf yX4_costOf, Cond.code yX4_costOf cX4_costOf 4 (some .int), Cond.fieldLink RX4 35 "SlewRails$Search" "limit" "I"]
def wsX4_leastFrom : List Cond := .code yX4_leastFrom cX4_leastFrom 12 (some .int) :: ((wsX4_leastFrom_r1 ++ wsX4_leastFrom_r2) ++ wsX40 ++ wsX20)
def wsX4_fillChoices_r1 : List Cond := [Cond.fieldLink RX4 18 "SlewRails$Search" "table" "[I", Cond.methodLink RX4 68 yX4_placeOf, Cond.static yX4_placeOf, Cond.initialized RX4, Cond.code yX4_placeOf cX4_placeOf 4 (some .int), Cond.methodLink RX4 72 yX4_leastFrom, Cond.instanceMethod yX4_leastFrom, Cond.selects RX4 yX4_leastFrom yX4_leastFrom, Cond.code yX4_leastFrom cX4_leastFrom 12 (some .int), Cond.fieldLink RX4 12 "SlewRails$Search" "known" "LSlewRails$Rail;", Cond.constant RX4 82 (268435456), Cond.methodLink RX4 83 Lib.Math.abs.name, Cond.static Lib.Math.abs.name, Cond.initialized "java/lang/Math", Cond.code Lib.Math.abs.name Lib.Math.abs.code 1 (some .int), Cond.methodLink RX4 60 yX2_reach, Cond.instanceMethod yX2_reach, Cond.selects RX2 yX2_reach yX2_reach, Cond.initialized RX2, Cond.code yX2_reach cX2_reach 2 (some .int), Cond.fieldLink RX2 9 "SlewRails$Rail" "pegs" "I", Cond.fieldLink RX2 18 "SlewRails$Rail" "kinds" "[I", Cond.fieldLink RX2 25 "SlewRails$Rail" "bounds" "[I", Cond.methodLink RX2 37 Lib.Math.max.name]
def wsX4_fillChoices_r2 : List Cond := [Cond.static Lib.Math.max.name, Cond.code Lib.Math.max.name Lib.Math.max.code 2 (some .int), Cond.methodLink RX4 75 yX2_isEased, Cond.instanceMethod yX2_isEased, Cond.selects RX2 yX2_isEased yX2_isEased, Cond.code yX2_isEased cX2_isEased 2 (some .boolean), Cond.methodLink RX4 79 yX4_leanOf, Cond.instanceMethod yX4_leanOf, Cond.selects RX4 yX4_leanOf yX4_leanOf, Cond.code yX4_leanOf cX4_leanOf 5 (some .int), Cond.fieldLink RX4 92 "SlewRails$Rail" "versines" "[I", Cond.methodLink RX4 88 yX4_costOf, Cond.instanceMethod yX4_costOf, Cond.selects RX4 yX4_costOf yX4_costOf, Cond.code yX4_costOf cX4_costOf 4 (some .int), Cond.fieldLink RX4 35 "SlewRails$Search" "limit" "I"]
def wsX4_fillChoices : List Cond := .code yX4_fillChoices cX4_fillChoices 8 none :: ((wsX4_fillChoices_r1 ++ wsX4_fillChoices_r2) ++ wsX40 ++ wsX20)
def wsX4_fillTable_r1 : List Cond := [Cond.fieldLink RX4 12 "SlewRails$Search" "known" "LSlewRails$Rail;", Cond.fieldLink RX4 57 "SlewRails$Rail" "pegs" "I", Cond.fieldLink RX4 18 "SlewRails$Search" "table" "[I", Cond.methodLink RX4 60 yX2_reach, Cond.instanceMethod yX2_reach, Cond.selects RX2 yX2_reach yX2_reach, Cond.initialized RX2, Cond.code yX2_reach cX2_reach 2 (some .int), Cond.fieldLink RX2 9 "SlewRails$Rail" "pegs" "I", Cond.fieldLink RX2 18 "SlewRails$Rail" "kinds" "[I", Cond.fieldLink RX2 25 "SlewRails$Rail" "bounds" "[I", Cond.methodLink RX2 37 Lib.Math.max.name, Cond.static Lib.Math.max.name, Cond.initialized "java/lang/Math", Cond.code Lib.Math.max.name Lib.Math.max.code 2 (some .int), Cond.methodLink RX4 64 yX4_fillChoices, Cond.instanceMethod yX4_fillChoices, Cond.selects RX4 yX4_fillChoices yX4_fillChoices, Cond.initialized RX4, Cond.code yX4_fillChoices cX4_fillChoices 8 none, Cond.methodLink RX4 68 yX4_placeOf, Cond.static yX4_placeOf, Cond.code yX4_placeOf cX4_placeOf 4 (some .int), Cond.methodLink RX4 72 yX4_leastFrom]
def wsX4_fillTable_r2 : List Cond := [Cond.instanceMethod yX4_leastFrom, Cond.selects RX4 yX4_leastFrom yX4_leastFrom, Cond.code yX4_leastFrom cX4_leastFrom 12 (some .int), Cond.constant RX4 82 (268435456), Cond.methodLink RX4 83 Lib.Math.abs.name, Cond.static Lib.Math.abs.name, Cond.code Lib.Math.abs.name Lib.Math.abs.code 1 (some .int), Cond.methodLink RX4 75 yX2_isEased, Cond.instanceMethod yX2_isEased, Cond.selects RX2 yX2_isEased yX2_isEased, Cond.code yX2_isEased cX2_isEased 2 (some .boolean), Cond.methodLink RX4 79 yX4_leanOf, Cond.instanceMethod yX4_leanOf, Cond.selects RX4 yX4_leanOf yX4_leanOf, Cond.code yX4_leanOf cX4_leanOf 5 (some .int), Cond.fieldLink RX4 92 "SlewRails$Rail" "versines" "[I", Cond.methodLink RX4 88 yX4_costOf, Cond.instanceMethod yX4_costOf, Cond.selects RX4 yX4_costOf yX4_costOf, Cond.code yX4_costOf cX4_costOf 4 (some .int), Cond.fieldLink RX4 35 "SlewRails$Search" "limit" "I"]
def wsX4_fillTable : List Cond := .code yX4_fillTable cX4_fillTable 3 none :: ((wsX4_fillTable_r1 ++ wsX4_fillTable_r2) ++ wsX40 ++ wsX20)
def wsX4_costOfFirst : List Cond := .code yX4_costOfFirst cX4_costOfFirst 4 (some .int) :: ([.fieldLink RX4 18 "SlewRails$Search" "table" "[I", .fieldLink RX4 35 "SlewRails$Search" "limit" "I", .methodLink RX4 83 Lib.Math.abs.name, .static Lib.Math.abs.name, .initialized "java/lang/Math", .code Lib.Math.abs.name Lib.Math.abs.code 1 (some .int), .methodLink RX4 68 yX4_placeOf, .static yX4_placeOf, .initialized RX4, .code yX4_placeOf cX4_placeOf 4 (some .int)] ++ wsX40)
def wsX4_leastOfAll_r1 : List Cond := [Cond.fieldLink RX4 12 "SlewRails$Search" "known" "LSlewRails$Rail;", Cond.constant RX4 82 (268435456), Cond.methodLink RX4 99 Lib.Math.min.name, Cond.static Lib.Math.min.name, Cond.initialized "java/lang/Math", Cond.code Lib.Math.min.name Lib.Math.min.code 2 (some .int), Cond.methodLink RX4 60 yX2_reach, Cond.instanceMethod yX2_reach, Cond.selects RX2 yX2_reach yX2_reach, Cond.initialized RX2, Cond.code yX2_reach cX2_reach 2 (some .int), Cond.fieldLink RX2 9 "SlewRails$Rail" "pegs" "I", Cond.fieldLink RX2 18 "SlewRails$Rail" "kinds" "[I", Cond.fieldLink RX2 25 "SlewRails$Rail" "bounds" "[I", Cond.methodLink RX2 37 Lib.Math.max.name, Cond.static Lib.Math.max.name, Cond.code Lib.Math.max.name Lib.Math.max.code 2 (some .int), Cond.methodLink RX4 95 yX4_costOfFirst, Cond.instanceMethod yX4_costOfFirst, Cond.selects RX4 yX4_costOfFirst yX4_costOfFirst, Cond.initialized RX4, Cond.code yX4_costOfFirst cX4_costOfFirst 4 (some .int), Cond.fieldLink RX4 18 "SlewRails$Search" "table" "[I", Cond.fieldLink RX4 35 "SlewRails$Search" "limit" "I"]
def wsX4_leastOfAll_r2 : List Cond := [Cond.methodLink RX4 83 Lib.Math.abs.name, Cond.static Lib.Math.abs.name, Cond.code Lib.Math.abs.name Lib.Math.abs.code 1 (some .int), Cond.methodLink RX4 68 yX4_placeOf, Cond.static yX4_placeOf, Cond.code yX4_placeOf cX4_placeOf 4 (some .int)]
def wsX4_leastOfAll : List Cond := .code yX4_leastOfAll cX4_leastOfAll 6 (some .int) :: ((wsX4_leastOfAll_r1 ++ wsX4_leastOfAll_r2) ++ wsX40 ++ wsX20)
def wsX4_pickFirst_r1 : List Cond := [Cond.fieldLink RX4 12 "SlewRails$Search" "known" "LSlewRails$Rail;", Cond.fieldLink RX4 22 "SlewRails$Search" "slews" "[I", Cond.methodLink RX4 60 yX2_reach, Cond.instanceMethod yX2_reach, Cond.selects RX2 yX2_reach yX2_reach, Cond.initialized RX2, Cond.code yX2_reach cX2_reach 2 (some .int), Cond.fieldLink RX2 9 "SlewRails$Rail" "pegs" "I", Cond.fieldLink RX2 18 "SlewRails$Rail" "kinds" "[I", Cond.fieldLink RX2 25 "SlewRails$Rail" "bounds" "[I", Cond.methodLink RX2 37 Lib.Math.max.name, Cond.static Lib.Math.max.name, Cond.initialized "java/lang/Math", Cond.code Lib.Math.max.name Lib.Math.max.code 2 (some .int), Cond.methodLink RX4 95 yX4_costOfFirst, Cond.instanceMethod yX4_costOfFirst, Cond.selects RX4 yX4_costOfFirst yX4_costOfFirst, Cond.initialized RX4, Cond.code yX4_costOfFirst cX4_costOfFirst 4 (some .int), Cond.fieldLink RX4 18 "SlewRails$Search" "table" "[I", Cond.fieldLink RX4 35 "SlewRails$Search" "limit" "I", Cond.methodLink RX4 83 Lib.Math.abs.name, Cond.static Lib.Math.abs.name, Cond.code Lib.Math.abs.name Lib.Math.abs.code 1 (some .int)]
def wsX4_pickFirst_r2 : List Cond := [Cond.methodLink RX4 68 yX4_placeOf, Cond.static yX4_placeOf, Cond.code yX4_placeOf cX4_placeOf 4 (some .int)]
def wsX4_pickFirst : List Cond := .code yX4_pickFirst cX4_pickFirst 6 none :: ((wsX4_pickFirst_r1 ++ wsX4_pickFirst_r2) ++ wsX40 ++ wsX20)
def wsX4_pickNext_r1 : List Cond := [Cond.fieldLink RX4 12 "SlewRails$Search" "known" "LSlewRails$Rail;", Cond.fieldLink RX4 18 "SlewRails$Search" "table" "[I", Cond.methodLink RX4 83 Lib.Math.abs.name, Cond.static Lib.Math.abs.name, Cond.initialized "java/lang/Math", Cond.code Lib.Math.abs.name Lib.Math.abs.code 1 (some .int), Cond.methodLink RX4 60 yX2_reach, Cond.instanceMethod yX2_reach, Cond.selects RX2 yX2_reach yX2_reach, Cond.initialized RX2, Cond.code yX2_reach cX2_reach 2 (some .int), Cond.fieldLink RX2 9 "SlewRails$Rail" "pegs" "I", Cond.fieldLink RX2 18 "SlewRails$Rail" "kinds" "[I", Cond.fieldLink RX2 25 "SlewRails$Rail" "bounds" "[I", Cond.methodLink RX2 37 Lib.Math.max.name, Cond.static Lib.Math.max.name, Cond.code Lib.Math.max.name Lib.Math.max.code 2 (some .int), Cond.methodLink RX4 68 yX4_placeOf, Cond.static yX4_placeOf, Cond.initialized RX4, Cond.code yX4_placeOf cX4_placeOf 4 (some .int), Cond.methodLink RX4 79 yX4_leanOf, Cond.instanceMethod yX4_leanOf, Cond.selects RX4 yX4_leanOf yX4_leanOf]
def wsX4_pickNext_r2 : List Cond := [Cond.code yX4_leanOf cX4_leanOf 5 (some .int), Cond.fieldLink RX4 92 "SlewRails$Rail" "versines" "[I", Cond.methodLink RX4 75 yX2_isEased, Cond.instanceMethod yX2_isEased, Cond.selects RX2 yX2_isEased yX2_isEased, Cond.code yX2_isEased cX2_isEased 2 (some .boolean), Cond.methodLink RX4 88 yX4_costOf, Cond.instanceMethod yX4_costOf, Cond.selects RX4 yX4_costOf yX4_costOf, Cond.code yX4_costOf cX4_costOf 4 (some .int), Cond.fieldLink RX4 35 "SlewRails$Search" "limit" "I", Cond.constant RX4 82 (268435456)]
def wsX4_pickNext : List Cond := .code yX4_pickNext cX4_pickNext 10 (some .int) :: ((wsX4_pickNext_r1 ++ wsX4_pickNext_r2) ++ wsX40 ++ wsX20)
def wsX4_pickSlews_r1 : List Cond := [Cond.fieldLink RX4 12 "SlewRails$Search" "known" "LSlewRails$Rail;", Cond.fieldLink RX4 57 "SlewRails$Rail" "pegs" "I", Cond.fieldLink RX4 22 "SlewRails$Search" "slews" "[I", Cond.methodLink RX4 102 yX4_pickFirst, Cond.instanceMethod yX4_pickFirst, Cond.selects RX4 yX4_pickFirst yX4_pickFirst, Cond.initialized RX4, Cond.code yX4_pickFirst cX4_pickFirst 6 none, Cond.methodLink RX4 60 yX2_reach, Cond.instanceMethod yX2_reach, Cond.selects RX2 yX2_reach yX2_reach, Cond.initialized RX2, Cond.code yX2_reach cX2_reach 2 (some .int), Cond.fieldLink RX2 9 "SlewRails$Rail" "pegs" "I", Cond.fieldLink RX2 18 "SlewRails$Rail" "kinds" "[I", Cond.fieldLink RX2 25 "SlewRails$Rail" "bounds" "[I", Cond.methodLink RX2 37 Lib.Math.max.name, Cond.static Lib.Math.max.name, Cond.initialized "java/lang/Math", Cond.code Lib.Math.max.name Lib.Math.max.code 2 (some .int), Cond.methodLink RX4 95 yX4_costOfFirst, Cond.instanceMethod yX4_costOfFirst, Cond.selects RX4 yX4_costOfFirst yX4_costOfFirst, Cond.code yX4_costOfFirst cX4_costOfFirst 4 (some .int)]
def wsX4_pickSlews_r2 : List Cond := [Cond.fieldLink RX4 18 "SlewRails$Search" "table" "[I", Cond.fieldLink RX4 35 "SlewRails$Search" "limit" "I", Cond.methodLink RX4 83 Lib.Math.abs.name, Cond.static Lib.Math.abs.name, Cond.code Lib.Math.abs.name Lib.Math.abs.code 1 (some .int), Cond.methodLink RX4 68 yX4_placeOf, Cond.static yX4_placeOf, Cond.code yX4_placeOf cX4_placeOf 4 (some .int), Cond.methodLink RX4 105 yX4_pickNext, Cond.instanceMethod yX4_pickNext, Cond.selects RX4 yX4_pickNext yX4_pickNext, Cond.code yX4_pickNext cX4_pickNext 10 (some .int), Cond.methodLink RX4 79 yX4_leanOf, Cond.instanceMethod yX4_leanOf, Cond.selects RX4 yX4_leanOf yX4_leanOf, Cond.code yX4_leanOf cX4_leanOf 5 (some .int), Cond.fieldLink RX4 92 "SlewRails$Rail" "versines" "[I", Cond.methodLink RX4 75 yX2_isEased, Cond.instanceMethod yX2_isEased, Cond.selects RX2 yX2_isEased yX2_isEased, Cond.code yX2_isEased cX2_isEased 2 (some .boolean), Cond.methodLink RX4 88 yX4_costOf, Cond.instanceMethod yX4_costOf, Cond.selects RX4 yX4_costOf yX4_costOf]
def wsX4_pickSlews_r3 : List Cond := [Cond.code yX4_costOf cX4_costOf 4 (some .int), Cond.constant RX4 82 (268435456)]
def wsX4_pickSlews : List Cond := .code yX4_pickSlews cX4_pickSlews 4 none :: ((wsX4_pickSlews_r1 ++ (wsX4_pickSlews_r2 ++ wsX4_pickSlews_r3)) ++ wsX40 ++ wsX20)
def wsX4_solve_r1 : List Cond := [Cond.fieldLink RX4 12 "SlewRails$Search" "known" "LSlewRails$Rail;", Cond.fieldLink RX4 35 "SlewRails$Search" "limit" "I", Cond.fieldLink RX4 25 "SlewRails$Search" "worst" "I", Cond.fieldLink RX4 29 "SlewRails$Search" "uneven" "I", Cond.fieldLink RX4 32 "SlewRails$Search" "moved" "I", Cond.methodLink RX4 38 yX2_isLike, Cond.instanceMethod yX2_isLike, Cond.selects RX2 yX2_isLike yX2_isLike, Cond.initialized RX2, Cond.code yX2_isLike cX2_isLike 3 (some .boolean), Cond.fieldLink RX2 9 "SlewRails$Rail" "pegs" "I", Cond.fieldLink RX2 18 "SlewRails$Rail" "kinds" "[I", Cond.fieldLink RX2 22 "SlewRails$Rail" "versines" "[I", Cond.fieldLink RX2 25 "SlewRails$Rail" "bounds" "[I", Cond.methodLink RX4 42 yX2_become, Cond.instanceMethod yX2_become, Cond.selects RX2 yX2_become yX2_become, Cond.code yX2_become cX2_become 2 none, Cond.fieldLink RX2 15 "SlewRails$Rail" "worked" "I", Cond.methodLink RX2 31 arraycopyName, Cond.native arraycopyName, Cond.static arraycopyName, Cond.initialized "java/lang/System", Cond.fieldLink RX2 28 "SlewRails$Rail" "slews" "[I"]
def wsX4_solve_r2 : List Cond := [Cond.methodLink RX4 46 yX4_fillTable, Cond.instanceMethod yX4_fillTable, Cond.selects RX4 yX4_fillTable yX4_fillTable, Cond.initialized RX4, Cond.code yX4_fillTable cX4_fillTable 3 none, Cond.fieldLink RX4 57 "SlewRails$Rail" "pegs" "I", Cond.fieldLink RX4 18 "SlewRails$Search" "table" "[I", Cond.methodLink RX4 60 yX2_reach, Cond.instanceMethod yX2_reach, Cond.selects RX2 yX2_reach yX2_reach, Cond.code yX2_reach cX2_reach 2 (some .int), Cond.methodLink RX2 37 Lib.Math.max.name, Cond.static Lib.Math.max.name, Cond.initialized "java/lang/Math", Cond.code Lib.Math.max.name Lib.Math.max.code 2 (some .int), Cond.methodLink RX4 64 yX4_fillChoices, Cond.instanceMethod yX4_fillChoices, Cond.selects RX4 yX4_fillChoices yX4_fillChoices, Cond.code yX4_fillChoices cX4_fillChoices 8 none, Cond.methodLink RX4 68 yX4_placeOf, Cond.static yX4_placeOf, Cond.code yX4_placeOf cX4_placeOf 4 (some .int), Cond.methodLink RX4 72 yX4_leastFrom, Cond.instanceMethod yX4_leastFrom]
def wsX4_solve_r3 : List Cond := [Cond.selects RX4 yX4_leastFrom yX4_leastFrom, Cond.code yX4_leastFrom cX4_leastFrom 12 (some .int), Cond.constant RX4 82 (268435456), Cond.methodLink RX4 83 Lib.Math.abs.name, Cond.static Lib.Math.abs.name, Cond.code Lib.Math.abs.name Lib.Math.abs.code 1 (some .int), Cond.methodLink RX4 75 yX2_isEased, Cond.instanceMethod yX2_isEased, Cond.selects RX2 yX2_isEased yX2_isEased, Cond.code yX2_isEased cX2_isEased 2 (some .boolean), Cond.methodLink RX4 79 yX4_leanOf, Cond.instanceMethod yX4_leanOf, Cond.selects RX4 yX4_leanOf yX4_leanOf, Cond.code yX4_leanOf cX4_leanOf 5 (some .int), Cond.fieldLink RX4 92 "SlewRails$Rail" "versines" "[I", Cond.methodLink RX4 88 yX4_costOf, Cond.instanceMethod yX4_costOf, Cond.selects RX4 yX4_costOf yX4_costOf, Cond.code yX4_costOf cX4_costOf 4 (some .int), Cond.methodLink RX4 49 yX4_leastOfAll, Cond.instanceMethod yX4_leastOfAll, Cond.selects RX4 yX4_leastOfAll yX4_leastOfAll, Cond.code yX4_leastOfAll cX4_leastOfAll 6 (some .int), Cond.methodLink RX4 99 Lib.Math.min.name]
def wsX4_solve_r4 : List Cond := [Cond.static Lib.Math.min.name, Cond.code Lib.Math.min.name Lib.Math.min.code 2 (some .int), Cond.methodLink RX4 95 yX4_costOfFirst, Cond.instanceMethod yX4_costOfFirst, Cond.selects RX4 yX4_costOfFirst yX4_costOfFirst, Cond.code yX4_costOfFirst cX4_costOfFirst 4 (some .int), Cond.methodLink RX4 53 yX4_pickSlews, Cond.instanceMethod yX4_pickSlews, Cond.selects RX4 yX4_pickSlews yX4_pickSlews, Cond.code yX4_pickSlews cX4_pickSlews 4 none, Cond.fieldLink RX4 22 "SlewRails$Search" "slews" "[I", Cond.methodLink RX4 102 yX4_pickFirst, Cond.instanceMethod yX4_pickFirst, Cond.selects RX4 yX4_pickFirst yX4_pickFirst, Cond.code yX4_pickFirst cX4_pickFirst 6 none, Cond.methodLink RX4 105 yX4_pickNext, Cond.instanceMethod yX4_pickNext, Cond.selects RX4 yX4_pickNext yX4_pickNext, Cond.code yX4_pickNext cX4_pickNext 10 (some .int)]
def wsX4_solve : List Cond := .code yX4_solve cX4_solve 3 none :: ((wsX4_solve_r1 ++ (wsX4_solve_r2 ++ (wsX4_solve_r3 ++ wsX4_solve_r4))) ++ wsX40 ++ wsX20)
def wsX5_init : List Cond := .code yX5_init cX5_init 1 none :: ([.methodLink RX5 1 objectInit, .instanceMethod objectInit, .code objectInit ⟨#[0xb1]⟩ 1 none, .fieldLink RX5 7 "SlewRails$Settling" "above" "J", .fieldLink RX5 13 "SlewRails$Settling" "below" "J", .arrayClass .long, .fieldLink RX5 16 "SlewRails$Settling" "ways" "[J", .fieldLink RX5 20 "SlewRails$Settling" "waysOn" "[J", .fieldLink RX5 23 "SlewRails$Settling" "settled" "I"] ++ wsX50)
def wsJ7_fill_d0a16 : List Cond := .code yJ7_fill_d0a16 cJ7_fill_d0a16 5 none :: ([])
def wsX5_settles : List Cond := .code yX5_settles cX5_settles 2 (some .boolean) :: ([.methodLink RX5 50 yX2_settledAt, .instanceMethod yX2_settledAt, .selects RX2 yX2_settledAt yX2_settledAt, .initialized RX2, .code yX2_settledAt cX2_settledAt 3 (some .int), .methodLink RX2 43 yX2_slewAt, .instanceMethod yX2_slewAt, .selects RX2 yX2_slewAt yX2_slewAt, .code yX2_slewAt cX2_slewAt 2 (some .int), .fieldLink RX2 9 "SlewRails$Rail" "pegs" "I", .fieldLink RX2 28 "SlewRails$Rail" "slews" "[I", .methodLink RX2 47 yX2_isSoft, .instanceMethod yX2_isSoft, .selects RX2 yX2_isSoft yX2_isSoft, .code yX2_isSoft cX2_isSoft 2 (some .boolean), .fieldLink RX2 18 "SlewRails$Rail" "kinds" "[I", .methodLink RX5 54 yX2_slewAt] ++ wsX20)
def wsX5_waysOf : List Cond := .code yX5_waysOf cX5_waysOf 4 (some .int) :: ([.fieldLink RX5 23 "SlewRails$Settling" "settled" "I", .methodLink RX5 40 yX5_settles, .static yX5_settles, .initialized RX5, .code yX5_settles cX5_settles 2 (some .boolean), .methodLink RX5 50 yX2_settledAt, .instanceMethod yX2_settledAt, .selects RX2 yX2_settledAt yX2_settledAt, .initialized RX2, .code yX2_settledAt cX2_settledAt 3 (some .int), .methodLink RX2 43 yX2_slewAt, .instanceMethod yX2_slewAt, .selects RX2 yX2_slewAt yX2_slewAt, .code yX2_slewAt cX2_slewAt 2 (some .int), .fieldLink RX2 9 "SlewRails$Rail" "pegs" "I", .fieldLink RX2 28 "SlewRails$Rail" "slews" "[I", .methodLink RX2 47 yX2_isSoft, .instanceMethod yX2_isSoft, .selects RX2 yX2_isSoft yX2_isSoft, .code yX2_isSoft cX2_isSoft 2 (some .boolean), .fieldLink RX2 18 "SlewRails$Rail" "kinds" "[I", .methodLink RX5 54 yX2_slewAt] ++ wsX50 ++ wsX20)
def wsX5_beginWays_r1 : List Cond := [Cond.fieldLink RX5 16 "SlewRails$Settling" "ways" "[J", Cond.methodLink RX5 57 yJ7_fill_d0a16, Cond.static yJ7_fill_d0a16, Cond.initialized RJ7, Cond.code yJ7_fill_d0a16 cJ7_fill_d0a16 5 none, Cond.methodLink RX5 63 yX5_waysOf, Cond.instanceMethod yX5_waysOf, Cond.selects RX5 yX5_waysOf yX5_waysOf, Cond.initialized RX5, Cond.code yX5_waysOf cX5_waysOf 4 (some .int), Cond.fieldLink RX5 23 "SlewRails$Settling" "settled" "I", Cond.methodLink RX5 40 yX5_settles, Cond.static yX5_settles, Cond.code yX5_settles cX5_settles 2 (some .boolean), Cond.methodLink RX5 50 yX2_settledAt, Cond.instanceMethod yX2_settledAt, Cond.selects RX2 yX2_settledAt yX2_settledAt, Cond.initialized RX2, Cond.code yX2_settledAt cX2_settledAt 3 (some .int), Cond.methodLink RX2 43 yX2_slewAt, Cond.instanceMethod yX2_slewAt, Cond.selects RX2 yX2_slewAt yX2_slewAt, Cond.code yX2_slewAt cX2_slewAt 2 (some .int), Cond.fieldLink RX2 9 "SlewRails$Rail" "pegs" "I"]
def wsX5_beginWays_r2 : List Cond := [Cond.fieldLink RX2 28 "SlewRails$Rail" "slews" "[I", Cond.methodLink RX2 47 yX2_isSoft, Cond.instanceMethod yX2_isSoft, Cond.selects RX2 yX2_isSoft yX2_isSoft, Cond.code yX2_isSoft cX2_isSoft 2 (some .boolean), Cond.fieldLink RX2 18 "SlewRails$Rail" "kinds" "[I", Cond.methodLink RX5 54 yX2_slewAt]
def wsX5_beginWays : List Cond := .code yX5_beginWays cX5_beginWays 3 none :: ((wsX5_beginWays_r1 ++ wsX5_beginWays_r2) ++ wsX50 ++ wsX20)
def wsX5_slewBy : List Cond := .code yX5_slewBy cX5_slewBy 3 (some .int) :: ([.methodLink RX5 54 yX2_slewAt, .instanceMethod yX2_slewAt, .selects RX2 yX2_slewAt yX2_slewAt, .initialized RX2, .code yX2_slewAt cX2_slewAt 2 (some .int), .fieldLink RX2 9 "SlewRails$Rail" "pegs" "I", .fieldLink RX2 28 "SlewRails$Rail" "slews" "[I", .methodLink RX5 50 yX2_settledAt, .instanceMethod yX2_settledAt, .selects RX2 yX2_settledAt yX2_settledAt, .code yX2_settledAt cX2_settledAt 3 (some .int), .methodLink RX2 43 yX2_slewAt, .methodLink RX2 47 yX2_isSoft, .instanceMethod yX2_isSoft, .selects RX2 yX2_isSoft yX2_isSoft, .code yX2_isSoft cX2_isSoft 2 (some .boolean), .fieldLink RX2 18 "SlewRails$Rail" "kinds" "[I"] ++ wsX20)
def wsX5_stepBy_r1 : List Cond := [Cond.fieldLink RX5 77 "SlewRails$Rail" "versines" "[I", Cond.methodLink RX5 81 Lib.Math.abs.name, Cond.static Lib.Math.abs.name, Cond.initialized "java/lang/Math", Cond.code Lib.Math.abs.name Lib.Math.abs.code 1 (some .int), Cond.methodLink RX5 70 yX2_isEased, Cond.instanceMethod yX2_isEased, Cond.selects RX2 yX2_isEased yX2_isEased, Cond.initialized RX2, Cond.code yX2_isEased cX2_isEased 2 (some .boolean), Cond.fieldLink RX2 9 "SlewRails$Rail" "pegs" "I", Cond.fieldLink RX2 18 "SlewRails$Rail" "kinds" "[I", Cond.methodLink RX5 74 yX5_slewBy, Cond.static yX5_slewBy, Cond.initialized RX5, Cond.code yX5_slewBy cX5_slewBy 3 (some .int), Cond.methodLink RX5 54 yX2_slewAt, Cond.instanceMethod yX2_slewAt, Cond.selects RX2 yX2_slewAt yX2_slewAt, Cond.code yX2_slewAt cX2_slewAt 2 (some .int), Cond.fieldLink RX2 28 "SlewRails$Rail" "slews" "[I", Cond.methodLink RX5 50 yX2_settledAt, Cond.instanceMethod yX2_settledAt, Cond.selects RX2 yX2_settledAt yX2_settledAt]
def wsX5_stepBy_r2 : List Cond := [Cond.code yX2_settledAt cX2_settledAt 3 (some .int), Cond.methodLink RX2 43 yX2_slewAt, Cond.methodLink RX2 47 yX2_isSoft, Cond.instanceMethod yX2_isSoft, Cond.selects RX2 yX2_isSoft yX2_isSoft, Cond.code yX2_isSoft cX2_isSoft 2 (some .boolean)]
def wsX5_stepBy : List Cond := .code yX5_stepBy cX5_stepBy 7 (some .int) :: ((wsX5_stepBy_r1 ++ wsX5_stepBy_r2) ++ wsX20)
def wsX5_goOn_r1 : List Cond := [Cond.fieldLink RX5 20 "SlewRails$Settling" "waysOn" "[J", Cond.fieldLink RX5 16 "SlewRails$Settling" "ways" "[J", Cond.methodLink RX5 57 yJ7_fill_d0a16, Cond.static yJ7_fill_d0a16, Cond.initialized RJ7, Cond.code yJ7_fill_d0a16 cJ7_fill_d0a16 5 none, Cond.methodLink RX5 63 yX5_waysOf, Cond.instanceMethod yX5_waysOf, Cond.selects RX5 yX5_waysOf yX5_waysOf, Cond.initialized RX5, Cond.code yX5_waysOf cX5_waysOf 4 (some .int), Cond.fieldLink RX5 23 "SlewRails$Settling" "settled" "I", Cond.methodLink RX5 40 yX5_settles, Cond.static yX5_settles, Cond.code yX5_settles cX5_settles 2 (some .boolean), Cond.methodLink RX5 50 yX2_settledAt, Cond.instanceMethod yX2_settledAt, Cond.selects RX2 yX2_settledAt yX2_settledAt, Cond.initialized RX2, Cond.code yX2_settledAt cX2_settledAt 3 (some .int), Cond.methodLink RX2 43 yX2_slewAt, Cond.instanceMethod yX2_slewAt, Cond.selects RX2 yX2_slewAt yX2_slewAt, Cond.code yX2_slewAt cX2_slewAt 2 (some .int)]
def wsX5_goOn_r2 : List Cond := [Cond.fieldLink RX2 9 "SlewRails$Rail" "pegs" "I", Cond.fieldLink RX2 28 "SlewRails$Rail" "slews" "[I", Cond.methodLink RX2 47 yX2_isSoft, Cond.instanceMethod yX2_isSoft, Cond.selects RX2 yX2_isSoft yX2_isSoft, Cond.code yX2_isSoft cX2_isSoft 2 (some .boolean), Cond.fieldLink RX2 18 "SlewRails$Rail" "kinds" "[I", Cond.methodLink RX5 54 yX2_slewAt, Cond.methodLink RX5 67 yX5_stepBy, Cond.static yX5_stepBy, Cond.code yX5_stepBy cX5_stepBy 7 (some .int), Cond.fieldLink RX5 77 "SlewRails$Rail" "versines" "[I", Cond.methodLink RX5 81 Lib.Math.abs.name, Cond.static Lib.Math.abs.name, Cond.initialized "java/lang/Math", Cond.code Lib.Math.abs.name Lib.Math.abs.code 1 (some .int), Cond.methodLink RX5 70 yX2_isEased, Cond.instanceMethod yX2_isEased, Cond.selects RX2 yX2_isEased yX2_isEased, Cond.code yX2_isEased cX2_isEased 2 (some .boolean), Cond.methodLink RX5 74 yX5_slewBy, Cond.static yX5_slewBy, Cond.code yX5_slewBy cX5_slewBy 3 (some .int)]
def wsX5_goOn : List Cond := .code yX5_goOn cX5_goOn 7 none :: ((wsX5_goOn_r1 ++ wsX5_goOn_r2) ++ wsX50 ++ wsX20)
def wsX5_commonDivisor : List Cond := .code yX5_commonDivisor cX5_commonDivisor 11 (some .long) :: ([])
def wsX5_solve_r1 : List Cond := [Cond.fieldLink RX5 23 "SlewRails$Settling" "settled" "I", Cond.fieldLink RX5 31 "SlewRails$Rail" "pegs" "I", Cond.fieldLink RX5 7 "SlewRails$Settling" "above" "J", Cond.fieldLink RX5 16 "SlewRails$Settling" "ways" "[J", Cond.fieldLink RX5 13 "SlewRails$Settling" "below" "J", Cond.constantLong RX5 44 (10), Cond.methodLink RX5 27 yX5_beginWays, Cond.instanceMethod yX5_beginWays, Cond.selects RX5 yX5_beginWays yX5_beginWays, Cond.initialized RX5, Cond.code yX5_beginWays cX5_beginWays 3 none, Cond.methodLink RX5 57 yJ7_fill_d0a16, Cond.static yJ7_fill_d0a16, Cond.initialized RJ7, Cond.code yJ7_fill_d0a16 cJ7_fill_d0a16 5 none, Cond.methodLink RX5 63 yX5_waysOf, Cond.instanceMethod yX5_waysOf, Cond.selects RX5 yX5_waysOf yX5_waysOf, Cond.code yX5_waysOf cX5_waysOf 4 (some .int), Cond.methodLink RX5 40 yX5_settles, Cond.static yX5_settles, Cond.code yX5_settles cX5_settles 2 (some .boolean), Cond.methodLink RX5 50 yX2_settledAt, Cond.instanceMethod yX2_settledAt]
def wsX5_solve_r2 : List Cond := [Cond.selects RX2 yX2_settledAt yX2_settledAt, Cond.initialized RX2, Cond.code yX2_settledAt cX2_settledAt 3 (some .int), Cond.methodLink RX2 43 yX2_slewAt, Cond.instanceMethod yX2_slewAt, Cond.selects RX2 yX2_slewAt yX2_slewAt, Cond.code yX2_slewAt cX2_slewAt 2 (some .int), Cond.fieldLink RX2 9 "SlewRails$Rail" "pegs" "I", Cond.fieldLink RX2 28 "SlewRails$Rail" "slews" "[I", Cond.methodLink RX2 47 yX2_isSoft, Cond.instanceMethod yX2_isSoft, Cond.selects RX2 yX2_isSoft yX2_isSoft, Cond.code yX2_isSoft cX2_isSoft 2 (some .boolean), Cond.fieldLink RX2 18 "SlewRails$Rail" "kinds" "[I", Cond.methodLink RX5 54 yX2_slewAt, Cond.methodLink RX5 36 yX5_goOn, Cond.instanceMethod yX5_goOn, Cond.selects RX5 yX5_goOn yX5_goOn, Cond.code yX5_goOn cX5_goOn 7 none, Cond.fieldLink RX5 20 "SlewRails$Settling" "waysOn" "[J", Cond.methodLink RX5 67 yX5_stepBy, Cond.static yX5_stepBy, Cond.code yX5_stepBy cX5_stepBy 7 (some .int), Cond.fieldLink RX5 77 "SlewRails$Rail" "versines" "[I"]
def wsX5_solve_r3 : List Cond := [Cond.methodLink RX5 81 Lib.Math.abs.name, Cond.static Lib.Math.abs.name, Cond.initialized "java/lang/Math", Cond.code Lib.Math.abs.name Lib.Math.abs.code 1 (some .int), Cond.methodLink RX5 70 yX2_isEased, Cond.instanceMethod yX2_isEased, Cond.selects RX2 yX2_isEased yX2_isEased, Cond.code yX2_isEased cX2_isEased 2 (some .boolean), Cond.methodLink RX5 74 yX5_slewBy, Cond.static yX5_slewBy, Cond.code yX5_slewBy cX5_slewBy 3 (some .int), Cond.methodLink RX5 46 yX5_commonDivisor, Cond.static yX5_commonDivisor, Cond.code yX5_commonDivisor cX5_commonDivisor 11 (some .long)]
def wsX5_solve : List Cond := .code yX5_solve cX5_solve 6 none :: ((wsX5_solve_r1 ++ (wsX5_solve_r2 ++ wsX5_solve_r3)) ++ wsX50 ++ wsX20)
def wsX6_init : List Cond := .code yX6_init cX6_init 1 none :: ([.methodLink RX6 3 objectInit, .instanceMethod objectInit, .code objectInit ⟨#[0xb1]⟩ 1 none, .arrayClass .int, .fieldLink RX6 9 "SlewRails$Tape" "bytes" "[I", .fieldLink RX6 15 "SlewRails$Tape" "length" "I", .fieldLink RX6 19 "SlewRails$Tape" "fault" "I", .fieldLink RX6 22 "SlewRails$Tape" "faultPlace" "I"] ++ wsX60)
def wsX6_isFull : List Cond := .code yX6_isFull cX6_isFull 1 (some .boolean) :: ([.fieldLink RX6 15 "SlewRails$Tape" "length" "I"] ++ wsX60)
def wsX6_append : List Cond := .code yX6_append cX6_append 2 (some .int) :: ([.fieldLink RX6 9 "SlewRails$Tape" "bytes" "[I", .fieldLink RX6 15 "SlewRails$Tape" "length" "I"] ++ wsX60)
def wsX6_clear : List Cond := .code yX6_clear cX6_clear 1 none :: ([.fieldLink RX6 15 "SlewRails$Tape" "length" "I"] ++ wsX60)
def wsX6_kindOf : List Cond := .code yX6_kindOf cX6_kindOf 1 (some .int) :: ([])
def wsX6_figuresAt : List Cond := .code yX6_figuresAt cX6_figuresAt 3 (some .int) :: ([.fieldLink RX6 15 "SlewRails$Tape" "length" "I", .fieldLink RX6 9 "SlewRails$Tape" "bytes" "[I"] ++ wsX60)
def wsX6_numberAt : List Cond := .code yX6_numberAt cX6_numberAt 5 (some .int) :: ([.methodLink RX6 64 Lib.Math.min.name, .static Lib.Math.min.name, .initialized "java/lang/Math", .code Lib.Math.min.name Lib.Math.min.code 2 (some .int), .fieldLink RX6 9 "SlewRails$Tape" "bytes" "[I", .methodLink RX6 49 yX6_figuresAt, .instanceMethod yX6_figuresAt, .selects RX6 yX6_figuresAt yX6_figuresAt, .initialized RX6, .code yX6_figuresAt cX6_figuresAt 3 (some .int), .fieldLink RX6 15 "SlewRails$Tape" "length" "I"] ++ wsX60)
def wsX6_faultOfNumber : List Cond := .code yX6_faultOfNumber cX6_faultOfNumber 4 (some .int) :: ([.methodLink RX6 49 yX6_figuresAt, .instanceMethod yX6_figuresAt, .selects RX6 yX6_figuresAt yX6_figuresAt, .initialized RX6, .code yX6_figuresAt cX6_figuresAt 3 (some .int), .fieldLink RX6 15 "SlewRails$Tape" "length" "I", .fieldLink RX6 9 "SlewRails$Tape" "bytes" "[I", .methodLink RX6 42 yX6_numberAt, .instanceMethod yX6_numberAt, .selects RX6 yX6_numberAt yX6_numberAt, .code yX6_numberAt cX6_numberAt 5 (some .int), .methodLink RX6 64 Lib.Math.min.name, .static Lib.Math.min.name, .initialized "java/lang/Math", .code Lib.Math.min.name Lib.Math.min.code 2 (some .int)] ++ wsX60)
def wsX6_faultAt : List Cond := .code yX6_faultAt cX6_faultAt 4 (some .int) :: ([.fieldLink RX6 9 "SlewRails$Tape" "bytes" "[I", .fieldLink RX6 58 "SlewRails$Rail" "pegs" "I", .methodLink RX6 38 yX6_kindOf, .static yX6_kindOf, .initialized RX6, .code yX6_kindOf cX6_kindOf 1 (some .int), .methodLink RX6 61 yX6_faultOfNumber, .instanceMethod yX6_faultOfNumber, .selects RX6 yX6_faultOfNumber yX6_faultOfNumber, .code yX6_faultOfNumber cX6_faultOfNumber 4 (some .int), .methodLink RX6 49 yX6_figuresAt, .instanceMethod yX6_figuresAt, .selects RX6 yX6_figuresAt yX6_figuresAt, .code yX6_figuresAt cX6_figuresAt 3 (some .int), .fieldLink RX6 15 "SlewRails$Tape" "length" "I", .methodLink RX6 42 yX6_numberAt, .instanceMethod yX6_numberAt, .selects RX6 yX6_numberAt yX6_numberAt, .code yX6_numberAt cX6_numberAt 5 (some .int), .methodLink RX6 64 Lib.Math.min.name, .static Lib.Math.min.name, .initialized "java/lang/Math", .code Lib.Math.min.name Lib.Math.min.code 2 (some .int)] ++ wsX60 ++ wsX20)
def wsX6_fail : List Cond := .code yX6_fail cX6_fail 3 (some .boolean) :: ([.fieldLink RX6 19 "SlewRails$Tape" "fault" "I", .fieldLink RX6 22 "SlewRails$Tape" "faultPlace" "I"] ++ wsX60)
def wsX6_parse_r1 : List Cond := [Cond.fieldLink RX6 15 "SlewRails$Tape" "length" "I", Cond.fieldLink RX6 9 "SlewRails$Tape" "bytes" "[I", Cond.methodLink RX6 52 Lib.Math.max.name, Cond.static Lib.Math.max.name, Cond.initialized "java/lang/Math", Cond.code Lib.Math.max.name Lib.Math.max.code 2 (some .int), Cond.fieldLink RX6 58 "SlewRails$Rail" "pegs" "I", Cond.methodLink RX6 25 yX2_clear, Cond.instanceMethod yX2_clear, Cond.selects RX2 yX2_clear yX2_clear, Cond.initialized RX2, Cond.code yX2_clear cX2_clear 1 none, Cond.fieldLink RX2 9 "SlewRails$Rail" "pegs" "I", Cond.fieldLink RX2 15 "SlewRails$Rail" "worked" "I", Cond.methodLink RX6 30 yX6_faultAt, Cond.instanceMethod yX6_faultAt, Cond.selects RX6 yX6_faultAt yX6_faultAt, Cond.initialized RX6, Cond.code yX6_faultAt cX6_faultAt 4 (some .int), Cond.methodLink RX6 38 yX6_kindOf, Cond.static yX6_kindOf, Cond.code yX6_kindOf cX6_kindOf 1 (some .int), Cond.methodLink RX6 61 yX6_faultOfNumber, Cond.instanceMethod yX6_faultOfNumber]
def wsX6_parse_r2 : List Cond := [Cond.selects RX6 yX6_faultOfNumber yX6_faultOfNumber, Cond.code yX6_faultOfNumber cX6_faultOfNumber 4 (some .int), Cond.methodLink RX6 49 yX6_figuresAt, Cond.instanceMethod yX6_figuresAt, Cond.selects RX6 yX6_figuresAt yX6_figuresAt, Cond.code yX6_figuresAt cX6_figuresAt 3 (some .int), Cond.methodLink RX6 42 yX6_numberAt, Cond.instanceMethod yX6_numberAt, Cond.selects RX6 yX6_numberAt yX6_numberAt, Cond.code yX6_numberAt cX6_numberAt 5 (some .int), Cond.methodLink RX6 64 Lib.Math.min.name, Cond.static Lib.Math.min.name, Cond.code Lib.Math.min.name Lib.Math.min.code 2 (some .int), Cond.methodLink RX6 34 yX6_fail, Cond.instanceMethod yX6_fail, Cond.selects RX6 yX6_fail yX6_fail, Cond.code yX6_fail cX6_fail 3 (some .boolean), Cond.fieldLink RX6 19 "SlewRails$Tape" "fault" "I", Cond.fieldLink RX6 22 "SlewRails$Tape" "faultPlace" "I", Cond.methodLink RX6 45 yX2_add, Cond.instanceMethod yX2_add, Cond.selects RX2 yX2_add yX2_add, Cond.code yX2_add cX2_add 4 none, Cond.fieldLink RX2 18 "SlewRails$Rail" "kinds" "[I"]
def wsX6_parse_r3 : List Cond := [Cond.fieldLink RX2 22 "SlewRails$Rail" "versines" "[I", Cond.fieldLink RX2 25 "SlewRails$Rail" "bounds" "[I", Cond.fieldLink RX2 28 "SlewRails$Rail" "slews" "[I"]
def wsX6_parse : List Cond := .code yX6_parse cX6_parse 7 (some .boolean) :: ((wsX6_parse_r1 ++ (wsX6_parse_r2 ++ wsX6_parse_r3)) ++ wsX60 ++ wsX20)
def wsX7_init_r1 : List Cond := [Cond.methodLink RX7 1 objectInit, Cond.instanceMethod objectInit, Cond.code objectInit ⟨#[0xb1]⟩ 1 none, Cond.classLink RX7 9 RX3, Cond.fieldLink RX7 11 "SlewRails" "rows" "[LSlewRails$Row;", Cond.classLink RX7 15 RX6, Cond.instantiable RX6 4, Cond.initialized RX6, Cond.fieldLink RX7 18 "SlewRails" "tape" "LSlewRails$Tape;", Cond.classLink RX7 22 RX2, Cond.instantiable RX2 6, Cond.initialized RX2, Cond.fieldLink RX7 25 "SlewRails" "rail" "LSlewRails$Rail;", Cond.fieldLink RX7 29 "SlewRails" "draft" "LSlewRails$Rail;", Cond.fieldLink RX7 32 "SlewRails" "images" "[LSlewRails$Rail;", Cond.classLink RX7 36 RX1, Cond.instantiable RX1 3, Cond.initialized RX1, Cond.fieldLink RX7 39 "SlewRails" "history" "LSlewRails$History;", Cond.classLink RX7 43 RX0, Cond.instantiable RX0 2, Cond.initialized RX0, Cond.fieldLink RX7 46 "SlewRails" "asks" "LSlewRails$Asks;", Cond.classLink RX7 50 RX5]
def wsX7_init_r2 : List Cond := [Cond.instantiable RX5 5, Cond.initialized RX5, Cond.fieldLink RX7 53 "SlewRails" "settling" "LSlewRails$Settling;", Cond.fieldLink RX7 57 "SlewRails" "search" "LSlewRails$Search;", Cond.fieldLink RX7 61 "SlewRails" "status" "I", Cond.instantiable RX3 3, Cond.initialized RX3, Cond.instanceMethod yX6_init, Cond.code yX6_init cX6_init 1 none, Cond.methodLink RX6 3 objectInit, Cond.arrayClass .int, Cond.fieldLink RX6 9 "SlewRails$Tape" "bytes" "[I", Cond.fieldLink RX6 15 "SlewRails$Tape" "length" "I", Cond.fieldLink RX6 19 "SlewRails$Tape" "fault" "I", Cond.fieldLink RX6 22 "SlewRails$Tape" "faultPlace" "I", Cond.instanceMethod yX2_init, Cond.code yX2_init cX2_init 1 none, Cond.methodLink RX2 3 objectInit, Cond.fieldLink RX2 9 "SlewRails$Rail" "pegs" "I", Cond.fieldLink RX2 15 "SlewRails$Rail" "worked" "I", Cond.fieldLink RX2 18 "SlewRails$Rail" "kinds" "[I", Cond.fieldLink RX2 22 "SlewRails$Rail" "versines" "[I", Cond.fieldLink RX2 25 "SlewRails$Rail" "bounds" "[I", Cond.fieldLink RX2 28 "SlewRails$Rail" "slews" "[I"]
def wsX7_init_r3 : List Cond := [Cond.instanceMethod yX1_init, Cond.code yX1_init cX1_init 1 none, Cond.methodLink RX1 3 objectInit, Cond.classLink RX1 9 RX2, Cond.fieldLink RX1 11 "SlewRails$History" "before" "[LSlewRails$Rail;", Cond.fieldLink RX1 17 "SlewRails$History" "held" "I", Cond.fieldLink RX1 21 "SlewRails$History" "next" "I", Cond.instanceMethod yX0_init, Cond.code yX0_init cX0_init 1 none, Cond.methodLink RX0 3 objectInit, Cond.fieldLink RX0 9 "SlewRails$Asks" "trace" "[I", Cond.fieldLink RX0 15 "SlewRails$Asks" "left" "I", Cond.instanceMethod yX5_init, Cond.code yX5_init cX5_init 1 none, Cond.methodLink RX5 1 objectInit, Cond.fieldLink RX5 7 "SlewRails$Settling" "above" "J", Cond.fieldLink RX5 13 "SlewRails$Settling" "below" "J", Cond.arrayClass .long, Cond.fieldLink RX5 16 "SlewRails$Settling" "ways" "[J", Cond.fieldLink RX5 20 "SlewRails$Settling" "waysOn" "[J", Cond.fieldLink RX5 23 "SlewRails$Settling" "settled" "I", Cond.instanceMethod yX3_init, Cond.code yX3_init cX3_init 1 none, Cond.methodLink RX3 3 objectInit]
def wsX7_init_r4 : List Cond := [Cond.fieldLink RX3 11 "SlewRails$Row" "lane" "I", Cond.fieldLink RX3 15 "SlewRails$Row" "size" "I", Cond.fieldLink RX3 18 "SlewRails$Row" "items" "[I"]
def wsX7_init : List Cond := .code yX7_init cX7_init 2 none :: ((wsX7_init_r1 ++ (wsX7_init_r2 ++ (wsX7_init_r3 ++ wsX7_init_r4))) ++ wsX70 ++ wsX60 ++ wsX20 ++ wsX10 ++ wsX00 ++ wsX50 ++ wsX30)
def wsX7_isWithin : List Cond := .code yX7_isWithin cX7_isWithin 3 (some .boolean) :: ([])
def wsX7_isRow : List Cond := .code yX7_isRow cX7_isRow 1 (some .boolean) :: ([.methodLink RX7 70 yX7_isWithin, .static yX7_isWithin, .initialized RX7, .code yX7_isWithin cX7_isWithin 3 (some .boolean)])
def wsX7_found : List Cond := .code yX7_found cX7_found 2 (some .int) :: ([.fieldLink RX7 61 "SlewRails" "status" "I", .constant RX7 312 (-1000010)] ++ wsX70)
def wsX7_fine : List Cond := .code yX7_fine cX7_fine 2 (some .int) :: ([.fieldLink RX7 61 "SlewRails" "status" "I"] ++ wsX70)
def wsX7_row_r1 : List Cond := [Cond.constant RX7 74 (-1000001), Cond.fieldLink RX7 11 "SlewRails" "rows" "[LSlewRails$Row;", Cond.methodLink RX7 66 yX7_isRow, Cond.static yX7_isRow, Cond.initialized RX7, Cond.code yX7_isRow cX7_isRow 1 (some .boolean), Cond.methodLink RX7 70 yX7_isWithin, Cond.static yX7_isWithin, Cond.code yX7_isWithin cX7_isWithin 3 (some .boolean), Cond.methodLink RX7 75 yX7_found, Cond.instanceMethod yX7_found, Cond.selects RX7 yX7_found yX7_found, Cond.code yX7_found cX7_found 2 (some .int), Cond.fieldLink RX7 61 "SlewRails" "status" "I", Cond.constant RX7 312 (-1000010), Cond.methodLink RX7 79 yX3_begin, Cond.instanceMethod yX3_begin, Cond.selects RX3 yX3_begin yX3_begin, Cond.initialized RX3, Cond.code yX3_begin cX3_begin 3 none, Cond.fieldLink RX3 11 "SlewRails$Row" "lane" "I", Cond.fieldLink RX3 15 "SlewRails$Row" "size" "I", Cond.fieldLink RX3 18 "SlewRails$Row" "items" "[I", Cond.methodLink RX3 22 yJ7_fill_53178]
def wsX7_row_r2 : List Cond := [Cond.static yJ7_fill_53178, Cond.initialized RJ7, Cond.code yJ7_fill_53178 cJ7_fill_53178 4 none, Cond.methodLink RX7 83 yX7_fine, Cond.instanceMethod yX7_fine, Cond.selects RX7 yX7_fine yX7_fine, Cond.code yX7_fine cX7_fine 2 (some .int)]
def wsX7_row : List Cond := .code yX7_row cX7_row 4 (some .int) :: ((wsX7_row_r1 ++ wsX7_row_r2) ++ wsX70 ++ wsX30)
def wsX7_set_r1 : List Cond := [Cond.constant RX7 74 (-1000001), Cond.fieldLink RX7 11 "SlewRails" "rows" "[LSlewRails$Row;", Cond.methodLink RX7 66 yX7_isRow, Cond.static yX7_isRow, Cond.initialized RX7, Cond.code yX7_isRow cX7_isRow 1 (some .boolean), Cond.methodLink RX7 70 yX7_isWithin, Cond.static yX7_isWithin, Cond.code yX7_isWithin cX7_isWithin 3 (some .boolean), Cond.methodLink RX7 86 yX3_isMissing, Cond.instanceMethod yX3_isMissing, Cond.selects RX3 yX3_isMissing yX3_isMissing, Cond.initialized RX3, Cond.code yX3_isMissing cX3_isMissing 1 (some .boolean), Cond.fieldLink RX3 11 "SlewRails$Row" "lane" "I", Cond.methodLink RX7 75 yX7_found, Cond.instanceMethod yX7_found, Cond.selects RX7 yX7_found yX7_found, Cond.code yX7_found cX7_found 2 (some .int), Cond.fieldLink RX7 61 "SlewRails" "status" "I", Cond.constant RX7 312 (-1000010), Cond.methodLink RX7 90 yX3_holds, Cond.instanceMethod yX3_holds, Cond.selects RX3 yX3_holds yX3_holds]
def wsX7_set_r2 : List Cond := [Cond.code yX3_holds cX3_holds 3 (some .boolean), Cond.fieldLink RX3 15 "SlewRails$Row" "size" "I", Cond.methodLink RX7 94 yX3_put, Cond.instanceMethod yX3_put, Cond.selects RX3 yX3_put yX3_put, Cond.code yX3_put cX3_put 3 (some .int), Cond.fieldLink RX3 18 "SlewRails$Row" "items" "[I", Cond.methodLink RX7 83 yX7_fine, Cond.instanceMethod yX7_fine, Cond.selects RX7 yX7_fine yX7_fine, Cond.code yX7_fine cX7_fine 2 (some .int)]
def wsX7_set : List Cond := .code yX7_set cX7_set 5 (some .int) :: ((wsX7_set_r1 ++ wsX7_set_r2) ++ wsX70 ++ wsX30)
def wsX7_copy_r1 : List Cond := [Cond.constant RX7 74 (-1000001), Cond.fieldLink RX7 11 "SlewRails" "rows" "[LSlewRails$Row;", Cond.fieldLink RX7 98 "SlewRails$Row" "lane" "I", Cond.fieldLink RX7 101 "SlewRails$Row" "items" "[I", Cond.methodLink RX7 105 arraycopyName, Cond.native arraycopyName, Cond.static arraycopyName, Cond.initialized "java/lang/System", Cond.methodLink RX7 66 yX7_isRow, Cond.static yX7_isRow, Cond.initialized RX7, Cond.code yX7_isRow cX7_isRow 1 (some .boolean), Cond.methodLink RX7 70 yX7_isWithin, Cond.static yX7_isWithin, Cond.code yX7_isWithin cX7_isWithin 3 (some .boolean), Cond.methodLink RX7 86 yX3_isMissing, Cond.instanceMethod yX3_isMissing, Cond.selects RX3 yX3_isMissing yX3_isMissing, Cond.initialized RX3, Cond.code yX3_isMissing cX3_isMissing 1 (some .boolean), Cond.fieldLink RX3 11 "SlewRails$Row" "lane" "I", Cond.methodLink RX7 75 yX7_found, Cond.instanceMethod yX7_found, Cond.selects RX7 yX7_found yX7_found]
def wsX7_copy_r2 : List Cond := [Cond.code yX7_found cX7_found 2 (some .int), Cond.fieldLink RX7 61 "SlewRails" "status" "I", Cond.constant RX7 312 (-1000010), Cond.methodLink RX7 90 yX3_holds, Cond.instanceMethod yX3_holds, Cond.selects RX3 yX3_holds yX3_holds, Cond.code yX3_holds cX3_holds 3 (some .boolean), Cond.fieldLink RX3 15 "SlewRails$Row" "size" "I", Cond.methodLink RX7 83 yX7_fine, Cond.instanceMethod yX7_fine, Cond.selects RX7 yX7_fine yX7_fine, Cond.code yX7_fine cX7_fine 2 (some .int)]
def wsX7_copy : List Cond := .code yX7_copy cX7_copy 8 (some .int) :: ((wsX7_copy_r1 ++ wsX7_copy_r2) ++ wsX70 ++ wsX30)
def wsX7_drop_r1 : List Cond := [Cond.constant RX7 74 (-1000001), Cond.fieldLink RX7 11 "SlewRails" "rows" "[LSlewRails$Row;", Cond.methodLink RX7 66 yX7_isRow, Cond.static yX7_isRow, Cond.initialized RX7, Cond.code yX7_isRow cX7_isRow 1 (some .boolean), Cond.methodLink RX7 70 yX7_isWithin, Cond.static yX7_isWithin, Cond.code yX7_isWithin cX7_isWithin 3 (some .boolean), Cond.methodLink RX7 86 yX3_isMissing, Cond.instanceMethod yX3_isMissing, Cond.selects RX3 yX3_isMissing yX3_isMissing, Cond.initialized RX3, Cond.code yX3_isMissing cX3_isMissing 1 (some .boolean), Cond.fieldLink RX3 11 "SlewRails$Row" "lane" "I", Cond.methodLink RX7 75 yX7_found, Cond.instanceMethod yX7_found, Cond.selects RX7 yX7_found yX7_found, Cond.code yX7_found cX7_found 2 (some .int), Cond.fieldLink RX7 61 "SlewRails" "status" "I", Cond.constant RX7 312 (-1000010), Cond.methodLink RX7 111 yX3_end, Cond.instanceMethod yX3_end, Cond.selects RX3 yX3_end yX3_end]
def wsX7_drop_r2 : List Cond := [Cond.code yX3_end cX3_end 2 (some .int), Cond.fieldLink RX3 15 "SlewRails$Row" "size" "I", Cond.methodLink RX7 83 yX7_fine, Cond.instanceMethod yX7_fine, Cond.selects RX7 yX7_fine yX7_fine, Cond.code yX7_fine cX7_fine 2 (some .int)]
def wsX7_drop : List Cond := .code yX7_drop cX7_drop 2 (some .int) :: ((wsX7_drop_r1 ++ wsX7_drop_r2) ++ wsX70 ++ wsX30)
def wsX7_feed : List Cond := .code yX7_feed cX7_feed 2 (some .int) :: ([.constant RX7 74 (-1000001), .fieldLink RX7 18 "SlewRails" "tape" "LSlewRails$Tape;", .constant RX7 118 (-1000003), .methodLink RX7 70 yX7_isWithin, .static yX7_isWithin, .initialized RX7, .code yX7_isWithin cX7_isWithin 3 (some .boolean), .methodLink RX7 115 yX6_isFull, .instanceMethod yX6_isFull, .selects RX6 yX6_isFull yX6_isFull, .initialized RX6, .code yX6_isFull cX6_isFull 1 (some .boolean), .fieldLink RX6 15 "SlewRails$Tape" "length" "I", .methodLink RX7 119 yX6_append, .instanceMethod yX6_append, .selects RX6 yX6_append yX6_append, .code yX6_append cX6_append 2 (some .int), .fieldLink RX6 9 "SlewRails$Tape" "bytes" "[I"] ++ wsX70 ++ wsX60)
def wsX7_rail_r1 : List Cond := [Cond.fieldLink RX7 18 "SlewRails" "tape" "LSlewRails$Tape;", Cond.fieldLink RX7 29 "SlewRails" "draft" "LSlewRails$Rail;", Cond.constant RX7 129 (-1000100), Cond.fieldLink RX7 130 "SlewRails$Tape" "faultPlace" "I", Cond.fieldLink RX7 25 "SlewRails" "rail" "LSlewRails$Rail;", Cond.fieldLink RX7 39 "SlewRails" "history" "LSlewRails$History;", Cond.fieldLink RX7 140 "SlewRails$Rail" "pegs" "I", Cond.methodLink RX7 122 yX6_parse, Cond.instanceMethod yX6_parse, Cond.selects RX6 yX6_parse yX6_parse, Cond.initialized RX6, Cond.code yX6_parse cX6_parse 7 (some .boolean), Cond.fieldLink RX6 15 "SlewRails$Tape" "length" "I", Cond.fieldLink RX6 9 "SlewRails$Tape" "bytes" "[I", Cond.methodLink RX6 52 Lib.Math.max.name, Cond.static Lib.Math.max.name, Cond.initialized "java/lang/Math", Cond.code Lib.Math.max.name Lib.Math.max.code 2 (some .int), Cond.fieldLink RX6 58 "SlewRails$Rail" "pegs" "I", Cond.methodLink RX6 25 yX2_clear, Cond.instanceMethod yX2_clear, Cond.selects RX2 yX2_clear yX2_clear, Cond.initialized RX2, Cond.code yX2_clear cX2_clear 1 none]
def wsX7_rail_r2 : List Cond := [Cond.fieldLink RX2 9 "SlewRails$Rail" "pegs" "I", Cond.fieldLink RX2 15 "SlewRails$Rail" "worked" "I", Cond.methodLink RX6 30 yX6_faultAt, Cond.instanceMethod yX6_faultAt, Cond.selects RX6 yX6_faultAt yX6_faultAt, Cond.code yX6_faultAt cX6_faultAt 4 (some .int), Cond.methodLink RX6 38 yX6_kindOf, Cond.static yX6_kindOf, Cond.code yX6_kindOf cX6_kindOf 1 (some .int), Cond.methodLink RX6 61 yX6_faultOfNumber, Cond.instanceMethod yX6_faultOfNumber, Cond.selects RX6 yX6_faultOfNumber yX6_faultOfNumber, Cond.code yX6_faultOfNumber cX6_faultOfNumber 4 (some .int), Cond.methodLink RX6 49 yX6_figuresAt, Cond.instanceMethod yX6_figuresAt, Cond.selects RX6 yX6_figuresAt yX6_figuresAt, Cond.code yX6_figuresAt cX6_figuresAt 3 (some .int), Cond.methodLink RX6 42 yX6_numberAt, Cond.instanceMethod yX6_numberAt, Cond.selects RX6 yX6_numberAt yX6_numberAt, Cond.code yX6_numberAt cX6_numberAt 5 (some .int), Cond.methodLink RX6 64 Lib.Math.min.name, Cond.static Lib.Math.min.name, Cond.code Lib.Math.min.name Lib.Math.min.code 2 (some .int)]
def wsX7_rail_r3 : List Cond := [Cond.methodLink RX6 34 yX6_fail, Cond.instanceMethod yX6_fail, Cond.selects RX6 yX6_fail yX6_fail, Cond.code yX6_fail cX6_fail 3 (some .boolean), Cond.fieldLink RX6 19 "SlewRails$Tape" "fault" "I", Cond.fieldLink RX6 22 "SlewRails$Tape" "faultPlace" "I", Cond.methodLink RX6 45 yX2_add, Cond.instanceMethod yX2_add, Cond.selects RX2 yX2_add yX2_add, Cond.code yX2_add cX2_add 4 none, Cond.fieldLink RX2 18 "SlewRails$Rail" "kinds" "[I", Cond.fieldLink RX2 22 "SlewRails$Rail" "versines" "[I", Cond.fieldLink RX2 25 "SlewRails$Rail" "bounds" "[I", Cond.fieldLink RX2 28 "SlewRails$Rail" "slews" "[I", Cond.methodLink RX7 126 yX6_clear, Cond.instanceMethod yX6_clear, Cond.selects RX6 yX6_clear yX6_clear, Cond.code yX6_clear cX6_clear 1 none, Cond.methodLink RX7 133 yX2_become, Cond.instanceMethod yX2_become, Cond.selects RX2 yX2_become yX2_become, Cond.code yX2_become cX2_become 2 none, Cond.methodLink RX2 31 arraycopyName, Cond.native arraycopyName]
def wsX7_rail_r4 : List Cond := [Cond.static arraycopyName, Cond.initialized "java/lang/System", Cond.methodLink RX7 137 yX1_forget, Cond.instanceMethod yX1_forget, Cond.selects RX1 yX1_forget yX1_forget, Cond.initialized RX1, Cond.code yX1_forget cX1_forget 1 none, Cond.fieldLink RX1 17 "SlewRails$History" "held" "I"]
def wsX7_rail : List Cond := .code yX7_rail cX7_rail 2 (some .int) :: ((wsX7_rail_r1 ++ (wsX7_rail_r2 ++ (wsX7_rail_r3 ++ wsX7_rail_r4))) ++ wsX70 ++ wsX60 ++ wsX20 ++ wsX10)
def wsX7_fault : List Cond := .code yX7_fault cX7_fault 1 (some .int) :: ([.fieldLink RX7 18 "SlewRails" "tape" "LSlewRails$Tape;", .fieldLink RX7 143 "SlewRails$Tape" "fault" "I"] ++ wsX70 ++ wsX60)
def wsX7_isPeg : List Cond := .code yX7_isPeg cX7_isPeg 2 (some .boolean) :: ([.fieldLink RX7 25 "SlewRails" "rail" "LSlewRails$Rail;", .fieldLink RX7 140 "SlewRails$Rail" "pegs" "I", .methodLink RX7 70 yX7_isWithin, .static yX7_isWithin, .initialized RX7, .code yX7_isWithin cX7_isWithin 3 (some .boolean)] ++ wsX70 ++ wsX20)
def wsX7_laySlew_r1 : List Cond := [Cond.fieldLink RX7 39 "SlewRails" "history" "LSlewRails$History;", Cond.fieldLink RX7 25 "SlewRails" "rail" "LSlewRails$Rail;", Cond.fieldLink RX7 158 "SlewRails$Rail" "slews" "[I", Cond.methodLink RX7 167 yX1_keep, Cond.instanceMethod yX1_keep, Cond.selects RX1 yX1_keep yX1_keep, Cond.initialized RX1, Cond.code yX1_keep cX1_keep 2 none, Cond.fieldLink RX1 11 "SlewRails$History" "before" "[LSlewRails$Rail;", Cond.fieldLink RX1 21 "SlewRails$History" "next" "I", Cond.classLink RX1 9 RX2, Cond.instantiable RX2 6, Cond.initialized RX2, Cond.fieldLink RX1 17 "SlewRails$History" "held" "I", Cond.methodLink RX1 29 Lib.Math.min.name, Cond.static Lib.Math.min.name, Cond.initialized "java/lang/Math", Cond.code Lib.Math.min.name Lib.Math.min.code 2 (some .int), Cond.instanceMethod yX2_init, Cond.code yX2_init cX2_init 1 none, Cond.methodLink RX2 3 objectInit, Cond.instanceMethod objectInit, Cond.code objectInit ⟨#[0xb1]⟩ 1 none, Cond.fieldLink RX2 9 "SlewRails$Rail" "pegs" "I"]
def wsX7_laySlew_r2 : List Cond := [Cond.fieldLink RX2 15 "SlewRails$Rail" "worked" "I", Cond.arrayClass .int, Cond.fieldLink RX2 18 "SlewRails$Rail" "kinds" "[I", Cond.fieldLink RX2 22 "SlewRails$Rail" "versines" "[I", Cond.fieldLink RX2 25 "SlewRails$Rail" "bounds" "[I", Cond.fieldLink RX2 28 "SlewRails$Rail" "slews" "[I", Cond.methodLink RX1 25 yX2_become, Cond.instanceMethod yX2_become, Cond.selects RX2 yX2_become yX2_become, Cond.code yX2_become cX2_become 2 none, Cond.methodLink RX2 31 arraycopyName, Cond.native arraycopyName, Cond.static arraycopyName, Cond.initialized "java/lang/System"]
def wsX7_laySlew : List Cond := .code yX7_laySlew cX7_laySlew 3 none :: ((wsX7_laySlew_r1 ++ wsX7_laySlew_r2) ++ wsX70 ++ wsX20 ++ wsX10)
def wsX7_lay_r1 : List Cond := [Cond.constant RX7 74 (-1000001), Cond.methodLink RX7 149 Lib.Math.abs.name, Cond.static Lib.Math.abs.name, Cond.initialized "java/lang/Math", Cond.code Lib.Math.abs.name Lib.Math.abs.code 1 (some .int), Cond.fieldLink RX7 25 "SlewRails" "rail" "LSlewRails$Rail;", Cond.constant RX7 157 (-1000002), Cond.fieldLink RX7 158 "SlewRails$Rail" "slews" "[I", Cond.methodLink RX7 146 yX7_isPeg, Cond.instanceMethod yX7_isPeg, Cond.selects RX7 yX7_isPeg yX7_isPeg, Cond.initialized RX7, Cond.code yX7_isPeg cX7_isPeg 2 (some .boolean), Cond.fieldLink RX7 140 "SlewRails$Rail" "pegs" "I", Cond.methodLink RX7 70 yX7_isWithin, Cond.static yX7_isWithin, Cond.code yX7_isWithin cX7_isWithin 3 (some .boolean), Cond.methodLink RX7 154 yX2_reach, Cond.instanceMethod yX2_reach, Cond.selects RX2 yX2_reach yX2_reach, Cond.initialized RX2, Cond.code yX2_reach cX2_reach 2 (some .int), Cond.fieldLink RX2 9 "SlewRails$Rail" "pegs" "I", Cond.fieldLink RX2 18 "SlewRails$Rail" "kinds" "[I"]
def wsX7_lay_r2 : List Cond := [Cond.fieldLink RX2 25 "SlewRails$Rail" "bounds" "[I", Cond.methodLink RX2 37 Lib.Math.max.name, Cond.static Lib.Math.max.name, Cond.code Lib.Math.max.name Lib.Math.max.code 2 (some .int), Cond.methodLink RX7 161 yX7_laySlew, Cond.instanceMethod yX7_laySlew, Cond.selects RX7 yX7_laySlew yX7_laySlew, Cond.code yX7_laySlew cX7_laySlew 3 none, Cond.fieldLink RX7 39 "SlewRails" "history" "LSlewRails$History;", Cond.methodLink RX7 167 yX1_keep, Cond.instanceMethod yX1_keep, Cond.selects RX1 yX1_keep yX1_keep, Cond.initialized RX1, Cond.code yX1_keep cX1_keep 2 none, Cond.fieldLink RX1 11 "SlewRails$History" "before" "[LSlewRails$Rail;", Cond.fieldLink RX1 21 "SlewRails$History" "next" "I", Cond.classLink RX1 9 RX2, Cond.instantiable RX2 6, Cond.fieldLink RX1 17 "SlewRails$History" "held" "I", Cond.methodLink RX1 29 Lib.Math.min.name, Cond.static Lib.Math.min.name, Cond.code Lib.Math.min.name Lib.Math.min.code 2 (some .int), Cond.instanceMethod yX2_init, Cond.code yX2_init cX2_init 1 none]
def wsX7_lay_r3 : List Cond := [Cond.methodLink RX2 3 objectInit, Cond.instanceMethod objectInit, Cond.code objectInit ⟨#[0xb1]⟩ 1 none, Cond.fieldLink RX2 15 "SlewRails$Rail" "worked" "I", Cond.arrayClass .int, Cond.fieldLink RX2 22 "SlewRails$Rail" "versines" "[I", Cond.fieldLink RX2 28 "SlewRails$Rail" "slews" "[I", Cond.methodLink RX1 25 yX2_become, Cond.instanceMethod yX2_become, Cond.selects RX2 yX2_become yX2_become, Cond.code yX2_become cX2_become 2 none, Cond.methodLink RX2 31 arraycopyName, Cond.native arraycopyName, Cond.static arraycopyName, Cond.initialized "java/lang/System"]
def wsX7_lay : List Cond := .code yX7_lay cX7_lay 4 (some .int) :: ((wsX7_lay_r1 ++ (wsX7_lay_r2 ++ wsX7_lay_r3)) ++ wsX70 ++ wsX20 ++ wsX10)
def wsX7_work_r1 : List Cond := [Cond.fieldLink RX7 25 "SlewRails" "rail" "LSlewRails$Rail;", Cond.constant RX7 157 (-1000002), Cond.fieldLink RX7 39 "SlewRails" "history" "LSlewRails$History;", Cond.fieldLink RX7 176 "SlewRails$Rail" "worked" "I", Cond.methodLink RX7 164 yX2_isThere, Cond.instanceMethod yX2_isThere, Cond.selects RX2 yX2_isThere yX2_isThere, Cond.initialized RX2, Cond.code yX2_isThere cX2_isThere 1 (some .boolean), Cond.fieldLink RX2 9 "SlewRails$Rail" "pegs" "I", Cond.methodLink RX7 167 yX1_keep, Cond.instanceMethod yX1_keep, Cond.selects RX1 yX1_keep yX1_keep, Cond.initialized RX1, Cond.code yX1_keep cX1_keep 2 none, Cond.fieldLink RX1 11 "SlewRails$History" "before" "[LSlewRails$Rail;", Cond.fieldLink RX1 21 "SlewRails$History" "next" "I", Cond.classLink RX1 9 RX2, Cond.instantiable RX2 6, Cond.fieldLink RX1 17 "SlewRails$History" "held" "I", Cond.methodLink RX1 29 Lib.Math.min.name, Cond.static Lib.Math.min.name, Cond.initialized "java/lang/Math", Cond.code Lib.Math.min.name Lib.Math.min.code 2 (some .int)]
def wsX7_work_r2 : List Cond := [Cond.instanceMethod yX2_init, Cond.code yX2_init cX2_init 1 none, Cond.methodLink RX2 3 objectInit, Cond.instanceMethod objectInit, Cond.code objectInit ⟨#[0xb1]⟩ 1 none, Cond.fieldLink RX2 15 "SlewRails$Rail" "worked" "I", Cond.arrayClass .int, Cond.fieldLink RX2 18 "SlewRails$Rail" "kinds" "[I", Cond.fieldLink RX2 22 "SlewRails$Rail" "versines" "[I", Cond.fieldLink RX2 25 "SlewRails$Rail" "bounds" "[I", Cond.fieldLink RX2 28 "SlewRails$Rail" "slews" "[I", Cond.methodLink RX1 25 yX2_become, Cond.instanceMethod yX2_become, Cond.selects RX2 yX2_become yX2_become, Cond.code yX2_become cX2_become 2 none, Cond.methodLink RX2 31 arraycopyName, Cond.native arraycopyName, Cond.static arraycopyName, Cond.initialized "java/lang/System", Cond.methodLink RX7 170 yX2_moved, Cond.instanceMethod yX2_moved, Cond.selects RX2 yX2_moved yX2_moved, Cond.code yX2_moved cX2_moved 3 (some .int), Cond.methodLink RX2 57 Lib.Math.abs.name]
def wsX7_work_r3 : List Cond := [Cond.static Lib.Math.abs.name, Cond.code Lib.Math.abs.name Lib.Math.abs.code 1 (some .int), Cond.methodLink RX7 173 yX2_workIn, Cond.instanceMethod yX2_workIn, Cond.selects RX2 yX2_workIn yX2_workIn, Cond.code yX2_workIn cX2_workIn 2 none, Cond.methodLink RX2 72 Lib.Math.min.name, Cond.methodLink RX2 37 Lib.Math.max.name, Cond.static Lib.Math.max.name, Cond.code Lib.Math.max.name Lib.Math.max.code 2 (some .int), Cond.methodLink RX2 69 yX2_settledAt, Cond.instanceMethod yX2_settledAt, Cond.selects RX2 yX2_settledAt yX2_settledAt, Cond.code yX2_settledAt cX2_settledAt 3 (some .int), Cond.methodLink RX2 43 yX2_slewAt, Cond.instanceMethod yX2_slewAt, Cond.selects RX2 yX2_slewAt yX2_slewAt, Cond.code yX2_slewAt cX2_slewAt 2 (some .int), Cond.methodLink RX2 47 yX2_isSoft, Cond.instanceMethod yX2_isSoft, Cond.selects RX2 yX2_isSoft yX2_isSoft, Cond.code yX2_isSoft cX2_isSoft 2 (some .boolean), Cond.methodLink RX2 54 yX2_now, Cond.instanceMethod yX2_now]
def wsX7_work_r4 : List Cond := [Cond.selects RX2 yX2_now yX2_now, Cond.code yX2_now cX2_now 2 (some .int), Cond.methodLink RX2 75 yX2_dropSlews, Cond.instanceMethod yX2_dropSlews, Cond.selects RX2 yX2_dropSlews yX2_dropSlews, Cond.code yX2_dropSlews cX2_dropSlews 1 none, Cond.methodLink RX2 63 yJ7_fill_53178, Cond.static yJ7_fill_53178, Cond.initialized RJ7, Cond.code yJ7_fill_53178 cJ7_fill_53178 4 none]
def wsX7_work : List Cond := .code yX7_work cX7_work 2 (some .int) :: ((wsX7_work_r1 ++ (wsX7_work_r2 ++ (wsX7_work_r3 ++ wsX7_work_r4))) ++ wsX70 ++ wsX20 ++ wsX10)
def wsX7_gang_r1 : List Cond := [Cond.constant RX7 74 (-1000001), Cond.fieldLink RX7 25 "SlewRails" "rail" "LSlewRails$Rail;", Cond.fieldLink RX7 140 "SlewRails$Rail" "pegs" "I", Cond.methodLink RX7 179 Lib.Math.min.name, Cond.static Lib.Math.min.name, Cond.initialized "java/lang/Math", Cond.code Lib.Math.min.name Lib.Math.min.code 2 (some .int), Cond.methodLink RX7 146 yX7_isPeg, Cond.instanceMethod yX7_isPeg, Cond.selects RX7 yX7_isPeg yX7_isPeg, Cond.initialized RX7, Cond.code yX7_isPeg cX7_isPeg 2 (some .boolean), Cond.methodLink RX7 70 yX7_isWithin, Cond.static yX7_isWithin, Cond.code yX7_isWithin cX7_isWithin 3 (some .boolean), Cond.methodLink RX7 182 yX2_evenestSlew, Cond.instanceMethod yX2_evenestSlew, Cond.selects RX2 yX2_evenestSlew yX2_evenestSlew, Cond.initialized RX2, Cond.code yX2_evenestSlew cX2_evenestSlew 10 (some .int), Cond.fieldLink RX2 28 "SlewRails$Rail" "slews" "[I", Cond.methodLink RX2 37 Lib.Math.max.name, Cond.static Lib.Math.max.name, Cond.code Lib.Math.max.name Lib.Math.max.code 2 (some .int)]
def wsX7_gang_r2 : List Cond := [Cond.constant RX2 83 (2147483647), Cond.methodLink RX2 78 yX2_reach, Cond.instanceMethod yX2_reach, Cond.selects RX2 yX2_reach yX2_reach, Cond.code yX2_reach cX2_reach 2 (some .int), Cond.fieldLink RX2 9 "SlewRails$Rail" "pegs" "I", Cond.fieldLink RX2 18 "SlewRails$Rail" "kinds" "[I", Cond.fieldLink RX2 25 "SlewRails$Rail" "bounds" "[I", Cond.methodLink RX2 60 yX2_step, Cond.instanceMethod yX2_step, Cond.selects RX2 yX2_step yX2_step, Cond.code yX2_step cX2_step 2 (some .int), Cond.methodLink RX2 57 Lib.Math.abs.name, Cond.static Lib.Math.abs.name, Cond.code Lib.Math.abs.name Lib.Math.abs.code 1 (some .int), Cond.methodLink RX2 51 yX2_isEased, Cond.instanceMethod yX2_isEased, Cond.selects RX2 yX2_isEased yX2_isEased, Cond.code yX2_isEased cX2_isEased 2 (some .boolean), Cond.methodLink RX2 54 yX2_now, Cond.instanceMethod yX2_now, Cond.selects RX2 yX2_now yX2_now, Cond.code yX2_now cX2_now 2 (some .int), Cond.fieldLink RX2 22 "SlewRails$Rail" "versines" "[I"]
def wsX7_gang_r3 : List Cond := [Cond.methodLink RX2 43 yX2_slewAt, Cond.instanceMethod yX2_slewAt, Cond.selects RX2 yX2_slewAt yX2_slewAt, Cond.code yX2_slewAt cX2_slewAt 2 (some .int), Cond.methodLink RX7 161 yX7_laySlew, Cond.instanceMethod yX7_laySlew, Cond.selects RX7 yX7_laySlew yX7_laySlew, Cond.code yX7_laySlew cX7_laySlew 3 none, Cond.fieldLink RX7 39 "SlewRails" "history" "LSlewRails$History;", Cond.fieldLink RX7 158 "SlewRails$Rail" "slews" "[I", Cond.methodLink RX7 167 yX1_keep, Cond.instanceMethod yX1_keep, Cond.selects RX1 yX1_keep yX1_keep, Cond.initialized RX1, Cond.code yX1_keep cX1_keep 2 none, Cond.fieldLink RX1 11 "SlewRails$History" "before" "[LSlewRails$Rail;", Cond.fieldLink RX1 21 "SlewRails$History" "next" "I", Cond.classLink RX1 9 RX2, Cond.instantiable RX2 6, Cond.fieldLink RX1 17 "SlewRails$History" "held" "I", Cond.methodLink RX1 29 Lib.Math.min.name, Cond.instanceMethod yX2_init, Cond.code yX2_init cX2_init 1 none, Cond.methodLink RX2 3 objectInit]
def wsX7_gang_r4 : List Cond := [Cond.instanceMethod objectInit, Cond.code objectInit ⟨#[0xb1]⟩ 1 none, Cond.fieldLink RX2 15 "SlewRails$Rail" "worked" "I", Cond.arrayClass .int, Cond.methodLink RX1 25 yX2_become, Cond.instanceMethod yX2_become, Cond.selects RX2 yX2_become yX2_become, Cond.code yX2_become cX2_become 2 none, Cond.methodLink RX2 31 arraycopyName, Cond.native arraycopyName, Cond.static arraycopyName, Cond.initialized "java/lang/System", Cond.methodLink RX7 185 yX2_worst, Cond.instanceMethod yX2_worst, Cond.selects RX2 yX2_worst yX2_worst, Cond.code yX2_worst cX2_worst 3 (some .int)]
def wsX7_gang : List Cond := .code yX7_gang cX7_gang 5 (some .int) :: ((wsX7_gang_r1 ++ (wsX7_gang_r2 ++ (wsX7_gang_r3 ++ wsX7_gang_r4))) ++ wsX70 ++ wsX20 ++ wsX10)
def wsX7_read_r1 : List Cond := [Cond.constant RX7 74 (-1000001), Cond.fieldLink RX7 39 "SlewRails" "history" "LSlewRails$History;", Cond.fieldLink RX7 25 "SlewRails" "rail" "LSlewRails$Rail;", Cond.fieldLink RX7 188 "SlewRails$Rail" "versines" "[I", Cond.methodLink RX7 146 yX7_isPeg, Cond.instanceMethod yX7_isPeg, Cond.selects RX7 yX7_isPeg yX7_isPeg, Cond.initialized RX7, Cond.code yX7_isPeg cX7_isPeg 2 (some .boolean), Cond.fieldLink RX7 140 "SlewRails$Rail" "pegs" "I", Cond.methodLink RX7 70 yX7_isWithin, Cond.static yX7_isWithin, Cond.code yX7_isWithin cX7_isWithin 3 (some .boolean), Cond.methodLink RX7 167 yX1_keep, Cond.instanceMethod yX1_keep, Cond.selects RX1 yX1_keep yX1_keep, Cond.initialized RX1, Cond.code yX1_keep cX1_keep 2 none, Cond.fieldLink RX1 11 "SlewRails$History" "before" "[LSlewRails$Rail;", Cond.fieldLink RX1 21 "SlewRails$History" "next" "I", Cond.classLink RX1 9 RX2, Cond.instantiable RX2 6, Cond.initialized RX2, Cond.fieldLink RX1 17 "SlewRails$History" "held" "I"]
def wsX7_read_r2 : List Cond := [Cond.methodLink RX1 29 Lib.Math.min.name, Cond.static Lib.Math.min.name, Cond.initialized "java/lang/Math", Cond.code Lib.Math.min.name Lib.Math.min.code 2 (some .int), Cond.instanceMethod yX2_init, Cond.code yX2_init cX2_init 1 none, Cond.methodLink RX2 3 objectInit, Cond.instanceMethod objectInit, Cond.code objectInit ⟨#[0xb1]⟩ 1 none, Cond.fieldLink RX2 9 "SlewRails$Rail" "pegs" "I", Cond.fieldLink RX2 15 "SlewRails$Rail" "worked" "I", Cond.arrayClass .int, Cond.fieldLink RX2 18 "SlewRails$Rail" "kinds" "[I", Cond.fieldLink RX2 22 "SlewRails$Rail" "versines" "[I", Cond.fieldLink RX2 25 "SlewRails$Rail" "bounds" "[I", Cond.fieldLink RX2 28 "SlewRails$Rail" "slews" "[I", Cond.methodLink RX1 25 yX2_become, Cond.instanceMethod yX2_become, Cond.selects RX2 yX2_become yX2_become, Cond.code yX2_become cX2_become 2 none, Cond.methodLink RX2 31 arraycopyName, Cond.native arraycopyName, Cond.static arraycopyName, Cond.initialized "java/lang/System"]
def wsX7_read : List Cond := .code yX7_read cX7_read 4 (some .int) :: ((wsX7_read_r1 ++ wsX7_read_r2) ++ wsX70 ++ wsX20 ++ wsX10)
def wsX7_bound_r1 : List Cond := [Cond.constant RX7 74 (-1000001), Cond.fieldLink RX7 39 "SlewRails" "history" "LSlewRails$History;", Cond.fieldLink RX7 25 "SlewRails" "rail" "LSlewRails$Rail;", Cond.fieldLink RX7 191 "SlewRails$Rail" "bounds" "[I", Cond.fieldLink RX7 158 "SlewRails$Rail" "slews" "[I", Cond.methodLink RX7 179 Lib.Math.min.name, Cond.static Lib.Math.min.name, Cond.initialized "java/lang/Math", Cond.code Lib.Math.min.name Lib.Math.min.code 2 (some .int), Cond.methodLink RX7 194 Lib.Math.max.name, Cond.static Lib.Math.max.name, Cond.code Lib.Math.max.name Lib.Math.max.code 2 (some .int), Cond.methodLink RX7 146 yX7_isPeg, Cond.instanceMethod yX7_isPeg, Cond.selects RX7 yX7_isPeg yX7_isPeg, Cond.initialized RX7, Cond.code yX7_isPeg cX7_isPeg 2 (some .boolean), Cond.fieldLink RX7 140 "SlewRails$Rail" "pegs" "I", Cond.methodLink RX7 70 yX7_isWithin, Cond.static yX7_isWithin, Cond.code yX7_isWithin cX7_isWithin 3 (some .boolean), Cond.methodLink RX7 167 yX1_keep, Cond.instanceMethod yX1_keep, Cond.selects RX1 yX1_keep yX1_keep]
def wsX7_bound_r2 : List Cond := [Cond.initialized RX1, Cond.code yX1_keep cX1_keep 2 none, Cond.fieldLink RX1 11 "SlewRails$History" "before" "[LSlewRails$Rail;", Cond.fieldLink RX1 21 "SlewRails$History" "next" "I", Cond.classLink RX1 9 RX2, Cond.instantiable RX2 6, Cond.initialized RX2, Cond.fieldLink RX1 17 "SlewRails$History" "held" "I", Cond.methodLink RX1 29 Lib.Math.min.name, Cond.instanceMethod yX2_init, Cond.code yX2_init cX2_init 1 none, Cond.methodLink RX2 3 objectInit, Cond.instanceMethod objectInit, Cond.code objectInit ⟨#[0xb1]⟩ 1 none, Cond.fieldLink RX2 9 "SlewRails$Rail" "pegs" "I", Cond.fieldLink RX2 15 "SlewRails$Rail" "worked" "I", Cond.arrayClass .int, Cond.fieldLink RX2 18 "SlewRails$Rail" "kinds" "[I", Cond.fieldLink RX2 22 "SlewRails$Rail" "versines" "[I", Cond.fieldLink RX2 25 "SlewRails$Rail" "bounds" "[I", Cond.fieldLink RX2 28 "SlewRails$Rail" "slews" "[I", Cond.methodLink RX1 25 yX2_become, Cond.instanceMethod yX2_become, Cond.selects RX2 yX2_become yX2_become]
def wsX7_bound_r3 : List Cond := [Cond.code yX2_become cX2_become 2 none, Cond.methodLink RX2 31 arraycopyName, Cond.native arraycopyName, Cond.static arraycopyName, Cond.initialized "java/lang/System", Cond.methodLink RX7 154 yX2_reach, Cond.instanceMethod yX2_reach, Cond.selects RX2 yX2_reach yX2_reach, Cond.code yX2_reach cX2_reach 2 (some .int), Cond.methodLink RX2 37 Lib.Math.max.name]
def wsX7_bound : List Cond := .code yX7_bound cX7_bound 5 (some .int) :: ((wsX7_bound_r1 ++ (wsX7_bound_r2 ++ wsX7_bound_r3)) ++ wsX70 ++ wsX20 ++ wsX10)
def wsX7_undo_r1 : List Cond := [Cond.fieldLink RX7 39 "SlewRails" "history" "LSlewRails$History;", Cond.fieldLink RX7 197 "SlewRails$History" "held" "I", Cond.constant RX7 157 (-1000002), Cond.fieldLink RX7 25 "SlewRails" "rail" "LSlewRails$Rail;", Cond.methodLink RX7 200 yX1_bringBack, Cond.instanceMethod yX1_bringBack, Cond.selects RX1 yX1_bringBack yX1_bringBack, Cond.initialized RX1, Cond.code yX1_bringBack cX1_bringBack 3 none, Cond.fieldLink RX1 21 "SlewRails$History" "next" "I", Cond.fieldLink RX1 17 "SlewRails$History" "held" "I", Cond.fieldLink RX1 11 "SlewRails$History" "before" "[LSlewRails$Rail;", Cond.methodLink RX1 25 yX2_become, Cond.instanceMethod yX2_become, Cond.selects RX2 yX2_become yX2_become, Cond.initialized RX2, Cond.code yX2_become cX2_become 2 none, Cond.fieldLink RX2 9 "SlewRails$Rail" "pegs" "I", Cond.fieldLink RX2 15 "SlewRails$Rail" "worked" "I", Cond.fieldLink RX2 18 "SlewRails$Rail" "kinds" "[I", Cond.methodLink RX2 31 arraycopyName, Cond.native arraycopyName, Cond.static arraycopyName, Cond.initialized "java/lang/System"]
def wsX7_undo_r2 : List Cond := [Cond.fieldLink RX2 22 "SlewRails$Rail" "versines" "[I", Cond.fieldLink RX2 25 "SlewRails$Rail" "bounds" "[I", Cond.fieldLink RX2 28 "SlewRails$Rail" "slews" "[I"]
def wsX7_undo : List Cond := .code yX7_undo cX7_undo 1 (some .int) :: ((wsX7_undo_r1 ++ wsX7_undo_r2) ++ wsX70 ++ wsX10 ++ wsX20)
def wsX7_peg_r1 : List Cond := [Cond.constant RX7 74 (-1000001), Cond.fieldLink RX7 25 "SlewRails" "rail" "LSlewRails$Rail;", Cond.fieldLink RX7 188 "SlewRails$Rail" "versines" "[I", Cond.fieldLink RX7 191 "SlewRails$Rail" "bounds" "[I", Cond.fieldLink RX7 158 "SlewRails$Rail" "slews" "[I", Cond.fieldLink RX7 140 "SlewRails$Rail" "pegs" "I", Cond.constant RX7 206 (-1000000), Cond.methodLink RX7 146 yX7_isPeg, Cond.instanceMethod yX7_isPeg, Cond.selects RX7 yX7_isPeg yX7_isPeg, Cond.initialized RX7, Cond.code yX7_isPeg cX7_isPeg 2 (some .boolean), Cond.methodLink RX7 70 yX7_isWithin, Cond.static yX7_isWithin, Cond.code yX7_isWithin cX7_isWithin 3 (some .boolean), Cond.methodLink RX7 154 yX2_reach, Cond.instanceMethod yX2_reach, Cond.selects RX2 yX2_reach yX2_reach, Cond.initialized RX2, Cond.code yX2_reach cX2_reach 2 (some .int), Cond.fieldLink RX2 9 "SlewRails$Rail" "pegs" "I", Cond.fieldLink RX2 18 "SlewRails$Rail" "kinds" "[I", Cond.fieldLink RX2 25 "SlewRails$Rail" "bounds" "[I", Cond.methodLink RX2 37 Lib.Math.max.name]
def wsX7_peg_r2 : List Cond := [Cond.static Lib.Math.max.name, Cond.initialized "java/lang/Math", Cond.code Lib.Math.max.name Lib.Math.max.code 2 (some .int), Cond.methodLink RX7 203 yX2_now, Cond.instanceMethod yX2_now, Cond.selects RX2 yX2_now yX2_now, Cond.code yX2_now cX2_now 2 (some .int), Cond.fieldLink RX2 22 "SlewRails$Rail" "versines" "[I", Cond.fieldLink RX2 28 "SlewRails$Rail" "slews" "[I", Cond.methodLink RX2 43 yX2_slewAt, Cond.instanceMethod yX2_slewAt, Cond.selects RX2 yX2_slewAt yX2_slewAt, Cond.code yX2_slewAt cX2_slewAt 2 (some .int), Cond.methodLink RX7 207 yX2_step, Cond.instanceMethod yX2_step, Cond.selects RX2 yX2_step yX2_step, Cond.code yX2_step cX2_step 2 (some .int), Cond.methodLink RX2 57 Lib.Math.abs.name, Cond.static Lib.Math.abs.name, Cond.code Lib.Math.abs.name Lib.Math.abs.code 1 (some .int), Cond.methodLink RX2 51 yX2_isEased, Cond.instanceMethod yX2_isEased, Cond.selects RX2 yX2_isEased yX2_isEased, Cond.code yX2_isEased cX2_isEased 2 (some .boolean)]
def wsX7_peg_r3 : List Cond := [Cond.methodLink RX2 54 yX2_now, Cond.methodLink RX7 210 yX2_wish, Cond.instanceMethod yX2_wish, Cond.selects RX2 yX2_wish yX2_wish, Cond.code yX2_wish cX2_wish 2 (some .int), Cond.methodLink RX7 213 yX2_secondSum, Cond.instanceMethod yX2_secondSum, Cond.selects RX2 yX2_secondSum yX2_secondSum, Cond.code yX2_secondSum cX2_secondSum 4 (some .int), Cond.methodLink RX2 84 yX2_wish]
def wsX7_peg : List Cond := .code yX7_peg cX7_peg 3 (some .int) :: ((wsX7_peg_r1 ++ (wsX7_peg_r2 ++ wsX7_peg_r3)) ++ wsX70 ++ wsX20)
def wsX7_line_r1 : List Cond := [Cond.fieldLink RX7 25 "SlewRails" "rail" "LSlewRails$Rail;", Cond.constant RX7 157 (-1000002), Cond.constant RX7 74 (-1000001), Cond.methodLink RX7 164 yX2_isThere, Cond.instanceMethod yX2_isThere, Cond.selects RX2 yX2_isThere yX2_isThere, Cond.initialized RX2, Cond.code yX2_isThere cX2_isThere 1 (some .boolean), Cond.fieldLink RX2 9 "SlewRails$Rail" "pegs" "I", Cond.methodLink RX7 185 yX2_worst, Cond.instanceMethod yX2_worst, Cond.selects RX2 yX2_worst yX2_worst, Cond.code yX2_worst cX2_worst 3 (some .int), Cond.methodLink RX2 37 Lib.Math.max.name, Cond.static Lib.Math.max.name, Cond.initialized "java/lang/Math", Cond.code Lib.Math.max.name Lib.Math.max.code 2 (some .int), Cond.methodLink RX2 60 yX2_step, Cond.instanceMethod yX2_step, Cond.selects RX2 yX2_step yX2_step, Cond.code yX2_step cX2_step 2 (some .int), Cond.methodLink RX2 57 Lib.Math.abs.name, Cond.static Lib.Math.abs.name, Cond.code Lib.Math.abs.name Lib.Math.abs.code 1 (some .int)]
def wsX7_line_r2 : List Cond := [Cond.methodLink RX2 51 yX2_isEased, Cond.instanceMethod yX2_isEased, Cond.selects RX2 yX2_isEased yX2_isEased, Cond.code yX2_isEased cX2_isEased 2 (some .boolean), Cond.fieldLink RX2 18 "SlewRails$Rail" "kinds" "[I", Cond.methodLink RX2 54 yX2_now, Cond.instanceMethod yX2_now, Cond.selects RX2 yX2_now yX2_now, Cond.code yX2_now cX2_now 2 (some .int), Cond.fieldLink RX2 22 "SlewRails$Rail" "versines" "[I", Cond.fieldLink RX2 28 "SlewRails$Rail" "slews" "[I", Cond.methodLink RX2 43 yX2_slewAt, Cond.instanceMethod yX2_slewAt, Cond.selects RX2 yX2_slewAt yX2_slewAt, Cond.code yX2_slewAt cX2_slewAt 2 (some .int), Cond.methodLink RX7 216 yX2_uneven, Cond.instanceMethod yX2_uneven, Cond.selects RX2 yX2_uneven yX2_uneven, Cond.code yX2_uneven cX2_uneven 3 (some .int), Cond.methodLink RX7 219 yX2_allNow, Cond.instanceMethod yX2_allNow, Cond.selects RX2 yX2_allNow yX2_allNow, Cond.code yX2_allNow cX2_allNow 3 (some .int), Cond.methodLink RX7 222 yX2_allSlews]
def wsX7_line_r3 : List Cond := [Cond.instanceMethod yX2_allSlews, Cond.selects RX2 yX2_allSlews yX2_allSlews, Cond.code yX2_allSlews cX2_allSlews 3 (some .int), Cond.methodLink RX7 225 yX2_closes, Cond.instanceMethod yX2_closes, Cond.selects RX2 yX2_closes yX2_closes, Cond.code yX2_closes cX2_closes 3 (some .boolean), Cond.methodLink RX2 84 yX2_wish, Cond.instanceMethod yX2_wish, Cond.selects RX2 yX2_wish yX2_wish, Cond.code yX2_wish cX2_wish 2 (some .int), Cond.methodLink RX2 87 yX2_secondSum, Cond.instanceMethod yX2_secondSum, Cond.selects RX2 yX2_secondSum yX2_secondSum, Cond.code yX2_secondSum cX2_secondSum 4 (some .int)]
def wsX7_line : List Cond := .code yX7_line cX7_line 2 (some .int) :: ((wsX7_line_r1 ++ (wsX7_line_r2 ++ wsX7_line_r3)) ++ wsX70 ++ wsX20)
def wsX7_best_r1 : List Cond := [Cond.fieldLink RX7 25 "SlewRails" "rail" "LSlewRails$Rail;", Cond.constant RX7 157 (-1000002), Cond.fieldLink RX7 140 "SlewRails$Rail" "pegs" "I", Cond.constant RX7 74 (-1000001), Cond.fieldLink RX7 57 "SlewRails" "search" "LSlewRails$Search;", Cond.classLink RX7 228 RX4, Cond.instantiable RX4 7, Cond.initialized RX4, Cond.fieldLink RX7 234 "SlewRails$Search" "worst" "I", Cond.fieldLink RX7 236 "SlewRails$Search" "uneven" "I", Cond.fieldLink RX7 238 "SlewRails$Search" "moved" "I", Cond.fieldLink RX7 240 "SlewRails$Search" "slews" "[I", Cond.methodLink RX7 164 yX2_isThere, Cond.instanceMethod yX2_isThere, Cond.selects RX2 yX2_isThere yX2_isThere, Cond.initialized RX2, Cond.code yX2_isThere cX2_isThere 1 (some .boolean), Cond.fieldLink RX2 9 "SlewRails$Rail" "pegs" "I", Cond.methodLink RX7 70 yX7_isWithin, Cond.static yX7_isWithin, Cond.initialized RX7, Cond.code yX7_isWithin cX7_isWithin 3 (some .boolean), Cond.instanceMethod yX4_init, Cond.code yX4_init cX4_init 1 none]
def wsX7_best_r2 : List Cond := [Cond.methodLink RX4 3 objectInit, Cond.instanceMethod objectInit, Cond.code objectInit ⟨#[0xb1]⟩ 1 none, Cond.classLink RX4 9 RX2, Cond.instantiable RX2 6, Cond.fieldLink RX4 12 "SlewRails$Search" "known" "LSlewRails$Rail;", Cond.arrayClass .int, Cond.fieldLink RX4 18 "SlewRails$Search" "table" "[I", Cond.fieldLink RX4 22 "SlewRails$Search" "slews" "[I", Cond.fieldLink RX4 25 "SlewRails$Search" "worst" "I", Cond.fieldLink RX4 29 "SlewRails$Search" "uneven" "I", Cond.fieldLink RX4 32 "SlewRails$Search" "moved" "I", Cond.fieldLink RX4 35 "SlewRails$Search" "limit" "I", Cond.instanceMethod yX2_init, Cond.code yX2_init cX2_init 1 none, Cond.methodLink RX2 3 objectInit, Cond.fieldLink RX2 15 "SlewRails$Rail" "worked" "I", Cond.fieldLink RX2 18 "SlewRails$Rail" "kinds" "[I", Cond.fieldLink RX2 22 "SlewRails$Rail" "versines" "[I", Cond.fieldLink RX2 25 "SlewRails$Rail" "bounds" "[I", Cond.fieldLink RX2 28 "SlewRails$Rail" "slews" "[I", Cond.methodLink RX7 231 yX4_solve, Cond.instanceMethod yX4_solve, Cond.selects RX4 yX4_solve yX4_solve]
def wsX7_best_r3 : List Cond := [Cond.code yX4_solve cX4_solve 3 none, Cond.methodLink RX4 38 yX2_isLike, Cond.instanceMethod yX2_isLike, Cond.selects RX2 yX2_isLike yX2_isLike, Cond.code yX2_isLike cX2_isLike 3 (some .boolean), Cond.methodLink RX4 42 yX2_become, Cond.instanceMethod yX2_become, Cond.selects RX2 yX2_become yX2_become, Cond.code yX2_become cX2_become 2 none, Cond.methodLink RX2 31 arraycopyName, Cond.native arraycopyName, Cond.static arraycopyName, Cond.initialized "java/lang/System", Cond.methodLink RX4 46 yX4_fillTable, Cond.instanceMethod yX4_fillTable, Cond.selects RX4 yX4_fillTable yX4_fillTable, Cond.code yX4_fillTable cX4_fillTable 3 none, Cond.fieldLink RX4 57 "SlewRails$Rail" "pegs" "I", Cond.methodLink RX4 60 yX2_reach, Cond.instanceMethod yX2_reach, Cond.selects RX2 yX2_reach yX2_reach, Cond.code yX2_reach cX2_reach 2 (some .int), Cond.methodLink RX2 37 Lib.Math.max.name, Cond.static Lib.Math.max.name]
def wsX7_best_r4 : List Cond := [Cond.initialized "java/lang/Math", Cond.code Lib.Math.max.name Lib.Math.max.code 2 (some .int), Cond.methodLink RX4 64 yX4_fillChoices, Cond.instanceMethod yX4_fillChoices, Cond.selects RX4 yX4_fillChoices yX4_fillChoices, Cond.code yX4_fillChoices cX4_fillChoices 8 none, Cond.methodLink RX4 68 yX4_placeOf, Cond.static yX4_placeOf, Cond.code yX4_placeOf cX4_placeOf 4 (some .int), Cond.methodLink RX4 72 yX4_leastFrom, Cond.instanceMethod yX4_leastFrom, Cond.selects RX4 yX4_leastFrom yX4_leastFrom, Cond.code yX4_leastFrom cX4_leastFrom 12 (some .int), Cond.constant RX4 82 (268435456), Cond.methodLink RX4 83 Lib.Math.abs.name, Cond.static Lib.Math.abs.name, Cond.code Lib.Math.abs.name Lib.Math.abs.code 1 (some .int), Cond.methodLink RX4 75 yX2_isEased, Cond.instanceMethod yX2_isEased, Cond.selects RX2 yX2_isEased yX2_isEased, Cond.code yX2_isEased cX2_isEased 2 (some .boolean), Cond.methodLink RX4 79 yX4_leanOf, Cond.instanceMethod yX4_leanOf, Cond.selects RX4 yX4_leanOf yX4_leanOf]
def wsX7_best_r5 : List Cond := [Cond.code yX4_leanOf cX4_leanOf 5 (some .int), Cond.fieldLink RX4 92 "SlewRails$Rail" "versines" "[I", Cond.methodLink RX4 88 yX4_costOf, Cond.instanceMethod yX4_costOf, Cond.selects RX4 yX4_costOf yX4_costOf, Cond.code yX4_costOf cX4_costOf 4 (some .int), Cond.methodLink RX4 49 yX4_leastOfAll, Cond.instanceMethod yX4_leastOfAll, Cond.selects RX4 yX4_leastOfAll yX4_leastOfAll, Cond.code yX4_leastOfAll cX4_leastOfAll 6 (some .int), Cond.methodLink RX4 99 Lib.Math.min.name, Cond.static Lib.Math.min.name, Cond.code Lib.Math.min.name Lib.Math.min.code 2 (some .int), Cond.methodLink RX4 95 yX4_costOfFirst, Cond.instanceMethod yX4_costOfFirst, Cond.selects RX4 yX4_costOfFirst yX4_costOfFirst, Cond.code yX4_costOfFirst cX4_costOfFirst 4 (some .int), Cond.methodLink RX4 53 yX4_pickSlews, Cond.instanceMethod yX4_pickSlews, Cond.selects RX4 yX4_pickSlews yX4_pickSlews, Cond.code yX4_pickSlews cX4_pickSlews 4 none, Cond.methodLink RX4 102 yX4_pickFirst, Cond.instanceMethod yX4_pickFirst, Cond.selects RX4 yX4_pickFirst yX4_pickFirst]
def wsX7_best_r6 : List Cond := [Cond.code yX4_pickFirst cX4_pickFirst 6 none, Cond.methodLink RX4 105 yX4_pickNext, Cond.instanceMethod yX4_pickNext, Cond.selects RX4 yX4_pickNext yX4_pickNext, Cond.code yX4_pickNext cX4_pickNext 10 (some .int)]
def wsX7_best : List Cond := .code yX7_best cX7_best 2 (some .int) :: ((wsX7_best_r1 ++ (wsX7_best_r2 ++ (wsX7_best_r3 ++ (wsX7_best_r4 ++ (wsX7_best_r5 ++ wsX7_best_r6))))) ++ wsX70 ++ wsX20 ++ wsX40)
def wsX7_wrong_r1 : List Cond := [Cond.fieldLink RX7 25 "SlewRails" "rail" "LSlewRails$Rail;", Cond.constant RX7 157 (-1000002), Cond.constant RX7 74 (-1000001), Cond.fieldLink RX7 29 "SlewRails" "draft" "LSlewRails$Rail;", Cond.constant RX7 206 (-1000000), Cond.methodLink RX7 164 yX2_isThere, Cond.instanceMethod yX2_isThere, Cond.selects RX2 yX2_isThere yX2_isThere, Cond.initialized RX2, Cond.code yX2_isThere cX2_isThere 1 (some .boolean), Cond.fieldLink RX2 9 "SlewRails$Rail" "pegs" "I", Cond.methodLink RX7 70 yX7_isWithin, Cond.static yX7_isWithin, Cond.initialized RX7, Cond.code yX7_isWithin cX7_isWithin 3 (some .boolean), Cond.methodLink RX7 133 yX2_become, Cond.instanceMethod yX2_become, Cond.selects RX2 yX2_become yX2_become, Cond.code yX2_become cX2_become 2 none, Cond.fieldLink RX2 15 "SlewRails$Rail" "worked" "I", Cond.fieldLink RX2 18 "SlewRails$Rail" "kinds" "[I", Cond.methodLink RX2 31 arraycopyName, Cond.native arraycopyName, Cond.static arraycopyName]
def wsX7_wrong_r2 : List Cond := [Cond.initialized "java/lang/System", Cond.fieldLink RX2 22 "SlewRails$Rail" "versines" "[I", Cond.fieldLink RX2 25 "SlewRails$Rail" "bounds" "[I", Cond.fieldLink RX2 28 "SlewRails$Rail" "slews" "[I", Cond.methodLink RX7 241 yX2_dropSlews, Cond.instanceMethod yX2_dropSlews, Cond.selects RX2 yX2_dropSlews yX2_dropSlews, Cond.code yX2_dropSlews cX2_dropSlews 1 none, Cond.methodLink RX2 63 yJ7_fill_53178, Cond.static yJ7_fill_53178, Cond.initialized RJ7, Cond.code yJ7_fill_53178 cJ7_fill_53178 4 none, Cond.methodLink RX7 244 yX2_misread, Cond.instanceMethod yX2_misread, Cond.selects RX2 yX2_misread yX2_misread, Cond.code yX2_misread cX2_misread 8 (some .int), Cond.methodLink RX2 60 yX2_step, Cond.instanceMethod yX2_step, Cond.selects RX2 yX2_step yX2_step, Cond.code yX2_step cX2_step 2 (some .int), Cond.methodLink RX2 57 Lib.Math.abs.name, Cond.static Lib.Math.abs.name, Cond.initialized "java/lang/Math", Cond.code Lib.Math.abs.name Lib.Math.abs.code 1 (some .int)]
def wsX7_wrong_r3 : List Cond := [Cond.methodLink RX2 51 yX2_isEased, Cond.instanceMethod yX2_isEased, Cond.selects RX2 yX2_isEased yX2_isEased, Cond.code yX2_isEased cX2_isEased 2 (some .boolean), Cond.methodLink RX2 54 yX2_now, Cond.instanceMethod yX2_now, Cond.selects RX2 yX2_now yX2_now, Cond.code yX2_now cX2_now 2 (some .int), Cond.methodLink RX2 43 yX2_slewAt, Cond.instanceMethod yX2_slewAt, Cond.selects RX2 yX2_slewAt yX2_slewAt, Cond.code yX2_slewAt cX2_slewAt 2 (some .int)]
def wsX7_wrong : List Cond := .code yX7_wrong cX7_wrong 3 (some .int) :: ((wsX7_wrong_r1 ++ (wsX7_wrong_r2 ++ wsX7_wrong_r3)) ++ wsX70 ++ wsX20)
def wsX7_isBeyondInt : List Cond := .code yX7_isBeyondInt cX7_isBeyondInt 2 (some .boolean) :: ([.constantLong RX7 308 (-2147483648), .constantLong RX7 310 (2147483647)])
def wsX7_moment_r1 : List Cond := [Cond.fieldLink RX7 25 "SlewRails" "rail" "LSlewRails$Rail;", Cond.constant RX7 157 (-1000002), Cond.fieldLink RX7 140 "SlewRails$Rail" "pegs" "I", Cond.methodLink RX7 164 yX2_isThere, Cond.instanceMethod yX2_isThere, Cond.selects RX2 yX2_isThere yX2_isThere, Cond.initialized RX2, Cond.code yX2_isThere cX2_isThere 1 (some .boolean), Cond.fieldLink RX2 9 "SlewRails$Rail" "pegs" "I", Cond.methodLink RX7 203 yX2_now, Cond.instanceMethod yX2_now, Cond.selects RX2 yX2_now yX2_now, Cond.code yX2_now cX2_now 2 (some .int), Cond.fieldLink RX2 22 "SlewRails$Rail" "versines" "[I", Cond.fieldLink RX2 28 "SlewRails$Rail" "slews" "[I", Cond.methodLink RX2 43 yX2_slewAt, Cond.instanceMethod yX2_slewAt, Cond.selects RX2 yX2_slewAt yX2_slewAt, Cond.code yX2_slewAt cX2_slewAt 2 (some .int), Cond.methodLink RX7 247 yX7_isBeyondInt, Cond.static yX7_isBeyondInt, Cond.initialized RX7, Cond.code yX7_isBeyondInt cX7_isBeyondInt 2 (some .boolean), Cond.constantLong RX7 308 (-2147483648)]
def wsX7_moment_r2 : List Cond := [Cond.constantLong RX7 310 (2147483647), Cond.methodLink RX7 75 yX7_found, Cond.instanceMethod yX7_found, Cond.selects RX7 yX7_found yX7_found, Cond.code yX7_found cX7_found 2 (some .int), Cond.fieldLink RX7 61 "SlewRails" "status" "I", Cond.constant RX7 312 (-1000010), Cond.methodLink RX7 83 yX7_fine, Cond.instanceMethod yX7_fine, Cond.selects RX7 yX7_fine yX7_fine, Cond.code yX7_fine cX7_fine 2 (some .int)]
def wsX7_moment : List Cond := .code yX7_moment cX7_moment 7 (some .int) :: ((wsX7_moment_r1 ++ wsX7_moment_r2) ++ wsX70 ++ wsX20)
def wsX7_slewsThatFit_r1 : List Cond := [Cond.fieldLink RX7 29 "SlewRails" "draft" "LSlewRails$Rail;", Cond.fieldLink RX7 158 "SlewRails$Rail" "slews" "[I", Cond.methodLink RX7 154 yX2_reach, Cond.instanceMethod yX2_reach, Cond.selects RX2 yX2_reach yX2_reach, Cond.initialized RX2, Cond.code yX2_reach cX2_reach 2 (some .int), Cond.fieldLink RX2 9 "SlewRails$Rail" "pegs" "I", Cond.fieldLink RX2 18 "SlewRails$Rail" "kinds" "[I", Cond.fieldLink RX2 25 "SlewRails$Rail" "bounds" "[I", Cond.methodLink RX2 37 Lib.Math.max.name, Cond.static Lib.Math.max.name, Cond.initialized "java/lang/Math", Cond.code Lib.Math.max.name Lib.Math.max.code 2 (some .int), Cond.methodLink RX7 313 yX3_tellsNow, Cond.instanceMethod yX3_tellsNow, Cond.selects RX3 yX3_tellsNow yX3_tellsNow, Cond.initialized RX3, Cond.code yX3_tellsNow cX3_tellsNow 4 (some .boolean), Cond.fieldLink RX3 18 "SlewRails$Row" "items" "[I", Cond.methodLink RX3 28 yX2_now, Cond.instanceMethod yX2_now, Cond.selects RX2 yX2_now yX2_now, Cond.code yX2_now cX2_now 2 (some .int)]
def wsX7_slewsThatFit_r2 : List Cond := [Cond.fieldLink RX2 22 "SlewRails$Rail" "versines" "[I", Cond.fieldLink RX2 28 "SlewRails$Rail" "slews" "[I", Cond.methodLink RX2 43 yX2_slewAt, Cond.instanceMethod yX2_slewAt, Cond.selects RX2 yX2_slewAt yX2_slewAt, Cond.code yX2_slewAt cX2_slewAt 2 (some .int)]
def wsX7_slewsThatFit : List Cond := .code yX7_slewsThatFit cX7_slewsThatFit 7 (some .int) :: ((wsX7_slewsThatFit_r1 ++ wsX7_slewsThatFit_r2) ++ wsX70 ++ wsX20 ++ wsX30)
def wsX7_versinesThatFit : List Cond := .code yX7_versinesThatFit cX7_versinesThatFit 6 (some .int) :: ([.fieldLink RX7 29 "SlewRails" "draft" "LSlewRails$Rail;", .fieldLink RX7 188 "SlewRails$Rail" "versines" "[I", .methodLink RX7 313 yX3_tellsNow, .instanceMethod yX3_tellsNow, .selects RX3 yX3_tellsNow yX3_tellsNow, .initialized RX3, .code yX3_tellsNow cX3_tellsNow 4 (some .boolean), .fieldLink RX3 18 "SlewRails$Row" "items" "[I", .methodLink RX3 28 yX2_now, .instanceMethod yX2_now, .selects RX2 yX2_now yX2_now, .initialized RX2, .code yX2_now cX2_now 2 (some .int), .fieldLink RX2 22 "SlewRails$Rail" "versines" "[I", .fieldLink RX2 28 "SlewRails$Rail" "slews" "[I", .methodLink RX2 43 yX2_slewAt, .instanceMethod yX2_slewAt, .selects RX2 yX2_slewAt yX2_slewAt, .code yX2_slewAt cX2_slewAt 2 (some .int), .fieldLink RX2 9 "SlewRails$Rail" "pegs" "I"] ++ wsX70 ++ wsX20 ++ wsX30)
def wsX7_leastVersineThatFits : List Cond := .code yX7_leastVersineThatFits cX7_leastVersineThatFits 5 (some .int) :: ([.fieldLink RX7 29 "SlewRails" "draft" "LSlewRails$Rail;", .fieldLink RX7 188 "SlewRails$Rail" "versines" "[I", .constant RX7 206 (-1000000), .methodLink RX7 313 yX3_tellsNow, .instanceMethod yX3_tellsNow, .selects RX3 yX3_tellsNow yX3_tellsNow, .initialized RX3, .code yX3_tellsNow cX3_tellsNow 4 (some .boolean), .fieldLink RX3 18 "SlewRails$Row" "items" "[I", .methodLink RX3 28 yX2_now, .instanceMethod yX2_now, .selects RX2 yX2_now yX2_now, .initialized RX2, .code yX2_now cX2_now 2 (some .int), .fieldLink RX2 22 "SlewRails$Rail" "versines" "[I", .fieldLink RX2 28 "SlewRails$Rail" "slews" "[I", .methodLink RX2 43 yX2_slewAt, .instanceMethod yX2_slewAt, .selects RX2 yX2_slewAt yX2_slewAt, .code yX2_slewAt cX2_slewAt 2 (some .int), .fieldLink RX2 9 "SlewRails$Rail" "pegs" "I"] ++ wsX70 ++ wsX20 ++ wsX30)
def wsX7_fits_r1 : List Cond := [Cond.fieldLink RX7 25 "SlewRails" "rail" "LSlewRails$Rail;", Cond.fieldLink RX7 140 "SlewRails$Rail" "pegs" "I", Cond.constant RX7 74 (-1000001), Cond.fieldLink RX7 11 "SlewRails" "rows" "[LSlewRails$Row;", Cond.fieldLink RX7 29 "SlewRails" "draft" "LSlewRails$Rail;", Cond.methodLink RX7 146 yX7_isPeg, Cond.instanceMethod yX7_isPeg, Cond.selects RX7 yX7_isPeg yX7_isPeg, Cond.initialized RX7, Cond.code yX7_isPeg cX7_isPeg 2 (some .boolean), Cond.methodLink RX7 70 yX7_isWithin, Cond.static yX7_isWithin, Cond.code yX7_isWithin cX7_isWithin 3 (some .boolean), Cond.methodLink RX7 66 yX7_isRow, Cond.static yX7_isRow, Cond.code yX7_isRow cX7_isRow 1 (some .boolean), Cond.methodLink RX7 86 yX3_isMissing, Cond.instanceMethod yX3_isMissing, Cond.selects RX3 yX3_isMissing yX3_isMissing, Cond.initialized RX3, Cond.code yX3_isMissing cX3_isMissing 1 (some .boolean), Cond.fieldLink RX3 11 "SlewRails$Row" "lane" "I", Cond.methodLink RX7 75 yX7_found, Cond.instanceMethod yX7_found]
def wsX7_fits_r2 : List Cond := [Cond.selects RX7 yX7_found yX7_found, Cond.code yX7_found cX7_found 2 (some .int), Cond.fieldLink RX7 61 "SlewRails" "status" "I", Cond.constant RX7 312 (-1000010), Cond.methodLink RX7 90 yX3_holds, Cond.instanceMethod yX3_holds, Cond.selects RX3 yX3_holds yX3_holds, Cond.code yX3_holds cX3_holds 3 (some .boolean), Cond.fieldLink RX3 15 "SlewRails$Row" "size" "I", Cond.methodLink RX7 133 yX2_become, Cond.instanceMethod yX2_become, Cond.selects RX2 yX2_become yX2_become, Cond.initialized RX2, Cond.code yX2_become cX2_become 2 none, Cond.fieldLink RX2 9 "SlewRails$Rail" "pegs" "I", Cond.fieldLink RX2 15 "SlewRails$Rail" "worked" "I", Cond.fieldLink RX2 18 "SlewRails$Rail" "kinds" "[I", Cond.methodLink RX2 31 arraycopyName, Cond.native arraycopyName, Cond.static arraycopyName, Cond.initialized "java/lang/System", Cond.fieldLink RX2 22 "SlewRails$Rail" "versines" "[I", Cond.fieldLink RX2 25 "SlewRails$Rail" "bounds" "[I", Cond.fieldLink RX2 28 "SlewRails$Rail" "slews" "[I"]
def wsX7_fits_r3 : List Cond := [Cond.methodLink RX7 251 yX7_slewsThatFit, Cond.instanceMethod yX7_slewsThatFit, Cond.selects RX7 yX7_slewsThatFit yX7_slewsThatFit, Cond.code yX7_slewsThatFit cX7_slewsThatFit 7 (some .int), Cond.fieldLink RX7 158 "SlewRails$Rail" "slews" "[I", Cond.methodLink RX7 154 yX2_reach, Cond.instanceMethod yX2_reach, Cond.selects RX2 yX2_reach yX2_reach, Cond.code yX2_reach cX2_reach 2 (some .int), Cond.methodLink RX2 37 Lib.Math.max.name, Cond.static Lib.Math.max.name, Cond.initialized "java/lang/Math", Cond.code Lib.Math.max.name Lib.Math.max.code 2 (some .int), Cond.methodLink RX7 313 yX3_tellsNow, Cond.instanceMethod yX3_tellsNow, Cond.selects RX3 yX3_tellsNow yX3_tellsNow, Cond.code yX3_tellsNow cX3_tellsNow 4 (some .boolean), Cond.fieldLink RX3 18 "SlewRails$Row" "items" "[I", Cond.methodLink RX3 28 yX2_now, Cond.instanceMethod yX2_now, Cond.selects RX2 yX2_now yX2_now, Cond.code yX2_now cX2_now 2 (some .int), Cond.methodLink RX2 43 yX2_slewAt, Cond.instanceMethod yX2_slewAt]
def wsX7_fits_r4 : List Cond := [Cond.selects RX2 yX2_slewAt yX2_slewAt, Cond.code yX2_slewAt cX2_slewAt 2 (some .int), Cond.methodLink RX7 83 yX7_fine, Cond.instanceMethod yX7_fine, Cond.selects RX7 yX7_fine yX7_fine, Cond.code yX7_fine cX7_fine 2 (some .int), Cond.methodLink RX7 255 yX7_versinesThatFit, Cond.instanceMethod yX7_versinesThatFit, Cond.selects RX7 yX7_versinesThatFit yX7_versinesThatFit, Cond.code yX7_versinesThatFit cX7_versinesThatFit 6 (some .int), Cond.fieldLink RX7 188 "SlewRails$Rail" "versines" "[I", Cond.methodLink RX7 258 yX7_leastVersineThatFits, Cond.instanceMethod yX7_leastVersineThatFits, Cond.selects RX7 yX7_leastVersineThatFits yX7_leastVersineThatFits, Cond.code yX7_leastVersineThatFits cX7_leastVersineThatFits 5 (some .int), Cond.constant RX7 206 (-1000000)]
def wsX7_fits : List Cond := .code yX7_fits cX7_fits 6 (some .int) :: ((wsX7_fits_r1 ++ (wsX7_fits_r2 ++ (wsX7_fits_r3 ++ wsX7_fits_r4))) ++ wsX70 ++ wsX20 ++ wsX30)
def wsX7_tell_r1 : List Cond := [Cond.constant RX7 74 (-1000001), Cond.fieldLink RX7 11 "SlewRails" "rows" "[LSlewRails$Row;", Cond.fieldLink RX7 261 "SlewRails$Row" "size" "I", Cond.fieldLink RX7 25 "SlewRails" "rail" "LSlewRails$Rail;", Cond.fieldLink RX7 140 "SlewRails$Rail" "pegs" "I", Cond.methodLink RX7 179 Lib.Math.min.name, Cond.static Lib.Math.min.name, Cond.initialized "java/lang/Math", Cond.code Lib.Math.min.name Lib.Math.min.code 2 (some .int), Cond.methodLink RX7 146 yX7_isPeg, Cond.instanceMethod yX7_isPeg, Cond.selects RX7 yX7_isPeg yX7_isPeg, Cond.initialized RX7, Cond.code yX7_isPeg cX7_isPeg 2 (some .boolean), Cond.methodLink RX7 70 yX7_isWithin, Cond.static yX7_isWithin, Cond.code yX7_isWithin cX7_isWithin 3 (some .boolean), Cond.methodLink RX7 66 yX7_isRow, Cond.static yX7_isRow, Cond.code yX7_isRow cX7_isRow 1 (some .boolean), Cond.methodLink RX7 86 yX3_isMissing, Cond.instanceMethod yX3_isMissing, Cond.selects RX3 yX3_isMissing yX3_isMissing, Cond.initialized RX3]
def wsX7_tell_r2 : List Cond := [Cond.code yX3_isMissing cX3_isMissing 1 (some .boolean), Cond.fieldLink RX3 11 "SlewRails$Row" "lane" "I", Cond.methodLink RX7 75 yX7_found, Cond.instanceMethod yX7_found, Cond.selects RX7 yX7_found yX7_found, Cond.code yX7_found cX7_found 2 (some .int), Cond.fieldLink RX7 61 "SlewRails" "status" "I", Cond.constant RX7 312 (-1000010), Cond.methodLink RX7 90 yX3_holds, Cond.instanceMethod yX3_holds, Cond.selects RX3 yX3_holds yX3_holds, Cond.code yX3_holds cX3_holds 3 (some .boolean), Cond.fieldLink RX3 15 "SlewRails$Row" "size" "I", Cond.methodLink RX7 203 yX2_now, Cond.instanceMethod yX2_now, Cond.selects RX2 yX2_now yX2_now, Cond.initialized RX2, Cond.code yX2_now cX2_now 2 (some .int), Cond.fieldLink RX2 22 "SlewRails$Rail" "versines" "[I", Cond.fieldLink RX2 28 "SlewRails$Rail" "slews" "[I", Cond.methodLink RX2 43 yX2_slewAt, Cond.instanceMethod yX2_slewAt, Cond.selects RX2 yX2_slewAt yX2_slewAt, Cond.code yX2_slewAt cX2_slewAt 2 (some .int)]
def wsX7_tell_r3 : List Cond := [Cond.fieldLink RX2 9 "SlewRails$Rail" "pegs" "I", Cond.methodLink RX7 94 yX3_put, Cond.instanceMethod yX3_put, Cond.selects RX3 yX3_put yX3_put, Cond.code yX3_put cX3_put 3 (some .int), Cond.fieldLink RX3 18 "SlewRails$Row" "items" "[I", Cond.methodLink RX7 83 yX7_fine, Cond.instanceMethod yX7_fine, Cond.selects RX7 yX7_fine yX7_fine, Cond.code yX7_fine cX7_fine 2 (some .int)]
def wsX7_tell : List Cond := .code yX7_tell cX7_tell 7 (some .int) :: ((wsX7_tell_r1 ++ (wsX7_tell_r2 ++ wsX7_tell_r3)) ++ wsX70 ++ wsX30 ++ wsX20)
def wsX7_chance_r1 : List Cond := [Cond.fieldLink RX7 25 "SlewRails" "rail" "LSlewRails$Rail;", Cond.constantLong RX7 264 (-1000002), Cond.constantLong RX7 266 (-1000001), Cond.fieldLink RX7 53 "SlewRails" "settling" "LSlewRails$Settling;", Cond.fieldLink RX7 271 "SlewRails$Settling" "above" "J", Cond.fieldLink RX7 275 "SlewRails$Settling" "below" "J", Cond.methodLink RX7 164 yX2_isThere, Cond.instanceMethod yX2_isThere, Cond.selects RX2 yX2_isThere yX2_isThere, Cond.initialized RX2, Cond.code yX2_isThere cX2_isThere 1 (some .boolean), Cond.fieldLink RX2 9 "SlewRails$Rail" "pegs" "I", Cond.methodLink RX7 70 yX7_isWithin, Cond.static yX7_isWithin, Cond.initialized RX7, Cond.code yX7_isWithin cX7_isWithin 3 (some .boolean), Cond.methodLink RX7 268 yX5_solve, Cond.instanceMethod yX5_solve, Cond.selects RX5 yX5_solve yX5_solve, Cond.initialized RX5, Cond.code yX5_solve cX5_solve 6 none, Cond.fieldLink RX5 23 "SlewRails$Settling" "settled" "I", Cond.fieldLink RX5 31 "SlewRails$Rail" "pegs" "I", Cond.fieldLink RX5 7 "SlewRails$Settling" "above" "J"]
def wsX7_chance_r2 : List Cond := [Cond.fieldLink RX5 16 "SlewRails$Settling" "ways" "[J", Cond.fieldLink RX5 13 "SlewRails$Settling" "below" "J", Cond.constantLong RX5 44 (10), Cond.methodLink RX5 27 yX5_beginWays, Cond.instanceMethod yX5_beginWays, Cond.selects RX5 yX5_beginWays yX5_beginWays, Cond.code yX5_beginWays cX5_beginWays 3 none, Cond.methodLink RX5 57 yJ7_fill_d0a16, Cond.static yJ7_fill_d0a16, Cond.initialized RJ7, Cond.code yJ7_fill_d0a16 cJ7_fill_d0a16 5 none, Cond.methodLink RX5 63 yX5_waysOf, Cond.instanceMethod yX5_waysOf, Cond.selects RX5 yX5_waysOf yX5_waysOf, Cond.code yX5_waysOf cX5_waysOf 4 (some .int), Cond.methodLink RX5 40 yX5_settles, Cond.static yX5_settles, Cond.code yX5_settles cX5_settles 2 (some .boolean), Cond.methodLink RX5 50 yX2_settledAt, Cond.instanceMethod yX2_settledAt, Cond.selects RX2 yX2_settledAt yX2_settledAt, Cond.code yX2_settledAt cX2_settledAt 3 (some .int), Cond.methodLink RX2 43 yX2_slewAt, Cond.instanceMethod yX2_slewAt]
def wsX7_chance_r3 : List Cond := [Cond.selects RX2 yX2_slewAt yX2_slewAt, Cond.code yX2_slewAt cX2_slewAt 2 (some .int), Cond.fieldLink RX2 28 "SlewRails$Rail" "slews" "[I", Cond.methodLink RX2 47 yX2_isSoft, Cond.instanceMethod yX2_isSoft, Cond.selects RX2 yX2_isSoft yX2_isSoft, Cond.code yX2_isSoft cX2_isSoft 2 (some .boolean), Cond.fieldLink RX2 18 "SlewRails$Rail" "kinds" "[I", Cond.methodLink RX5 54 yX2_slewAt, Cond.methodLink RX5 36 yX5_goOn, Cond.instanceMethod yX5_goOn, Cond.selects RX5 yX5_goOn yX5_goOn, Cond.code yX5_goOn cX5_goOn 7 none, Cond.fieldLink RX5 20 "SlewRails$Settling" "waysOn" "[J", Cond.methodLink RX5 67 yX5_stepBy, Cond.static yX5_stepBy, Cond.code yX5_stepBy cX5_stepBy 7 (some .int), Cond.fieldLink RX5 77 "SlewRails$Rail" "versines" "[I", Cond.methodLink RX5 81 Lib.Math.abs.name, Cond.static Lib.Math.abs.name, Cond.initialized "java/lang/Math", Cond.code Lib.Math.abs.name Lib.Math.abs.code 1 (some .int), Cond.methodLink RX5 70 yX2_isEased, Cond.instanceMethod yX2_isEased]
def wsX7_chance_r4 : List Cond := [Cond.selects RX2 yX2_isEased yX2_isEased, Cond.code yX2_isEased cX2_isEased 2 (some .boolean), Cond.methodLink RX5 74 yX5_slewBy, Cond.static yX5_slewBy, Cond.code yX5_slewBy cX5_slewBy 3 (some .int), Cond.methodLink RX5 46 yX5_commonDivisor, Cond.static yX5_commonDivisor, Cond.code yX5_commonDivisor cX5_commonDivisor 11 (some .long)]
def wsX7_chance : List Cond := .code yX7_chance cX7_chance 4 (some .long) :: ((wsX7_chance_r1 ++ (wsX7_chance_r2 ++ (wsX7_chance_r3 ++ wsX7_chance_r4))) ++ wsX70 ++ wsX50 ++ wsX20)
def wsX7_drawn_r1 : List Cond := [Cond.fieldLink RX7 25 "SlewRails" "rail" "LSlewRails$Rail;", Cond.constant RX7 157 (-1000002), Cond.constant RX7 278 (999999), Cond.constant RX7 74 (-1000001), Cond.fieldLink RX7 29 "SlewRails" "draft" "LSlewRails$Rail;", Cond.methodLink RX7 164 yX2_isThere, Cond.instanceMethod yX2_isThere, Cond.selects RX2 yX2_isThere yX2_isThere, Cond.initialized RX2, Cond.code yX2_isThere cX2_isThere 1 (some .boolean), Cond.fieldLink RX2 9 "SlewRails$Rail" "pegs" "I", Cond.methodLink RX7 70 yX7_isWithin, Cond.static yX7_isWithin, Cond.initialized RX7, Cond.code yX7_isWithin cX7_isWithin 3 (some .boolean), Cond.methodLink RX7 133 yX2_become, Cond.instanceMethod yX2_become, Cond.selects RX2 yX2_become yX2_become, Cond.code yX2_become cX2_become 2 none, Cond.fieldLink RX2 15 "SlewRails$Rail" "worked" "I", Cond.fieldLink RX2 18 "SlewRails$Rail" "kinds" "[I", Cond.methodLink RX2 31 arraycopyName, Cond.native arraycopyName, Cond.static arraycopyName]
def wsX7_drawn_r2 : List Cond := [Cond.initialized "java/lang/System", Cond.fieldLink RX2 22 "SlewRails$Rail" "versines" "[I", Cond.fieldLink RX2 25 "SlewRails$Rail" "bounds" "[I", Cond.fieldLink RX2 28 "SlewRails$Rail" "slews" "[I", Cond.methodLink RX7 279 yX2_passYears, Cond.instanceMethod yX2_passYears, Cond.selects RX2 yX2_passYears yX2_passYears, Cond.code yX2_passYears cX2_passYears 9 (some .int), Cond.constantLong RX2 90 (16807), Cond.constantLong RX2 92 (2147483647), Cond.constantLong RX2 94 (7), Cond.methodLink RX2 57 Lib.Math.abs.name, Cond.static Lib.Math.abs.name, Cond.initialized "java/lang/Math", Cond.code Lib.Math.abs.name Lib.Math.abs.code 1 (some .int), Cond.methodLink RX2 78 yX2_reach, Cond.instanceMethod yX2_reach, Cond.selects RX2 yX2_reach yX2_reach, Cond.code yX2_reach cX2_reach 2 (some .int), Cond.methodLink RX2 37 Lib.Math.max.name, Cond.static Lib.Math.max.name, Cond.code Lib.Math.max.name Lib.Math.max.code 2 (some .int), Cond.methodLink RX2 96 yX2_workIn, Cond.instanceMethod yX2_workIn]
def wsX7_drawn_r3 : List Cond := [Cond.selects RX2 yX2_workIn yX2_workIn, Cond.code yX2_workIn cX2_workIn 2 none, Cond.methodLink RX2 72 Lib.Math.min.name, Cond.static Lib.Math.min.name, Cond.code Lib.Math.min.name Lib.Math.min.code 2 (some .int), Cond.methodLink RX2 69 yX2_settledAt, Cond.instanceMethod yX2_settledAt, Cond.selects RX2 yX2_settledAt yX2_settledAt, Cond.code yX2_settledAt cX2_settledAt 3 (some .int), Cond.methodLink RX2 43 yX2_slewAt, Cond.instanceMethod yX2_slewAt, Cond.selects RX2 yX2_slewAt yX2_slewAt, Cond.code yX2_slewAt cX2_slewAt 2 (some .int), Cond.methodLink RX2 47 yX2_isSoft, Cond.instanceMethod yX2_isSoft, Cond.selects RX2 yX2_isSoft yX2_isSoft, Cond.code yX2_isSoft cX2_isSoft 2 (some .boolean), Cond.methodLink RX2 54 yX2_now, Cond.instanceMethod yX2_now, Cond.selects RX2 yX2_now yX2_now, Cond.code yX2_now cX2_now 2 (some .int), Cond.methodLink RX2 75 yX2_dropSlews, Cond.instanceMethod yX2_dropSlews, Cond.selects RX2 yX2_dropSlews yX2_dropSlews]
def wsX7_drawn_r4 : List Cond := [Cond.code yX2_dropSlews cX2_dropSlews 1 none, Cond.methodLink RX2 63 yJ7_fill_53178, Cond.static yJ7_fill_53178, Cond.initialized RJ7, Cond.code yJ7_fill_53178 cJ7_fill_53178 4 none, Cond.methodLink RX7 185 yX2_worst, Cond.instanceMethod yX2_worst, Cond.selects RX2 yX2_worst yX2_worst, Cond.code yX2_worst cX2_worst 3 (some .int), Cond.methodLink RX2 60 yX2_step, Cond.instanceMethod yX2_step, Cond.selects RX2 yX2_step yX2_step, Cond.code yX2_step cX2_step 2 (some .int), Cond.methodLink RX2 51 yX2_isEased, Cond.instanceMethod yX2_isEased, Cond.selects RX2 yX2_isEased yX2_isEased, Cond.code yX2_isEased cX2_isEased 2 (some .boolean)]
def wsX7_drawn : List Cond := .code yX7_drawn cX7_drawn 5 (some .int) :: ((wsX7_drawn_r1 ++ (wsX7_drawn_r2 ++ (wsX7_drawn_r3 ++ wsX7_drawn_r4))) ++ wsX70 ++ wsX20)
def wsX7_image_r1 : List Cond := [Cond.constant RX7 74 (-1000001), Cond.fieldLink RX7 25 "SlewRails" "rail" "LSlewRails$Rail;", Cond.constant RX7 157 (-1000002), Cond.fieldLink RX7 32 "SlewRails" "images" "[LSlewRails$Rail;", Cond.methodLink RX7 70 yX7_isWithin, Cond.static yX7_isWithin, Cond.initialized RX7, Cond.code yX7_isWithin cX7_isWithin 3 (some .boolean), Cond.methodLink RX7 164 yX2_isThere, Cond.instanceMethod yX2_isThere, Cond.selects RX2 yX2_isThere yX2_isThere, Cond.initialized RX2, Cond.code yX2_isThere cX2_isThere 1 (some .boolean), Cond.fieldLink RX2 9 "SlewRails$Rail" "pegs" "I", Cond.methodLink RX7 133 yX2_become, Cond.instanceMethod yX2_become, Cond.selects RX2 yX2_become yX2_become, Cond.code yX2_become cX2_become 2 none, Cond.fieldLink RX2 15 "SlewRails$Rail" "worked" "I", Cond.fieldLink RX2 18 "SlewRails$Rail" "kinds" "[I", Cond.methodLink RX2 31 arraycopyName, Cond.native arraycopyName, Cond.static arraycopyName, Cond.initialized "java/lang/System"]
def wsX7_image_r2 : List Cond := [Cond.fieldLink RX2 22 "SlewRails$Rail" "versines" "[I", Cond.fieldLink RX2 25 "SlewRails$Rail" "bounds" "[I", Cond.fieldLink RX2 28 "SlewRails$Rail" "slews" "[I"]
def wsX7_image : List Cond := .code yX7_image cX7_image 2 (some .int) :: ((wsX7_image_r1 ++ wsX7_image_r2) ++ wsX70 ++ wsX20)
def wsX7_restore_r1 : List Cond := [Cond.constant RX7 74 (-1000001), Cond.fieldLink RX7 32 "SlewRails" "images" "[LSlewRails$Rail;", Cond.constant RX7 157 (-1000002), Cond.fieldLink RX7 25 "SlewRails" "rail" "LSlewRails$Rail;", Cond.fieldLink RX7 39 "SlewRails" "history" "LSlewRails$History;", Cond.methodLink RX7 70 yX7_isWithin, Cond.static yX7_isWithin, Cond.initialized RX7, Cond.code yX7_isWithin cX7_isWithin 3 (some .boolean), Cond.methodLink RX7 164 yX2_isThere, Cond.instanceMethod yX2_isThere, Cond.selects RX2 yX2_isThere yX2_isThere, Cond.initialized RX2, Cond.code yX2_isThere cX2_isThere 1 (some .boolean), Cond.fieldLink RX2 9 "SlewRails$Rail" "pegs" "I", Cond.methodLink RX7 133 yX2_become, Cond.instanceMethod yX2_become, Cond.selects RX2 yX2_become yX2_become, Cond.code yX2_become cX2_become 2 none, Cond.fieldLink RX2 15 "SlewRails$Rail" "worked" "I", Cond.fieldLink RX2 18 "SlewRails$Rail" "kinds" "[I", Cond.methodLink RX2 31 arraycopyName, Cond.native arraycopyName, Cond.static arraycopyName]
def wsX7_restore_r2 : List Cond := [Cond.initialized "java/lang/System", Cond.fieldLink RX2 22 "SlewRails$Rail" "versines" "[I", Cond.fieldLink RX2 25 "SlewRails$Rail" "bounds" "[I", Cond.fieldLink RX2 28 "SlewRails$Rail" "slews" "[I", Cond.methodLink RX7 137 yX1_forget, Cond.instanceMethod yX1_forget, Cond.selects RX1 yX1_forget yX1_forget, Cond.initialized RX1, Cond.code yX1_forget cX1_forget 1 none, Cond.fieldLink RX1 17 "SlewRails$History" "held" "I"]
def wsX7_restore : List Cond := .code yX7_restore cX7_restore 2 (some .int) :: ((wsX7_restore_r1 ++ wsX7_restore_r2) ++ wsX70 ++ wsX20 ++ wsX10)
def wsX7_kind : List Cond := .code yX7_kind cX7_kind 2 (some .int) :: ([.fieldLink RX7 25 "SlewRails" "rail" "LSlewRails$Rail;", .fieldLink RX7 282 "SlewRails$Rail" "kinds" "[I", .constant RX7 74 (-1000001), .methodLink RX7 146 yX7_isPeg, .instanceMethod yX7_isPeg, .selects RX7 yX7_isPeg yX7_isPeg, .initialized RX7, .code yX7_isPeg cX7_isPeg 2 (some .boolean), .fieldLink RX7 140 "SlewRails$Rail" "pegs" "I", .methodLink RX7 70 yX7_isWithin, .static yX7_isWithin, .code yX7_isWithin cX7_isWithin 3 (some .boolean)] ++ wsX70 ++ wsX20)
def wsX7_as : List Cond := .code yX7_as cX7_as 5 (some .int) :: ([.constant RX7 74 (-1000001), .fieldLink RX7 25 "SlewRails" "rail" "LSlewRails$Rail;", .fieldLink RX7 282 "SlewRails$Rail" "kinds" "[I", .fieldLink RX7 285 "SlewRails" "ALSO" "[I", .methodLink RX7 146 yX7_isPeg, .instanceMethod yX7_isPeg, .selects RX7 yX7_isPeg yX7_isPeg, .initialized RX7, .code yX7_isPeg cX7_isPeg 2 (some .boolean), .fieldLink RX7 140 "SlewRails$Rail" "pegs" "I", .methodLink RX7 70 yX7_isWithin, .static yX7_isWithin, .code yX7_isWithin cX7_isWithin 3 (some .boolean), .methodLink RX7 83 yX7_fine, .instanceMethod yX7_fine, .selects RX7 yX7_fine yX7_fine, .code yX7_fine cX7_fine 2 (some .int), .fieldLink RX7 61 "SlewRails" "status" "I", .methodLink RX7 75 yX7_found, .instanceMethod yX7_found, .selects RX7 yX7_found yX7_found, .code yX7_found cX7_found 2 (some .int), .constant RX7 312 (-1000010)] ++ wsX70 ++ wsX20)
def wsX7_ask_r1 : List Cond := [Cond.constant RX7 74 (-1000001), Cond.fieldLink RX7 46 "SlewRails" "asks" "LSlewRails$Asks;", Cond.fieldLink RX7 25 "SlewRails" "rail" "LSlewRails$Rail;", Cond.methodLink RX7 146 yX7_isPeg, Cond.instanceMethod yX7_isPeg, Cond.selects RX7 yX7_isPeg yX7_isPeg, Cond.initialized RX7, Cond.code yX7_isPeg cX7_isPeg 2 (some .boolean), Cond.fieldLink RX7 140 "SlewRails$Rail" "pegs" "I", Cond.methodLink RX7 70 yX7_isWithin, Cond.static yX7_isWithin, Cond.code yX7_isWithin cX7_isWithin 3 (some .boolean), Cond.methodLink RX7 288 yX0_begin, Cond.instanceMethod yX0_begin, Cond.selects RX0 yX0_begin yX0_begin, Cond.initialized RX0, Cond.code yX0_begin cX0_begin 4 (some .int), Cond.fieldLink RX0 15 "SlewRails$Asks" "left" "I", Cond.methodLink RX0 19 yX0_answer, Cond.instanceMethod yX0_answer, Cond.selects RX0 yX0_answer yX0_answer, Cond.code yX0_answer cX0_answer 8 (some .int), Cond.fieldLink RX0 23 "SlewRails$Rail" "kinds" "[I", Cond.fieldLink RX0 31 "SlewRails$Asks" "SIZE_BODIES" "[I"]
def wsX7_ask_r2 : List Cond := [Cond.fieldLink RX0 34 "SlewRails$Asks" "MARK_BODIES" "[I", Cond.methodLink RX0 37 yX0_run, Cond.instanceMethod yX0_run, Cond.selects RX0 yX0_run yX0_run, Cond.code yX0_run cX0_run 6 (some .int), Cond.fieldLink RX0 48 "SlewRails$Rail" "slews" "[I", Cond.methodLink RX0 40 yX0_leave, Cond.instanceMethod yX0_leave, Cond.selects RX0 yX0_leave yX0_leave, Cond.code yX0_leave cX0_leave 2 none, Cond.fieldLink RX0 9 "SlewRails$Asks" "trace" "[I", Cond.methodLink RX0 44 yX2_now, Cond.instanceMethod yX2_now, Cond.selects RX2 yX2_now yX2_now, Cond.initialized RX2, Cond.code yX2_now cX2_now 2 (some .int), Cond.fieldLink RX2 22 "SlewRails$Rail" "versines" "[I", Cond.fieldLink RX2 28 "SlewRails$Rail" "slews" "[I", Cond.methodLink RX2 43 yX2_slewAt, Cond.instanceMethod yX2_slewAt, Cond.selects RX2 yX2_slewAt yX2_slewAt, Cond.code yX2_slewAt cX2_slewAt 2 (some .int), Cond.fieldLink RX2 9 "SlewRails$Rail" "pegs" "I"]
def wsX7_ask : List Cond := .code yX7_ask cX7_ask 3 (some .int) :: ((wsX7_ask_r1 ++ wsX7_ask_r2) ++ wsX70 ++ wsX20 ++ wsX00)
def wsX7_trace : List Cond := .code yX7_trace cX7_trace 2 (some .int) :: ([.fieldLink RX7 46 "SlewRails" "asks" "LSlewRails$Asks;", .fieldLink RX7 291 "SlewRails$Asks" "left" "I", .fieldLink RX7 294 "SlewRails$Asks" "trace" "[I", .constant RX7 206 (-1000000), .methodLink RX7 70 yX7_isWithin, .static yX7_isWithin, .initialized RX7, .code yX7_isWithin cX7_isWithin 3 (some .boolean)] ++ wsX70 ++ wsX00)
def wsX7_rowsThere : List Cond := .code yX7_rowsThere cX7_rowsThere 3 (some .int) :: ([.fieldLink RX7 11 "SlewRails" "rows" "[LSlewRails$Row;", .methodLink RX7 86 yX3_isMissing, .instanceMethod yX3_isMissing, .selects RX3 yX3_isMissing yX3_isMissing, .initialized RX3, .code yX3_isMissing cX3_isMissing 1 (some .boolean), .fieldLink RX3 11 "SlewRails$Row" "lane" "I"] ++ wsX70 ++ wsX30)
def wsX7_count_r1 : List Cond := [Cond.fieldLink RX7 25 "SlewRails" "rail" "LSlewRails$Rail;", Cond.fieldLink RX7 140 "SlewRails$Rail" "pegs" "I", Cond.fieldLink RX7 176 "SlewRails$Rail" "worked" "I", Cond.fieldLink RX7 39 "SlewRails" "history" "LSlewRails$History;", Cond.fieldLink RX7 197 "SlewRails$History" "held" "I", Cond.fieldLink RX7 18 "SlewRails" "tape" "LSlewRails$Tape;", Cond.fieldLink RX7 303 "SlewRails$Tape" "length" "I", Cond.constant RX7 74 (-1000001), Cond.methodLink RX7 297 yX7_rowsThere, Cond.instanceMethod yX7_rowsThere, Cond.selects RX7 yX7_rowsThere yX7_rowsThere, Cond.initialized RX7, Cond.code yX7_rowsThere cX7_rowsThere 3 (some .int), Cond.fieldLink RX7 11 "SlewRails" "rows" "[LSlewRails$Row;", Cond.methodLink RX7 86 yX3_isMissing, Cond.instanceMethod yX3_isMissing, Cond.selects RX3 yX3_isMissing yX3_isMissing, Cond.initialized RX3, Cond.code yX3_isMissing cX3_isMissing 1 (some .boolean), Cond.fieldLink RX3 11 "SlewRails$Row" "lane" "I", Cond.methodLink RX7 300 yX2_slewed, Cond.instanceMethod yX2_slewed, Cond.selects RX2 yX2_slewed yX2_slewed, Cond.initialized RX2]
def wsX7_count_r2 : List Cond := [Cond.code yX2_slewed cX2_slewed 3 (some .int), Cond.fieldLink RX2 9 "SlewRails$Rail" "pegs" "I", Cond.fieldLink RX2 28 "SlewRails$Rail" "slews" "[I"]
def wsX7_count : List Cond := .code yX7_count cX7_count 2 (some .int) :: ((wsX7_count_r1 ++ wsX7_count_r2) ++ wsX70 ++ wsX20 ++ wsX10 ++ wsX60 ++ wsX30)
def wsX7_status : List Cond := .code yX7_status cX7_status 1 (some .int) :: ([.fieldLink RX7 61 "SlewRails" "status" "I"] ++ wsX70)
def wsX8_init : List Cond := .code yX8_init cX8_init 2 none :: ([.methodLink RX8 1 objectInit, .instanceMethod objectInit, .code objectInit ⟨#[0xb1]⟩ 1 none, .arrayClass .int, .fieldLink RX8 7 "SlewRailsModel" "lane" "[I", .fieldLink RX8 13 "SlewRailsModel" "many" "[I", .fieldLink RX8 16 "SlewRailsModel" "items" "[I", .fieldLink RX8 19 "SlewRailsModel" "spare" "[I", .fieldLink RX8 22 "SlewRailsModel" "tape" "[I", .fieldLink RX8 25 "SlewRailsModel" "now" "[I", .fieldLink RX8 28 "SlewRailsModel" "draft" "[I", .fieldLink RX8 31 "SlewRailsModel" "tried" "[I", .fieldLink RX8 34 "SlewRailsModel" "past" "[I", .fieldLink RX8 37 "SlewRailsModel" "images" "[I", .arrayClass .boolean, .fieldLink RX8 40 "SlewRailsModel" "kept" "[Z", .fieldLink RX8 44 "SlewRailsModel" "least" "[I", .fieldLink RX8 47 "SlewRailsModel" "bestSlews" "[I", .fieldLink RX8 50 "SlewRailsModel" "trace" "[I", .constant RX8 53 (-1000000)] ++ wsX80)
def wsX8_in : List Cond := .code yX8_in cX8_in 3 (some .boolean) :: ([])
def wsX8_size : List Cond := .code yX8_size cX8_size 1 (some .int) :: ([])
def wsX8_found : List Cond := .code yX8_found cX8_found 2 (some .int) :: ([.fieldLink RX8 54 "SlewRailsModel" "status" "I", .constant RX8 58 (-1000010)] ++ wsX80)
def wsX8_well : List Cond := .code yX8_well cX8_well 2 (some .int) :: ([.fieldLink RX8 54 "SlewRailsModel" "status" "I"] ++ wsX80)
def wsX8_copies : List Cond := .code yX8_copies cX8_copies 5 none :: ([])
def wsX8_isRow : List Cond := .code yX8_isRow cX8_isRow 1 (some .boolean) :: ([.methodLink RX8 59 yX8_in, .static yX8_in, .initialized RX8, .code yX8_in cX8_in 3 (some .boolean)])
def wsX8_isMissing : List Cond := .code yX8_isMissing cX8_isMissing 2 (some .boolean) :: ([.fieldLink RX8 7 "SlewRailsModel" "lane" "[I", .constant RX8 53 (-1000000)] ++ wsX80)
def wsX8_lowest : List Cond := .code yX8_lowest cX8_lowest 2 (some .int) :: ([])
def wsX8_row : List Cond := .code yX8_row cX8_row 5 (some .int) :: ([.constant RX8 67 (-1000001), .fieldLink RX8 7 "SlewRailsModel" "lane" "[I", .fieldLink RX8 13 "SlewRailsModel" "many" "[I", .fieldLink RX8 16 "SlewRailsModel" "items" "[I", .methodLink RX8 63 yX8_isRow, .static yX8_isRow, .initialized RX8, .code yX8_isRow cX8_isRow 1 (some .boolean), .methodLink RX8 59 yX8_in, .static yX8_in, .code yX8_in cX8_in 3 (some .boolean), .methodLink RX8 68 yX8_found, .instanceMethod yX8_found, .selects RX8 yX8_found yX8_found, .code yX8_found cX8_found 2 (some .int), .fieldLink RX8 54 "SlewRailsModel" "status" "I", .constant RX8 58 (-1000010), .methodLink RX8 72 yX8_well, .instanceMethod yX8_well, .selects RX8 yX8_well yX8_well, .code yX8_well cX8_well 2 (some .int)] ++ wsX80)
def wsX8_set_r1 : List Cond := [Cond.constant RX8 67 (-1000001), Cond.fieldLink RX8 13 "SlewRailsModel" "many" "[I", Cond.fieldLink RX8 16 "SlewRailsModel" "items" "[I", Cond.fieldLink RX8 7 "SlewRailsModel" "lane" "[I", Cond.methodLink RX8 63 yX8_isRow, Cond.static yX8_isRow, Cond.initialized RX8, Cond.code yX8_isRow cX8_isRow 1 (some .boolean), Cond.methodLink RX8 59 yX8_in, Cond.static yX8_in, Cond.code yX8_in cX8_in 3 (some .boolean), Cond.methodLink RX8 75 yX8_isMissing, Cond.instanceMethod yX8_isMissing, Cond.selects RX8 yX8_isMissing yX8_isMissing, Cond.code yX8_isMissing cX8_isMissing 2 (some .boolean), Cond.constant RX8 53 (-1000000), Cond.methodLink RX8 68 yX8_found, Cond.instanceMethod yX8_found, Cond.selects RX8 yX8_found yX8_found, Cond.code yX8_found cX8_found 2 (some .int), Cond.fieldLink RX8 54 "SlewRailsModel" "status" "I", Cond.constant RX8 58 (-1000010), Cond.methodLink RX8 78 yX8_lowest, Cond.static yX8_lowest]
def wsX8_set_r2 : List Cond := [Cond.code yX8_lowest cX8_lowest 2 (some .int), Cond.methodLink RX8 72 yX8_well, Cond.instanceMethod yX8_well, Cond.selects RX8 yX8_well yX8_well, Cond.code yX8_well cX8_well 2 (some .int)]
def wsX8_set : List Cond := .code yX8_set cX8_set 4 (some .int) :: ((wsX8_set_r1 ++ wsX8_set_r2) ++ wsX80)
def wsX8_isPart : List Cond := .code yX8_isPart cX8_isPart 4 (some .boolean) :: ([.fieldLink RX8 13 "SlewRailsModel" "many" "[I"] ++ wsX80)
def wsX8_copy_r1 : List Cond := [Cond.constant RX8 67 (-1000001), Cond.fieldLink RX8 7 "SlewRailsModel" "lane" "[I", Cond.fieldLink RX8 19 "SlewRailsModel" "spare" "[I", Cond.fieldLink RX8 16 "SlewRailsModel" "items" "[I", Cond.methodLink RX8 63 yX8_isRow, Cond.static yX8_isRow, Cond.initialized RX8, Cond.code yX8_isRow cX8_isRow 1 (some .boolean), Cond.methodLink RX8 59 yX8_in, Cond.static yX8_in, Cond.code yX8_in cX8_in 3 (some .boolean), Cond.methodLink RX8 75 yX8_isMissing, Cond.instanceMethod yX8_isMissing, Cond.selects RX8 yX8_isMissing yX8_isMissing, Cond.code yX8_isMissing cX8_isMissing 2 (some .boolean), Cond.constant RX8 53 (-1000000), Cond.methodLink RX8 68 yX8_found, Cond.instanceMethod yX8_found, Cond.selects RX8 yX8_found yX8_found, Cond.code yX8_found cX8_found 2 (some .int), Cond.fieldLink RX8 54 "SlewRailsModel" "status" "I", Cond.constant RX8 58 (-1000010), Cond.methodLink RX8 82 yX8_isPart, Cond.instanceMethod yX8_isPart]
def wsX8_copy_r2 : List Cond := [Cond.selects RX8 yX8_isPart yX8_isPart, Cond.code yX8_isPart cX8_isPart 4 (some .boolean), Cond.fieldLink RX8 13 "SlewRailsModel" "many" "[I", Cond.methodLink RX8 72 yX8_well, Cond.instanceMethod yX8_well, Cond.selects RX8 yX8_well yX8_well, Cond.code yX8_well cX8_well 2 (some .int)]
def wsX8_copy : List Cond := .code yX8_copy cX8_copy 7 (some .int) :: ((wsX8_copy_r1 ++ wsX8_copy_r2) ++ wsX80)
def wsX8_drop_r1 : List Cond := [Cond.constant RX8 67 (-1000001), Cond.fieldLink RX8 7 "SlewRailsModel" "lane" "[I", Cond.constant RX8 53 (-1000000), Cond.fieldLink RX8 13 "SlewRailsModel" "many" "[I", Cond.methodLink RX8 63 yX8_isRow, Cond.static yX8_isRow, Cond.initialized RX8, Cond.code yX8_isRow cX8_isRow 1 (some .boolean), Cond.methodLink RX8 59 yX8_in, Cond.static yX8_in, Cond.code yX8_in cX8_in 3 (some .boolean), Cond.methodLink RX8 75 yX8_isMissing, Cond.instanceMethod yX8_isMissing, Cond.selects RX8 yX8_isMissing yX8_isMissing, Cond.code yX8_isMissing cX8_isMissing 2 (some .boolean), Cond.methodLink RX8 68 yX8_found, Cond.instanceMethod yX8_found, Cond.selects RX8 yX8_found yX8_found, Cond.code yX8_found cX8_found 2 (some .int), Cond.fieldLink RX8 54 "SlewRailsModel" "status" "I", Cond.constant RX8 58 (-1000010), Cond.methodLink RX8 72 yX8_well, Cond.instanceMethod yX8_well, Cond.selects RX8 yX8_well yX8_well]
def wsX8_drop_r2 : List Cond := [Cond.code yX8_well cX8_well 2 (some .int)]
def wsX8_drop : List Cond := .code yX8_drop cX8_drop 2 (some .int) :: ((wsX8_drop_r1 ++ wsX8_drop_r2) ++ wsX80)
def wsX8_feed : List Cond := .code yX8_feed cX8_feed 2 (some .int) :: ([.constant RX8 67 (-1000001), .fieldLink RX8 85 "SlewRailsModel" "taped" "I", .constant RX8 88 (-1000003), .fieldLink RX8 22 "SlewRailsModel" "tape" "[I", .methodLink RX8 59 yX8_in, .static yX8_in, .initialized RX8, .code yX8_in cX8_in 3 (some .boolean)] ++ wsX80)
def wsX8_byteAt : List Cond := .code yX8_byteAt cX8_byteAt 2 (some .int) :: ([.fieldLink RX8 85 "SlewRailsModel" "taped" "I", .fieldLink RX8 22 "SlewRailsModel" "tape" "[I"] ++ wsX80)
def wsX8_advances : List Cond := .code yX8_advances cX8_advances 2 none :: ([.fieldLink RX8 89 "SlewRailsModel" "at" "I", .fieldLink RX8 92 "SlewRailsModel" "start" "I", .fieldLink RX8 98 "SlewRailsModel" "value" "I", .fieldLink RX8 101 "SlewRailsModel" "token" "I", .methodLink RX8 95 yX8_byteAt, .instanceMethod yX8_byteAt, .selects RX8 yX8_byteAt yX8_byteAt, .initialized RX8, .code yX8_byteAt cX8_byteAt 2 (some .int), .fieldLink RX8 85 "SlewRailsModel" "taped" "I", .fieldLink RX8 22 "SlewRailsModel" "tape" "[I", .methodLink RX8 59 yX8_in, .static yX8_in, .code yX8_in cX8_in 3 (some .boolean)] ++ wsX80)
def wsX8_isWell : List Cond := .code yX8_isWell cX8_isWell 1 (some .boolean) :: ([.fieldLink RX8 104 "SlewRailsModel" "faultPlace" "I"] ++ wsX80)
def wsX8_takes : List Cond := .code yX8_takes cX8_takes 4 (some .int) :: ([.fieldLink RX8 92 "SlewRailsModel" "start" "I", .fieldLink RX8 104 "SlewRailsModel" "faultPlace" "I", .fieldLink RX8 111 "SlewRailsModel" "faultKind" "I", .fieldLink RX8 98 "SlewRailsModel" "value" "I", .methodLink RX8 107 yX8_isWell, .instanceMethod yX8_isWell, .selects RX8 yX8_isWell yX8_isWell, .initialized RX8, .code yX8_isWell cX8_isWell 1 (some .boolean), .methodLink RX8 114 yX8_advances, .instanceMethod yX8_advances, .selects RX8 yX8_advances yX8_advances, .code yX8_advances cX8_advances 2 none, .fieldLink RX8 89 "SlewRailsModel" "at" "I", .fieldLink RX8 101 "SlewRailsModel" "token" "I", .methodLink RX8 95 yX8_byteAt, .instanceMethod yX8_byteAt, .selects RX8 yX8_byteAt yX8_byteAt, .code yX8_byteAt cX8_byteAt 2 (some .int), .fieldLink RX8 85 "SlewRailsModel" "taped" "I", .fieldLink RX8 22 "SlewRailsModel" "tape" "[I", .methodLink RX8 59 yX8_in, .static yX8_in, .code yX8_in cX8_in 3 (some .boolean)] ++ wsX80)
def wsX8_figure_r1 : List Cond := [Cond.fieldLink RX8 101 "SlewRailsModel" "token" "I", Cond.fieldLink RX8 98 "SlewRailsModel" "value" "I", Cond.methodLink RX8 107 yX8_isWell, Cond.instanceMethod yX8_isWell, Cond.selects RX8 yX8_isWell yX8_isWell, Cond.initialized RX8, Cond.code yX8_isWell cX8_isWell 1 (some .boolean), Cond.fieldLink RX8 104 "SlewRailsModel" "faultPlace" "I", Cond.methodLink RX8 117 yX8_takes, Cond.instanceMethod yX8_takes, Cond.selects RX8 yX8_takes yX8_takes, Cond.code yX8_takes cX8_takes 4 (some .int), Cond.fieldLink RX8 92 "SlewRailsModel" "start" "I", Cond.fieldLink RX8 111 "SlewRailsModel" "faultKind" "I", Cond.methodLink RX8 114 yX8_advances, Cond.instanceMethod yX8_advances, Cond.selects RX8 yX8_advances yX8_advances, Cond.code yX8_advances cX8_advances 2 none, Cond.fieldLink RX8 89 "SlewRailsModel" "at" "I", Cond.methodLink RX8 95 yX8_byteAt, Cond.instanceMethod yX8_byteAt, Cond.selects RX8 yX8_byteAt yX8_byteAt, Cond.code yX8_byteAt cX8_byteAt 2 (some .int), Cond.fieldLink RX8 85 "SlewRailsModel" "taped" "I"]
def wsX8_figure_r2 : List Cond := [Cond.fieldLink RX8 22 "SlewRailsModel" "tape" "[I", Cond.methodLink RX8 59 yX8_in, Cond.static yX8_in, Cond.code yX8_in cX8_in 3 (some .boolean)]
def wsX8_figure : List Cond := .code yX8_figure cX8_figure 3 (some .int) :: ((wsX8_figure_r1 ++ wsX8_figure_r2) ++ wsX80)
def wsX8_kindOf : List Cond := .code yX8_kindOf cX8_kindOf 1 (some .int) :: ([])
def wsX8_must_r1 : List Cond := [Cond.methodLink RX8 107 yX8_isWell, Cond.instanceMethod yX8_isWell, Cond.selects RX8 yX8_isWell yX8_isWell, Cond.initialized RX8, Cond.code yX8_isWell cX8_isWell 1 (some .boolean), Cond.fieldLink RX8 104 "SlewRailsModel" "faultPlace" "I", Cond.methodLink RX8 117 yX8_takes, Cond.instanceMethod yX8_takes, Cond.selects RX8 yX8_takes yX8_takes, Cond.code yX8_takes cX8_takes 4 (some .int), Cond.fieldLink RX8 92 "SlewRailsModel" "start" "I", Cond.fieldLink RX8 111 "SlewRailsModel" "faultKind" "I", Cond.fieldLink RX8 98 "SlewRailsModel" "value" "I", Cond.methodLink RX8 114 yX8_advances, Cond.instanceMethod yX8_advances, Cond.selects RX8 yX8_advances yX8_advances, Cond.code yX8_advances cX8_advances 2 none, Cond.fieldLink RX8 89 "SlewRailsModel" "at" "I", Cond.fieldLink RX8 101 "SlewRailsModel" "token" "I", Cond.methodLink RX8 95 yX8_byteAt, Cond.instanceMethod yX8_byteAt, Cond.selects RX8 yX8_byteAt yX8_byteAt, Cond.code yX8_byteAt cX8_byteAt 2 (some .int), Cond.fieldLink RX8 85 "SlewRailsModel" "taped" "I"]
def wsX8_must_r2 : List Cond := [Cond.fieldLink RX8 22 "SlewRailsModel" "tape" "[I", Cond.methodLink RX8 59 yX8_in, Cond.static yX8_in, Cond.code yX8_in cX8_in 3 (some .boolean)]
def wsX8_must : List Cond := .code yX8_must cX8_must 3 none :: ((wsX8_must_r1 ++ wsX8_must_r2) ++ wsX80)
def wsX8_readsPeg_r1 : List Cond := [Cond.fieldLink RX8 98 "SlewRailsModel" "value" "I", Cond.fieldLink RX8 28 "SlewRailsModel" "draft" "[I", Cond.fieldLink RX8 101 "SlewRailsModel" "token" "I", Cond.methodLink RX8 121 yX8_kindOf, Cond.static yX8_kindOf, Cond.initialized RX8, Cond.code yX8_kindOf cX8_kindOf 1 (some .int), Cond.methodLink RX8 117 yX8_takes, Cond.instanceMethod yX8_takes, Cond.selects RX8 yX8_takes yX8_takes, Cond.code yX8_takes cX8_takes 4 (some .int), Cond.fieldLink RX8 92 "SlewRailsModel" "start" "I", Cond.fieldLink RX8 104 "SlewRailsModel" "faultPlace" "I", Cond.fieldLink RX8 111 "SlewRailsModel" "faultKind" "I", Cond.methodLink RX8 107 yX8_isWell, Cond.instanceMethod yX8_isWell, Cond.selects RX8 yX8_isWell yX8_isWell, Cond.code yX8_isWell cX8_isWell 1 (some .boolean), Cond.methodLink RX8 114 yX8_advances, Cond.instanceMethod yX8_advances, Cond.selects RX8 yX8_advances yX8_advances, Cond.code yX8_advances cX8_advances 2 none, Cond.fieldLink RX8 89 "SlewRailsModel" "at" "I", Cond.methodLink RX8 95 yX8_byteAt]
def wsX8_readsPeg_r2 : List Cond := [Cond.instanceMethod yX8_byteAt, Cond.selects RX8 yX8_byteAt yX8_byteAt, Cond.code yX8_byteAt cX8_byteAt 2 (some .int), Cond.fieldLink RX8 85 "SlewRailsModel" "taped" "I", Cond.fieldLink RX8 22 "SlewRailsModel" "tape" "[I", Cond.methodLink RX8 59 yX8_in, Cond.static yX8_in, Cond.code yX8_in cX8_in 3 (some .boolean), Cond.methodLink RX8 124 yX8_figure, Cond.instanceMethod yX8_figure, Cond.selects RX8 yX8_figure yX8_figure, Cond.code yX8_figure cX8_figure 3 (some .int)]
def wsX8_readsPeg : List Cond := .code yX8_readsPeg cX8_readsPeg 5 none :: ((wsX8_readsPeg_r1 ++ wsX8_readsPeg_r2) ++ wsX80)
def wsX8_rail_r1 : List Cond := [Cond.fieldLink RX8 28 "SlewRailsModel" "draft" "[I", Cond.fieldLink RX8 89 "SlewRailsModel" "at" "I", Cond.fieldLink RX8 104 "SlewRailsModel" "faultPlace" "I", Cond.fieldLink RX8 101 "SlewRailsModel" "token" "I", Cond.fieldLink RX8 98 "SlewRailsModel" "value" "I", Cond.fieldLink RX8 85 "SlewRailsModel" "taped" "I", Cond.constant RX8 134 (-1000100), Cond.fieldLink RX8 25 "SlewRailsModel" "now" "[I", Cond.fieldLink RX8 139 "SlewRailsModel" "acts" "I", Cond.methodLink RX8 114 yX8_advances, Cond.instanceMethod yX8_advances, Cond.selects RX8 yX8_advances yX8_advances, Cond.initialized RX8, Cond.code yX8_advances cX8_advances 2 none, Cond.fieldLink RX8 92 "SlewRailsModel" "start" "I", Cond.methodLink RX8 95 yX8_byteAt, Cond.instanceMethod yX8_byteAt, Cond.selects RX8 yX8_byteAt yX8_byteAt, Cond.code yX8_byteAt cX8_byteAt 2 (some .int), Cond.fieldLink RX8 22 "SlewRailsModel" "tape" "[I", Cond.methodLink RX8 59 yX8_in, Cond.static yX8_in, Cond.code yX8_in cX8_in 3 (some .boolean), Cond.methodLink RX8 107 yX8_isWell]
def wsX8_rail_r2 : List Cond := [Cond.instanceMethod yX8_isWell, Cond.selects RX8 yX8_isWell yX8_isWell, Cond.code yX8_isWell cX8_isWell 1 (some .boolean), Cond.methodLink RX8 121 yX8_kindOf, Cond.static yX8_kindOf, Cond.code yX8_kindOf cX8_kindOf 1 (some .int), Cond.methodLink RX8 127 yX8_readsPeg, Cond.instanceMethod yX8_readsPeg, Cond.selects RX8 yX8_readsPeg yX8_readsPeg, Cond.code yX8_readsPeg cX8_readsPeg 5 none, Cond.methodLink RX8 117 yX8_takes, Cond.instanceMethod yX8_takes, Cond.selects RX8 yX8_takes yX8_takes, Cond.code yX8_takes cX8_takes 4 (some .int), Cond.fieldLink RX8 111 "SlewRailsModel" "faultKind" "I", Cond.methodLink RX8 124 yX8_figure, Cond.instanceMethod yX8_figure, Cond.selects RX8 yX8_figure yX8_figure, Cond.code yX8_figure cX8_figure 3 (some .int), Cond.methodLink RX8 130 yX8_must, Cond.instanceMethod yX8_must, Cond.selects RX8 yX8_must yX8_must, Cond.code yX8_must cX8_must 3 none, Cond.methodLink RX8 135 yX8_copies]
def wsX8_rail_r3 : List Cond := [Cond.static yX8_copies, Cond.code yX8_copies cX8_copies 5 none]
def wsX8_rail : List Cond := .code yX8_rail cX8_rail 2 (some .int) :: ((wsX8_rail_r1 ++ (wsX8_rail_r2 ++ wsX8_rail_r3)) ++ wsX80)
def wsX8_fault : List Cond := .code yX8_fault cX8_fault 1 (some .int) :: ([.fieldLink RX8 111 "SlewRailsModel" "faultKind" "I"] ++ wsX80)
def wsX8_isRail : List Cond := .code yX8_isRail cX8_isRail 1 (some .boolean) :: ([.fieldLink RX8 25 "SlewRailsModel" "now" "[I"] ++ wsX80)
def wsX8_isPeg : List Cond := .code yX8_isPeg cX8_isPeg 2 (some .boolean) :: ([.fieldLink RX8 25 "SlewRailsModel" "now" "[I", .methodLink RX8 59 yX8_in, .static yX8_in, .initialized RX8, .code yX8_in cX8_in 3 (some .boolean)] ++ wsX80)
def wsX8_reach : List Cond := .code yX8_reach cX8_reach 3 (some .int) :: ([])
def wsX8_slewOf : List Cond := .code yX8_slewOf cX8_slewOf 2 (some .int) :: ([.methodLink RX8 59 yX8_in, .static yX8_in, .initialized RX8, .code yX8_in cX8_in 3 (some .boolean)])
def wsX8_nowOf : List Cond := .code yX8_nowOf cX8_nowOf 2 (some .int) :: ([.methodLink RX8 142 yX8_slewOf, .static yX8_slewOf, .initialized RX8, .code yX8_slewOf cX8_slewOf 2 (some .int), .methodLink RX8 59 yX8_in, .static yX8_in, .code yX8_in cX8_in 3 (some .boolean)])
def wsX8_isLoose : List Cond := .code yX8_isLoose cX8_isLoose 2 (some .boolean) :: ([])
def wsX8_step : List Cond := .code yX8_step cX8_step 2 (some .int) :: ([.methodLink RX8 146 yX8_isLoose, .static yX8_isLoose, .initialized RX8, .code yX8_isLoose cX8_isLoose 2 (some .boolean), .methodLink RX8 150 yX8_nowOf, .static yX8_nowOf, .code yX8_nowOf cX8_nowOf 2 (some .int), .methodLink RX8 142 yX8_slewOf, .static yX8_slewOf, .code yX8_slewOf cX8_slewOf 2 (some .int), .methodLink RX8 59 yX8_in, .static yX8_in, .code yX8_in cX8_in 3 (some .boolean), .methodLink RX8 153 yX8_size, .static yX8_size, .code yX8_size cX8_size 1 (some .int)])
def wsX8_worst : List Cond := .code yX8_worst cX8_worst 4 (some .int) :: ([.methodLink RX8 156 yX8_step, .static yX8_step, .initialized RX8, .code yX8_step cX8_step 2 (some .int), .methodLink RX8 146 yX8_isLoose, .static yX8_isLoose, .code yX8_isLoose cX8_isLoose 2 (some .boolean), .methodLink RX8 150 yX8_nowOf, .static yX8_nowOf, .code yX8_nowOf cX8_nowOf 2 (some .int), .methodLink RX8 142 yX8_slewOf, .static yX8_slewOf, .code yX8_slewOf cX8_slewOf 2 (some .int), .methodLink RX8 59 yX8_in, .static yX8_in, .code yX8_in cX8_in 3 (some .boolean), .methodLink RX8 153 yX8_size, .static yX8_size, .code yX8_size cX8_size 1 (some .int)])
def wsX8_uneven : List Cond := .code yX8_uneven cX8_uneven 3 (some .int) :: ([.methodLink RX8 156 yX8_step, .static yX8_step, .initialized RX8, .code yX8_step cX8_step 2 (some .int), .methodLink RX8 146 yX8_isLoose, .static yX8_isLoose, .code yX8_isLoose cX8_isLoose 2 (some .boolean), .methodLink RX8 150 yX8_nowOf, .static yX8_nowOf, .code yX8_nowOf cX8_nowOf 2 (some .int), .methodLink RX8 142 yX8_slewOf, .static yX8_slewOf, .code yX8_slewOf cX8_slewOf 2 (some .int), .methodLink RX8 59 yX8_in, .static yX8_in, .code yX8_in cX8_in 3 (some .boolean), .methodLink RX8 153 yX8_size, .static yX8_size, .code yX8_size cX8_size 1 (some .int)])
def wsX8_moved : List Cond := .code yX8_moved cX8_moved 3 (some .int) :: ([.methodLink RX8 153 yX8_size, .static yX8_size, .initialized RX8, .code yX8_size cX8_size 1 (some .int)])
def wsX8_settles : List Cond := .code yX8_settles cX8_settles 2 none :: ([])
def wsX8_works : List Cond := .code yX8_works cX8_works 4 none :: ([.methodLink RX8 159 yX8_settles, .static yX8_settles, .initialized RX8, .code yX8_settles cX8_settles 2 none, .methodLink RX8 142 yX8_slewOf, .static yX8_slewOf, .code yX8_slewOf cX8_slewOf 2 (some .int), .methodLink RX8 59 yX8_in, .static yX8_in, .code yX8_in cX8_in 3 (some .boolean)])
def wsX8_notes : List Cond := .code yX8_notes cX8_notes 2 none :: ([.fieldLink RX8 139 "SlewRailsModel" "acts" "I", .fieldLink RX8 34 "SlewRailsModel" "past" "[I", .fieldLink RX8 25 "SlewRailsModel" "now" "[I", .methodLink RX8 135 yX8_copies, .static yX8_copies, .initialized RX8, .code yX8_copies cX8_copies 5 none] ++ wsX80)
def wsX8_lay_r1 : List Cond := [Cond.constant RX8 67 (-1000001), Cond.fieldLink RX8 25 "SlewRailsModel" "now" "[I", Cond.constant RX8 169 (-1000002), Cond.methodLink RX8 163 yX8_isPeg, Cond.instanceMethod yX8_isPeg, Cond.selects RX8 yX8_isPeg yX8_isPeg, Cond.initialized RX8, Cond.code yX8_isPeg cX8_isPeg 2 (some .boolean), Cond.methodLink RX8 59 yX8_in, Cond.static yX8_in, Cond.code yX8_in cX8_in 3 (some .boolean), Cond.methodLink RX8 153 yX8_size, Cond.static yX8_size, Cond.code yX8_size cX8_size 1 (some .int), Cond.methodLink RX8 166 yX8_reach, Cond.static yX8_reach, Cond.code yX8_reach cX8_reach 3 (some .int), Cond.methodLink RX8 170 yX8_notes, Cond.instanceMethod yX8_notes, Cond.selects RX8 yX8_notes yX8_notes, Cond.code yX8_notes cX8_notes 2 none, Cond.fieldLink RX8 139 "SlewRailsModel" "acts" "I", Cond.fieldLink RX8 34 "SlewRailsModel" "past" "[I", Cond.methodLink RX8 135 yX8_copies]
def wsX8_lay_r2 : List Cond := [Cond.static yX8_copies, Cond.code yX8_copies cX8_copies 5 none]
def wsX8_lay : List Cond := .code yX8_lay cX8_lay 4 (some .int) :: ((wsX8_lay_r1 ++ wsX8_lay_r2) ++ wsX80)
def wsX8_work_r1 : List Cond := [Cond.constant RX8 169 (-1000002), Cond.fieldLink RX8 25 "SlewRailsModel" "now" "[I", Cond.methodLink RX8 173 yX8_isRail, Cond.instanceMethod yX8_isRail, Cond.selects RX8 yX8_isRail yX8_isRail, Cond.initialized RX8, Cond.code yX8_isRail cX8_isRail 1 (some .boolean), Cond.methodLink RX8 170 yX8_notes, Cond.instanceMethod yX8_notes, Cond.selects RX8 yX8_notes yX8_notes, Cond.code yX8_notes cX8_notes 2 none, Cond.fieldLink RX8 139 "SlewRailsModel" "acts" "I", Cond.fieldLink RX8 34 "SlewRailsModel" "past" "[I", Cond.methodLink RX8 135 yX8_copies, Cond.static yX8_copies, Cond.code yX8_copies cX8_copies 5 none, Cond.methodLink RX8 176 yX8_moved, Cond.static yX8_moved, Cond.code yX8_moved cX8_moved 3 (some .int), Cond.methodLink RX8 153 yX8_size, Cond.static yX8_size, Cond.code yX8_size cX8_size 1 (some .int), Cond.methodLink RX8 180 yX8_works, Cond.static yX8_works]
def wsX8_work_r2 : List Cond := [Cond.code yX8_works cX8_works 4 none, Cond.methodLink RX8 159 yX8_settles, Cond.static yX8_settles, Cond.code yX8_settles cX8_settles 2 none, Cond.methodLink RX8 142 yX8_slewOf, Cond.static yX8_slewOf, Cond.code yX8_slewOf cX8_slewOf 2 (some .int), Cond.methodLink RX8 59 yX8_in, Cond.static yX8_in, Cond.code yX8_in cX8_in 3 (some .boolean)]
def wsX8_work : List Cond := .code yX8_work cX8_work 2 (some .int) :: ((wsX8_work_r1 ++ wsX8_work_r2) ++ wsX80)
def wsX8_gangs_r1 : List Cond := [Cond.constant RX8 184 (1000000000), Cond.fieldLink RX8 25 "SlewRailsModel" "now" "[I", Cond.fieldLink RX8 31 "SlewRailsModel" "tried" "[I", Cond.methodLink RX8 135 yX8_copies, Cond.static yX8_copies, Cond.initialized RX8, Cond.code yX8_copies cX8_copies 5 none, Cond.methodLink RX8 166 yX8_reach, Cond.static yX8_reach, Cond.code yX8_reach cX8_reach 3 (some .int), Cond.methodLink RX8 156 yX8_step, Cond.static yX8_step, Cond.code yX8_step cX8_step 2 (some .int), Cond.methodLink RX8 146 yX8_isLoose, Cond.static yX8_isLoose, Cond.code yX8_isLoose cX8_isLoose 2 (some .boolean), Cond.methodLink RX8 150 yX8_nowOf, Cond.static yX8_nowOf, Cond.code yX8_nowOf cX8_nowOf 2 (some .int), Cond.methodLink RX8 142 yX8_slewOf, Cond.static yX8_slewOf, Cond.code yX8_slewOf cX8_slewOf 2 (some .int), Cond.methodLink RX8 59 yX8_in, Cond.static yX8_in]
def wsX8_gangs_r2 : List Cond := [Cond.code yX8_in cX8_in 3 (some .boolean), Cond.methodLink RX8 153 yX8_size, Cond.static yX8_size, Cond.code yX8_size cX8_size 1 (some .int)]
def wsX8_gangs : List Cond := .code yX8_gangs cX8_gangs 9 (some .int) :: ((wsX8_gangs_r1 ++ wsX8_gangs_r2) ++ wsX80)
def wsX8_gang_r1 : List Cond := [Cond.constant RX8 67 (-1000001), Cond.fieldLink RX8 25 "SlewRailsModel" "now" "[I", Cond.methodLink RX8 163 yX8_isPeg, Cond.instanceMethod yX8_isPeg, Cond.selects RX8 yX8_isPeg yX8_isPeg, Cond.initialized RX8, Cond.code yX8_isPeg cX8_isPeg 2 (some .boolean), Cond.methodLink RX8 59 yX8_in, Cond.static yX8_in, Cond.code yX8_in cX8_in 3 (some .boolean), Cond.methodLink RX8 185 yX8_gangs, Cond.instanceMethod yX8_gangs, Cond.selects RX8 yX8_gangs yX8_gangs, Cond.code yX8_gangs cX8_gangs 9 (some .int), Cond.constant RX8 184 (1000000000), Cond.fieldLink RX8 31 "SlewRailsModel" "tried" "[I", Cond.methodLink RX8 135 yX8_copies, Cond.static yX8_copies, Cond.code yX8_copies cX8_copies 5 none, Cond.methodLink RX8 166 yX8_reach, Cond.static yX8_reach, Cond.code yX8_reach cX8_reach 3 (some .int), Cond.methodLink RX8 156 yX8_step, Cond.static yX8_step]
def wsX8_gang_r2 : List Cond := [Cond.code yX8_step cX8_step 2 (some .int), Cond.methodLink RX8 146 yX8_isLoose, Cond.static yX8_isLoose, Cond.code yX8_isLoose cX8_isLoose 2 (some .boolean), Cond.methodLink RX8 150 yX8_nowOf, Cond.static yX8_nowOf, Cond.code yX8_nowOf cX8_nowOf 2 (some .int), Cond.methodLink RX8 142 yX8_slewOf, Cond.static yX8_slewOf, Cond.code yX8_slewOf cX8_slewOf 2 (some .int), Cond.methodLink RX8 153 yX8_size, Cond.static yX8_size, Cond.code yX8_size cX8_size 1 (some .int), Cond.methodLink RX8 170 yX8_notes, Cond.instanceMethod yX8_notes, Cond.selects RX8 yX8_notes yX8_notes, Cond.code yX8_notes cX8_notes 2 none, Cond.fieldLink RX8 139 "SlewRailsModel" "acts" "I", Cond.fieldLink RX8 34 "SlewRailsModel" "past" "[I", Cond.methodLink RX8 188 yX8_worst, Cond.static yX8_worst, Cond.code yX8_worst cX8_worst 4 (some .int)]
def wsX8_gang : List Cond := .code yX8_gang cX8_gang 5 (some .int) :: ((wsX8_gang_r1 ++ wsX8_gang_r2) ++ wsX80)
def wsX8_read : List Cond := .code yX8_read cX8_read 4 (some .int) :: ([.constant RX8 67 (-1000001), .fieldLink RX8 25 "SlewRailsModel" "now" "[I", .methodLink RX8 163 yX8_isPeg, .instanceMethod yX8_isPeg, .selects RX8 yX8_isPeg yX8_isPeg, .initialized RX8, .code yX8_isPeg cX8_isPeg 2 (some .boolean), .methodLink RX8 59 yX8_in, .static yX8_in, .code yX8_in cX8_in 3 (some .boolean), .methodLink RX8 170 yX8_notes, .instanceMethod yX8_notes, .selects RX8 yX8_notes yX8_notes, .code yX8_notes cX8_notes 2 none, .fieldLink RX8 139 "SlewRailsModel" "acts" "I", .fieldLink RX8 34 "SlewRailsModel" "past" "[I", .methodLink RX8 135 yX8_copies, .static yX8_copies, .code yX8_copies cX8_copies 5 none] ++ wsX80)
def wsX8_bound : List Cond := .code yX8_bound cX8_bound 6 (some .int) :: ([.constant RX8 67 (-1000001), .fieldLink RX8 25 "SlewRailsModel" "now" "[I", .methodLink RX8 163 yX8_isPeg, .instanceMethod yX8_isPeg, .selects RX8 yX8_isPeg yX8_isPeg, .initialized RX8, .code yX8_isPeg cX8_isPeg 2 (some .boolean), .methodLink RX8 59 yX8_in, .static yX8_in, .code yX8_in cX8_in 3 (some .boolean), .methodLink RX8 170 yX8_notes, .instanceMethod yX8_notes, .selects RX8 yX8_notes yX8_notes, .code yX8_notes cX8_notes 2 none, .fieldLink RX8 139 "SlewRailsModel" "acts" "I", .fieldLink RX8 34 "SlewRailsModel" "past" "[I", .methodLink RX8 135 yX8_copies, .static yX8_copies, .code yX8_copies cX8_copies 5 none, .methodLink RX8 166 yX8_reach, .static yX8_reach, .code yX8_reach cX8_reach 3 (some .int)] ++ wsX80)
def wsX8_undo : List Cond := .code yX8_undo cX8_undo 1 (some .int) :: ([.fieldLink RX8 139 "SlewRailsModel" "acts" "I", .constant RX8 169 (-1000002), .fieldLink RX8 34 "SlewRailsModel" "past" "[I", .fieldLink RX8 25 "SlewRailsModel" "now" "[I", .methodLink RX8 135 yX8_copies, .static yX8_copies, .initialized RX8, .code yX8_copies cX8_copies 5 none] ++ wsX80)
def wsX8_wish : List Cond := .code yX8_wish cX8_wish 4 (some .int) :: ([.fieldLink RX8 25 "SlewRailsModel" "now" "[I"] ++ wsX80)
def wsX8_secondSum : List Cond := .code yX8_secondSum cX8_secondSum 4 (some .int) :: ([.fieldLink RX8 25 "SlewRailsModel" "now" "[I", .methodLink RX8 191 yX8_wish, .instanceMethod yX8_wish, .selects RX8 yX8_wish yX8_wish, .initialized RX8, .code yX8_wish cX8_wish 4 (some .int)] ++ wsX80)
def wsX8_isClosing : List Cond := .code yX8_isClosing cX8_isClosing 3 (some .boolean) :: ([.fieldLink RX8 25 "SlewRailsModel" "now" "[I", .methodLink RX8 191 yX8_wish, .instanceMethod yX8_wish, .selects RX8 yX8_wish yX8_wish, .initialized RX8, .code yX8_wish cX8_wish 4 (some .int), .methodLink RX8 194 yX8_secondSum, .instanceMethod yX8_secondSum, .selects RX8 yX8_secondSum yX8_secondSum, .code yX8_secondSum cX8_secondSum 4 (some .int)] ++ wsX80)
def wsX8_peg_r1 : List Cond := [Cond.constant RX8 67 (-1000001), Cond.fieldLink RX8 25 "SlewRailsModel" "now" "[I", Cond.constant RX8 53 (-1000000), Cond.methodLink RX8 163 yX8_isPeg, Cond.instanceMethod yX8_isPeg, Cond.selects RX8 yX8_isPeg yX8_isPeg, Cond.initialized RX8, Cond.code yX8_isPeg cX8_isPeg 2 (some .boolean), Cond.methodLink RX8 59 yX8_in, Cond.static yX8_in, Cond.code yX8_in cX8_in 3 (some .boolean), Cond.methodLink RX8 166 yX8_reach, Cond.static yX8_reach, Cond.code yX8_reach cX8_reach 3 (some .int), Cond.methodLink RX8 150 yX8_nowOf, Cond.static yX8_nowOf, Cond.code yX8_nowOf cX8_nowOf 2 (some .int), Cond.methodLink RX8 142 yX8_slewOf, Cond.static yX8_slewOf, Cond.code yX8_slewOf cX8_slewOf 2 (some .int), Cond.methodLink RX8 156 yX8_step, Cond.static yX8_step, Cond.code yX8_step cX8_step 2 (some .int), Cond.methodLink RX8 146 yX8_isLoose]
def wsX8_peg_r2 : List Cond := [Cond.static yX8_isLoose, Cond.code yX8_isLoose cX8_isLoose 2 (some .boolean), Cond.methodLink RX8 153 yX8_size, Cond.static yX8_size, Cond.code yX8_size cX8_size 1 (some .int), Cond.methodLink RX8 191 yX8_wish, Cond.instanceMethod yX8_wish, Cond.selects RX8 yX8_wish yX8_wish, Cond.code yX8_wish cX8_wish 4 (some .int), Cond.methodLink RX8 194 yX8_secondSum, Cond.instanceMethod yX8_secondSum, Cond.selects RX8 yX8_secondSum yX8_secondSum, Cond.code yX8_secondSum cX8_secondSum 4 (some .int)]
def wsX8_peg : List Cond := .code yX8_peg cX8_peg 3 (some .int) :: ((wsX8_peg_r1 ++ wsX8_peg_r2) ++ wsX80)
def wsX8_line_r1 : List Cond := [Cond.constant RX8 169 (-1000002), Cond.fieldLink RX8 25 "SlewRailsModel" "now" "[I", Cond.constant RX8 67 (-1000001), Cond.methodLink RX8 173 yX8_isRail, Cond.instanceMethod yX8_isRail, Cond.selects RX8 yX8_isRail yX8_isRail, Cond.initialized RX8, Cond.code yX8_isRail cX8_isRail 1 (some .boolean), Cond.methodLink RX8 150 yX8_nowOf, Cond.static yX8_nowOf, Cond.code yX8_nowOf cX8_nowOf 2 (some .int), Cond.methodLink RX8 142 yX8_slewOf, Cond.static yX8_slewOf, Cond.code yX8_slewOf cX8_slewOf 2 (some .int), Cond.methodLink RX8 59 yX8_in, Cond.static yX8_in, Cond.code yX8_in cX8_in 3 (some .boolean), Cond.methodLink RX8 188 yX8_worst, Cond.static yX8_worst, Cond.code yX8_worst cX8_worst 4 (some .int), Cond.methodLink RX8 156 yX8_step, Cond.static yX8_step, Cond.code yX8_step cX8_step 2 (some .int), Cond.methodLink RX8 146 yX8_isLoose]
def wsX8_line_r2 : List Cond := [Cond.static yX8_isLoose, Cond.code yX8_isLoose cX8_isLoose 2 (some .boolean), Cond.methodLink RX8 153 yX8_size, Cond.static yX8_size, Cond.code yX8_size cX8_size 1 (some .int), Cond.methodLink RX8 197 yX8_uneven, Cond.static yX8_uneven, Cond.code yX8_uneven cX8_uneven 3 (some .int), Cond.methodLink RX8 200 yX8_isClosing, Cond.instanceMethod yX8_isClosing, Cond.selects RX8 yX8_isClosing yX8_isClosing, Cond.code yX8_isClosing cX8_isClosing 3 (some .boolean), Cond.methodLink RX8 191 yX8_wish, Cond.instanceMethod yX8_wish, Cond.selects RX8 yX8_wish yX8_wish, Cond.code yX8_wish cX8_wish 4 (some .int), Cond.methodLink RX8 194 yX8_secondSum, Cond.instanceMethod yX8_secondSum, Cond.selects RX8 yX8_secondSum yX8_secondSum, Cond.code yX8_secondSum cX8_secondSum 4 (some .int)]
def wsX8_line : List Cond := .code yX8_line cX8_line 5 (some .int) :: ((wsX8_line_r1 ++ wsX8_line_r2) ++ wsX80)
def wsX8_stepBy : List Cond := .code yX8_stepBy cX8_stepBy 8 (some .int) :: ([.fieldLink RX8 25 "SlewRailsModel" "now" "[I", .methodLink RX8 146 yX8_isLoose, .static yX8_isLoose, .initialized RX8, .code yX8_isLoose cX8_isLoose 2 (some .boolean), .methodLink RX8 153 yX8_size, .static yX8_size, .code yX8_size cX8_size 1 (some .int)] ++ wsX80)
def wsX8_reachAt : List Cond := .code yX8_reachAt cX8_reachAt 2 (some .int) :: ([.fieldLink RX8 25 "SlewRailsModel" "now" "[I", .methodLink RX8 59 yX8_in, .static yX8_in, .initialized RX8, .code yX8_in cX8_in 3 (some .boolean), .methodLink RX8 166 yX8_reach, .static yX8_reach, .code yX8_reach cX8_reach 3 (some .int)] ++ wsX80)
def wsX8_place : List Cond := .code yX8_place cX8_place 4 (some .int) :: ([])
def wsX8_costBy : List Cond := .code yX8_costBy cX8_costBy 9 (some .int) :: ([.constant RX8 184 (1000000000), .fieldLink RX8 44 "SlewRailsModel" "least" "[I", .methodLink RX8 203 yX8_stepBy, .instanceMethod yX8_stepBy, .selects RX8 yX8_stepBy yX8_stepBy, .initialized RX8, .code yX8_stepBy cX8_stepBy 8 (some .int), .fieldLink RX8 25 "SlewRailsModel" "now" "[I", .methodLink RX8 146 yX8_isLoose, .static yX8_isLoose, .code yX8_isLoose cX8_isLoose 2 (some .boolean), .methodLink RX8 153 yX8_size, .static yX8_size, .code yX8_size cX8_size 1 (some .int), .methodLink RX8 207 yX8_place, .static yX8_place, .code yX8_place cX8_place 4 (some .int)] ++ wsX80)
def wsX8_reckons_r1 : List Cond := [Cond.fieldLink RX8 25 "SlewRailsModel" "now" "[I", Cond.fieldLink RX8 44 "SlewRailsModel" "least" "[I", Cond.constant RX8 184 (1000000000), Cond.methodLink RX8 211 yX8_reachAt, Cond.instanceMethod yX8_reachAt, Cond.selects RX8 yX8_reachAt yX8_reachAt, Cond.initialized RX8, Cond.code yX8_reachAt cX8_reachAt 2 (some .int), Cond.methodLink RX8 59 yX8_in, Cond.static yX8_in, Cond.code yX8_in cX8_in 3 (some .boolean), Cond.methodLink RX8 166 yX8_reach, Cond.static yX8_reach, Cond.code yX8_reach cX8_reach 3 (some .int), Cond.methodLink RX8 214 yX8_costBy, Cond.instanceMethod yX8_costBy, Cond.selects RX8 yX8_costBy yX8_costBy, Cond.code yX8_costBy cX8_costBy 9 (some .int), Cond.methodLink RX8 203 yX8_stepBy, Cond.instanceMethod yX8_stepBy, Cond.selects RX8 yX8_stepBy yX8_stepBy, Cond.code yX8_stepBy cX8_stepBy 8 (some .int), Cond.methodLink RX8 146 yX8_isLoose, Cond.static yX8_isLoose]
def wsX8_reckons_r2 : List Cond := [Cond.code yX8_isLoose cX8_isLoose 2 (some .boolean), Cond.methodLink RX8 153 yX8_size, Cond.static yX8_size, Cond.code yX8_size cX8_size 1 (some .int), Cond.methodLink RX8 207 yX8_place, Cond.static yX8_place, Cond.code yX8_place cX8_place 4 (some .int)]
def wsX8_reckons : List Cond := .code yX8_reckons cX8_reckons 14 (some .int) :: ((wsX8_reckons_r1 ++ wsX8_reckons_r2) ++ wsX80)
def wsX8_findsBest_r1 : List Cond := [Cond.constant RX8 184 (1000000000), Cond.fieldLink RX8 221 "SlewRailsModel" "bestWorst" "I", Cond.fieldLink RX8 224 "SlewRailsModel" "bestCost" "I", Cond.fieldLink RX8 44 "SlewRailsModel" "least" "[I", Cond.fieldLink RX8 47 "SlewRailsModel" "bestSlews" "[I", Cond.fieldLink RX8 25 "SlewRailsModel" "now" "[I", Cond.methodLink RX8 218 yX8_reckons, Cond.instanceMethod yX8_reckons, Cond.selects RX8 yX8_reckons yX8_reckons, Cond.initialized RX8, Cond.code yX8_reckons cX8_reckons 14 (some .int), Cond.methodLink RX8 211 yX8_reachAt, Cond.instanceMethod yX8_reachAt, Cond.selects RX8 yX8_reachAt yX8_reachAt, Cond.code yX8_reachAt cX8_reachAt 2 (some .int), Cond.methodLink RX8 59 yX8_in, Cond.static yX8_in, Cond.code yX8_in cX8_in 3 (some .boolean), Cond.methodLink RX8 166 yX8_reach, Cond.static yX8_reach, Cond.code yX8_reach cX8_reach 3 (some .int), Cond.methodLink RX8 214 yX8_costBy, Cond.instanceMethod yX8_costBy, Cond.selects RX8 yX8_costBy yX8_costBy]
def wsX8_findsBest_r2 : List Cond := [Cond.code yX8_costBy cX8_costBy 9 (some .int), Cond.methodLink RX8 203 yX8_stepBy, Cond.instanceMethod yX8_stepBy, Cond.selects RX8 yX8_stepBy yX8_stepBy, Cond.code yX8_stepBy cX8_stepBy 8 (some .int), Cond.methodLink RX8 146 yX8_isLoose, Cond.static yX8_isLoose, Cond.code yX8_isLoose cX8_isLoose 2 (some .boolean), Cond.methodLink RX8 153 yX8_size, Cond.static yX8_size, Cond.code yX8_size cX8_size 1 (some .int), Cond.methodLink RX8 207 yX8_place, Cond.static yX8_place, Cond.code yX8_place cX8_place 4 (some .int)]
def wsX8_findsBest : List Cond := .code yX8_findsBest cX8_findsBest 11 none :: ((wsX8_findsBest_r1 ++ wsX8_findsBest_r2) ++ wsX80)
def wsX8_best_r1 : List Cond := [Cond.constant RX8 169 (-1000002), Cond.fieldLink RX8 25 "SlewRailsModel" "now" "[I", Cond.constant RX8 67 (-1000001), Cond.fieldLink RX8 47 "SlewRailsModel" "bestSlews" "[I", Cond.fieldLink RX8 221 "SlewRailsModel" "bestWorst" "I", Cond.fieldLink RX8 224 "SlewRailsModel" "bestCost" "I", Cond.methodLink RX8 173 yX8_isRail, Cond.instanceMethod yX8_isRail, Cond.selects RX8 yX8_isRail yX8_isRail, Cond.initialized RX8, Cond.code yX8_isRail cX8_isRail 1 (some .boolean), Cond.methodLink RX8 59 yX8_in, Cond.static yX8_in, Cond.code yX8_in cX8_in 3 (some .boolean), Cond.methodLink RX8 227 yX8_findsBest, Cond.instanceMethod yX8_findsBest, Cond.selects RX8 yX8_findsBest yX8_findsBest, Cond.code yX8_findsBest cX8_findsBest 11 none, Cond.constant RX8 184 (1000000000), Cond.fieldLink RX8 44 "SlewRailsModel" "least" "[I", Cond.methodLink RX8 218 yX8_reckons, Cond.instanceMethod yX8_reckons, Cond.selects RX8 yX8_reckons yX8_reckons, Cond.code yX8_reckons cX8_reckons 14 (some .int)]
def wsX8_best_r2 : List Cond := [Cond.methodLink RX8 211 yX8_reachAt, Cond.instanceMethod yX8_reachAt, Cond.selects RX8 yX8_reachAt yX8_reachAt, Cond.code yX8_reachAt cX8_reachAt 2 (some .int), Cond.methodLink RX8 166 yX8_reach, Cond.static yX8_reach, Cond.code yX8_reach cX8_reach 3 (some .int), Cond.methodLink RX8 214 yX8_costBy, Cond.instanceMethod yX8_costBy, Cond.selects RX8 yX8_costBy yX8_costBy, Cond.code yX8_costBy cX8_costBy 9 (some .int), Cond.methodLink RX8 203 yX8_stepBy, Cond.instanceMethod yX8_stepBy, Cond.selects RX8 yX8_stepBy yX8_stepBy, Cond.code yX8_stepBy cX8_stepBy 8 (some .int), Cond.methodLink RX8 146 yX8_isLoose, Cond.static yX8_isLoose, Cond.code yX8_isLoose cX8_isLoose 2 (some .boolean), Cond.methodLink RX8 153 yX8_size, Cond.static yX8_size, Cond.code yX8_size cX8_size 1 (some .int), Cond.methodLink RX8 207 yX8_place, Cond.static yX8_place, Cond.code yX8_place cX8_place 4 (some .int)]
def wsX8_best : List Cond := .code yX8_best cX8_best 3 (some .int) :: ((wsX8_best_r1 ++ wsX8_best_r2) ++ wsX80)
def wsX8_wrong_r1 : List Cond := [Cond.constant RX8 169 (-1000002), Cond.constant RX8 67 (-1000001), Cond.fieldLink RX8 25 "SlewRailsModel" "now" "[I", Cond.fieldLink RX8 31 "SlewRailsModel" "tried" "[I", Cond.constant RX8 53 (-1000000), Cond.methodLink RX8 173 yX8_isRail, Cond.instanceMethod yX8_isRail, Cond.selects RX8 yX8_isRail yX8_isRail, Cond.initialized RX8, Cond.code yX8_isRail cX8_isRail 1 (some .boolean), Cond.methodLink RX8 59 yX8_in, Cond.static yX8_in, Cond.code yX8_in cX8_in 3 (some .boolean), Cond.methodLink RX8 135 yX8_copies, Cond.static yX8_copies, Cond.code yX8_copies cX8_copies 5 none, Cond.methodLink RX8 197 yX8_uneven, Cond.static yX8_uneven, Cond.code yX8_uneven cX8_uneven 3 (some .int), Cond.methodLink RX8 156 yX8_step, Cond.static yX8_step, Cond.code yX8_step cX8_step 2 (some .int), Cond.methodLink RX8 146 yX8_isLoose, Cond.static yX8_isLoose]
def wsX8_wrong_r2 : List Cond := [Cond.code yX8_isLoose cX8_isLoose 2 (some .boolean), Cond.methodLink RX8 150 yX8_nowOf, Cond.static yX8_nowOf, Cond.code yX8_nowOf cX8_nowOf 2 (some .int), Cond.methodLink RX8 142 yX8_slewOf, Cond.static yX8_slewOf, Cond.code yX8_slewOf cX8_slewOf 2 (some .int), Cond.methodLink RX8 153 yX8_size, Cond.static yX8_size, Cond.code yX8_size cX8_size 1 (some .int)]
def wsX8_wrong : List Cond := .code yX8_wrong cX8_wrong 9 (some .int) :: ((wsX8_wrong_r1 ++ wsX8_wrong_r2) ++ wsX80)
def wsX8_isInt : List Cond := .code yX8_isInt cX8_isInt 2 (some .boolean) :: ([.constantLong RX8 230 (-2147483648), .constantLong RX8 232 (2147483647)])
def wsX8_moment_r1 : List Cond := [Cond.constant RX8 169 (-1000002), Cond.fieldLink RX8 25 "SlewRailsModel" "now" "[I", Cond.methodLink RX8 173 yX8_isRail, Cond.instanceMethod yX8_isRail, Cond.selects RX8 yX8_isRail yX8_isRail, Cond.initialized RX8, Cond.code yX8_isRail cX8_isRail 1 (some .boolean), Cond.methodLink RX8 150 yX8_nowOf, Cond.static yX8_nowOf, Cond.code yX8_nowOf cX8_nowOf 2 (some .int), Cond.methodLink RX8 142 yX8_slewOf, Cond.static yX8_slewOf, Cond.code yX8_slewOf cX8_slewOf 2 (some .int), Cond.methodLink RX8 59 yX8_in, Cond.static yX8_in, Cond.code yX8_in cX8_in 3 (some .boolean), Cond.methodLink RX8 234 yX8_isInt, Cond.static yX8_isInt, Cond.code yX8_isInt cX8_isInt 2 (some .boolean), Cond.constantLong RX8 230 (-2147483648), Cond.constantLong RX8 232 (2147483647), Cond.methodLink RX8 68 yX8_found, Cond.instanceMethod yX8_found, Cond.selects RX8 yX8_found yX8_found]
def wsX8_moment_r2 : List Cond := [Cond.code yX8_found cX8_found 2 (some .int), Cond.fieldLink RX8 54 "SlewRailsModel" "status" "I", Cond.constant RX8 58 (-1000010), Cond.methodLink RX8 72 yX8_well, Cond.instanceMethod yX8_well, Cond.selects RX8 yX8_well yX8_well, Cond.code yX8_well cX8_well 2 (some .int)]
def wsX8_moment : List Cond := .code yX8_moment cX8_moment 7 (some .int) :: ((wsX8_moment_r1 ++ wsX8_moment_r2) ++ wsX80)
def wsX8_isSeen : List Cond := .code yX8_isSeen cX8_isSeen 5 (some .boolean) :: ([.fieldLink RX8 31 "SlewRailsModel" "tried" "[I", .fieldLink RX8 16 "SlewRailsModel" "items" "[I", .methodLink RX8 150 yX8_nowOf, .static yX8_nowOf, .initialized RX8, .code yX8_nowOf cX8_nowOf 2 (some .int), .methodLink RX8 142 yX8_slewOf, .static yX8_slewOf, .code yX8_slewOf cX8_slewOf 2 (some .int), .methodLink RX8 59 yX8_in, .static yX8_in, .code yX8_in cX8_in 3 (some .boolean)] ++ wsX80)
def wsX8_fits_r1 : List Cond := [Cond.fieldLink RX8 25 "SlewRailsModel" "now" "[I", Cond.constant RX8 67 (-1000001), Cond.fieldLink RX8 31 "SlewRailsModel" "tried" "[I", Cond.constant RX8 53 (-1000000), Cond.methodLink RX8 163 yX8_isPeg, Cond.instanceMethod yX8_isPeg, Cond.selects RX8 yX8_isPeg yX8_isPeg, Cond.initialized RX8, Cond.code yX8_isPeg cX8_isPeg 2 (some .boolean), Cond.methodLink RX8 59 yX8_in, Cond.static yX8_in, Cond.code yX8_in cX8_in 3 (some .boolean), Cond.methodLink RX8 63 yX8_isRow, Cond.static yX8_isRow, Cond.code yX8_isRow cX8_isRow 1 (some .boolean), Cond.methodLink RX8 75 yX8_isMissing, Cond.instanceMethod yX8_isMissing, Cond.selects RX8 yX8_isMissing yX8_isMissing, Cond.code yX8_isMissing cX8_isMissing 2 (some .boolean), Cond.fieldLink RX8 7 "SlewRailsModel" "lane" "[I", Cond.methodLink RX8 68 yX8_found, Cond.instanceMethod yX8_found, Cond.selects RX8 yX8_found yX8_found, Cond.code yX8_found cX8_found 2 (some .int)]
def wsX8_fits_r2 : List Cond := [Cond.fieldLink RX8 54 "SlewRailsModel" "status" "I", Cond.constant RX8 58 (-1000010), Cond.methodLink RX8 82 yX8_isPart, Cond.instanceMethod yX8_isPart, Cond.selects RX8 yX8_isPart yX8_isPart, Cond.code yX8_isPart cX8_isPart 4 (some .boolean), Cond.fieldLink RX8 13 "SlewRailsModel" "many" "[I", Cond.methodLink RX8 135 yX8_copies, Cond.static yX8_copies, Cond.code yX8_copies cX8_copies 5 none, Cond.methodLink RX8 166 yX8_reach, Cond.static yX8_reach, Cond.code yX8_reach cX8_reach 3 (some .int), Cond.methodLink RX8 238 yX8_isSeen, Cond.instanceMethod yX8_isSeen, Cond.selects RX8 yX8_isSeen yX8_isSeen, Cond.code yX8_isSeen cX8_isSeen 5 (some .boolean), Cond.fieldLink RX8 16 "SlewRailsModel" "items" "[I", Cond.methodLink RX8 150 yX8_nowOf, Cond.static yX8_nowOf, Cond.code yX8_nowOf cX8_nowOf 2 (some .int), Cond.methodLink RX8 142 yX8_slewOf, Cond.static yX8_slewOf, Cond.code yX8_slewOf cX8_slewOf 2 (some .int)]
def wsX8_fits_r3 : List Cond := [Cond.methodLink RX8 72 yX8_well, Cond.instanceMethod yX8_well, Cond.selects RX8 yX8_well yX8_well, Cond.code yX8_well cX8_well 2 (some .int)]
def wsX8_fits : List Cond := .code yX8_fits cX8_fits 11 (some .int) :: ((wsX8_fits_r1 ++ (wsX8_fits_r2 ++ wsX8_fits_r3)) ++ wsX80)
def wsX8_tell_r1 : List Cond := [Cond.constant RX8 67 (-1000001), Cond.fieldLink RX8 13 "SlewRailsModel" "many" "[I", Cond.fieldLink RX8 25 "SlewRailsModel" "now" "[I", Cond.fieldLink RX8 16 "SlewRailsModel" "items" "[I", Cond.fieldLink RX8 7 "SlewRailsModel" "lane" "[I", Cond.methodLink RX8 163 yX8_isPeg, Cond.instanceMethod yX8_isPeg, Cond.selects RX8 yX8_isPeg yX8_isPeg, Cond.initialized RX8, Cond.code yX8_isPeg cX8_isPeg 2 (some .boolean), Cond.methodLink RX8 59 yX8_in, Cond.static yX8_in, Cond.code yX8_in cX8_in 3 (some .boolean), Cond.methodLink RX8 63 yX8_isRow, Cond.static yX8_isRow, Cond.code yX8_isRow cX8_isRow 1 (some .boolean), Cond.methodLink RX8 75 yX8_isMissing, Cond.instanceMethod yX8_isMissing, Cond.selects RX8 yX8_isMissing yX8_isMissing, Cond.code yX8_isMissing cX8_isMissing 2 (some .boolean), Cond.constant RX8 53 (-1000000), Cond.methodLink RX8 68 yX8_found, Cond.instanceMethod yX8_found, Cond.selects RX8 yX8_found yX8_found]
def wsX8_tell_r2 : List Cond := [Cond.code yX8_found cX8_found 2 (some .int), Cond.fieldLink RX8 54 "SlewRailsModel" "status" "I", Cond.constant RX8 58 (-1000010), Cond.methodLink RX8 150 yX8_nowOf, Cond.static yX8_nowOf, Cond.code yX8_nowOf cX8_nowOf 2 (some .int), Cond.methodLink RX8 142 yX8_slewOf, Cond.static yX8_slewOf, Cond.code yX8_slewOf cX8_slewOf 2 (some .int), Cond.methodLink RX8 78 yX8_lowest, Cond.static yX8_lowest, Cond.code yX8_lowest cX8_lowest 2 (some .int), Cond.methodLink RX8 72 yX8_well, Cond.instanceMethod yX8_well, Cond.selects RX8 yX8_well yX8_well, Cond.code yX8_well cX8_well 2 (some .int)]
def wsX8_tell : List Cond := .code yX8_tell cX8_tell 6 (some .int) :: ((wsX8_tell_r1 ++ wsX8_tell_r2) ++ wsX80)
def wsX8_chance_r1 : List Cond := [Cond.constantLong RX8 242 (-1000002), Cond.constantLong RX8 244 (-1000001), Cond.fieldLink RX8 25 "SlewRailsModel" "now" "[I", Cond.constantLong RX8 246 (10), Cond.fieldLink RX8 31 "SlewRailsModel" "tried" "[I", Cond.methodLink RX8 173 yX8_isRail, Cond.instanceMethod yX8_isRail, Cond.selects RX8 yX8_isRail yX8_isRail, Cond.initialized RX8, Cond.code yX8_isRail cX8_isRail 1 (some .boolean), Cond.methodLink RX8 59 yX8_in, Cond.static yX8_in, Cond.code yX8_in cX8_in 3 (some .boolean), Cond.methodLink RX8 135 yX8_copies, Cond.static yX8_copies, Cond.code yX8_copies cX8_copies 5 none, Cond.methodLink RX8 159 yX8_settles, Cond.static yX8_settles, Cond.code yX8_settles cX8_settles 2 none, Cond.methodLink RX8 188 yX8_worst, Cond.static yX8_worst, Cond.code yX8_worst cX8_worst 4 (some .int), Cond.methodLink RX8 156 yX8_step, Cond.static yX8_step]
def wsX8_chance_r2 : List Cond := [Cond.code yX8_step cX8_step 2 (some .int), Cond.methodLink RX8 146 yX8_isLoose, Cond.static yX8_isLoose, Cond.code yX8_isLoose cX8_isLoose 2 (some .boolean), Cond.methodLink RX8 150 yX8_nowOf, Cond.static yX8_nowOf, Cond.code yX8_nowOf cX8_nowOf 2 (some .int), Cond.methodLink RX8 142 yX8_slewOf, Cond.static yX8_slewOf, Cond.code yX8_slewOf cX8_slewOf 2 (some .int), Cond.methodLink RX8 153 yX8_size, Cond.static yX8_size, Cond.code yX8_size cX8_size 1 (some .int)]
def wsX8_chance : List Cond := .code yX8_chance cX8_chance 15 (some .long) :: ((wsX8_chance_r1 ++ wsX8_chance_r2) ++ wsX80)
def wsX8_drawn_r1 : List Cond := [Cond.constant RX8 169 (-1000002), Cond.constant RX8 248 (999999), Cond.constant RX8 67 (-1000001), Cond.fieldLink RX8 25 "SlewRailsModel" "now" "[I", Cond.fieldLink RX8 31 "SlewRailsModel" "tried" "[I", Cond.constantLong RX8 249 (16807), Cond.constantLong RX8 232 (2147483647), Cond.constantLong RX8 251 (7), Cond.methodLink RX8 173 yX8_isRail, Cond.instanceMethod yX8_isRail, Cond.selects RX8 yX8_isRail yX8_isRail, Cond.initialized RX8, Cond.code yX8_isRail cX8_isRail 1 (some .boolean), Cond.methodLink RX8 59 yX8_in, Cond.static yX8_in, Cond.code yX8_in cX8_in 3 (some .boolean), Cond.methodLink RX8 135 yX8_copies, Cond.static yX8_copies, Cond.code yX8_copies cX8_copies 5 none, Cond.methodLink RX8 153 yX8_size, Cond.static yX8_size, Cond.code yX8_size cX8_size 1 (some .int), Cond.methodLink RX8 166 yX8_reach, Cond.static yX8_reach]
def wsX8_drawn_r2 : List Cond := [Cond.code yX8_reach cX8_reach 3 (some .int), Cond.methodLink RX8 180 yX8_works, Cond.static yX8_works, Cond.code yX8_works cX8_works 4 none, Cond.methodLink RX8 159 yX8_settles, Cond.static yX8_settles, Cond.code yX8_settles cX8_settles 2 none, Cond.methodLink RX8 142 yX8_slewOf, Cond.static yX8_slewOf, Cond.code yX8_slewOf cX8_slewOf 2 (some .int), Cond.methodLink RX8 188 yX8_worst, Cond.static yX8_worst, Cond.code yX8_worst cX8_worst 4 (some .int), Cond.methodLink RX8 156 yX8_step, Cond.static yX8_step, Cond.code yX8_step cX8_step 2 (some .int), Cond.methodLink RX8 146 yX8_isLoose, Cond.static yX8_isLoose, Cond.code yX8_isLoose cX8_isLoose 2 (some .boolean), Cond.methodLink RX8 150 yX8_nowOf, Cond.static yX8_nowOf, Cond.code yX8_nowOf cX8_nowOf 2 (some .int)]
def wsX8_drawn : List Cond := .code yX8_drawn cX8_drawn 10 (some .int) :: ((wsX8_drawn_r1 ++ wsX8_drawn_r2) ++ wsX80)
def wsX8_image : List Cond := .code yX8_image cX8_image 2 (some .int) :: ([.constant RX8 67 (-1000001), .constant RX8 169 (-1000002), .fieldLink RX8 25 "SlewRailsModel" "now" "[I", .fieldLink RX8 37 "SlewRailsModel" "images" "[I", .fieldLink RX8 40 "SlewRailsModel" "kept" "[Z", .methodLink RX8 59 yX8_in, .static yX8_in, .initialized RX8, .code yX8_in cX8_in 3 (some .boolean), .methodLink RX8 173 yX8_isRail, .instanceMethod yX8_isRail, .selects RX8 yX8_isRail yX8_isRail, .code yX8_isRail cX8_isRail 1 (some .boolean), .methodLink RX8 135 yX8_copies, .static yX8_copies, .code yX8_copies cX8_copies 5 none] ++ wsX80)
def wsX8_restore : List Cond := .code yX8_restore cX8_restore 2 (some .int) :: ([.constant RX8 67 (-1000001), .fieldLink RX8 40 "SlewRailsModel" "kept" "[Z", .constant RX8 169 (-1000002), .fieldLink RX8 37 "SlewRailsModel" "images" "[I", .fieldLink RX8 25 "SlewRailsModel" "now" "[I", .fieldLink RX8 139 "SlewRailsModel" "acts" "I", .methodLink RX8 59 yX8_in, .static yX8_in, .initialized RX8, .code yX8_in cX8_in 3 (some .boolean), .methodLink RX8 135 yX8_copies, .static yX8_copies, .code yX8_copies cX8_copies 5 none] ++ wsX80)
def wsX8_kindIn : List Cond := .code yX8_kindIn cX8_kindIn 2 (some .int) :: ([.fieldLink RX8 25 "SlewRailsModel" "now" "[I"] ++ wsX80)
def wsX8_kind : List Cond := .code yX8_kind cX8_kind 2 (some .int) :: ([.constant RX8 67 (-1000001), .methodLink RX8 163 yX8_isPeg, .instanceMethod yX8_isPeg, .selects RX8 yX8_isPeg yX8_isPeg, .initialized RX8, .code yX8_isPeg cX8_isPeg 2 (some .boolean), .fieldLink RX8 25 "SlewRailsModel" "now" "[I", .methodLink RX8 59 yX8_in, .static yX8_in, .code yX8_in cX8_in 3 (some .boolean), .methodLink RX8 253 yX8_kindIn, .instanceMethod yX8_kindIn, .selects RX8 yX8_kindIn yX8_kindIn, .code yX8_kindIn cX8_kindIn 2 (some .int)] ++ wsX80)
def wsX8_as : List Cond := .code yX8_as cX8_as 5 (some .int) :: ([.constant RX8 67 (-1000001), .methodLink RX8 163 yX8_isPeg, .instanceMethod yX8_isPeg, .selects RX8 yX8_isPeg yX8_isPeg, .initialized RX8, .code yX8_isPeg cX8_isPeg 2 (some .boolean), .fieldLink RX8 25 "SlewRailsModel" "now" "[I", .methodLink RX8 59 yX8_in, .static yX8_in, .code yX8_in cX8_in 3 (some .boolean), .methodLink RX8 253 yX8_kindIn, .instanceMethod yX8_kindIn, .selects RX8 yX8_kindIn yX8_kindIn, .code yX8_kindIn cX8_kindIn 2 (some .int), .methodLink RX8 72 yX8_well, .instanceMethod yX8_well, .selects RX8 yX8_well yX8_well, .code yX8_well cX8_well 2 (some .int), .fieldLink RX8 54 "SlewRailsModel" "status" "I", .methodLink RX8 68 yX8_found, .instanceMethod yX8_found, .selects RX8 yX8_found yX8_found, .code yX8_found cX8_found 2 (some .int), .constant RX8 58 (-1000010)] ++ wsX80)
def wsX8_begins : List Cond := .code yX8_begins cX8_begins 2 none :: ([.fieldLink RX8 256 "SlewRailsModel" "traced" "I", .fieldLink RX8 50 "SlewRailsModel" "trace" "[I"] ++ wsX80)
def wsX8_plainMark : List Cond := .code yX8_plainMark cX8_plainMark 4 (some .int) :: ([.fieldLink RX8 25 "SlewRailsModel" "now" "[I", .methodLink RX8 253 yX8_kindIn, .instanceMethod yX8_kindIn, .selects RX8 yX8_kindIn yX8_kindIn, .initialized RX8, .code yX8_kindIn cX8_kindIn 2 (some .int), .methodLink RX8 259 yX8_begins, .instanceMethod yX8_begins, .selects RX8 yX8_begins yX8_begins, .code yX8_begins cX8_begins 2 none, .fieldLink RX8 256 "SlewRailsModel" "traced" "I", .fieldLink RX8 50 "SlewRailsModel" "trace" "[I"] ++ wsX80)
def wsX8_bridgeSize : List Cond := .code yX8_bridgeSize cX8_bridgeSize 4 (some .int) :: ([.fieldLink RX8 25 "SlewRailsModel" "now" "[I", .methodLink RX8 253 yX8_kindIn, .instanceMethod yX8_kindIn, .selects RX8 yX8_kindIn yX8_kindIn, .initialized RX8, .code yX8_kindIn cX8_kindIn 2 (some .int), .methodLink RX8 259 yX8_begins, .instanceMethod yX8_begins, .selects RX8 yX8_begins yX8_begins, .code yX8_begins cX8_begins 2 none, .fieldLink RX8 256 "SlewRailsModel" "traced" "I", .fieldLink RX8 50 "SlewRailsModel" "trace" "[I", .methodLink RX8 150 yX8_nowOf, .static yX8_nowOf, .code yX8_nowOf cX8_nowOf 2 (some .int), .methodLink RX8 142 yX8_slewOf, .static yX8_slewOf, .code yX8_slewOf cX8_slewOf 2 (some .int), .methodLink RX8 59 yX8_in, .static yX8_in, .code yX8_in cX8_in 3 (some .boolean)] ++ wsX80)
def wsX8_plainSize_r1 : List Cond := [Cond.fieldLink RX8 25 "SlewRailsModel" "now" "[I", Cond.methodLink RX8 253 yX8_kindIn, Cond.instanceMethod yX8_kindIn, Cond.selects RX8 yX8_kindIn yX8_kindIn, Cond.initialized RX8, Cond.code yX8_kindIn cX8_kindIn 2 (some .int), Cond.methodLink RX8 259 yX8_begins, Cond.instanceMethod yX8_begins, Cond.selects RX8 yX8_begins yX8_begins, Cond.code yX8_begins cX8_begins 2 none, Cond.fieldLink RX8 256 "SlewRailsModel" "traced" "I", Cond.fieldLink RX8 50 "SlewRailsModel" "trace" "[I", Cond.methodLink RX8 150 yX8_nowOf, Cond.static yX8_nowOf, Cond.code yX8_nowOf cX8_nowOf 2 (some .int), Cond.methodLink RX8 142 yX8_slewOf, Cond.static yX8_slewOf, Cond.code yX8_slewOf cX8_slewOf 2 (some .int), Cond.methodLink RX8 59 yX8_in, Cond.static yX8_in, Cond.code yX8_in cX8_in 3 (some .boolean), Cond.methodLink RX8 263 yX8_plainMark, Cond.instanceMethod yX8_plainMark, Cond.selects RX8 yX8_plainMark yX8_plainMark]
def wsX8_plainSize_r2 : List Cond := [Cond.code yX8_plainMark cX8_plainMark 4 (some .int)]
def wsX8_plainSize : List Cond := .code yX8_plainSize cX8_plainSize 4 (some .int) :: ((wsX8_plainSize_r1 ++ wsX8_plainSize_r2) ++ wsX80)
def wsX8_bridgeMark_r1 : List Cond := [Cond.methodLink RX8 259 yX8_begins, Cond.instanceMethod yX8_begins, Cond.selects RX8 yX8_begins yX8_begins, Cond.initialized RX8, Cond.code yX8_begins cX8_begins 2 none, Cond.fieldLink RX8 256 "SlewRailsModel" "traced" "I", Cond.fieldLink RX8 50 "SlewRailsModel" "trace" "[I", Cond.methodLink RX8 266 yX8_bridgeSize, Cond.instanceMethod yX8_bridgeSize, Cond.selects RX8 yX8_bridgeSize yX8_bridgeSize, Cond.code yX8_bridgeSize cX8_bridgeSize 4 (some .int), Cond.fieldLink RX8 25 "SlewRailsModel" "now" "[I", Cond.methodLink RX8 253 yX8_kindIn, Cond.instanceMethod yX8_kindIn, Cond.selects RX8 yX8_kindIn yX8_kindIn, Cond.code yX8_kindIn cX8_kindIn 2 (some .int), Cond.methodLink RX8 150 yX8_nowOf, Cond.static yX8_nowOf, Cond.code yX8_nowOf cX8_nowOf 2 (some .int), Cond.methodLink RX8 142 yX8_slewOf, Cond.static yX8_slewOf, Cond.code yX8_slewOf cX8_slewOf 2 (some .int), Cond.methodLink RX8 59 yX8_in, Cond.static yX8_in]
def wsX8_bridgeMark_r2 : List Cond := [Cond.code yX8_in cX8_in 3 (some .boolean)]
def wsX8_bridgeMark : List Cond := .code yX8_bridgeMark cX8_bridgeMark 2 (some .int) :: ((wsX8_bridgeMark_r1 ++ wsX8_bridgeMark_r2) ++ wsX80)
def wsX8_ask_r1 : List Cond := [Cond.constant RX8 67 (-1000001), Cond.fieldLink RX8 256 "SlewRailsModel" "traced" "I", Cond.methodLink RX8 163 yX8_isPeg, Cond.instanceMethod yX8_isPeg, Cond.selects RX8 yX8_isPeg yX8_isPeg, Cond.initialized RX8, Cond.code yX8_isPeg cX8_isPeg 2 (some .boolean), Cond.fieldLink RX8 25 "SlewRailsModel" "now" "[I", Cond.methodLink RX8 59 yX8_in, Cond.static yX8_in, Cond.code yX8_in cX8_in 3 (some .boolean), Cond.methodLink RX8 253 yX8_kindIn, Cond.instanceMethod yX8_kindIn, Cond.selects RX8 yX8_kindIn yX8_kindIn, Cond.code yX8_kindIn cX8_kindIn 2 (some .int), Cond.methodLink RX8 266 yX8_bridgeSize, Cond.instanceMethod yX8_bridgeSize, Cond.selects RX8 yX8_bridgeSize yX8_bridgeSize, Cond.code yX8_bridgeSize cX8_bridgeSize 4 (some .int), Cond.methodLink RX8 259 yX8_begins, Cond.instanceMethod yX8_begins, Cond.selects RX8 yX8_begins yX8_begins, Cond.code yX8_begins cX8_begins 2 none, Cond.fieldLink RX8 50 "SlewRailsModel" "trace" "[I"]
def wsX8_ask_r2 : List Cond := [Cond.methodLink RX8 150 yX8_nowOf, Cond.static yX8_nowOf, Cond.code yX8_nowOf cX8_nowOf 2 (some .int), Cond.methodLink RX8 142 yX8_slewOf, Cond.static yX8_slewOf, Cond.code yX8_slewOf cX8_slewOf 2 (some .int), Cond.methodLink RX8 269 yX8_plainSize, Cond.instanceMethod yX8_plainSize, Cond.selects RX8 yX8_plainSize yX8_plainSize, Cond.code yX8_plainSize cX8_plainSize 4 (some .int), Cond.methodLink RX8 263 yX8_plainMark, Cond.instanceMethod yX8_plainMark, Cond.selects RX8 yX8_plainMark yX8_plainMark, Cond.code yX8_plainMark cX8_plainMark 4 (some .int), Cond.methodLink RX8 272 yX8_bridgeMark, Cond.instanceMethod yX8_bridgeMark, Cond.selects RX8 yX8_bridgeMark yX8_bridgeMark, Cond.code yX8_bridgeMark cX8_bridgeMark 2 (some .int)]
def wsX8_ask : List Cond := .code yX8_ask cX8_ask 4 (some .int) :: ((wsX8_ask_r1 ++ wsX8_ask_r2) ++ wsX80)
def wsX8_trace : List Cond := .code yX8_trace cX8_trace 2 (some .int) :: ([.fieldLink RX8 256 "SlewRailsModel" "traced" "I", .fieldLink RX8 50 "SlewRailsModel" "trace" "[I", .constant RX8 53 (-1000000), .methodLink RX8 59 yX8_in, .static yX8_in, .initialized RX8, .code yX8_in cX8_in 3 (some .boolean)] ++ wsX80)
def wsX8_count : List Cond := .code yX8_count cX8_count 4 (some .int) :: ([.fieldLink RX8 25 "SlewRailsModel" "now" "[I", .fieldLink RX8 139 "SlewRailsModel" "acts" "I", .fieldLink RX8 85 "SlewRailsModel" "taped" "I", .constant RX8 67 (-1000001), .methodLink RX8 75 yX8_isMissing, .instanceMethod yX8_isMissing, .selects RX8 yX8_isMissing yX8_isMissing, .initialized RX8, .code yX8_isMissing cX8_isMissing 2 (some .boolean), .fieldLink RX8 7 "SlewRailsModel" "lane" "[I", .constant RX8 53 (-1000000)] ++ wsX80)
def wsX8_status : List Cond := .code yX8_status cX8_status 1 (some .int) :: ([.fieldLink RX8 54 "SlewRailsModel" "status" "I"] ++ wsX80)
def wsJ9_abs_0f7a4 : List Cond := .code yJ9_abs_0f7a4 cJ9_abs_0f7a4 1 (some .int) :: ([])
def wsJ9_max_7cf53 : List Cond := .code yJ9_max_7cf53 cJ9_max_7cf53 2 (some .int) :: ([])
def wsJ9_min_7cf53 : List Cond := .code yJ9_min_7cf53 cJ9_min_7cf53 2 (some .int) :: ([])
abbrev vwCl : List vw_C := [(RX0, TX0, 2), (RX1, TX1, 3), (RX2, TX2, 6), (RX3, TX3, 3), (RX4, TX4, 7), (RX5, TX5, 5), (RX6, TX6, 4), (RX7, TX7, 10), (RX8, TX8, 26)]
end
section
/-! THE WORLD BY ROLES. A role is a number; an object's parts lie at fixed numbers behind its own. ad: the address of a role; kd: its kind (0 .. 8 the classes, 10 longs, 11 booleans, 12 two rails, 13 eight rows, 14 the rails of the history, 1000 + n: n ints, 99: not made). M: what ints a role holds, J: what longs. -/
abbrev zM : Type := Nat → Nat → Int32
abbrev zL : Type := Nat → Nat → Int64
abbrev zY : Type := ClassId × ClassId × ClassId × ClassId × ClassId
def zw (x : Int32) (o : Nat) : Nat := if x = 0 then o + 1 else o + 2
def zv (ad kd : Nat → Nat) (Y : zY) (o : Nat) (u : Nat → Int32) (v : Nat → Int64) : va_E :=
  if kd o = 0 then .inr (0, [.ref (ad (o + 1)), .int (u 0)]) else
  if kd o = 1 then .inr (1, [.ref (ad (o + 1)), .int (u 0), .int (u 1)]) else
  if kd o = 2 then .inr (2, [.int (u 0), .int (u 1), .ref (ad (o + 1)), .ref (ad (o + 2)), .ref (ad (o + 3)), .ref (ad (o + 4))]) else
  if kd o = 3 then .inr (3, [.int (u 0), .int (u 1), .ref (ad (o + 1))]) else
  if kd o = 4 then .inr (4, [.ref (ad (o + 1)), .ref (ad (o + 6)), .ref (ad (o + 7)), .int (u 0), .int (u 1), .int (u 2), .int (u 3)]) else
  if kd o = 5 then .inr (5, [.long (v 0), .long (v 1), .ref (ad (zw (u 1) o)), .ref (ad (zw (u 2) o)), .int (u 0)]) else
  if kd o = 6 then .inr (6, [.ref (ad (o + 1)), .int (u 0), .int (u 1), .int (u 2)]) else
  if kd o = 7 then .inr (7, [.ref (ad (o + 1)), .ref (ad (o + 18)), .ref (ad (o + 20)), .ref (ad (o + 25)), .ref (ad (o + 30)), .ref (ad (o + 41)), .ref (ad (o + 163)), .ref (ad (o + 165)), va_rf (if kd (o + 168) = 4 then some (ad (o + 168)) else none), .int (u 0)]) else
  if kd o = 8 then .inr (8, [.ref (ad (o + 1)), .ref (ad (o + 2)), .ref (ad (o + 3)), .ref (ad (o + 4)), .int (u 0), .ref (ad (o + 5)), .int (u 1), .int (u 2), .int (u 3), .int (u 4), .int (u 5), .int (u 6), .int (u 7), .ref (ad (o + 6)), .ref (ad (o + 7)), .ref (ad (o + 8)), .ref (ad (o + 9)), .int (u 8), .ref (ad (o + 10)), .ref (ad (o + 11)), .ref (ad (o + 12)), .ref (ad (o + 13)), .int (u 9), .int (u 10), .ref (ad (o + 14)), .int (u 11)]) else
  if kd o = 10 then .inl (Y.2.1, 8, .inr (.inl v)) else
  if kd o = 11 then .inl (Y.2.2.1, 2, .inl u) else
  if kd o = 12 then .inl (Y.2.2.2.1, 2, .inr (.inr (.inr (.inr (fun i => some (ad (o + 1 + 5 * i))))))) else
  if kd o = 13 then .inl (Y.2.2.2.2, 8, .inr (.inr (.inr (.inr (fun i => some (ad (o + 1 + 2 * i))))))) else
  if kd o = 14 then .inl (Y.2.2.2.1, 24, .inr (.inr (.inr (.inr (fun i => if kd (o + 1 + 5 * i) = 2 then some (ad (o + 1 + 5 * i)) else none))))) else
  .inl (Y.1, kd o - 1000, .inl u)
def zc (ad kd : Nat → Nat) (Y : zY) (M : zM) (J : zL) (o : Nat) : va_E := zv ad kd Y o (M o) (J o)
def zW (Y : zY) (ad kd : Nat → Nat) (RL : List Nat) (M : zM) (J : zL) : va_W := RL.map (fun o => (ad o, zc ad kd Y M J o))
def zT (Y : zY) : List (ClassId × FieldType) := [(Y.1, .int), (Y.2.1, .long), (Y.2.2.1, .boolean), (Y.2.2.2.1, .object "SlewRails$Rail"), (Y.2.2.2.2, .object "SlewRails$Row")]
/-- what is reached from an object that is there is there -/
def zCl (kd : Nat → Nat) : Prop :=
  (∀ o, kd o = 0 → kd (o + 1) = 1016) ∧ (∀ o, kd o = 1 → kd (o + 1) = 14) ∧
  (∀ o, kd o = 2 → kd (o + 1) = 1012 ∧ kd (o + 2) = 1012 ∧ kd (o + 3) = 1012 ∧ kd (o + 4) = 1012) ∧
  (∀ o, kd o = 3 → kd (o + 1) = 1040) ∧ (∀ o, kd o = 4 → kd (o + 1) = 2 ∧ kd (o + 6) = 5116 ∧ kd (o + 7) = 1012) ∧
  (∀ o, kd o = 5 → kd (o + 1) = 10 ∧ kd (o + 2) = 10) ∧ (∀ o, kd o = 6 → kd (o + 1) = 1120) ∧
  (∀ o, kd o = 7 → kd (o + 1) = 13 ∧ kd (o + 18) = 6 ∧ kd (o + 20) = 2 ∧ kd (o + 25) = 2 ∧ kd (o + 30) = 12 ∧ kd (o + 41) = 1 ∧ kd (o + 163) = 0 ∧ kd (o + 165) = 5) ∧
  (∀ o, kd o = 8 → kd (o + 1) = 1008 ∧ kd (o + 2) = 1008 ∧ kd (o + 3) = 1320 ∧ kd (o + 4) = 1040 ∧ kd (o + 5) = 1120 ∧ kd (o + 6) = 1050 ∧ kd (o + 7) = 1050 ∧ kd (o + 8) = 1050 ∧ kd (o + 9) = 2200 ∧ kd (o + 10) = 1100 ∧ kd (o + 11) = 11 ∧ kd (o + 12) = 5116 ∧ kd (o + 13) = 1012 ∧ kd (o + 14) = 1016) ∧
  (∀ o, kd o = 12 → ∀ i, i < 2 → kd (o + 1 + 5 * i) = 2) ∧ (∀ o, kd o = 13 → ∀ i, i < 8 → kd (o + 1 + 2 * i) = 3)
theorem zk_0_1 {kd : Nat → Nat} {o : Nat} (h : zCl kd) (ho : kd o = 0) : kd (o + 1) = 1016 := (h.1 o ho)
theorem zk_1_1 {kd : Nat → Nat} {o : Nat} (h : zCl kd) (ho : kd o = 1) : kd (o + 1) = 14 := (h.2.1 o ho)
theorem zk_2_1 {kd : Nat → Nat} {o : Nat} (h : zCl kd) (ho : kd o = 2) : kd (o + 1) = 1012 := (h.2.2.1 o ho).1
theorem zk_2_2 {kd : Nat → Nat} {o : Nat} (h : zCl kd) (ho : kd o = 2) : kd (o + 2) = 1012 := (h.2.2.1 o ho).2.1
theorem zk_2_3 {kd : Nat → Nat} {o : Nat} (h : zCl kd) (ho : kd o = 2) : kd (o + 3) = 1012 := (h.2.2.1 o ho).2.2.1
theorem zk_2_4 {kd : Nat → Nat} {o : Nat} (h : zCl kd) (ho : kd o = 2) : kd (o + 4) = 1012 := (h.2.2.1 o ho).2.2.2
theorem zk_3_1 {kd : Nat → Nat} {o : Nat} (h : zCl kd) (ho : kd o = 3) : kd (o + 1) = 1040 := (h.2.2.2.1 o ho)
theorem zk_4_1 {kd : Nat → Nat} {o : Nat} (h : zCl kd) (ho : kd o = 4) : kd (o + 1) = 2 := (h.2.2.2.2.1 o ho).1
theorem zk_4_6 {kd : Nat → Nat} {o : Nat} (h : zCl kd) (ho : kd o = 4) : kd (o + 6) = 5116 := (h.2.2.2.2.1 o ho).2.1
theorem zk_4_7 {kd : Nat → Nat} {o : Nat} (h : zCl kd) (ho : kd o = 4) : kd (o + 7) = 1012 := (h.2.2.2.2.1 o ho).2.2
theorem zk_5_1 {kd : Nat → Nat} {o : Nat} (h : zCl kd) (ho : kd o = 5) : kd (o + 1) = 10 := (h.2.2.2.2.2.1 o ho).1
theorem zk_5_2 {kd : Nat → Nat} {o : Nat} (h : zCl kd) (ho : kd o = 5) : kd (o + 2) = 10 := (h.2.2.2.2.2.1 o ho).2
theorem zk_6_1 {kd : Nat → Nat} {o : Nat} (h : zCl kd) (ho : kd o = 6) : kd (o + 1) = 1120 := (h.2.2.2.2.2.2.1 o ho)
theorem zk_7_1 {kd : Nat → Nat} {o : Nat} (h : zCl kd) (ho : kd o = 7) : kd (o + 1) = 13 := (h.2.2.2.2.2.2.2.1 o ho).1
theorem zk_7_18 {kd : Nat → Nat} {o : Nat} (h : zCl kd) (ho : kd o = 7) : kd (o + 18) = 6 := (h.2.2.2.2.2.2.2.1 o ho).2.1
theorem zk_7_20 {kd : Nat → Nat} {o : Nat} (h : zCl kd) (ho : kd o = 7) : kd (o + 20) = 2 := (h.2.2.2.2.2.2.2.1 o ho).2.2.1
theorem zk_7_25 {kd : Nat → Nat} {o : Nat} (h : zCl kd) (ho : kd o = 7) : kd (o + 25) = 2 := (h.2.2.2.2.2.2.2.1 o ho).2.2.2.1
theorem zk_7_30 {kd : Nat → Nat} {o : Nat} (h : zCl kd) (ho : kd o = 7) : kd (o + 30) = 12 := (h.2.2.2.2.2.2.2.1 o ho).2.2.2.2.1
theorem zk_7_41 {kd : Nat → Nat} {o : Nat} (h : zCl kd) (ho : kd o = 7) : kd (o + 41) = 1 := (h.2.2.2.2.2.2.2.1 o ho).2.2.2.2.2.1
theorem zk_7_163 {kd : Nat → Nat} {o : Nat} (h : zCl kd) (ho : kd o = 7) : kd (o + 163) = 0 := (h.2.2.2.2.2.2.2.1 o ho).2.2.2.2.2.2.1
theorem zk_7_165 {kd : Nat → Nat} {o : Nat} (h : zCl kd) (ho : kd o = 7) : kd (o + 165) = 5 := (h.2.2.2.2.2.2.2.1 o ho).2.2.2.2.2.2.2
theorem zk_8_1 {kd : Nat → Nat} {o : Nat} (h : zCl kd) (ho : kd o = 8) : kd (o + 1) = 1008 := (h.2.2.2.2.2.2.2.2.1 o ho).1
theorem zk_8_2 {kd : Nat → Nat} {o : Nat} (h : zCl kd) (ho : kd o = 8) : kd (o + 2) = 1008 := (h.2.2.2.2.2.2.2.2.1 o ho).2.1
theorem zk_8_3 {kd : Nat → Nat} {o : Nat} (h : zCl kd) (ho : kd o = 8) : kd (o + 3) = 1320 := (h.2.2.2.2.2.2.2.2.1 o ho).2.2.1
theorem zk_8_4 {kd : Nat → Nat} {o : Nat} (h : zCl kd) (ho : kd o = 8) : kd (o + 4) = 1040 := (h.2.2.2.2.2.2.2.2.1 o ho).2.2.2.1
theorem zk_8_5 {kd : Nat → Nat} {o : Nat} (h : zCl kd) (ho : kd o = 8) : kd (o + 5) = 1120 := (h.2.2.2.2.2.2.2.2.1 o ho).2.2.2.2.1
theorem zk_8_6 {kd : Nat → Nat} {o : Nat} (h : zCl kd) (ho : kd o = 8) : kd (o + 6) = 1050 := (h.2.2.2.2.2.2.2.2.1 o ho).2.2.2.2.2.1
theorem zk_8_7 {kd : Nat → Nat} {o : Nat} (h : zCl kd) (ho : kd o = 8) : kd (o + 7) = 1050 := (h.2.2.2.2.2.2.2.2.1 o ho).2.2.2.2.2.2.1
theorem zk_8_8 {kd : Nat → Nat} {o : Nat} (h : zCl kd) (ho : kd o = 8) : kd (o + 8) = 1050 := (h.2.2.2.2.2.2.2.2.1 o ho).2.2.2.2.2.2.2.1
theorem zk_8_9 {kd : Nat → Nat} {o : Nat} (h : zCl kd) (ho : kd o = 8) : kd (o + 9) = 2200 := (h.2.2.2.2.2.2.2.2.1 o ho).2.2.2.2.2.2.2.2.1
theorem zk_8_10 {kd : Nat → Nat} {o : Nat} (h : zCl kd) (ho : kd o = 8) : kd (o + 10) = 1100 := (h.2.2.2.2.2.2.2.2.1 o ho).2.2.2.2.2.2.2.2.2.1
theorem zk_8_11 {kd : Nat → Nat} {o : Nat} (h : zCl kd) (ho : kd o = 8) : kd (o + 11) = 11 := (h.2.2.2.2.2.2.2.2.1 o ho).2.2.2.2.2.2.2.2.2.2.1
theorem zk_8_12 {kd : Nat → Nat} {o : Nat} (h : zCl kd) (ho : kd o = 8) : kd (o + 12) = 5116 := (h.2.2.2.2.2.2.2.2.1 o ho).2.2.2.2.2.2.2.2.2.2.2.1
theorem zk_8_13 {kd : Nat → Nat} {o : Nat} (h : zCl kd) (ho : kd o = 8) : kd (o + 13) = 1012 := (h.2.2.2.2.2.2.2.2.1 o ho).2.2.2.2.2.2.2.2.2.2.2.2.1
theorem zk_8_14 {kd : Nat → Nat} {o : Nat} (h : zCl kd) (ho : kd o = 8) : kd (o + 14) = 1016 := (h.2.2.2.2.2.2.2.2.1 o ho).2.2.2.2.2.2.2.2.2.2.2.2.2
theorem zk_12 {kd : Nat → Nat} {o : Nat} (h : zCl kd) (ho : kd o = 12) {i : Nat} (hi : i < 2) : kd (o + 1 + 5 * i) = 2 := h.2.2.2.2.2.2.2.2.2.1 o ho i hi
theorem zk_13 {kd : Nat → Nat} {o : Nat} (h : zCl kd) (ho : kd o = 13) {i : Nat} (hi : i < 8) : kd (o + 1 + 2 * i) = 3 := h.2.2.2.2.2.2.2.2.2.2 o ho i hi
theorem zk_5_w {kd : Nat → Nat} {o : Nat} (h : zCl kd) (ho : kd o = 5) (x : Int32) : kd (zw x o) = 10 := by unfold zw; split <;> first | exact zk_5_1 h ho | exact zk_5_2 h ho
theorem zc_other {ad kd : Nat → Nat} {Y : zY} {M M' : zM} {J J' : zL} {o : Nat} (hM : M' o = M o) (hJ : J' o = J o) : zc ad kd Y M' J' o = zc ad kd Y M J o := by unfold zc; rw [hM, hJ]
theorem zW_get {Y : zY} {ad kd : Nat → Nat} {RL : List Nat} {M : zM} {J : zL} {o : Nat} (h : o ∈ RL) : ∃ k : Nat, (zW Y ad kd RL M J)[k]? = some (ad o, zc ad kd Y M J o) ∧ RL[k]? = some o := by
  obtain ⟨k, hk⟩ := List.getElem?_of_mem h
  exact ⟨k, by simp [zW, hk], hk⟩
theorem zW_set {Y : zY} {ad kd : Nat → Nat} {RL : List Nat} {M M' : zM} {J J' : zL} {A : Nat → Prop} {o k : Nat} {e : va_E} (hD : va_D A (zW Y ad kd RL M J)) (hk : RL[k]? = some o) (he : zc ad kd Y M' J' o = e) (ho : ∀ x, x ≠ o → zc ad kd Y M' J' x = zc ad kd Y M J x) : (zW Y ad kd RL M J).set k (ad o, e) = zW Y ad kd RL M' J' := by
  have hkl : k < RL.length := (List.getElem?_eq_some_iff.mp hk).1
  apply List.ext_getElem?
  intro i
  rw [List.getElem?_set]
  by_cases hi : k = i
  · subst hi
    have hko : RL[k] = o := (List.getElem?_eq_some_iff.mp hk).2
    simp [zW, hkl, hko, he]
  · rw [if_neg hi]
    cases hx : RL[i]? with
    | none => simp [zW, hx]
    | some x =>
      have hne : x ≠ o := fun e => hi (by
        subst e
        exact hD.1 k i (ad x, zc ad kd Y M J x) (ad x, zc ad kd Y M J x) (by simp [zW, hk]) (by simp [zW, hx]) rfl)
      simp [zW, hx, ho x hne]
theorem zD_any {Y : zY} {ad kd : Nat → Nat} {RL : List Nat} {M M' : zM} {J J' : zL} {A : Nat → Prop} (h : va_D A (zW Y ad kd RL M J)) : va_D A (zW Y ad kd RL M' J') := by
  have key : ∀ (i : Nat) (q : Nat × va_E), (zW Y ad kd RL M' J')[i]? = some q → ∃ q2, (zW Y ad kd RL M J)[i]? = some q2 ∧ q2.1 = q.1 := by
    intro i q hq
    simp only [zW, List.getElem?_map, Option.map_eq_some_iff] at hq ⊢
    obtain ⟨o, ho, rfl⟩ := hq
    exact ⟨_, ⟨o, ho, rfl⟩, rfl⟩
  refine ⟨fun i j p q hi hj hpq => ?_, fun i q hi => ?_⟩
  · obtain ⟨p2, hp2, ep⟩ := key i p hi
    obtain ⟨q2, hq2, eq⟩ := key j q hj
    exact h.1 i j p2 q2 hp2 hq2 (by rw [ep, eq, hpq])
  · obtain ⟨q2, hq2, eq⟩ := key i q hi
    rw [← eq]; exact h.2 i q2 hq2
/-- the world at a place of a walk -/
def zH (D : va_G) (Y : zY) (ad kd : Nat → Nat) (RL : List Nat) (M : zM) (J : zL) (A : Nat → Prop) (H0 H : Heap) (locs : List Loc) (s : State) : Prop :=
  va_P D vwCl (zW Y ad kd RL M J) H ∧ va_K D vwCl (zT Y) s ∧ va_D A (zW Y ad kd RL M J) ∧ va_S A H0 H locs ∧ (∀ q, H0.size ≤ q → A q) ∧ zCl kd ∧ ∀ o, kd o ≠ 99 → o ∈ RL
/-- the world as a contract's start has it -/
def zP (D : va_G) (Y : zY) (ad kd : Nat → Nat) (RL : List Nat) (M : zM) (J : zL) (sz : Nat) (U : State) : Prop :=
  U.heap.size = sz ∧ va_P D vwCl (zW Y ad kd RL M J) U.heap ∧ va_K D vwCl (zT Y) U ∧ va_D (fun _ => True) (zW Y ad kd RL M J) ∧ zCl kd ∧ ∀ o, kd o ≠ 99 → o ∈ RL
def zB (D : va_G) (Y : zY) (ad kd : Nat → Nat) (RL : List Nat) : zM × zL → State → Prop := fun u t => va_P D vwCl (zW Y ad kd RL u.1 u.2) t.heap
def zqi (post : Int32 → zM → zL → Prop) : Int32 → zM × zL → Prop := fun r u => post r u.1 u.2
def zql (post : Int64 → zM → zL → Prop) : Int64 → zM × zL → Prop := fun r u => post r u.1 u.2
def zqv (post : zM → zL → Prop) : zM × zL → Prop := fun u => post u.1 u.2
/-- contracts of methods that make nothing: answer an int, a long, nothing -/
def zCi (l : Launch) (y : MethodName) (ws : List Cond) (rm : Room) (av : List Value) (D : va_G) (Y : zY) (ad kd : Nat → Nat) (RL : List Nat) (M : zM) (J : zL) (post : Int32 → zM → zL → Prop) : Prop :=
  ∀ sz, Met l y ws rm (va_Pc av (zP D Y ad kd RL M J sz)) (va_Qi (zqi post) (zB D Y ad kd RL) (va_A (zW Y ad kd RL M J) sz)) 0 0 (va_A (zW Y ad kd RL M J) sz)
def zCl_ (l : Launch) (y : MethodName) (ws : List Cond) (rm : Room) (av : List Value) (D : va_G) (Y : zY) (ad kd : Nat → Nat) (RL : List Nat) (M : zM) (J : zL) (post : Int64 → zM → zL → Prop) : Prop :=
  ∀ sz, Met l y ws rm (va_Pc av (zP D Y ad kd RL M J sz)) (va_Ql (zql post) (zB D Y ad kd RL) (va_A (zW Y ad kd RL M J) sz)) 0 0 (va_A (zW Y ad kd RL M J) sz)
def zCv (l : Launch) (y : MethodName) (ws : List Cond) (rm : Room) (av : List Value) (D : va_G) (Y : zY) (ad kd : Nat → Nat) (RL : List Nat) (M : zM) (J : zL) (post : zM → zL → Prop) : Prop :=
  ∀ sz, Met l y ws rm (va_Pc av (zP D Y ad kd RL M J sz)) (va_Qv (zqv post) (zB D Y ad kd RL) (va_A (zW Y ad kd RL M J) sz)) 0 0 (va_A (zW Y ad kd RL M J) sz)
theorem zP_blind {D : va_G} {Y : zY} {ad kd : Nat → Nat} {RL : List Nat} {M : zM} {J : zL} {sz : Nat} {av : List Value} : FrameBlind (va_Pc av (zP D Y ad kd RL M J sz)) := fun a U g mk q => by
  obtain ⟨q0, q1, qP, qK, qD⟩ := q
  exact ⟨q0, q1, qP, va_K.moved (u := U) (U := U.calling g mk a) (Vm.Alike.refl U.vm) qK, qD⟩
theorem z_obj {ad kd : Nat → Nat} {Y : zY} {M : zM} {J : zL} {o ci : Nat} (h : kd o = ci) (hc : ci < 9) : ∃ fs, zc ad kd Y M J o = .inr (ci, fs) := by
  unfold zc zv
  rw [h]
  rcases (show ci = 0 ∨ ci = 1 ∨ ci = 2 ∨ ci = 3 ∨ ci = 4 ∨ ci = 5 ∨ ci = 6 ∨ ci = 7 ∨ ci = 8 by omega) with rfl | rfl | rfl | rfl | rfl | rfl | rfl | rfl | rfl <;> exact ⟨_, rfl⟩
theorem z_lt {i : Int32} {n : Nat} (h : vp_in i n) : i.toNatClampNeg < n := Nat.lt_of_not_le (fun q => h (Or.inr q))
abbrev zabs (x : Int32) : Int32 := if 0 ≤ x then x else 0 - x
abbrev zmax (x y : Int32) : Int32 := if x < y then y else x
abbrev zmin (x y : Int32) : Int32 := if y < x then y else x
section ZR
variable {p : Program} {l : Launch} {e : Env} {R : Room} {s : State} {m : MethodId} {args : Array Value} {below : List Frame} {meth : Method} {c : Code} {H : Heap} {locs : List Loc} {cells slots : Nat} {Q : State → Prop}
variable {cc : ByteArray} {pc : Nat} {ls : Array Slot} {rest : List Value} {D : va_G} {Y : zY} {ad kd : Nat → Nat} {RL : List Nat} {M : zM} {J : zL} {A : Nat → Prop} {H0 : Heap} {own : String} {index o : Nat}
theorem zH.next {M' : zM} {J' : zL} {H1 : Heap} {locs1 : List Loc} (hw : zH D Y ad kd RL M J A H0 H locs s) (hP : va_P D vwCl (zW Y ad kd RL M' J') H1) (hS : va_S A H0 H1 locs1) : zH D Y ad kd RL M' J' A H0 H1 locs1 s :=
  ⟨hP, hw.2.1, zD_any hw.2.2.1, hS, hw.2.2.2.2⟩
/-- from a contract's start to the walk -/
theorem z_meti {y : MethodName} {ws ws' : List Cond} {rm : Room} {maxL : Nat} {ret : Option FieldType} {av : List Value} {post : Int32 → zM → zL → Prop} (hy : plainName y.cls = true) (hw : ws = Cond.code y cc maxL ret :: ws') (hn : (lg_sl av).length ≤ maxL)
    (body : ∀ (p : Program) (e : Env) (s : State) (m : MethodId) (below : List Frame) (meth : Method) (c : Code) (ls : Array Slot) (A : Nat → Prop) (ar : Array Value) (QE : State → Prop), QE = MQ below (va_Qi (zqi post) (zB D Y ad kd RL) A) ar s 0 0 A → p.tables.exec = Jvm.exec → c.code = cc → meth.sig.returnType = ret → c.maxLocals = maxL → s.vm.findClass y.cls = some m.cls → (∀ w ∈ ws, w.before ar s = true) → meth.locks = false → zH D Y ad kd RL M J A s.heap s.heap [] s → lv_has ls maxL (lv_args 0 av) →
      W p l e rm s m ar below meth c s.heap [] 0 0 QE (F0 m 0 ls [])) : zCi l y ws rm av D Y ad kd RL M J post := by
  intro sz
  refine Met.ofW (cc := cc) (maxL := maxL) (ret := ret) hy hw ?_
  intro p e s m args below meth c s₁ B hml hv
  obtain ⟨rfl, hsz, hP, hK, hD0, hC, hR⟩ := hv
  subst hsz
  have hl := lv_entry av (n := maxL) hn
  rw [lg_entry_eq]
  exact body p e s m below meth c _ _ _ _ rfl B.exec B.bytes B.returns hml (findClass_of_methodNamed B.named) (atoms_spec (ws := ws) B.pre) B.notSynchronized ⟨hP, hK, hD0.self, va_S.rf, fun q h => Or.inr h, hC, hR⟩ hl
theorem z_metl {y : MethodName} {ws ws' : List Cond} {rm : Room} {maxL : Nat} {ret : Option FieldType} {av : List Value} {post : Int64 → zM → zL → Prop} (hy : plainName y.cls = true) (hw : ws = Cond.code y cc maxL ret :: ws') (hn : (lg_sl av).length ≤ maxL)
    (body : ∀ (p : Program) (e : Env) (s : State) (m : MethodId) (below : List Frame) (meth : Method) (c : Code) (ls : Array Slot) (A : Nat → Prop) (ar : Array Value) (QE : State → Prop), QE = MQ below (va_Ql (zql post) (zB D Y ad kd RL) A) ar s 0 0 A → p.tables.exec = Jvm.exec → c.code = cc → meth.sig.returnType = ret → c.maxLocals = maxL → s.vm.findClass y.cls = some m.cls → (∀ w ∈ ws, w.before ar s = true) → meth.locks = false → zH D Y ad kd RL M J A s.heap s.heap [] s → lv_has ls maxL (lv_args 0 av) →
      W p l e rm s m ar below meth c s.heap [] 0 0 QE (F0 m 0 ls [])) : zCl_ l y ws rm av D Y ad kd RL M J post := by
  intro sz
  refine Met.ofW (cc := cc) (maxL := maxL) (ret := ret) hy hw ?_
  intro p e s m args below meth c s₁ B hml hv
  obtain ⟨rfl, hsz, hP, hK, hD0, hC, hR⟩ := hv
  subst hsz
  have hl := lv_entry av (n := maxL) hn
  rw [lg_entry_eq]
  exact body p e s m below meth c _ _ _ _ rfl B.exec B.bytes B.returns hml (findClass_of_methodNamed B.named) (atoms_spec (ws := ws) B.pre) B.notSynchronized ⟨hP, hK, hD0.self, va_S.rf, fun q h => Or.inr h, hC, hR⟩ hl
theorem z_metv {y : MethodName} {ws ws' : List Cond} {rm : Room} {maxL : Nat} {ret : Option FieldType} {av : List Value} {post : zM → zL → Prop} (hy : plainName y.cls = true) (hw : ws = Cond.code y cc maxL ret :: ws') (hn : (lg_sl av).length ≤ maxL)
    (body : ∀ (p : Program) (e : Env) (s : State) (m : MethodId) (below : List Frame) (meth : Method) (c : Code) (ls : Array Slot) (A : Nat → Prop) (ar : Array Value) (QE : State → Prop), QE = MQ below (va_Qv (zqv post) (zB D Y ad kd RL) A) ar s 0 0 A → p.tables.exec = Jvm.exec → c.code = cc → meth.sig.returnType = ret → c.maxLocals = maxL → s.vm.findClass y.cls = some m.cls → (∀ w ∈ ws, w.before ar s = true) → meth.locks = false → zH D Y ad kd RL M J A s.heap s.heap [] s → lv_has ls maxL (lv_args 0 av) →
      W p l e rm s m ar below meth c s.heap [] 0 0 QE (F0 m 0 ls [])) : zCv l y ws rm av D Y ad kd RL M J post := by
  intro sz
  refine Met.ofW (cc := cc) (maxL := maxL) (ret := ret) hy hw ?_
  intro p e s m args below meth c s₁ B hml hv
  obtain ⟨rfl, hsz, hP, hK, hD0, hC, hR⟩ := hv
  subst hsz
  have hl := lv_entry av (n := maxL) hn
  rw [lg_entry_eq]
  exact body p e s m below meth c _ _ _ _ rfl B.exec B.bytes B.returns hml (findClass_of_methodNamed B.named) (atoms_spec (ws := ws) B.pre) B.notSynchronized ⟨hP, hK, hD0.self, va_S.rf, fun q h => Or.inr h, hC, hR⟩ hl
theorem z_free (hw : zH D Y ad kd RL M J A H0 H locs s) : ∀ q, va_A (zW Y ad kd RL M J) H.size q → A q := by
  intro q h
  rcases h with ⟨k, e, hk⟩ | h
  · exact hw.2.2.1.2 k _ hk
  · exact hw.2.2.2.2.1 q (Nat.le_trans hw.2.2.2.1.1 h)
theorem z_pre (hw : zH D Y ad kd RL M J A H0 H locs s) {av : List Value} (U : State) (hU : U.heap = H) (hW : s.WarmedH U.vm) : va_Pc av (zP D Y ad kd RL M J H.size) av.toArray U :=
  ⟨rfl, by rw [hU], by rw [hU]; exact hw.1, va_K.moved hW.alike hw.2.1, hw.2.2.1.weaken (fun _ _ _ _ => trivial), hw.2.2.2.2.2⟩
theorem z_iret {v : Int32} {post : Int32 → zM → zL → Prop} {QE : State → Prop} (hQE : QE = MQ below (va_Qi (zqi post) (zB D Y ad kd RL) A) args s cells slots A) (hx : p.tables.exec = Jvm.exec) (hb : c.code = cc) (hr : meth.sig.returnType = some .int) (hlocks : meth.locks = false) (hw : zH D Y ad kd RL M J A s.heap H locs s) (hd : decode cc pc = .ok (.ireturn, 1)) (hq : post v M J) :
    W p l e R s m args below meth c H locs cells slots QE (F0 m pc ls [.int v]) := by
  subst hQE
  exact W.iret hx hb hr (fun t ht hW => ⟨⟨v, (M, J), rfl, hq, by show va_P _ _ _ _; rw [ht]; exact hw.1⟩, hw.2.2.2.1.F ht⟩) hw.2.2.2.1.2.2 hd hlocks
theorem z_zret {v : Int32} {post : Int32 → zM → zL → Prop} {QE : State → Prop} (hQE : QE = MQ below (va_Qi (zqi post) (zB D Y ad kd RL) A) args s cells slots A) (hx : p.tables.exec = Jvm.exec) (hb : c.code = cc) (hr : meth.sig.returnType = some .boolean) (hlocks : meth.locks = false) (hw : zH D Y ad kd RL M J A s.heap H locs s) (hd : decode cc pc = .ok (.ireturn, 1)) (hn : narrow .boolean (.int v) = .int v) (hq : post v M J) :
    W p l e R s m args below meth c H locs cells slots QE (F0 m pc ls [.int v]) := by
  subst hQE
  exact W.zret hx hb hr hn (fun t ht hW => ⟨⟨v, (M, J), rfl, hq, by show va_P _ _ _ _; rw [ht]; exact hw.1⟩, hw.2.2.2.1.F ht⟩) hw.2.2.2.1.2.2 hd hlocks
theorem z_lret {v : Int64} {post : Int64 → zM → zL → Prop} {QE : State → Prop} (hQE : QE = MQ below (va_Ql (zql post) (zB D Y ad kd RL) A) args s cells slots A) (hx : p.tables.exec = Jvm.exec) (hb : c.code = cc) (hr : meth.sig.returnType = some .long) (hlocks : meth.locks = false) (hw : zH D Y ad kd RL M J A s.heap H locs s) (hd : decode cc pc = .ok (.lreturn, 1)) (hq : post v M J) :
    W p l e R s m args below meth c H locs cells slots QE (F0 m pc ls [.long v]) := by
  subst hQE
  exact W.lret hx hb hr (fun t ht hW => ⟨⟨v, (M, J), rfl, hq, by show va_P _ _ _ _; rw [ht]; exact hw.1⟩, hw.2.2.2.1.F ht⟩) hw.2.2.2.1.2.2 hd hlocks
theorem z_vret {post : zM → zL → Prop} {QE : State → Prop} (hQE : QE = MQ below (va_Qv (zqv post) (zB D Y ad kd RL) A) args s cells slots A) (hx : p.tables.exec = Jvm.exec) (hb : c.code = cc) (hr : meth.sig.returnType = none) (hlocks : meth.locks = false) (hw : zH D Y ad kd RL M J A s.heap H locs s) (hd : decode cc pc = .ok (.return_, 1)) (hq : post M J) :
    W p l e R s m args below meth c H locs cells slots QE (F0 m pc ls []) := by
  subst hQE
  exact W.vret hx hb hr (fun t ht hW => ⟨⟨(M, J), rfl, hq, by show va_P _ _ _ _; rw [ht]; exact hw.1⟩, hw.2.2.2.1.F ht⟩) hw.2.2.2.1.2.2 hd hlocks
theorem z_recv {ci : Nat} {q : vw_C} (hw : zH D Y ad kd RL M J A H0 H locs s) (ho : kd o = ci) (hc : ci < 9) (hq : vwCl[ci]? = some q) : ∃ cell : Cell, H[ad o]? = some cell ∧ cell.vm.isStatics = false ∧ s.vm.findClass q.1 = some cell.cls := by
  obtain ⟨k, hk, -⟩ := zW_get (Y := Y) (ad := ad) (kd := kd) (M := M) (J := J) (hw.2.2.2.2.2.2 o (by omega))
  obtain ⟨fs, hf⟩ := z_obj (ad := ad) (kd := kd) (Y := Y) (M := M) (J := J) ho hc
  rw [hf] at hk
  exact va_recv hw.2.1 hw.1 hq hk
theorem z_cvi {y : MethodName} {ws Ts : List Cond} {rm : Room} {As st : List Value} {bytes : ByteArray} {maxL nL n : Nat} {ret : Option FieldType} {C : String} {T : u_T} {N ci : Nat} {post : Int32 → zM → zL → Prop} (S : CallFix p m c cc nL s args Ts own) (hw : zH D Y ad kd RL M J A H0 H locs s) (ho : kd o = ci) (hM : zCi l y ws rm (.ref (ad o) :: As) D Y ad kd RL M J post) (hc : ci < 9) (hq : vwCl[ci]? = some (C, T, N)) (cw : CallW R s args own C index y bytes maxL ret ws rm 0 0 n) (hn : As.length = n) (hsize : ls.size = nL) (hst : st = As.reverse ++ .ref (ad o) :: rest) (hW : (rest.map fun v => v.category).sum ≤ 8) (hdg : decode cc pc = .ok (.invokevirtual index, 3)) (hf : cells ≤ R.cells ∧ slots ≤ R.slots)
    (k : ∀ (r : Int32) (M' : zM) (J' : zL) (H1 : Heap) (locs1 : List Loc), post r M' J' → zH D Y ad kd RL M' J' A H0 H1 locs1 s → W p l e R s m args below meth c H1 locs1 cells slots Q (F0 m (pc + 3) ls (.int r :: rest))) : W p l e R s m args below meth c H locs cells slots Q (F0 m pc ls st) := by
  refine va_calli (va_runV (rest := rest) S (hM H.size) cw ⟨zP_blind, z_recv hw ho hc hq, fun U hU hW => z_pre hw U hU hW⟩ rfl hn hsize hst (lv_room hW) hdg hf) hw.2.2.2.1 (fun q _ h => z_free hw q h) (z_free hw) (fun r u t H1 locs1 ht hvm hp hB hz1 hk1 hS => ?_)
  exact k r u.1 u.2 H1 locs1 hp (hw.next (by have h := hB; unfold zB at h; rw [ht] at h; exact h) hS)
theorem z_csi {y : MethodName} {ws Ts : List Cond} {rm : Room} {As st : List Value} {bytes : ByteArray} {maxL nL n : Nat} {ret : Option FieldType} {post : Int32 → zM → zL → Prop} (S : CallFix p m c cc nL s args Ts own) (hw : zH D Y ad kd RL M J A H0 H locs s) (hM : zCi l y ws rm As D Y ad kd RL M J post) (cw : CallB R s args own index y bytes maxL ret ws rm 0 0 n ∧ (Cond.static y).before args s = true) (hn : As.length = n) (hsize : ls.size = nL) (hst : st = As.reverse ++ rest) (hW : (rest.map fun v => v.category).sum ≤ 8) (hdg : decode cc pc = .ok (.invokestatic index, 3)) (hf : cells ≤ R.cells ∧ slots ≤ R.slots)
    (k : ∀ (r : Int32) (M' : zM) (J' : zL) (H1 : Heap) (locs1 : List Loc), post r M' J' → zH D Y ad kd RL M' J' A H0 H1 locs1 s → W p l e R s m args below meth c H1 locs1 cells slots Q (F0 m (pc + 3) ls (.int r :: rest))) : W p l e R s m args below meth c H locs cells slots Q (F0 m pc ls st) := by
  refine va_calli (va_runS (rest := rest) S (hM H.size) cw ⟨zP_blind, fun U hU hW => z_pre hw U hU hW⟩ rfl hn hsize hst (lv_room hW) hdg hf) hw.2.2.2.1 (fun q _ h => z_free hw q h) (z_free hw) (fun r u t H1 locs1 ht hvm hp hB hz1 hk1 hS => ?_)
  exact k r u.1 u.2 H1 locs1 hp (hw.next (by have h := hB; unfold zB at h; rw [ht] at h; exact h) hS)
theorem z_cvl {y : MethodName} {ws Ts : List Cond} {rm : Room} {As st : List Value} {bytes : ByteArray} {maxL nL n : Nat} {ret : Option FieldType} {C : String} {T : u_T} {N ci : Nat} {post : Int64 → zM → zL → Prop} (S : CallFix p m c cc nL s args Ts own) (hw : zH D Y ad kd RL M J A H0 H locs s) (ho : kd o = ci) (hM : zCl_ l y ws rm (.ref (ad o) :: As) D Y ad kd RL M J post) (hc : ci < 9) (hq : vwCl[ci]? = some (C, T, N)) (cw : CallW R s args own C index y bytes maxL ret ws rm 0 0 n) (hn : As.length = n) (hsize : ls.size = nL) (hst : st = As.reverse ++ .ref (ad o) :: rest) (hW : (rest.map fun v => v.category).sum ≤ 8) (hdg : decode cc pc = .ok (.invokevirtual index, 3)) (hf : cells ≤ R.cells ∧ slots ≤ R.slots)
    (k : ∀ (r : Int64) (M' : zM) (J' : zL) (H1 : Heap) (locs1 : List Loc), post r M' J' → zH D Y ad kd RL M' J' A H0 H1 locs1 s → W p l e R s m args below meth c H1 locs1 cells slots Q (F0 m (pc + 3) ls (.long r :: rest))) : W p l e R s m args below meth c H locs cells slots Q (F0 m pc ls st) := by
  refine va_calll (va_runV (rest := rest) S (hM H.size) cw ⟨zP_blind, z_recv hw ho hc hq, fun U hU hW => z_pre hw U hU hW⟩ rfl hn hsize hst (lv_room hW) hdg hf) hw.2.2.2.1 (fun q _ h => z_free hw q h) (z_free hw) (fun r u t H1 locs1 ht hvm hp hB hz1 hk1 hS => ?_)
  exact k r u.1 u.2 H1 locs1 hp (hw.next (by have h := hB; unfold zB at h; rw [ht] at h; exact h) hS)
theorem z_csl {y : MethodName} {ws Ts : List Cond} {rm : Room} {As st : List Value} {bytes : ByteArray} {maxL nL n : Nat} {ret : Option FieldType} {post : Int64 → zM → zL → Prop} (S : CallFix p m c cc nL s args Ts own) (hw : zH D Y ad kd RL M J A H0 H locs s) (hM : zCl_ l y ws rm As D Y ad kd RL M J post) (cw : CallB R s args own index y bytes maxL ret ws rm 0 0 n ∧ (Cond.static y).before args s = true) (hn : As.length = n) (hsize : ls.size = nL) (hst : st = As.reverse ++ rest) (hW : (rest.map fun v => v.category).sum ≤ 8) (hdg : decode cc pc = .ok (.invokestatic index, 3)) (hf : cells ≤ R.cells ∧ slots ≤ R.slots)
    (k : ∀ (r : Int64) (M' : zM) (J' : zL) (H1 : Heap) (locs1 : List Loc), post r M' J' → zH D Y ad kd RL M' J' A H0 H1 locs1 s → W p l e R s m args below meth c H1 locs1 cells slots Q (F0 m (pc + 3) ls (.long r :: rest))) : W p l e R s m args below meth c H locs cells slots Q (F0 m pc ls st) := by
  refine va_calll (va_runS (rest := rest) S (hM H.size) cw ⟨zP_blind, fun U hU hW => z_pre hw U hU hW⟩ rfl hn hsize hst (lv_room hW) hdg hf) hw.2.2.2.1 (fun q _ h => z_free hw q h) (z_free hw) (fun r u t H1 locs1 ht hvm hp hB hz1 hk1 hS => ?_)
  exact k r u.1 u.2 H1 locs1 hp (hw.next (by have h := hB; unfold zB at h; rw [ht] at h; exact h) hS)
theorem z_cvv {y : MethodName} {ws Ts : List Cond} {rm : Room} {As st : List Value} {bytes : ByteArray} {maxL nL n : Nat} {ret : Option FieldType} {C : String} {T : u_T} {N ci : Nat} {post : zM → zL → Prop} (S : CallFix p m c cc nL s args Ts own) (hw : zH D Y ad kd RL M J A H0 H locs s) (ho : kd o = ci) (hM : zCv l y ws rm (.ref (ad o) :: As) D Y ad kd RL M J post) (hc : ci < 9) (hq : vwCl[ci]? = some (C, T, N)) (cw : CallW R s args own C index y bytes maxL ret ws rm 0 0 n) (hn : As.length = n) (hsize : ls.size = nL) (hst : st = As.reverse ++ .ref (ad o) :: rest) (hW : (rest.map fun v => v.category).sum ≤ 8) (hdg : decode cc pc = .ok (.invokevirtual index, 3)) (hf : cells ≤ R.cells ∧ slots ≤ R.slots)
    (k : ∀ (M' : zM) (J' : zL) (H1 : Heap) (locs1 : List Loc), post M' J' → zH D Y ad kd RL M' J' A H0 H1 locs1 s → W p l e R s m args below meth c H1 locs1 cells slots Q (F0 m (pc + 3) ls rest)) : W p l e R s m args below meth c H locs cells slots Q (F0 m pc ls st) := by
  refine va_callv (va_runV (rest := rest) S (hM H.size) cw ⟨zP_blind, z_recv hw ho hc hq, fun U hU hW => z_pre hw U hU hW⟩ rfl hn hsize hst (lv_room hW) hdg hf) hw.2.2.2.1 (fun q _ h => z_free hw q h) (z_free hw) (fun u t H1 locs1 ht hvm hp hB hz1 hk1 hS => ?_)
  exact k u.1 u.2 H1 locs1 hp (hw.next (by have h := hB; unfold zB at h; rw [ht] at h; exact h) hS)
theorem z_csv {y : MethodName} {ws Ts : List Cond} {rm : Room} {As st : List Value} {bytes : ByteArray} {maxL nL n : Nat} {ret : Option FieldType} {post : zM → zL → Prop} (S : CallFix p m c cc nL s args Ts own) (hw : zH D Y ad kd RL M J A H0 H locs s) (hM : zCv l y ws rm As D Y ad kd RL M J post) (cw : CallB R s args own index y bytes maxL ret ws rm 0 0 n ∧ (Cond.static y).before args s = true) (hn : As.length = n) (hsize : ls.size = nL) (hst : st = As.reverse ++ rest) (hW : (rest.map fun v => v.category).sum ≤ 8) (hdg : decode cc pc = .ok (.invokestatic index, 3)) (hf : cells ≤ R.cells ∧ slots ≤ R.slots)
    (k : ∀ (M' : zM) (J' : zL) (H1 : Heap) (locs1 : List Loc), post M' J' → zH D Y ad kd RL M' J' A H0 H1 locs1 s → W p l e R s m args below meth c H1 locs1 cells slots Q (F0 m (pc + 3) ls rest)) : W p l e R s m args below meth c H locs cells slots Q (F0 m pc ls st) := by
  refine va_callv (va_runS (rest := rest) S (hM H.size) cw ⟨zP_blind, fun U hU hW => z_pre hw U hU hW⟩ rfl hn hsize hst (lv_room hW) hdg hf) hw.2.2.2.1 (fun q _ h => z_free hw q h) (z_free hw) (fun u t H1 locs1 ht hvm hp hB hz1 hk1 hS => ?_)
  exact k u.1 u.2 H1 locs1 hp (hw.next (by have h := hB; unfold zB at h; rw [ht] at h; exact h) hS)
theorem z_arr {n : Nat} (ho : kd o = 1000 + n) : zc ad kd Y M J o = .inl (Y.1, n, .inl (M o)) := by
  unfold zc zv
  rw [ho]
  simp only [show ¬ (1000 + n = 0) by omega, show ¬ (1000 + n = 1) by omega, show ¬ (1000 + n = 2) by omega, show ¬ (1000 + n = 3) by omega, show ¬ (1000 + n = 4) by omega, show ¬ (1000 + n = 5) by omega, show ¬ (1000 + n = 6) by omega, show ¬ (1000 + n = 7) by omega, show ¬ (1000 + n = 8) by omega, show ¬ (1000 + n = 10) by omega, show ¬ (1000 + n = 11) by omega, show ¬ (1000 + n = 12) by omega, show ¬ (1000 + n = 13) by omega, show ¬ (1000 + n = 14) by omega, if_false, Nat.add_sub_cancel_left]
theorem z_iald {n : Nat} {i : Int32} (hx : p.tables.exec = Jvm.exec) (hb : c.code = cc) (hw : zH D Y ad kd RL M J A H0 H locs s) (ho : kd o = 1000 + n) (hin : vp_in i n) (hd : decode cc pc = .ok (.iaload, 1)) (k : W p l e R s m args below meth c H locs cells slots Q (F0 m (pc + 1) ls (.int (M o i.toNatClampNeg) :: rest))) : W p l e R s m args below meth c H locs cells slots Q (F0 m pc ls (.int i :: .ref (ad o) :: rest)) := by
  obtain ⟨q0, hq, -⟩ := zW_get (Y := Y) (ad := ad) (kd := kd) (M := M) (J := J) (hw.2.2.2.2.2.2 o (by omega))
  rw [z_arr ho] at hq
  exact va_iald hx hb hw.2.1 hw.1 q0 0 hq rfl hin hd k
theorem z_iast {n : Nat} {i x : Int32} (hx : p.tables.exec = Jvm.exec) (hb : c.code = cc) (hw : zH D Y ad kd RL M J A H0 H locs s) (ho : kd o = 1000 + n) (hin : vp_in i n) (hd : decode cc pc = .ok (.iastore, 1)) (k : ∀ (H1 : Heap) (locs1 : List Loc), zH D Y ad kd RL (va_up M o (upd (M o) i.toNatClampNeg x)) J A H0 H1 locs1 s → W p l e R s m args below meth c H1 locs1 cells slots Q (F0 m (pc + 1) ls rest)) : W p l e R s m args below meth c H locs cells slots Q (F0 m pc ls (.int x :: .int i :: .ref (ad o) :: rest)) := by
  obtain ⟨q0, hq, hk⟩ := zW_get (Y := Y) (ad := ad) (kd := kd) (M := M) (J := J) (hw.2.2.2.2.2.2 o (by omega))
  rw [z_arr ho] at hq
  have hset := zW_set (M' := va_up M o (upd (M o) i.toNatClampNeg x)) (J' := J) hw.2.2.1 hk (e := .inl (Y.1, n, .inl (upd (M o) i.toNatClampNeg x))) (by rw [z_arr ho, va_up_self]) (fun x hx => zc_other (va_up_ne _ _ hx) rfl)
  refine va_iast hx hb hw.2.1 hw.1 hw.2.2.1 hw.2.2.2.1 q0 0 hq rfl hin hd (fun H1 locs1 hP hD hS => ?_)
  rw [hset] at hP
  exact k H1 locs1 (hw.next hP hS)
theorem z_alen {n : Nat} {v : Int32} (hx : p.tables.exec = Jvm.exec) (hb : c.code = cc) (hw : zH D Y ad kd RL M J A H0 H locs s) (ho : kd o = 1000 + n) (hv : Int32.ofNat n = v) (hd : decode cc pc = .ok (.arraylength, 1)) (k : W p l e R s m args below meth c H locs cells slots Q (F0 m (pc + 1) ls (.int v :: rest))) : W p l e R s m args below meth c H locs cells slots Q (F0 m pc ls (.ref (ad o) :: rest)) := by
  obtain ⟨q0, hq, -⟩ := zW_get (Y := Y) (ad := ad) (kd := kd) (M := M) (J := J) (hw.2.2.2.2.2.2 o (by omega))
  rw [z_arr ho] at hq
  exact va_alen hx hb hw.2.1 hw.1 q0 0 hq (ty := .int) rfl hv hd k
theorem z_llen {v : Int32} (hx : p.tables.exec = Jvm.exec) (hb : c.code = cc) (hw : zH D Y ad kd RL M J A H0 H locs s) (ho : kd o = 10) (hv : (8 : Int32) = v) (hd : decode cc pc = .ok (.arraylength, 1)) (k : W p l e R s m args below meth c H locs cells slots Q (F0 m (pc + 1) ls (.int v :: rest))) : W p l e R s m args below meth c H locs cells slots Q (F0 m pc ls (.ref (ad o) :: rest)) := by
  obtain ⟨q0, hq, -⟩ := zW_get (Y := Y) (ad := ad) (kd := kd) (M := M) (J := J) (hw.2.2.2.2.2.2 o (by omega))
  rw [show zc ad kd Y M J o = .inl (Y.2.1, 8, .inr (.inl (J o))) by unfold zc zv; rw [ho]; rfl] at hq
  exact va_alen hx hb hw.2.1 hw.1 q0 1 hq (ty := .long) rfl hv hd k
theorem z_lald {i : Int32} (hx : p.tables.exec = Jvm.exec) (hb : c.code = cc) (hw : zH D Y ad kd RL M J A H0 H locs s) (ho : kd o = 10) (hin : vp_in i 8) (hd : decode cc pc = .ok (.laload, 1)) (k : W p l e R s m args below meth c H locs cells slots Q (F0 m (pc + 1) ls (.long (J o i.toNatClampNeg) :: rest))) : W p l e R s m args below meth c H locs cells slots Q (F0 m pc ls (.int i :: .ref (ad o) :: rest)) := by
  obtain ⟨q0, hq, -⟩ := zW_get (Y := Y) (ad := ad) (kd := kd) (M := M) (J := J) (hw.2.2.2.2.2.2 o (by omega))
  rw [show zc ad kd Y M J o = .inl (Y.2.1, 8, .inr (.inl (J o))) by unfold zc zv; rw [ho]; rfl] at hq
  exact va_lald hx hb hw.2.1 hw.1 q0 1 hq rfl hin hd k
theorem z_last {i : Int32} {x : Int64} (hx : p.tables.exec = Jvm.exec) (hb : c.code = cc) (hw : zH D Y ad kd RL M J A H0 H locs s) (ho : kd o = 10) (hin : vp_in i 8) (hd : decode cc pc = .ok (.lastore, 1)) (k : ∀ (H1 : Heap) (locs1 : List Loc), zH D Y ad kd RL M (va_up J o (vp_updL (J o) i.toNatClampNeg x)) A H0 H1 locs1 s → W p l e R s m args below meth c H1 locs1 cells slots Q (F0 m (pc + 1) ls rest)) : W p l e R s m args below meth c H locs cells slots Q (F0 m pc ls (.long x :: .int i :: .ref (ad o) :: rest)) := by
  obtain ⟨q0, hq, hk⟩ := zW_get (Y := Y) (ad := ad) (kd := kd) (M := M) (J := J) (hw.2.2.2.2.2.2 o (by omega))
  rw [show zc ad kd Y M J o = .inl (Y.2.1, 8, .inr (.inl (J o))) by unfold zc zv; rw [ho]; rfl] at hq
  have hset := zW_set (M' := M) (J' := va_up J o (vp_updL (J o) i.toNatClampNeg x)) hw.2.2.1 hk (e := .inl (Y.2.1, 8, .inr (.inl (vp_updL (J o) i.toNatClampNeg x)))) (by unfold zc zv; rw [ho, va_up_self]; rfl) (fun x hx => zc_other rfl (va_up_ne _ _ hx))
  refine va_last hx hb hw.2.1 hw.1 hw.2.2.1 hw.2.2.2.1 q0 1 hq rfl hin hd (fun H1 locs1 hP hD hS => ?_)
  rw [hset] at hP
  exact k H1 locs1 (hw.next hP hS)
theorem z_zald {i : Int32} (hx : p.tables.exec = Jvm.exec) (hb : c.code = cc) (hw : zH D Y ad kd RL M J A H0 H locs s) (ho : kd o = 11) (hin : vp_in i 2) (hd : decode cc pc = .ok (.baload, 1)) (k : W p l e R s m args below meth c H locs cells slots Q (F0 m (pc + 1) ls (.int (M o i.toNatClampNeg) :: rest))) : W p l e R s m args below meth c H locs cells slots Q (F0 m pc ls (.int i :: .ref (ad o) :: rest)) := by
  obtain ⟨q0, hq, -⟩ := zW_get (Y := Y) (ad := ad) (kd := kd) (M := M) (J := J) (hw.2.2.2.2.2.2 o (by omega))
  rw [show zc ad kd Y M J o = .inl (Y.2.2.1, 2, .inl (M o)) by unfold zc zv; rw [ho]; rfl] at hq
  exact va_zald hx hb hw.2.1 hw.1 q0 2 hq rfl hin hd k
theorem z_zast {i x : Int32} (hx : p.tables.exec = Jvm.exec) (hb : c.code = cc) (hw : zH D Y ad kd RL M J A H0 H locs s) (ho : kd o = 11) (hin : vp_in i 2) (hd : decode cc pc = .ok (.bastore, 1)) (k : ∀ (H1 : Heap) (locs1 : List Loc), zH D Y ad kd RL (va_up M o (upd (M o) i.toNatClampNeg (vp_nar .boolean x))) J A H0 H1 locs1 s → W p l e R s m args below meth c H1 locs1 cells slots Q (F0 m (pc + 1) ls rest)) : W p l e R s m args below meth c H locs cells slots Q (F0 m pc ls (.int x :: .int i :: .ref (ad o) :: rest)) := by
  obtain ⟨q0, hq, hk⟩ := zW_get (Y := Y) (ad := ad) (kd := kd) (M := M) (J := J) (hw.2.2.2.2.2.2 o (by omega))
  rw [show zc ad kd Y M J o = .inl (Y.2.2.1, 2, .inl (M o)) by unfold zc zv; rw [ho]; rfl] at hq
  have hset := zW_set (M' := va_up M o (upd (M o) i.toNatClampNeg (vp_nar .boolean x))) (J' := J) hw.2.2.1 hk (e := .inl (Y.2.2.1, 2, .inl (upd (M o) i.toNatClampNeg (vp_nar .boolean x)))) (by unfold zc zv; rw [ho, va_up_self]; rfl) (fun x hx => zc_other (va_up_ne _ _ hx) rfl)
  refine va_zast hx hb hw.2.1 hw.1 hw.2.2.1 hw.2.2.2.1 q0 2 hq rfl hin hd (fun H1 locs1 hP hD hS => ?_)
  rw [hset] at hP
  exact k H1 locs1 (hw.next hP hS)
theorem z_ald12 {i : Int32} (hx : p.tables.exec = Jvm.exec) (hb : c.code = cc) (hw : zH D Y ad kd RL M J A H0 H locs s) (ho : kd o = 12) (hin : vp_in i 2) (hd : decode cc pc = .ok (.aaload, 1)) (k : W p l e R s m args below meth c H locs cells slots Q (F0 m (pc + 1) ls (.ref (ad (o + 1 + 5 * i.toNatClampNeg)) :: rest))) : W p l e R s m args below meth c H locs cells slots Q (F0 m pc ls (.int i :: .ref (ad o) :: rest)) := by
  obtain ⟨q0, hq, -⟩ := zW_get (Y := Y) (ad := ad) (kd := kd) (M := M) (J := J) (hw.2.2.2.2.2.2 o (by omega))
  rw [show zc ad kd Y M J o = .inl (Y.2.2.2.1, 2, .inr (.inr (.inr (.inr (fun i => some (ad (o + 1 + 5 * i))))))) by unfold zc zv; rw [ho]; rfl] at hq
  exact va_aldq hx hb hw.2.1 hw.1 q0 3 hq rfl hin hd k
theorem z_ald13 {i : Int32} (hx : p.tables.exec = Jvm.exec) (hb : c.code = cc) (hw : zH D Y ad kd RL M J A H0 H locs s) (ho : kd o = 13) (hin : vp_in i 8) (hd : decode cc pc = .ok (.aaload, 1)) (k : W p l e R s m args below meth c H locs cells slots Q (F0 m (pc + 1) ls (.ref (ad (o + 1 + 2 * i.toNatClampNeg)) :: rest))) : W p l e R s m args below meth c H locs cells slots Q (F0 m pc ls (.int i :: .ref (ad o) :: rest)) := by
  obtain ⟨q0, hq, -⟩ := zW_get (Y := Y) (ad := ad) (kd := kd) (M := M) (J := J) (hw.2.2.2.2.2.2 o (by omega))
  rw [show zc ad kd Y M J o = .inl (Y.2.2.2.2, 8, .inr (.inr (.inr (.inr (fun i => some (ad (o + 1 + 2 * i))))))) by unfold zc zv; rw [ho]; rfl] at hq
  exact va_aldq hx hb hw.2.1 hw.1 q0 4 hq rfl hin hd k
theorem z_ald14 {i : Int32} (hx : p.tables.exec = Jvm.exec) (hb : c.code = cc) (hw : zH D Y ad kd RL M J A H0 H locs s) (ho : kd o = 14) (hin : vp_in i 24) (hd : decode cc pc = .ok (.aaload, 1)) (k : W p l e R s m args below meth c H locs cells slots Q (F0 m (pc + 1) ls (va_rf (if kd (o + 1 + 5 * i.toNatClampNeg) = 2 then some (ad (o + 1 + 5 * i.toNatClampNeg)) else none) :: rest))) : W p l e R s m args below meth c H locs cells slots Q (F0 m pc ls (.int i :: .ref (ad o) :: rest)) := by
  obtain ⟨q0, hq, -⟩ := zW_get (Y := Y) (ad := ad) (kd := kd) (M := M) (J := J) (hw.2.2.2.2.2.2 o (by omega))
  rw [show zc ad kd Y M J o = .inl (Y.2.2.2.1, 24, .inr (.inr (.inr (.inr (fun i => if kd (o + 1 + 5 * i) = 2 then some (ad (o + 1 + 5 * i)) else none))))) by unfold zc zv; rw [ho]; rfl] at hq
  exact va_aldq hx hb hw.2.1 hw.1 q0 3 hq rfl hin hd k
theorem z_is_0 (ho : kd o = 0) : zc ad kd Y M J o = .inr (0, [.ref (ad (o + 1)), .int (M o 0)]) := by unfold zc zv; rw [ho]; rfl
theorem zg0_trace (hx : p.tables.exec = Jvm.exec) (hb : c.code = cc) (hts : ∀ w ∈ wsX00, w.before args s = true) (hown : s.vm.findClass own = some m.cls) (hw : zH D Y ad kd RL M J A H0 H locs s) (ho : kd o = 0) (hlink : (Cond.fieldLink own index "SlewRails$Asks" "trace" "[I").before args s = true) (hd : decode cc pc = .ok (.getfield index, 3)) (k : W p l e R s m args below meth c H locs cells slots Q (F0 m (pc + 3) ls (.ref (ad (o + 1)) :: rest))) : W p l e R s m args below meth c H locs cells slots Q (F0 m pc ls (.ref (ad o) :: rest)) := by
  obtain ⟨q0, hq, -⟩ := zW_get (Y := Y) (ad := ad) (kd := kd) (M := M) (J := J) (hw.2.2.2.2.2.2 o (by omega))
  rw [z_is_0 ho] at hq
  exact va_get (ci := 0) (C := RX0) (T := TX0) (N := 2) hx hb hts (fun _ h => h) hown hw.2.1 hw.1 q0 hq rfl 0 (by decide) hlink (fun _ h => h) rfl hd k
theorem zg0_left (hx : p.tables.exec = Jvm.exec) (hb : c.code = cc) (hts : ∀ w ∈ wsX00, w.before args s = true) (hown : s.vm.findClass own = some m.cls) (hw : zH D Y ad kd RL M J A H0 H locs s) (ho : kd o = 0) (hlink : (Cond.fieldLink own index "SlewRails$Asks" "left" "I").before args s = true) (hd : decode cc pc = .ok (.getfield index, 3)) (k : W p l e R s m args below meth c H locs cells slots Q (F0 m (pc + 3) ls (.int (M o 0) :: rest))) : W p l e R s m args below meth c H locs cells slots Q (F0 m pc ls (.ref (ad o) :: rest)) := by
  obtain ⟨q0, hq, -⟩ := zW_get (Y := Y) (ad := ad) (kd := kd) (M := M) (J := J) (hw.2.2.2.2.2.2 o (by omega))
  rw [z_is_0 ho] at hq
  exact va_get (ci := 0) (C := RX0) (T := TX0) (N := 2) hx hb hts (fun _ h => h) hown hw.2.1 hw.1 q0 hq rfl 1 (by decide) hlink (fun _ h => h) rfl hd k
theorem zp0_left {v : Int32} (hx : p.tables.exec = Jvm.exec) (hb : c.code = cc) (hts : ∀ w ∈ wsX00, w.before args s = true) (hown : s.vm.findClass own = some m.cls) (hw : zH D Y ad kd RL M J A H0 H locs s) (ho : kd o = 0) (hlink : (Cond.fieldLink own index "SlewRails$Asks" "left" "I").before args s = true) (hd : decode cc pc = .ok (.putfield index, 3)) (k : ∀ (H1 : Heap) (locs1 : List Loc), zH D Y ad kd RL (va_up M o (upd (M o) 0 v)) J A H0 H1 locs1 s → W p l e R s m args below meth c H1 locs1 cells slots Q (F0 m (pc + 3) ls rest)) : W p l e R s m args below meth c H locs cells slots Q (F0 m pc ls (.int v :: .ref (ad o) :: rest)) := by
  obtain ⟨q0, hq, hk⟩ := zW_get (Y := Y) (ad := ad) (kd := kd) (M := M) (J := J) (hw.2.2.2.2.2.2 o (by omega))
  rw [z_is_0 ho] at hq
  refine va_put (ci := 0) (C := RX0) (T := TX0) (N := 2) (ty := .int) (v := .int v) hx hb hts (fun _ h => h) tyX0 tyX0_ok nmX0 hown hw.2.1 hw.1 hw.2.2.1 hw.2.2.2.1 q0 hq rfl 1 (by decide) hlink (fun _ h => h) rfl (by decide +kernel) (vp_nar_int v) rfl (by simp) hd (fun H1 locs1 hP hD hS => ?_)
  refine k H1 locs1 (hw.next ?_ hS)
  rw [← zW_set (M' := (va_up M o (upd (M o) 0 v))) (J' := J) hw.2.2.1 hk (z_is_0 ho) (fun x hx => zc_other (va_up_ne _ _ hx) (rfl))]
  have e : .inr (0, [.ref (ad (o + 1)), .int ((va_up M o (upd (M o) 0 v)) o 0)]) = (.inr (0, List.set [.ref (ad (o + 1)), .int (M o 0)] 1 (.int v)) : va_E) := by simp [va_up_self, List.set, upd, vp_updL]
  rw [e]; exact hP
theorem z_is_1 (ho : kd o = 1) : zc ad kd Y M J o = .inr (1, [.ref (ad (o + 1)), .int (M o 0), .int (M o 1)]) := by unfold zc zv; rw [ho]; rfl
theorem zg1_before (hx : p.tables.exec = Jvm.exec) (hb : c.code = cc) (hts : ∀ w ∈ wsX10, w.before args s = true) (hown : s.vm.findClass own = some m.cls) (hw : zH D Y ad kd RL M J A H0 H locs s) (ho : kd o = 1) (hlink : (Cond.fieldLink own index "SlewRails$History" "before" "[LSlewRails$Rail;").before args s = true) (hd : decode cc pc = .ok (.getfield index, 3)) (k : W p l e R s m args below meth c H locs cells slots Q (F0 m (pc + 3) ls (.ref (ad (o + 1)) :: rest))) : W p l e R s m args below meth c H locs cells slots Q (F0 m pc ls (.ref (ad o) :: rest)) := by
  obtain ⟨q0, hq, -⟩ := zW_get (Y := Y) (ad := ad) (kd := kd) (M := M) (J := J) (hw.2.2.2.2.2.2 o (by omega))
  rw [z_is_1 ho] at hq
  exact va_get (ci := 1) (C := RX1) (T := TX1) (N := 3) hx hb hts (fun _ h => h) hown hw.2.1 hw.1 q0 hq rfl 0 (by decide) hlink (fun _ h => h) rfl hd k
theorem zg1_held (hx : p.tables.exec = Jvm.exec) (hb : c.code = cc) (hts : ∀ w ∈ wsX10, w.before args s = true) (hown : s.vm.findClass own = some m.cls) (hw : zH D Y ad kd RL M J A H0 H locs s) (ho : kd o = 1) (hlink : (Cond.fieldLink own index "SlewRails$History" "held" "I").before args s = true) (hd : decode cc pc = .ok (.getfield index, 3)) (k : W p l e R s m args below meth c H locs cells slots Q (F0 m (pc + 3) ls (.int (M o 0) :: rest))) : W p l e R s m args below meth c H locs cells slots Q (F0 m pc ls (.ref (ad o) :: rest)) := by
  obtain ⟨q0, hq, -⟩ := zW_get (Y := Y) (ad := ad) (kd := kd) (M := M) (J := J) (hw.2.2.2.2.2.2 o (by omega))
  rw [z_is_1 ho] at hq
  exact va_get (ci := 1) (C := RX1) (T := TX1) (N := 3) hx hb hts (fun _ h => h) hown hw.2.1 hw.1 q0 hq rfl 1 (by decide) hlink (fun _ h => h) rfl hd k
theorem zp1_held {v : Int32} (hx : p.tables.exec = Jvm.exec) (hb : c.code = cc) (hts : ∀ w ∈ wsX10, w.before args s = true) (hown : s.vm.findClass own = some m.cls) (hw : zH D Y ad kd RL M J A H0 H locs s) (ho : kd o = 1) (hlink : (Cond.fieldLink own index "SlewRails$History" "held" "I").before args s = true) (hd : decode cc pc = .ok (.putfield index, 3)) (k : ∀ (H1 : Heap) (locs1 : List Loc), zH D Y ad kd RL (va_up M o (upd (M o) 0 v)) J A H0 H1 locs1 s → W p l e R s m args below meth c H1 locs1 cells slots Q (F0 m (pc + 3) ls rest)) : W p l e R s m args below meth c H locs cells slots Q (F0 m pc ls (.int v :: .ref (ad o) :: rest)) := by
  obtain ⟨q0, hq, hk⟩ := zW_get (Y := Y) (ad := ad) (kd := kd) (M := M) (J := J) (hw.2.2.2.2.2.2 o (by omega))
  rw [z_is_1 ho] at hq
  refine va_put (ci := 1) (C := RX1) (T := TX1) (N := 3) (ty := .int) (v := .int v) hx hb hts (fun _ h => h) tyX1 tyX1_ok nmX1 hown hw.2.1 hw.1 hw.2.2.1 hw.2.2.2.1 q0 hq rfl 1 (by decide) hlink (fun _ h => h) rfl (by decide +kernel) (vp_nar_int v) rfl (by simp) hd (fun H1 locs1 hP hD hS => ?_)
  refine k H1 locs1 (hw.next ?_ hS)
  rw [← zW_set (M' := (va_up M o (upd (M o) 0 v))) (J' := J) hw.2.2.1 hk (z_is_1 ho) (fun x hx => zc_other (va_up_ne _ _ hx) (rfl))]
  have e : .inr (1, [.ref (ad (o + 1)), .int ((va_up M o (upd (M o) 0 v)) o 0), .int ((va_up M o (upd (M o) 0 v)) o 1)]) = (.inr (1, List.set [.ref (ad (o + 1)), .int (M o 0), .int (M o 1)] 1 (.int v)) : va_E) := by simp [va_up_self, List.set, upd, vp_updL]
  rw [e]; exact hP
theorem zg1_next (hx : p.tables.exec = Jvm.exec) (hb : c.code = cc) (hts : ∀ w ∈ wsX10, w.before args s = true) (hown : s.vm.findClass own = some m.cls) (hw : zH D Y ad kd RL M J A H0 H locs s) (ho : kd o = 1) (hlink : (Cond.fieldLink own index "SlewRails$History" "next" "I").before args s = true) (hd : decode cc pc = .ok (.getfield index, 3)) (k : W p l e R s m args below meth c H locs cells slots Q (F0 m (pc + 3) ls (.int (M o 1) :: rest))) : W p l e R s m args below meth c H locs cells slots Q (F0 m pc ls (.ref (ad o) :: rest)) := by
  obtain ⟨q0, hq, -⟩ := zW_get (Y := Y) (ad := ad) (kd := kd) (M := M) (J := J) (hw.2.2.2.2.2.2 o (by omega))
  rw [z_is_1 ho] at hq
  exact va_get (ci := 1) (C := RX1) (T := TX1) (N := 3) hx hb hts (fun _ h => h) hown hw.2.1 hw.1 q0 hq rfl 2 (by decide) hlink (fun _ h => h) rfl hd k
theorem zp1_next {v : Int32} (hx : p.tables.exec = Jvm.exec) (hb : c.code = cc) (hts : ∀ w ∈ wsX10, w.before args s = true) (hown : s.vm.findClass own = some m.cls) (hw : zH D Y ad kd RL M J A H0 H locs s) (ho : kd o = 1) (hlink : (Cond.fieldLink own index "SlewRails$History" "next" "I").before args s = true) (hd : decode cc pc = .ok (.putfield index, 3)) (k : ∀ (H1 : Heap) (locs1 : List Loc), zH D Y ad kd RL (va_up M o (upd (M o) 1 v)) J A H0 H1 locs1 s → W p l e R s m args below meth c H1 locs1 cells slots Q (F0 m (pc + 3) ls rest)) : W p l e R s m args below meth c H locs cells slots Q (F0 m pc ls (.int v :: .ref (ad o) :: rest)) := by
  obtain ⟨q0, hq, hk⟩ := zW_get (Y := Y) (ad := ad) (kd := kd) (M := M) (J := J) (hw.2.2.2.2.2.2 o (by omega))
  rw [z_is_1 ho] at hq
  refine va_put (ci := 1) (C := RX1) (T := TX1) (N := 3) (ty := .int) (v := .int v) hx hb hts (fun _ h => h) tyX1 tyX1_ok nmX1 hown hw.2.1 hw.1 hw.2.2.1 hw.2.2.2.1 q0 hq rfl 2 (by decide) hlink (fun _ h => h) rfl (by decide +kernel) (vp_nar_int v) rfl (by simp) hd (fun H1 locs1 hP hD hS => ?_)
  refine k H1 locs1 (hw.next ?_ hS)
  rw [← zW_set (M' := (va_up M o (upd (M o) 1 v))) (J' := J) hw.2.2.1 hk (z_is_1 ho) (fun x hx => zc_other (va_up_ne _ _ hx) (rfl))]
  have e : .inr (1, [.ref (ad (o + 1)), .int ((va_up M o (upd (M o) 1 v)) o 0), .int ((va_up M o (upd (M o) 1 v)) o 1)]) = (.inr (1, List.set [.ref (ad (o + 1)), .int (M o 0), .int (M o 1)] 2 (.int v)) : va_E) := by simp [va_up_self, List.set, upd, vp_updL]
  rw [e]; exact hP
theorem z_is_2 (ho : kd o = 2) : zc ad kd Y M J o = .inr (2, [.int (M o 0), .int (M o 1), .ref (ad (o + 1)), .ref (ad (o + 2)), .ref (ad (o + 3)), .ref (ad (o + 4))]) := by unfold zc zv; rw [ho]; rfl
theorem zg2_pegs (hx : p.tables.exec = Jvm.exec) (hb : c.code = cc) (hts : ∀ w ∈ wsX20, w.before args s = true) (hown : s.vm.findClass own = some m.cls) (hw : zH D Y ad kd RL M J A H0 H locs s) (ho : kd o = 2) (hlink : (Cond.fieldLink own index "SlewRails$Rail" "pegs" "I").before args s = true) (hd : decode cc pc = .ok (.getfield index, 3)) (k : W p l e R s m args below meth c H locs cells slots Q (F0 m (pc + 3) ls (.int (M o 0) :: rest))) : W p l e R s m args below meth c H locs cells slots Q (F0 m pc ls (.ref (ad o) :: rest)) := by
  obtain ⟨q0, hq, -⟩ := zW_get (Y := Y) (ad := ad) (kd := kd) (M := M) (J := J) (hw.2.2.2.2.2.2 o (by omega))
  rw [z_is_2 ho] at hq
  exact va_get (ci := 2) (C := RX2) (T := TX2) (N := 6) hx hb hts (fun _ h => h) hown hw.2.1 hw.1 q0 hq rfl 0 (by decide) hlink (fun _ h => h) rfl hd k
theorem zp2_pegs {v : Int32} (hx : p.tables.exec = Jvm.exec) (hb : c.code = cc) (hts : ∀ w ∈ wsX20, w.before args s = true) (hown : s.vm.findClass own = some m.cls) (hw : zH D Y ad kd RL M J A H0 H locs s) (ho : kd o = 2) (hlink : (Cond.fieldLink own index "SlewRails$Rail" "pegs" "I").before args s = true) (hd : decode cc pc = .ok (.putfield index, 3)) (k : ∀ (H1 : Heap) (locs1 : List Loc), zH D Y ad kd RL (va_up M o (upd (M o) 0 v)) J A H0 H1 locs1 s → W p l e R s m args below meth c H1 locs1 cells slots Q (F0 m (pc + 3) ls rest)) : W p l e R s m args below meth c H locs cells slots Q (F0 m pc ls (.int v :: .ref (ad o) :: rest)) := by
  obtain ⟨q0, hq, hk⟩ := zW_get (Y := Y) (ad := ad) (kd := kd) (M := M) (J := J) (hw.2.2.2.2.2.2 o (by omega))
  rw [z_is_2 ho] at hq
  refine va_put (ci := 2) (C := RX2) (T := TX2) (N := 6) (ty := .int) (v := .int v) hx hb hts (fun _ h => h) tyX2 tyX2_ok nmX2 hown hw.2.1 hw.1 hw.2.2.1 hw.2.2.2.1 q0 hq rfl 0 (by decide) hlink (fun _ h => h) rfl (by decide +kernel) (vp_nar_int v) rfl (by simp) hd (fun H1 locs1 hP hD hS => ?_)
  refine k H1 locs1 (hw.next ?_ hS)
  rw [← zW_set (M' := (va_up M o (upd (M o) 0 v))) (J' := J) hw.2.2.1 hk (z_is_2 ho) (fun x hx => zc_other (va_up_ne _ _ hx) (rfl))]
  have e : .inr (2, [.int ((va_up M o (upd (M o) 0 v)) o 0), .int ((va_up M o (upd (M o) 0 v)) o 1), .ref (ad (o + 1)), .ref (ad (o + 2)), .ref (ad (o + 3)), .ref (ad (o + 4))]) = (.inr (2, List.set [.int (M o 0), .int (M o 1), .ref (ad (o + 1)), .ref (ad (o + 2)), .ref (ad (o + 3)), .ref (ad (o + 4))] 0 (.int v)) : va_E) := by simp [va_up_self, List.set, upd, vp_updL]
  rw [e]; exact hP
theorem zg2_worked (hx : p.tables.exec = Jvm.exec) (hb : c.code = cc) (hts : ∀ w ∈ wsX20, w.before args s = true) (hown : s.vm.findClass own = some m.cls) (hw : zH D Y ad kd RL M J A H0 H locs s) (ho : kd o = 2) (hlink : (Cond.fieldLink own index "SlewRails$Rail" "worked" "I").before args s = true) (hd : decode cc pc = .ok (.getfield index, 3)) (k : W p l e R s m args below meth c H locs cells slots Q (F0 m (pc + 3) ls (.int (M o 1) :: rest))) : W p l e R s m args below meth c H locs cells slots Q (F0 m pc ls (.ref (ad o) :: rest)) := by
  obtain ⟨q0, hq, -⟩ := zW_get (Y := Y) (ad := ad) (kd := kd) (M := M) (J := J) (hw.2.2.2.2.2.2 o (by omega))
  rw [z_is_2 ho] at hq
  exact va_get (ci := 2) (C := RX2) (T := TX2) (N := 6) hx hb hts (fun _ h => h) hown hw.2.1 hw.1 q0 hq rfl 1 (by decide) hlink (fun _ h => h) rfl hd k
theorem zp2_worked {v : Int32} (hx : p.tables.exec = Jvm.exec) (hb : c.code = cc) (hts : ∀ w ∈ wsX20, w.before args s = true) (hown : s.vm.findClass own = some m.cls) (hw : zH D Y ad kd RL M J A H0 H locs s) (ho : kd o = 2) (hlink : (Cond.fieldLink own index "SlewRails$Rail" "worked" "I").before args s = true) (hd : decode cc pc = .ok (.putfield index, 3)) (k : ∀ (H1 : Heap) (locs1 : List Loc), zH D Y ad kd RL (va_up M o (upd (M o) 1 v)) J A H0 H1 locs1 s → W p l e R s m args below meth c H1 locs1 cells slots Q (F0 m (pc + 3) ls rest)) : W p l e R s m args below meth c H locs cells slots Q (F0 m pc ls (.int v :: .ref (ad o) :: rest)) := by
  obtain ⟨q0, hq, hk⟩ := zW_get (Y := Y) (ad := ad) (kd := kd) (M := M) (J := J) (hw.2.2.2.2.2.2 o (by omega))
  rw [z_is_2 ho] at hq
  refine va_put (ci := 2) (C := RX2) (T := TX2) (N := 6) (ty := .int) (v := .int v) hx hb hts (fun _ h => h) tyX2 tyX2_ok nmX2 hown hw.2.1 hw.1 hw.2.2.1 hw.2.2.2.1 q0 hq rfl 1 (by decide) hlink (fun _ h => h) rfl (by decide +kernel) (vp_nar_int v) rfl (by simp) hd (fun H1 locs1 hP hD hS => ?_)
  refine k H1 locs1 (hw.next ?_ hS)
  rw [← zW_set (M' := (va_up M o (upd (M o) 1 v))) (J' := J) hw.2.2.1 hk (z_is_2 ho) (fun x hx => zc_other (va_up_ne _ _ hx) (rfl))]
  have e : .inr (2, [.int ((va_up M o (upd (M o) 1 v)) o 0), .int ((va_up M o (upd (M o) 1 v)) o 1), .ref (ad (o + 1)), .ref (ad (o + 2)), .ref (ad (o + 3)), .ref (ad (o + 4))]) = (.inr (2, List.set [.int (M o 0), .int (M o 1), .ref (ad (o + 1)), .ref (ad (o + 2)), .ref (ad (o + 3)), .ref (ad (o + 4))] 1 (.int v)) : va_E) := by simp [va_up_self, List.set, upd, vp_updL]
  rw [e]; exact hP
theorem zg2_kinds (hx : p.tables.exec = Jvm.exec) (hb : c.code = cc) (hts : ∀ w ∈ wsX20, w.before args s = true) (hown : s.vm.findClass own = some m.cls) (hw : zH D Y ad kd RL M J A H0 H locs s) (ho : kd o = 2) (hlink : (Cond.fieldLink own index "SlewRails$Rail" "kinds" "[I").before args s = true) (hd : decode cc pc = .ok (.getfield index, 3)) (k : W p l e R s m args below meth c H locs cells slots Q (F0 m (pc + 3) ls (.ref (ad (o + 1)) :: rest))) : W p l e R s m args below meth c H locs cells slots Q (F0 m pc ls (.ref (ad o) :: rest)) := by
  obtain ⟨q0, hq, -⟩ := zW_get (Y := Y) (ad := ad) (kd := kd) (M := M) (J := J) (hw.2.2.2.2.2.2 o (by omega))
  rw [z_is_2 ho] at hq
  exact va_get (ci := 2) (C := RX2) (T := TX2) (N := 6) hx hb hts (fun _ h => h) hown hw.2.1 hw.1 q0 hq rfl 2 (by decide) hlink (fun _ h => h) rfl hd k
theorem zg2_versines (hx : p.tables.exec = Jvm.exec) (hb : c.code = cc) (hts : ∀ w ∈ wsX20, w.before args s = true) (hown : s.vm.findClass own = some m.cls) (hw : zH D Y ad kd RL M J A H0 H locs s) (ho : kd o = 2) (hlink : (Cond.fieldLink own index "SlewRails$Rail" "versines" "[I").before args s = true) (hd : decode cc pc = .ok (.getfield index, 3)) (k : W p l e R s m args below meth c H locs cells slots Q (F0 m (pc + 3) ls (.ref (ad (o + 2)) :: rest))) : W p l e R s m args below meth c H locs cells slots Q (F0 m pc ls (.ref (ad o) :: rest)) := by
  obtain ⟨q0, hq, -⟩ := zW_get (Y := Y) (ad := ad) (kd := kd) (M := M) (J := J) (hw.2.2.2.2.2.2 o (by omega))
  rw [z_is_2 ho] at hq
  exact va_get (ci := 2) (C := RX2) (T := TX2) (N := 6) hx hb hts (fun _ h => h) hown hw.2.1 hw.1 q0 hq rfl 3 (by decide) hlink (fun _ h => h) rfl hd k
theorem zg2_bounds (hx : p.tables.exec = Jvm.exec) (hb : c.code = cc) (hts : ∀ w ∈ wsX20, w.before args s = true) (hown : s.vm.findClass own = some m.cls) (hw : zH D Y ad kd RL M J A H0 H locs s) (ho : kd o = 2) (hlink : (Cond.fieldLink own index "SlewRails$Rail" "bounds" "[I").before args s = true) (hd : decode cc pc = .ok (.getfield index, 3)) (k : W p l e R s m args below meth c H locs cells slots Q (F0 m (pc + 3) ls (.ref (ad (o + 3)) :: rest))) : W p l e R s m args below meth c H locs cells slots Q (F0 m pc ls (.ref (ad o) :: rest)) := by
  obtain ⟨q0, hq, -⟩ := zW_get (Y := Y) (ad := ad) (kd := kd) (M := M) (J := J) (hw.2.2.2.2.2.2 o (by omega))
  rw [z_is_2 ho] at hq
  exact va_get (ci := 2) (C := RX2) (T := TX2) (N := 6) hx hb hts (fun _ h => h) hown hw.2.1 hw.1 q0 hq rfl 4 (by decide) hlink (fun _ h => h) rfl hd k
theorem zg2_slews (hx : p.tables.exec = Jvm.exec) (hb : c.code = cc) (hts : ∀ w ∈ wsX20, w.before args s = true) (hown : s.vm.findClass own = some m.cls) (hw : zH D Y ad kd RL M J A H0 H locs s) (ho : kd o = 2) (hlink : (Cond.fieldLink own index "SlewRails$Rail" "slews" "[I").before args s = true) (hd : decode cc pc = .ok (.getfield index, 3)) (k : W p l e R s m args below meth c H locs cells slots Q (F0 m (pc + 3) ls (.ref (ad (o + 4)) :: rest))) : W p l e R s m args below meth c H locs cells slots Q (F0 m pc ls (.ref (ad o) :: rest)) := by
  obtain ⟨q0, hq, -⟩ := zW_get (Y := Y) (ad := ad) (kd := kd) (M := M) (J := J) (hw.2.2.2.2.2.2 o (by omega))
  rw [z_is_2 ho] at hq
  exact va_get (ci := 2) (C := RX2) (T := TX2) (N := 6) hx hb hts (fun _ h => h) hown hw.2.1 hw.1 q0 hq rfl 5 (by decide) hlink (fun _ h => h) rfl hd k
theorem z_is_3 (ho : kd o = 3) : zc ad kd Y M J o = .inr (3, [.int (M o 0), .int (M o 1), .ref (ad (o + 1))]) := by unfold zc zv; rw [ho]; rfl
theorem zg3_lane (hx : p.tables.exec = Jvm.exec) (hb : c.code = cc) (hts : ∀ w ∈ wsX30, w.before args s = true) (hown : s.vm.findClass own = some m.cls) (hw : zH D Y ad kd RL M J A H0 H locs s) (ho : kd o = 3) (hlink : (Cond.fieldLink own index "SlewRails$Row" "lane" "I").before args s = true) (hd : decode cc pc = .ok (.getfield index, 3)) (k : W p l e R s m args below meth c H locs cells slots Q (F0 m (pc + 3) ls (.int (M o 0) :: rest))) : W p l e R s m args below meth c H locs cells slots Q (F0 m pc ls (.ref (ad o) :: rest)) := by
  obtain ⟨q0, hq, -⟩ := zW_get (Y := Y) (ad := ad) (kd := kd) (M := M) (J := J) (hw.2.2.2.2.2.2 o (by omega))
  rw [z_is_3 ho] at hq
  exact va_get (ci := 3) (C := RX3) (T := TX3) (N := 3) hx hb hts (fun _ h => h) hown hw.2.1 hw.1 q0 hq rfl 0 (by decide) hlink (fun _ h => h) rfl hd k
theorem zp3_lane {v : Int32} (hx : p.tables.exec = Jvm.exec) (hb : c.code = cc) (hts : ∀ w ∈ wsX30, w.before args s = true) (hown : s.vm.findClass own = some m.cls) (hw : zH D Y ad kd RL M J A H0 H locs s) (ho : kd o = 3) (hlink : (Cond.fieldLink own index "SlewRails$Row" "lane" "I").before args s = true) (hd : decode cc pc = .ok (.putfield index, 3)) (k : ∀ (H1 : Heap) (locs1 : List Loc), zH D Y ad kd RL (va_up M o (upd (M o) 0 v)) J A H0 H1 locs1 s → W p l e R s m args below meth c H1 locs1 cells slots Q (F0 m (pc + 3) ls rest)) : W p l e R s m args below meth c H locs cells slots Q (F0 m pc ls (.int v :: .ref (ad o) :: rest)) := by
  obtain ⟨q0, hq, hk⟩ := zW_get (Y := Y) (ad := ad) (kd := kd) (M := M) (J := J) (hw.2.2.2.2.2.2 o (by omega))
  rw [z_is_3 ho] at hq
  refine va_put (ci := 3) (C := RX3) (T := TX3) (N := 3) (ty := .int) (v := .int v) hx hb hts (fun _ h => h) tyX3 tyX3_ok nmX3 hown hw.2.1 hw.1 hw.2.2.1 hw.2.2.2.1 q0 hq rfl 0 (by decide) hlink (fun _ h => h) rfl (by decide +kernel) (vp_nar_int v) rfl (by simp) hd (fun H1 locs1 hP hD hS => ?_)
  refine k H1 locs1 (hw.next ?_ hS)
  rw [← zW_set (M' := (va_up M o (upd (M o) 0 v))) (J' := J) hw.2.2.1 hk (z_is_3 ho) (fun x hx => zc_other (va_up_ne _ _ hx) (rfl))]
  have e : .inr (3, [.int ((va_up M o (upd (M o) 0 v)) o 0), .int ((va_up M o (upd (M o) 0 v)) o 1), .ref (ad (o + 1))]) = (.inr (3, List.set [.int (M o 0), .int (M o 1), .ref (ad (o + 1))] 0 (.int v)) : va_E) := by simp [va_up_self, List.set, upd, vp_updL]
  rw [e]; exact hP
theorem zg3_size (hx : p.tables.exec = Jvm.exec) (hb : c.code = cc) (hts : ∀ w ∈ wsX30, w.before args s = true) (hown : s.vm.findClass own = some m.cls) (hw : zH D Y ad kd RL M J A H0 H locs s) (ho : kd o = 3) (hlink : (Cond.fieldLink own index "SlewRails$Row" "size" "I").before args s = true) (hd : decode cc pc = .ok (.getfield index, 3)) (k : W p l e R s m args below meth c H locs cells slots Q (F0 m (pc + 3) ls (.int (M o 1) :: rest))) : W p l e R s m args below meth c H locs cells slots Q (F0 m pc ls (.ref (ad o) :: rest)) := by
  obtain ⟨q0, hq, -⟩ := zW_get (Y := Y) (ad := ad) (kd := kd) (M := M) (J := J) (hw.2.2.2.2.2.2 o (by omega))
  rw [z_is_3 ho] at hq
  exact va_get (ci := 3) (C := RX3) (T := TX3) (N := 3) hx hb hts (fun _ h => h) hown hw.2.1 hw.1 q0 hq rfl 1 (by decide) hlink (fun _ h => h) rfl hd k
theorem zp3_size {v : Int32} (hx : p.tables.exec = Jvm.exec) (hb : c.code = cc) (hts : ∀ w ∈ wsX30, w.before args s = true) (hown : s.vm.findClass own = some m.cls) (hw : zH D Y ad kd RL M J A H0 H locs s) (ho : kd o = 3) (hlink : (Cond.fieldLink own index "SlewRails$Row" "size" "I").before args s = true) (hd : decode cc pc = .ok (.putfield index, 3)) (k : ∀ (H1 : Heap) (locs1 : List Loc), zH D Y ad kd RL (va_up M o (upd (M o) 1 v)) J A H0 H1 locs1 s → W p l e R s m args below meth c H1 locs1 cells slots Q (F0 m (pc + 3) ls rest)) : W p l e R s m args below meth c H locs cells slots Q (F0 m pc ls (.int v :: .ref (ad o) :: rest)) := by
  obtain ⟨q0, hq, hk⟩ := zW_get (Y := Y) (ad := ad) (kd := kd) (M := M) (J := J) (hw.2.2.2.2.2.2 o (by omega))
  rw [z_is_3 ho] at hq
  refine va_put (ci := 3) (C := RX3) (T := TX3) (N := 3) (ty := .int) (v := .int v) hx hb hts (fun _ h => h) tyX3 tyX3_ok nmX3 hown hw.2.1 hw.1 hw.2.2.1 hw.2.2.2.1 q0 hq rfl 1 (by decide) hlink (fun _ h => h) rfl (by decide +kernel) (vp_nar_int v) rfl (by simp) hd (fun H1 locs1 hP hD hS => ?_)
  refine k H1 locs1 (hw.next ?_ hS)
  rw [← zW_set (M' := (va_up M o (upd (M o) 1 v))) (J' := J) hw.2.2.1 hk (z_is_3 ho) (fun x hx => zc_other (va_up_ne _ _ hx) (rfl))]
  have e : .inr (3, [.int ((va_up M o (upd (M o) 1 v)) o 0), .int ((va_up M o (upd (M o) 1 v)) o 1), .ref (ad (o + 1))]) = (.inr (3, List.set [.int (M o 0), .int (M o 1), .ref (ad (o + 1))] 1 (.int v)) : va_E) := by simp [va_up_self, List.set, upd, vp_updL]
  rw [e]; exact hP
theorem zg3_items (hx : p.tables.exec = Jvm.exec) (hb : c.code = cc) (hts : ∀ w ∈ wsX30, w.before args s = true) (hown : s.vm.findClass own = some m.cls) (hw : zH D Y ad kd RL M J A H0 H locs s) (ho : kd o = 3) (hlink : (Cond.fieldLink own index "SlewRails$Row" "items" "[I").before args s = true) (hd : decode cc pc = .ok (.getfield index, 3)) (k : W p l e R s m args below meth c H locs cells slots Q (F0 m (pc + 3) ls (.ref (ad (o + 1)) :: rest))) : W p l e R s m args below meth c H locs cells slots Q (F0 m pc ls (.ref (ad o) :: rest)) := by
  obtain ⟨q0, hq, -⟩ := zW_get (Y := Y) (ad := ad) (kd := kd) (M := M) (J := J) (hw.2.2.2.2.2.2 o (by omega))
  rw [z_is_3 ho] at hq
  exact va_get (ci := 3) (C := RX3) (T := TX3) (N := 3) hx hb hts (fun _ h => h) hown hw.2.1 hw.1 q0 hq rfl 2 (by decide) hlink (fun _ h => h) rfl hd k
theorem z_is_4 (ho : kd o = 4) : zc ad kd Y M J o = .inr (4, [.ref (ad (o + 1)), .ref (ad (o + 6)), .ref (ad (o + 7)), .int (M o 0), .int (M o 1), .int (M o 2), .int (M o 3)]) := by unfold zc zv; rw [ho]; rfl
theorem zg4_known (hx : p.tables.exec = Jvm.exec) (hb : c.code = cc) (hts : ∀ w ∈ wsX40, w.before args s = true) (hown : s.vm.findClass own = some m.cls) (hw : zH D Y ad kd RL M J A H0 H locs s) (ho : kd o = 4) (hlink : (Cond.fieldLink own index "SlewRails$Search" "known" "LSlewRails$Rail;").before args s = true) (hd : decode cc pc = .ok (.getfield index, 3)) (k : W p l e R s m args below meth c H locs cells slots Q (F0 m (pc + 3) ls (.ref (ad (o + 1)) :: rest))) : W p l e R s m args below meth c H locs cells slots Q (F0 m pc ls (.ref (ad o) :: rest)) := by
  obtain ⟨q0, hq, -⟩ := zW_get (Y := Y) (ad := ad) (kd := kd) (M := M) (J := J) (hw.2.2.2.2.2.2 o (by omega))
  rw [z_is_4 ho] at hq
  exact va_get (ci := 4) (C := RX4) (T := TX4) (N := 7) hx hb hts (fun _ h => h) hown hw.2.1 hw.1 q0 hq rfl 0 (by decide) hlink (fun _ h => h) rfl hd k
theorem zg4_table (hx : p.tables.exec = Jvm.exec) (hb : c.code = cc) (hts : ∀ w ∈ wsX40, w.before args s = true) (hown : s.vm.findClass own = some m.cls) (hw : zH D Y ad kd RL M J A H0 H locs s) (ho : kd o = 4) (hlink : (Cond.fieldLink own index "SlewRails$Search" "table" "[I").before args s = true) (hd : decode cc pc = .ok (.getfield index, 3)) (k : W p l e R s m args below meth c H locs cells slots Q (F0 m (pc + 3) ls (.ref (ad (o + 6)) :: rest))) : W p l e R s m args below meth c H locs cells slots Q (F0 m pc ls (.ref (ad o) :: rest)) := by
  obtain ⟨q0, hq, -⟩ := zW_get (Y := Y) (ad := ad) (kd := kd) (M := M) (J := J) (hw.2.2.2.2.2.2 o (by omega))
  rw [z_is_4 ho] at hq
  exact va_get (ci := 4) (C := RX4) (T := TX4) (N := 7) hx hb hts (fun _ h => h) hown hw.2.1 hw.1 q0 hq rfl 1 (by decide) hlink (fun _ h => h) rfl hd k
theorem zg4_slews (hx : p.tables.exec = Jvm.exec) (hb : c.code = cc) (hts : ∀ w ∈ wsX40, w.before args s = true) (hown : s.vm.findClass own = some m.cls) (hw : zH D Y ad kd RL M J A H0 H locs s) (ho : kd o = 4) (hlink : (Cond.fieldLink own index "SlewRails$Search" "slews" "[I").before args s = true) (hd : decode cc pc = .ok (.getfield index, 3)) (k : W p l e R s m args below meth c H locs cells slots Q (F0 m (pc + 3) ls (.ref (ad (o + 7)) :: rest))) : W p l e R s m args below meth c H locs cells slots Q (F0 m pc ls (.ref (ad o) :: rest)) := by
  obtain ⟨q0, hq, -⟩ := zW_get (Y := Y) (ad := ad) (kd := kd) (M := M) (J := J) (hw.2.2.2.2.2.2 o (by omega))
  rw [z_is_4 ho] at hq
  exact va_get (ci := 4) (C := RX4) (T := TX4) (N := 7) hx hb hts (fun _ h => h) hown hw.2.1 hw.1 q0 hq rfl 2 (by decide) hlink (fun _ h => h) rfl hd k
theorem zg4_worst (hx : p.tables.exec = Jvm.exec) (hb : c.code = cc) (hts : ∀ w ∈ wsX40, w.before args s = true) (hown : s.vm.findClass own = some m.cls) (hw : zH D Y ad kd RL M J A H0 H locs s) (ho : kd o = 4) (hlink : (Cond.fieldLink own index "SlewRails$Search" "worst" "I").before args s = true) (hd : decode cc pc = .ok (.getfield index, 3)) (k : W p l e R s m args below meth c H locs cells slots Q (F0 m (pc + 3) ls (.int (M o 0) :: rest))) : W p l e R s m args below meth c H locs cells slots Q (F0 m pc ls (.ref (ad o) :: rest)) := by
  obtain ⟨q0, hq, -⟩ := zW_get (Y := Y) (ad := ad) (kd := kd) (M := M) (J := J) (hw.2.2.2.2.2.2 o (by omega))
  rw [z_is_4 ho] at hq
  exact va_get (ci := 4) (C := RX4) (T := TX4) (N := 7) hx hb hts (fun _ h => h) hown hw.2.1 hw.1 q0 hq rfl 3 (by decide) hlink (fun _ h => h) rfl hd k
theorem zp4_worst {v : Int32} (hx : p.tables.exec = Jvm.exec) (hb : c.code = cc) (hts : ∀ w ∈ wsX40, w.before args s = true) (hown : s.vm.findClass own = some m.cls) (hw : zH D Y ad kd RL M J A H0 H locs s) (ho : kd o = 4) (hlink : (Cond.fieldLink own index "SlewRails$Search" "worst" "I").before args s = true) (hd : decode cc pc = .ok (.putfield index, 3)) (k : ∀ (H1 : Heap) (locs1 : List Loc), zH D Y ad kd RL (va_up M o (upd (M o) 0 v)) J A H0 H1 locs1 s → W p l e R s m args below meth c H1 locs1 cells slots Q (F0 m (pc + 3) ls rest)) : W p l e R s m args below meth c H locs cells slots Q (F0 m pc ls (.int v :: .ref (ad o) :: rest)) := by
  obtain ⟨q0, hq, hk⟩ := zW_get (Y := Y) (ad := ad) (kd := kd) (M := M) (J := J) (hw.2.2.2.2.2.2 o (by omega))
  rw [z_is_4 ho] at hq
  refine va_put (ci := 4) (C := RX4) (T := TX4) (N := 7) (ty := .int) (v := .int v) hx hb hts (fun _ h => h) tyX4 tyX4_ok nmX4 hown hw.2.1 hw.1 hw.2.2.1 hw.2.2.2.1 q0 hq rfl 3 (by decide) hlink (fun _ h => h) rfl (by decide +kernel) (vp_nar_int v) rfl (by simp) hd (fun H1 locs1 hP hD hS => ?_)
  refine k H1 locs1 (hw.next ?_ hS)
  rw [← zW_set (M' := (va_up M o (upd (M o) 0 v))) (J' := J) hw.2.2.1 hk (z_is_4 ho) (fun x hx => zc_other (va_up_ne _ _ hx) (rfl))]
  have e : .inr (4, [.ref (ad (o + 1)), .ref (ad (o + 6)), .ref (ad (o + 7)), .int ((va_up M o (upd (M o) 0 v)) o 0), .int ((va_up M o (upd (M o) 0 v)) o 1), .int ((va_up M o (upd (M o) 0 v)) o 2), .int ((va_up M o (upd (M o) 0 v)) o 3)]) = (.inr (4, List.set [.ref (ad (o + 1)), .ref (ad (o + 6)), .ref (ad (o + 7)), .int (M o 0), .int (M o 1), .int (M o 2), .int (M o 3)] 3 (.int v)) : va_E) := by simp [va_up_self, List.set, upd, vp_updL]
  rw [e]; exact hP
theorem zg4_uneven (hx : p.tables.exec = Jvm.exec) (hb : c.code = cc) (hts : ∀ w ∈ wsX40, w.before args s = true) (hown : s.vm.findClass own = some m.cls) (hw : zH D Y ad kd RL M J A H0 H locs s) (ho : kd o = 4) (hlink : (Cond.fieldLink own index "SlewRails$Search" "uneven" "I").before args s = true) (hd : decode cc pc = .ok (.getfield index, 3)) (k : W p l e R s m args below meth c H locs cells slots Q (F0 m (pc + 3) ls (.int (M o 1) :: rest))) : W p l e R s m args below meth c H locs cells slots Q (F0 m pc ls (.ref (ad o) :: rest)) := by
  obtain ⟨q0, hq, -⟩ := zW_get (Y := Y) (ad := ad) (kd := kd) (M := M) (J := J) (hw.2.2.2.2.2.2 o (by omega))
  rw [z_is_4 ho] at hq
  exact va_get (ci := 4) (C := RX4) (T := TX4) (N := 7) hx hb hts (fun _ h => h) hown hw.2.1 hw.1 q0 hq rfl 4 (by decide) hlink (fun _ h => h) rfl hd k
theorem zp4_uneven {v : Int32} (hx : p.tables.exec = Jvm.exec) (hb : c.code = cc) (hts : ∀ w ∈ wsX40, w.before args s = true) (hown : s.vm.findClass own = some m.cls) (hw : zH D Y ad kd RL M J A H0 H locs s) (ho : kd o = 4) (hlink : (Cond.fieldLink own index "SlewRails$Search" "uneven" "I").before args s = true) (hd : decode cc pc = .ok (.putfield index, 3)) (k : ∀ (H1 : Heap) (locs1 : List Loc), zH D Y ad kd RL (va_up M o (upd (M o) 1 v)) J A H0 H1 locs1 s → W p l e R s m args below meth c H1 locs1 cells slots Q (F0 m (pc + 3) ls rest)) : W p l e R s m args below meth c H locs cells slots Q (F0 m pc ls (.int v :: .ref (ad o) :: rest)) := by
  obtain ⟨q0, hq, hk⟩ := zW_get (Y := Y) (ad := ad) (kd := kd) (M := M) (J := J) (hw.2.2.2.2.2.2 o (by omega))
  rw [z_is_4 ho] at hq
  refine va_put (ci := 4) (C := RX4) (T := TX4) (N := 7) (ty := .int) (v := .int v) hx hb hts (fun _ h => h) tyX4 tyX4_ok nmX4 hown hw.2.1 hw.1 hw.2.2.1 hw.2.2.2.1 q0 hq rfl 4 (by decide) hlink (fun _ h => h) rfl (by decide +kernel) (vp_nar_int v) rfl (by simp) hd (fun H1 locs1 hP hD hS => ?_)
  refine k H1 locs1 (hw.next ?_ hS)
  rw [← zW_set (M' := (va_up M o (upd (M o) 1 v))) (J' := J) hw.2.2.1 hk (z_is_4 ho) (fun x hx => zc_other (va_up_ne _ _ hx) (rfl))]
  have e : .inr (4, [.ref (ad (o + 1)), .ref (ad (o + 6)), .ref (ad (o + 7)), .int ((va_up M o (upd (M o) 1 v)) o 0), .int ((va_up M o (upd (M o) 1 v)) o 1), .int ((va_up M o (upd (M o) 1 v)) o 2), .int ((va_up M o (upd (M o) 1 v)) o 3)]) = (.inr (4, List.set [.ref (ad (o + 1)), .ref (ad (o + 6)), .ref (ad (o + 7)), .int (M o 0), .int (M o 1), .int (M o 2), .int (M o 3)] 4 (.int v)) : va_E) := by simp [va_up_self, List.set, upd, vp_updL]
  rw [e]; exact hP
theorem zg4_moved (hx : p.tables.exec = Jvm.exec) (hb : c.code = cc) (hts : ∀ w ∈ wsX40, w.before args s = true) (hown : s.vm.findClass own = some m.cls) (hw : zH D Y ad kd RL M J A H0 H locs s) (ho : kd o = 4) (hlink : (Cond.fieldLink own index "SlewRails$Search" "moved" "I").before args s = true) (hd : decode cc pc = .ok (.getfield index, 3)) (k : W p l e R s m args below meth c H locs cells slots Q (F0 m (pc + 3) ls (.int (M o 2) :: rest))) : W p l e R s m args below meth c H locs cells slots Q (F0 m pc ls (.ref (ad o) :: rest)) := by
  obtain ⟨q0, hq, -⟩ := zW_get (Y := Y) (ad := ad) (kd := kd) (M := M) (J := J) (hw.2.2.2.2.2.2 o (by omega))
  rw [z_is_4 ho] at hq
  exact va_get (ci := 4) (C := RX4) (T := TX4) (N := 7) hx hb hts (fun _ h => h) hown hw.2.1 hw.1 q0 hq rfl 5 (by decide) hlink (fun _ h => h) rfl hd k
theorem zp4_moved {v : Int32} (hx : p.tables.exec = Jvm.exec) (hb : c.code = cc) (hts : ∀ w ∈ wsX40, w.before args s = true) (hown : s.vm.findClass own = some m.cls) (hw : zH D Y ad kd RL M J A H0 H locs s) (ho : kd o = 4) (hlink : (Cond.fieldLink own index "SlewRails$Search" "moved" "I").before args s = true) (hd : decode cc pc = .ok (.putfield index, 3)) (k : ∀ (H1 : Heap) (locs1 : List Loc), zH D Y ad kd RL (va_up M o (upd (M o) 2 v)) J A H0 H1 locs1 s → W p l e R s m args below meth c H1 locs1 cells slots Q (F0 m (pc + 3) ls rest)) : W p l e R s m args below meth c H locs cells slots Q (F0 m pc ls (.int v :: .ref (ad o) :: rest)) := by
  obtain ⟨q0, hq, hk⟩ := zW_get (Y := Y) (ad := ad) (kd := kd) (M := M) (J := J) (hw.2.2.2.2.2.2 o (by omega))
  rw [z_is_4 ho] at hq
  refine va_put (ci := 4) (C := RX4) (T := TX4) (N := 7) (ty := .int) (v := .int v) hx hb hts (fun _ h => h) tyX4 tyX4_ok nmX4 hown hw.2.1 hw.1 hw.2.2.1 hw.2.2.2.1 q0 hq rfl 5 (by decide) hlink (fun _ h => h) rfl (by decide +kernel) (vp_nar_int v) rfl (by simp) hd (fun H1 locs1 hP hD hS => ?_)
  refine k H1 locs1 (hw.next ?_ hS)
  rw [← zW_set (M' := (va_up M o (upd (M o) 2 v))) (J' := J) hw.2.2.1 hk (z_is_4 ho) (fun x hx => zc_other (va_up_ne _ _ hx) (rfl))]
  have e : .inr (4, [.ref (ad (o + 1)), .ref (ad (o + 6)), .ref (ad (o + 7)), .int ((va_up M o (upd (M o) 2 v)) o 0), .int ((va_up M o (upd (M o) 2 v)) o 1), .int ((va_up M o (upd (M o) 2 v)) o 2), .int ((va_up M o (upd (M o) 2 v)) o 3)]) = (.inr (4, List.set [.ref (ad (o + 1)), .ref (ad (o + 6)), .ref (ad (o + 7)), .int (M o 0), .int (M o 1), .int (M o 2), .int (M o 3)] 5 (.int v)) : va_E) := by simp [va_up_self, List.set, upd, vp_updL]
  rw [e]; exact hP
theorem zg4_limit (hx : p.tables.exec = Jvm.exec) (hb : c.code = cc) (hts : ∀ w ∈ wsX40, w.before args s = true) (hown : s.vm.findClass own = some m.cls) (hw : zH D Y ad kd RL M J A H0 H locs s) (ho : kd o = 4) (hlink : (Cond.fieldLink own index "SlewRails$Search" "limit" "I").before args s = true) (hd : decode cc pc = .ok (.getfield index, 3)) (k : W p l e R s m args below meth c H locs cells slots Q (F0 m (pc + 3) ls (.int (M o 3) :: rest))) : W p l e R s m args below meth c H locs cells slots Q (F0 m pc ls (.ref (ad o) :: rest)) := by
  obtain ⟨q0, hq, -⟩ := zW_get (Y := Y) (ad := ad) (kd := kd) (M := M) (J := J) (hw.2.2.2.2.2.2 o (by omega))
  rw [z_is_4 ho] at hq
  exact va_get (ci := 4) (C := RX4) (T := TX4) (N := 7) hx hb hts (fun _ h => h) hown hw.2.1 hw.1 q0 hq rfl 6 (by decide) hlink (fun _ h => h) rfl hd k
theorem zp4_limit {v : Int32} (hx : p.tables.exec = Jvm.exec) (hb : c.code = cc) (hts : ∀ w ∈ wsX40, w.before args s = true) (hown : s.vm.findClass own = some m.cls) (hw : zH D Y ad kd RL M J A H0 H locs s) (ho : kd o = 4) (hlink : (Cond.fieldLink own index "SlewRails$Search" "limit" "I").before args s = true) (hd : decode cc pc = .ok (.putfield index, 3)) (k : ∀ (H1 : Heap) (locs1 : List Loc), zH D Y ad kd RL (va_up M o (upd (M o) 3 v)) J A H0 H1 locs1 s → W p l e R s m args below meth c H1 locs1 cells slots Q (F0 m (pc + 3) ls rest)) : W p l e R s m args below meth c H locs cells slots Q (F0 m pc ls (.int v :: .ref (ad o) :: rest)) := by
  obtain ⟨q0, hq, hk⟩ := zW_get (Y := Y) (ad := ad) (kd := kd) (M := M) (J := J) (hw.2.2.2.2.2.2 o (by omega))
  rw [z_is_4 ho] at hq
  refine va_put (ci := 4) (C := RX4) (T := TX4) (N := 7) (ty := .int) (v := .int v) hx hb hts (fun _ h => h) tyX4 tyX4_ok nmX4 hown hw.2.1 hw.1 hw.2.2.1 hw.2.2.2.1 q0 hq rfl 6 (by decide) hlink (fun _ h => h) rfl (by decide +kernel) (vp_nar_int v) rfl (by simp) hd (fun H1 locs1 hP hD hS => ?_)
  refine k H1 locs1 (hw.next ?_ hS)
  rw [← zW_set (M' := (va_up M o (upd (M o) 3 v))) (J' := J) hw.2.2.1 hk (z_is_4 ho) (fun x hx => zc_other (va_up_ne _ _ hx) (rfl))]
  have e : .inr (4, [.ref (ad (o + 1)), .ref (ad (o + 6)), .ref (ad (o + 7)), .int ((va_up M o (upd (M o) 3 v)) o 0), .int ((va_up M o (upd (M o) 3 v)) o 1), .int ((va_up M o (upd (M o) 3 v)) o 2), .int ((va_up M o (upd (M o) 3 v)) o 3)]) = (.inr (4, List.set [.ref (ad (o + 1)), .ref (ad (o + 6)), .ref (ad (o + 7)), .int (M o 0), .int (M o 1), .int (M o 2), .int (M o 3)] 6 (.int v)) : va_E) := by simp [va_up_self, List.set, upd, vp_updL]
  rw [e]; exact hP
theorem z_is_5 (ho : kd o = 5) : zc ad kd Y M J o = .inr (5, [.long (J o 0), .long (J o 1), .ref (ad (zw (M o 1) o)), .ref (ad (zw (M o 2) o)), .int (M o 0)]) := by unfold zc zv; rw [ho]; rfl
theorem zg5_above (hx : p.tables.exec = Jvm.exec) (hb : c.code = cc) (hts : ∀ w ∈ wsX50, w.before args s = true) (hown : s.vm.findClass own = some m.cls) (hw : zH D Y ad kd RL M J A H0 H locs s) (ho : kd o = 5) (hlink : (Cond.fieldLink own index "SlewRails$Settling" "above" "J").before args s = true) (hd : decode cc pc = .ok (.getfield index, 3)) (k : W p l e R s m args below meth c H locs cells slots Q (F0 m (pc + 3) ls (.long (J o 0) :: rest))) : W p l e R s m args below meth c H locs cells slots Q (F0 m pc ls (.ref (ad o) :: rest)) := by
  obtain ⟨q0, hq, -⟩ := zW_get (Y := Y) (ad := ad) (kd := kd) (M := M) (J := J) (hw.2.2.2.2.2.2 o (by omega))
  rw [z_is_5 ho] at hq
  exact va_get (ci := 5) (C := RX5) (T := TX5) (N := 5) hx hb hts (fun _ h => h) hown hw.2.1 hw.1 q0 hq rfl 0 (by decide) hlink (fun _ h => h) rfl hd k
theorem zp5_above {v : Int64} (hx : p.tables.exec = Jvm.exec) (hb : c.code = cc) (hts : ∀ w ∈ wsX50, w.before args s = true) (hown : s.vm.findClass own = some m.cls) (hw : zH D Y ad kd RL M J A H0 H locs s) (ho : kd o = 5) (hlink : (Cond.fieldLink own index "SlewRails$Settling" "above" "J").before args s = true) (hd : decode cc pc = .ok (.putfield index, 3)) (k : ∀ (H1 : Heap) (locs1 : List Loc), zH D Y ad kd RL M (va_up J o (vp_updL (J o) 0 v)) A H0 H1 locs1 s → W p l e R s m args below meth c H1 locs1 cells slots Q (F0 m (pc + 3) ls rest)) : W p l e R s m args below meth c H locs cells slots Q (F0 m pc ls (.long v :: .ref (ad o) :: rest)) := by
  obtain ⟨q0, hq, hk⟩ := zW_get (Y := Y) (ad := ad) (kd := kd) (M := M) (J := J) (hw.2.2.2.2.2.2 o (by omega))
  rw [z_is_5 ho] at hq
  refine va_put (ci := 5) (C := RX5) (T := TX5) (N := 5) (ty := .long) (v := .long v) hx hb hts (fun _ h => h) tyX5 tyX5_ok nmX5 hown hw.2.1 hw.1 hw.2.2.1 hw.2.2.2.1 q0 hq rfl 0 (by decide) hlink (fun _ h => h) rfl (by decide +kernel) (rfl) rfl (by simp) hd (fun H1 locs1 hP hD hS => ?_)
  refine k H1 locs1 (hw.next ?_ hS)
  rw [← zW_set (M' := M) (J' := (va_up J o (vp_updL (J o) 0 v))) hw.2.2.1 hk (z_is_5 ho) (fun x hx => zc_other (rfl) (va_up_ne _ _ hx))]
  have e : .inr (5, [.long ((va_up J o (vp_updL (J o) 0 v)) o 0), .long ((va_up J o (vp_updL (J o) 0 v)) o 1), .ref (ad (zw (M o 1) o)), .ref (ad (zw (M o 2) o)), .int (M o 0)]) = (.inr (5, List.set [.long (J o 0), .long (J o 1), .ref (ad (zw (M o 1) o)), .ref (ad (zw (M o 2) o)), .int (M o 0)] 0 (.long v)) : va_E) := by simp [va_up_self, List.set, upd, vp_updL]
  rw [e]; exact hP
theorem zg5_below (hx : p.tables.exec = Jvm.exec) (hb : c.code = cc) (hts : ∀ w ∈ wsX50, w.before args s = true) (hown : s.vm.findClass own = some m.cls) (hw : zH D Y ad kd RL M J A H0 H locs s) (ho : kd o = 5) (hlink : (Cond.fieldLink own index "SlewRails$Settling" "below" "J").before args s = true) (hd : decode cc pc = .ok (.getfield index, 3)) (k : W p l e R s m args below meth c H locs cells slots Q (F0 m (pc + 3) ls (.long (J o 1) :: rest))) : W p l e R s m args below meth c H locs cells slots Q (F0 m pc ls (.ref (ad o) :: rest)) := by
  obtain ⟨q0, hq, -⟩ := zW_get (Y := Y) (ad := ad) (kd := kd) (M := M) (J := J) (hw.2.2.2.2.2.2 o (by omega))
  rw [z_is_5 ho] at hq
  exact va_get (ci := 5) (C := RX5) (T := TX5) (N := 5) hx hb hts (fun _ h => h) hown hw.2.1 hw.1 q0 hq rfl 1 (by decide) hlink (fun _ h => h) rfl hd k
theorem zp5_below {v : Int64} (hx : p.tables.exec = Jvm.exec) (hb : c.code = cc) (hts : ∀ w ∈ wsX50, w.before args s = true) (hown : s.vm.findClass own = some m.cls) (hw : zH D Y ad kd RL M J A H0 H locs s) (ho : kd o = 5) (hlink : (Cond.fieldLink own index "SlewRails$Settling" "below" "J").before args s = true) (hd : decode cc pc = .ok (.putfield index, 3)) (k : ∀ (H1 : Heap) (locs1 : List Loc), zH D Y ad kd RL M (va_up J o (vp_updL (J o) 1 v)) A H0 H1 locs1 s → W p l e R s m args below meth c H1 locs1 cells slots Q (F0 m (pc + 3) ls rest)) : W p l e R s m args below meth c H locs cells slots Q (F0 m pc ls (.long v :: .ref (ad o) :: rest)) := by
  obtain ⟨q0, hq, hk⟩ := zW_get (Y := Y) (ad := ad) (kd := kd) (M := M) (J := J) (hw.2.2.2.2.2.2 o (by omega))
  rw [z_is_5 ho] at hq
  refine va_put (ci := 5) (C := RX5) (T := TX5) (N := 5) (ty := .long) (v := .long v) hx hb hts (fun _ h => h) tyX5 tyX5_ok nmX5 hown hw.2.1 hw.1 hw.2.2.1 hw.2.2.2.1 q0 hq rfl 1 (by decide) hlink (fun _ h => h) rfl (by decide +kernel) (rfl) rfl (by simp) hd (fun H1 locs1 hP hD hS => ?_)
  refine k H1 locs1 (hw.next ?_ hS)
  rw [← zW_set (M' := M) (J' := (va_up J o (vp_updL (J o) 1 v))) hw.2.2.1 hk (z_is_5 ho) (fun x hx => zc_other (rfl) (va_up_ne _ _ hx))]
  have e : .inr (5, [.long ((va_up J o (vp_updL (J o) 1 v)) o 0), .long ((va_up J o (vp_updL (J o) 1 v)) o 1), .ref (ad (zw (M o 1) o)), .ref (ad (zw (M o 2) o)), .int (M o 0)]) = (.inr (5, List.set [.long (J o 0), .long (J o 1), .ref (ad (zw (M o 1) o)), .ref (ad (zw (M o 2) o)), .int (M o 0)] 1 (.long v)) : va_E) := by simp [va_up_self, List.set, upd, vp_updL]
  rw [e]; exact hP
theorem zg5_ways (hx : p.tables.exec = Jvm.exec) (hb : c.code = cc) (hts : ∀ w ∈ wsX50, w.before args s = true) (hown : s.vm.findClass own = some m.cls) (hw : zH D Y ad kd RL M J A H0 H locs s) (ho : kd o = 5) (hlink : (Cond.fieldLink own index "SlewRails$Settling" "ways" "[J").before args s = true) (hd : decode cc pc = .ok (.getfield index, 3)) (k : W p l e R s m args below meth c H locs cells slots Q (F0 m (pc + 3) ls (.ref (ad (zw (M o 1) o)) :: rest))) : W p l e R s m args below meth c H locs cells slots Q (F0 m pc ls (.ref (ad o) :: rest)) := by
  obtain ⟨q0, hq, -⟩ := zW_get (Y := Y) (ad := ad) (kd := kd) (M := M) (J := J) (hw.2.2.2.2.2.2 o (by omega))
  rw [z_is_5 ho] at hq
  exact va_get (ci := 5) (C := RX5) (T := TX5) (N := 5) hx hb hts (fun _ h => h) hown hw.2.1 hw.1 q0 hq rfl 2 (by decide) hlink (fun _ h => h) rfl hd k
theorem zp5_ways {v : Int32} (hx : p.tables.exec = Jvm.exec) (hb : c.code = cc) (hts : ∀ w ∈ wsX50, w.before args s = true) (hown : s.vm.findClass own = some m.cls) (hw : zH D Y ad kd RL M J A H0 H locs s) (ho : kd o = 5) (hlink : (Cond.fieldLink own index "SlewRails$Settling" "ways" "[J").before args s = true) (hd : decode cc pc = .ok (.putfield index, 3)) (k : ∀ (H1 : Heap) (locs1 : List Loc), zH D Y ad kd RL (va_up M o (upd (M o) 1 v)) J A H0 H1 locs1 s → W p l e R s m args below meth c H1 locs1 cells slots Q (F0 m (pc + 3) ls rest)) : W p l e R s m args below meth c H locs cells slots Q (F0 m pc ls (.ref (ad (zw v o)) :: .ref (ad o) :: rest)) := by
  obtain ⟨q0, hq, hk⟩ := zW_get (Y := Y) (ad := ad) (kd := kd) (M := M) (J := J) (hw.2.2.2.2.2.2 o (by omega))
  rw [z_is_5 ho] at hq
  refine va_put (ci := 5) (C := RX5) (T := TX5) (N := 5) (ty := (.array .long)) (v := .ref (ad (zw v o))) hx hb hts (fun _ h => h) tyX5 tyX5_ok nmX5 hown hw.2.1 hw.1 hw.2.2.1 hw.2.2.2.1 q0 hq rfl 2 (by decide) hlink (fun _ h => h) rfl (by decide +kernel) (rfl) rfl (by simp) hd (fun H1 locs1 hP hD hS => ?_)
  refine k H1 locs1 (hw.next ?_ hS)
  rw [← zW_set (M' := (va_up M o (upd (M o) 1 v))) (J' := J) hw.2.2.1 hk (z_is_5 ho) (fun x hx => zc_other (va_up_ne _ _ hx) (rfl))]
  have e : .inr (5, [.long (J o 0), .long (J o 1), .ref (ad (zw ((va_up M o (upd (M o) 1 v)) o 1) o)), .ref (ad (zw ((va_up M o (upd (M o) 1 v)) o 2) o)), .int ((va_up M o (upd (M o) 1 v)) o 0)]) = (.inr (5, List.set [.long (J o 0), .long (J o 1), .ref (ad (zw (M o 1) o)), .ref (ad (zw (M o 2) o)), .int (M o 0)] 2 (.ref (ad (zw v o)))) : va_E) := by simp [va_up_self, List.set, upd, vp_updL]
  rw [e]; exact hP
theorem zg5_waysOn (hx : p.tables.exec = Jvm.exec) (hb : c.code = cc) (hts : ∀ w ∈ wsX50, w.before args s = true) (hown : s.vm.findClass own = some m.cls) (hw : zH D Y ad kd RL M J A H0 H locs s) (ho : kd o = 5) (hlink : (Cond.fieldLink own index "SlewRails$Settling" "waysOn" "[J").before args s = true) (hd : decode cc pc = .ok (.getfield index, 3)) (k : W p l e R s m args below meth c H locs cells slots Q (F0 m (pc + 3) ls (.ref (ad (zw (M o 2) o)) :: rest))) : W p l e R s m args below meth c H locs cells slots Q (F0 m pc ls (.ref (ad o) :: rest)) := by
  obtain ⟨q0, hq, -⟩ := zW_get (Y := Y) (ad := ad) (kd := kd) (M := M) (J := J) (hw.2.2.2.2.2.2 o (by omega))
  rw [z_is_5 ho] at hq
  exact va_get (ci := 5) (C := RX5) (T := TX5) (N := 5) hx hb hts (fun _ h => h) hown hw.2.1 hw.1 q0 hq rfl 3 (by decide) hlink (fun _ h => h) rfl hd k
theorem zp5_waysOn {v : Int32} (hx : p.tables.exec = Jvm.exec) (hb : c.code = cc) (hts : ∀ w ∈ wsX50, w.before args s = true) (hown : s.vm.findClass own = some m.cls) (hw : zH D Y ad kd RL M J A H0 H locs s) (ho : kd o = 5) (hlink : (Cond.fieldLink own index "SlewRails$Settling" "waysOn" "[J").before args s = true) (hd : decode cc pc = .ok (.putfield index, 3)) (k : ∀ (H1 : Heap) (locs1 : List Loc), zH D Y ad kd RL (va_up M o (upd (M o) 2 v)) J A H0 H1 locs1 s → W p l e R s m args below meth c H1 locs1 cells slots Q (F0 m (pc + 3) ls rest)) : W p l e R s m args below meth c H locs cells slots Q (F0 m pc ls (.ref (ad (zw v o)) :: .ref (ad o) :: rest)) := by
  obtain ⟨q0, hq, hk⟩ := zW_get (Y := Y) (ad := ad) (kd := kd) (M := M) (J := J) (hw.2.2.2.2.2.2 o (by omega))
  rw [z_is_5 ho] at hq
  refine va_put (ci := 5) (C := RX5) (T := TX5) (N := 5) (ty := (.array .long)) (v := .ref (ad (zw v o))) hx hb hts (fun _ h => h) tyX5 tyX5_ok nmX5 hown hw.2.1 hw.1 hw.2.2.1 hw.2.2.2.1 q0 hq rfl 3 (by decide) hlink (fun _ h => h) rfl (by decide +kernel) (rfl) rfl (by simp) hd (fun H1 locs1 hP hD hS => ?_)
  refine k H1 locs1 (hw.next ?_ hS)
  rw [← zW_set (M' := (va_up M o (upd (M o) 2 v))) (J' := J) hw.2.2.1 hk (z_is_5 ho) (fun x hx => zc_other (va_up_ne _ _ hx) (rfl))]
  have e : .inr (5, [.long (J o 0), .long (J o 1), .ref (ad (zw ((va_up M o (upd (M o) 2 v)) o 1) o)), .ref (ad (zw ((va_up M o (upd (M o) 2 v)) o 2) o)), .int ((va_up M o (upd (M o) 2 v)) o 0)]) = (.inr (5, List.set [.long (J o 0), .long (J o 1), .ref (ad (zw (M o 1) o)), .ref (ad (zw (M o 2) o)), .int (M o 0)] 3 (.ref (ad (zw v o)))) : va_E) := by simp [va_up_self, List.set, upd, vp_updL]
  rw [e]; exact hP
theorem zg5_settled (hx : p.tables.exec = Jvm.exec) (hb : c.code = cc) (hts : ∀ w ∈ wsX50, w.before args s = true) (hown : s.vm.findClass own = some m.cls) (hw : zH D Y ad kd RL M J A H0 H locs s) (ho : kd o = 5) (hlink : (Cond.fieldLink own index "SlewRails$Settling" "settled" "I").before args s = true) (hd : decode cc pc = .ok (.getfield index, 3)) (k : W p l e R s m args below meth c H locs cells slots Q (F0 m (pc + 3) ls (.int (M o 0) :: rest))) : W p l e R s m args below meth c H locs cells slots Q (F0 m pc ls (.ref (ad o) :: rest)) := by
  obtain ⟨q0, hq, -⟩ := zW_get (Y := Y) (ad := ad) (kd := kd) (M := M) (J := J) (hw.2.2.2.2.2.2 o (by omega))
  rw [z_is_5 ho] at hq
  exact va_get (ci := 5) (C := RX5) (T := TX5) (N := 5) hx hb hts (fun _ h => h) hown hw.2.1 hw.1 q0 hq rfl 4 (by decide) hlink (fun _ h => h) rfl hd k
theorem zp5_settled {v : Int32} (hx : p.tables.exec = Jvm.exec) (hb : c.code = cc) (hts : ∀ w ∈ wsX50, w.before args s = true) (hown : s.vm.findClass own = some m.cls) (hw : zH D Y ad kd RL M J A H0 H locs s) (ho : kd o = 5) (hlink : (Cond.fieldLink own index "SlewRails$Settling" "settled" "I").before args s = true) (hd : decode cc pc = .ok (.putfield index, 3)) (k : ∀ (H1 : Heap) (locs1 : List Loc), zH D Y ad kd RL (va_up M o (upd (M o) 0 v)) J A H0 H1 locs1 s → W p l e R s m args below meth c H1 locs1 cells slots Q (F0 m (pc + 3) ls rest)) : W p l e R s m args below meth c H locs cells slots Q (F0 m pc ls (.int v :: .ref (ad o) :: rest)) := by
  obtain ⟨q0, hq, hk⟩ := zW_get (Y := Y) (ad := ad) (kd := kd) (M := M) (J := J) (hw.2.2.2.2.2.2 o (by omega))
  rw [z_is_5 ho] at hq
  refine va_put (ci := 5) (C := RX5) (T := TX5) (N := 5) (ty := .int) (v := .int v) hx hb hts (fun _ h => h) tyX5 tyX5_ok nmX5 hown hw.2.1 hw.1 hw.2.2.1 hw.2.2.2.1 q0 hq rfl 4 (by decide) hlink (fun _ h => h) rfl (by decide +kernel) (vp_nar_int v) rfl (by simp) hd (fun H1 locs1 hP hD hS => ?_)
  refine k H1 locs1 (hw.next ?_ hS)
  rw [← zW_set (M' := (va_up M o (upd (M o) 0 v))) (J' := J) hw.2.2.1 hk (z_is_5 ho) (fun x hx => zc_other (va_up_ne _ _ hx) (rfl))]
  have e : .inr (5, [.long (J o 0), .long (J o 1), .ref (ad (zw ((va_up M o (upd (M o) 0 v)) o 1) o)), .ref (ad (zw ((va_up M o (upd (M o) 0 v)) o 2) o)), .int ((va_up M o (upd (M o) 0 v)) o 0)]) = (.inr (5, List.set [.long (J o 0), .long (J o 1), .ref (ad (zw (M o 1) o)), .ref (ad (zw (M o 2) o)), .int (M o 0)] 4 (.int v)) : va_E) := by simp [va_up_self, List.set, upd, vp_updL]
  rw [e]; exact hP
theorem z_is_6 (ho : kd o = 6) : zc ad kd Y M J o = .inr (6, [.ref (ad (o + 1)), .int (M o 0), .int (M o 1), .int (M o 2)]) := by unfold zc zv; rw [ho]; rfl
theorem zg6_bytes (hx : p.tables.exec = Jvm.exec) (hb : c.code = cc) (hts : ∀ w ∈ wsX60, w.before args s = true) (hown : s.vm.findClass own = some m.cls) (hw : zH D Y ad kd RL M J A H0 H locs s) (ho : kd o = 6) (hlink : (Cond.fieldLink own index "SlewRails$Tape" "bytes" "[I").before args s = true) (hd : decode cc pc = .ok (.getfield index, 3)) (k : W p l e R s m args below meth c H locs cells slots Q (F0 m (pc + 3) ls (.ref (ad (o + 1)) :: rest))) : W p l e R s m args below meth c H locs cells slots Q (F0 m pc ls (.ref (ad o) :: rest)) := by
  obtain ⟨q0, hq, -⟩ := zW_get (Y := Y) (ad := ad) (kd := kd) (M := M) (J := J) (hw.2.2.2.2.2.2 o (by omega))
  rw [z_is_6 ho] at hq
  exact va_get (ci := 6) (C := RX6) (T := TX6) (N := 4) hx hb hts (fun _ h => h) hown hw.2.1 hw.1 q0 hq rfl 0 (by decide) hlink (fun _ h => h) rfl hd k
theorem zg6_length (hx : p.tables.exec = Jvm.exec) (hb : c.code = cc) (hts : ∀ w ∈ wsX60, w.before args s = true) (hown : s.vm.findClass own = some m.cls) (hw : zH D Y ad kd RL M J A H0 H locs s) (ho : kd o = 6) (hlink : (Cond.fieldLink own index "SlewRails$Tape" "length" "I").before args s = true) (hd : decode cc pc = .ok (.getfield index, 3)) (k : W p l e R s m args below meth c H locs cells slots Q (F0 m (pc + 3) ls (.int (M o 0) :: rest))) : W p l e R s m args below meth c H locs cells slots Q (F0 m pc ls (.ref (ad o) :: rest)) := by
  obtain ⟨q0, hq, -⟩ := zW_get (Y := Y) (ad := ad) (kd := kd) (M := M) (J := J) (hw.2.2.2.2.2.2 o (by omega))
  rw [z_is_6 ho] at hq
  exact va_get (ci := 6) (C := RX6) (T := TX6) (N := 4) hx hb hts (fun _ h => h) hown hw.2.1 hw.1 q0 hq rfl 1 (by decide) hlink (fun _ h => h) rfl hd k
theorem zp6_length {v : Int32} (hx : p.tables.exec = Jvm.exec) (hb : c.code = cc) (hts : ∀ w ∈ wsX60, w.before args s = true) (hown : s.vm.findClass own = some m.cls) (hw : zH D Y ad kd RL M J A H0 H locs s) (ho : kd o = 6) (hlink : (Cond.fieldLink own index "SlewRails$Tape" "length" "I").before args s = true) (hd : decode cc pc = .ok (.putfield index, 3)) (k : ∀ (H1 : Heap) (locs1 : List Loc), zH D Y ad kd RL (va_up M o (upd (M o) 0 v)) J A H0 H1 locs1 s → W p l e R s m args below meth c H1 locs1 cells slots Q (F0 m (pc + 3) ls rest)) : W p l e R s m args below meth c H locs cells slots Q (F0 m pc ls (.int v :: .ref (ad o) :: rest)) := by
  obtain ⟨q0, hq, hk⟩ := zW_get (Y := Y) (ad := ad) (kd := kd) (M := M) (J := J) (hw.2.2.2.2.2.2 o (by omega))
  rw [z_is_6 ho] at hq
  refine va_put (ci := 6) (C := RX6) (T := TX6) (N := 4) (ty := .int) (v := .int v) hx hb hts (fun _ h => h) tyX6 tyX6_ok nmX6 hown hw.2.1 hw.1 hw.2.2.1 hw.2.2.2.1 q0 hq rfl 1 (by decide) hlink (fun _ h => h) rfl (by decide +kernel) (vp_nar_int v) rfl (by simp) hd (fun H1 locs1 hP hD hS => ?_)
  refine k H1 locs1 (hw.next ?_ hS)
  rw [← zW_set (M' := (va_up M o (upd (M o) 0 v))) (J' := J) hw.2.2.1 hk (z_is_6 ho) (fun x hx => zc_other (va_up_ne _ _ hx) (rfl))]
  have e : .inr (6, [.ref (ad (o + 1)), .int ((va_up M o (upd (M o) 0 v)) o 0), .int ((va_up M o (upd (M o) 0 v)) o 1), .int ((va_up M o (upd (M o) 0 v)) o 2)]) = (.inr (6, List.set [.ref (ad (o + 1)), .int (M o 0), .int (M o 1), .int (M o 2)] 1 (.int v)) : va_E) := by simp [va_up_self, List.set, upd, vp_updL]
  rw [e]; exact hP
theorem zg6_fault (hx : p.tables.exec = Jvm.exec) (hb : c.code = cc) (hts : ∀ w ∈ wsX60, w.before args s = true) (hown : s.vm.findClass own = some m.cls) (hw : zH D Y ad kd RL M J A H0 H locs s) (ho : kd o = 6) (hlink : (Cond.fieldLink own index "SlewRails$Tape" "fault" "I").before args s = true) (hd : decode cc pc = .ok (.getfield index, 3)) (k : W p l e R s m args below meth c H locs cells slots Q (F0 m (pc + 3) ls (.int (M o 1) :: rest))) : W p l e R s m args below meth c H locs cells slots Q (F0 m pc ls (.ref (ad o) :: rest)) := by
  obtain ⟨q0, hq, -⟩ := zW_get (Y := Y) (ad := ad) (kd := kd) (M := M) (J := J) (hw.2.2.2.2.2.2 o (by omega))
  rw [z_is_6 ho] at hq
  exact va_get (ci := 6) (C := RX6) (T := TX6) (N := 4) hx hb hts (fun _ h => h) hown hw.2.1 hw.1 q0 hq rfl 2 (by decide) hlink (fun _ h => h) rfl hd k
theorem zp6_fault {v : Int32} (hx : p.tables.exec = Jvm.exec) (hb : c.code = cc) (hts : ∀ w ∈ wsX60, w.before args s = true) (hown : s.vm.findClass own = some m.cls) (hw : zH D Y ad kd RL M J A H0 H locs s) (ho : kd o = 6) (hlink : (Cond.fieldLink own index "SlewRails$Tape" "fault" "I").before args s = true) (hd : decode cc pc = .ok (.putfield index, 3)) (k : ∀ (H1 : Heap) (locs1 : List Loc), zH D Y ad kd RL (va_up M o (upd (M o) 1 v)) J A H0 H1 locs1 s → W p l e R s m args below meth c H1 locs1 cells slots Q (F0 m (pc + 3) ls rest)) : W p l e R s m args below meth c H locs cells slots Q (F0 m pc ls (.int v :: .ref (ad o) :: rest)) := by
  obtain ⟨q0, hq, hk⟩ := zW_get (Y := Y) (ad := ad) (kd := kd) (M := M) (J := J) (hw.2.2.2.2.2.2 o (by omega))
  rw [z_is_6 ho] at hq
  refine va_put (ci := 6) (C := RX6) (T := TX6) (N := 4) (ty := .int) (v := .int v) hx hb hts (fun _ h => h) tyX6 tyX6_ok nmX6 hown hw.2.1 hw.1 hw.2.2.1 hw.2.2.2.1 q0 hq rfl 2 (by decide) hlink (fun _ h => h) rfl (by decide +kernel) (vp_nar_int v) rfl (by simp) hd (fun H1 locs1 hP hD hS => ?_)
  refine k H1 locs1 (hw.next ?_ hS)
  rw [← zW_set (M' := (va_up M o (upd (M o) 1 v))) (J' := J) hw.2.2.1 hk (z_is_6 ho) (fun x hx => zc_other (va_up_ne _ _ hx) (rfl))]
  have e : .inr (6, [.ref (ad (o + 1)), .int ((va_up M o (upd (M o) 1 v)) o 0), .int ((va_up M o (upd (M o) 1 v)) o 1), .int ((va_up M o (upd (M o) 1 v)) o 2)]) = (.inr (6, List.set [.ref (ad (o + 1)), .int (M o 0), .int (M o 1), .int (M o 2)] 2 (.int v)) : va_E) := by simp [va_up_self, List.set, upd, vp_updL]
  rw [e]; exact hP
theorem zg6_faultPlace (hx : p.tables.exec = Jvm.exec) (hb : c.code = cc) (hts : ∀ w ∈ wsX60, w.before args s = true) (hown : s.vm.findClass own = some m.cls) (hw : zH D Y ad kd RL M J A H0 H locs s) (ho : kd o = 6) (hlink : (Cond.fieldLink own index "SlewRails$Tape" "faultPlace" "I").before args s = true) (hd : decode cc pc = .ok (.getfield index, 3)) (k : W p l e R s m args below meth c H locs cells slots Q (F0 m (pc + 3) ls (.int (M o 2) :: rest))) : W p l e R s m args below meth c H locs cells slots Q (F0 m pc ls (.ref (ad o) :: rest)) := by
  obtain ⟨q0, hq, -⟩ := zW_get (Y := Y) (ad := ad) (kd := kd) (M := M) (J := J) (hw.2.2.2.2.2.2 o (by omega))
  rw [z_is_6 ho] at hq
  exact va_get (ci := 6) (C := RX6) (T := TX6) (N := 4) hx hb hts (fun _ h => h) hown hw.2.1 hw.1 q0 hq rfl 3 (by decide) hlink (fun _ h => h) rfl hd k
theorem zp6_faultPlace {v : Int32} (hx : p.tables.exec = Jvm.exec) (hb : c.code = cc) (hts : ∀ w ∈ wsX60, w.before args s = true) (hown : s.vm.findClass own = some m.cls) (hw : zH D Y ad kd RL M J A H0 H locs s) (ho : kd o = 6) (hlink : (Cond.fieldLink own index "SlewRails$Tape" "faultPlace" "I").before args s = true) (hd : decode cc pc = .ok (.putfield index, 3)) (k : ∀ (H1 : Heap) (locs1 : List Loc), zH D Y ad kd RL (va_up M o (upd (M o) 2 v)) J A H0 H1 locs1 s → W p l e R s m args below meth c H1 locs1 cells slots Q (F0 m (pc + 3) ls rest)) : W p l e R s m args below meth c H locs cells slots Q (F0 m pc ls (.int v :: .ref (ad o) :: rest)) := by
  obtain ⟨q0, hq, hk⟩ := zW_get (Y := Y) (ad := ad) (kd := kd) (M := M) (J := J) (hw.2.2.2.2.2.2 o (by omega))
  rw [z_is_6 ho] at hq
  refine va_put (ci := 6) (C := RX6) (T := TX6) (N := 4) (ty := .int) (v := .int v) hx hb hts (fun _ h => h) tyX6 tyX6_ok nmX6 hown hw.2.1 hw.1 hw.2.2.1 hw.2.2.2.1 q0 hq rfl 3 (by decide) hlink (fun _ h => h) rfl (by decide +kernel) (vp_nar_int v) rfl (by simp) hd (fun H1 locs1 hP hD hS => ?_)
  refine k H1 locs1 (hw.next ?_ hS)
  rw [← zW_set (M' := (va_up M o (upd (M o) 2 v))) (J' := J) hw.2.2.1 hk (z_is_6 ho) (fun x hx => zc_other (va_up_ne _ _ hx) (rfl))]
  have e : .inr (6, [.ref (ad (o + 1)), .int ((va_up M o (upd (M o) 2 v)) o 0), .int ((va_up M o (upd (M o) 2 v)) o 1), .int ((va_up M o (upd (M o) 2 v)) o 2)]) = (.inr (6, List.set [.ref (ad (o + 1)), .int (M o 0), .int (M o 1), .int (M o 2)] 3 (.int v)) : va_E) := by simp [va_up_self, List.set, upd, vp_updL]
  rw [e]; exact hP
theorem z_is_7 (ho : kd o = 7) : zc ad kd Y M J o = .inr (7, [.ref (ad (o + 1)), .ref (ad (o + 18)), .ref (ad (o + 20)), .ref (ad (o + 25)), .ref (ad (o + 30)), .ref (ad (o + 41)), .ref (ad (o + 163)), .ref (ad (o + 165)), va_rf (if kd (o + 168) = 4 then some (ad (o + 168)) else none), .int (M o 0)]) := by unfold zc zv; rw [ho]; rfl
theorem zg7_rows (hx : p.tables.exec = Jvm.exec) (hb : c.code = cc) (hts : ∀ w ∈ wsX70, w.before args s = true) (hown : s.vm.findClass own = some m.cls) (hw : zH D Y ad kd RL M J A H0 H locs s) (ho : kd o = 7) (hlink : (Cond.fieldLink own index "SlewRails" "rows" "[LSlewRails$Row;").before args s = true) (hd : decode cc pc = .ok (.getfield index, 3)) (k : W p l e R s m args below meth c H locs cells slots Q (F0 m (pc + 3) ls (.ref (ad (o + 1)) :: rest))) : W p l e R s m args below meth c H locs cells slots Q (F0 m pc ls (.ref (ad o) :: rest)) := by
  obtain ⟨q0, hq, -⟩ := zW_get (Y := Y) (ad := ad) (kd := kd) (M := M) (J := J) (hw.2.2.2.2.2.2 o (by omega))
  rw [z_is_7 ho] at hq
  exact va_get (ci := 7) (C := RX7) (T := TX7) (N := 10) hx hb hts (fun _ h => h) hown hw.2.1 hw.1 q0 hq rfl 0 (by decide) hlink (fun _ h => h) rfl hd k
theorem zg7_tape (hx : p.tables.exec = Jvm.exec) (hb : c.code = cc) (hts : ∀ w ∈ wsX70, w.before args s = true) (hown : s.vm.findClass own = some m.cls) (hw : zH D Y ad kd RL M J A H0 H locs s) (ho : kd o = 7) (hlink : (Cond.fieldLink own index "SlewRails" "tape" "LSlewRails$Tape;").before args s = true) (hd : decode cc pc = .ok (.getfield index, 3)) (k : W p l e R s m args below meth c H locs cells slots Q (F0 m (pc + 3) ls (.ref (ad (o + 18)) :: rest))) : W p l e R s m args below meth c H locs cells slots Q (F0 m pc ls (.ref (ad o) :: rest)) := by
  obtain ⟨q0, hq, -⟩ := zW_get (Y := Y) (ad := ad) (kd := kd) (M := M) (J := J) (hw.2.2.2.2.2.2 o (by omega))
  rw [z_is_7 ho] at hq
  exact va_get (ci := 7) (C := RX7) (T := TX7) (N := 10) hx hb hts (fun _ h => h) hown hw.2.1 hw.1 q0 hq rfl 1 (by decide) hlink (fun _ h => h) rfl hd k
theorem zg7_rail (hx : p.tables.exec = Jvm.exec) (hb : c.code = cc) (hts : ∀ w ∈ wsX70, w.before args s = true) (hown : s.vm.findClass own = some m.cls) (hw : zH D Y ad kd RL M J A H0 H locs s) (ho : kd o = 7) (hlink : (Cond.fieldLink own index "SlewRails" "rail" "LSlewRails$Rail;").before args s = true) (hd : decode cc pc = .ok (.getfield index, 3)) (k : W p l e R s m args below meth c H locs cells slots Q (F0 m (pc + 3) ls (.ref (ad (o + 20)) :: rest))) : W p l e R s m args below meth c H locs cells slots Q (F0 m pc ls (.ref (ad o) :: rest)) := by
  obtain ⟨q0, hq, -⟩ := zW_get (Y := Y) (ad := ad) (kd := kd) (M := M) (J := J) (hw.2.2.2.2.2.2 o (by omega))
  rw [z_is_7 ho] at hq
  exact va_get (ci := 7) (C := RX7) (T := TX7) (N := 10) hx hb hts (fun _ h => h) hown hw.2.1 hw.1 q0 hq rfl 2 (by decide) hlink (fun _ h => h) rfl hd k
theorem zg7_draft (hx : p.tables.exec = Jvm.exec) (hb : c.code = cc) (hts : ∀ w ∈ wsX70, w.before args s = true) (hown : s.vm.findClass own = some m.cls) (hw : zH D Y ad kd RL M J A H0 H locs s) (ho : kd o = 7) (hlink : (Cond.fieldLink own index "SlewRails" "draft" "LSlewRails$Rail;").before args s = true) (hd : decode cc pc = .ok (.getfield index, 3)) (k : W p l e R s m args below meth c H locs cells slots Q (F0 m (pc + 3) ls (.ref (ad (o + 25)) :: rest))) : W p l e R s m args below meth c H locs cells slots Q (F0 m pc ls (.ref (ad o) :: rest)) := by
  obtain ⟨q0, hq, -⟩ := zW_get (Y := Y) (ad := ad) (kd := kd) (M := M) (J := J) (hw.2.2.2.2.2.2 o (by omega))
  rw [z_is_7 ho] at hq
  exact va_get (ci := 7) (C := RX7) (T := TX7) (N := 10) hx hb hts (fun _ h => h) hown hw.2.1 hw.1 q0 hq rfl 3 (by decide) hlink (fun _ h => h) rfl hd k
theorem zg7_images (hx : p.tables.exec = Jvm.exec) (hb : c.code = cc) (hts : ∀ w ∈ wsX70, w.before args s = true) (hown : s.vm.findClass own = some m.cls) (hw : zH D Y ad kd RL M J A H0 H locs s) (ho : kd o = 7) (hlink : (Cond.fieldLink own index "SlewRails" "images" "[LSlewRails$Rail;").before args s = true) (hd : decode cc pc = .ok (.getfield index, 3)) (k : W p l e R s m args below meth c H locs cells slots Q (F0 m (pc + 3) ls (.ref (ad (o + 30)) :: rest))) : W p l e R s m args below meth c H locs cells slots Q (F0 m pc ls (.ref (ad o) :: rest)) := by
  obtain ⟨q0, hq, -⟩ := zW_get (Y := Y) (ad := ad) (kd := kd) (M := M) (J := J) (hw.2.2.2.2.2.2 o (by omega))
  rw [z_is_7 ho] at hq
  exact va_get (ci := 7) (C := RX7) (T := TX7) (N := 10) hx hb hts (fun _ h => h) hown hw.2.1 hw.1 q0 hq rfl 4 (by decide) hlink (fun _ h => h) rfl hd k
theorem zg7_history (hx : p.tables.exec = Jvm.exec) (hb : c.code = cc) (hts : ∀ w ∈ wsX70, w.before args s = true) (hown : s.vm.findClass own = some m.cls) (hw : zH D Y ad kd RL M J A H0 H locs s) (ho : kd o = 7) (hlink : (Cond.fieldLink own index "SlewRails" "history" "LSlewRails$History;").before args s = true) (hd : decode cc pc = .ok (.getfield index, 3)) (k : W p l e R s m args below meth c H locs cells slots Q (F0 m (pc + 3) ls (.ref (ad (o + 41)) :: rest))) : W p l e R s m args below meth c H locs cells slots Q (F0 m pc ls (.ref (ad o) :: rest)) := by
  obtain ⟨q0, hq, -⟩ := zW_get (Y := Y) (ad := ad) (kd := kd) (M := M) (J := J) (hw.2.2.2.2.2.2 o (by omega))
  rw [z_is_7 ho] at hq
  exact va_get (ci := 7) (C := RX7) (T := TX7) (N := 10) hx hb hts (fun _ h => h) hown hw.2.1 hw.1 q0 hq rfl 5 (by decide) hlink (fun _ h => h) rfl hd k
theorem zg7_asks (hx : p.tables.exec = Jvm.exec) (hb : c.code = cc) (hts : ∀ w ∈ wsX70, w.before args s = true) (hown : s.vm.findClass own = some m.cls) (hw : zH D Y ad kd RL M J A H0 H locs s) (ho : kd o = 7) (hlink : (Cond.fieldLink own index "SlewRails" "asks" "LSlewRails$Asks;").before args s = true) (hd : decode cc pc = .ok (.getfield index, 3)) (k : W p l e R s m args below meth c H locs cells slots Q (F0 m (pc + 3) ls (.ref (ad (o + 163)) :: rest))) : W p l e R s m args below meth c H locs cells slots Q (F0 m pc ls (.ref (ad o) :: rest)) := by
  obtain ⟨q0, hq, -⟩ := zW_get (Y := Y) (ad := ad) (kd := kd) (M := M) (J := J) (hw.2.2.2.2.2.2 o (by omega))
  rw [z_is_7 ho] at hq
  exact va_get (ci := 7) (C := RX7) (T := TX7) (N := 10) hx hb hts (fun _ h => h) hown hw.2.1 hw.1 q0 hq rfl 6 (by decide) hlink (fun _ h => h) rfl hd k
theorem zg7_settling (hx : p.tables.exec = Jvm.exec) (hb : c.code = cc) (hts : ∀ w ∈ wsX70, w.before args s = true) (hown : s.vm.findClass own = some m.cls) (hw : zH D Y ad kd RL M J A H0 H locs s) (ho : kd o = 7) (hlink : (Cond.fieldLink own index "SlewRails" "settling" "LSlewRails$Settling;").before args s = true) (hd : decode cc pc = .ok (.getfield index, 3)) (k : W p l e R s m args below meth c H locs cells slots Q (F0 m (pc + 3) ls (.ref (ad (o + 165)) :: rest))) : W p l e R s m args below meth c H locs cells slots Q (F0 m pc ls (.ref (ad o) :: rest)) := by
  obtain ⟨q0, hq, -⟩ := zW_get (Y := Y) (ad := ad) (kd := kd) (M := M) (J := J) (hw.2.2.2.2.2.2 o (by omega))
  rw [z_is_7 ho] at hq
  exact va_get (ci := 7) (C := RX7) (T := TX7) (N := 10) hx hb hts (fun _ h => h) hown hw.2.1 hw.1 q0 hq rfl 7 (by decide) hlink (fun _ h => h) rfl hd k
theorem zg7_search (hx : p.tables.exec = Jvm.exec) (hb : c.code = cc) (hts : ∀ w ∈ wsX70, w.before args s = true) (hown : s.vm.findClass own = some m.cls) (hw : zH D Y ad kd RL M J A H0 H locs s) (ho : kd o = 7) (hlink : (Cond.fieldLink own index "SlewRails" "search" "LSlewRails$Search;").before args s = true) (hd : decode cc pc = .ok (.getfield index, 3)) (k : W p l e R s m args below meth c H locs cells slots Q (F0 m (pc + 3) ls (va_rf (if kd (o + 168) = 4 then some (ad (o + 168)) else none) :: rest))) : W p l e R s m args below meth c H locs cells slots Q (F0 m pc ls (.ref (ad o) :: rest)) := by
  obtain ⟨q0, hq, -⟩ := zW_get (Y := Y) (ad := ad) (kd := kd) (M := M) (J := J) (hw.2.2.2.2.2.2 o (by omega))
  rw [z_is_7 ho] at hq
  exact va_get (ci := 7) (C := RX7) (T := TX7) (N := 10) hx hb hts (fun _ h => h) hown hw.2.1 hw.1 q0 hq rfl 8 (by decide) hlink (fun _ h => h) rfl hd k
theorem zg7_status (hx : p.tables.exec = Jvm.exec) (hb : c.code = cc) (hts : ∀ w ∈ wsX70, w.before args s = true) (hown : s.vm.findClass own = some m.cls) (hw : zH D Y ad kd RL M J A H0 H locs s) (ho : kd o = 7) (hlink : (Cond.fieldLink own index "SlewRails" "status" "I").before args s = true) (hd : decode cc pc = .ok (.getfield index, 3)) (k : W p l e R s m args below meth c H locs cells slots Q (F0 m (pc + 3) ls (.int (M o 0) :: rest))) : W p l e R s m args below meth c H locs cells slots Q (F0 m pc ls (.ref (ad o) :: rest)) := by
  obtain ⟨q0, hq, -⟩ := zW_get (Y := Y) (ad := ad) (kd := kd) (M := M) (J := J) (hw.2.2.2.2.2.2 o (by omega))
  rw [z_is_7 ho] at hq
  exact va_get (ci := 7) (C := RX7) (T := TX7) (N := 10) hx hb hts (fun _ h => h) hown hw.2.1 hw.1 q0 hq rfl 9 (by decide) hlink (fun _ h => h) rfl hd k
theorem zp7_status {v : Int32} (hx : p.tables.exec = Jvm.exec) (hb : c.code = cc) (hts : ∀ w ∈ wsX70, w.before args s = true) (hown : s.vm.findClass own = some m.cls) (hw : zH D Y ad kd RL M J A H0 H locs s) (ho : kd o = 7) (hlink : (Cond.fieldLink own index "SlewRails" "status" "I").before args s = true) (hd : decode cc pc = .ok (.putfield index, 3)) (k : ∀ (H1 : Heap) (locs1 : List Loc), zH D Y ad kd RL (va_up M o (upd (M o) 0 v)) J A H0 H1 locs1 s → W p l e R s m args below meth c H1 locs1 cells slots Q (F0 m (pc + 3) ls rest)) : W p l e R s m args below meth c H locs cells slots Q (F0 m pc ls (.int v :: .ref (ad o) :: rest)) := by
  obtain ⟨q0, hq, hk⟩ := zW_get (Y := Y) (ad := ad) (kd := kd) (M := M) (J := J) (hw.2.2.2.2.2.2 o (by omega))
  rw [z_is_7 ho] at hq
  refine va_put (ci := 7) (C := RX7) (T := TX7) (N := 10) (ty := .int) (v := .int v) hx hb hts (fun _ h => h) tyX7 tyX7_ok nmX7 hown hw.2.1 hw.1 hw.2.2.1 hw.2.2.2.1 q0 hq rfl 9 (by decide) hlink (fun _ h => h) rfl (by decide +kernel) (vp_nar_int v) rfl (by simp) hd (fun H1 locs1 hP hD hS => ?_)
  refine k H1 locs1 (hw.next ?_ hS)
  rw [← zW_set (M' := (va_up M o (upd (M o) 0 v))) (J' := J) hw.2.2.1 hk (z_is_7 ho) (fun x hx => zc_other (va_up_ne _ _ hx) (rfl))]
  have e : .inr (7, [.ref (ad (o + 1)), .ref (ad (o + 18)), .ref (ad (o + 20)), .ref (ad (o + 25)), .ref (ad (o + 30)), .ref (ad (o + 41)), .ref (ad (o + 163)), .ref (ad (o + 165)), va_rf (if kd (o + 168) = 4 then some (ad (o + 168)) else none), .int ((va_up M o (upd (M o) 0 v)) o 0)]) = (.inr (7, List.set [.ref (ad (o + 1)), .ref (ad (o + 18)), .ref (ad (o + 20)), .ref (ad (o + 25)), .ref (ad (o + 30)), .ref (ad (o + 41)), .ref (ad (o + 163)), .ref (ad (o + 165)), va_rf (if kd (o + 168) = 4 then some (ad (o + 168)) else none), .int (M o 0)] 9 (.int v)) : va_E) := by simp [va_up_self, List.set, upd, vp_updL]
  rw [e]; exact hP
theorem z_is_8 (ho : kd o = 8) : zc ad kd Y M J o = .inr (8, [.ref (ad (o + 1)), .ref (ad (o + 2)), .ref (ad (o + 3)), .ref (ad (o + 4)), .int (M o 0), .ref (ad (o + 5)), .int (M o 1), .int (M o 2), .int (M o 3), .int (M o 4), .int (M o 5), .int (M o 6), .int (M o 7), .ref (ad (o + 6)), .ref (ad (o + 7)), .ref (ad (o + 8)), .ref (ad (o + 9)), .int (M o 8), .ref (ad (o + 10)), .ref (ad (o + 11)), .ref (ad (o + 12)), .ref (ad (o + 13)), .int (M o 9), .int (M o 10), .ref (ad (o + 14)), .int (M o 11)]) := by unfold zc zv; rw [ho]; rfl
theorem zg8_lane (hx : p.tables.exec = Jvm.exec) (hb : c.code = cc) (hts : ∀ w ∈ wsX80, w.before args s = true) (hown : s.vm.findClass own = some m.cls) (hw : zH D Y ad kd RL M J A H0 H locs s) (ho : kd o = 8) (hlink : (Cond.fieldLink own index "SlewRailsModel" "lane" "[I").before args s = true) (hd : decode cc pc = .ok (.getfield index, 3)) (k : W p l e R s m args below meth c H locs cells slots Q (F0 m (pc + 3) ls (.ref (ad (o + 1)) :: rest))) : W p l e R s m args below meth c H locs cells slots Q (F0 m pc ls (.ref (ad o) :: rest)) := by
  obtain ⟨q0, hq, -⟩ := zW_get (Y := Y) (ad := ad) (kd := kd) (M := M) (J := J) (hw.2.2.2.2.2.2 o (by omega))
  rw [z_is_8 ho] at hq
  exact va_get (ci := 8) (C := RX8) (T := TX8) (N := 26) hx hb hts (fun _ h => h) hown hw.2.1 hw.1 q0 hq rfl 0 (by decide) hlink (fun _ h => h) rfl hd k
theorem zg8_many (hx : p.tables.exec = Jvm.exec) (hb : c.code = cc) (hts : ∀ w ∈ wsX80, w.before args s = true) (hown : s.vm.findClass own = some m.cls) (hw : zH D Y ad kd RL M J A H0 H locs s) (ho : kd o = 8) (hlink : (Cond.fieldLink own index "SlewRailsModel" "many" "[I").before args s = true) (hd : decode cc pc = .ok (.getfield index, 3)) (k : W p l e R s m args below meth c H locs cells slots Q (F0 m (pc + 3) ls (.ref (ad (o + 2)) :: rest))) : W p l e R s m args below meth c H locs cells slots Q (F0 m pc ls (.ref (ad o) :: rest)) := by
  obtain ⟨q0, hq, -⟩ := zW_get (Y := Y) (ad := ad) (kd := kd) (M := M) (J := J) (hw.2.2.2.2.2.2 o (by omega))
  rw [z_is_8 ho] at hq
  exact va_get (ci := 8) (C := RX8) (T := TX8) (N := 26) hx hb hts (fun _ h => h) hown hw.2.1 hw.1 q0 hq rfl 1 (by decide) hlink (fun _ h => h) rfl hd k
theorem zg8_items (hx : p.tables.exec = Jvm.exec) (hb : c.code = cc) (hts : ∀ w ∈ wsX80, w.before args s = true) (hown : s.vm.findClass own = some m.cls) (hw : zH D Y ad kd RL M J A H0 H locs s) (ho : kd o = 8) (hlink : (Cond.fieldLink own index "SlewRailsModel" "items" "[I").before args s = true) (hd : decode cc pc = .ok (.getfield index, 3)) (k : W p l e R s m args below meth c H locs cells slots Q (F0 m (pc + 3) ls (.ref (ad (o + 3)) :: rest))) : W p l e R s m args below meth c H locs cells slots Q (F0 m pc ls (.ref (ad o) :: rest)) := by
  obtain ⟨q0, hq, -⟩ := zW_get (Y := Y) (ad := ad) (kd := kd) (M := M) (J := J) (hw.2.2.2.2.2.2 o (by omega))
  rw [z_is_8 ho] at hq
  exact va_get (ci := 8) (C := RX8) (T := TX8) (N := 26) hx hb hts (fun _ h => h) hown hw.2.1 hw.1 q0 hq rfl 2 (by decide) hlink (fun _ h => h) rfl hd k
theorem zg8_spare (hx : p.tables.exec = Jvm.exec) (hb : c.code = cc) (hts : ∀ w ∈ wsX80, w.before args s = true) (hown : s.vm.findClass own = some m.cls) (hw : zH D Y ad kd RL M J A H0 H locs s) (ho : kd o = 8) (hlink : (Cond.fieldLink own index "SlewRailsModel" "spare" "[I").before args s = true) (hd : decode cc pc = .ok (.getfield index, 3)) (k : W p l e R s m args below meth c H locs cells slots Q (F0 m (pc + 3) ls (.ref (ad (o + 4)) :: rest))) : W p l e R s m args below meth c H locs cells slots Q (F0 m pc ls (.ref (ad o) :: rest)) := by
  obtain ⟨q0, hq, -⟩ := zW_get (Y := Y) (ad := ad) (kd := kd) (M := M) (J := J) (hw.2.2.2.2.2.2 o (by omega))
  rw [z_is_8 ho] at hq
  exact va_get (ci := 8) (C := RX8) (T := TX8) (N := 26) hx hb hts (fun _ h => h) hown hw.2.1 hw.1 q0 hq rfl 3 (by decide) hlink (fun _ h => h) rfl hd k
theorem zg8_status (hx : p.tables.exec = Jvm.exec) (hb : c.code = cc) (hts : ∀ w ∈ wsX80, w.before args s = true) (hown : s.vm.findClass own = some m.cls) (hw : zH D Y ad kd RL M J A H0 H locs s) (ho : kd o = 8) (hlink : (Cond.fieldLink own index "SlewRailsModel" "status" "I").before args s = true) (hd : decode cc pc = .ok (.getfield index, 3)) (k : W p l e R s m args below meth c H locs cells slots Q (F0 m (pc + 3) ls (.int (M o 0) :: rest))) : W p l e R s m args below meth c H locs cells slots Q (F0 m pc ls (.ref (ad o) :: rest)) := by
  obtain ⟨q0, hq, -⟩ := zW_get (Y := Y) (ad := ad) (kd := kd) (M := M) (J := J) (hw.2.2.2.2.2.2 o (by omega))
  rw [z_is_8 ho] at hq
  exact va_get (ci := 8) (C := RX8) (T := TX8) (N := 26) hx hb hts (fun _ h => h) hown hw.2.1 hw.1 q0 hq rfl 4 (by decide) hlink (fun _ h => h) rfl hd k
theorem zp8_status {v : Int32} (hx : p.tables.exec = Jvm.exec) (hb : c.code = cc) (hts : ∀ w ∈ wsX80, w.before args s = true) (hown : s.vm.findClass own = some m.cls) (hw : zH D Y ad kd RL M J A H0 H locs s) (ho : kd o = 8) (hlink : (Cond.fieldLink own index "SlewRailsModel" "status" "I").before args s = true) (hd : decode cc pc = .ok (.putfield index, 3)) (k : ∀ (H1 : Heap) (locs1 : List Loc), zH D Y ad kd RL (va_up M o (upd (M o) 0 v)) J A H0 H1 locs1 s → W p l e R s m args below meth c H1 locs1 cells slots Q (F0 m (pc + 3) ls rest)) : W p l e R s m args below meth c H locs cells slots Q (F0 m pc ls (.int v :: .ref (ad o) :: rest)) := by
  obtain ⟨q0, hq, hk⟩ := zW_get (Y := Y) (ad := ad) (kd := kd) (M := M) (J := J) (hw.2.2.2.2.2.2 o (by omega))
  rw [z_is_8 ho] at hq
  refine va_put (ci := 8) (C := RX8) (T := TX8) (N := 26) (ty := .int) (v := .int v) hx hb hts (fun _ h => h) tyX8 tyX8_ok nmX8 hown hw.2.1 hw.1 hw.2.2.1 hw.2.2.2.1 q0 hq rfl 4 (by decide) hlink (fun _ h => h) rfl (by decide +kernel) (vp_nar_int v) rfl (by simp) hd (fun H1 locs1 hP hD hS => ?_)
  refine k H1 locs1 (hw.next ?_ hS)
  rw [← zW_set (M' := (va_up M o (upd (M o) 0 v))) (J' := J) hw.2.2.1 hk (z_is_8 ho) (fun x hx => zc_other (va_up_ne _ _ hx) (rfl))]
  have e : .inr (8, [.ref (ad (o + 1)), .ref (ad (o + 2)), .ref (ad (o + 3)), .ref (ad (o + 4)), .int ((va_up M o (upd (M o) 0 v)) o 0), .ref (ad (o + 5)), .int ((va_up M o (upd (M o) 0 v)) o 1), .int ((va_up M o (upd (M o) 0 v)) o 2), .int ((va_up M o (upd (M o) 0 v)) o 3), .int ((va_up M o (upd (M o) 0 v)) o 4), .int ((va_up M o (upd (M o) 0 v)) o 5), .int ((va_up M o (upd (M o) 0 v)) o 6), .int ((va_up M o (upd (M o) 0 v)) o 7), .ref (ad (o + 6)), .ref (ad (o + 7)), .ref (ad (o + 8)), .ref (ad (o + 9)), .int ((va_up M o (upd (M o) 0 v)) o 8), .ref (ad (o + 10)), .ref (ad (o + 11)), .ref (ad (o + 12)), .ref (ad (o + 13)), .int ((va_up M o (upd (M o) 0 v)) o 9), .int ((va_up M o (upd (M o) 0 v)) o 10), .ref (ad (o + 14)), .int ((va_up M o (upd (M o) 0 v)) o 11)]) = (.inr (8, List.set [.ref (ad (o + 1)), .ref (ad (o + 2)), .ref (ad (o + 3)), .ref (ad (o + 4)), .int (M o 0), .ref (ad (o + 5)), .int (M o 1), .int (M o 2), .int (M o 3), .int (M o 4), .int (M o 5), .int (M o 6), .int (M o 7), .ref (ad (o + 6)), .ref (ad (o + 7)), .ref (ad (o + 8)), .ref (ad (o + 9)), .int (M o 8), .ref (ad (o + 10)), .ref (ad (o + 11)), .ref (ad (o + 12)), .ref (ad (o + 13)), .int (M o 9), .int (M o 10), .ref (ad (o + 14)), .int (M o 11)] 4 (.int v)) : va_E) := by simp [va_up_self, List.set, upd, vp_updL]
  rw [e]; exact hP
theorem zg8_tape (hx : p.tables.exec = Jvm.exec) (hb : c.code = cc) (hts : ∀ w ∈ wsX80, w.before args s = true) (hown : s.vm.findClass own = some m.cls) (hw : zH D Y ad kd RL M J A H0 H locs s) (ho : kd o = 8) (hlink : (Cond.fieldLink own index "SlewRailsModel" "tape" "[I").before args s = true) (hd : decode cc pc = .ok (.getfield index, 3)) (k : W p l e R s m args below meth c H locs cells slots Q (F0 m (pc + 3) ls (.ref (ad (o + 5)) :: rest))) : W p l e R s m args below meth c H locs cells slots Q (F0 m pc ls (.ref (ad o) :: rest)) := by
  obtain ⟨q0, hq, -⟩ := zW_get (Y := Y) (ad := ad) (kd := kd) (M := M) (J := J) (hw.2.2.2.2.2.2 o (by omega))
  rw [z_is_8 ho] at hq
  exact va_get (ci := 8) (C := RX8) (T := TX8) (N := 26) hx hb hts (fun _ h => h) hown hw.2.1 hw.1 q0 hq rfl 5 (by decide) hlink (fun _ h => h) rfl hd k
theorem zg8_taped (hx : p.tables.exec = Jvm.exec) (hb : c.code = cc) (hts : ∀ w ∈ wsX80, w.before args s = true) (hown : s.vm.findClass own = some m.cls) (hw : zH D Y ad kd RL M J A H0 H locs s) (ho : kd o = 8) (hlink : (Cond.fieldLink own index "SlewRailsModel" "taped" "I").before args s = true) (hd : decode cc pc = .ok (.getfield index, 3)) (k : W p l e R s m args below meth c H locs cells slots Q (F0 m (pc + 3) ls (.int (M o 1) :: rest))) : W p l e R s m args below meth c H locs cells slots Q (F0 m pc ls (.ref (ad o) :: rest)) := by
  obtain ⟨q0, hq, -⟩ := zW_get (Y := Y) (ad := ad) (kd := kd) (M := M) (J := J) (hw.2.2.2.2.2.2 o (by omega))
  rw [z_is_8 ho] at hq
  exact va_get (ci := 8) (C := RX8) (T := TX8) (N := 26) hx hb hts (fun _ h => h) hown hw.2.1 hw.1 q0 hq rfl 6 (by decide) hlink (fun _ h => h) rfl hd k
theorem zp8_taped {v : Int32} (hx : p.tables.exec = Jvm.exec) (hb : c.code = cc) (hts : ∀ w ∈ wsX80, w.before args s = true) (hown : s.vm.findClass own = some m.cls) (hw : zH D Y ad kd RL M J A H0 H locs s) (ho : kd o = 8) (hlink : (Cond.fieldLink own index "SlewRailsModel" "taped" "I").before args s = true) (hd : decode cc pc = .ok (.putfield index, 3)) (k : ∀ (H1 : Heap) (locs1 : List Loc), zH D Y ad kd RL (va_up M o (upd (M o) 1 v)) J A H0 H1 locs1 s → W p l e R s m args below meth c H1 locs1 cells slots Q (F0 m (pc + 3) ls rest)) : W p l e R s m args below meth c H locs cells slots Q (F0 m pc ls (.int v :: .ref (ad o) :: rest)) := by
  obtain ⟨q0, hq, hk⟩ := zW_get (Y := Y) (ad := ad) (kd := kd) (M := M) (J := J) (hw.2.2.2.2.2.2 o (by omega))
  rw [z_is_8 ho] at hq
  refine va_put (ci := 8) (C := RX8) (T := TX8) (N := 26) (ty := .int) (v := .int v) hx hb hts (fun _ h => h) tyX8 tyX8_ok nmX8 hown hw.2.1 hw.1 hw.2.2.1 hw.2.2.2.1 q0 hq rfl 6 (by decide) hlink (fun _ h => h) rfl (by decide +kernel) (vp_nar_int v) rfl (by simp) hd (fun H1 locs1 hP hD hS => ?_)
  refine k H1 locs1 (hw.next ?_ hS)
  rw [← zW_set (M' := (va_up M o (upd (M o) 1 v))) (J' := J) hw.2.2.1 hk (z_is_8 ho) (fun x hx => zc_other (va_up_ne _ _ hx) (rfl))]
  have e : .inr (8, [.ref (ad (o + 1)), .ref (ad (o + 2)), .ref (ad (o + 3)), .ref (ad (o + 4)), .int ((va_up M o (upd (M o) 1 v)) o 0), .ref (ad (o + 5)), .int ((va_up M o (upd (M o) 1 v)) o 1), .int ((va_up M o (upd (M o) 1 v)) o 2), .int ((va_up M o (upd (M o) 1 v)) o 3), .int ((va_up M o (upd (M o) 1 v)) o 4), .int ((va_up M o (upd (M o) 1 v)) o 5), .int ((va_up M o (upd (M o) 1 v)) o 6), .int ((va_up M o (upd (M o) 1 v)) o 7), .ref (ad (o + 6)), .ref (ad (o + 7)), .ref (ad (o + 8)), .ref (ad (o + 9)), .int ((va_up M o (upd (M o) 1 v)) o 8), .ref (ad (o + 10)), .ref (ad (o + 11)), .ref (ad (o + 12)), .ref (ad (o + 13)), .int ((va_up M o (upd (M o) 1 v)) o 9), .int ((va_up M o (upd (M o) 1 v)) o 10), .ref (ad (o + 14)), .int ((va_up M o (upd (M o) 1 v)) o 11)]) = (.inr (8, List.set [.ref (ad (o + 1)), .ref (ad (o + 2)), .ref (ad (o + 3)), .ref (ad (o + 4)), .int (M o 0), .ref (ad (o + 5)), .int (M o 1), .int (M o 2), .int (M o 3), .int (M o 4), .int (M o 5), .int (M o 6), .int (M o 7), .ref (ad (o + 6)), .ref (ad (o + 7)), .ref (ad (o + 8)), .ref (ad (o + 9)), .int (M o 8), .ref (ad (o + 10)), .ref (ad (o + 11)), .ref (ad (o + 12)), .ref (ad (o + 13)), .int (M o 9), .int (M o 10), .ref (ad (o + 14)), .int (M o 11)] 6 (.int v)) : va_E) := by simp [va_up_self, List.set, upd, vp_updL]
  rw [e]; exact hP
theorem zg8_faultKind (hx : p.tables.exec = Jvm.exec) (hb : c.code = cc) (hts : ∀ w ∈ wsX80, w.before args s = true) (hown : s.vm.findClass own = some m.cls) (hw : zH D Y ad kd RL M J A H0 H locs s) (ho : kd o = 8) (hlink : (Cond.fieldLink own index "SlewRailsModel" "faultKind" "I").before args s = true) (hd : decode cc pc = .ok (.getfield index, 3)) (k : W p l e R s m args below meth c H locs cells slots Q (F0 m (pc + 3) ls (.int (M o 2) :: rest))) : W p l e R s m args below meth c H locs cells slots Q (F0 m pc ls (.ref (ad o) :: rest)) := by
  obtain ⟨q0, hq, -⟩ := zW_get (Y := Y) (ad := ad) (kd := kd) (M := M) (J := J) (hw.2.2.2.2.2.2 o (by omega))
  rw [z_is_8 ho] at hq
  exact va_get (ci := 8) (C := RX8) (T := TX8) (N := 26) hx hb hts (fun _ h => h) hown hw.2.1 hw.1 q0 hq rfl 7 (by decide) hlink (fun _ h => h) rfl hd k
theorem zp8_faultKind {v : Int32} (hx : p.tables.exec = Jvm.exec) (hb : c.code = cc) (hts : ∀ w ∈ wsX80, w.before args s = true) (hown : s.vm.findClass own = some m.cls) (hw : zH D Y ad kd RL M J A H0 H locs s) (ho : kd o = 8) (hlink : (Cond.fieldLink own index "SlewRailsModel" "faultKind" "I").before args s = true) (hd : decode cc pc = .ok (.putfield index, 3)) (k : ∀ (H1 : Heap) (locs1 : List Loc), zH D Y ad kd RL (va_up M o (upd (M o) 2 v)) J A H0 H1 locs1 s → W p l e R s m args below meth c H1 locs1 cells slots Q (F0 m (pc + 3) ls rest)) : W p l e R s m args below meth c H locs cells slots Q (F0 m pc ls (.int v :: .ref (ad o) :: rest)) := by
  obtain ⟨q0, hq, hk⟩ := zW_get (Y := Y) (ad := ad) (kd := kd) (M := M) (J := J) (hw.2.2.2.2.2.2 o (by omega))
  rw [z_is_8 ho] at hq
  refine va_put (ci := 8) (C := RX8) (T := TX8) (N := 26) (ty := .int) (v := .int v) hx hb hts (fun _ h => h) tyX8 tyX8_ok nmX8 hown hw.2.1 hw.1 hw.2.2.1 hw.2.2.2.1 q0 hq rfl 7 (by decide) hlink (fun _ h => h) rfl (by decide +kernel) (vp_nar_int v) rfl (by simp) hd (fun H1 locs1 hP hD hS => ?_)
  refine k H1 locs1 (hw.next ?_ hS)
  rw [← zW_set (M' := (va_up M o (upd (M o) 2 v))) (J' := J) hw.2.2.1 hk (z_is_8 ho) (fun x hx => zc_other (va_up_ne _ _ hx) (rfl))]
  have e : .inr (8, [.ref (ad (o + 1)), .ref (ad (o + 2)), .ref (ad (o + 3)), .ref (ad (o + 4)), .int ((va_up M o (upd (M o) 2 v)) o 0), .ref (ad (o + 5)), .int ((va_up M o (upd (M o) 2 v)) o 1), .int ((va_up M o (upd (M o) 2 v)) o 2), .int ((va_up M o (upd (M o) 2 v)) o 3), .int ((va_up M o (upd (M o) 2 v)) o 4), .int ((va_up M o (upd (M o) 2 v)) o 5), .int ((va_up M o (upd (M o) 2 v)) o 6), .int ((va_up M o (upd (M o) 2 v)) o 7), .ref (ad (o + 6)), .ref (ad (o + 7)), .ref (ad (o + 8)), .ref (ad (o + 9)), .int ((va_up M o (upd (M o) 2 v)) o 8), .ref (ad (o + 10)), .ref (ad (o + 11)), .ref (ad (o + 12)), .ref (ad (o + 13)), .int ((va_up M o (upd (M o) 2 v)) o 9), .int ((va_up M o (upd (M o) 2 v)) o 10), .ref (ad (o + 14)), .int ((va_up M o (upd (M o) 2 v)) o 11)]) = (.inr (8, List.set [.ref (ad (o + 1)), .ref (ad (o + 2)), .ref (ad (o + 3)), .ref (ad (o + 4)), .int (M o 0), .ref (ad (o + 5)), .int (M o 1), .int (M o 2), .int (M o 3), .int (M o 4), .int (M o 5), .int (M o 6), .int (M o 7), .ref (ad (o + 6)), .ref (ad (o + 7)), .ref (ad (o + 8)), .ref (ad (o + 9)), .int (M o 8), .ref (ad (o + 10)), .ref (ad (o + 11)), .ref (ad (o + 12)), .ref (ad (o + 13)), .int (M o 9), .int (M o 10), .ref (ad (o + 14)), .int (M o 11)] 7 (.int v)) : va_E) := by simp [va_up_self, List.set, upd, vp_updL]
  rw [e]; exact hP
theorem zg8_faultPlace (hx : p.tables.exec = Jvm.exec) (hb : c.code = cc) (hts : ∀ w ∈ wsX80, w.before args s = true) (hown : s.vm.findClass own = some m.cls) (hw : zH D Y ad kd RL M J A H0 H locs s) (ho : kd o = 8) (hlink : (Cond.fieldLink own index "SlewRailsModel" "faultPlace" "I").before args s = true) (hd : decode cc pc = .ok (.getfield index, 3)) (k : W p l e R s m args below meth c H locs cells slots Q (F0 m (pc + 3) ls (.int (M o 3) :: rest))) : W p l e R s m args below meth c H locs cells slots Q (F0 m pc ls (.ref (ad o) :: rest)) := by
  obtain ⟨q0, hq, -⟩ := zW_get (Y := Y) (ad := ad) (kd := kd) (M := M) (J := J) (hw.2.2.2.2.2.2 o (by omega))
  rw [z_is_8 ho] at hq
  exact va_get (ci := 8) (C := RX8) (T := TX8) (N := 26) hx hb hts (fun _ h => h) hown hw.2.1 hw.1 q0 hq rfl 8 (by decide) hlink (fun _ h => h) rfl hd k
theorem zp8_faultPlace {v : Int32} (hx : p.tables.exec = Jvm.exec) (hb : c.code = cc) (hts : ∀ w ∈ wsX80, w.before args s = true) (hown : s.vm.findClass own = some m.cls) (hw : zH D Y ad kd RL M J A H0 H locs s) (ho : kd o = 8) (hlink : (Cond.fieldLink own index "SlewRailsModel" "faultPlace" "I").before args s = true) (hd : decode cc pc = .ok (.putfield index, 3)) (k : ∀ (H1 : Heap) (locs1 : List Loc), zH D Y ad kd RL (va_up M o (upd (M o) 3 v)) J A H0 H1 locs1 s → W p l e R s m args below meth c H1 locs1 cells slots Q (F0 m (pc + 3) ls rest)) : W p l e R s m args below meth c H locs cells slots Q (F0 m pc ls (.int v :: .ref (ad o) :: rest)) := by
  obtain ⟨q0, hq, hk⟩ := zW_get (Y := Y) (ad := ad) (kd := kd) (M := M) (J := J) (hw.2.2.2.2.2.2 o (by omega))
  rw [z_is_8 ho] at hq
  refine va_put (ci := 8) (C := RX8) (T := TX8) (N := 26) (ty := .int) (v := .int v) hx hb hts (fun _ h => h) tyX8 tyX8_ok nmX8 hown hw.2.1 hw.1 hw.2.2.1 hw.2.2.2.1 q0 hq rfl 8 (by decide) hlink (fun _ h => h) rfl (by decide +kernel) (vp_nar_int v) rfl (by simp) hd (fun H1 locs1 hP hD hS => ?_)
  refine k H1 locs1 (hw.next ?_ hS)
  rw [← zW_set (M' := (va_up M o (upd (M o) 3 v))) (J' := J) hw.2.2.1 hk (z_is_8 ho) (fun x hx => zc_other (va_up_ne _ _ hx) (rfl))]
  have e : .inr (8, [.ref (ad (o + 1)), .ref (ad (o + 2)), .ref (ad (o + 3)), .ref (ad (o + 4)), .int ((va_up M o (upd (M o) 3 v)) o 0), .ref (ad (o + 5)), .int ((va_up M o (upd (M o) 3 v)) o 1), .int ((va_up M o (upd (M o) 3 v)) o 2), .int ((va_up M o (upd (M o) 3 v)) o 3), .int ((va_up M o (upd (M o) 3 v)) o 4), .int ((va_up M o (upd (M o) 3 v)) o 5), .int ((va_up M o (upd (M o) 3 v)) o 6), .int ((va_up M o (upd (M o) 3 v)) o 7), .ref (ad (o + 6)), .ref (ad (o + 7)), .ref (ad (o + 8)), .ref (ad (o + 9)), .int ((va_up M o (upd (M o) 3 v)) o 8), .ref (ad (o + 10)), .ref (ad (o + 11)), .ref (ad (o + 12)), .ref (ad (o + 13)), .int ((va_up M o (upd (M o) 3 v)) o 9), .int ((va_up M o (upd (M o) 3 v)) o 10), .ref (ad (o + 14)), .int ((va_up M o (upd (M o) 3 v)) o 11)]) = (.inr (8, List.set [.ref (ad (o + 1)), .ref (ad (o + 2)), .ref (ad (o + 3)), .ref (ad (o + 4)), .int (M o 0), .ref (ad (o + 5)), .int (M o 1), .int (M o 2), .int (M o 3), .int (M o 4), .int (M o 5), .int (M o 6), .int (M o 7), .ref (ad (o + 6)), .ref (ad (o + 7)), .ref (ad (o + 8)), .ref (ad (o + 9)), .int (M o 8), .ref (ad (o + 10)), .ref (ad (o + 11)), .ref (ad (o + 12)), .ref (ad (o + 13)), .int (M o 9), .int (M o 10), .ref (ad (o + 14)), .int (M o 11)] 8 (.int v)) : va_E) := by simp [va_up_self, List.set, upd, vp_updL]
  rw [e]; exact hP
theorem zg8_at (hx : p.tables.exec = Jvm.exec) (hb : c.code = cc) (hts : ∀ w ∈ wsX80, w.before args s = true) (hown : s.vm.findClass own = some m.cls) (hw : zH D Y ad kd RL M J A H0 H locs s) (ho : kd o = 8) (hlink : (Cond.fieldLink own index "SlewRailsModel" "at" "I").before args s = true) (hd : decode cc pc = .ok (.getfield index, 3)) (k : W p l e R s m args below meth c H locs cells slots Q (F0 m (pc + 3) ls (.int (M o 4) :: rest))) : W p l e R s m args below meth c H locs cells slots Q (F0 m pc ls (.ref (ad o) :: rest)) := by
  obtain ⟨q0, hq, -⟩ := zW_get (Y := Y) (ad := ad) (kd := kd) (M := M) (J := J) (hw.2.2.2.2.2.2 o (by omega))
  rw [z_is_8 ho] at hq
  exact va_get (ci := 8) (C := RX8) (T := TX8) (N := 26) hx hb hts (fun _ h => h) hown hw.2.1 hw.1 q0 hq rfl 9 (by decide) hlink (fun _ h => h) rfl hd k
theorem zp8_at {v : Int32} (hx : p.tables.exec = Jvm.exec) (hb : c.code = cc) (hts : ∀ w ∈ wsX80, w.before args s = true) (hown : s.vm.findClass own = some m.cls) (hw : zH D Y ad kd RL M J A H0 H locs s) (ho : kd o = 8) (hlink : (Cond.fieldLink own index "SlewRailsModel" "at" "I").before args s = true) (hd : decode cc pc = .ok (.putfield index, 3)) (k : ∀ (H1 : Heap) (locs1 : List Loc), zH D Y ad kd RL (va_up M o (upd (M o) 4 v)) J A H0 H1 locs1 s → W p l e R s m args below meth c H1 locs1 cells slots Q (F0 m (pc + 3) ls rest)) : W p l e R s m args below meth c H locs cells slots Q (F0 m pc ls (.int v :: .ref (ad o) :: rest)) := by
  obtain ⟨q0, hq, hk⟩ := zW_get (Y := Y) (ad := ad) (kd := kd) (M := M) (J := J) (hw.2.2.2.2.2.2 o (by omega))
  rw [z_is_8 ho] at hq
  refine va_put (ci := 8) (C := RX8) (T := TX8) (N := 26) (ty := .int) (v := .int v) hx hb hts (fun _ h => h) tyX8 tyX8_ok nmX8 hown hw.2.1 hw.1 hw.2.2.1 hw.2.2.2.1 q0 hq rfl 9 (by decide) hlink (fun _ h => h) rfl (by decide +kernel) (vp_nar_int v) rfl (by simp) hd (fun H1 locs1 hP hD hS => ?_)
  refine k H1 locs1 (hw.next ?_ hS)
  rw [← zW_set (M' := (va_up M o (upd (M o) 4 v))) (J' := J) hw.2.2.1 hk (z_is_8 ho) (fun x hx => zc_other (va_up_ne _ _ hx) (rfl))]
  have e : .inr (8, [.ref (ad (o + 1)), .ref (ad (o + 2)), .ref (ad (o + 3)), .ref (ad (o + 4)), .int ((va_up M o (upd (M o) 4 v)) o 0), .ref (ad (o + 5)), .int ((va_up M o (upd (M o) 4 v)) o 1), .int ((va_up M o (upd (M o) 4 v)) o 2), .int ((va_up M o (upd (M o) 4 v)) o 3), .int ((va_up M o (upd (M o) 4 v)) o 4), .int ((va_up M o (upd (M o) 4 v)) o 5), .int ((va_up M o (upd (M o) 4 v)) o 6), .int ((va_up M o (upd (M o) 4 v)) o 7), .ref (ad (o + 6)), .ref (ad (o + 7)), .ref (ad (o + 8)), .ref (ad (o + 9)), .int ((va_up M o (upd (M o) 4 v)) o 8), .ref (ad (o + 10)), .ref (ad (o + 11)), .ref (ad (o + 12)), .ref (ad (o + 13)), .int ((va_up M o (upd (M o) 4 v)) o 9), .int ((va_up M o (upd (M o) 4 v)) o 10), .ref (ad (o + 14)), .int ((va_up M o (upd (M o) 4 v)) o 11)]) = (.inr (8, List.set [.ref (ad (o + 1)), .ref (ad (o + 2)), .ref (ad (o + 3)), .ref (ad (o + 4)), .int (M o 0), .ref (ad (o + 5)), .int (M o 1), .int (M o 2), .int (M o 3), .int (M o 4), .int (M o 5), .int (M o 6), .int (M o 7), .ref (ad (o + 6)), .ref (ad (o + 7)), .ref (ad (o + 8)), .ref (ad (o + 9)), .int (M o 8), .ref (ad (o + 10)), .ref (ad (o + 11)), .ref (ad (o + 12)), .ref (ad (o + 13)), .int (M o 9), .int (M o 10), .ref (ad (o + 14)), .int (M o 11)] 9 (.int v)) : va_E) := by simp [va_up_self, List.set, upd, vp_updL]
  rw [e]; exact hP
theorem zg8_start (hx : p.tables.exec = Jvm.exec) (hb : c.code = cc) (hts : ∀ w ∈ wsX80, w.before args s = true) (hown : s.vm.findClass own = some m.cls) (hw : zH D Y ad kd RL M J A H0 H locs s) (ho : kd o = 8) (hlink : (Cond.fieldLink own index "SlewRailsModel" "start" "I").before args s = true) (hd : decode cc pc = .ok (.getfield index, 3)) (k : W p l e R s m args below meth c H locs cells slots Q (F0 m (pc + 3) ls (.int (M o 5) :: rest))) : W p l e R s m args below meth c H locs cells slots Q (F0 m pc ls (.ref (ad o) :: rest)) := by
  obtain ⟨q0, hq, -⟩ := zW_get (Y := Y) (ad := ad) (kd := kd) (M := M) (J := J) (hw.2.2.2.2.2.2 o (by omega))
  rw [z_is_8 ho] at hq
  exact va_get (ci := 8) (C := RX8) (T := TX8) (N := 26) hx hb hts (fun _ h => h) hown hw.2.1 hw.1 q0 hq rfl 10 (by decide) hlink (fun _ h => h) rfl hd k
theorem zp8_start {v : Int32} (hx : p.tables.exec = Jvm.exec) (hb : c.code = cc) (hts : ∀ w ∈ wsX80, w.before args s = true) (hown : s.vm.findClass own = some m.cls) (hw : zH D Y ad kd RL M J A H0 H locs s) (ho : kd o = 8) (hlink : (Cond.fieldLink own index "SlewRailsModel" "start" "I").before args s = true) (hd : decode cc pc = .ok (.putfield index, 3)) (k : ∀ (H1 : Heap) (locs1 : List Loc), zH D Y ad kd RL (va_up M o (upd (M o) 5 v)) J A H0 H1 locs1 s → W p l e R s m args below meth c H1 locs1 cells slots Q (F0 m (pc + 3) ls rest)) : W p l e R s m args below meth c H locs cells slots Q (F0 m pc ls (.int v :: .ref (ad o) :: rest)) := by
  obtain ⟨q0, hq, hk⟩ := zW_get (Y := Y) (ad := ad) (kd := kd) (M := M) (J := J) (hw.2.2.2.2.2.2 o (by omega))
  rw [z_is_8 ho] at hq
  refine va_put (ci := 8) (C := RX8) (T := TX8) (N := 26) (ty := .int) (v := .int v) hx hb hts (fun _ h => h) tyX8 tyX8_ok nmX8 hown hw.2.1 hw.1 hw.2.2.1 hw.2.2.2.1 q0 hq rfl 10 (by decide) hlink (fun _ h => h) rfl (by decide +kernel) (vp_nar_int v) rfl (by simp) hd (fun H1 locs1 hP hD hS => ?_)
  refine k H1 locs1 (hw.next ?_ hS)
  rw [← zW_set (M' := (va_up M o (upd (M o) 5 v))) (J' := J) hw.2.2.1 hk (z_is_8 ho) (fun x hx => zc_other (va_up_ne _ _ hx) (rfl))]
  have e : .inr (8, [.ref (ad (o + 1)), .ref (ad (o + 2)), .ref (ad (o + 3)), .ref (ad (o + 4)), .int ((va_up M o (upd (M o) 5 v)) o 0), .ref (ad (o + 5)), .int ((va_up M o (upd (M o) 5 v)) o 1), .int ((va_up M o (upd (M o) 5 v)) o 2), .int ((va_up M o (upd (M o) 5 v)) o 3), .int ((va_up M o (upd (M o) 5 v)) o 4), .int ((va_up M o (upd (M o) 5 v)) o 5), .int ((va_up M o (upd (M o) 5 v)) o 6), .int ((va_up M o (upd (M o) 5 v)) o 7), .ref (ad (o + 6)), .ref (ad (o + 7)), .ref (ad (o + 8)), .ref (ad (o + 9)), .int ((va_up M o (upd (M o) 5 v)) o 8), .ref (ad (o + 10)), .ref (ad (o + 11)), .ref (ad (o + 12)), .ref (ad (o + 13)), .int ((va_up M o (upd (M o) 5 v)) o 9), .int ((va_up M o (upd (M o) 5 v)) o 10), .ref (ad (o + 14)), .int ((va_up M o (upd (M o) 5 v)) o 11)]) = (.inr (8, List.set [.ref (ad (o + 1)), .ref (ad (o + 2)), .ref (ad (o + 3)), .ref (ad (o + 4)), .int (M o 0), .ref (ad (o + 5)), .int (M o 1), .int (M o 2), .int (M o 3), .int (M o 4), .int (M o 5), .int (M o 6), .int (M o 7), .ref (ad (o + 6)), .ref (ad (o + 7)), .ref (ad (o + 8)), .ref (ad (o + 9)), .int (M o 8), .ref (ad (o + 10)), .ref (ad (o + 11)), .ref (ad (o + 12)), .ref (ad (o + 13)), .int (M o 9), .int (M o 10), .ref (ad (o + 14)), .int (M o 11)] 10 (.int v)) : va_E) := by simp [va_up_self, List.set, upd, vp_updL]
  rw [e]; exact hP
theorem zg8_token (hx : p.tables.exec = Jvm.exec) (hb : c.code = cc) (hts : ∀ w ∈ wsX80, w.before args s = true) (hown : s.vm.findClass own = some m.cls) (hw : zH D Y ad kd RL M J A H0 H locs s) (ho : kd o = 8) (hlink : (Cond.fieldLink own index "SlewRailsModel" "token" "I").before args s = true) (hd : decode cc pc = .ok (.getfield index, 3)) (k : W p l e R s m args below meth c H locs cells slots Q (F0 m (pc + 3) ls (.int (M o 6) :: rest))) : W p l e R s m args below meth c H locs cells slots Q (F0 m pc ls (.ref (ad o) :: rest)) := by
  obtain ⟨q0, hq, -⟩ := zW_get (Y := Y) (ad := ad) (kd := kd) (M := M) (J := J) (hw.2.2.2.2.2.2 o (by omega))
  rw [z_is_8 ho] at hq
  exact va_get (ci := 8) (C := RX8) (T := TX8) (N := 26) hx hb hts (fun _ h => h) hown hw.2.1 hw.1 q0 hq rfl 11 (by decide) hlink (fun _ h => h) rfl hd k
theorem zp8_token {v : Int32} (hx : p.tables.exec = Jvm.exec) (hb : c.code = cc) (hts : ∀ w ∈ wsX80, w.before args s = true) (hown : s.vm.findClass own = some m.cls) (hw : zH D Y ad kd RL M J A H0 H locs s) (ho : kd o = 8) (hlink : (Cond.fieldLink own index "SlewRailsModel" "token" "I").before args s = true) (hd : decode cc pc = .ok (.putfield index, 3)) (k : ∀ (H1 : Heap) (locs1 : List Loc), zH D Y ad kd RL (va_up M o (upd (M o) 6 v)) J A H0 H1 locs1 s → W p l e R s m args below meth c H1 locs1 cells slots Q (F0 m (pc + 3) ls rest)) : W p l e R s m args below meth c H locs cells slots Q (F0 m pc ls (.int v :: .ref (ad o) :: rest)) := by
  obtain ⟨q0, hq, hk⟩ := zW_get (Y := Y) (ad := ad) (kd := kd) (M := M) (J := J) (hw.2.2.2.2.2.2 o (by omega))
  rw [z_is_8 ho] at hq
  refine va_put (ci := 8) (C := RX8) (T := TX8) (N := 26) (ty := .int) (v := .int v) hx hb hts (fun _ h => h) tyX8 tyX8_ok nmX8 hown hw.2.1 hw.1 hw.2.2.1 hw.2.2.2.1 q0 hq rfl 11 (by decide) hlink (fun _ h => h) rfl (by decide +kernel) (vp_nar_int v) rfl (by simp) hd (fun H1 locs1 hP hD hS => ?_)
  refine k H1 locs1 (hw.next ?_ hS)
  rw [← zW_set (M' := (va_up M o (upd (M o) 6 v))) (J' := J) hw.2.2.1 hk (z_is_8 ho) (fun x hx => zc_other (va_up_ne _ _ hx) (rfl))]
  have e : .inr (8, [.ref (ad (o + 1)), .ref (ad (o + 2)), .ref (ad (o + 3)), .ref (ad (o + 4)), .int ((va_up M o (upd (M o) 6 v)) o 0), .ref (ad (o + 5)), .int ((va_up M o (upd (M o) 6 v)) o 1), .int ((va_up M o (upd (M o) 6 v)) o 2), .int ((va_up M o (upd (M o) 6 v)) o 3), .int ((va_up M o (upd (M o) 6 v)) o 4), .int ((va_up M o (upd (M o) 6 v)) o 5), .int ((va_up M o (upd (M o) 6 v)) o 6), .int ((va_up M o (upd (M o) 6 v)) o 7), .ref (ad (o + 6)), .ref (ad (o + 7)), .ref (ad (o + 8)), .ref (ad (o + 9)), .int ((va_up M o (upd (M o) 6 v)) o 8), .ref (ad (o + 10)), .ref (ad (o + 11)), .ref (ad (o + 12)), .ref (ad (o + 13)), .int ((va_up M o (upd (M o) 6 v)) o 9), .int ((va_up M o (upd (M o) 6 v)) o 10), .ref (ad (o + 14)), .int ((va_up M o (upd (M o) 6 v)) o 11)]) = (.inr (8, List.set [.ref (ad (o + 1)), .ref (ad (o + 2)), .ref (ad (o + 3)), .ref (ad (o + 4)), .int (M o 0), .ref (ad (o + 5)), .int (M o 1), .int (M o 2), .int (M o 3), .int (M o 4), .int (M o 5), .int (M o 6), .int (M o 7), .ref (ad (o + 6)), .ref (ad (o + 7)), .ref (ad (o + 8)), .ref (ad (o + 9)), .int (M o 8), .ref (ad (o + 10)), .ref (ad (o + 11)), .ref (ad (o + 12)), .ref (ad (o + 13)), .int (M o 9), .int (M o 10), .ref (ad (o + 14)), .int (M o 11)] 11 (.int v)) : va_E) := by simp [va_up_self, List.set, upd, vp_updL]
  rw [e]; exact hP
theorem zg8_value (hx : p.tables.exec = Jvm.exec) (hb : c.code = cc) (hts : ∀ w ∈ wsX80, w.before args s = true) (hown : s.vm.findClass own = some m.cls) (hw : zH D Y ad kd RL M J A H0 H locs s) (ho : kd o = 8) (hlink : (Cond.fieldLink own index "SlewRailsModel" "value" "I").before args s = true) (hd : decode cc pc = .ok (.getfield index, 3)) (k : W p l e R s m args below meth c H locs cells slots Q (F0 m (pc + 3) ls (.int (M o 7) :: rest))) : W p l e R s m args below meth c H locs cells slots Q (F0 m pc ls (.ref (ad o) :: rest)) := by
  obtain ⟨q0, hq, -⟩ := zW_get (Y := Y) (ad := ad) (kd := kd) (M := M) (J := J) (hw.2.2.2.2.2.2 o (by omega))
  rw [z_is_8 ho] at hq
  exact va_get (ci := 8) (C := RX8) (T := TX8) (N := 26) hx hb hts (fun _ h => h) hown hw.2.1 hw.1 q0 hq rfl 12 (by decide) hlink (fun _ h => h) rfl hd k
theorem zp8_value {v : Int32} (hx : p.tables.exec = Jvm.exec) (hb : c.code = cc) (hts : ∀ w ∈ wsX80, w.before args s = true) (hown : s.vm.findClass own = some m.cls) (hw : zH D Y ad kd RL M J A H0 H locs s) (ho : kd o = 8) (hlink : (Cond.fieldLink own index "SlewRailsModel" "value" "I").before args s = true) (hd : decode cc pc = .ok (.putfield index, 3)) (k : ∀ (H1 : Heap) (locs1 : List Loc), zH D Y ad kd RL (va_up M o (upd (M o) 7 v)) J A H0 H1 locs1 s → W p l e R s m args below meth c H1 locs1 cells slots Q (F0 m (pc + 3) ls rest)) : W p l e R s m args below meth c H locs cells slots Q (F0 m pc ls (.int v :: .ref (ad o) :: rest)) := by
  obtain ⟨q0, hq, hk⟩ := zW_get (Y := Y) (ad := ad) (kd := kd) (M := M) (J := J) (hw.2.2.2.2.2.2 o (by omega))
  rw [z_is_8 ho] at hq
  refine va_put (ci := 8) (C := RX8) (T := TX8) (N := 26) (ty := .int) (v := .int v) hx hb hts (fun _ h => h) tyX8 tyX8_ok nmX8 hown hw.2.1 hw.1 hw.2.2.1 hw.2.2.2.1 q0 hq rfl 12 (by decide) hlink (fun _ h => h) rfl (by decide +kernel) (vp_nar_int v) rfl (by simp) hd (fun H1 locs1 hP hD hS => ?_)
  refine k H1 locs1 (hw.next ?_ hS)
  rw [← zW_set (M' := (va_up M o (upd (M o) 7 v))) (J' := J) hw.2.2.1 hk (z_is_8 ho) (fun x hx => zc_other (va_up_ne _ _ hx) (rfl))]
  have e : .inr (8, [.ref (ad (o + 1)), .ref (ad (o + 2)), .ref (ad (o + 3)), .ref (ad (o + 4)), .int ((va_up M o (upd (M o) 7 v)) o 0), .ref (ad (o + 5)), .int ((va_up M o (upd (M o) 7 v)) o 1), .int ((va_up M o (upd (M o) 7 v)) o 2), .int ((va_up M o (upd (M o) 7 v)) o 3), .int ((va_up M o (upd (M o) 7 v)) o 4), .int ((va_up M o (upd (M o) 7 v)) o 5), .int ((va_up M o (upd (M o) 7 v)) o 6), .int ((va_up M o (upd (M o) 7 v)) o 7), .ref (ad (o + 6)), .ref (ad (o + 7)), .ref (ad (o + 8)), .ref (ad (o + 9)), .int ((va_up M o (upd (M o) 7 v)) o 8), .ref (ad (o + 10)), .ref (ad (o + 11)), .ref (ad (o + 12)), .ref (ad (o + 13)), .int ((va_up M o (upd (M o) 7 v)) o 9), .int ((va_up M o (upd (M o) 7 v)) o 10), .ref (ad (o + 14)), .int ((va_up M o (upd (M o) 7 v)) o 11)]) = (.inr (8, List.set [.ref (ad (o + 1)), .ref (ad (o + 2)), .ref (ad (o + 3)), .ref (ad (o + 4)), .int (M o 0), .ref (ad (o + 5)), .int (M o 1), .int (M o 2), .int (M o 3), .int (M o 4), .int (M o 5), .int (M o 6), .int (M o 7), .ref (ad (o + 6)), .ref (ad (o + 7)), .ref (ad (o + 8)), .ref (ad (o + 9)), .int (M o 8), .ref (ad (o + 10)), .ref (ad (o + 11)), .ref (ad (o + 12)), .ref (ad (o + 13)), .int (M o 9), .int (M o 10), .ref (ad (o + 14)), .int (M o 11)] 12 (.int v)) : va_E) := by simp [va_up_self, List.set, upd, vp_updL]
  rw [e]; exact hP
theorem zg8_now (hx : p.tables.exec = Jvm.exec) (hb : c.code = cc) (hts : ∀ w ∈ wsX80, w.before args s = true) (hown : s.vm.findClass own = some m.cls) (hw : zH D Y ad kd RL M J A H0 H locs s) (ho : kd o = 8) (hlink : (Cond.fieldLink own index "SlewRailsModel" "now" "[I").before args s = true) (hd : decode cc pc = .ok (.getfield index, 3)) (k : W p l e R s m args below meth c H locs cells slots Q (F0 m (pc + 3) ls (.ref (ad (o + 6)) :: rest))) : W p l e R s m args below meth c H locs cells slots Q (F0 m pc ls (.ref (ad o) :: rest)) := by
  obtain ⟨q0, hq, -⟩ := zW_get (Y := Y) (ad := ad) (kd := kd) (M := M) (J := J) (hw.2.2.2.2.2.2 o (by omega))
  rw [z_is_8 ho] at hq
  exact va_get (ci := 8) (C := RX8) (T := TX8) (N := 26) hx hb hts (fun _ h => h) hown hw.2.1 hw.1 q0 hq rfl 13 (by decide) hlink (fun _ h => h) rfl hd k
theorem zg8_draft (hx : p.tables.exec = Jvm.exec) (hb : c.code = cc) (hts : ∀ w ∈ wsX80, w.before args s = true) (hown : s.vm.findClass own = some m.cls) (hw : zH D Y ad kd RL M J A H0 H locs s) (ho : kd o = 8) (hlink : (Cond.fieldLink own index "SlewRailsModel" "draft" "[I").before args s = true) (hd : decode cc pc = .ok (.getfield index, 3)) (k : W p l e R s m args below meth c H locs cells slots Q (F0 m (pc + 3) ls (.ref (ad (o + 7)) :: rest))) : W p l e R s m args below meth c H locs cells slots Q (F0 m pc ls (.ref (ad o) :: rest)) := by
  obtain ⟨q0, hq, -⟩ := zW_get (Y := Y) (ad := ad) (kd := kd) (M := M) (J := J) (hw.2.2.2.2.2.2 o (by omega))
  rw [z_is_8 ho] at hq
  exact va_get (ci := 8) (C := RX8) (T := TX8) (N := 26) hx hb hts (fun _ h => h) hown hw.2.1 hw.1 q0 hq rfl 14 (by decide) hlink (fun _ h => h) rfl hd k
theorem zg8_tried (hx : p.tables.exec = Jvm.exec) (hb : c.code = cc) (hts : ∀ w ∈ wsX80, w.before args s = true) (hown : s.vm.findClass own = some m.cls) (hw : zH D Y ad kd RL M J A H0 H locs s) (ho : kd o = 8) (hlink : (Cond.fieldLink own index "SlewRailsModel" "tried" "[I").before args s = true) (hd : decode cc pc = .ok (.getfield index, 3)) (k : W p l e R s m args below meth c H locs cells slots Q (F0 m (pc + 3) ls (.ref (ad (o + 8)) :: rest))) : W p l e R s m args below meth c H locs cells slots Q (F0 m pc ls (.ref (ad o) :: rest)) := by
  obtain ⟨q0, hq, -⟩ := zW_get (Y := Y) (ad := ad) (kd := kd) (M := M) (J := J) (hw.2.2.2.2.2.2 o (by omega))
  rw [z_is_8 ho] at hq
  exact va_get (ci := 8) (C := RX8) (T := TX8) (N := 26) hx hb hts (fun _ h => h) hown hw.2.1 hw.1 q0 hq rfl 15 (by decide) hlink (fun _ h => h) rfl hd k
theorem zg8_past (hx : p.tables.exec = Jvm.exec) (hb : c.code = cc) (hts : ∀ w ∈ wsX80, w.before args s = true) (hown : s.vm.findClass own = some m.cls) (hw : zH D Y ad kd RL M J A H0 H locs s) (ho : kd o = 8) (hlink : (Cond.fieldLink own index "SlewRailsModel" "past" "[I").before args s = true) (hd : decode cc pc = .ok (.getfield index, 3)) (k : W p l e R s m args below meth c H locs cells slots Q (F0 m (pc + 3) ls (.ref (ad (o + 9)) :: rest))) : W p l e R s m args below meth c H locs cells slots Q (F0 m pc ls (.ref (ad o) :: rest)) := by
  obtain ⟨q0, hq, -⟩ := zW_get (Y := Y) (ad := ad) (kd := kd) (M := M) (J := J) (hw.2.2.2.2.2.2 o (by omega))
  rw [z_is_8 ho] at hq
  exact va_get (ci := 8) (C := RX8) (T := TX8) (N := 26) hx hb hts (fun _ h => h) hown hw.2.1 hw.1 q0 hq rfl 16 (by decide) hlink (fun _ h => h) rfl hd k
theorem zg8_acts (hx : p.tables.exec = Jvm.exec) (hb : c.code = cc) (hts : ∀ w ∈ wsX80, w.before args s = true) (hown : s.vm.findClass own = some m.cls) (hw : zH D Y ad kd RL M J A H0 H locs s) (ho : kd o = 8) (hlink : (Cond.fieldLink own index "SlewRailsModel" "acts" "I").before args s = true) (hd : decode cc pc = .ok (.getfield index, 3)) (k : W p l e R s m args below meth c H locs cells slots Q (F0 m (pc + 3) ls (.int (M o 8) :: rest))) : W p l e R s m args below meth c H locs cells slots Q (F0 m pc ls (.ref (ad o) :: rest)) := by
  obtain ⟨q0, hq, -⟩ := zW_get (Y := Y) (ad := ad) (kd := kd) (M := M) (J := J) (hw.2.2.2.2.2.2 o (by omega))
  rw [z_is_8 ho] at hq
  exact va_get (ci := 8) (C := RX8) (T := TX8) (N := 26) hx hb hts (fun _ h => h) hown hw.2.1 hw.1 q0 hq rfl 17 (by decide) hlink (fun _ h => h) rfl hd k
theorem zp8_acts {v : Int32} (hx : p.tables.exec = Jvm.exec) (hb : c.code = cc) (hts : ∀ w ∈ wsX80, w.before args s = true) (hown : s.vm.findClass own = some m.cls) (hw : zH D Y ad kd RL M J A H0 H locs s) (ho : kd o = 8) (hlink : (Cond.fieldLink own index "SlewRailsModel" "acts" "I").before args s = true) (hd : decode cc pc = .ok (.putfield index, 3)) (k : ∀ (H1 : Heap) (locs1 : List Loc), zH D Y ad kd RL (va_up M o (upd (M o) 8 v)) J A H0 H1 locs1 s → W p l e R s m args below meth c H1 locs1 cells slots Q (F0 m (pc + 3) ls rest)) : W p l e R s m args below meth c H locs cells slots Q (F0 m pc ls (.int v :: .ref (ad o) :: rest)) := by
  obtain ⟨q0, hq, hk⟩ := zW_get (Y := Y) (ad := ad) (kd := kd) (M := M) (J := J) (hw.2.2.2.2.2.2 o (by omega))
  rw [z_is_8 ho] at hq
  refine va_put (ci := 8) (C := RX8) (T := TX8) (N := 26) (ty := .int) (v := .int v) hx hb hts (fun _ h => h) tyX8 tyX8_ok nmX8 hown hw.2.1 hw.1 hw.2.2.1 hw.2.2.2.1 q0 hq rfl 17 (by decide) hlink (fun _ h => h) rfl (by decide +kernel) (vp_nar_int v) rfl (by simp) hd (fun H1 locs1 hP hD hS => ?_)
  refine k H1 locs1 (hw.next ?_ hS)
  rw [← zW_set (M' := (va_up M o (upd (M o) 8 v))) (J' := J) hw.2.2.1 hk (z_is_8 ho) (fun x hx => zc_other (va_up_ne _ _ hx) (rfl))]
  have e : .inr (8, [.ref (ad (o + 1)), .ref (ad (o + 2)), .ref (ad (o + 3)), .ref (ad (o + 4)), .int ((va_up M o (upd (M o) 8 v)) o 0), .ref (ad (o + 5)), .int ((va_up M o (upd (M o) 8 v)) o 1), .int ((va_up M o (upd (M o) 8 v)) o 2), .int ((va_up M o (upd (M o) 8 v)) o 3), .int ((va_up M o (upd (M o) 8 v)) o 4), .int ((va_up M o (upd (M o) 8 v)) o 5), .int ((va_up M o (upd (M o) 8 v)) o 6), .int ((va_up M o (upd (M o) 8 v)) o 7), .ref (ad (o + 6)), .ref (ad (o + 7)), .ref (ad (o + 8)), .ref (ad (o + 9)), .int ((va_up M o (upd (M o) 8 v)) o 8), .ref (ad (o + 10)), .ref (ad (o + 11)), .ref (ad (o + 12)), .ref (ad (o + 13)), .int ((va_up M o (upd (M o) 8 v)) o 9), .int ((va_up M o (upd (M o) 8 v)) o 10), .ref (ad (o + 14)), .int ((va_up M o (upd (M o) 8 v)) o 11)]) = (.inr (8, List.set [.ref (ad (o + 1)), .ref (ad (o + 2)), .ref (ad (o + 3)), .ref (ad (o + 4)), .int (M o 0), .ref (ad (o + 5)), .int (M o 1), .int (M o 2), .int (M o 3), .int (M o 4), .int (M o 5), .int (M o 6), .int (M o 7), .ref (ad (o + 6)), .ref (ad (o + 7)), .ref (ad (o + 8)), .ref (ad (o + 9)), .int (M o 8), .ref (ad (o + 10)), .ref (ad (o + 11)), .ref (ad (o + 12)), .ref (ad (o + 13)), .int (M o 9), .int (M o 10), .ref (ad (o + 14)), .int (M o 11)] 17 (.int v)) : va_E) := by simp [va_up_self, List.set, upd, vp_updL]
  rw [e]; exact hP
theorem zg8_images (hx : p.tables.exec = Jvm.exec) (hb : c.code = cc) (hts : ∀ w ∈ wsX80, w.before args s = true) (hown : s.vm.findClass own = some m.cls) (hw : zH D Y ad kd RL M J A H0 H locs s) (ho : kd o = 8) (hlink : (Cond.fieldLink own index "SlewRailsModel" "images" "[I").before args s = true) (hd : decode cc pc = .ok (.getfield index, 3)) (k : W p l e R s m args below meth c H locs cells slots Q (F0 m (pc + 3) ls (.ref (ad (o + 10)) :: rest))) : W p l e R s m args below meth c H locs cells slots Q (F0 m pc ls (.ref (ad o) :: rest)) := by
  obtain ⟨q0, hq, -⟩ := zW_get (Y := Y) (ad := ad) (kd := kd) (M := M) (J := J) (hw.2.2.2.2.2.2 o (by omega))
  rw [z_is_8 ho] at hq
  exact va_get (ci := 8) (C := RX8) (T := TX8) (N := 26) hx hb hts (fun _ h => h) hown hw.2.1 hw.1 q0 hq rfl 18 (by decide) hlink (fun _ h => h) rfl hd k
theorem zg8_kept (hx : p.tables.exec = Jvm.exec) (hb : c.code = cc) (hts : ∀ w ∈ wsX80, w.before args s = true) (hown : s.vm.findClass own = some m.cls) (hw : zH D Y ad kd RL M J A H0 H locs s) (ho : kd o = 8) (hlink : (Cond.fieldLink own index "SlewRailsModel" "kept" "[Z").before args s = true) (hd : decode cc pc = .ok (.getfield index, 3)) (k : W p l e R s m args below meth c H locs cells slots Q (F0 m (pc + 3) ls (.ref (ad (o + 11)) :: rest))) : W p l e R s m args below meth c H locs cells slots Q (F0 m pc ls (.ref (ad o) :: rest)) := by
  obtain ⟨q0, hq, -⟩ := zW_get (Y := Y) (ad := ad) (kd := kd) (M := M) (J := J) (hw.2.2.2.2.2.2 o (by omega))
  rw [z_is_8 ho] at hq
  exact va_get (ci := 8) (C := RX8) (T := TX8) (N := 26) hx hb hts (fun _ h => h) hown hw.2.1 hw.1 q0 hq rfl 19 (by decide) hlink (fun _ h => h) rfl hd k
theorem zg8_least (hx : p.tables.exec = Jvm.exec) (hb : c.code = cc) (hts : ∀ w ∈ wsX80, w.before args s = true) (hown : s.vm.findClass own = some m.cls) (hw : zH D Y ad kd RL M J A H0 H locs s) (ho : kd o = 8) (hlink : (Cond.fieldLink own index "SlewRailsModel" "least" "[I").before args s = true) (hd : decode cc pc = .ok (.getfield index, 3)) (k : W p l e R s m args below meth c H locs cells slots Q (F0 m (pc + 3) ls (.ref (ad (o + 12)) :: rest))) : W p l e R s m args below meth c H locs cells slots Q (F0 m pc ls (.ref (ad o) :: rest)) := by
  obtain ⟨q0, hq, -⟩ := zW_get (Y := Y) (ad := ad) (kd := kd) (M := M) (J := J) (hw.2.2.2.2.2.2 o (by omega))
  rw [z_is_8 ho] at hq
  exact va_get (ci := 8) (C := RX8) (T := TX8) (N := 26) hx hb hts (fun _ h => h) hown hw.2.1 hw.1 q0 hq rfl 20 (by decide) hlink (fun _ h => h) rfl hd k
theorem zg8_bestSlews (hx : p.tables.exec = Jvm.exec) (hb : c.code = cc) (hts : ∀ w ∈ wsX80, w.before args s = true) (hown : s.vm.findClass own = some m.cls) (hw : zH D Y ad kd RL M J A H0 H locs s) (ho : kd o = 8) (hlink : (Cond.fieldLink own index "SlewRailsModel" "bestSlews" "[I").before args s = true) (hd : decode cc pc = .ok (.getfield index, 3)) (k : W p l e R s m args below meth c H locs cells slots Q (F0 m (pc + 3) ls (.ref (ad (o + 13)) :: rest))) : W p l e R s m args below meth c H locs cells slots Q (F0 m pc ls (.ref (ad o) :: rest)) := by
  obtain ⟨q0, hq, -⟩ := zW_get (Y := Y) (ad := ad) (kd := kd) (M := M) (J := J) (hw.2.2.2.2.2.2 o (by omega))
  rw [z_is_8 ho] at hq
  exact va_get (ci := 8) (C := RX8) (T := TX8) (N := 26) hx hb hts (fun _ h => h) hown hw.2.1 hw.1 q0 hq rfl 21 (by decide) hlink (fun _ h => h) rfl hd k
theorem zg8_bestWorst (hx : p.tables.exec = Jvm.exec) (hb : c.code = cc) (hts : ∀ w ∈ wsX80, w.before args s = true) (hown : s.vm.findClass own = some m.cls) (hw : zH D Y ad kd RL M J A H0 H locs s) (ho : kd o = 8) (hlink : (Cond.fieldLink own index "SlewRailsModel" "bestWorst" "I").before args s = true) (hd : decode cc pc = .ok (.getfield index, 3)) (k : W p l e R s m args below meth c H locs cells slots Q (F0 m (pc + 3) ls (.int (M o 9) :: rest))) : W p l e R s m args below meth c H locs cells slots Q (F0 m pc ls (.ref (ad o) :: rest)) := by
  obtain ⟨q0, hq, -⟩ := zW_get (Y := Y) (ad := ad) (kd := kd) (M := M) (J := J) (hw.2.2.2.2.2.2 o (by omega))
  rw [z_is_8 ho] at hq
  exact va_get (ci := 8) (C := RX8) (T := TX8) (N := 26) hx hb hts (fun _ h => h) hown hw.2.1 hw.1 q0 hq rfl 22 (by decide) hlink (fun _ h => h) rfl hd k
theorem zp8_bestWorst {v : Int32} (hx : p.tables.exec = Jvm.exec) (hb : c.code = cc) (hts : ∀ w ∈ wsX80, w.before args s = true) (hown : s.vm.findClass own = some m.cls) (hw : zH D Y ad kd RL M J A H0 H locs s) (ho : kd o = 8) (hlink : (Cond.fieldLink own index "SlewRailsModel" "bestWorst" "I").before args s = true) (hd : decode cc pc = .ok (.putfield index, 3)) (k : ∀ (H1 : Heap) (locs1 : List Loc), zH D Y ad kd RL (va_up M o (upd (M o) 9 v)) J A H0 H1 locs1 s → W p l e R s m args below meth c H1 locs1 cells slots Q (F0 m (pc + 3) ls rest)) : W p l e R s m args below meth c H locs cells slots Q (F0 m pc ls (.int v :: .ref (ad o) :: rest)) := by
  obtain ⟨q0, hq, hk⟩ := zW_get (Y := Y) (ad := ad) (kd := kd) (M := M) (J := J) (hw.2.2.2.2.2.2 o (by omega))
  rw [z_is_8 ho] at hq
  refine va_put (ci := 8) (C := RX8) (T := TX8) (N := 26) (ty := .int) (v := .int v) hx hb hts (fun _ h => h) tyX8 tyX8_ok nmX8 hown hw.2.1 hw.1 hw.2.2.1 hw.2.2.2.1 q0 hq rfl 22 (by decide) hlink (fun _ h => h) rfl (by decide +kernel) (vp_nar_int v) rfl (by simp) hd (fun H1 locs1 hP hD hS => ?_)
  refine k H1 locs1 (hw.next ?_ hS)
  rw [← zW_set (M' := (va_up M o (upd (M o) 9 v))) (J' := J) hw.2.2.1 hk (z_is_8 ho) (fun x hx => zc_other (va_up_ne _ _ hx) (rfl))]
  have e : .inr (8, [.ref (ad (o + 1)), .ref (ad (o + 2)), .ref (ad (o + 3)), .ref (ad (o + 4)), .int ((va_up M o (upd (M o) 9 v)) o 0), .ref (ad (o + 5)), .int ((va_up M o (upd (M o) 9 v)) o 1), .int ((va_up M o (upd (M o) 9 v)) o 2), .int ((va_up M o (upd (M o) 9 v)) o 3), .int ((va_up M o (upd (M o) 9 v)) o 4), .int ((va_up M o (upd (M o) 9 v)) o 5), .int ((va_up M o (upd (M o) 9 v)) o 6), .int ((va_up M o (upd (M o) 9 v)) o 7), .ref (ad (o + 6)), .ref (ad (o + 7)), .ref (ad (o + 8)), .ref (ad (o + 9)), .int ((va_up M o (upd (M o) 9 v)) o 8), .ref (ad (o + 10)), .ref (ad (o + 11)), .ref (ad (o + 12)), .ref (ad (o + 13)), .int ((va_up M o (upd (M o) 9 v)) o 9), .int ((va_up M o (upd (M o) 9 v)) o 10), .ref (ad (o + 14)), .int ((va_up M o (upd (M o) 9 v)) o 11)]) = (.inr (8, List.set [.ref (ad (o + 1)), .ref (ad (o + 2)), .ref (ad (o + 3)), .ref (ad (o + 4)), .int (M o 0), .ref (ad (o + 5)), .int (M o 1), .int (M o 2), .int (M o 3), .int (M o 4), .int (M o 5), .int (M o 6), .int (M o 7), .ref (ad (o + 6)), .ref (ad (o + 7)), .ref (ad (o + 8)), .ref (ad (o + 9)), .int (M o 8), .ref (ad (o + 10)), .ref (ad (o + 11)), .ref (ad (o + 12)), .ref (ad (o + 13)), .int (M o 9), .int (M o 10), .ref (ad (o + 14)), .int (M o 11)] 22 (.int v)) : va_E) := by simp [va_up_self, List.set, upd, vp_updL]
  rw [e]; exact hP
theorem zg8_bestCost (hx : p.tables.exec = Jvm.exec) (hb : c.code = cc) (hts : ∀ w ∈ wsX80, w.before args s = true) (hown : s.vm.findClass own = some m.cls) (hw : zH D Y ad kd RL M J A H0 H locs s) (ho : kd o = 8) (hlink : (Cond.fieldLink own index "SlewRailsModel" "bestCost" "I").before args s = true) (hd : decode cc pc = .ok (.getfield index, 3)) (k : W p l e R s m args below meth c H locs cells slots Q (F0 m (pc + 3) ls (.int (M o 10) :: rest))) : W p l e R s m args below meth c H locs cells slots Q (F0 m pc ls (.ref (ad o) :: rest)) := by
  obtain ⟨q0, hq, -⟩ := zW_get (Y := Y) (ad := ad) (kd := kd) (M := M) (J := J) (hw.2.2.2.2.2.2 o (by omega))
  rw [z_is_8 ho] at hq
  exact va_get (ci := 8) (C := RX8) (T := TX8) (N := 26) hx hb hts (fun _ h => h) hown hw.2.1 hw.1 q0 hq rfl 23 (by decide) hlink (fun _ h => h) rfl hd k
theorem zp8_bestCost {v : Int32} (hx : p.tables.exec = Jvm.exec) (hb : c.code = cc) (hts : ∀ w ∈ wsX80, w.before args s = true) (hown : s.vm.findClass own = some m.cls) (hw : zH D Y ad kd RL M J A H0 H locs s) (ho : kd o = 8) (hlink : (Cond.fieldLink own index "SlewRailsModel" "bestCost" "I").before args s = true) (hd : decode cc pc = .ok (.putfield index, 3)) (k : ∀ (H1 : Heap) (locs1 : List Loc), zH D Y ad kd RL (va_up M o (upd (M o) 10 v)) J A H0 H1 locs1 s → W p l e R s m args below meth c H1 locs1 cells slots Q (F0 m (pc + 3) ls rest)) : W p l e R s m args below meth c H locs cells slots Q (F0 m pc ls (.int v :: .ref (ad o) :: rest)) := by
  obtain ⟨q0, hq, hk⟩ := zW_get (Y := Y) (ad := ad) (kd := kd) (M := M) (J := J) (hw.2.2.2.2.2.2 o (by omega))
  rw [z_is_8 ho] at hq
  refine va_put (ci := 8) (C := RX8) (T := TX8) (N := 26) (ty := .int) (v := .int v) hx hb hts (fun _ h => h) tyX8 tyX8_ok nmX8 hown hw.2.1 hw.1 hw.2.2.1 hw.2.2.2.1 q0 hq rfl 23 (by decide) hlink (fun _ h => h) rfl (by decide +kernel) (vp_nar_int v) rfl (by simp) hd (fun H1 locs1 hP hD hS => ?_)
  refine k H1 locs1 (hw.next ?_ hS)
  rw [← zW_set (M' := (va_up M o (upd (M o) 10 v))) (J' := J) hw.2.2.1 hk (z_is_8 ho) (fun x hx => zc_other (va_up_ne _ _ hx) (rfl))]
  have e : .inr (8, [.ref (ad (o + 1)), .ref (ad (o + 2)), .ref (ad (o + 3)), .ref (ad (o + 4)), .int ((va_up M o (upd (M o) 10 v)) o 0), .ref (ad (o + 5)), .int ((va_up M o (upd (M o) 10 v)) o 1), .int ((va_up M o (upd (M o) 10 v)) o 2), .int ((va_up M o (upd (M o) 10 v)) o 3), .int ((va_up M o (upd (M o) 10 v)) o 4), .int ((va_up M o (upd (M o) 10 v)) o 5), .int ((va_up M o (upd (M o) 10 v)) o 6), .int ((va_up M o (upd (M o) 10 v)) o 7), .ref (ad (o + 6)), .ref (ad (o + 7)), .ref (ad (o + 8)), .ref (ad (o + 9)), .int ((va_up M o (upd (M o) 10 v)) o 8), .ref (ad (o + 10)), .ref (ad (o + 11)), .ref (ad (o + 12)), .ref (ad (o + 13)), .int ((va_up M o (upd (M o) 10 v)) o 9), .int ((va_up M o (upd (M o) 10 v)) o 10), .ref (ad (o + 14)), .int ((va_up M o (upd (M o) 10 v)) o 11)]) = (.inr (8, List.set [.ref (ad (o + 1)), .ref (ad (o + 2)), .ref (ad (o + 3)), .ref (ad (o + 4)), .int (M o 0), .ref (ad (o + 5)), .int (M o 1), .int (M o 2), .int (M o 3), .int (M o 4), .int (M o 5), .int (M o 6), .int (M o 7), .ref (ad (o + 6)), .ref (ad (o + 7)), .ref (ad (o + 8)), .ref (ad (o + 9)), .int (M o 8), .ref (ad (o + 10)), .ref (ad (o + 11)), .ref (ad (o + 12)), .ref (ad (o + 13)), .int (M o 9), .int (M o 10), .ref (ad (o + 14)), .int (M o 11)] 23 (.int v)) : va_E) := by simp [va_up_self, List.set, upd, vp_updL]
  rw [e]; exact hP
theorem zg8_trace (hx : p.tables.exec = Jvm.exec) (hb : c.code = cc) (hts : ∀ w ∈ wsX80, w.before args s = true) (hown : s.vm.findClass own = some m.cls) (hw : zH D Y ad kd RL M J A H0 H locs s) (ho : kd o = 8) (hlink : (Cond.fieldLink own index "SlewRailsModel" "trace" "[I").before args s = true) (hd : decode cc pc = .ok (.getfield index, 3)) (k : W p l e R s m args below meth c H locs cells slots Q (F0 m (pc + 3) ls (.ref (ad (o + 14)) :: rest))) : W p l e R s m args below meth c H locs cells slots Q (F0 m pc ls (.ref (ad o) :: rest)) := by
  obtain ⟨q0, hq, -⟩ := zW_get (Y := Y) (ad := ad) (kd := kd) (M := M) (J := J) (hw.2.2.2.2.2.2 o (by omega))
  rw [z_is_8 ho] at hq
  exact va_get (ci := 8) (C := RX8) (T := TX8) (N := 26) hx hb hts (fun _ h => h) hown hw.2.1 hw.1 q0 hq rfl 24 (by decide) hlink (fun _ h => h) rfl hd k
theorem zg8_traced (hx : p.tables.exec = Jvm.exec) (hb : c.code = cc) (hts : ∀ w ∈ wsX80, w.before args s = true) (hown : s.vm.findClass own = some m.cls) (hw : zH D Y ad kd RL M J A H0 H locs s) (ho : kd o = 8) (hlink : (Cond.fieldLink own index "SlewRailsModel" "traced" "I").before args s = true) (hd : decode cc pc = .ok (.getfield index, 3)) (k : W p l e R s m args below meth c H locs cells slots Q (F0 m (pc + 3) ls (.int (M o 11) :: rest))) : W p l e R s m args below meth c H locs cells slots Q (F0 m pc ls (.ref (ad o) :: rest)) := by
  obtain ⟨q0, hq, -⟩ := zW_get (Y := Y) (ad := ad) (kd := kd) (M := M) (J := J) (hw.2.2.2.2.2.2 o (by omega))
  rw [z_is_8 ho] at hq
  exact va_get (ci := 8) (C := RX8) (T := TX8) (N := 26) hx hb hts (fun _ h => h) hown hw.2.1 hw.1 q0 hq rfl 25 (by decide) hlink (fun _ h => h) rfl hd k
theorem zp8_traced {v : Int32} (hx : p.tables.exec = Jvm.exec) (hb : c.code = cc) (hts : ∀ w ∈ wsX80, w.before args s = true) (hown : s.vm.findClass own = some m.cls) (hw : zH D Y ad kd RL M J A H0 H locs s) (ho : kd o = 8) (hlink : (Cond.fieldLink own index "SlewRailsModel" "traced" "I").before args s = true) (hd : decode cc pc = .ok (.putfield index, 3)) (k : ∀ (H1 : Heap) (locs1 : List Loc), zH D Y ad kd RL (va_up M o (upd (M o) 11 v)) J A H0 H1 locs1 s → W p l e R s m args below meth c H1 locs1 cells slots Q (F0 m (pc + 3) ls rest)) : W p l e R s m args below meth c H locs cells slots Q (F0 m pc ls (.int v :: .ref (ad o) :: rest)) := by
  obtain ⟨q0, hq, hk⟩ := zW_get (Y := Y) (ad := ad) (kd := kd) (M := M) (J := J) (hw.2.2.2.2.2.2 o (by omega))
  rw [z_is_8 ho] at hq
  refine va_put (ci := 8) (C := RX8) (T := TX8) (N := 26) (ty := .int) (v := .int v) hx hb hts (fun _ h => h) tyX8 tyX8_ok nmX8 hown hw.2.1 hw.1 hw.2.2.1 hw.2.2.2.1 q0 hq rfl 25 (by decide) hlink (fun _ h => h) rfl (by decide +kernel) (vp_nar_int v) rfl (by simp) hd (fun H1 locs1 hP hD hS => ?_)
  refine k H1 locs1 (hw.next ?_ hS)
  rw [← zW_set (M' := (va_up M o (upd (M o) 11 v))) (J' := J) hw.2.2.1 hk (z_is_8 ho) (fun x hx => zc_other (va_up_ne _ _ hx) (rfl))]
  have e : .inr (8, [.ref (ad (o + 1)), .ref (ad (o + 2)), .ref (ad (o + 3)), .ref (ad (o + 4)), .int ((va_up M o (upd (M o) 11 v)) o 0), .ref (ad (o + 5)), .int ((va_up M o (upd (M o) 11 v)) o 1), .int ((va_up M o (upd (M o) 11 v)) o 2), .int ((va_up M o (upd (M o) 11 v)) o 3), .int ((va_up M o (upd (M o) 11 v)) o 4), .int ((va_up M o (upd (M o) 11 v)) o 5), .int ((va_up M o (upd (M o) 11 v)) o 6), .int ((va_up M o (upd (M o) 11 v)) o 7), .ref (ad (o + 6)), .ref (ad (o + 7)), .ref (ad (o + 8)), .ref (ad (o + 9)), .int ((va_up M o (upd (M o) 11 v)) o 8), .ref (ad (o + 10)), .ref (ad (o + 11)), .ref (ad (o + 12)), .ref (ad (o + 13)), .int ((va_up M o (upd (M o) 11 v)) o 9), .int ((va_up M o (upd (M o) 11 v)) o 10), .ref (ad (o + 14)), .int ((va_up M o (upd (M o) 11 v)) o 11)]) = (.inr (8, List.set [.ref (ad (o + 1)), .ref (ad (o + 2)), .ref (ad (o + 3)), .ref (ad (o + 4)), .int (M o 0), .ref (ad (o + 5)), .int (M o 1), .int (M o 2), .int (M o 3), .int (M o 4), .int (M o 5), .int (M o 6), .int (M o 7), .ref (ad (o + 6)), .ref (ad (o + 7)), .ref (ad (o + 8)), .ref (ad (o + 9)), .int (M o 8), .ref (ad (o + 10)), .ref (ad (o + 11)), .ref (ad (o + 12)), .ref (ad (o + 13)), .int (M o 9), .int (M o 10), .ref (ad (o + 14)), .int (M o 11)] 25 (.int v)) : va_E) := by simp [va_up_self, List.set, upd, vp_updL]
  rw [e]; exact hP
theorem z_copy {o1 n0 n1 : Nat} {sp dp n : Int32} (hx : p.tables.exec = Jvm.exec) (hb : c.code = cc) (hml : c.maxLocals = ls.size) (hown : s.vm.findClass own = some m.cls) (hlink : (Cond.methodLink own index arraycopyName).before args s = true) (hnat : (Cond.native arraycopyName).before args s = true) (hstat : (Cond.static arraycopyName).before args s = true) (hini : (Cond.initialized "java/lang/System").before args s = true) (hw : zH D Y ad kd RL M J A H0 H locs s) (ho : kd o = 1000 + n0) (ho1 : kd o1 = 1000 + n1) (hi : ¬ sp < 0 ∧ ¬ dp < 0 ∧ ¬ n < 0 ∧ sp.toNatClampNeg + n.toNatClampNeg ≤ n0 ∧ dp.toNatClampNeg + n.toNatClampNeg ≤ n1) (hframes : 1 ≤ R.frames) (hlocals : (rest.map fun v => v.category).sum + (nativeFrameWords "java/lang/System" "arraycopy" 5 + 11) ≤ R.locals) (hd : decode cc pc = .ok (.invokestatic index, 3)) (k : ∀ (H1 : Heap) (locs1 : List Loc), zH D Y ad kd RL (va_up M o1 (va_cpy (M o) (M o1) sp.toNatClampNeg dp.toNatClampNeg n.toNatClampNeg)) J A H0 H1 locs1 s → W p l e R s m args below meth c H1 locs1 cells slots Q (F0 m (pc + 3) ls rest)) : W p l e R s m args below meth c H locs cells slots Q (F0 m pc ls (.int n :: .int dp :: .ref (ad o1) :: .int sp :: .ref (ad o) :: rest)) := by
  obtain ⟨q0, hq, -⟩ := zW_get (Y := Y) (ad := ad) (kd := kd) (M := M) (J := J) (hw.2.2.2.2.2.2 o (by omega))
  obtain ⟨q1, hq1, hk⟩ := zW_get (Y := Y) (ad := ad) (kd := kd) (M := M) (J := J) (hw.2.2.2.2.2.2 o1 (by omega))
  rw [z_arr ho] at hq
  rw [z_arr ho1] at hq1
  have hset := zW_set (M' := va_up M o1 (va_cpy (M o) (M o1) sp.toNatClampNeg dp.toNatClampNeg n.toNatClampNeg)) (J' := J) hw.2.2.1 hk (e := .inl (Y.1, n1, .inl (va_cpy (M o) (M o1) sp.toNatClampNeg dp.toNatClampNeg n.toNatClampNeg))) (by rw [z_arr ho1, va_up_self]) (fun x hx => zc_other (va_up_ne _ _ hx) rfl)
  refine va_copyi hx hb hml hown hlink hnat hstat hini hw.2.1 hw.1 hw.2.2.1 hw.2.2.2.1 q0 q1 0 0 hq hq1 (ty := .int) rfl rfl rfl hi.1 hi.2.1 hi.2.2.1 hi.2.2.2.1 hi.2.2.2.2 (fun i _ => rfl) hframes hlocals hd (fun H1 locs1 hP hD hS => ?_)
  rw [hset] at hP
  exact k H1 locs1 (hw.next hP hS)
end ZR
end
section
theorem dX2_slewAt_0 : decode cX2_slewAt 0 = .ok (.iload_n 1, 1) := by decide +kernel
theorem dX2_slewAt_1 : decode cX2_slewAt 1 = .ok (.ifCond .lt 11, 3) := by decide +kernel
theorem dX2_slewAt_4 : decode cX2_slewAt 4 = .ok (.iload_n 1, 1) := by decide +kernel
theorem dX2_slewAt_5 : decode cX2_slewAt 5 = .ok (.aload_n 0, 1) := by decide +kernel
theorem dX2_slewAt_6 : decode cX2_slewAt 6 = .ok (.getfield 9, 3) := by decide +kernel
theorem dX2_slewAt_9 : decode cX2_slewAt 9 = .ok (.if_icmp .lt 7, 3) := by decide +kernel
theorem dX2_slewAt_12 : decode cX2_slewAt 12 = .ok (.iconst 0, 1) := by decide +kernel
theorem dX2_slewAt_13 : decode cX2_slewAt 13 = .ok (.goto 9, 3) := by decide +kernel
theorem dX2_slewAt_16 : decode cX2_slewAt 16 = .ok (.aload_n 0, 1) := by decide +kernel
theorem dX2_slewAt_17 : decode cX2_slewAt 17 = .ok (.getfield 28, 3) := by decide +kernel
theorem dX2_slewAt_20 : decode cX2_slewAt 20 = .ok (.iload_n 1, 1) := by decide +kernel
theorem dX2_slewAt_21 : decode cX2_slewAt 21 = .ok (.iaload, 1) := by decide +kernel
theorem dX2_slewAt_22 : decode cX2_slewAt 22 = .ok (.ireturn, 1) := by decide +kernel
def rmX2_slewAt : Room := { frames := 0, cells := 0, slots := 0, locals := 0 }
def wX2_slewAt (M : zM) (o0 : Nat) (x1 : Int32) (Q : Int32 → Prop) : Prop :=
((x1 < 0) → (
Q (0 : Int32))) ∧
((¬ x1 < 0) → (
((x1 < (M o0 0)) → (
vp_in x1 12 ∧
Q (M (o0 + 4) x1.toNatClampNeg))) ∧
((¬ x1 < (M o0 0)) → (
Q (0 : Int32)))))
set_option maxHeartbeats 4000000 in
set_option maxRecDepth 100000 in
theorem kX2_slewAt {l : Launch} {D : va_G} {Y : zY} {ad kd : Nat → Nat} {RL : List Nat} {M : zM} {J : zL} {o0 : Nat} {x1 : Int32} (h_o0 : kd o0 = 2) {Q : Int32 → Prop} (hq : wX2_slewAt M o0 x1 Q) : zCi l yX2_slewAt wsX2_slewAt rmX2_slewAt [.ref (ad o0), .int x1] D Y ad kd RL M J (fun r M' J' => Q r ∧ M = M' ∧ J = J') := by
  refine z_meti (cc := cX2_slewAt) (maxL := 2) (ret := (some .int)) (by decide) rfl (Nat.le_of_ble_eq_true rfl) ?_
  intro p e s m below meth c ls A ar QE hQE hx hb hr hml hown hts hlk hw hl
  have hown : s.vm.findClass RX2 = some m.cls := hown
  have hl : lv_has ls 2 [(0, .ref (ad o0)), (1, .int x1)] := hl
  have hC := hw.2.2.2.2.2.1
  have g2 : ∀ w ∈ wsX20, w.before ar s = true := (fun w h => hts w (List.mem_cons_of_mem _ (List.mem_append_right _ h)))
  have q1 := hts _ (List.mem_of_getElem? (i := 1) rfl)
  have q2 := hts _ (List.mem_of_getElem? (i := 2) rfl)
  unfold wX2_slewAt at hq
  refine lv_iload_n hx hb dX2_slewAt_0 rfl (lv_at hl 1 rfl) ?_
  refine lv_if_lt (tgt := 12) hx hb dX2_slewAt_1 (by decide) (fun hc => ?_) (fun hc => ?_)
  · have hq := hq.1 hc
    refine lv_iconst (v := (0 : Int32)) hx hb dX2_slewAt_12 (by decide) ?_
    refine lv_goto (tgt := 22) hx hb dX2_slewAt_13 (by decide) ?_
    exact z_iret hQE hx hb hr hlk hw dX2_slewAt_22 ⟨hq, rfl, rfl⟩
  · have hq := hq.2 hc
    refine lv_iload_n hx hb dX2_slewAt_4 rfl (lv_at hl 1 rfl) ?_
    refine lv_aload_n hx hb dX2_slewAt_5 rfl (lv_at hl 0 rfl) ?_
    refine zg2_pegs hx hb g2 hown hw h_o0 q1 dX2_slewAt_6 ?_
    refine lv_icmp_lt (tgt := 16) hx hb dX2_slewAt_9 (by decide) (fun hc => ?_) (fun hc => ?_)
    · have hq := hq.1 hc
      refine lv_aload_n hx hb dX2_slewAt_16 rfl (lv_at hl 0 rfl) ?_
      refine zg2_slews hx hb g2 hown hw h_o0 q2 dX2_slewAt_17 ?_
      refine lv_iload_n hx hb dX2_slewAt_20 rfl (lv_at hl 1 rfl) ?_
      obtain ⟨hi, hq⟩ := hq
      refine z_iald (n := 12) hx hb hw (zk_2_4 hC h_o0) hi dX2_slewAt_21 ?_
      exact z_iret hQE hx hb hr hlk hw dX2_slewAt_22 ⟨hq, rfl, rfl⟩
    · have hq := hq.2 hc
      refine lv_iconst (v := (0 : Int32)) hx hb dX2_slewAt_12 (by decide) ?_
      refine lv_goto (tgt := 22) hx hb dX2_slewAt_13 (by decide) ?_
      exact z_iret hQE hx hb hr hlk hw dX2_slewAt_22 ⟨hq, rfl, rfl⟩
set_option maxRecDepth 20000 in
theorem ggX2_now_X2_slewAt : GoodIn wsX2_now wsX2_slewAt := goodIn_r _ [7, 8, 2, 9, 10, 11, 12, 13, 14] (by decide +kernel) (by decide +kernel)
set_option maxRecDepth 20000 in
theorem gX2_now_X2_slewAt : GoodIn wsX2_now (wsV RX2 43 RX2 yX2_slewAt wsX2_slewAt) := goodIn_app (goodIn_of _ (by decide +kernel)) ggX2_now_X2_slewAt
theorem dX2_now_0 : decode cX2_now 0 = .ok (.aload_n 0, 1) := by decide +kernel
theorem dX2_now_1 : decode cX2_now 1 = .ok (.getfield 22, 3) := by decide +kernel
theorem dX2_now_4 : decode cX2_now 4 = .ok (.iload_n 1, 1) := by decide +kernel
theorem dX2_now_5 : decode cX2_now 5 = .ok (.iaload, 1) := by decide +kernel
theorem dX2_now_6 : decode cX2_now 6 = .ok (.iconst 2, 1) := by decide +kernel
theorem dX2_now_7 : decode cX2_now 7 = .ok (.aload_n 0, 1) := by decide +kernel
theorem dX2_now_8 : decode cX2_now 8 = .ok (.getfield 28, 3) := by decide +kernel
theorem dX2_now_11 : decode cX2_now 11 = .ok (.iload_n 1, 1) := by decide +kernel
theorem dX2_now_12 : decode cX2_now 12 = .ok (.iaload, 1) := by decide +kernel
theorem dX2_now_13 : decode cX2_now 13 = .ok (.imul, 1) := by decide +kernel
theorem dX2_now_14 : decode cX2_now 14 = .ok (.iadd, 1) := by decide +kernel
theorem dX2_now_15 : decode cX2_now 15 = .ok (.aload_n 0, 1) := by decide +kernel
theorem dX2_now_16 : decode cX2_now 16 = .ok (.iload_n 1, 1) := by decide +kernel
theorem dX2_now_17 : decode cX2_now 17 = .ok (.iconst 1, 1) := by decide +kernel
theorem dX2_now_18 : decode cX2_now 18 = .ok (.isub, 1) := by decide +kernel
theorem dX2_now_19 : decode cX2_now 19 = .ok (.invokevirtual 43, 3) := by decide +kernel
theorem dX2_now_22 : decode cX2_now 22 = .ok (.isub, 1) := by decide +kernel
theorem dX2_now_23 : decode cX2_now 23 = .ok (.aload_n 0, 1) := by decide +kernel
theorem dX2_now_24 : decode cX2_now 24 = .ok (.iload_n 1, 1) := by decide +kernel
theorem dX2_now_25 : decode cX2_now 25 = .ok (.iconst 1, 1) := by decide +kernel
theorem dX2_now_26 : decode cX2_now 26 = .ok (.iadd, 1) := by decide +kernel
theorem dX2_now_27 : decode cX2_now 27 = .ok (.invokevirtual 43, 3) := by decide +kernel
theorem dX2_now_30 : decode cX2_now 30 = .ok (.isub, 1) := by decide +kernel
theorem dX2_now_31 : decode cX2_now 31 = .ok (.ireturn, 1) := by decide +kernel
def rmX2_now : Room := { frames := 1, cells := 0, slots := 0, locals := 21 }
def wX2_now (M : zM) (o0 : Nat) (x1 : Int32) (Q : Int32 → Prop) : Prop :=
vp_in x1 12 ∧
vp_in x1 12 ∧
∀ x4 : Int32, x4 = ((M (o0 + 2) x1.toNatClampNeg) + ((2 : Int32) * (M (o0 + 4) x1.toNatClampNeg))) →
wX2_slewAt M o0 (x1 - (1 : Int32)) (fun r5 =>
wX2_slewAt M o0 (x1 + (1 : Int32)) (fun r6 =>
Q ((x4 - r5) - r6)))
set_option maxHeartbeats 4000000 in
set_option maxRecDepth 100000 in
theorem kX2_now {l : Launch} {D : va_G} {Y : zY} {ad kd : Nat → Nat} {RL : List Nat} {M : zM} {J : zL} {o0 : Nat} {x1 : Int32} (h_o0 : kd o0 = 2) {Q : Int32 → Prop} (hq : wX2_now M o0 x1 Q) : zCi l yX2_now wsX2_now rmX2_now [.ref (ad o0), .int x1] D Y ad kd RL M J (fun r M' J' => Q r ∧ M = M' ∧ J = J') := by
  refine z_meti (cc := cX2_now) (maxL := 2) (ret := (some .int)) (by decide) rfl (Nat.le_of_ble_eq_true rfl) ?_
  intro p e s m below meth c ls A ar QE hQE hx hb hr hml hown hts hlk hw hl
  have hown : s.vm.findClass RX2 = some m.cls := hown
  have hl : lv_has ls 2 [(0, .ref (ad o0)), (1, .int x1)] := hl
  have hC := hw.2.2.2.2.2.1
  have g2 : ∀ w ∈ wsX20, w.before ar s = true := (fun w h => hts w (List.mem_cons_of_mem _ (List.mem_append_right _ h)))
  have q1 := hts _ (List.mem_of_getElem? (i := 1) rfl)
  have q2 := hts _ (List.mem_of_getElem? (i := 2) rfl)
  unfold wX2_now at hq
  refine lv_aload_n hx hb dX2_now_0 rfl (lv_at hl 0 rfl) ?_
  refine zg2_versines hx hb g2 hown hw h_o0 q1 dX2_now_1 ?_
  refine lv_iload_n hx hb dX2_now_4 rfl (lv_at hl 1 rfl) ?_
  obtain ⟨hi, hq⟩ := hq
  refine z_iald (n := 12) hx hb hw (zk_2_2 hC h_o0) hi dX2_now_5 ?_
  refine lv_iconst (v := (2 : Int32)) hx hb dX2_now_6 (by decide) ?_
  refine lv_aload_n hx hb dX2_now_7 rfl (lv_at hl 0 rfl) ?_
  refine zg2_slews hx hb g2 hown hw h_o0 q2 dX2_now_8 ?_
  refine lv_iload_n hx hb dX2_now_11 rfl (lv_at hl 1 rfl) ?_
  obtain ⟨hi, hq⟩ := hq
  refine z_iald (n := 12) hx hb hw (zk_2_4 hC h_o0) hi dX2_now_12 ?_
  refine lv_imul hx hb dX2_now_13 ?_
  refine lv_iadd hx hb dX2_now_14 ?_
  refine lv_topi (fun x4 e_x4 => ?_)
  have hq := hq x4 e_x4
  refine lv_aload_n hx hb dX2_now_15 rfl (lv_at hl 0 rfl) ?_
  refine lv_iload_n hx hb dX2_now_16 rfl (lv_at hl 1 rfl) ?_
  refine lv_iconst (v := (1 : Int32)) hx hb dX2_now_17 (by decide) ?_
  refine lv_isub hx hb dX2_now_18 ?_
  refine z_cvi ⟨hx, hb, hml, hown, hts⟩ hw h_o0 (kX2_slewAt h_o0 hq) (by decide) rfl (cwV 1 hts gX2_now_X2_slewAt rfl rfl rfl (by decide +kernel) ⟨Nat.le_of_ble_eq_true rfl, Nat.le_of_ble_eq_true rfl⟩) rfl hl.1 rfl (Nat.le_of_ble_eq_true rfl) dX2_now_19 ⟨Nat.zero_le _, Nat.zero_le _⟩ (fun r5 M0 J0 H locs hq hw => ?_)
  obtain ⟨hq, rfl, rfl⟩ := hq
  refine lv_isub hx hb dX2_now_22 ?_
  refine lv_aload_n hx hb dX2_now_23 rfl (lv_at hl 0 rfl) ?_
  refine lv_iload_n hx hb dX2_now_24 rfl (lv_at hl 1 rfl) ?_
  refine lv_iconst (v := (1 : Int32)) hx hb dX2_now_25 (by decide) ?_
  refine lv_iadd hx hb dX2_now_26 ?_
  refine z_cvi ⟨hx, hb, hml, hown, hts⟩ hw h_o0 (kX2_slewAt h_o0 hq) (by decide) rfl (cwV 1 hts gX2_now_X2_slewAt rfl rfl rfl (by decide +kernel) ⟨Nat.le_of_ble_eq_true rfl, Nat.le_of_ble_eq_true rfl⟩) rfl hl.1 rfl (Nat.le_of_ble_eq_true rfl) dX2_now_27 ⟨Nat.zero_le _, Nat.zero_le _⟩ (fun r6 M0 J0 H locs hq hw => ?_)
  obtain ⟨hq, rfl, rfl⟩ := hq
  refine lv_isub hx hb dX2_now_30 ?_
  exact z_iret hQE hx hb hr hlk hw dX2_now_31 ⟨hq, rfl, rfl⟩
theorem dX2_isSoft_0 : decode cX2_isSoft 0 = .ok (.iload_n 1, 1) := by decide +kernel
theorem dX2_isSoft_1 : decode cX2_isSoft 1 = .ok (.ifCond .lt 25, 3) := by decide +kernel
theorem dX2_isSoft_4 : decode cX2_isSoft 4 = .ok (.iload_n 1, 1) := by decide +kernel
theorem dX2_isSoft_5 : decode cX2_isSoft 5 = .ok (.aload_n 0, 1) := by decide +kernel
theorem dX2_isSoft_6 : decode cX2_isSoft 6 = .ok (.getfield 9, 3) := by decide +kernel
theorem dX2_isSoft_9 : decode cX2_isSoft 9 = .ok (.if_icmp .ge 17, 3) := by decide +kernel
theorem dX2_isSoft_12 : decode cX2_isSoft 12 = .ok (.aload_n 0, 1) := by decide +kernel
theorem dX2_isSoft_13 : decode cX2_isSoft 13 = .ok (.getfield 18, 3) := by decide +kernel
theorem dX2_isSoft_16 : decode cX2_isSoft 16 = .ok (.iload_n 1, 1) := by decide +kernel
theorem dX2_isSoft_17 : decode cX2_isSoft 17 = .ok (.iaload, 1) := by decide +kernel
theorem dX2_isSoft_18 : decode cX2_isSoft 18 = .ok (.iconst 2, 1) := by decide +kernel
theorem dX2_isSoft_19 : decode cX2_isSoft 19 = .ok (.if_icmp .ne 7, 3) := by decide +kernel
theorem dX2_isSoft_22 : decode cX2_isSoft 22 = .ok (.iconst 1, 1) := by decide +kernel
theorem dX2_isSoft_23 : decode cX2_isSoft 23 = .ok (.goto 4, 3) := by decide +kernel
theorem dX2_isSoft_26 : decode cX2_isSoft 26 = .ok (.iconst 0, 1) := by decide +kernel
theorem dX2_isSoft_27 : decode cX2_isSoft 27 = .ok (.ireturn, 1) := by decide +kernel
def rmX2_isSoft : Room := { frames := 0, cells := 0, slots := 0, locals := 0 }
def wX2_isSoft (M : zM) (o0 : Nat) (x1 : Int32) (Q : Int32 → Prop) : Prop :=
((x1 < 0) → (
Q (0 : Int32))) ∧
((¬ x1 < 0) → (
(((M o0 0) ≤ x1) → (
Q (0 : Int32))) ∧
((¬ (M o0 0) ≤ x1) → (
vp_in x1 12 ∧
((¬ (M (o0 + 1) x1.toNatClampNeg) = (2 : Int32)) → (
Q (0 : Int32))) ∧
(((M (o0 + 1) x1.toNatClampNeg) = (2 : Int32)) → (
Q (1 : Int32)))))))
set_option maxHeartbeats 4000000 in
set_option maxRecDepth 100000 in
theorem kX2_isSoft {l : Launch} {D : va_G} {Y : zY} {ad kd : Nat → Nat} {RL : List Nat} {M : zM} {J : zL} {o0 : Nat} {x1 : Int32} (h_o0 : kd o0 = 2) {Q : Int32 → Prop} (hq : wX2_isSoft M o0 x1 Q) : zCi l yX2_isSoft wsX2_isSoft rmX2_isSoft [.ref (ad o0), .int x1] D Y ad kd RL M J (fun r M' J' => Q r ∧ M = M' ∧ J = J') := by
  refine z_meti (cc := cX2_isSoft) (maxL := 2) (ret := (some .boolean)) (by decide) rfl (Nat.le_of_ble_eq_true rfl) ?_
  intro p e s m below meth c ls A ar QE hQE hx hb hr hml hown hts hlk hw hl
  have hown : s.vm.findClass RX2 = some m.cls := hown
  have hl : lv_has ls 2 [(0, .ref (ad o0)), (1, .int x1)] := hl
  have hC := hw.2.2.2.2.2.1
  have g2 : ∀ w ∈ wsX20, w.before ar s = true := (fun w h => hts w (List.mem_cons_of_mem _ (List.mem_append_right _ h)))
  have q1 := hts _ (List.mem_of_getElem? (i := 1) rfl)
  have q2 := hts _ (List.mem_of_getElem? (i := 2) rfl)
  unfold wX2_isSoft at hq
  refine lv_iload_n hx hb dX2_isSoft_0 rfl (lv_at hl 1 rfl) ?_
  refine lv_if_lt (tgt := 26) hx hb dX2_isSoft_1 (by decide) (fun hc => ?_) (fun hc => ?_)
  · have hq := hq.1 hc
    refine lv_iconst (v := (0 : Int32)) hx hb dX2_isSoft_26 (by decide) ?_
    exact z_zret hQE hx hb hr hlk hw dX2_isSoft_27 (by decide) ⟨hq, rfl, rfl⟩
  · have hq := hq.2 hc
    refine lv_iload_n hx hb dX2_isSoft_4 rfl (lv_at hl 1 rfl) ?_
    refine lv_aload_n hx hb dX2_isSoft_5 rfl (lv_at hl 0 rfl) ?_
    refine zg2_pegs hx hb g2 hown hw h_o0 q1 dX2_isSoft_6 ?_
    refine lv_icmp_ge (tgt := 26) hx hb dX2_isSoft_9 (by decide) (fun hc => ?_) (fun hc => ?_)
    · have hq := hq.1 hc
      refine lv_iconst (v := (0 : Int32)) hx hb dX2_isSoft_26 (by decide) ?_
      exact z_zret hQE hx hb hr hlk hw dX2_isSoft_27 (by decide) ⟨hq, rfl, rfl⟩
    · have hq := hq.2 hc
      refine lv_aload_n hx hb dX2_isSoft_12 rfl (lv_at hl 0 rfl) ?_
      refine zg2_kinds hx hb g2 hown hw h_o0 q2 dX2_isSoft_13 ?_
      refine lv_iload_n hx hb dX2_isSoft_16 rfl (lv_at hl 1 rfl) ?_
      obtain ⟨hi, hq⟩ := hq
      refine z_iald (n := 12) hx hb hw (zk_2_1 hC h_o0) hi dX2_isSoft_17 ?_
      refine lv_iconst (v := (2 : Int32)) hx hb dX2_isSoft_18 (by decide) ?_
      refine lv_icmp_ne (tgt := 26) hx hb dX2_isSoft_19 (by decide) (fun hc => ?_) (fun hc => ?_)
      · have hq := hq.1 hc
        refine lv_iconst (v := (0 : Int32)) hx hb dX2_isSoft_26 (by decide) ?_
        exact z_zret hQE hx hb hr hlk hw dX2_isSoft_27 (by decide) ⟨hq, rfl, rfl⟩
      · have hq := hq.2 hc
        refine lv_iconst (v := (1 : Int32)) hx hb dX2_isSoft_22 (by decide) ?_
        refine lv_goto (tgt := 27) hx hb dX2_isSoft_23 (by decide) ?_
        exact z_zret hQE hx hb hr hlk hw dX2_isSoft_27 (by decide) ⟨hq, rfl, rfl⟩
set_option maxRecDepth 20000 in
theorem ggX2_settledAt_X2_slewAt : GoodIn wsX2_settledAt wsX2_slewAt := goodIn_r _ [5, 6, 7, 13, 14, 15, 16, 17, 18] (by decide +kernel) (by decide +kernel)
set_option maxRecDepth 20000 in
theorem gX2_settledAt_X2_slewAt : GoodIn wsX2_settledAt (wsV RX2 43 RX2 yX2_slewAt wsX2_slewAt) := goodIn_app (goodIn_of _ (by decide +kernel)) ggX2_settledAt_X2_slewAt
set_option maxRecDepth 20000 in
theorem ggX2_settledAt_X2_isSoft : GoodIn wsX2_settledAt wsX2_isSoft := goodIn_r _ [11, 6, 12, 13, 14, 15, 16, 17, 18] (by decide +kernel) (by decide +kernel)
set_option maxRecDepth 20000 in
theorem gX2_settledAt_X2_isSoft : GoodIn wsX2_settledAt (wsV RX2 47 RX2 yX2_isSoft wsX2_isSoft) := goodIn_app (goodIn_of _ (by decide +kernel)) ggX2_settledAt_X2_isSoft
theorem dX2_settledAt_0 : decode cX2_settledAt 0 = .ok (.aload_n 0, 1) := by decide +kernel
theorem dX2_settledAt_1 : decode cX2_settledAt 1 = .ok (.iload_n 1, 1) := by decide +kernel
theorem dX2_settledAt_2 : decode cX2_settledAt 2 = .ok (.invokevirtual 43, 3) := by decide +kernel
theorem dX2_settledAt_5 : decode cX2_settledAt 5 = .ok (.istore_n 2, 1) := by decide +kernel
theorem dX2_settledAt_6 : decode cX2_settledAt 6 = .ok (.aload_n 0, 1) := by decide +kernel
theorem dX2_settledAt_7 : decode cX2_settledAt 7 = .ok (.iload_n 1, 1) := by decide +kernel
theorem dX2_settledAt_8 : decode cX2_settledAt 8 = .ok (.invokevirtual 47, 3) := by decide +kernel
theorem dX2_settledAt_11 : decode cX2_settledAt 11 = .ok (.ifCond .eq 11, 3) := by decide +kernel
theorem dX2_settledAt_14 : decode cX2_settledAt 14 = .ok (.iload_n 2, 1) := by decide +kernel
theorem dX2_settledAt_15 : decode cX2_settledAt 15 = .ok (.iload_n 2, 1) := by decide +kernel
theorem dX2_settledAt_16 : decode cX2_settledAt 16 = .ok (.iconst 2, 1) := by decide +kernel
theorem dX2_settledAt_17 : decode cX2_settledAt 17 = .ok (.idiv, 1) := by decide +kernel
theorem dX2_settledAt_18 : decode cX2_settledAt 18 = .ok (.isub, 1) := by decide +kernel
theorem dX2_settledAt_19 : decode cX2_settledAt 19 = .ok (.goto 4, 3) := by decide +kernel
theorem dX2_settledAt_22 : decode cX2_settledAt 22 = .ok (.iload_n 2, 1) := by decide +kernel
theorem dX2_settledAt_23 : decode cX2_settledAt 23 = .ok (.ireturn, 1) := by decide +kernel
def rmX2_settledAt : Room := { frames := 1, cells := 0, slots := 0, locals := 21 }
def wX2_settledAt (M : zM) (o0 : Nat) (x1 : Int32) (Q : Int32 → Prop) : Prop :=
wX2_slewAt M o0 x1 (fun r4 =>
wX2_isSoft M o0 x1 (fun r5 =>
((r5 = 0) → (
Q r4)) ∧
((¬ r5 = 0) → (
Q (r4 - (r4 / (2 : Int32)))))))
set_option maxHeartbeats 4000000 in
set_option maxRecDepth 100000 in
theorem kX2_settledAt {l : Launch} {D : va_G} {Y : zY} {ad kd : Nat → Nat} {RL : List Nat} {M : zM} {J : zL} {o0 : Nat} {x1 : Int32} (h_o0 : kd o0 = 2) {Q : Int32 → Prop} (hq : wX2_settledAt M o0 x1 Q) : zCi l yX2_settledAt wsX2_settledAt rmX2_settledAt [.ref (ad o0), .int x1] D Y ad kd RL M J (fun r M' J' => Q r ∧ M = M' ∧ J = J') := by
  refine z_meti (cc := cX2_settledAt) (maxL := 3) (ret := (some .int)) (by decide) rfl (Nat.le_of_ble_eq_true rfl) ?_
  intro p e s m below meth c ls A ar QE hQE hx hb hr hml hown hts hlk hw hl
  have hown : s.vm.findClass RX2 = some m.cls := hown
  have hl : lv_has ls 3 [(0, .ref (ad o0)), (1, .int x1)] := hl
  have hC := hw.2.2.2.2.2.1
  unfold wX2_settledAt at hq
  refine lv_aload_n hx hb dX2_settledAt_0 rfl (lv_at hl 0 rfl) ?_
  refine lv_iload_n hx hb dX2_settledAt_1 rfl (lv_at hl 1 rfl) ?_
  refine z_cvi ⟨hx, hb, hml, hown, hts⟩ hw h_o0 (kX2_slewAt h_o0 hq) (by decide) rfl (cwV 1 hts gX2_settledAt_X2_slewAt rfl rfl rfl (by decide +kernel) ⟨Nat.le_of_ble_eq_true rfl, Nat.le_of_ble_eq_true rfl⟩) rfl hl.1 rfl (Nat.le_of_ble_eq_true rfl) dX2_settledAt_2 ⟨Nat.zero_le _, Nat.zero_le _⟩ (fun r4 M0 J0 H locs hq hw => ?_)
  obtain ⟨hq, rfl, rfl⟩ := hq
  refine lv_istore_n (lv' := [(2, .int r4), (0, .ref (ad o0)), (1, .int x1)]) hx hb dX2_settledAt_5 rfl hl (by decide) rfl (fun ls hl => ?_)
  refine lv_aload_n hx hb dX2_settledAt_6 rfl (lv_at hl 1 rfl) ?_
  refine lv_iload_n hx hb dX2_settledAt_7 rfl (lv_at hl 2 rfl) ?_
  refine z_cvi ⟨hx, hb, hml, hown, hts⟩ hw h_o0 (kX2_isSoft h_o0 hq) (by decide) rfl (cwV 1 hts gX2_settledAt_X2_isSoft rfl rfl rfl (by decide +kernel) ⟨Nat.le_of_ble_eq_true rfl, Nat.le_of_ble_eq_true rfl⟩) rfl hl.1 rfl (Nat.le_of_ble_eq_true rfl) dX2_settledAt_8 ⟨Nat.zero_le _, Nat.zero_le _⟩ (fun r5 M0 J0 H locs hq hw => ?_)
  obtain ⟨hq, rfl, rfl⟩ := hq
  refine lv_if_eq (tgt := 22) hx hb dX2_settledAt_11 (by decide) (fun hc => ?_) (fun hc => ?_)
  · have hq := hq.1 hc
    refine lv_iload_n hx hb dX2_settledAt_22 rfl (lv_at hl 0 rfl) ?_
    exact z_iret hQE hx hb hr hlk hw dX2_settledAt_23 ⟨hq, rfl, rfl⟩
  · have hq := hq.2 hc
    refine lv_iload_n hx hb dX2_settledAt_14 rfl (lv_at hl 0 rfl) ?_
    refine lv_iload_n hx hb dX2_settledAt_15 rfl (lv_at hl 0 rfl) ?_
    refine lv_iconst (v := (2 : Int32)) hx hb dX2_settledAt_16 (by decide) ?_
    refine lv_idiv hx hb dX2_settledAt_17 (by decide) ?_
    refine lv_isub hx hb dX2_settledAt_18 ?_
    refine lv_goto (tgt := 23) hx hb dX2_settledAt_19 (by decide) ?_
    exact z_iret hQE hx hb hr hlk hw dX2_settledAt_23 ⟨hq, rfl, rfl⟩
theorem dX2_isEased_0 : decode cX2_isEased 0 = .ok (.iload_n 1, 1) := by decide +kernel
theorem dX2_isEased_1 : decode cX2_isEased 1 = .ok (.ifCond .lt 35, 3) := by decide +kernel
theorem dX2_isEased_4 : decode cX2_isEased 4 = .ok (.iload_n 1, 1) := by decide +kernel
theorem dX2_isEased_5 : decode cX2_isEased 5 = .ok (.aload_n 0, 1) := by decide +kernel
theorem dX2_isEased_6 : decode cX2_isEased 6 = .ok (.getfield 9, 3) := by decide +kernel
theorem dX2_isEased_9 : decode cX2_isEased 9 = .ok (.iconst 1, 1) := by decide +kernel
theorem dX2_isEased_10 : decode cX2_isEased 10 = .ok (.isub, 1) := by decide +kernel
theorem dX2_isEased_11 : decode cX2_isEased 11 = .ok (.if_icmp .ge 25, 3) := by decide +kernel
theorem dX2_isEased_14 : decode cX2_isEased 14 = .ok (.aload_n 0, 1) := by decide +kernel
theorem dX2_isEased_15 : decode cX2_isEased 15 = .ok (.getfield 18, 3) := by decide +kernel
theorem dX2_isEased_18 : decode cX2_isEased 18 = .ok (.iload_n 1, 1) := by decide +kernel
theorem dX2_isEased_19 : decode cX2_isEased 19 = .ok (.iaload, 1) := by decide +kernel
theorem dX2_isEased_20 : decode cX2_isEased 20 = .ok (.iconst 3, 1) := by decide +kernel
theorem dX2_isEased_21 : decode cX2_isEased 21 = .ok (.if_icmp .eq 15, 3) := by decide +kernel
theorem dX2_isEased_24 : decode cX2_isEased 24 = .ok (.aload_n 0, 1) := by decide +kernel
theorem dX2_isEased_25 : decode cX2_isEased 25 = .ok (.getfield 18, 3) := by decide +kernel
theorem dX2_isEased_28 : decode cX2_isEased 28 = .ok (.iload_n 1, 1) := by decide +kernel
theorem dX2_isEased_29 : decode cX2_isEased 29 = .ok (.iconst 1, 1) := by decide +kernel
theorem dX2_isEased_30 : decode cX2_isEased 30 = .ok (.iadd, 1) := by decide +kernel
theorem dX2_isEased_31 : decode cX2_isEased 31 = .ok (.iaload, 1) := by decide +kernel
theorem dX2_isEased_32 : decode cX2_isEased 32 = .ok (.iconst 3, 1) := by decide +kernel
theorem dX2_isEased_33 : decode cX2_isEased 33 = .ok (.if_icmp .ne 7, 3) := by decide +kernel
theorem dX2_isEased_36 : decode cX2_isEased 36 = .ok (.iconst 1, 1) := by decide +kernel
theorem dX2_isEased_37 : decode cX2_isEased 37 = .ok (.goto 4, 3) := by decide +kernel
theorem dX2_isEased_40 : decode cX2_isEased 40 = .ok (.iconst 0, 1) := by decide +kernel
theorem dX2_isEased_41 : decode cX2_isEased 41 = .ok (.ireturn, 1) := by decide +kernel
def rmX2_isEased : Room := { frames := 0, cells := 0, slots := 0, locals := 0 }
def wX2_isEased (M : zM) (o0 : Nat) (x1 : Int32) (Q : Int32 → Prop) : Prop :=
((x1 < 0) → (
Q (1 : Int32))) ∧
((¬ x1 < 0) → (
((((M o0 0) - (1 : Int32)) ≤ x1) → (
Q (1 : Int32))) ∧
((¬ ((M o0 0) - (1 : Int32)) ≤ x1) → (
vp_in x1 12 ∧
(((M (o0 + 1) x1.toNatClampNeg) = (3 : Int32)) → (
Q (1 : Int32))) ∧
((¬ (M (o0 + 1) x1.toNatClampNeg) = (3 : Int32)) → (
vp_in (x1 + (1 : Int32)) 12 ∧
((¬ (M (o0 + 1) (x1 + (1 : Int32)).toNatClampNeg) = (3 : Int32)) → (
Q (0 : Int32))) ∧
(((M (o0 + 1) (x1 + (1 : Int32)).toNatClampNeg) = (3 : Int32)) → (
Q (1 : Int32)))))))))
set_option maxHeartbeats 4000000 in
set_option maxRecDepth 100000 in
theorem kX2_isEased {l : Launch} {D : va_G} {Y : zY} {ad kd : Nat → Nat} {RL : List Nat} {M : zM} {J : zL} {o0 : Nat} {x1 : Int32} (h_o0 : kd o0 = 2) {Q : Int32 → Prop} (hq : wX2_isEased M o0 x1 Q) : zCi l yX2_isEased wsX2_isEased rmX2_isEased [.ref (ad o0), .int x1] D Y ad kd RL M J (fun r M' J' => Q r ∧ M = M' ∧ J = J') := by
  refine z_meti (cc := cX2_isEased) (maxL := 2) (ret := (some .boolean)) (by decide) rfl (Nat.le_of_ble_eq_true rfl) ?_
  intro p e s m below meth c ls A ar QE hQE hx hb hr hml hown hts hlk hw hl
  have hown : s.vm.findClass RX2 = some m.cls := hown
  have hl : lv_has ls 2 [(0, .ref (ad o0)), (1, .int x1)] := hl
  have hC := hw.2.2.2.2.2.1
  have g2 : ∀ w ∈ wsX20, w.before ar s = true := (fun w h => hts w (List.mem_cons_of_mem _ (List.mem_append_right _ h)))
  have q1 := hts _ (List.mem_of_getElem? (i := 1) rfl)
  have q2 := hts _ (List.mem_of_getElem? (i := 2) rfl)
  unfold wX2_isEased at hq
  refine lv_iload_n hx hb dX2_isEased_0 rfl (lv_at hl 1 rfl) ?_
  refine lv_if_lt (tgt := 36) hx hb dX2_isEased_1 (by decide) (fun hc => ?_) (fun hc => ?_)
  · have hq := hq.1 hc
    refine lv_iconst (v := (1 : Int32)) hx hb dX2_isEased_36 (by decide) ?_
    refine lv_goto (tgt := 41) hx hb dX2_isEased_37 (by decide) ?_
    exact z_zret hQE hx hb hr hlk hw dX2_isEased_41 (by decide) ⟨hq, rfl, rfl⟩
  · have hq := hq.2 hc
    refine lv_iload_n hx hb dX2_isEased_4 rfl (lv_at hl 1 rfl) ?_
    refine lv_aload_n hx hb dX2_isEased_5 rfl (lv_at hl 0 rfl) ?_
    refine zg2_pegs hx hb g2 hown hw h_o0 q1 dX2_isEased_6 ?_
    refine lv_iconst (v := (1 : Int32)) hx hb dX2_isEased_9 (by decide) ?_
    refine lv_isub hx hb dX2_isEased_10 ?_
    refine lv_icmp_ge (tgt := 36) hx hb dX2_isEased_11 (by decide) (fun hc => ?_) (fun hc => ?_)
    · have hq := hq.1 hc
      refine lv_iconst (v := (1 : Int32)) hx hb dX2_isEased_36 (by decide) ?_
      refine lv_goto (tgt := 41) hx hb dX2_isEased_37 (by decide) ?_
      exact z_zret hQE hx hb hr hlk hw dX2_isEased_41 (by decide) ⟨hq, rfl, rfl⟩
    · have hq := hq.2 hc
      refine lv_aload_n hx hb dX2_isEased_14 rfl (lv_at hl 0 rfl) ?_
      refine zg2_kinds hx hb g2 hown hw h_o0 q2 dX2_isEased_15 ?_
      refine lv_iload_n hx hb dX2_isEased_18 rfl (lv_at hl 1 rfl) ?_
      obtain ⟨hi, hq⟩ := hq
      refine z_iald (n := 12) hx hb hw (zk_2_1 hC h_o0) hi dX2_isEased_19 ?_
      refine lv_iconst (v := (3 : Int32)) hx hb dX2_isEased_20 (by decide) ?_
      refine lv_icmp_eq (tgt := 36) hx hb dX2_isEased_21 (by decide) (fun hc => ?_) (fun hc => ?_)
      · have hq := hq.1 hc
        refine lv_iconst (v := (1 : Int32)) hx hb dX2_isEased_36 (by decide) ?_
        refine lv_goto (tgt := 41) hx hb dX2_isEased_37 (by decide) ?_
        exact z_zret hQE hx hb hr hlk hw dX2_isEased_41 (by decide) ⟨hq, rfl, rfl⟩
      · have hq := hq.2 hc
        refine lv_aload_n hx hb dX2_isEased_24 rfl (lv_at hl 0 rfl) ?_
        refine zg2_kinds hx hb g2 hown hw h_o0 q2 dX2_isEased_25 ?_
        refine lv_iload_n hx hb dX2_isEased_28 rfl (lv_at hl 1 rfl) ?_
        refine lv_iconst (v := (1 : Int32)) hx hb dX2_isEased_29 (by decide) ?_
        refine lv_iadd hx hb dX2_isEased_30 ?_
        obtain ⟨hi, hq⟩ := hq
        refine z_iald (n := 12) hx hb hw (zk_2_1 hC h_o0) hi dX2_isEased_31 ?_
        refine lv_iconst (v := (3 : Int32)) hx hb dX2_isEased_32 (by decide) ?_
        refine lv_icmp_ne (tgt := 40) hx hb dX2_isEased_33 (by decide) (fun hc => ?_) (fun hc => ?_)
        · have hq := hq.1 hc
          refine lv_iconst (v := (0 : Int32)) hx hb dX2_isEased_40 (by decide) ?_
          exact z_zret hQE hx hb hr hlk hw dX2_isEased_41 (by decide) ⟨hq, rfl, rfl⟩
        · have hq := hq.2 hc
          refine lv_iconst (v := (1 : Int32)) hx hb dX2_isEased_36 (by decide) ?_
          refine lv_goto (tgt := 41) hx hb dX2_isEased_37 (by decide) ?_
          exact z_zret hQE hx hb hr hlk hw dX2_isEased_41 (by decide) ⟨hq, rfl, rfl⟩
set_option maxRecDepth 20000 in
theorem ggX2_step_X2_isEased : GoodIn wsX2_step wsX2_isEased := goodIn_r _ [9, 10, 11, 22, 23, 24, 25, 26, 27] (by decide +kernel) (by decide +kernel)
set_option maxRecDepth 20000 in
theorem gX2_step_X2_isEased : GoodIn wsX2_step (wsV RX2 51 RX2 yX2_isEased wsX2_isEased) := goodIn_app (goodIn_of _ (by decide +kernel)) ggX2_step_X2_isEased
set_option maxRecDepth 20000 in
theorem ggX2_step_X2_now : GoodIn wsX2_step wsX2_now := goodIn_r _ [15, 16, 17, 18, 19, 20, 8, 21, 10, 22, 23, 24, 25, 26, 27] (by decide +kernel) (by decide +kernel)
set_option maxRecDepth 20000 in
theorem gX2_step_X2_now : GoodIn wsX2_step (wsV RX2 54 RX2 yX2_now wsX2_now) := goodIn_app (goodIn_of _ (by decide +kernel)) ggX2_step_X2_now
theorem dX2_step_0 : decode cX2_step 0 = .ok (.aload_n 0, 1) := by decide +kernel
theorem dX2_step_1 : decode cX2_step 1 = .ok (.iload_n 1, 1) := by decide +kernel
theorem dX2_step_2 : decode cX2_step 2 = .ok (.invokevirtual 51, 3) := by decide +kernel
theorem dX2_step_5 : decode cX2_step 5 = .ok (.ifCond .eq 7, 3) := by decide +kernel
theorem dX2_step_8 : decode cX2_step 8 = .ok (.iconst 0, 1) := by decide +kernel
theorem dX2_step_9 : decode cX2_step 9 = .ok (.goto 19, 3) := by decide +kernel
theorem dX2_step_12 : decode cX2_step 12 = .ok (.aload_n 0, 1) := by decide +kernel
theorem dX2_step_13 : decode cX2_step 13 = .ok (.iload_n 1, 1) := by decide +kernel
theorem dX2_step_14 : decode cX2_step 14 = .ok (.invokevirtual 54, 3) := by decide +kernel
theorem dX2_step_17 : decode cX2_step 17 = .ok (.aload_n 0, 1) := by decide +kernel
theorem dX2_step_18 : decode cX2_step 18 = .ok (.iload_n 1, 1) := by decide +kernel
theorem dX2_step_19 : decode cX2_step 19 = .ok (.iconst 1, 1) := by decide +kernel
theorem dX2_step_20 : decode cX2_step 20 = .ok (.iadd, 1) := by decide +kernel
theorem dX2_step_21 : decode cX2_step 21 = .ok (.invokevirtual 54, 3) := by decide +kernel
theorem dX2_step_24 : decode cX2_step 24 = .ok (.isub, 1) := by decide +kernel
theorem dX2_step_25 : decode cX2_step 25 = .ok (.invokestatic 57, 3) := by decide +kernel
theorem dX2_step_28 : decode cX2_step 28 = .ok (.ireturn, 1) := by decide +kernel
def rmX2_step : Room := { frames := 2, cells := 0, slots := 0, locals := 42 }
def wX2_step (M : zM) (o0 : Nat) (x1 : Int32) (Q : Int32 → Prop) : Prop :=
wX2_isEased M o0 x1 (fun r4 =>
((r4 = 0) → (
wX2_now M o0 x1 (fun r5 =>
wX2_now M o0 (x1 + (1 : Int32)) (fun r6 =>
Q (zabs (r5 - r6)))))) ∧
((¬ r4 = 0) → (
Q (0 : Int32))))
set_option maxHeartbeats 4000000 in
set_option maxRecDepth 100000 in
theorem kX2_step {l : Launch} {D : va_G} {Y : zY} {ad kd : Nat → Nat} {RL : List Nat} {M : zM} {J : zL} {o0 : Nat} {x1 : Int32} (h_o0 : kd o0 = 2) {Q : Int32 → Prop} (hq : wX2_step M o0 x1 Q) : zCi l yX2_step wsX2_step rmX2_step [.ref (ad o0), .int x1] D Y ad kd RL M J (fun r M' J' => Q r ∧ M = M' ∧ J = J') := by
  refine z_meti (cc := cX2_step) (maxL := 2) (ret := (some .int)) (by decide) rfl (Nat.le_of_ble_eq_true rfl) ?_
  intro p e s m below meth c ls A ar QE hQE hx hb hr hml hown hts hlk hw hl
  have hown : s.vm.findClass RX2 = some m.cls := hown
  have hl : lv_has ls 2 [(0, .ref (ad o0)), (1, .int x1)] := hl
  have hC := hw.2.2.2.2.2.1
  have q1 := hts _ (List.mem_of_getElem? (i := 1) rfl)
  have q2 := hts _ (List.mem_of_getElem? (i := 2) rfl)
  have q3 := hts _ (List.mem_of_getElem? (i := 3) rfl)
  have q4 := hts _ (List.mem_of_getElem? (i := 4) rfl)
  unfold wX2_step at hq
  refine lv_aload_n hx hb dX2_step_0 rfl (lv_at hl 0 rfl) ?_
  refine lv_iload_n hx hb dX2_step_1 rfl (lv_at hl 1 rfl) ?_
  refine z_cvi ⟨hx, hb, hml, hown, hts⟩ hw h_o0 (kX2_isEased h_o0 hq) (by decide) rfl (cwV 1 hts gX2_step_X2_isEased rfl rfl rfl (by decide +kernel) ⟨Nat.le_of_ble_eq_true rfl, Nat.le_of_ble_eq_true rfl⟩) rfl hl.1 rfl (Nat.le_of_ble_eq_true rfl) dX2_step_2 ⟨Nat.zero_le _, Nat.zero_le _⟩ (fun r4 M0 J0 H locs hq hw => ?_)
  obtain ⟨hq, rfl, rfl⟩ := hq
  refine lv_if_eq (tgt := 12) hx hb dX2_step_5 (by decide) (fun hc => ?_) (fun hc => ?_)
  · have hq := hq.1 hc
    refine lv_aload_n hx hb dX2_step_12 rfl (lv_at hl 0 rfl) ?_
    refine lv_iload_n hx hb dX2_step_13 rfl (lv_at hl 1 rfl) ?_
    refine z_cvi ⟨hx, hb, hml, hown, hts⟩ hw h_o0 (kX2_now h_o0 hq) (by decide) rfl (cwV 1 hts gX2_step_X2_now rfl rfl rfl (by decide +kernel) ⟨Nat.le_of_ble_eq_true rfl, Nat.le_of_ble_eq_true rfl⟩) rfl hl.1 rfl (Nat.le_of_ble_eq_true rfl) dX2_step_14 ⟨Nat.zero_le _, Nat.zero_le _⟩ (fun r5 M0 J0 H locs hq hw => ?_)
    obtain ⟨hq, rfl, rfl⟩ := hq
    refine lv_aload_n hx hb dX2_step_17 rfl (lv_at hl 0 rfl) ?_
    refine lv_iload_n hx hb dX2_step_18 rfl (lv_at hl 1 rfl) ?_
    refine lv_iconst (v := (1 : Int32)) hx hb dX2_step_19 (by decide) ?_
    refine lv_iadd hx hb dX2_step_20 ?_
    refine z_cvi ⟨hx, hb, hml, hown, hts⟩ hw h_o0 (kX2_now h_o0 hq) (by decide) rfl (cwV 1 hts gX2_step_X2_now rfl rfl rfl (by decide +kernel) ⟨Nat.le_of_ble_eq_true rfl, Nat.le_of_ble_eq_true rfl⟩) rfl hl.1 rfl (Nat.le_of_ble_eq_true rfl) dX2_step_21 ⟨Nat.zero_le _, Nat.zero_le _⟩ (fun r6 M0 J0 H locs hq hw => ?_)
    obtain ⟨hq, rfl, rfl⟩ := hq
    refine lv_isub hx hb dX2_step_24 ?_
    refine va_mabs hx hb (hml.trans hl.1.symm) hown q1 q2 q3 q4 (Nat.le_of_ble_eq_true rfl) (Nat.le_of_ble_eq_true rfl) (Nat.zero_le _) (Nat.zero_le _) dX2_step_25 ?_
    exact z_iret hQE hx hb hr hlk hw dX2_step_28 ⟨hq, rfl, rfl⟩
  · have hq := hq.2 hc
    refine lv_iconst (v := (0 : Int32)) hx hb dX2_step_8 (by decide) ?_
    refine lv_goto (tgt := 28) hx hb dX2_step_9 (by decide) ?_
    exact z_iret hQE hx hb hr hlk hw dX2_step_28 ⟨hq, rfl, rfl⟩
set_option maxRecDepth 20000 in
theorem ggX2_worst_X2_step : GoodIn wsX2_worst wsX2_step := goodIn_r _ [10, 11, 12, 4, 13, 14, 15, 16, 9, 17, 1, 18, 19, 20, 21, 22, 23, 24, 25, 26, 27, 28, 29, 30, 31, 32, 33, 34] (by decide +kernel) (by decide +kernel)
set_option maxRecDepth 20000 in
theorem gX2_worst_X2_step : GoodIn wsX2_worst (wsV RX2 60 RX2 yX2_step wsX2_step) := goodIn_app (goodIn_of _ (by decide +kernel)) ggX2_worst_X2_step
theorem dX2_worst_0 : decode cX2_worst 0 = .ok (.iconst 0, 1) := by decide +kernel
theorem dX2_worst_1 : decode cX2_worst 1 = .ok (.istore_n 1, 1) := by decide +kernel
theorem dX2_worst_2 : decode cX2_worst 2 = .ok (.iconst 0, 1) := by decide +kernel
theorem dX2_worst_3 : decode cX2_worst 3 = .ok (.istore_n 2, 1) := by decide +kernel
theorem dX2_worst_4 : decode cX2_worst 4 = .ok (.iload_n 2, 1) := by decide +kernel
theorem dX2_worst_5 : decode cX2_worst 5 = .ok (.aload_n 0, 1) := by decide +kernel
theorem dX2_worst_6 : decode cX2_worst 6 = .ok (.getfield 9, 3) := by decide +kernel
theorem dX2_worst_9 : decode cX2_worst 9 = .ok (.iconst 1, 1) := by decide +kernel
theorem dX2_worst_10 : decode cX2_worst 10 = .ok (.isub, 1) := by decide +kernel
theorem dX2_worst_11 : decode cX2_worst 11 = .ok (.if_icmp .ge 19, 3) := by decide +kernel
theorem dX2_worst_14 : decode cX2_worst 14 = .ok (.iload_n 1, 1) := by decide +kernel
theorem dX2_worst_15 : decode cX2_worst 15 = .ok (.aload_n 0, 1) := by decide +kernel
theorem dX2_worst_16 : decode cX2_worst 16 = .ok (.iload_n 2, 1) := by decide +kernel
theorem dX2_worst_17 : decode cX2_worst 17 = .ok (.invokevirtual 60, 3) := by decide +kernel
theorem dX2_worst_20 : decode cX2_worst 20 = .ok (.invokestatic 37, 3) := by decide +kernel
theorem dX2_worst_23 : decode cX2_worst 23 = .ok (.istore_n 1, 1) := by decide +kernel
theorem dX2_worst_24 : decode cX2_worst 24 = .ok (.iinc 2 1, 3) := by decide +kernel
theorem dX2_worst_27 : decode cX2_worst 27 = .ok (.goto (-23), 3) := by decide +kernel
theorem dX2_worst_30 : decode cX2_worst 30 = .ok (.iload_n 1, 1) := by decide +kernel
theorem dX2_worst_31 : decode cX2_worst 31 = .ok (.ireturn, 1) := by decide +kernel
def rmX2_worst : Room := { frames := 3, cells := 0, slots := 0, locals := 63 }
def lpX2_worst_4 (M : zM) (o0 : Nat) (Q : Int32 → Prop) : Nat → Int32 → Int32 → Prop
  | 0, _, _ => False
  | fu4 + 1, x3, x4 =>
((((M o0 0) - (1 : Int32)) ≤ x4) → (
Q x3)) ∧
((¬ ((M o0 0) - (1 : Int32)) ≤ x4) → (
wX2_step M o0 x4 (fun r5 =>
∀ x6 : Int32, x6 = x4 + (1 : Int32) →
lpX2_worst_4 M o0 Q fu4 (zmax x3 r5) x6)))
def wX2_worst (M : zM) (o0 : Nat) (Q : Int32 → Prop) : Prop :=
∃ fu4 : Nat, lpX2_worst_4 M o0 Q fu4 (0 : Int32) (0 : Int32)
set_option maxHeartbeats 4000000 in
set_option maxRecDepth 100000 in
theorem kX2_worst {l : Launch} {D : va_G} {Y : zY} {ad kd : Nat → Nat} {RL : List Nat} {M : zM} {J : zL} {o0 : Nat} (h_o0 : kd o0 = 2) {Q : Int32 → Prop} (hq : wX2_worst M o0 Q) : zCi l yX2_worst wsX2_worst rmX2_worst [.ref (ad o0)] D Y ad kd RL M J (fun r M' J' => Q r ∧ M = M' ∧ J = J') := by
  refine z_meti (cc := cX2_worst) (maxL := 3) (ret := (some .int)) (by decide) rfl (Nat.le_of_ble_eq_true rfl) ?_
  intro p e s m below meth c ls A ar QE hQE hx hb hr hml hown hts hlk hw hl
  have hown : s.vm.findClass RX2 = some m.cls := hown
  have hl : lv_has ls 3 [(0, .ref (ad o0))] := hl
  have hC := hw.2.2.2.2.2.1
  have g2 : ∀ w ∈ wsX20, w.before ar s = true := (fun w h => hts w (List.mem_cons_of_mem _ (List.mem_append_right _ h)))
  have q1 := hts _ (List.mem_of_getElem? (i := 1) rfl)
  have q2 := hts _ (List.mem_of_getElem? (i := 2) rfl)
  have q3 := hts _ (List.mem_of_getElem? (i := 3) rfl)
  have q4 := hts _ (List.mem_of_getElem? (i := 4) rfl)
  have q5 := hts _ (List.mem_of_getElem? (i := 5) rfl)
  unfold wX2_worst at hq
  refine lv_iconst (v := (0 : Int32)) hx hb dX2_worst_0 (by decide) ?_
  refine lv_istore_n (lv' := [(1, .int (0 : Int32)), (0, .ref (ad o0))]) hx hb dX2_worst_1 rfl hl (by decide) rfl (fun ls hl => ?_)
  refine lv_iconst (v := (0 : Int32)) hx hb dX2_worst_2 (by decide) ?_
  refine lv_istore_n (lv' := [(2, .int (0 : Int32)), (1, .int (0 : Int32)), (0, .ref (ad o0))]) hx hb dX2_worst_3 rfl hl (by decide) rfl (fun ls hl => ?_)
  obtain ⟨fu4, hq⟩ := hq
  have lp4 : ∀ (fu4 : Nat) (x3 : Int32) (x4 : Int32) (H : Heap) (locs : List Loc) (ls : Array Slot), lpX2_worst_4 M o0 Q fu4 x3 x4 → zH D Y ad kd RL M J A s.heap H locs s → lv_has ls 3 [(0, .ref (ad o0)), (1, .int x3), (2, .int x4)] → W p l e rmX2_worst s m ar below meth c H locs 0 0 QE (F0 m 4 ls []) := by
    intro fu4
    induction fu4 with
    | zero => intro x3 x4 H locs ls hq; exact hq.elim
    | succ fu4 ih4 =>
      intro x3 x4 H locs ls hq hw hl
      unfold lpX2_worst_4 at hq
      refine lv_iload_n hx hb dX2_worst_4 rfl (lv_at hl 2 rfl) ?_
      refine lv_aload_n hx hb dX2_worst_5 rfl (lv_at hl 0 rfl) ?_
      refine zg2_pegs hx hb g2 hown hw h_o0 q1 dX2_worst_6 ?_
      refine lv_iconst (v := (1 : Int32)) hx hb dX2_worst_9 (by decide) ?_
      refine lv_isub hx hb dX2_worst_10 ?_
      refine lv_icmp_ge (tgt := 30) hx hb dX2_worst_11 (by decide) (fun hc => ?_) (fun hc => ?_)
      · have hq := hq.1 hc
        refine lv_iload_n hx hb dX2_worst_30 rfl (lv_at hl 1 rfl) ?_
        exact z_iret hQE hx hb hr hlk hw dX2_worst_31 ⟨hq, rfl, rfl⟩
      · have hq := hq.2 hc
        refine lv_iload_n hx hb dX2_worst_14 rfl (lv_at hl 1 rfl) ?_
        refine lv_aload_n hx hb dX2_worst_15 rfl (lv_at hl 0 rfl) ?_
        refine lv_iload_n hx hb dX2_worst_16 rfl (lv_at hl 2 rfl) ?_
        refine z_cvi ⟨hx, hb, hml, hown, hts⟩ hw h_o0 (kX2_step h_o0 hq) (by decide) rfl (cwV 1 hts gX2_worst_X2_step rfl rfl rfl (by decide +kernel) ⟨Nat.le_of_ble_eq_true rfl, Nat.le_of_ble_eq_true rfl⟩) rfl hl.1 rfl (Nat.le_of_ble_eq_true rfl) dX2_worst_17 ⟨Nat.zero_le _, Nat.zero_le _⟩ (fun r5 M0 J0 H locs hq hw => ?_)
        obtain ⟨hq, rfl, rfl⟩ := hq
        refine va_mmax hx hb (hml.trans hl.1.symm) hown q2 q3 q4 q5 (Nat.le_of_ble_eq_true rfl) (Nat.le_of_ble_eq_true rfl) (Nat.zero_le _) (Nat.zero_le _) dX2_worst_20 ?_
        refine lv_istore_n (lv' := [(1, .int (zmax x3 r5)), (0, .ref (ad o0)), (2, .int x4)]) hx hb dX2_worst_23 rfl hl (by decide) rfl (fun ls hl => ?_)
        obtain ⟨x6, e_x6⟩ : ∃ y : Int32, y = x4 + (1 : Int32) := ⟨_, rfl⟩
        have hq := hq x6 e_x6
        refine lv_iinc (v := x6) (lv' := [(2, .int x6), (1, .int (zmax x3 r5)), (0, .ref (ad o0))]) hx hb dX2_worst_24 hl (k := 2) rfl (by rw [e_x6]; rfl) (by decide) rfl (fun ls hl => ?_)
        refine lv_goto (tgt := 4) hx hb dX2_worst_27 (by decide) ?_
        exact ih4 (zmax x3 r5) x6 _ _ _ hq hw (lv_sub hl [2, 1, 0] rfl)
  exact lp4 fu4 (0 : Int32) (0 : Int32) _ _ _ hq hw (lv_sub hl [2, 1, 0] rfl)
theorem dX2_reach_0 : decode cX2_reach 0 = .ok (.iload_n 1, 1) := by decide +kernel
theorem dX2_reach_1 : decode cX2_reach 1 = .ok (.ifCond .lt 31, 3) := by decide +kernel
theorem dX2_reach_4 : decode cX2_reach 4 = .ok (.iload_n 1, 1) := by decide +kernel
theorem dX2_reach_5 : decode cX2_reach 5 = .ok (.aload_n 0, 1) := by decide +kernel
theorem dX2_reach_6 : decode cX2_reach 6 = .ok (.getfield 9, 3) := by decide +kernel
theorem dX2_reach_9 : decode cX2_reach 9 = .ok (.if_icmp .ge 23, 3) := by decide +kernel
theorem dX2_reach_12 : decode cX2_reach 12 = .ok (.aload_n 0, 1) := by decide +kernel
theorem dX2_reach_13 : decode cX2_reach 13 = .ok (.getfield 18, 3) := by decide +kernel
theorem dX2_reach_16 : decode cX2_reach 16 = .ok (.iload_n 1, 1) := by decide +kernel
theorem dX2_reach_17 : decode cX2_reach 17 = .ok (.iaload, 1) := by decide +kernel
theorem dX2_reach_18 : decode cX2_reach 18 = .ok (.iconst 4, 1) := by decide +kernel
theorem dX2_reach_19 : decode cX2_reach 19 = .ok (.if_icmp .eq 13, 3) := by decide +kernel
theorem dX2_reach_22 : decode cX2_reach 22 = .ok (.aload_n 0, 1) := by decide +kernel
theorem dX2_reach_23 : decode cX2_reach 23 = .ok (.getfield 18, 3) := by decide +kernel
theorem dX2_reach_26 : decode cX2_reach 26 = .ok (.iload_n 1, 1) := by decide +kernel
theorem dX2_reach_27 : decode cX2_reach 27 = .ok (.iaload, 1) := by decide +kernel
theorem dX2_reach_28 : decode cX2_reach 28 = .ok (.iconst 5, 1) := by decide +kernel
theorem dX2_reach_29 : decode cX2_reach 29 = .ok (.if_icmp .ne 5, 3) := by decide +kernel
theorem dX2_reach_32 : decode cX2_reach 32 = .ok (.iconst 0, 1) := by decide +kernel
theorem dX2_reach_33 : decode cX2_reach 33 = .ok (.ireturn, 1) := by decide +kernel
theorem dX2_reach_34 : decode cX2_reach 34 = .ok (.aload_n 0, 1) := by decide +kernel
theorem dX2_reach_35 : decode cX2_reach 35 = .ok (.getfield 18, 3) := by decide +kernel
theorem dX2_reach_38 : decode cX2_reach 38 = .ok (.iload_n 1, 1) := by decide +kernel
theorem dX2_reach_39 : decode cX2_reach 39 = .ok (.iaload, 1) := by decide +kernel
theorem dX2_reach_40 : decode cX2_reach 40 = .ok (.iconst 2, 1) := by decide +kernel
theorem dX2_reach_41 : decode cX2_reach 41 = .ok (.if_icmp .ne 18, 3) := by decide +kernel
theorem dX2_reach_44 : decode cX2_reach 44 = .ok (.iconst 0, 1) := by decide +kernel
theorem dX2_reach_45 : decode cX2_reach 45 = .ok (.aload_n 0, 1) := by decide +kernel
theorem dX2_reach_46 : decode cX2_reach 46 = .ok (.getfield 25, 3) := by decide +kernel
theorem dX2_reach_49 : decode cX2_reach 49 = .ok (.iload_n 1, 1) := by decide +kernel
theorem dX2_reach_50 : decode cX2_reach 50 = .ok (.iaload, 1) := by decide +kernel
theorem dX2_reach_51 : decode cX2_reach 51 = .ok (.iconst 1, 1) := by decide +kernel
theorem dX2_reach_52 : decode cX2_reach 52 = .ok (.isub, 1) := by decide +kernel
theorem dX2_reach_53 : decode cX2_reach 53 = .ok (.invokestatic 37, 3) := by decide +kernel
theorem dX2_reach_56 : decode cX2_reach 56 = .ok (.goto 9, 3) := by decide +kernel
theorem dX2_reach_59 : decode cX2_reach 59 = .ok (.aload_n 0, 1) := by decide +kernel
theorem dX2_reach_60 : decode cX2_reach 60 = .ok (.getfield 25, 3) := by decide +kernel
theorem dX2_reach_63 : decode cX2_reach 63 = .ok (.iload_n 1, 1) := by decide +kernel
theorem dX2_reach_64 : decode cX2_reach 64 = .ok (.iaload, 1) := by decide +kernel
theorem dX2_reach_65 : decode cX2_reach 65 = .ok (.ireturn, 1) := by decide +kernel
def rmX2_reach : Room := { frames := 1, cells := 0, slots := 0, locals := 24 }
def wX2_reach (M : zM) (o0 : Nat) (x1 : Int32) (Q : Int32 → Prop) : Prop :=
((x1 < 0) → (
Q (0 : Int32))) ∧
((¬ x1 < 0) → (
(((M o0 0) ≤ x1) → (
Q (0 : Int32))) ∧
((¬ (M o0 0) ≤ x1) → (
vp_in x1 12 ∧
(((M (o0 + 1) x1.toNatClampNeg) = (4 : Int32)) → (
Q (0 : Int32))) ∧
((¬ (M (o0 + 1) x1.toNatClampNeg) = (4 : Int32)) → (
vp_in x1 12 ∧
((¬ (M (o0 + 1) x1.toNatClampNeg) = (5 : Int32)) → (
vp_in x1 12 ∧
((¬ (M (o0 + 1) x1.toNatClampNeg) = (2 : Int32)) → (
vp_in x1 12 ∧
Q (M (o0 + 3) x1.toNatClampNeg))) ∧
(((M (o0 + 1) x1.toNatClampNeg) = (2 : Int32)) → (
vp_in x1 12 ∧
∀ x4 : Int32, x4 = (zmax (0 : Int32) ((M (o0 + 3) x1.toNatClampNeg) - (1 : Int32))) →
Q x4)))) ∧
(((M (o0 + 1) x1.toNatClampNeg) = (5 : Int32)) → (
Q (0 : Int32)))))))))
set_option maxHeartbeats 4000000 in
set_option maxRecDepth 100000 in
theorem kX2_reach {l : Launch} {D : va_G} {Y : zY} {ad kd : Nat → Nat} {RL : List Nat} {M : zM} {J : zL} {o0 : Nat} {x1 : Int32} (h_o0 : kd o0 = 2) {Q : Int32 → Prop} (hq : wX2_reach M o0 x1 Q) : zCi l yX2_reach wsX2_reach rmX2_reach [.ref (ad o0), .int x1] D Y ad kd RL M J (fun r M' J' => Q r ∧ M = M' ∧ J = J') := by
  refine z_meti (cc := cX2_reach) (maxL := 2) (ret := (some .int)) (by decide) rfl (Nat.le_of_ble_eq_true rfl) ?_
  intro p e s m below meth c ls A ar QE hQE hx hb hr hml hown hts hlk hw hl
  have hown : s.vm.findClass RX2 = some m.cls := hown
  have hl : lv_has ls 2 [(0, .ref (ad o0)), (1, .int x1)] := hl
  have hC := hw.2.2.2.2.2.1
  have g2 : ∀ w ∈ wsX20, w.before ar s = true := (fun w h => hts w (List.mem_cons_of_mem _ (List.mem_append_right _ h)))
  have q1 := hts _ (List.mem_of_getElem? (i := 1) rfl)
  have q2 := hts _ (List.mem_of_getElem? (i := 2) rfl)
  have q3 := hts _ (List.mem_of_getElem? (i := 3) rfl)
  have q4 := hts _ (List.mem_of_getElem? (i := 4) rfl)
  have q5 := hts _ (List.mem_of_getElem? (i := 5) rfl)
  have q6 := hts _ (List.mem_of_getElem? (i := 6) rfl)
  have q7 := hts _ (List.mem_of_getElem? (i := 7) rfl)
  unfold wX2_reach at hq
  refine lv_iload_n hx hb dX2_reach_0 rfl (lv_at hl 1 rfl) ?_
  refine lv_if_lt (tgt := 32) hx hb dX2_reach_1 (by decide) (fun hc => ?_) (fun hc => ?_)
  · have hq := hq.1 hc
    refine lv_iconst (v := (0 : Int32)) hx hb dX2_reach_32 (by decide) ?_
    exact z_iret hQE hx hb hr hlk hw dX2_reach_33 ⟨hq, rfl, rfl⟩
  · have hq := hq.2 hc
    refine lv_iload_n hx hb dX2_reach_4 rfl (lv_at hl 1 rfl) ?_
    refine lv_aload_n hx hb dX2_reach_5 rfl (lv_at hl 0 rfl) ?_
    refine zg2_pegs hx hb g2 hown hw h_o0 q1 dX2_reach_6 ?_
    refine lv_icmp_ge (tgt := 32) hx hb dX2_reach_9 (by decide) (fun hc => ?_) (fun hc => ?_)
    · have hq := hq.1 hc
      refine lv_iconst (v := (0 : Int32)) hx hb dX2_reach_32 (by decide) ?_
      exact z_iret hQE hx hb hr hlk hw dX2_reach_33 ⟨hq, rfl, rfl⟩
    · have hq := hq.2 hc
      refine lv_aload_n hx hb dX2_reach_12 rfl (lv_at hl 0 rfl) ?_
      refine zg2_kinds hx hb g2 hown hw h_o0 q2 dX2_reach_13 ?_
      refine lv_iload_n hx hb dX2_reach_16 rfl (lv_at hl 1 rfl) ?_
      obtain ⟨hi, hq⟩ := hq
      refine z_iald (n := 12) hx hb hw (zk_2_1 hC h_o0) hi dX2_reach_17 ?_
      refine lv_iconst (v := (4 : Int32)) hx hb dX2_reach_18 (by decide) ?_
      refine lv_icmp_eq (tgt := 32) hx hb dX2_reach_19 (by decide) (fun hc => ?_) (fun hc => ?_)
      · have hq := hq.1 hc
        refine lv_iconst (v := (0 : Int32)) hx hb dX2_reach_32 (by decide) ?_
        exact z_iret hQE hx hb hr hlk hw dX2_reach_33 ⟨hq, rfl, rfl⟩
      · have hq := hq.2 hc
        refine lv_aload_n hx hb dX2_reach_22 rfl (lv_at hl 0 rfl) ?_
        refine zg2_kinds hx hb g2 hown hw h_o0 q2 dX2_reach_23 ?_
        refine lv_iload_n hx hb dX2_reach_26 rfl (lv_at hl 1 rfl) ?_
        obtain ⟨hi, hq⟩ := hq
        refine z_iald (n := 12) hx hb hw (zk_2_1 hC h_o0) hi dX2_reach_27 ?_
        refine lv_iconst (v := (5 : Int32)) hx hb dX2_reach_28 (by decide) ?_
        refine lv_icmp_ne (tgt := 34) hx hb dX2_reach_29 (by decide) (fun hc => ?_) (fun hc => ?_)
        · have hq := hq.1 hc
          refine lv_aload_n hx hb dX2_reach_34 rfl (lv_at hl 0 rfl) ?_
          refine zg2_kinds hx hb g2 hown hw h_o0 q2 dX2_reach_35 ?_
          refine lv_iload_n hx hb dX2_reach_38 rfl (lv_at hl 1 rfl) ?_
          obtain ⟨hi, hq⟩ := hq
          refine z_iald (n := 12) hx hb hw (zk_2_1 hC h_o0) hi dX2_reach_39 ?_
          refine lv_iconst (v := (2 : Int32)) hx hb dX2_reach_40 (by decide) ?_
          refine lv_icmp_ne (tgt := 59) hx hb dX2_reach_41 (by decide) (fun hc => ?_) (fun hc => ?_)
          · have hq := hq.1 hc
            refine lv_aload_n hx hb dX2_reach_59 rfl (lv_at hl 0 rfl) ?_
            refine zg2_bounds hx hb g2 hown hw h_o0 q3 dX2_reach_60 ?_
            refine lv_iload_n hx hb dX2_reach_63 rfl (lv_at hl 1 rfl) ?_
            obtain ⟨hi, hq⟩ := hq
            refine z_iald (n := 12) hx hb hw (zk_2_3 hC h_o0) hi dX2_reach_64 ?_
            exact z_iret hQE hx hb hr hlk hw dX2_reach_65 ⟨hq, rfl, rfl⟩
          · have hq := hq.2 hc
            refine lv_iconst (v := (0 : Int32)) hx hb dX2_reach_44 (by decide) ?_
            refine lv_aload_n hx hb dX2_reach_45 rfl (lv_at hl 0 rfl) ?_
            refine zg2_bounds hx hb g2 hown hw h_o0 q3 dX2_reach_46 ?_
            refine lv_iload_n hx hb dX2_reach_49 rfl (lv_at hl 1 rfl) ?_
            obtain ⟨hi, hq⟩ := hq
            refine z_iald (n := 12) hx hb hw (zk_2_3 hC h_o0) hi dX2_reach_50 ?_
            refine lv_iconst (v := (1 : Int32)) hx hb dX2_reach_51 (by decide) ?_
            refine lv_isub hx hb dX2_reach_52 ?_
            refine va_mmax hx hb (hml.trans hl.1.symm) hown q4 q5 q6 q7 (Nat.le_of_ble_eq_true rfl) (Nat.le_of_ble_eq_true rfl) (Nat.zero_le _) (Nat.zero_le _) dX2_reach_53 ?_
            refine lv_topi (fun x4 e_x4 => ?_)
            have hq := hq x4 e_x4
            refine lv_goto (tgt := 65) hx hb dX2_reach_56 (by decide) ?_
            exact z_iret hQE hx hb hr hlk hw dX2_reach_65 ⟨hq, rfl, rfl⟩
        · have hq := hq.2 hc
          refine lv_iconst (v := (0 : Int32)) hx hb dX2_reach_32 (by decide) ?_
          exact z_iret hQE hx hb hr hlk hw dX2_reach_33 ⟨hq, rfl, rfl⟩
theorem dX2_wish_0 : decode cX2_wish 0 = .ok (.aload_n 0, 1) := by decide +kernel
theorem dX2_wish_1 : decode cX2_wish 1 = .ok (.getfield 9, 3) := by decide +kernel
theorem dX2_wish_4 : decode cX2_wish 4 = .ok (.iconst 2, 1) := by decide +kernel
theorem dX2_wish_5 : decode cX2_wish 5 = .ok (.if_icmp .ge 10, 3) := by decide +kernel
theorem dX2_wish_8 : decode cX2_wish 8 = .ok (.aload_n 0, 1) := by decide +kernel
theorem dX2_wish_9 : decode cX2_wish 9 = .ok (.getfield 22, 3) := by decide +kernel
theorem dX2_wish_12 : decode cX2_wish 12 = .ok (.iload_n 1, 1) := by decide +kernel
theorem dX2_wish_13 : decode cX2_wish 13 = .ok (.iaload, 1) := by decide +kernel
theorem dX2_wish_14 : decode cX2_wish 14 = .ok (.ireturn, 1) := by decide +kernel
theorem dX2_wish_15 : decode cX2_wish 15 = .ok (.aload_n 0, 1) := by decide +kernel
theorem dX2_wish_16 : decode cX2_wish 16 = .ok (.getfield 22, 3) := by decide +kernel
theorem dX2_wish_19 : decode cX2_wish 19 = .ok (.aload_n 0, 1) := by decide +kernel
theorem dX2_wish_20 : decode cX2_wish 20 = .ok (.getfield 9, 3) := by decide +kernel
theorem dX2_wish_23 : decode cX2_wish 23 = .ok (.iconst 1, 1) := by decide +kernel
theorem dX2_wish_24 : decode cX2_wish 24 = .ok (.isub, 1) := by decide +kernel
theorem dX2_wish_25 : decode cX2_wish 25 = .ok (.iaload, 1) := by decide +kernel
theorem dX2_wish_26 : decode cX2_wish 26 = .ok (.aload_n 0, 1) := by decide +kernel
theorem dX2_wish_27 : decode cX2_wish 27 = .ok (.getfield 22, 3) := by decide +kernel
theorem dX2_wish_30 : decode cX2_wish 30 = .ok (.iconst 0, 1) := by decide +kernel
theorem dX2_wish_31 : decode cX2_wish 31 = .ok (.iaload, 1) := by decide +kernel
theorem dX2_wish_32 : decode cX2_wish 32 = .ok (.isub, 1) := by decide +kernel
theorem dX2_wish_33 : decode cX2_wish 33 = .ok (.iload_n 1, 1) := by decide +kernel
theorem dX2_wish_34 : decode cX2_wish 34 = .ok (.imul, 1) := by decide +kernel
theorem dX2_wish_35 : decode cX2_wish 35 = .ok (.aload_n 0, 1) := by decide +kernel
theorem dX2_wish_36 : decode cX2_wish 36 = .ok (.getfield 9, 3) := by decide +kernel
theorem dX2_wish_39 : decode cX2_wish 39 = .ok (.iconst 1, 1) := by decide +kernel
theorem dX2_wish_40 : decode cX2_wish 40 = .ok (.isub, 1) := by decide +kernel
theorem dX2_wish_41 : decode cX2_wish 41 = .ok (.idiv, 1) := by decide +kernel
theorem dX2_wish_42 : decode cX2_wish 42 = .ok (.aload_n 0, 1) := by decide +kernel
theorem dX2_wish_43 : decode cX2_wish 43 = .ok (.getfield 22, 3) := by decide +kernel
theorem dX2_wish_46 : decode cX2_wish 46 = .ok (.iconst 0, 1) := by decide +kernel
theorem dX2_wish_47 : decode cX2_wish 47 = .ok (.iaload, 1) := by decide +kernel
theorem dX2_wish_48 : decode cX2_wish 48 = .ok (.iadd, 1) := by decide +kernel
theorem dX2_wish_49 : decode cX2_wish 49 = .ok (.ireturn, 1) := by decide +kernel
def rmX2_wish : Room := { frames := 0, cells := 0, slots := 0, locals := 0 }
def wX2_wish (M : zM) (o0 : Nat) (x1 : Int32) (Q : Int32 → Prop) : Prop :=
(((2 : Int32) ≤ (M o0 0)) → (
vp_in ((M o0 0) - (1 : Int32)) 12 ∧
∀ x4 : Int32, x4 = (M (o0 + 2) ((M o0 0) - (1 : Int32)).toNatClampNeg) →
∀ x5 : Int32, x5 = ((x4 - (M (o0 + 2) (0 : Int32).toNatClampNeg)) * x1) →
¬ ((M o0 0) - (1 : Int32)) = 0 ∧
∀ x6 : Int32, x6 = ((x5 / ((M o0 0) - (1 : Int32))) + (M (o0 + 2) (0 : Int32).toNatClampNeg)) →
Q x6)) ∧
((¬ (2 : Int32) ≤ (M o0 0)) → (
vp_in x1 12 ∧
Q (M (o0 + 2) x1.toNatClampNeg)))
set_option maxHeartbeats 4000000 in
set_option maxRecDepth 100000 in
theorem kX2_wish {l : Launch} {D : va_G} {Y : zY} {ad kd : Nat → Nat} {RL : List Nat} {M : zM} {J : zL} {o0 : Nat} {x1 : Int32} (h_o0 : kd o0 = 2) {Q : Int32 → Prop} (hq : wX2_wish M o0 x1 Q) : zCi l yX2_wish wsX2_wish rmX2_wish [.ref (ad o0), .int x1] D Y ad kd RL M J (fun r M' J' => Q r ∧ M = M' ∧ J = J') := by
  refine z_meti (cc := cX2_wish) (maxL := 2) (ret := (some .int)) (by decide) rfl (Nat.le_of_ble_eq_true rfl) ?_
  intro p e s m below meth c ls A ar QE hQE hx hb hr hml hown hts hlk hw hl
  have hown : s.vm.findClass RX2 = some m.cls := hown
  have hl : lv_has ls 2 [(0, .ref (ad o0)), (1, .int x1)] := hl
  have hC := hw.2.2.2.2.2.1
  have g2 : ∀ w ∈ wsX20, w.before ar s = true := (fun w h => hts w (List.mem_cons_of_mem _ (List.mem_append_right _ h)))
  have q1 := hts _ (List.mem_of_getElem? (i := 1) rfl)
  have q2 := hts _ (List.mem_of_getElem? (i := 2) rfl)
  unfold wX2_wish at hq
  refine lv_aload_n hx hb dX2_wish_0 rfl (lv_at hl 0 rfl) ?_
  refine zg2_pegs hx hb g2 hown hw h_o0 q1 dX2_wish_1 ?_
  refine lv_iconst (v := (2 : Int32)) hx hb dX2_wish_4 (by decide) ?_
  refine lv_icmp_ge (tgt := 15) hx hb dX2_wish_5 (by decide) (fun hc => ?_) (fun hc => ?_)
  · have hq := hq.1 hc
    refine lv_aload_n hx hb dX2_wish_15 rfl (lv_at hl 0 rfl) ?_
    refine zg2_versines hx hb g2 hown hw h_o0 q2 dX2_wish_16 ?_
    refine lv_aload_n hx hb dX2_wish_19 rfl (lv_at hl 0 rfl) ?_
    refine zg2_pegs hx hb g2 hown hw h_o0 q1 dX2_wish_20 ?_
    refine lv_iconst (v := (1 : Int32)) hx hb dX2_wish_23 (by decide) ?_
    refine lv_isub hx hb dX2_wish_24 ?_
    obtain ⟨hi, hq⟩ := hq
    refine z_iald (n := 12) hx hb hw (zk_2_2 hC h_o0) hi dX2_wish_25 ?_
    refine lv_topi (fun x4 e_x4 => ?_)
    have hq := hq x4 e_x4
    refine lv_aload_n hx hb dX2_wish_26 rfl (lv_at hl 0 rfl) ?_
    refine zg2_versines hx hb g2 hown hw h_o0 q2 dX2_wish_27 ?_
    refine lv_iconst (v := (0 : Int32)) hx hb dX2_wish_30 (by decide) ?_
    have hi : vp_in (0 : Int32) 12 := by unfold vp_in; decide
    refine z_iald (n := 12) hx hb hw (zk_2_2 hC h_o0) hi dX2_wish_31 ?_
    refine lv_isub hx hb dX2_wish_32 ?_
    refine lv_iload_n hx hb dX2_wish_33 rfl (lv_at hl 1 rfl) ?_
    refine lv_imul hx hb dX2_wish_34 ?_
    refine lv_topi (fun x5 e_x5 => ?_)
    have hq := hq x5 e_x5
    refine lv_aload_n hx hb dX2_wish_35 rfl (lv_at hl 0 rfl) ?_
    refine zg2_pegs hx hb g2 hown hw h_o0 q1 dX2_wish_36 ?_
    refine lv_iconst (v := (1 : Int32)) hx hb dX2_wish_39 (by decide) ?_
    refine lv_isub hx hb dX2_wish_40 ?_
    obtain ⟨hz, hq⟩ := hq
    refine lv_idiv hx hb dX2_wish_41 hz ?_
    refine lv_aload_n hx hb dX2_wish_42 rfl (lv_at hl 0 rfl) ?_
    refine zg2_versines hx hb g2 hown hw h_o0 q2 dX2_wish_43 ?_
    refine lv_iconst (v := (0 : Int32)) hx hb dX2_wish_46 (by decide) ?_
    have hi : vp_in (0 : Int32) 12 := by unfold vp_in; decide
    refine z_iald (n := 12) hx hb hw (zk_2_2 hC h_o0) hi dX2_wish_47 ?_
    refine lv_iadd hx hb dX2_wish_48 ?_
    refine lv_topi (fun x6 e_x6 => ?_)
    have hq := hq x6 e_x6
    exact z_iret hQE hx hb hr hlk hw dX2_wish_49 ⟨hq, rfl, rfl⟩
  · have hq := hq.2 hc
    refine lv_aload_n hx hb dX2_wish_8 rfl (lv_at hl 0 rfl) ?_
    refine zg2_versines hx hb g2 hown hw h_o0 q2 dX2_wish_9 ?_
    refine lv_iload_n hx hb dX2_wish_12 rfl (lv_at hl 1 rfl) ?_
    obtain ⟨hi, hq⟩ := hq
    refine z_iald (n := 12) hx hb hw (zk_2_2 hC h_o0) hi dX2_wish_13 ?_
    exact z_iret hQE hx hb hr hlk hw dX2_wish_14 ⟨hq, rfl, rfl⟩
set_option maxRecDepth 20000 in
theorem ggX2_secondSum_X2_wish : GoodIn wsX2_secondSum wsX2_wish := goodIn_r _ [6, 7, 1, 8, 9, 10, 11, 12, 13] (by decide +kernel) (by decide +kernel)
set_option maxRecDepth 20000 in
theorem gX2_secondSum_X2_wish : GoodIn wsX2_secondSum (wsV RX2 84 RX2 yX2_wish wsX2_wish) := goodIn_app (goodIn_of _ (by decide +kernel)) ggX2_secondSum_X2_wish
theorem dX2_secondSum_0 : decode cX2_secondSum 0 = .ok (.iconst 0, 1) := by decide +kernel
theorem dX2_secondSum_1 : decode cX2_secondSum 1 = .ok (.istore_n 2, 1) := by decide +kernel
theorem dX2_secondSum_2 : decode cX2_secondSum 2 = .ok (.iconst 0, 1) := by decide +kernel
theorem dX2_secondSum_3 : decode cX2_secondSum 3 = .ok (.istore_n 3, 1) := by decide +kernel
theorem dX2_secondSum_4 : decode cX2_secondSum 4 = .ok (.iload_n 3, 1) := by decide +kernel
theorem dX2_secondSum_5 : decode cX2_secondSum 5 = .ok (.iload_n 1, 1) := by decide +kernel
theorem dX2_secondSum_6 : decode cX2_secondSum 6 = .ok (.if_icmp .ge 28, 3) := by decide +kernel
theorem dX2_secondSum_9 : decode cX2_secondSum 9 = .ok (.iload_n 2, 1) := by decide +kernel
theorem dX2_secondSum_10 : decode cX2_secondSum 10 = .ok (.aload_n 0, 1) := by decide +kernel
theorem dX2_secondSum_11 : decode cX2_secondSum 11 = .ok (.iload_n 3, 1) := by decide +kernel
theorem dX2_secondSum_12 : decode cX2_secondSum 12 = .ok (.invokevirtual 84, 3) := by decide +kernel
theorem dX2_secondSum_15 : decode cX2_secondSum 15 = .ok (.aload_n 0, 1) := by decide +kernel
theorem dX2_secondSum_16 : decode cX2_secondSum 16 = .ok (.getfield 22, 3) := by decide +kernel
theorem dX2_secondSum_19 : decode cX2_secondSum 19 = .ok (.iload_n 3, 1) := by decide +kernel
theorem dX2_secondSum_20 : decode cX2_secondSum 20 = .ok (.iaload, 1) := by decide +kernel
theorem dX2_secondSum_21 : decode cX2_secondSum 21 = .ok (.isub, 1) := by decide +kernel
theorem dX2_secondSum_22 : decode cX2_secondSum 22 = .ok (.iload_n 1, 1) := by decide +kernel
theorem dX2_secondSum_23 : decode cX2_secondSum 23 = .ok (.iload_n 3, 1) := by decide +kernel
theorem dX2_secondSum_24 : decode cX2_secondSum 24 = .ok (.isub, 1) := by decide +kernel
theorem dX2_secondSum_25 : decode cX2_secondSum 25 = .ok (.imul, 1) := by decide +kernel
theorem dX2_secondSum_26 : decode cX2_secondSum 26 = .ok (.iadd, 1) := by decide +kernel
theorem dX2_secondSum_27 : decode cX2_secondSum 27 = .ok (.istore_n 2, 1) := by decide +kernel
theorem dX2_secondSum_28 : decode cX2_secondSum 28 = .ok (.iinc 3 1, 3) := by decide +kernel
theorem dX2_secondSum_31 : decode cX2_secondSum 31 = .ok (.goto (-27), 3) := by decide +kernel
theorem dX2_secondSum_34 : decode cX2_secondSum 34 = .ok (.iload_n 2, 1) := by decide +kernel
theorem dX2_secondSum_35 : decode cX2_secondSum 35 = .ok (.ireturn, 1) := by decide +kernel
def rmX2_secondSum : Room := { frames := 1, cells := 0, slots := 0, locals := 21 }
def lpX2_secondSum_4 (M : zM) (o0 : Nat) (x1 : Int32) (Q : Int32 → Prop) : Nat → Int32 → Int32 → Prop
  | 0, _, _ => False
  | fu4 + 1, x4, x5 =>
((x1 ≤ x5) → (
Q x4)) ∧
((¬ x1 ≤ x5) → (
wX2_wish M o0 x5 (fun r6 =>
vp_in x5 12 ∧
∀ x7 : Int32, x7 = ((r6 - (M (o0 + 2) x5.toNatClampNeg)) * (x1 - x5)) →
∀ x8 : Int32, x8 = x5 + (1 : Int32) →
lpX2_secondSum_4 M o0 x1 Q fu4 (x4 + x7) x8)))
def wX2_secondSum (M : zM) (o0 : Nat) (x1 : Int32) (Q : Int32 → Prop) : Prop :=
∃ fu4 : Nat, lpX2_secondSum_4 M o0 x1 Q fu4 (0 : Int32) (0 : Int32)
set_option maxHeartbeats 4000000 in
set_option maxRecDepth 100000 in
theorem kX2_secondSum {l : Launch} {D : va_G} {Y : zY} {ad kd : Nat → Nat} {RL : List Nat} {M : zM} {J : zL} {o0 : Nat} {x1 : Int32} (h_o0 : kd o0 = 2) {Q : Int32 → Prop} (hq : wX2_secondSum M o0 x1 Q) : zCi l yX2_secondSum wsX2_secondSum rmX2_secondSum [.ref (ad o0), .int x1] D Y ad kd RL M J (fun r M' J' => Q r ∧ M = M' ∧ J = J') := by
  refine z_meti (cc := cX2_secondSum) (maxL := 4) (ret := (some .int)) (by decide) rfl (Nat.le_of_ble_eq_true rfl) ?_
  intro p e s m below meth c ls A ar QE hQE hx hb hr hml hown hts hlk hw hl
  have hown : s.vm.findClass RX2 = some m.cls := hown
  have hl : lv_has ls 4 [(0, .ref (ad o0)), (1, .int x1)] := hl
  have hC := hw.2.2.2.2.2.1
  have g2 : ∀ w ∈ wsX20, w.before ar s = true := (fun w h => hts w (List.mem_cons_of_mem _ (List.mem_append_right _ h)))
  have q1 := hts _ (List.mem_of_getElem? (i := 1) rfl)
  unfold wX2_secondSum at hq
  refine lv_iconst (v := (0 : Int32)) hx hb dX2_secondSum_0 (by decide) ?_
  refine lv_istore_n (lv' := [(2, .int (0 : Int32)), (0, .ref (ad o0)), (1, .int x1)]) hx hb dX2_secondSum_1 rfl hl (by decide) rfl (fun ls hl => ?_)
  refine lv_iconst (v := (0 : Int32)) hx hb dX2_secondSum_2 (by decide) ?_
  refine lv_istore_n (lv' := [(3, .int (0 : Int32)), (2, .int (0 : Int32)), (0, .ref (ad o0)), (1, .int x1)]) hx hb dX2_secondSum_3 rfl hl (by decide) rfl (fun ls hl => ?_)
  obtain ⟨fu4, hq⟩ := hq
  have lp4 : ∀ (fu4 : Nat) (x4 : Int32) (x5 : Int32) (H : Heap) (locs : List Loc) (ls : Array Slot), lpX2_secondSum_4 M o0 x1 Q fu4 x4 x5 → zH D Y ad kd RL M J A s.heap H locs s → lv_has ls 4 [(0, .ref (ad o0)), (1, .int x1), (2, .int x4), (3, .int x5)] → W p l e rmX2_secondSum s m ar below meth c H locs 0 0 QE (F0 m 4 ls []) := by
    intro fu4
    induction fu4 with
    | zero => intro x4 x5 H locs ls hq; exact hq.elim
    | succ fu4 ih4 =>
      intro x4 x5 H locs ls hq hw hl
      unfold lpX2_secondSum_4 at hq
      refine lv_iload_n hx hb dX2_secondSum_4 rfl (lv_at hl 3 rfl) ?_
      refine lv_iload_n hx hb dX2_secondSum_5 rfl (lv_at hl 1 rfl) ?_
      refine lv_icmp_ge (tgt := 34) hx hb dX2_secondSum_6 (by decide) (fun hc => ?_) (fun hc => ?_)
      · have hq := hq.1 hc
        refine lv_iload_n hx hb dX2_secondSum_34 rfl (lv_at hl 2 rfl) ?_
        exact z_iret hQE hx hb hr hlk hw dX2_secondSum_35 ⟨hq, rfl, rfl⟩
      · have hq := hq.2 hc
        refine lv_iload_n hx hb dX2_secondSum_9 rfl (lv_at hl 2 rfl) ?_
        refine lv_aload_n hx hb dX2_secondSum_10 rfl (lv_at hl 0 rfl) ?_
        refine lv_iload_n hx hb dX2_secondSum_11 rfl (lv_at hl 3 rfl) ?_
        refine z_cvi ⟨hx, hb, hml, hown, hts⟩ hw h_o0 (kX2_wish h_o0 hq) (by decide) rfl (cwV 1 hts gX2_secondSum_X2_wish rfl rfl rfl (by decide +kernel) ⟨Nat.le_of_ble_eq_true rfl, Nat.le_of_ble_eq_true rfl⟩) rfl hl.1 rfl (Nat.le_of_ble_eq_true rfl) dX2_secondSum_12 ⟨Nat.zero_le _, Nat.zero_le _⟩ (fun r6 M0 J0 H locs hq hw => ?_)
        obtain ⟨hq, rfl, rfl⟩ := hq
        refine lv_aload_n hx hb dX2_secondSum_15 rfl (lv_at hl 0 rfl) ?_
        refine zg2_versines hx hb g2 hown hw h_o0 q1 dX2_secondSum_16 ?_
        refine lv_iload_n hx hb dX2_secondSum_19 rfl (lv_at hl 3 rfl) ?_
        obtain ⟨hi, hq⟩ := hq
        refine z_iald (n := 12) hx hb hw (zk_2_2 hC h_o0) hi dX2_secondSum_20 ?_
        refine lv_isub hx hb dX2_secondSum_21 ?_
        refine lv_iload_n hx hb dX2_secondSum_22 rfl (lv_at hl 1 rfl) ?_
        refine lv_iload_n hx hb dX2_secondSum_23 rfl (lv_at hl 3 rfl) ?_
        refine lv_isub hx hb dX2_secondSum_24 ?_
        refine lv_imul hx hb dX2_secondSum_25 ?_
        refine lv_topi (fun x7 e_x7 => ?_)
        have hq := hq x7 e_x7
        refine lv_iadd hx hb dX2_secondSum_26 ?_
        refine lv_istore_n (lv' := [(2, .int (x4 + x7)), (0, .ref (ad o0)), (1, .int x1), (3, .int x5)]) hx hb dX2_secondSum_27 rfl hl (by decide) rfl (fun ls hl => ?_)
        obtain ⟨x8, e_x8⟩ : ∃ y : Int32, y = x5 + (1 : Int32) := ⟨_, rfl⟩
        have hq := hq x8 e_x8
        refine lv_iinc (v := x8) (lv' := [(3, .int x8), (2, .int (x4 + x7)), (0, .ref (ad o0)), (1, .int x1)]) hx hb dX2_secondSum_28 hl (k := 3) rfl (by rw [e_x8]; rfl) (by decide) rfl (fun ls hl => ?_)
        refine lv_goto (tgt := 4) hx hb dX2_secondSum_31 (by decide) ?_
        exact ih4 (x4 + x7) x8 _ _ _ hq hw (lv_sub hl [2, 3, 1, 0] rfl)
  exact lp4 fu4 (0 : Int32) (0 : Int32) _ _ _ hq hw (lv_sub hl [2, 3, 1, 0] rfl)
theorem dX2_isLike_0 : decode cX2_isLike 0 = .ok (.aload_n 0, 1) := by decide +kernel
theorem dX2_isLike_1 : decode cX2_isLike 1 = .ok (.getfield 9, 3) := by decide +kernel
theorem dX2_isLike_4 : decode cX2_isLike 4 = .ok (.aload_n 1, 1) := by decide +kernel
theorem dX2_isLike_5 : decode cX2_isLike 5 = .ok (.getfield 9, 3) := by decide +kernel
theorem dX2_isLike_8 : decode cX2_isLike 8 = .ok (.if_icmp .eq 5, 3) := by decide +kernel
theorem dX2_isLike_11 : decode cX2_isLike 11 = .ok (.iconst 0, 1) := by decide +kernel
theorem dX2_isLike_12 : decode cX2_isLike 12 = .ok (.ireturn, 1) := by decide +kernel
theorem dX2_isLike_13 : decode cX2_isLike 13 = .ok (.iconst 0, 1) := by decide +kernel
theorem dX2_isLike_14 : decode cX2_isLike 14 = .ok (.istore_n 2, 1) := by decide +kernel
theorem dX2_isLike_15 : decode cX2_isLike 15 = .ok (.iload_n 2, 1) := by decide +kernel
theorem dX2_isLike_16 : decode cX2_isLike 16 = .ok (.aload_n 0, 1) := by decide +kernel
theorem dX2_isLike_17 : decode cX2_isLike 17 = .ok (.getfield 9, 3) := by decide +kernel
theorem dX2_isLike_20 : decode cX2_isLike 20 = .ok (.if_icmp .ge 56, 3) := by decide +kernel
theorem dX2_isLike_23 : decode cX2_isLike 23 = .ok (.aload_n 0, 1) := by decide +kernel
theorem dX2_isLike_24 : decode cX2_isLike 24 = .ok (.getfield 18, 3) := by decide +kernel
theorem dX2_isLike_27 : decode cX2_isLike 27 = .ok (.iload_n 2, 1) := by decide +kernel
theorem dX2_isLike_28 : decode cX2_isLike 28 = .ok (.iaload, 1) := by decide +kernel
theorem dX2_isLike_29 : decode cX2_isLike 29 = .ok (.aload_n 1, 1) := by decide +kernel
theorem dX2_isLike_30 : decode cX2_isLike 30 = .ok (.getfield 18, 3) := by decide +kernel
theorem dX2_isLike_33 : decode cX2_isLike 33 = .ok (.iload_n 2, 1) := by decide +kernel
theorem dX2_isLike_34 : decode cX2_isLike 34 = .ok (.iaload, 1) := by decide +kernel
theorem dX2_isLike_35 : decode cX2_isLike 35 = .ok (.if_icmp .ne 33, 3) := by decide +kernel
theorem dX2_isLike_38 : decode cX2_isLike 38 = .ok (.aload_n 0, 1) := by decide +kernel
theorem dX2_isLike_39 : decode cX2_isLike 39 = .ok (.getfield 22, 3) := by decide +kernel
theorem dX2_isLike_42 : decode cX2_isLike 42 = .ok (.iload_n 2, 1) := by decide +kernel
theorem dX2_isLike_43 : decode cX2_isLike 43 = .ok (.iaload, 1) := by decide +kernel
theorem dX2_isLike_44 : decode cX2_isLike 44 = .ok (.aload_n 1, 1) := by decide +kernel
theorem dX2_isLike_45 : decode cX2_isLike 45 = .ok (.getfield 22, 3) := by decide +kernel
theorem dX2_isLike_48 : decode cX2_isLike 48 = .ok (.iload_n 2, 1) := by decide +kernel
theorem dX2_isLike_49 : decode cX2_isLike 49 = .ok (.iaload, 1) := by decide +kernel
theorem dX2_isLike_50 : decode cX2_isLike 50 = .ok (.if_icmp .ne 18, 3) := by decide +kernel
theorem dX2_isLike_53 : decode cX2_isLike 53 = .ok (.aload_n 0, 1) := by decide +kernel
theorem dX2_isLike_54 : decode cX2_isLike 54 = .ok (.getfield 25, 3) := by decide +kernel
theorem dX2_isLike_57 : decode cX2_isLike 57 = .ok (.iload_n 2, 1) := by decide +kernel
theorem dX2_isLike_58 : decode cX2_isLike 58 = .ok (.iaload, 1) := by decide +kernel
theorem dX2_isLike_59 : decode cX2_isLike 59 = .ok (.aload_n 1, 1) := by decide +kernel
theorem dX2_isLike_60 : decode cX2_isLike 60 = .ok (.getfield 25, 3) := by decide +kernel
theorem dX2_isLike_63 : decode cX2_isLike 63 = .ok (.iload_n 2, 1) := by decide +kernel
theorem dX2_isLike_64 : decode cX2_isLike 64 = .ok (.iaload, 1) := by decide +kernel
theorem dX2_isLike_65 : decode cX2_isLike 65 = .ok (.if_icmp .eq 5, 3) := by decide +kernel
theorem dX2_isLike_68 : decode cX2_isLike 68 = .ok (.iconst 0, 1) := by decide +kernel
theorem dX2_isLike_69 : decode cX2_isLike 69 = .ok (.ireturn, 1) := by decide +kernel
theorem dX2_isLike_70 : decode cX2_isLike 70 = .ok (.iinc 2 1, 3) := by decide +kernel
theorem dX2_isLike_73 : decode cX2_isLike 73 = .ok (.goto (-58), 3) := by decide +kernel
theorem dX2_isLike_76 : decode cX2_isLike 76 = .ok (.iconst 1, 1) := by decide +kernel
theorem dX2_isLike_77 : decode cX2_isLike 77 = .ok (.ireturn, 1) := by decide +kernel
def rmX2_isLike : Room := { frames := 0, cells := 0, slots := 0, locals := 0 }
def lpX2_isLike_15 (M : zM) (o0 : Nat) (o1 : Nat) (Q : Int32 → Prop) : Nat → Int32 → Prop
  | 0, _ => False
  | fu15 + 1, x4 =>
(((M o0 0) ≤ x4) → (
Q (1 : Int32))) ∧
((¬ (M o0 0) ≤ x4) → (
vp_in x4 12 ∧
vp_in x4 12 ∧
((¬ (M (o0 + 1) x4.toNatClampNeg) = (M (o1 + 1) x4.toNatClampNeg)) → (
Q (0 : Int32))) ∧
(((M (o0 + 1) x4.toNatClampNeg) = (M (o1 + 1) x4.toNatClampNeg)) → (
vp_in x4 12 ∧
vp_in x4 12 ∧
((¬ (M (o0 + 2) x4.toNatClampNeg) = (M (o1 + 2) x4.toNatClampNeg)) → (
Q (0 : Int32))) ∧
(((M (o0 + 2) x4.toNatClampNeg) = (M (o1 + 2) x4.toNatClampNeg)) → (
vp_in x4 12 ∧
vp_in x4 12 ∧
(((M (o0 + 3) x4.toNatClampNeg) = (M (o1 + 3) x4.toNatClampNeg)) → (
∀ x5 : Int32, x5 = x4 + (1 : Int32) →
lpX2_isLike_15 M o0 o1 Q fu15 x5)) ∧
((¬ (M (o0 + 3) x4.toNatClampNeg) = (M (o1 + 3) x4.toNatClampNeg)) → (
Q (0 : Int32)))))))))
def wX2_isLike (M : zM) (o0 : Nat) (o1 : Nat) (Q : Int32 → Prop) : Prop :=
(((M o0 0) = (M o1 0)) → (
∃ fu15 : Nat, lpX2_isLike_15 M o0 o1 Q fu15 (0 : Int32))) ∧
((¬ (M o0 0) = (M o1 0)) → (
Q (0 : Int32)))
set_option maxHeartbeats 4000000 in
set_option maxRecDepth 100000 in
theorem kX2_isLike {l : Launch} {D : va_G} {Y : zY} {ad kd : Nat → Nat} {RL : List Nat} {M : zM} {J : zL} {o0 : Nat} {o1 : Nat} (h_o0 : kd o0 = 2) (h_o1 : kd o1 = 2) {Q : Int32 → Prop} (hq : wX2_isLike M o0 o1 Q) : zCi l yX2_isLike wsX2_isLike rmX2_isLike [.ref (ad o0), .ref (ad o1)] D Y ad kd RL M J (fun r M' J' => Q r ∧ M = M' ∧ J = J') := by
  refine z_meti (cc := cX2_isLike) (maxL := 3) (ret := (some .boolean)) (by decide) rfl (Nat.le_of_ble_eq_true rfl) ?_
  intro p e s m below meth c ls A ar QE hQE hx hb hr hml hown hts hlk hw hl
  have hown : s.vm.findClass RX2 = some m.cls := hown
  have hl : lv_has ls 3 [(0, .ref (ad o0)), (1, .ref (ad o1))] := hl
  have hC := hw.2.2.2.2.2.1
  have g2 : ∀ w ∈ wsX20, w.before ar s = true := (fun w h => hts w (List.mem_cons_of_mem _ (List.mem_append_right _ h)))
  have q1 := hts _ (List.mem_of_getElem? (i := 1) rfl)
  have q2 := hts _ (List.mem_of_getElem? (i := 2) rfl)
  have q3 := hts _ (List.mem_of_getElem? (i := 3) rfl)
  have q4 := hts _ (List.mem_of_getElem? (i := 4) rfl)
  unfold wX2_isLike at hq
  refine lv_aload_n hx hb dX2_isLike_0 rfl (lv_at hl 0 rfl) ?_
  refine zg2_pegs hx hb g2 hown hw h_o0 q1 dX2_isLike_1 ?_
  refine lv_aload_n hx hb dX2_isLike_4 rfl (lv_at hl 1 rfl) ?_
  refine zg2_pegs hx hb g2 hown hw h_o1 q1 dX2_isLike_5 ?_
  refine lv_icmp_eq (tgt := 13) hx hb dX2_isLike_8 (by decide) (fun hc => ?_) (fun hc => ?_)
  · have hq := hq.1 hc
    refine lv_iconst (v := (0 : Int32)) hx hb dX2_isLike_13 (by decide) ?_
    refine lv_istore_n (lv' := [(2, .int (0 : Int32)), (0, .ref (ad o0)), (1, .ref (ad o1))]) hx hb dX2_isLike_14 rfl hl (by decide) rfl (fun ls hl => ?_)
    obtain ⟨fu15, hq⟩ := hq
    have lp15 : ∀ (fu15 : Nat) (x4 : Int32) (H : Heap) (locs : List Loc) (ls : Array Slot), lpX2_isLike_15 M o0 o1 Q fu15 x4 → zH D Y ad kd RL M J A s.heap H locs s → lv_has ls 3 [(0, .ref (ad o0)), (1, .ref (ad o1)), (2, .int x4)] → W p l e rmX2_isLike s m ar below meth c H locs 0 0 QE (F0 m 15 ls []) := by
      intro fu15
      induction fu15 with
      | zero => intro x4 H locs ls hq; exact hq.elim
      | succ fu15 ih15 =>
        intro x4 H locs ls hq hw hl
        unfold lpX2_isLike_15 at hq
        refine lv_iload_n hx hb dX2_isLike_15 rfl (lv_at hl 2 rfl) ?_
        refine lv_aload_n hx hb dX2_isLike_16 rfl (lv_at hl 0 rfl) ?_
        refine zg2_pegs hx hb g2 hown hw h_o0 q1 dX2_isLike_17 ?_
        refine lv_icmp_ge (tgt := 76) hx hb dX2_isLike_20 (by decide) (fun hc => ?_) (fun hc => ?_)
        · have hq := hq.1 hc
          refine lv_iconst (v := (1 : Int32)) hx hb dX2_isLike_76 (by decide) ?_
          exact z_zret hQE hx hb hr hlk hw dX2_isLike_77 (by decide) ⟨hq, rfl, rfl⟩
        · have hq := hq.2 hc
          refine lv_aload_n hx hb dX2_isLike_23 rfl (lv_at hl 0 rfl) ?_
          refine zg2_kinds hx hb g2 hown hw h_o0 q2 dX2_isLike_24 ?_
          refine lv_iload_n hx hb dX2_isLike_27 rfl (lv_at hl 2 rfl) ?_
          obtain ⟨hi, hq⟩ := hq
          refine z_iald (n := 12) hx hb hw (zk_2_1 hC h_o0) hi dX2_isLike_28 ?_
          refine lv_aload_n hx hb dX2_isLike_29 rfl (lv_at hl 1 rfl) ?_
          refine zg2_kinds hx hb g2 hown hw h_o1 q2 dX2_isLike_30 ?_
          refine lv_iload_n hx hb dX2_isLike_33 rfl (lv_at hl 2 rfl) ?_
          obtain ⟨hi, hq⟩ := hq
          refine z_iald (n := 12) hx hb hw (zk_2_1 hC h_o1) hi dX2_isLike_34 ?_
          refine lv_icmp_ne (tgt := 68) hx hb dX2_isLike_35 (by decide) (fun hc => ?_) (fun hc => ?_)
          · have hq := hq.1 hc
            refine lv_iconst (v := (0 : Int32)) hx hb dX2_isLike_68 (by decide) ?_
            exact z_zret hQE hx hb hr hlk hw dX2_isLike_69 (by decide) ⟨hq, rfl, rfl⟩
          · have hq := hq.2 hc
            refine lv_aload_n hx hb dX2_isLike_38 rfl (lv_at hl 0 rfl) ?_
            refine zg2_versines hx hb g2 hown hw h_o0 q3 dX2_isLike_39 ?_
            refine lv_iload_n hx hb dX2_isLike_42 rfl (lv_at hl 2 rfl) ?_
            obtain ⟨hi, hq⟩ := hq
            refine z_iald (n := 12) hx hb hw (zk_2_2 hC h_o0) hi dX2_isLike_43 ?_
            refine lv_aload_n hx hb dX2_isLike_44 rfl (lv_at hl 1 rfl) ?_
            refine zg2_versines hx hb g2 hown hw h_o1 q3 dX2_isLike_45 ?_
            refine lv_iload_n hx hb dX2_isLike_48 rfl (lv_at hl 2 rfl) ?_
            obtain ⟨hi, hq⟩ := hq
            refine z_iald (n := 12) hx hb hw (zk_2_2 hC h_o1) hi dX2_isLike_49 ?_
            refine lv_icmp_ne (tgt := 68) hx hb dX2_isLike_50 (by decide) (fun hc => ?_) (fun hc => ?_)
            · have hq := hq.1 hc
              refine lv_iconst (v := (0 : Int32)) hx hb dX2_isLike_68 (by decide) ?_
              exact z_zret hQE hx hb hr hlk hw dX2_isLike_69 (by decide) ⟨hq, rfl, rfl⟩
            · have hq := hq.2 hc
              refine lv_aload_n hx hb dX2_isLike_53 rfl (lv_at hl 0 rfl) ?_
              refine zg2_bounds hx hb g2 hown hw h_o0 q4 dX2_isLike_54 ?_
              refine lv_iload_n hx hb dX2_isLike_57 rfl (lv_at hl 2 rfl) ?_
              obtain ⟨hi, hq⟩ := hq
              refine z_iald (n := 12) hx hb hw (zk_2_3 hC h_o0) hi dX2_isLike_58 ?_
              refine lv_aload_n hx hb dX2_isLike_59 rfl (lv_at hl 1 rfl) ?_
              refine zg2_bounds hx hb g2 hown hw h_o1 q4 dX2_isLike_60 ?_
              refine lv_iload_n hx hb dX2_isLike_63 rfl (lv_at hl 2 rfl) ?_
              obtain ⟨hi, hq⟩ := hq
              refine z_iald (n := 12) hx hb hw (zk_2_3 hC h_o1) hi dX2_isLike_64 ?_
              refine lv_icmp_eq (tgt := 70) hx hb dX2_isLike_65 (by decide) (fun hc => ?_) (fun hc => ?_)
              · have hq := hq.1 hc
                obtain ⟨x5, e_x5⟩ : ∃ y : Int32, y = x4 + (1 : Int32) := ⟨_, rfl⟩
                have hq := hq x5 e_x5
                refine lv_iinc (v := x5) (lv' := [(2, .int x5), (0, .ref (ad o0)), (1, .ref (ad o1))]) hx hb dX2_isLike_70 hl (k := 2) rfl (by rw [e_x5]; rfl) (by decide) rfl (fun ls hl => ?_)
                refine lv_goto (tgt := 15) hx hb dX2_isLike_73 (by decide) ?_
                exact ih15 x5 _ _ _ hq hw (lv_sub hl [1, 2, 0] rfl)
              · have hq := hq.2 hc
                refine lv_iconst (v := (0 : Int32)) hx hb dX2_isLike_68 (by decide) ?_
                exact z_zret hQE hx hb hr hlk hw dX2_isLike_69 (by decide) ⟨hq, rfl, rfl⟩
    exact lp15 fu15 (0 : Int32) _ _ _ hq hw (lv_sub hl [1, 2, 0] rfl)
  · have hq := hq.2 hc
    refine lv_iconst (v := (0 : Int32)) hx hb dX2_isLike_11 (by decide) ?_
    exact z_zret hQE hx hb hr hlk hw dX2_isLike_12 (by decide) ⟨hq, rfl, rfl⟩
theorem dX2_add_0 : decode cX2_add 0 = .ok (.aload_n 0, 1) := by decide +kernel
theorem dX2_add_1 : decode cX2_add 1 = .ok (.getfield 9, 3) := by decide +kernel
theorem dX2_add_4 : decode cX2_add 4 = .ok (.bipush 12, 2) := by decide +kernel
theorem dX2_add_6 : decode cX2_add 6 = .ok (.if_icmp .lt 4, 3) := by decide +kernel
theorem dX2_add_9 : decode cX2_add 9 = .ok (.return_, 1) := by decide +kernel
theorem dX2_add_10 : decode cX2_add 10 = .ok (.aload_n 0, 1) := by decide +kernel
theorem dX2_add_11 : decode cX2_add 11 = .ok (.getfield 18, 3) := by decide +kernel
theorem dX2_add_14 : decode cX2_add 14 = .ok (.aload_n 0, 1) := by decide +kernel
theorem dX2_add_15 : decode cX2_add 15 = .ok (.getfield 9, 3) := by decide +kernel
theorem dX2_add_18 : decode cX2_add 18 = .ok (.iload_n 1, 1) := by decide +kernel
theorem dX2_add_19 : decode cX2_add 19 = .ok (.iastore, 1) := by decide +kernel
theorem dX2_add_20 : decode cX2_add 20 = .ok (.aload_n 0, 1) := by decide +kernel
theorem dX2_add_21 : decode cX2_add 21 = .ok (.getfield 22, 3) := by decide +kernel
theorem dX2_add_24 : decode cX2_add 24 = .ok (.aload_n 0, 1) := by decide +kernel
theorem dX2_add_25 : decode cX2_add 25 = .ok (.getfield 9, 3) := by decide +kernel
theorem dX2_add_28 : decode cX2_add 28 = .ok (.iload_n 2, 1) := by decide +kernel
theorem dX2_add_29 : decode cX2_add 29 = .ok (.iastore, 1) := by decide +kernel
theorem dX2_add_30 : decode cX2_add 30 = .ok (.aload_n 0, 1) := by decide +kernel
theorem dX2_add_31 : decode cX2_add 31 = .ok (.getfield 25, 3) := by decide +kernel
theorem dX2_add_34 : decode cX2_add 34 = .ok (.aload_n 0, 1) := by decide +kernel
theorem dX2_add_35 : decode cX2_add 35 = .ok (.getfield 9, 3) := by decide +kernel
theorem dX2_add_38 : decode cX2_add 38 = .ok (.iload_n 3, 1) := by decide +kernel
theorem dX2_add_39 : decode cX2_add 39 = .ok (.iastore, 1) := by decide +kernel
theorem dX2_add_40 : decode cX2_add 40 = .ok (.aload_n 0, 1) := by decide +kernel
theorem dX2_add_41 : decode cX2_add 41 = .ok (.getfield 28, 3) := by decide +kernel
theorem dX2_add_44 : decode cX2_add 44 = .ok (.aload_n 0, 1) := by decide +kernel
theorem dX2_add_45 : decode cX2_add 45 = .ok (.getfield 9, 3) := by decide +kernel
theorem dX2_add_48 : decode cX2_add 48 = .ok (.iconst 0, 1) := by decide +kernel
theorem dX2_add_49 : decode cX2_add 49 = .ok (.iastore, 1) := by decide +kernel
theorem dX2_add_50 : decode cX2_add 50 = .ok (.aload_n 0, 1) := by decide +kernel
theorem dX2_add_51 : decode cX2_add 51 = .ok (.dup, 1) := by decide +kernel
theorem dX2_add_52 : decode cX2_add 52 = .ok (.getfield 9, 3) := by decide +kernel
theorem dX2_add_55 : decode cX2_add 55 = .ok (.iconst 1, 1) := by decide +kernel
theorem dX2_add_56 : decode cX2_add 56 = .ok (.iadd, 1) := by decide +kernel
theorem dX2_add_57 : decode cX2_add 57 = .ok (.putfield 9, 3) := by decide +kernel
theorem dX2_add_60 : decode cX2_add 60 = .ok (.return_, 1) := by decide +kernel
def rmX2_add : Room := { frames := 0, cells := 0, slots := 0, locals := 0 }
def wX2_add (M : zM) (o0 : Nat) (x1 : Int32) (x2 : Int32) (x3 : Int32) (Q : zM → Prop) : Prop :=
(((M o0 0) < (12 : Int32)) → (
vp_in (M o0 0) 12 ∧
∀ M6 : zM, M6 = va_up M (o0 + 1) (upd (M (o0 + 1)) (M o0 0).toNatClampNeg x1) →
vp_in (M6 o0 0) 12 ∧
∀ M7 : zM, M7 = va_up M6 (o0 + 2) (upd (M6 (o0 + 2)) (M6 o0 0).toNatClampNeg x2) →
vp_in (M7 o0 0) 12 ∧
∀ M8 : zM, M8 = va_up M7 (o0 + 3) (upd (M7 (o0 + 3)) (M7 o0 0).toNatClampNeg x3) →
vp_in (M8 o0 0) 12 ∧
∀ M9 : zM, M9 = va_up M8 (o0 + 4) (upd (M8 (o0 + 4)) (M8 o0 0).toNatClampNeg (0 : Int32)) →
∀ M10 : zM, M10 = va_up M9 o0 (upd (M9 o0) 0 ((M9 o0 0) + (1 : Int32))) →
Q M10)) ∧
((¬ (M o0 0) < (12 : Int32)) → (
Q M))
set_option maxHeartbeats 4000000 in
set_option maxRecDepth 100000 in
theorem kX2_add {l : Launch} {D : va_G} {Y : zY} {ad kd : Nat → Nat} {RL : List Nat} {M : zM} {J : zL} {o0 : Nat} {x1 : Int32} {x2 : Int32} {x3 : Int32} (h_o0 : kd o0 = 2) {Q : zM → Prop} (hq : wX2_add M o0 x1 x2 x3 Q) : zCv l yX2_add wsX2_add rmX2_add [.ref (ad o0), .int x1, .int x2, .int x3] D Y ad kd RL M J (fun M' J' => Q M' ∧ J = J') := by
  refine z_metv (cc := cX2_add) (maxL := 4) (ret := none) (by decide) rfl (Nat.le_of_ble_eq_true rfl) ?_
  intro p e s m below meth c ls A ar QE hQE hx hb hr hml hown hts hlk hw hl
  have hown : s.vm.findClass RX2 = some m.cls := hown
  have hl : lv_has ls 4 [(0, .ref (ad o0)), (1, .int x1), (2, .int x2), (3, .int x3)] := hl
  have hC := hw.2.2.2.2.2.1
  have g2 : ∀ w ∈ wsX20, w.before ar s = true := (fun w h => hts w (List.mem_cons_of_mem _ (List.mem_append_right _ h)))
  have q1 := hts _ (List.mem_of_getElem? (i := 1) rfl)
  have q2 := hts _ (List.mem_of_getElem? (i := 2) rfl)
  have q3 := hts _ (List.mem_of_getElem? (i := 3) rfl)
  have q4 := hts _ (List.mem_of_getElem? (i := 4) rfl)
  have q5 := hts _ (List.mem_of_getElem? (i := 5) rfl)
  unfold wX2_add at hq
  refine lv_aload_n hx hb dX2_add_0 rfl (lv_at hl 0 rfl) ?_
  refine zg2_pegs hx hb g2 hown hw h_o0 q1 dX2_add_1 ?_
  refine lv_bipush (v := (12 : Int32)) hx hb dX2_add_4 (by decide) ?_
  refine lv_icmp_lt (tgt := 10) hx hb dX2_add_6 (by decide) (fun hc => ?_) (fun hc => ?_)
  · have hq := hq.1 hc
    refine lv_aload_n hx hb dX2_add_10 rfl (lv_at hl 0 rfl) ?_
    refine zg2_kinds hx hb g2 hown hw h_o0 q2 dX2_add_11 ?_
    refine lv_aload_n hx hb dX2_add_14 rfl (lv_at hl 0 rfl) ?_
    refine zg2_pegs hx hb g2 hown hw h_o0 q1 dX2_add_15 ?_
    refine lv_iload_n hx hb dX2_add_18 rfl (lv_at hl 1 rfl) ?_
    obtain ⟨hi, hq⟩ := hq
    refine z_iast (n := 12) hx hb hw (zk_2_1 hC h_o0) hi dX2_add_19 (fun H locs hw => ?_)
    obtain ⟨M6, e_M6⟩ : ∃ y : zM, y = va_up M (o0 + 1) (upd (M (o0 + 1)) (M o0 0).toNatClampNeg x1) := ⟨_, rfl⟩
    rw [← e_M6] at hw
    have hq := hq M6 e_M6
    refine lv_aload_n hx hb dX2_add_20 rfl (lv_at hl 0 rfl) ?_
    refine zg2_versines hx hb g2 hown hw h_o0 q3 dX2_add_21 ?_
    refine lv_aload_n hx hb dX2_add_24 rfl (lv_at hl 0 rfl) ?_
    refine zg2_pegs hx hb g2 hown hw h_o0 q1 dX2_add_25 ?_
    refine lv_iload_n hx hb dX2_add_28 rfl (lv_at hl 2 rfl) ?_
    obtain ⟨hi, hq⟩ := hq
    refine z_iast (n := 12) hx hb hw (zk_2_2 hC h_o0) hi dX2_add_29 (fun H locs hw => ?_)
    obtain ⟨M7, e_M7⟩ : ∃ y : zM, y = va_up M6 (o0 + 2) (upd (M6 (o0 + 2)) (M6 o0 0).toNatClampNeg x2) := ⟨_, rfl⟩
    rw [← e_M7] at hw
    have hq := hq M7 e_M7
    refine lv_aload_n hx hb dX2_add_30 rfl (lv_at hl 0 rfl) ?_
    refine zg2_bounds hx hb g2 hown hw h_o0 q4 dX2_add_31 ?_
    refine lv_aload_n hx hb dX2_add_34 rfl (lv_at hl 0 rfl) ?_
    refine zg2_pegs hx hb g2 hown hw h_o0 q1 dX2_add_35 ?_
    refine lv_iload_n hx hb dX2_add_38 rfl (lv_at hl 3 rfl) ?_
    obtain ⟨hi, hq⟩ := hq
    refine z_iast (n := 12) hx hb hw (zk_2_3 hC h_o0) hi dX2_add_39 (fun H locs hw => ?_)
    obtain ⟨M8, e_M8⟩ : ∃ y : zM, y = va_up M7 (o0 + 3) (upd (M7 (o0 + 3)) (M7 o0 0).toNatClampNeg x3) := ⟨_, rfl⟩
    rw [← e_M8] at hw
    have hq := hq M8 e_M8
    refine lv_aload_n hx hb dX2_add_40 rfl (lv_at hl 0 rfl) ?_
    refine zg2_slews hx hb g2 hown hw h_o0 q5 dX2_add_41 ?_
    refine lv_aload_n hx hb dX2_add_44 rfl (lv_at hl 0 rfl) ?_
    refine zg2_pegs hx hb g2 hown hw h_o0 q1 dX2_add_45 ?_
    refine lv_iconst (v := (0 : Int32)) hx hb dX2_add_48 (by decide) ?_
    obtain ⟨hi, hq⟩ := hq
    refine z_iast (n := 12) hx hb hw (zk_2_4 hC h_o0) hi dX2_add_49 (fun H locs hw => ?_)
    obtain ⟨M9, e_M9⟩ : ∃ y : zM, y = va_up M8 (o0 + 4) (upd (M8 (o0 + 4)) (M8 o0 0).toNatClampNeg (0 : Int32)) := ⟨_, rfl⟩
    rw [← e_M9] at hw
    have hq := hq M9 e_M9
    refine lv_aload_n hx hb dX2_add_50 rfl (lv_at hl 0 rfl) ?_
    refine lv_dup hx hb dX2_add_51 rfl ?_
    refine zg2_pegs hx hb g2 hown hw h_o0 q1 dX2_add_52 ?_
    refine lv_iconst (v := (1 : Int32)) hx hb dX2_add_55 (by decide) ?_
    refine lv_iadd hx hb dX2_add_56 ?_
    refine zp2_pegs hx hb g2 hown hw h_o0 q1 dX2_add_57 (fun H locs hw => ?_)
    obtain ⟨M10, e_M10⟩ : ∃ y : zM, y = va_up M9 o0 (upd (M9 o0) 0 ((M9 o0 0) + (1 : Int32))) := ⟨_, rfl⟩
    rw [← e_M10] at hw
    have hq := hq M10 e_M10
    exact z_vret hQE hx hb hr hlk hw dX2_add_60 ⟨hq, rfl⟩
  · have hq := hq.2 hc
    exact z_vret hQE hx hb hr hlk hw dX2_add_9 ⟨hq, rfl⟩
end
