section
-- ===== PART A: goes FIRST, ahead of the names: the tables' words, and 'selects' of the private methods out of them =====
/-- a private method of a class that the tables say can be made, by its rows of tables_1 -/
def lw_okq (q : MethodName × Nat) : Prop := (q.1.cls ≠ "java/lang/invoke/MethodHandle" ∧ q.1.cls ≠ "java/lang/invoke/VarHandle") ∧ Cond.instantiable q.1.cls q.2 ∈ tables_1 ∧ Cond.privateMethod q.1 ∈ tables_1 ∧ Cond.instanceMethod q.1 ∈ tables_1
theorem lw_p0 : lw_okq (⟨"ArenaPlan", "forgetPlan", "()V"⟩, 9) := ⟨⟨by decide +kernel, by decide +kernel⟩, List.mem_of_getElem? (i := 23) (by decide +kernel), List.mem_of_getElem? (i := 275) (by decide +kernel), List.mem_of_getElem? (i := 276) (by decide +kernel)⟩
theorem lw_p1 : lw_okq (⟨"java/lang/Throwable", "fillInStackTrace", "(I)Ljava/lang/Throwable;"⟩, 6) := ⟨⟨by decide +kernel, by decide +kernel⟩, List.mem_of_getElem? (i := 342) (by decide +kernel), List.mem_of_getElem? (i := 340) (by decide +kernel), List.mem_of_getElem? (i := 341) (by decide +kernel)⟩
theorem lw_p2 : lw_okq (⟨"ArenaPlan$Rings", "findReach", "()V"⟩, 5) := ⟨⟨by decide +kernel, by decide +kernel⟩, List.mem_of_getElem? (i := 82) (by decide +kernel), List.mem_of_getElem? (i := 407) (by decide +kernel), List.mem_of_getElem? (i := 408) (by decide +kernel)⟩
theorem lw_p3 : lw_okq (⟨"ArenaPlan$Rings", "countSteps", "(I)V"⟩, 5) := ⟨⟨by decide +kernel, by decide +kernel⟩, List.mem_of_getElem? (i := 82) (by decide +kernel), List.mem_of_getElem? (i := 421) (by decide +kernel), List.mem_of_getElem? (i := 422) (by decide +kernel)⟩
theorem lw_p4 : lw_okq (⟨"ArenaPlan$Rings", "nearest", "(I)I"⟩, 5) := ⟨⟨by decide +kernel, by decide +kernel⟩, List.mem_of_getElem? (i := 82) (by decide +kernel), List.mem_of_getElem? (i := 426) (by decide +kernel), List.mem_of_getElem? (i := 427) (by decide +kernel)⟩
theorem lw_p5 : lw_okq (⟨"ArenaPlan$Rings", "follow", "(I)V"⟩, 5) := ⟨⟨by decide +kernel, by decide +kernel⟩, List.mem_of_getElem? (i := 82) (by decide +kernel), List.mem_of_getElem? (i := 433) (by decide +kernel), List.mem_of_getElem? (i := 434) (by decide +kernel)⟩
theorem lw_p6 : lw_okq (⟨"ArenaPlan$Plan", "findNeighbours", "()V"⟩, 12) := ⟨⟨by decide +kernel, by decide +kernel⟩, List.mem_of_getElem? (i := 106) (by decide +kernel), List.mem_of_getElem? (i := 507) (by decide +kernel), List.mem_of_getElem? (i := 508) (by decide +kernel)⟩
theorem lw_p7 : lw_okq (⟨"ArenaPlan$Plan", "orderByNumbers", "()V"⟩, 12) := ⟨⟨by decide +kernel, by decide +kernel⟩, List.mem_of_getElem? (i := 106) (by decide +kernel), List.mem_of_getElem? (i := 515) (by decide +kernel), List.mem_of_getElem? (i := 516) (by decide +kernel)⟩
theorem lw_p8 : lw_okq (⟨"ArenaPlan$Plan", "beginOrder", "()V"⟩, 12) := ⟨⟨by decide +kernel, by decide +kernel⟩, List.mem_of_getElem? (i := 106) (by decide +kernel), List.mem_of_getElem? (i := 519) (by decide +kernel), List.mem_of_getElem? (i := 520) (by decide +kernel)⟩
theorem lw_p9 : lw_okq (⟨"ArenaPlan$Plan", "leastReady", "()I"⟩, 12) := ⟨⟨by decide +kernel, by decide +kernel⟩, List.mem_of_getElem? (i := 106) (by decide +kernel), List.mem_of_getElem? (i := 523) (by decide +kernel), List.mem_of_getElem? (i := 524) (by decide +kernel)⟩
theorem lw_p10 : lw_okq (⟨"ArenaPlan$Plan", "isReady", "(I)Z"⟩, 12) := ⟨⟨by decide +kernel, by decide +kernel⟩, List.mem_of_getElem? (i := 106) (by decide +kernel), List.mem_of_getElem? (i := 527) (by decide +kernel), List.mem_of_getElem? (i := 528) (by decide +kernel)⟩
theorem lw_p11 : lw_okq (⟨"ArenaPlan$Plan", "isMissing", "(I)Z"⟩, 12) := ⟨⟨by decide +kernel, by decide +kernel⟩, List.mem_of_getElem? (i := 106) (by decide +kernel), List.mem_of_getElem? (i := 531) (by decide +kernel), List.mem_of_getElem? (i := 532) (by decide +kernel)⟩
theorem lw_p12 : lw_okq (⟨"ArenaPlan$Plan", "append", "(I)V"⟩, 12) := ⟨⟨by decide +kernel, by decide +kernel⟩, List.mem_of_getElem? (i := 106) (by decide +kernel), List.mem_of_getElem? (i := 538) (by decide +kernel), List.mem_of_getElem? (i := 539) (by decide +kernel)⟩
theorem lw_p13 : lw_okq (⟨"ArenaPlan$Plan", "sizesFit", "(I)Z"⟩, 12) := ⟨⟨by decide +kernel, by decide +kernel⟩, List.mem_of_getElem? (i := 106) (by decide +kernel), List.mem_of_getElem? (i := 542) (by decide +kernel), List.mem_of_getElem? (i := 543) (by decide +kernel)⟩
theorem lw_p14 : lw_okq (⟨"ArenaPlan$Plan", "sizeOfSource", "(II)I"⟩, 12) := ⟨⟨by decide +kernel, by decide +kernel⟩, List.mem_of_getElem? (i := 106) (by decide +kernel), List.mem_of_getElem? (i := 546) (by decide +kernel), List.mem_of_getElem? (i := 547) (by decide +kernel)⟩
theorem lw_p15 : lw_okq (⟨"ArenaPlan$Plan", "sizeOf", "(I)I"⟩, 12) := ⟨⟨by decide +kernel, by decide +kernel⟩, List.mem_of_getElem? (i := 106) (by decide +kernel), List.mem_of_getElem? (i := 550) (by decide +kernel), List.mem_of_getElem? (i := 551) (by decide +kernel)⟩
def lw_privs_1 : List (MethodName × Nat) := [(⟨"ArenaPlan", "forgetPlan", "()V"⟩, 9), (⟨"java/lang/Throwable", "fillInStackTrace", "(I)Ljava/lang/Throwable;"⟩, 6), (⟨"ArenaPlan$Rings", "findReach", "()V"⟩, 5), (⟨"ArenaPlan$Rings", "countSteps", "(I)V"⟩, 5), (⟨"ArenaPlan$Rings", "nearest", "(I)I"⟩, 5), (⟨"ArenaPlan$Rings", "follow", "(I)V"⟩, 5), (⟨"ArenaPlan$Plan", "findNeighbours", "()V"⟩, 12), (⟨"ArenaPlan$Plan", "orderByNumbers", "()V"⟩, 12), (⟨"ArenaPlan$Plan", "beginOrder", "()V"⟩, 12), (⟨"ArenaPlan$Plan", "leastReady", "()I"⟩, 12), (⟨"ArenaPlan$Plan", "isReady", "(I)Z"⟩, 12), (⟨"ArenaPlan$Plan", "isMissing", "(I)Z"⟩, 12), (⟨"ArenaPlan$Plan", "append", "(I)V"⟩, 12), (⟨"ArenaPlan$Plan", "sizesFit", "(I)Z"⟩, 12), (⟨"ArenaPlan$Plan", "sizeOfSource", "(II)I"⟩, 12), (⟨"ArenaPlan$Plan", "sizeOf", "(I)I"⟩, 12)]
theorem lw_r1 : ∀ q ∈ lw_privs_1, lw_okq q := List.forall_mem_cons.mpr ⟨lw_p0, List.forall_mem_cons.mpr ⟨lw_p1, List.forall_mem_cons.mpr ⟨lw_p2, List.forall_mem_cons.mpr ⟨lw_p3, List.forall_mem_cons.mpr ⟨lw_p4, List.forall_mem_cons.mpr ⟨lw_p5, List.forall_mem_cons.mpr ⟨lw_p6, List.forall_mem_cons.mpr ⟨lw_p7, List.forall_mem_cons.mpr ⟨lw_p8, List.forall_mem_cons.mpr ⟨lw_p9, List.forall_mem_cons.mpr ⟨lw_p10, List.forall_mem_cons.mpr ⟨lw_p11, List.forall_mem_cons.mpr ⟨lw_p12, List.forall_mem_cons.mpr ⟨lw_p13, List.forall_mem_cons.mpr ⟨lw_p14, List.forall_mem_cons.mpr ⟨lw_p15, fun _ h => absurd h List.not_mem_nil⟩⟩⟩⟩⟩⟩⟩⟩⟩⟩⟩⟩⟩⟩⟩⟩
theorem lw_p16 : lw_okq (⟨"ArenaPlan$Plan", "labelOf", "(I)I"⟩, 12) := ⟨⟨by decide +kernel, by decide +kernel⟩, List.mem_of_getElem? (i := 106) (by decide +kernel), List.mem_of_getElem? (i := 554) (by decide +kernel), List.mem_of_getElem? (i := 555) (by decide +kernel)⟩
theorem lw_p17 : lw_okq (⟨"ArenaPlan$Plan", "orderByLabels", "()V"⟩, 12) := ⟨⟨by decide +kernel, by decide +kernel⟩, List.mem_of_getElem? (i := 106) (by decide +kernel), List.mem_of_getElem? (i := 570) (by decide +kernel), List.mem_of_getElem? (i := 571) (by decide +kernel)⟩
theorem lw_p18 : lw_okq (⟨"ArenaPlan$Plan", "visit", "(I)V"⟩, 12) := ⟨⟨by decide +kernel, by decide +kernel⟩, List.mem_of_getElem? (i := 106) (by decide +kernel), List.mem_of_getElem? (i := 574) (by decide +kernel), List.mem_of_getElem? (i := 575) (by decide +kernel)⟩
theorem lw_p19 : lw_okq (⟨"ArenaPlan$Plan", "firstDue", "(I)I"⟩, 12) := ⟨⟨by decide +kernel, by decide +kernel⟩, List.mem_of_getElem? (i := 106) (by decide +kernel), List.mem_of_getElem? (i := 578) (by decide +kernel), List.mem_of_getElem? (i := 579) (by decide +kernel)⟩
theorem lw_p20 : lw_okq (⟨"ArenaPlan$Plan", "sourceToVisit", "(I)I"⟩, 12) := ⟨⟨by decide +kernel, by decide +kernel⟩, List.mem_of_getElem? (i := 106) (by decide +kernel), List.mem_of_getElem? (i := 582) (by decide +kernel), List.mem_of_getElem? (i := 583) (by decide +kernel)⟩
theorem lw_p21 : lw_okq (⟨"ArenaPlan$Plan", "lastStepOf", "(I)I"⟩, 12) := ⟨⟨by decide +kernel, by decide +kernel⟩, List.mem_of_getElem? (i := 106) (by decide +kernel), List.mem_of_getElem? (i := 586) (by decide +kernel), List.mem_of_getElem? (i := 587) (by decide +kernel)⟩
theorem lw_p22 : lw_okq (⟨"ArenaPlan$Plan", "addCosts", "()V"⟩, 12) := ⟨⟨by decide +kernel, by decide +kernel⟩, List.mem_of_getElem? (i := 106) (by decide +kernel), List.mem_of_getElem? (i := 590) (by decide +kernel), List.mem_of_getElem? (i := 591) (by decide +kernel)⟩
theorem lw_p23 : lw_okq (⟨"ArenaPlan$Places", "sortBySize", "()V"⟩, 4) := ⟨⟨by decide +kernel, by decide +kernel⟩, List.mem_of_getElem? (i := 169) (by decide +kernel), List.mem_of_getElem? (i := 598) (by decide +kernel), List.mem_of_getElem? (i := 599) (by decide +kernel)⟩
theorem lw_p24 : lw_okq (⟨"ArenaPlan$Places", "lowestStart", "(I)I"⟩, 4) := ⟨⟨by decide +kernel, by decide +kernel⟩, List.mem_of_getElem? (i := 169) (by decide +kernel), List.mem_of_getElem? (i := 602) (by decide +kernel), List.mem_of_getElem? (i := 603) (by decide +kernel)⟩
theorem lw_p25 : lw_okq (⟨"ArenaPlan$Places", "isInTheWay", "(III)Z"⟩, 4) := ⟨⟨by decide +kernel, by decide +kernel⟩, List.mem_of_getElem? (i := 169) (by decide +kernel), List.mem_of_getElem? (i := 606) (by decide +kernel), List.mem_of_getElem? (i := 607) (by decide +kernel)⟩
theorem lw_p26 : lw_okq (⟨"ArenaPlan$Places", "end", "(I)I"⟩, 4) := ⟨⟨by decide +kernel, by decide +kernel⟩, List.mem_of_getElem? (i := 169) (by decide +kernel), List.mem_of_getElem? (i := 614) (by decide +kernel), List.mem_of_getElem? (i := 615) (by decide +kernel)⟩
theorem lw_p27 : lw_okq (⟨"ArenaPlan", "needPlan", "()V"⟩, 9) := ⟨⟨by decide +kernel, by decide +kernel⟩, List.mem_of_getElem? (i := 23) (by decide +kernel), List.mem_of_getElem? (i := 645) (by decide +kernel), List.mem_of_getElem? (i := 646) (by decide +kernel)⟩
theorem lw_p28 : lw_okq (⟨"ArenaPlan$LeastPeak", "goOn", "(I)V"⟩, 2) := ⟨⟨by decide +kernel, by decide +kernel⟩, List.mem_of_getElem? (i := 212) (by decide +kernel), List.mem_of_getElem? (i := 699) (by decide +kernel), List.mem_of_getElem? (i := 700) (by decide +kernel)⟩
theorem lw_p29 : lw_okq (⟨"ArenaPlan$LeastPeak", "heldAfter", "(I)I"⟩, 2) := ⟨⟨by decide +kernel, by decide +kernel⟩, List.mem_of_getElem? (i := 212) (by decide +kernel), List.mem_of_getElem? (i := 703) (by decide +kernel), List.mem_of_getElem? (i := 704) (by decide +kernel)⟩
theorem lw_p30 : lw_okq (⟨"ArenaPlan$Cells", "workOut", "(II)I"⟩, 4) := ⟨⟨by decide +kernel, by decide +kernel⟩, List.mem_of_getElem? (i := 192) (by decide +kernel), List.mem_of_getElem? (i := 724) (by decide +kernel), List.mem_of_getElem? (i := 725) (by decide +kernel)⟩
theorem lw_p31 : lw_okq (⟨"ArenaPlan$Cells", "valueOf", "(II)I"⟩, 4) := ⟨⟨by decide +kernel, by decide +kernel⟩, List.mem_of_getElem? (i := 192) (by decide +kernel), List.mem_of_getElem? (i := 728) (by decide +kernel), List.mem_of_getElem? (i := 729) (by decide +kernel)⟩
def lw_privs_2 : List (MethodName × Nat) := [(⟨"ArenaPlan$Plan", "labelOf", "(I)I"⟩, 12), (⟨"ArenaPlan$Plan", "orderByLabels", "()V"⟩, 12), (⟨"ArenaPlan$Plan", "visit", "(I)V"⟩, 12), (⟨"ArenaPlan$Plan", "firstDue", "(I)I"⟩, 12), (⟨"ArenaPlan$Plan", "sourceToVisit", "(I)I"⟩, 12), (⟨"ArenaPlan$Plan", "lastStepOf", "(I)I"⟩, 12), (⟨"ArenaPlan$Plan", "addCosts", "()V"⟩, 12), (⟨"ArenaPlan$Places", "sortBySize", "()V"⟩, 4), (⟨"ArenaPlan$Places", "lowestStart", "(I)I"⟩, 4), (⟨"ArenaPlan$Places", "isInTheWay", "(III)Z"⟩, 4), (⟨"ArenaPlan$Places", "end", "(I)I"⟩, 4), (⟨"ArenaPlan", "needPlan", "()V"⟩, 9), (⟨"ArenaPlan$LeastPeak", "goOn", "(I)V"⟩, 2), (⟨"ArenaPlan$LeastPeak", "heldAfter", "(I)I"⟩, 2), (⟨"ArenaPlan$Cells", "workOut", "(II)I"⟩, 4), (⟨"ArenaPlan$Cells", "valueOf", "(II)I"⟩, 4)]
theorem lw_r2 : ∀ q ∈ lw_privs_2, lw_okq q := List.forall_mem_cons.mpr ⟨lw_p16, List.forall_mem_cons.mpr ⟨lw_p17, List.forall_mem_cons.mpr ⟨lw_p18, List.forall_mem_cons.mpr ⟨lw_p19, List.forall_mem_cons.mpr ⟨lw_p20, List.forall_mem_cons.mpr ⟨lw_p21, List.forall_mem_cons.mpr ⟨lw_p22, List.forall_mem_cons.mpr ⟨lw_p23, List.forall_mem_cons.mpr ⟨lw_p24, List.forall_mem_cons.mpr ⟨lw_p25, List.forall_mem_cons.mpr ⟨lw_p26, List.forall_mem_cons.mpr ⟨lw_p27, List.forall_mem_cons.mpr ⟨lw_p28, List.forall_mem_cons.mpr ⟨lw_p29, List.forall_mem_cons.mpr ⟨lw_p30, List.forall_mem_cons.mpr ⟨lw_p31, fun _ h => absurd h List.not_mem_nil⟩⟩⟩⟩⟩⟩⟩⟩⟩⟩⟩⟩⟩⟩⟩⟩
theorem lw_p32 : lw_okq (⟨"ArenaPlan$Cells", "totalOf", "(I)I"⟩, 4) := ⟨⟨by decide +kernel, by decide +kernel⟩, List.mem_of_getElem? (i := 192) (by decide +kernel), List.mem_of_getElem? (i := 732) (by decide +kernel), List.mem_of_getElem? (i := 733) (by decide +kernel)⟩
theorem lw_p33 : lw_okq (⟨"ArenaPlan", "needRun", "()V"⟩, 9) := ⟨⟨by decide +kernel, by decide +kernel⟩, List.mem_of_getElem? (i := 23) (by decide +kernel), List.mem_of_getElem? (i := 743) (by decide +kernel), List.mem_of_getElem? (i := 744) (by decide +kernel)⟩
theorem lw_p34 : lw_okq (⟨"ArenaPlanModel", "fail", "(I)I"⟩, 30) := ⟨⟨by decide +kernel, by decide +kernel⟩, List.mem_of_getElem? (i := 756) (by decide +kernel), List.mem_of_getElem? (i := 864) (by decide +kernel), List.mem_of_getElem? (i := 865) (by decide +kernel)⟩
theorem lw_p35 : lw_okq (⟨"ArenaPlanModel", "isNode", "(I)Z"⟩, 30) := ⟨⟨by decide +kernel, by decide +kernel⟩, List.mem_of_getElem? (i := 756) (by decide +kernel), List.mem_of_getElem? (i := 872) (by decide +kernel), List.mem_of_getElem? (i := 873) (by decide +kernel)⟩
theorem lw_p36 : lw_okq (⟨"ArenaPlanModel", "findRing", "()V"⟩, 30) := ⟨⟨by decide +kernel, by decide +kernel⟩, List.mem_of_getElem? (i := 756) (by decide +kernel), List.mem_of_getElem? (i := 895) (by decide +kernel), List.mem_of_getElem? (i := 896) (by decide +kernel)⟩
theorem lw_p37 : lw_okq (⟨"ArenaPlanModel", "measure", "(I)V"⟩, 30) := ⟨⟨by decide +kernel, by decide +kernel⟩, List.mem_of_getElem? (i := 756) (by decide +kernel), List.mem_of_getElem? (i := 899) (by decide +kernel), List.mem_of_getElem? (i := 900) (by decide +kernel)⟩
theorem lw_p38 : lw_okq (⟨"ArenaPlanModel", "far", "(I)I"⟩, 30) := ⟨⟨by decide +kernel, by decide +kernel⟩, List.mem_of_getElem? (i := 756) (by decide +kernel), List.mem_of_getElem? (i := 903) (by decide +kernel), List.mem_of_getElem? (i := 904) (by decide +kernel)⟩
theorem lw_p39 : lw_okq (⟨"ArenaPlanModel", "nearest", "(I)I"⟩, 30) := ⟨⟨by decide +kernel, by decide +kernel⟩, List.mem_of_getElem? (i := 756) (by decide +kernel), List.mem_of_getElem? (i := 907) (by decide +kernel), List.mem_of_getElem? (i := 908) (by decide +kernel)⟩
theorem lw_p40 : lw_okq (⟨"ArenaPlanModel", "isWired", "()Z"⟩, 30) := ⟨⟨by decide +kernel, by decide +kernel⟩, List.mem_of_getElem? (i := 756) (by decide +kernel), List.mem_of_getElem? (i := 915) (by decide +kernel), List.mem_of_getElem? (i := 916) (by decide +kernel)⟩
theorem lw_p41 : lw_okq (⟨"ArenaPlanModel", "findSizes", "()Z"⟩, 30) := ⟨⟨by decide +kernel, by decide +kernel⟩, List.mem_of_getElem? (i := 756) (by decide +kernel), List.mem_of_getElem? (i := 919) (by decide +kernel), List.mem_of_getElem? (i := 920) (by decide +kernel)⟩
theorem lw_p42 : lw_okq (⟨"ArenaPlanModel", "isReady", "(I)Z"⟩, 30) := ⟨⟨by decide +kernel, by decide +kernel⟩, List.mem_of_getElem? (i := 756) (by decide +kernel), List.mem_of_getElem? (i := 923) (by decide +kernel), List.mem_of_getElem? (i := 924) (by decide +kernel)⟩
theorem lw_p43 : lw_okq (⟨"ArenaPlanModel", "sizeOf", "(I)I"⟩, 30) := ⟨⟨by decide +kernel, by decide +kernel⟩, List.mem_of_getElem? (i := 756) (by decide +kernel), List.mem_of_getElem? (i := 927) (by decide +kernel), List.mem_of_getElem? (i := 928) (by decide +kernel)⟩
theorem lw_p44 : lw_okq (⟨"ArenaPlanModel", "orderByNumbers", "()V"⟩, 30) := ⟨⟨by decide +kernel, by decide +kernel⟩, List.mem_of_getElem? (i := 756) (by decide +kernel), List.mem_of_getElem? (i := 931) (by decide +kernel), List.mem_of_getElem? (i := 932) (by decide +kernel)⟩
theorem lw_p45 : lw_okq (⟨"ArenaPlanModel", "isThere", "(I)Z"⟩, 30) := ⟨⟨by decide +kernel, by decide +kernel⟩, List.mem_of_getElem? (i := 756) (by decide +kernel), List.mem_of_getElem? (i := 935) (by decide +kernel), List.mem_of_getElem? (i := 936) (by decide +kernel)⟩
theorem lw_p46 : lw_okq (⟨"ArenaPlanModel", "isFree", "(I)Z"⟩, 30) := ⟨⟨by decide +kernel, by decide +kernel⟩, List.mem_of_getElem? (i := 756) (by decide +kernel), List.mem_of_getElem? (i := 939) (by decide +kernel), List.mem_of_getElem? (i := 940) (by decide +kernel)⟩
theorem lw_p47 : lw_okq (⟨"ArenaPlanModel", "come", "(I)V"⟩, 30) := ⟨⟨by decide +kernel, by decide +kernel⟩, List.mem_of_getElem? (i := 756) (by decide +kernel), List.mem_of_getElem? (i := 943) (by decide +kernel), List.mem_of_getElem? (i := 944) (by decide +kernel)⟩
def lw_privs_3 : List (MethodName × Nat) := [(⟨"ArenaPlan$Cells", "totalOf", "(I)I"⟩, 4), (⟨"ArenaPlan", "needRun", "()V"⟩, 9), (⟨"ArenaPlanModel", "fail", "(I)I"⟩, 30), (⟨"ArenaPlanModel", "isNode", "(I)Z"⟩, 30), (⟨"ArenaPlanModel", "findRing", "()V"⟩, 30), (⟨"ArenaPlanModel", "measure", "(I)V"⟩, 30), (⟨"ArenaPlanModel", "far", "(I)I"⟩, 30), (⟨"ArenaPlanModel", "nearest", "(I)I"⟩, 30), (⟨"ArenaPlanModel", "isWired", "()Z"⟩, 30), (⟨"ArenaPlanModel", "findSizes", "()Z"⟩, 30), (⟨"ArenaPlanModel", "isReady", "(I)Z"⟩, 30), (⟨"ArenaPlanModel", "sizeOf", "(I)I"⟩, 30), (⟨"ArenaPlanModel", "orderByNumbers", "()V"⟩, 30), (⟨"ArenaPlanModel", "isThere", "(I)Z"⟩, 30), (⟨"ArenaPlanModel", "isFree", "(I)Z"⟩, 30), (⟨"ArenaPlanModel", "come", "(I)V"⟩, 30)]
theorem lw_r3 : ∀ q ∈ lw_privs_3, lw_okq q := List.forall_mem_cons.mpr ⟨lw_p32, List.forall_mem_cons.mpr ⟨lw_p33, List.forall_mem_cons.mpr ⟨lw_p34, List.forall_mem_cons.mpr ⟨lw_p35, List.forall_mem_cons.mpr ⟨lw_p36, List.forall_mem_cons.mpr ⟨lw_p37, List.forall_mem_cons.mpr ⟨lw_p38, List.forall_mem_cons.mpr ⟨lw_p39, List.forall_mem_cons.mpr ⟨lw_p40, List.forall_mem_cons.mpr ⟨lw_p41, List.forall_mem_cons.mpr ⟨lw_p42, List.forall_mem_cons.mpr ⟨lw_p43, List.forall_mem_cons.mpr ⟨lw_p44, List.forall_mem_cons.mpr ⟨lw_p45, List.forall_mem_cons.mpr ⟨lw_p46, List.forall_mem_cons.mpr ⟨lw_p47, fun _ h => absurd h List.not_mem_nil⟩⟩⟩⟩⟩⟩⟩⟩⟩⟩⟩⟩⟩⟩⟩⟩
theorem lw_p48 : lw_okq (⟨"ArenaPlanModel", "labelOf", "(I)V"⟩, 30) := ⟨⟨by decide +kernel, by decide +kernel⟩, List.mem_of_getElem? (i := 756) (by decide +kernel), List.mem_of_getElem? (i := 947) (by decide +kernel), List.mem_of_getElem? (i := 948) (by decide +kernel)⟩
theorem lw_p49 : lw_okq (⟨"ArenaPlanModel", "orderByLabels", "()V"⟩, 30) := ⟨⟨by decide +kernel, by decide +kernel⟩, List.mem_of_getElem? (i := 756) (by decide +kernel), List.mem_of_getElem? (i := 951) (by decide +kernel), List.mem_of_getElem? (i := 952) (by decide +kernel)⟩
theorem lw_p50 : lw_okq (⟨"ArenaPlanModel", "isUsed", "(I)Z"⟩, 30) := ⟨⟨by decide +kernel, by decide +kernel⟩, List.mem_of_getElem? (i := 756) (by decide +kernel), List.mem_of_getElem? (i := 955) (by decide +kernel), List.mem_of_getElem? (i := 956) (by decide +kernel)⟩
theorem lw_p51 : lw_okq (⟨"ArenaPlanModel", "visit", "(I)V"⟩, 30) := ⟨⟨by decide +kernel, by decide +kernel⟩, List.mem_of_getElem? (i := 756) (by decide +kernel), List.mem_of_getElem? (i := 959) (by decide +kernel), List.mem_of_getElem? (i := 960) (by decide +kernel)⟩
theorem lw_p52 : lw_okq (⟨"ArenaPlanModel", "due", "(I)I"⟩, 30) := ⟨⟨by decide +kernel, by decide +kernel⟩, List.mem_of_getElem? (i := 756) (by decide +kernel), List.mem_of_getElem? (i := 963) (by decide +kernel), List.mem_of_getElem? (i := 964) (by decide +kernel)⟩
theorem lw_p53 : lw_okq (⟨"ArenaPlanModel", "findLives", "()V"⟩, 30) := ⟨⟨by decide +kernel, by decide +kernel⟩, List.mem_of_getElem? (i := 756) (by decide +kernel), List.mem_of_getElem? (i := 967) (by decide +kernel), List.mem_of_getElem? (i := 968) (by decide +kernel)⟩
theorem lw_p54 : lw_okq (⟨"ArenaPlanModel", "findPlaces", "()V"⟩, 30) := ⟨⟨by decide +kernel, by decide +kernel⟩, List.mem_of_getElem? (i := 756) (by decide +kernel), List.mem_of_getElem? (i := 971) (by decide +kernel), List.mem_of_getElem? (i := 972) (by decide +kernel)⟩
theorem lw_p55 : lw_okq (⟨"ArenaPlanModel", "fits", "(II)Z"⟩, 30) := ⟨⟨by decide +kernel, by decide +kernel⟩, List.mem_of_getElem? (i := 756) (by decide +kernel), List.mem_of_getElem? (i := 975) (by decide +kernel), List.mem_of_getElem? (i := 976) (by decide +kernel)⟩
theorem lw_p56 : lw_okq (⟨"ArenaPlanModel", "costOf", "(I)I"⟩, 30) := ⟨⟨by decide +kernel, by decide +kernel⟩, List.mem_of_getElem? (i := 756) (by decide +kernel), List.mem_of_getElem? (i := 991) (by decide +kernel), List.mem_of_getElem? (i := 992) (by decide +kernel)⟩
theorem lw_p57 : lw_okq (⟨"ArenaPlanModel", "findLeast", "()V"⟩, 30) := ⟨⟨by decide +kernel, by decide +kernel⟩, List.mem_of_getElem? (i := 756) (by decide +kernel), List.mem_of_getElem? (i := 1003) (by decide +kernel), List.mem_of_getElem? (i := 1004) (by decide +kernel)⟩
theorem lw_p58 : lw_okq (⟨"ArenaPlanModel", "stays", "(I)I"⟩, 30) := ⟨⟨by decide +kernel, by decide +kernel⟩, List.mem_of_getElem? (i := 756) (by decide +kernel), List.mem_of_getElem? (i := 1007) (by decide +kernel), List.mem_of_getElem? (i := 1008) (by decide +kernel)⟩
theorem lw_p59 : lw_okq (⟨"ArenaPlanModel", "users", "(I)I"⟩, 30) := ⟨⟨by decide +kernel, by decide +kernel⟩, List.mem_of_getElem? (i := 756) (by decide +kernel), List.mem_of_getElem? (i := 1011) (by decide +kernel), List.mem_of_getElem? (i := 1012) (by decide +kernel)⟩
theorem lw_p60 : lw_okq (⟨"ArenaPlanModel", "needed", "(I)I"⟩, 30) := ⟨⟨by decide +kernel, by decide +kernel⟩, List.mem_of_getElem? (i := 756) (by decide +kernel), List.mem_of_getElem? (i := 1015) (by decide +kernel), List.mem_of_getElem? (i := 1016) (by decide +kernel)⟩
theorem lw_p61 : lw_okq (⟨"ArenaPlanModel", "work", "(I)V"⟩, 30) := ⟨⟨by decide +kernel, by decide +kernel⟩, List.mem_of_getElem? (i := 756) (by decide +kernel), List.mem_of_getElem? (i := 1023) (by decide +kernel), List.mem_of_getElem? (i := 1024) (by decide +kernel)⟩
def lw_privs_4 : List (MethodName × Nat) := [(⟨"ArenaPlanModel", "labelOf", "(I)V"⟩, 30), (⟨"ArenaPlanModel", "orderByLabels", "()V"⟩, 30), (⟨"ArenaPlanModel", "isUsed", "(I)Z"⟩, 30), (⟨"ArenaPlanModel", "visit", "(I)V"⟩, 30), (⟨"ArenaPlanModel", "due", "(I)I"⟩, 30), (⟨"ArenaPlanModel", "findLives", "()V"⟩, 30), (⟨"ArenaPlanModel", "findPlaces", "()V"⟩, 30), (⟨"ArenaPlanModel", "fits", "(II)Z"⟩, 30), (⟨"ArenaPlanModel", "costOf", "(I)I"⟩, 30), (⟨"ArenaPlanModel", "findLeast", "()V"⟩, 30), (⟨"ArenaPlanModel", "stays", "(I)I"⟩, 30), (⟨"ArenaPlanModel", "users", "(I)I"⟩, 30), (⟨"ArenaPlanModel", "needed", "(I)I"⟩, 30), (⟨"ArenaPlanModel", "work", "(I)V"⟩, 30)]
theorem lw_r4 : ∀ q ∈ lw_privs_4, lw_okq q := List.forall_mem_cons.mpr ⟨lw_p48, List.forall_mem_cons.mpr ⟨lw_p49, List.forall_mem_cons.mpr ⟨lw_p50, List.forall_mem_cons.mpr ⟨lw_p51, List.forall_mem_cons.mpr ⟨lw_p52, List.forall_mem_cons.mpr ⟨lw_p53, List.forall_mem_cons.mpr ⟨lw_p54, List.forall_mem_cons.mpr ⟨lw_p55, List.forall_mem_cons.mpr ⟨lw_p56, List.forall_mem_cons.mpr ⟨lw_p57, List.forall_mem_cons.mpr ⟨lw_p58, List.forall_mem_cons.mpr ⟨lw_p59, List.forall_mem_cons.mpr ⟨lw_p60, List.forall_mem_cons.mpr ⟨lw_p61, fun _ h => absurd h List.not_mem_nil⟩⟩⟩⟩⟩⟩⟩⟩⟩⟩⟩⟩⟩⟩
def lw_privs : List (MethodName × Nat) := lw_privs_1 ++ (lw_privs_2 ++ (lw_privs_3 ++ (lw_privs_4)))
def lw_tbl : List Cond := k2_sels lw_privs ++ tables_1
theorem lw_privs_ok : ∀ q ∈ lw_privs, lw_okq q := by
  show ∀ q ∈ lw_privs_1 ++ (lw_privs_2 ++ (lw_privs_3 ++ (lw_privs_4))), lw_okq q
  exact List.forall_mem_append.mpr ⟨lw_r1, List.forall_mem_append.mpr ⟨lw_r2, List.forall_mem_append.mpr ⟨lw_r3, lw_r4⟩⟩⟩
/-! ===== BEGIN words of one list among another's, by their places ===== -/
theorem goodIn_r {big : List Cond} (ws : List Cond) (ps : List Nat) (hp : ws = ps.filterMap (fun i => big[i]?)) (h : ws.all goodWord = true) : GoodIn big ws := by
  intro w hw
  have h1 := List.all_eq_true.mp h w hw
  rw [hp] at hw
  obtain ⟨i, -, hi⟩ := List.mem_filterMap.mp hw
  have hm : w ∈ big := by first | exact List.mem_of_getElem? hi | exact List.getElem?_mem hi
  exact ⟨hm, good_of_word h1⟩
theorem goodIn_app {big a b : List Cond} (ha : GoodIn big a) (hb : GoodIn big b) : GoodIn big (a ++ b) := fun w h => (List.mem_append.mp h).elim (ha w) (hb w)
theorem goodIn_ca {big a b : List Cond} {c : Cond} (ha : GoodIn big (c :: a)) (hb : GoodIn big b) : GoodIn big (c :: (a ++ b)) := fun w h => (List.mem_cons.mp h).elim (fun e => ha w (List.mem_cons.mpr (Or.inl e))) (fun h => (List.mem_append.mp h).elim (fun h => ha w (List.mem_cons.mpr (Or.inr h))) (hb w))
theorem goodIn_sub {big ws : List Cond} (hm : ∀ w ∈ ws, w ∈ big) (h : ws.all goodWord = true) : GoodIn big ws := fun w hw => ⟨hm w hw, good_of_word (List.all_eq_true.mp h w hw)⟩
/-! ===== END ===== -/

/-! ===== BEGIN exceptions that leave a method, and their catching by the caller (launches without stack traces) ===== -/
section VXA
/-! The laws vx_back, vx_callV, vx_callS, vx_callSW, vx_throw0, vx_throwS follow proofs of the library, with one case more: JvmDerived/Free/Laws.lean (Back.of_free), Shelf42/LK1.lean (callV, callS), Shelf/KitTraced.lean (throwNew0V, throwNewS). -/
/-- where a method has thrown q: the class by its name, the cell, what was written, the world -/
def vx_T (XC : String → State → State → Prop) (st : State) (q : Addr) (t : State) (mc ms : Nat) (free : Addr → Prop) : Prop :=
  ∃ (E : String) (ce : Cell) (L : List Loc), XC E st t ∧ t.heap[q]? = some ce ∧ ce.vm = .none ∧ st.vm.findClass E = some ce.cls ∧ st.WarmedH t.vm ∧ st.sameButNew ({ t with vm := st.vm } : State) L mc ms ∧ ∀ z ∈ L, free z.base
def vx_Q (Qc : Array Value → State → Outcome → State → Prop) (XC : String → State → State → Prop) (mc ms : Nat) (free : Addr → Prop) : Array Value → State → Outcome → State → Prop := fun a st o t =>
  (Qc a st o t ∧ ∃ L, FrameEnd st o t L mc ms ∧ ∀ q ∈ L, free q.base) ∨ ∃ q, o = .threw q ∧ vx_T XC st q t mc ms free
/-- a callee that returns or throws -/
def vx_Met (l : Launch) (y : MethodName) (ws : List Cond) (rm : Room) (Pc : Array Value → State → Prop) (Qc : Array Value → State → Outcome → State → Prop) (XC : String → State → State → Prop) (mc ms : Nat) (free : Addr → Prop) : Prop :=
  MetFree l y (headSpec ws rm) Pc (fun _ _ _ _ _ => True) (vx_Q Qc XC mc ms free)
def vx_Post (XC : String → State → State → Prop) (mc ms : Nat) (free : Addr → Prop) : Pt → Array Value → Addr → Pt → Prop := fun A a q B =>
  ∃ (g : JFrame) (mk : MethodId) (t : State) (L : List Loc) (E : String) (ce : Cell), B.U.heap = t.heap ∧ B.U.vm = t.vm ∧ XC E (A.U.calling g mk a) t ∧ t.heap[q]? = some ce ∧ ce.vm = .none ∧ A.U.vm.findClass E = some ce.cls ∧ B.locs = A.locs ++ L ∧ (∀ z ∈ L, free z.base) ∧ B.cells = A.cells + mc ∧ B.slots = A.slots + ms
def vx_Back (l : Launch) (R : Room) (p : Program) (e : Env) (below : List Frame) (s : State) (sargs : Array Value) (y : MethodName) (len W9 : Nat)
    (Pre : Pt → Array Value → Prop) (Post : Pt → Array Value → Option Value → Pt → Prop) (PostX : Pt → Array Value → Addr → Pt → Prop) : Prop :=
  ∀ (m : MethodId) (meth : Method) (c : Code) (A : Pt) (g : JFrame) (ig : Instr) (mk : MethodId) (a : Array Value),
    Stand p l e R s m sargs below meth c A.U A.locs A.cells A.slots → g.method = m → g.locals.size = c.maxLocals → decode c.code g.pc = .ok (ig, len) →
    2 * g.monitorRoom + (g.stack.map fun v => v.category).sum ≤ W9 → A.U.methodNamed? y = some mk → Pre A a →
    (∃ (v : Option Value) (B : Pt), Stand p l e R s m sargs below meth c B.U B.locs B.cells B.slots ∧ Post A a v B ∧
      Steps p.tables e below (doInvoke e (A.U.setTop g) [] mk a).1 (B.U.setTop { g with pc := g.pc + len, stack := v.toList ++ g.stack })) ∨
    (∃ (q : Addr) (B : Pt), Stand p l e R s m sargs below meth c B.U B.locs B.cells B.slots ∧ PostX A a q B ∧
      Steps p.tables e below (doInvoke e (A.U.setTop g) [] mk a).1 ((B.U.setTop g).pushFrame (.throwing q)))
section Payer
variable {l : Launch} {R : Room} {p : Program} {e : Env} {below : List Frame} {s : State} {sargs : Array Value} {y : MethodName} {len W9 : Nat}
theorem vx_back {ws : List Cond} {rm : Room} {Pc : Array Value → State → Prop} {Qc : Array Value → State → Outcome → State → Prop} {XC : String → State → State → Prop} {mc ms : Nat} {free : Addr → Prop} {bytes : ByteArray} {maxL : Nat} {ret : Option FieldType}
    (hM : vx_Met l y ws rm Pc Qc XC mc ms free) (hblind : FrameBlind Pc) (hrc : rm.cells = mc) (hrs : rm.slots = ms)
    (hframes : rm.frames + 1 ≤ R.frames) (hlocals : W9 + (maxL + 11) + rm.locals ≤ R.locals)
    (hws : ∀ w ∈ ws, ∀ a' U, s.WarmedH U.vm → w.before a' U = true) (hcode : Cond.code y bytes maxL ret ∈ ws) (hinit : ∀ a' U, s.WarmedH U.vm → (Cond.initialized y.cls).before a' U = true) :
    vx_Back l R p e below s sargs y len W9 (PreOf R mc ms Pc) (PostOf Qc mc ms free) (vx_Post XC mc ms free) := by
  intro m meth c A g ig mk a X hg hsize hdg hW hn hp
  have h1 : (headSpec ws rm).pre.before a A.U = true := atoms_intro fun w hw => hws w hw _ _ X.warmed
  have h2 : (Cond.code y bytes maxL ret).before a A.U = true := hws _ hcode _ _ X.warmed
  have h3 : (Cond.initialized y.cls).before a A.U = true := hinit _ _ X.warmed
  have h4 : A.cells + (headSpec ws rm).room.cells ≤ R.cells := by rw [show (headSpec ws rm).room.cells = mc from hrc]; exact hp.1
  have h5 : A.slots + (headSpec ws rm).room.slots ≤ R.slots := by rw [show (headSpec ws rm).room.slots = ms from hrs]; exact hp.2.1
  have hPc : Pc a (A.U.calling g mk a) := hblind _ _ _ _ hp.2.2
  obtain ⟨U, Ls, c0, s0⟩ := A
  dsimp only [Pt.U, Pt.locs, Pt.cells, Pt.slots] at h1 h2 h3 h4 h5 X hn hPc ⊢
  obtain ⟨methY, cY, hmY, hcY, -, hlY, -, -, -, -⟩ := Cond.code_spec hn h2
  obtain ⟨kY, hkY, -⟩ := className_of_methodNamed hn
  have hinitY : kY.init = .initialized := Cond.initialized_spec (findClass_of_methodNamed hn) hkY h3
  have h : At U g.method c below := by rw [hg]; exact X.here
  have hlocals9 : W9 + (maxL + 11) + (headSpec ws rm).room.locals ≤ R.locals := hlocals
  have happ : (headSpec ws rm).appliesLoose y e.platform (U.calling g mk a) = true :=
    Spec.appliesLoose_calling (g := g) h hdg hn hkY hinitY
      (X.room_calling (g := g) (R' := (headSpec ws rm).room) hsize hmY hcY hframes (by rw [hlY]; omega) h4 h5) h1
  obtain ⟨mid, hmid⟩ := h.above
  have hfr : (U.setTop g).frames = (.java g :: mid) ++ below := by rw [State.frames_setTop' g h.top, hmid]; rfl
  obtain ⟨o, s₂, hsteps, -, hend, hq⟩ := Steps.callFree hM p X.admits X.cas X.clock (acts := []) hfr happ hPc trivial
  have hq' : vx_Q Qc XC mc ms free a (U.calling g mk a) o s₂ := hq
  rw [State.frames_setTop' g h.top] at hend
  obtain ⟨g₀, hg0⟩ := Option.isSome_iff_exists.mp h.top
  obtain ⟨r, hr⟩ := State.topJava?_eq_some.mp hg0
  have hr' : (({ U with heap := s₂.heap, slotsUsed := s₂.slotsUsed } : State).setVm s₂.vm).frames = .java g₀ :: r := hr
  rcases hq' with ⟨hqc, L, hfe, hL⟩ | ⟨q, rfl, E, ce, L, hx, hce, hcv, hcl, hW₂, hsm, hL⟩
  · obtain ⟨⟨v, rfl⟩, hW₂, e2, q2, q3, q4, q5, q6⟩ := id hfe
    have e3 : s₂ = ({ (U.calling g mk a).setFrames s₂.frames with heap := s₂.heap, slotsUsed := s₂.slotsUsed } : State).setVm s₂.vm := by
      have : s₂ = ({ s₂ with vm := (U.calling g mk a).vm } : State).setVm s₂.vm := rfl
      rw [e2] at this
      exact this
    obtain ⟨c₂, i₂, len₂, hc₂, hd₂, hf₂⟩ := hend
    have hW' : U.WarmedH s₂.vm := hW₂
    have hcc : c₂ = c := by
      have h1 : s₂.code? g.method = U.code? g.method := by
        rw [State.code?_eq, State.code?_eq, hW'.alike.method?]
      exact Option.some.inj (hc₂.symm.trans (h1.trans h.code))
    subst hcc
    have hlen : len₂ = len := by rw [hdg] at hd₂; cases hd₂; rfl
    subst hlen
    have hs₂ : s₂ = (({ U with heap := s₂.heap, slotsUsed := s₂.slotsUsed } : State).setVm s₂.vm).setTop { g with pc := g.pc + len₂, stack := v.toList ++ g.stack } := by
      refine e3.trans ?_
      rw [hf₂, State.calling_eq h.top, State.setFrames_setFrames, State.setTop_of_frames _ hr', hr]
      rfl
    have hsame : U.sameButNew ({ U with heap := s₂.heap, slotsUsed := s₂.slotsUsed } : State) L mc ms := by
      refine ⟨?_, q2, q3, q4, q5, q6⟩
      obtain ⟨t, ht, -⟩ := State.frames_cons hr
      show ({ U with heap := s₂.heap, slotsUsed := s₂.slotsUsed } : State) = { U.setFrames U.frames with heap := s₂.heap, slotsUsed := s₂.slotsUsed }
      rw [State.setFrames_self ht]
    subst hg
    refine Or.inl ⟨v, ⟨(({ U with heap := s₂.heap, slotsUsed := s₂.slotsUsed } : State).setVm s₂.vm), Ls ++ L, c0 + mc, s0 + ms⟩,
      ⟨X.admits, X.cas, X.clock, X.frames, X.room, X.hears, X.method, X.code, (X.here.setHeapUsed s₂.heap s₂.slotsUsed).setVm hW'.alike, X.tail, State.WarmedH.trans X.warmed hW', X.limits, X.bytes, X.same.trans (hsame.setVm s.vm)⟩,
      ⟨g, mk, s₂, L, rfl, rfl, hqc, rfl, hL, rfl, rfl⟩, ?_⟩
    show Steps p.tables e below _ ((({ U with heap := s₂.heap, slotsUsed := s₂.slotsUsed } : State).setVm s₂.vm).setTop { g with pc := g.pc + len₂, stack := v.toList ++ g.stack })
    rw [← hs₂]
    exact hsteps
  · obtain ⟨e2, q2, q3, q4, q5, q6⟩ := id hsm
    have e3 : s₂ = ({ (U.calling g mk a).setFrames s₂.frames with heap := s₂.heap, slotsUsed := s₂.slotsUsed } : State).setVm s₂.vm := by
      have : s₂ = ({ s₂ with vm := (U.calling g mk a).vm } : State).setVm s₂.vm := rfl
      rw [e2] at this
      exact this
    have hf₂ : s₂.frames = .throwing q :: .java g :: U.frames.tail := hend
    have hW' : U.WarmedH s₂.vm := hW₂
    have hs₂ : s₂ = ((({ U with heap := s₂.heap, slotsUsed := s₂.slotsUsed } : State).setVm s₂.vm).setTop g).pushFrame (.throwing q) := by
      refine e3.trans ?_
      rw [hf₂, State.calling_eq h.top, State.setFrames_setFrames, State.pushFrame, State.frames_setTop _ hr', State.setTop_of_frames _ hr', State.setFrames_setFrames, hr]
      rfl
    have hsame : U.sameButNew ({ U with heap := s₂.heap, slotsUsed := s₂.slotsUsed } : State) L mc ms := by
      refine ⟨?_, q2, q3, q4, q5, q6⟩
      obtain ⟨t, ht, -⟩ := State.frames_cons hr
      show ({ U with heap := s₂.heap, slotsUsed := s₂.slotsUsed } : State) = { U.setFrames U.frames with heap := s₂.heap, slotsUsed := s₂.slotsUsed }
      rw [State.setFrames_self ht]
    subst hg
    refine Or.inr ⟨q, ⟨(({ U with heap := s₂.heap, slotsUsed := s₂.slotsUsed } : State).setVm s₂.vm), Ls ++ L, c0 + mc, s0 + ms⟩,
      ⟨X.admits, X.cas, X.clock, X.frames, X.room, X.hears, X.method, X.code, (X.here.setHeapUsed s₂.heap s₂.slotsUsed).setVm hW'.alike, X.tail, State.WarmedH.trans X.warmed hW', X.limits, X.bytes, X.same.trans (hsame.setVm s.vm)⟩,
      ⟨g, mk, s₂, L, E, ce, rfl, rfl, hx, hce, hcv, hcl, rfl, hL, rfl, rfl⟩, ?_⟩
    show Steps p.tables e below _ (((({ U with heap := s₂.heap, slotsUsed := s₂.slotsUsed } : State).setVm s₂.vm).setTop g).pushFrame (.throwing q))
    rw [← hs₂]
    exact hsteps
end Payer
section Calls
variable {p : Program} {l : Launch} {e : Env} {R : Room} {s : State} {m : MethodId} {args : Array Value} {below : List Frame} {meth : Method} {c : Code} {T : State} {locs : List Loc} {cells slots : Nat}
theorem vx_callV (X : Stand p l e R s m args below meth c T locs cells slots) (hexec : p.tables.exec = Jvm.exec) {own C : String} {index : Nat} {y : MethodName} {bytes : ByteArray} {maxL : Nat} {ret : Option FieldType}
    (hown : s.vm.findClass own = some m.cls) (hlink : (Cond.methodLink own index y).before args s = true) (hinst : (Cond.instanceMethod y).before args s = true) (hsel : (Cond.selects C y y).before args s = true)
    (hcode : (Cond.code y bytes maxL ret).before args s = true) (hy : y.cls ≠ "java/lang/invoke/MethodHandle" ∧ y.cls ≠ "java/lang/invoke/VarHandle")
    {W9 : Nat} {Pre : Pt → Array Value → Prop} {Post : Pt → Array Value → Option Value → Pt → Prop} {PostX : Pt → Array Value → Addr → Pt → Prop} (hK : vx_Back l R p e below s args y 3 W9 Pre Post PostX)
    {b : Addr} {cellB : Cell} (hcell : T.heap[b]? = some cellB) (hobj : cellB.vm.isStatics = false) (hcls : s.vm.findClass C = some cellB.cls)
    {g : JFrame} (hg : g.method = m) (hsize : g.locals.size = c.maxLocals) {argsL rest : List Value} (hlen : ∀ sig, parseMethodDescriptor y.desc = some sig → argsL.length = sig.parameters.length)
    (hstack : g.stack = argsL.reverse ++ .ref b :: rest) (hW : 2 * g.monitorRoom + (rest.map fun v => v.category).sum ≤ W9) (hdg : decode c.code g.pc = .ok (.invokevirtual index, 3))
    (hpre : ∀ vm₁, s.WarmedH vm₁ → Pre ⟨T.setVm vm₁, locs, cells, slots⟩ (Value.ref b :: argsL).toArray) :
    (∃ (v : Option Value) (vm₁ : Vm) (B : Pt), s.WarmedH vm₁ ∧ Stand p l e R s m args below meth c B.U B.locs B.cells B.slots ∧ Post ⟨T.setVm vm₁, locs, cells, slots⟩ (Value.ref b :: argsL).toArray v B ∧
      ∀ target, Steps p.tables e below (B.U.setTop { g with pc := g.pc + 3, stack := v.toList ++ rest }) target → Steps p.tables e below (T.setTop g) target) ∨
    (∃ (q : Addr) (vm₁ : Vm) (B : Pt), s.WarmedH vm₁ ∧ Stand p l e R s m args below meth c B.U B.locs B.cells B.slots ∧ PostX ⟨T.setVm vm₁, locs, cells, slots⟩ (Value.ref b :: argsL).toArray q B ∧
      Steps p.tables e below (T.setTop g) ((B.U.setTop { g with stack := rest }).pushFrame (.throwing q))) := by
  obtain ⟨mk, methM, hnamed, hmethM, hstM, habM⟩ := Cond.instanceMethod_spec hinst
  obtain ⟨methM', cM, hmethM', -, -, -, -, -, -, hsigM⟩ := Cond.code_spec hnamed hcode
  cases hmethM.symm.trans hmethM'
  obtain ⟨c2, r2, m2, q1, q2, q3, q4, kP, hkP, hkPi⟩ := Cond.selects_spec hsel
  cases hcls.symm.trans q1
  cases (State.methodFound?_of_named hnamed hy).symm.trans q2
  cases hnamed.symm.trans q3
  have hselP : selectMethod e.platform s.vm cellB.cls mk = .method mk := by rw [Launch.admits_selectMethod X.admits]; exact q4
  obtain ⟨vm₁, X₁, hstep₁⟩ := X.invokevirtual hexec hown hlink hnamed hmethM hstM hkP hkPi hy (a := b) (cell := cellB) hcell
    (fun z h => by rw [h] at hobj; cases hobj) hselP hmethM habM hkP hkPi (g := g) hg (argsL := argsL) (rest := rest) (hlen _ hsigM) hstack hdg
  rcases hK m meth c ⟨T.setVm vm₁, locs, cells, slots⟩ { g with stack := rest } (.invokevirtual index) mk (Value.ref b :: argsL).toArray X₁ hg hsize hdg hW (X₁.named hnamed) (hpre vm₁ X₁.warmed) with ⟨v, B, X', hpost, hsteps⟩ | ⟨q, B, X', hpost, hsteps⟩
  · exact Or.inl ⟨v, vm₁, B, X₁.warmed, X', hpost, fun target h => hstep₁ _ fun acts => by rw [doInvoke_state]; exact hsteps.trans h⟩
  · exact Or.inr ⟨q, vm₁, B, X₁.warmed, X', hpost, hstep₁ _ fun acts => by rw [doInvoke_state]; exact hsteps⟩
theorem vx_callS (X : Stand p l e R s m args below meth c T locs cells slots) (hexec : p.tables.exec = Jvm.exec) {own : String} {index : Nat} {y : MethodName} {bytes : ByteArray} {maxL : Nat} {ret : Option FieldType}
    (hown : s.vm.findClass own = some m.cls) (hlink : (Cond.methodLink own index y).before args s = true) (hstat : (Cond.static y).before args s = true) (hinit : (Cond.initialized y.cls).before args s = true)
    (hcode : (Cond.code y bytes maxL ret).before args s = true) (hy : y.cls ≠ "java/lang/invoke/MethodHandle" ∧ y.cls ≠ "java/lang/invoke/VarHandle")
    {W9 : Nat} {Pre : Pt → Array Value → Prop} {Post : Pt → Array Value → Option Value → Pt → Prop} {PostX : Pt → Array Value → Addr → Pt → Prop} (hK : vx_Back l R p e below s args y 3 W9 Pre Post PostX)
    {g : JFrame} (hg : g.method = m) (hsize : g.locals.size = c.maxLocals) {argsL rest : List Value} (hlen : ∀ sig, parseMethodDescriptor y.desc = some sig → argsL.length = sig.parameters.length)
    (hstack : g.stack = argsL.reverse ++ rest) (hW : 2 * g.monitorRoom + (rest.map fun v => v.category).sum ≤ W9) (hdg : decode c.code g.pc = .ok (.invokestatic index, 3))
    (hpre : ∀ vm₁, s.WarmedH vm₁ → Pre ⟨T.setVm vm₁, locs, cells, slots⟩ argsL.toArray) :
    (∃ (v : Option Value) (vm₁ : Vm) (B : Pt), s.WarmedH vm₁ ∧ Stand p l e R s m args below meth c B.U B.locs B.cells B.slots ∧ Post ⟨T.setVm vm₁, locs, cells, slots⟩ argsL.toArray v B ∧
      ∀ target, Steps p.tables e below (B.U.setTop { g with pc := g.pc + 3, stack := v.toList ++ rest }) target → Steps p.tables e below (T.setTop g) target) ∨
    (∃ (q : Addr) (vm₁ : Vm) (B : Pt), s.WarmedH vm₁ ∧ Stand p l e R s m args below meth c B.U B.locs B.cells B.slots ∧ PostX ⟨T.setVm vm₁, locs, cells, slots⟩ argsL.toArray q B ∧
      Steps p.tables e below (T.setTop g) ((B.U.setTop { g with stack := rest }).pushFrame (.throwing q))) := by
  obtain ⟨mk, hnamed⟩ := Cond.code_named hcode
  obtain ⟨methM, cM, hmethM, -, -, -, -, -, -, hsigM⟩ := Cond.code_spec hnamed hcode
  have hstatic : methM.isStatic = true := Cond.static_spec hnamed hmethM hstat
  obtain ⟨kP, hkP, -⟩ := className_of_methodNamed hnamed
  have hinitP : kP.init = .initialized := Cond.initialized_spec (findClass_of_methodNamed hnamed) hkP hinit
  obtain ⟨vm₁, X₁, hstep₁⟩ := X.invokestatic hexec hown hlink hnamed hmethM hstatic hkP hinitP hy (g := g) hg (argsL := argsL) (rest := rest) (hlen _ hsigM) hstack hdg
  rcases hK m meth c ⟨T.setVm vm₁, locs, cells, slots⟩ { g with stack := rest } (.invokestatic index) mk argsL.toArray X₁ hg hsize hdg hW (X₁.named hnamed) (hpre vm₁ X₁.warmed) with ⟨v, B, X', hpost, hsteps⟩ | ⟨q, B, X', hpost, hsteps⟩
  · exact Or.inl ⟨v, vm₁, B, X₁.warmed, X', hpost, fun target h => hstep₁ _ fun acts => by rw [doInvoke_state]; exact hsteps.trans h⟩
  · exact Or.inr ⟨q, vm₁, B, X₁.warmed, X', hpost, hstep₁ _ fun acts => by rw [doInvoke_state]; exact hsteps⟩
end Calls
theorem vx_cls {s : State} {T : State} {vm₁ : Vm} {E : String} {k : ClassId} (hW : s.WarmedH vm₁) (h : (T.setVm vm₁).vm.findClass E = some k) : s.vm.findClass E = some k := by
  have h1 : vm₁.findClass E = some k := h
  rw [hW.alike.findClass] at h1
  exact h1
/-- the method's frame g, with q thrown over it -/
def vx_W (p : Program) (l : Launch) (e : Env) (R : Room) (s : State) (m : MethodId) (args : Array Value) (below : List Frame) (meth : Method) (c : Code) (H : Heap) (locs : List Loc) (cells slots : Nat) (Q : State → Prop) (g : JFrame) (q : Addr) : Prop :=
  ∀ T : State, T.heap = H → Stand p l e R s m args below meth c T locs cells slots → ∃ t, Steps p.tables e below ((T.setTop g).pushFrame (.throwing q)) t ∧ Q t
def vx_Run (p : Program) (l : Launch) (e : Env) (R : Room) (s : State) (m : MethodId) (args : Array Value) (below : List Frame) (meth : Method) (c : Code) (H : Heap) (locs : List Loc) (cells slots mc ms : Nat) (g : JFrame) (rest : List Value) (Qa : State → Outcome → State → Prop) (XC : String → State → State → Prop) (free : Addr → Prop) : Prop :=
  ∀ T : State, T.heap = H → Stand p l e R s m args below meth c T locs cells slots →
    (∃ (v : Option Value) (st₀ t T' : State) (L : List Loc), st₀.heap = H ∧ Stand p l e R s m args below meth c T' (locs ++ L) (cells + mc) (slots + ms) ∧ (∀ q ∈ L, free q.base) ∧ T'.heap = t.heap ∧ T'.vm = t.vm ∧ Qa st₀ (.returned v) t ∧
      Goes p e below T g T' { g with pc := g.pc + 3, stack := v.toList ++ rest }) ∨
    (∃ (q : Addr) (st₀ t T' : State) (L : List Loc) (E : String) (ce : Cell), st₀.heap = H ∧ Stand p l e R s m args below meth c T' (locs ++ L) (cells + mc) (slots + ms) ∧ (∀ z ∈ L, free z.base) ∧ T'.heap = t.heap ∧ T'.vm = t.vm ∧ XC E st₀ t ∧ t.heap[q]? = some ce ∧ ce.vm = .none ∧ s.vm.findClass E = some ce.cls ∧
      Steps p.tables e below (T.setTop g) ((T'.setTop { g with stack := rest }).pushFrame (.throwing q)))
def vx_X {S : Type} (px : S → Prop) (B : String → S → State → Prop) (A : Nat → Prop) : String → State → State → Prop := fun E st t => ∃ u : S, px u ∧ B E u t ∧ va_F A st t
section Runs
variable {p : Program} {l : Launch} {e : Env} {R : Room} {s : State} {m : MethodId} {args : Array Value} {below : List Frame} {meth : Method} {c : Code} {H : Heap} {locs : List Loc} {cells slots : Nat}
variable {y : MethodName} {bytes cc : ByteArray} {maxL nL mc ms n index : Nat} {ret : Option FieldType} {ws : List Cond} {rm : Room} {Pc : Array Value → State → Prop} {Qc : Array Value → State → Outcome → State → Prop} {XC : String → State → State → Prop} {free : Addr → Prop} {Ts : List Cond} {own C : String} {b : Addr} {As rest : List Value} {g : JFrame}
theorem vx_callBack (cb : CallB R s args own index y bytes maxL ret ws rm mc ms n) (hM : vx_Met l y ws rm Pc Qc XC mc ms free) (hbl : FrameBlind Pc) : vx_Back l R p e below s args y 3 8 (PreOf R mc ms Pc) (PostOf Qc mc ms free) (vx_Post XC mc ms free) := by
  obtain ⟨hrc, hrs, hfr, hlo, hws, hcw, -, hini, -⟩ := cb
  exact vx_back (bytes := bytes) (maxL := maxL) (ret := ret) hM hbl hrc hrs hfr hlo hws hcw (fun a' U hW => word_at hW (Or.inl (by first | rfl | simp [Cond.onTables, Cond.keeps, Cond.steady])) hini)
theorem vx_runV (S : CallFix p m c cc nL s args Ts own) (hM : vx_Met l y ws rm Pc Qc XC mc ms free) (cw : CallW R s args own C index y bytes maxL ret ws rm mc ms n) (hp : PreV s H C b Pc As)
    (hg : g.method = m) (hn : As.length = n) (hsize : g.locals.size = nL) (hstack : g.stack = As.reverse ++ .ref b :: rest) (hW : 2 * g.monitorRoom + (rest.map fun v => v.category).sum ≤ 8) (hdg : decode cc g.pc = .ok (.invokevirtual index, 3)) (hf : cells + mc ≤ R.cells ∧ slots + ms ≤ R.slots) :
    vx_Run p l e R s m args below meth c H locs cells slots mc ms g rest (Qc (Value.ref b :: As).toArray) XC free := by
  have hK : vx_Back l R p e below s args y 3 8 (PreOf R mc ms Pc) (PostOf Qc mc ms free) (vx_Post XC mc ms free) := vx_callBack cw.1 hM hp.1
  obtain ⟨⟨-, -, -, -, -, -, hcode, -, hy, hlen, hl⟩, hin, hse⟩ := cw
  obtain ⟨hx, hb, hml, ho, -⟩ := S
  obtain ⟨-, ⟨cellB, hcB, hoB, hclB⟩, hPc⟩ := hp
  intro T hT X
  rcases vx_callV X hx (C := C) (bytes := bytes) (maxL := maxL) (ret := ret) ho hl hin hse hcode hy hK (by rw [hT]; exact hcB) hoB hclB hg (hsize.trans hml.symm) (argsL := As) (rest := rest) (fun sig h => hn.trans (hlen sig h)) hstack hW (by rw [hb]; exact hdg)
    (fun vm₁ hW₁ => ⟨hf.1, hf.2, hPc (T.setVm vm₁) hT hW₁⟩) with ⟨v, vm₁, ⟨U', l2, c2, s2⟩, hW₁, X', ⟨g', mk, t, L, e1, e2, hq, h1, hL, h2, h3⟩, st⟩ | ⟨q, vm₁, ⟨U', l2, c2, s2⟩, hW₁, X', ⟨g', mk, t, L, E, ce, e1, e2, hq, hce, hcv, hcl, h1, hL, h2, h3⟩, st⟩
  · dsimp only [Pt.U, Pt.locs, Pt.cells, Pt.slots] at X' e1 e2 h1 h2 h3 st
    subst h1; subst h2; subst h3
    exact Or.inl ⟨v, (T.setVm vm₁).calling g' mk (Value.ref b :: As).toArray, t, U', L, hT, X', hL, e1, e2, hq, st⟩
  · dsimp only [Pt.U, Pt.locs, Pt.cells, Pt.slots] at X' e1 e2 h1 h2 h3 st hcl
    subst h1; subst h2; subst h3
    exact Or.inr ⟨q, (T.setVm vm₁).calling g' mk (Value.ref b :: As).toArray, t, U', L, E, ce, hT, X', hL, e1, e2, hq, hce, hcv, vx_cls hW₁ hcl, st⟩
theorem vx_runS (S : CallFix p m c cc nL s args Ts own) (hM : vx_Met l y ws rm Pc Qc XC mc ms free) (cw : CallB R s args own index y bytes maxL ret ws rm mc ms n ∧ (Cond.static y).before args s = true) (hp : PreS s H Pc As)
    (hg : g.method = m) (hn : As.length = n) (hsize : g.locals.size = nL) (hstack : g.stack = As.reverse ++ rest) (hW : 2 * g.monitorRoom + (rest.map fun v => v.category).sum ≤ 8) (hdg : decode cc g.pc = .ok (.invokestatic index, 3)) (hf : cells + mc ≤ R.cells ∧ slots + ms ≤ R.slots) :
    vx_Run p l e R s m args below meth c H locs cells slots mc ms g rest (Qc As.toArray) XC free := by
  have hK : vx_Back l R p e below s args y 3 8 (PreOf R mc ms Pc) (PostOf Qc mc ms free) (vx_Post XC mc ms free) := vx_callBack cw.1 hM hp.1
  obtain ⟨⟨-, -, -, -, -, -, hcode, hini, hy, hlen, hl⟩, hstt⟩ := cw
  obtain ⟨hx, hb, hml, ho, -⟩ := S
  intro T hT X
  rcases vx_callS X hx (bytes := bytes) (maxL := maxL) (ret := ret) ho hl hstt hini hcode hy hK hg (hsize.trans hml.symm) (argsL := As) (rest := rest) (fun sig h => hn.trans (hlen sig h)) hstack hW (by rw [hb]; exact hdg)
    (fun vm₁ hW₁ => ⟨hf.1, hf.2, hp.2 (T.setVm vm₁) hT hW₁⟩) with ⟨v, vm₁, ⟨U', l2, c2, s2⟩, hW₁, X', ⟨g', mk, t, L, e1, e2, hq, h1, hL, h2, h3⟩, st⟩ | ⟨q, vm₁, ⟨U', l2, c2, s2⟩, hW₁, X', ⟨g', mk, t, L, E, ce, e1, e2, hq, hce, hcv, hcl, h1, hL, h2, h3⟩, st⟩
  · dsimp only [Pt.U, Pt.locs, Pt.cells, Pt.slots] at X' e1 e2 h1 h2 h3 st
    subst h1; subst h2; subst h3
    exact Or.inl ⟨v, (T.setVm vm₁).calling g' mk As.toArray, t, U', L, hT, X', hL, e1, e2, hq, st⟩
  · dsimp only [Pt.U, Pt.locs, Pt.cells, Pt.slots] at X' e1 e2 h1 h2 h3 st hcl
    subst h1; subst h2; subst h3
    exact Or.inr ⟨q, (T.setVm vm₁).calling g' mk As.toArray, t, U', L, E, ce, hT, X', hL, e1, e2, hq, hce, hcv, vx_cls hW₁ hcl, st⟩
end Runs
section Rows
variable {p : Program} {l : Launch} {e : Env} {R : Room} {s : State} {m : MethodId} {args : Array Value} {below : List Frame} {meth : Method} {c : Code} {H : Heap} {locs : List Loc} {cells slots : Nat} {Q : State → Prop}
variable {mc ms : Nat} {free : Addr → Prop} {A0 A1 : Nat → Prop} {H0 : Heap} {a : Array Value} {pc : Nat} {ls : Array Slot} {st0 rest : List Value}
theorem vx_keep {st₀ t T' : State} {L : List Loc} (h0 : st₀.heap = H) (e1 : T'.heap = t.heap) (hS : va_S A0 H0 H locs) (hA : ∀ q, q < H.size → A1 q → A0 q) (hf : ∀ q, free q → A0 q) (hL : ∀ q ∈ L, free q.base) (hF : va_F A1 st₀ t) :
    H.size ≤ T'.heap.size ∧ (∀ q : Nat, q < H.size → ¬ A1 q → T'.heap[q]? = H[q]?) ∧ va_S A0 H0 T'.heap (locs ++ L) := by
  obtain ⟨hz, hk⟩ := hF
  rw [h0] at hz hk
  exact ⟨by rw [e1]; exact hz, fun q h1 h2 => by rw [e1]; exact hk q h1 h2,
    ⟨Nat.le_trans hS.1 (by rw [e1]; exact hz), fun q h1 h2 => by rw [e1, hk q (Nat.lt_of_lt_of_le h1 hS.1) (fun z => h2 (hA q (Nat.lt_of_lt_of_le h1 hS.1) z))]; exact hS.2.1 q h1 h2, fun q hq => by
      rcases List.mem_append.mp hq with h | h
      · exact hS.2.2 q h
      · exact hf _ (hL q h)⟩⟩
theorem vx_calli {S SX : Type} {post : Int32 → S → Prop} {px : SX → Prop} {B : S → State → Prop} {BX : String → SX → State → Prop} {AX : Nat → Prop} (hr : vx_Run p l e R s m args below meth c H locs cells slots mc ms (F0 m pc ls st0) rest (va_Qi post B A1 a) (vx_X px BX AX) free) (hS : va_S A0 H0 H locs) (hA : ∀ q, q < H.size → A1 q → A0 q) (hf : ∀ q, free q → A0 q) (hAX : ∀ q, q < H.size → AX q → A0 q)
    (kx : ∀ (E : String) (ce : Cell) (q9 : Addr) (u : SX) (t : State) (H1 : Heap) (locs1 : List Loc), t.heap = H1 → s.vm.Alike t.vm → px u → BX E u t → H.size ≤ H1.size → (∀ q : Nat, q < H.size → ¬ AX q → H1[q]? = H[q]?) → va_S A0 H0 H1 locs1 → H1[q9]? = some ce → ce.vm = .none → s.vm.findClass E = some ce.cls → vx_W p l e R s m args below meth c H1 locs1 (cells + mc) (slots + ms) Q (F0 m pc ls rest) q9)
    (kk : ∀ (r : Int32) (u : S) (t : State) (H1 : Heap) (locs1 : List Loc), t.heap = H1 → s.vm.Alike t.vm → post r u → B u t → H.size ≤ H1.size → (∀ q : Nat, q < H.size → ¬ A1 q → H1[q]? = H[q]?) → va_S A0 H0 H1 locs1 → W p l e R s m args below meth c H1 locs1 (cells + mc) (slots + ms) Q (F0 m (pc + 3) ls (.int r :: rest))) : W p l e R s m args below meth c H locs cells slots Q (F0 m pc ls st0) := by
  intro T hT X
  rcases hr T hT X with ⟨v, st₀, t, T', L, h0, X', hL, e1, e2, ⟨⟨r, u, hv, hp, hb⟩, hF⟩, st⟩ | ⟨q, st₀, t, T', L, E, ce, h0, X', hL, e1, e2, ⟨u, hp, hb, hF⟩, hce, hcv, hcl, st⟩
  · cases hv
    obtain ⟨k1, k2, k3⟩ := vx_keep h0 e1 hS hA hf hL hF
    obtain ⟨t2, a1, b1⟩ := kk r u t T'.heap (locs ++ L) e1.symm (by rw [← e2]; exact X'.warmed.alike) hp hb k1 k2 k3 T' rfl X'
    exact ⟨t2, st t2 a1, b1⟩
  · obtain ⟨k1, k2, k3⟩ := vx_keep h0 e1 hS hAX hf hL hF
    obtain ⟨t2, a1, b1⟩ := kx E ce q u t T'.heap (locs ++ L) e1.symm (by rw [← e2]; exact X'.warmed.alike) hp hb k1 k2 k3 (by rw [e1]; exact hce) hcv hcl T' rfl X'
    exact ⟨t2, st.trans a1, b1⟩
theorem vx_calll {S SX : Type} {post : Int64 → S → Prop} {px : SX → Prop} {B : S → State → Prop} {BX : String → SX → State → Prop} {AX : Nat → Prop} (hr : vx_Run p l e R s m args below meth c H locs cells slots mc ms (F0 m pc ls st0) rest (va_Ql post B A1 a) (vx_X px BX AX) free) (hS : va_S A0 H0 H locs) (hA : ∀ q, q < H.size → A1 q → A0 q) (hf : ∀ q, free q → A0 q) (hAX : ∀ q, q < H.size → AX q → A0 q)
    (kx : ∀ (E : String) (ce : Cell) (q9 : Addr) (u : SX) (t : State) (H1 : Heap) (locs1 : List Loc), t.heap = H1 → s.vm.Alike t.vm → px u → BX E u t → H.size ≤ H1.size → (∀ q : Nat, q < H.size → ¬ AX q → H1[q]? = H[q]?) → va_S A0 H0 H1 locs1 → H1[q9]? = some ce → ce.vm = .none → s.vm.findClass E = some ce.cls → vx_W p l e R s m args below meth c H1 locs1 (cells + mc) (slots + ms) Q (F0 m pc ls rest) q9)
    (kk : ∀ (r : Int64) (u : S) (t : State) (H1 : Heap) (locs1 : List Loc), t.heap = H1 → s.vm.Alike t.vm → post r u → B u t → H.size ≤ H1.size → (∀ q : Nat, q < H.size → ¬ A1 q → H1[q]? = H[q]?) → va_S A0 H0 H1 locs1 → W p l e R s m args below meth c H1 locs1 (cells + mc) (slots + ms) Q (F0 m (pc + 3) ls (.long r :: rest))) : W p l e R s m args below meth c H locs cells slots Q (F0 m pc ls st0) := by
  intro T hT X
  rcases hr T hT X with ⟨v, st₀, t, T', L, h0, X', hL, e1, e2, ⟨⟨r, u, hv, hp, hb⟩, hF⟩, st⟩ | ⟨q, st₀, t, T', L, E, ce, h0, X', hL, e1, e2, ⟨u, hp, hb, hF⟩, hce, hcv, hcl, st⟩
  · cases hv
    obtain ⟨k1, k2, k3⟩ := vx_keep h0 e1 hS hA hf hL hF
    obtain ⟨t2, a1, b1⟩ := kk r u t T'.heap (locs ++ L) e1.symm (by rw [← e2]; exact X'.warmed.alike) hp hb k1 k2 k3 T' rfl X'
    exact ⟨t2, st t2 a1, b1⟩
  · obtain ⟨k1, k2, k3⟩ := vx_keep h0 e1 hS hAX hf hL hF
    obtain ⟨t2, a1, b1⟩ := kx E ce q u t T'.heap (locs ++ L) e1.symm (by rw [← e2]; exact X'.warmed.alike) hp hb k1 k2 k3 (by rw [e1]; exact hce) hcv hcl T' rfl X'
    exact ⟨t2, st.trans a1, b1⟩
theorem vx_callf {S SX : Type} {post : UInt32 → S → Prop} {px : SX → Prop} {B : S → State → Prop} {BX : String → SX → State → Prop} {AX : Nat → Prop} (hr : vx_Run p l e R s m args below meth c H locs cells slots mc ms (F0 m pc ls st0) rest (va_Qf post B A1 a) (vx_X px BX AX) free) (hS : va_S A0 H0 H locs) (hA : ∀ q, q < H.size → A1 q → A0 q) (hf : ∀ q, free q → A0 q) (hAX : ∀ q, q < H.size → AX q → A0 q)
    (kx : ∀ (E : String) (ce : Cell) (q9 : Addr) (u : SX) (t : State) (H1 : Heap) (locs1 : List Loc), t.heap = H1 → s.vm.Alike t.vm → px u → BX E u t → H.size ≤ H1.size → (∀ q : Nat, q < H.size → ¬ AX q → H1[q]? = H[q]?) → va_S A0 H0 H1 locs1 → H1[q9]? = some ce → ce.vm = .none → s.vm.findClass E = some ce.cls → vx_W p l e R s m args below meth c H1 locs1 (cells + mc) (slots + ms) Q (F0 m pc ls rest) q9)
    (kk : ∀ (r : UInt32) (u : S) (t : State) (H1 : Heap) (locs1 : List Loc), t.heap = H1 → s.vm.Alike t.vm → post r u → B u t → H.size ≤ H1.size → (∀ q : Nat, q < H.size → ¬ A1 q → H1[q]? = H[q]?) → va_S A0 H0 H1 locs1 → W p l e R s m args below meth c H1 locs1 (cells + mc) (slots + ms) Q (F0 m (pc + 3) ls (.float r :: rest))) : W p l e R s m args below meth c H locs cells slots Q (F0 m pc ls st0) := by
  intro T hT X
  rcases hr T hT X with ⟨v, st₀, t, T', L, h0, X', hL, e1, e2, ⟨⟨r, u, hv, hp, hb⟩, hF⟩, st⟩ | ⟨q, st₀, t, T', L, E, ce, h0, X', hL, e1, e2, ⟨u, hp, hb, hF⟩, hce, hcv, hcl, st⟩
  · cases hv
    obtain ⟨k1, k2, k3⟩ := vx_keep h0 e1 hS hA hf hL hF
    obtain ⟨t2, a1, b1⟩ := kk r u t T'.heap (locs ++ L) e1.symm (by rw [← e2]; exact X'.warmed.alike) hp hb k1 k2 k3 T' rfl X'
    exact ⟨t2, st t2 a1, b1⟩
  · obtain ⟨k1, k2, k3⟩ := vx_keep h0 e1 hS hAX hf hL hF
    obtain ⟨t2, a1, b1⟩ := kx E ce q u t T'.heap (locs ++ L) e1.symm (by rw [← e2]; exact X'.warmed.alike) hp hb k1 k2 k3 (by rw [e1]; exact hce) hcv hcl T' rfl X'
    exact ⟨t2, st.trans a1, b1⟩
theorem vx_calld {S SX : Type} {post : UInt64 → S → Prop} {px : SX → Prop} {B : S → State → Prop} {BX : String → SX → State → Prop} {AX : Nat → Prop} (hr : vx_Run p l e R s m args below meth c H locs cells slots mc ms (F0 m pc ls st0) rest (va_Qd post B A1 a) (vx_X px BX AX) free) (hS : va_S A0 H0 H locs) (hA : ∀ q, q < H.size → A1 q → A0 q) (hf : ∀ q, free q → A0 q) (hAX : ∀ q, q < H.size → AX q → A0 q)
    (kx : ∀ (E : String) (ce : Cell) (q9 : Addr) (u : SX) (t : State) (H1 : Heap) (locs1 : List Loc), t.heap = H1 → s.vm.Alike t.vm → px u → BX E u t → H.size ≤ H1.size → (∀ q : Nat, q < H.size → ¬ AX q → H1[q]? = H[q]?) → va_S A0 H0 H1 locs1 → H1[q9]? = some ce → ce.vm = .none → s.vm.findClass E = some ce.cls → vx_W p l e R s m args below meth c H1 locs1 (cells + mc) (slots + ms) Q (F0 m pc ls rest) q9)
    (kk : ∀ (r : UInt64) (u : S) (t : State) (H1 : Heap) (locs1 : List Loc), t.heap = H1 → s.vm.Alike t.vm → post r u → B u t → H.size ≤ H1.size → (∀ q : Nat, q < H.size → ¬ A1 q → H1[q]? = H[q]?) → va_S A0 H0 H1 locs1 → W p l e R s m args below meth c H1 locs1 (cells + mc) (slots + ms) Q (F0 m (pc + 3) ls (.double r :: rest))) : W p l e R s m args below meth c H locs cells slots Q (F0 m pc ls st0) := by
  intro T hT X
  rcases hr T hT X with ⟨v, st₀, t, T', L, h0, X', hL, e1, e2, ⟨⟨r, u, hv, hp, hb⟩, hF⟩, st⟩ | ⟨q, st₀, t, T', L, E, ce, h0, X', hL, e1, e2, ⟨u, hp, hb, hF⟩, hce, hcv, hcl, st⟩
  · cases hv
    obtain ⟨k1, k2, k3⟩ := vx_keep h0 e1 hS hA hf hL hF
    obtain ⟨t2, a1, b1⟩ := kk r u t T'.heap (locs ++ L) e1.symm (by rw [← e2]; exact X'.warmed.alike) hp hb k1 k2 k3 T' rfl X'
    exact ⟨t2, st t2 a1, b1⟩
  · obtain ⟨k1, k2, k3⟩ := vx_keep h0 e1 hS hAX hf hL hF
    obtain ⟨t2, a1, b1⟩ := kx E ce q u t T'.heap (locs ++ L) e1.symm (by rw [← e2]; exact X'.warmed.alike) hp hb k1 k2 k3 (by rw [e1]; exact hce) hcv hcl T' rfl X'
    exact ⟨t2, st.trans a1, b1⟩
theorem vx_callv {S SX : Type} {post : S → Prop} {px : SX → Prop} {B : S → State → Prop} {BX : String → SX → State → Prop} {AX : Nat → Prop} (hr : vx_Run p l e R s m args below meth c H locs cells slots mc ms (F0 m pc ls st0) rest (va_Qv post B A1 a) (vx_X px BX AX) free) (hS : va_S A0 H0 H locs) (hA : ∀ q, q < H.size → A1 q → A0 q) (hf : ∀ q, free q → A0 q) (hAX : ∀ q, q < H.size → AX q → A0 q)
    (kx : ∀ (E : String) (ce : Cell) (q9 : Addr) (u : SX) (t : State) (H1 : Heap) (locs1 : List Loc), t.heap = H1 → s.vm.Alike t.vm → px u → BX E u t → H.size ≤ H1.size → (∀ q : Nat, q < H.size → ¬ AX q → H1[q]? = H[q]?) → va_S A0 H0 H1 locs1 → H1[q9]? = some ce → ce.vm = .none → s.vm.findClass E = some ce.cls → vx_W p l e R s m args below meth c H1 locs1 (cells + mc) (slots + ms) Q (F0 m pc ls rest) q9)
    (kk : ∀ (u : S) (t : State) (H1 : Heap) (locs1 : List Loc), t.heap = H1 → s.vm.Alike t.vm → post u → B u t → H.size ≤ H1.size → (∀ q : Nat, q < H.size → ¬ A1 q → H1[q]? = H[q]?) → va_S A0 H0 H1 locs1 → W p l e R s m args below meth c H1 locs1 (cells + mc) (slots + ms) Q (F0 m (pc + 3) ls (rest))) : W p l e R s m args below meth c H locs cells slots Q (F0 m pc ls st0) := by
  intro T hT X
  rcases hr T hT X with ⟨v, st₀, t, T', L, h0, X', hL, e1, e2, ⟨⟨u, hv, hp, hb⟩, hF⟩, st⟩ | ⟨q, st₀, t, T', L, E, ce, h0, X', hL, e1, e2, ⟨u, hp, hb, hF⟩, hce, hcv, hcl, st⟩
  · cases hv
    obtain ⟨k1, k2, k3⟩ := vx_keep h0 e1 hS hA hf hL hF
    obtain ⟨t2, a1, b1⟩ := kk u t T'.heap (locs ++ L) e1.symm (by rw [← e2]; exact X'.warmed.alike) hp hb k1 k2 k3 T' rfl X'
    exact ⟨t2, st t2 a1, b1⟩
  · obtain ⟨k1, k2, k3⟩ := vx_keep h0 e1 hS hAX hf hL hF
    obtain ⟨t2, a1, b1⟩ := kx E ce q u t T'.heap (locs ++ L) e1.symm (by rw [← e2]; exact X'.warmed.alike) hp hb k1 k2 k3 (by rw [e1]; exact hce) hcv hcl T' rfl X'
    exact ⟨t2, st.trans a1, b1⟩
/-- caught by the row x of this method's table; the rows ahead don't take it -/
theorem vx_catch {own name : String} {E : String} {ce : Cell} {q : Addr} (hown : s.vm.findClass own = some m.cls) (pre : List ExceptionTableEntry) (x : ExceptionTableEntry) (suf : List ExceptionTableEntry) (hsplit : c.exceptionTable.toList = pre ++ x :: suf)
    (hpass : ∀ z ∈ pre, covers z pc = false ∨ (z.catchType ≠ 0 ∧ ∃ nm : String, (Cond.classLink own z.catchType nm).before args s = true ∧ va_Nc E nm s)) (hx : covers x pc = true) (h0 : x.catchType ≠ 0)
    (hlink : (Cond.classLink own x.catchType name).before args s = true) (hcast : (Cond.castable E name).before args s = true) (hcell : H[q]? = some ce) (hv : ce.vm = .none) (hcl : s.vm.findClass E = some ce.cls)
    (kk : W p l e R s m args below meth c H locs cells slots Q (F0 m x.handlerPc ls [.ref q])) : vx_W p l e R s m args below meth c H locs cells slots Q (F0 m pc ls rest) q := by
  intro T hT X
  have hpl : e.platform.magicAccessors = ({} : Platform).magicAccessors := by rw [X.admits.platform]
  obtain ⟨c3, c4, hc3, hc4, hasg⟩ := Cond.castable_spec hcast
  cases Option.some.inj (hc3.symm.trans hcl)
  obtain ⟨c5, hc5, hcl5⟩ := Cond.classLink_spec hown hlink e.platform hpl
  cases Option.some.inj (hc4.symm.trans hc5)
  obtain ⟨vm', X', st⟩ := X.thenCaughtThrough q (g := F0 m pc ls rest) rfl (Steps.refl _) (by rw [hT]; exact hcell) (by rw [hv]; rfl) (by obtain ⟨k9, h9, -⟩ := Vm.findClass_spec hcl; exact ⟨k9, h9⟩) pre x suf hsplit
    (fun z hz => by
      rcases hpass z hz with h | ⟨hz0, nm, hl1, hn1⟩
      · exact Or.inl h
      · obtain ⟨c6, hc6, hcl6⟩ := Cond.classLink_spec hown hl1 e.platform hpl
        obtain ⟨a8, b8, h1, h2, h3⟩ := hn1
        cases Option.some.inj (h1.symm.trans hcl)
        cases Option.some.inj (h2.symm.trans hc6)
        exact Or.inr ⟨hz0, _, hcl6, h3⟩) hx (Or.inr ⟨h0, c4, hcl5, hasg⟩)
  obtain ⟨t, a1, b1⟩ := kk (T.setVm vm') hT X'
  exact ⟨t, st.trans a1, b1⟩
end Rows
section Ends
variable {p : Program} {l : Launch} {e : Env} {R : Room} {s : State} {m : MethodId} {args : Array Value} {below : List Frame} {meth : Method} {c : Code} {H : Heap} {locs : List Loc} {cells slots : Nat} {Q : State → Prop}
variable {mc ms : Nat} {free : Addr → Prop} {A0 A1 : Nat → Prop} {H0 : Heap} {a : Array Value} {ls : Array Slot} {st0 rest : List Value}
variable {Qc : Array Value → State → Outcome → State → Prop} {XC : String → State → State → Prop}
/-- what a body that may throw owes at its end -/
def vx_MQ (below : List Frame) (Qc : Array Value → State → Outcome → State → Prop) (XC : String → State → State → Prop) (a : Array Value) (s : State) (mc ms : Nat) (free : Addr → Prop) : State → Prop := fun t =>
  ∃ o, t.status = .running ∧ Ended t below o ∧ vx_Q Qc XC mc ms free a s o t
theorem vx_ret {g : JFrame} {mc ms : Nat} (k : W p l e R s m args below meth c H locs cells slots (MQ below Qc args s mc ms free) g) : W p l e R s m args below meth c H locs cells slots (vx_MQ below Qc XC args s mc ms free) g := by
  intro T hT X
  obtain ⟨t, a1, o, b1, b2, b3, b4⟩ := k T hT X
  exact ⟨t, a1, o, b1, b2, Or.inl ⟨b3, b4⟩⟩
/-- not caught here: it goes on to the caller -/
theorem vx_widen {g : JFrame} {q : Addr} {k n : Nat} (h1 : cells ≤ k) (h2 : slots ≤ n) (kk : vx_W p l e R s m args below meth c H locs k n Q g q) : vx_W p l e R s m args below meth c H locs cells slots Q g q := fun T hT X => kk T hT (stand_widen X h1 h2)
theorem vx_out {pc : Nat} {E : String} {ce : Cell} {q : Addr} {mc ms : Nat} (hout : ∀ x ∈ c.exceptionTable.toList, covers x pc = false) (hlocks : meth.locks = false) (hcell : H[q]? = some ce) (hv : ce.vm = .none) (hcl : s.vm.findClass E = some ce.cls)
    (hx : ∀ t : State, t.heap = H → s.vm.Alike t.vm → XC E s t) (hf : ∀ z ∈ locs, free z.base) (hc : cells ≤ mc) (hs : slots ≤ ms) :
    vx_W p l e R s m args below meth c H locs cells slots (vx_MQ below Qc XC args s mc ms free) (F0 m pc ls rest) q := by
  intro T hT X
  obtain ⟨st1, hrun, hend, hW, hsm⟩ := X.leaveThrown q (g := F0 m pc ls rest) rfl rfl rfl hout hlocks
  have hcell9 : (T.setFrames (.throwing q :: below)).heap[q]? = some ce := by
    show T.heap[q]? = some ce
    rw [hT]; exact hcell
  exact ⟨_, st1, .threw q, hrun, hend, Or.inr ⟨q, rfl, E, ce, locs, hx _ hT hW.alike, hcell9, hv, hcl, hW, hsm.mono hc hs, hf⟩⟩
theorem vx_frame {U : State} {k n : Nat} (h : s.sameButNew ({ U with vm := s.vm } : State) locs k n) : s.heap.size ≤ U.heap.size ∧ ∀ q : Nat, q < s.heap.size → (∀ z ∈ locs, z.base ≠ q) → U.heap[q]? = s.heap[q]? := by
  obtain ⟨-, h2, -, -, -, h6⟩ := h
  refine ⟨h2, fun q hq hz => ?_⟩
  obtain ⟨c9, e1, e2, e3, e4⟩ := h6 q _ (Array.getElem?_eq_getElem hq)
  have hs : c9.slots = (s.heap[q]).slots := Array.ext_getElem? fun i => e4 i fun hm => hz _ hm rfl
  have h9 : c9 = s.heap[q] := by
    rw [hs] at e2
    exact e2
  have e5 : U.heap[q]? = some c9 := e1
  rw [e5, h9, Array.getElem?_eq_getElem hq]
/-- the words of a throw but the four that speak of the heap -/
def vx_no (w : Cond) : Bool := decide (w ≠ .isRef (.static Bundle.tN "UNASSIGNED_STACK" Bundle.steD)) && decide (w ≠ .isRef (.static Bundle.tN "SUPPRESSED_SENTINEL" Bundle.listD)) && decide (w ≠ .laysStatic Bundle.tN "UNASSIGNED_STACK" Bundle.steD) && decide (w ≠ .laysStatic Bundle.tN "SUPPRESSED_SENTINEL" Bundle.listD)
def vx_at0 (own : String) (ic : Nat) (X : String) (names : List String) : List Cond := (Bundle.ownAtoms0 own ic X names).filter vx_no
def vx_atS (own : String) (ic : Nat) (X : String) (names : List String) : List Cond := (Bundle.ownAtoms own ic X names).filter vx_no
/-- a word that the tables alone decide, or a good one -/
def vx_ot (w : Cond) : Bool := w.onTables || goodWord w
theorem vx_ot_at {args a' : Array Value} {s U : State} {w : Cond} (hW : s.WarmedH U.vm) (hvm : s.vm = U.vm) (hg : vx_ot w = true) (h : w.before args s = true) : w.before a' U = true := by
  simp only [vx_ot, Bool.or_eq_true] at hg
  rcases hg with hg | hg
  · exact va_tabs hg hvm h
  · exact word_at hW (good_of_word hg) h
/-- a list's words: the good ones out of the method's own list, the others by premises of their own -/
theorem vx_hat {args : Array Value} {s : State} {L B : List Cond} (h1 : ∀ w ∈ L.filter goodWord, w.before args s = true) (h2 : ∀ w ∈ L.filter (fun w => !goodWord w), w ∈ B) (h3 : ∀ w ∈ B, w.before args s = true) : ∀ w ∈ L, w.before args s = true := by
  intro w hw
  by_cases g : goodWord w = true
  · exact h1 w (List.mem_filter.mpr ⟨hw, g⟩)
  · refine h3 w (h2 w (List.mem_filter.mpr ⟨hw, ?_⟩))
    show (!goodWord w) = true
    cases hgw : goodWord w
    · rfl
    · exact absurd hgw g
theorem vx_c {args : Array Value} {s : State} {w : Cond} {B : List Cond} (h : w.before args s = true) (t : ∀ w ∈ B, w.before args s = true) : ∀ w' ∈ w :: B, w'.before args s = true := fun w' h' => (List.mem_cons.mp h').elim (fun e => by rw [e]; exact h) (t w')
theorem vx_n {args : Array Value} {s : State} : ∀ w ∈ ([] : List Cond), w.before args s = true := fun _ h => nomatch h
theorem vx_own {args : Array Value} {s : State} {L : List Cond} (h1 : ∀ w ∈ L.filter vx_no, w.before args s = true)
    (hU : (Cond.isRef (.static Bundle.tN "UNASSIGNED_STACK" Bundle.steD)).before args s = true) (hN : (Cond.isRef (.static Bundle.tN "SUPPRESSED_SENTINEL" Bundle.listD)).before args s = true)
    (lU : (Cond.laysStatic Bundle.tN "UNASSIGNED_STACK" Bundle.steD).before args s = true) (lN : (Cond.laysStatic Bundle.tN "SUPPRESSED_SENTINEL" Bundle.listD).before args s = true) : ∀ w ∈ L, w.before args s = true := by
  intro w hw
  by_cases e1 : w = .isRef (.static Bundle.tN "UNASSIGNED_STACK" Bundle.steD)
  · rw [e1]; exact hU
  · by_cases e2 : w = .isRef (.static Bundle.tN "SUPPRESSED_SENTINEL" Bundle.listD)
    · rw [e2]; exact hN
    · by_cases e3 : w = .laysStatic Bundle.tN "UNASSIGNED_STACK" Bundle.steD
      · rw [e3]; exact lU
      · by_cases e4 : w = .laysStatic Bundle.tN "SUPPRESSED_SENTINEL" Bundle.listD
        · rw [e4]; exact lN
        · exact h1 w (List.mem_filter.mpr ⟨hw, by unfold vx_no; rw [decide_eq_true e1, decide_eq_true e2, decide_eq_true e3, decide_eq_true e4]; rfl⟩)
/-- where a static field lies, its class's statics cell in H -/
def vx_L (C n d : String) (A : Nat → Prop) (U : State) (H : Heap) : Prop := ∃ (c : ClassId) (k : Class) (i : Nat) (f : Field) (a : Nat) (cell : Cell), U.vm.findClass C = some c ∧ U.fieldFound? C n d = some (c, k, i, f) ∧ f.isStatic = true ∧ k.statics = some a ∧ H[a]? = some cell ∧ cell.vm.isStatics = true ∧ cell.cls = c ∧ f.slot < cell.slots.size ∧ k.staticTypes[f.slot]? = some f.type ∧ ¬ A a
theorem vx_L.moved {C n d : String} {A : Nat → Prop} {u U : State} {H : Heap} (hvm : u.vm.Alike U.vm) (h : vx_L C n d A u H) : vx_L C n d A U H := by
  obtain ⟨c, k, i, f, a, cell, h1, h2, h3, h4, h5, h6, h7, h8, h9, h10⟩ := h
  obtain ⟨k', hi', he⟩ := State.fieldFound?_setVm hvm h2
  exact ⟨c, k', i, f, a, cell, by rw [hvm.findClass]; exact h1, hi', h3, by rw [he]; exact h4, h5, h6, h7, h8, by rw [he]; exact h9, h10⟩
theorem vx_L.kept {C n d : String} {A : Nat → Prop} {U : State} {H H1 : Heap} (h : vx_L C n d A U H) (hq : ∀ a : Nat, a < H.size → ¬ A a → H1[a]? = H[a]?) : vx_L C n d A U H1 := by
  obtain ⟨c, k, i, f, a, cell, h1, h2, h3, h4, h5, h6, h7, h8, h9, h10⟩ := h
  exact ⟨c, k, i, f, a, cell, h1, h2, h3, h4, by rw [hq a (Array.getElem?_eq_some_iff.mp h5).1 h10]; exact h5, h6, h7, h8, h9, h10⟩
theorem vx_L.narrow {C n d : String} {A B : Nat → Prop} {U : State} {H : Heap} (h : vx_L C n d A U H) (hAB : ∀ q, B q → A q) : vx_L C n d B U H := by
  obtain ⟨c, k, i, f, a, cell, h1, h2, h3, h4, h5, h6, h7, h8, h9, h10⟩ := h
  exact ⟨c, k, i, f, a, cell, h1, h2, h3, h4, h5, h6, h7, h8, h9, fun z => h10 (hAB _ z)⟩
theorem vx_L.word {C n d : String} {A : Nat → Prop} {s : State} {args : Array Value} (h : vx_L C n d A s s.heap) : (Cond.laysStatic C n d).before args s = true := by
  obtain ⟨c, k, i, f, a, cell, h1, h2, h3, h4, h5, h6, h7, h8, h9, -⟩ := h
  show (Cond.laysStatic C n d).holds args s none s [] = true
  exact Cond.laysStatic_of h1 h2 h3 h4 h5 h6 h7 h8 h9
/-- .. and what it holds: null or some reference -/
def vx_Zq (C n d : String) (A : Nat → Prop) (U : State) (H : Heap) : Prop := va_Zq C n d A U H ∧ vx_L C n d A U H
theorem vx_Zq.moved {C n d : String} {A : Nat → Prop} {u U : State} {H : Heap} (hvm : u.vm.Alike U.vm) (h : vx_Zq C n d A u H) : vx_Zq C n d A U H := ⟨va_Zq.moved hvm h.1, vx_L.moved hvm h.2⟩
theorem vx_Zq.kept {C n d : String} {A : Nat → Prop} {U : State} {H H1 : Heap} (h : vx_Zq C n d A U H) (hq : ∀ a : Nat, a < H.size → ¬ A a → H1[a]? = H[a]?) : vx_Zq C n d A U H1 := ⟨va_Zq.kept h.1 hq, vx_L.kept h.2 hq⟩
theorem vx_Zq.narrow {C n d : String} {A B : Nat → Prop} {U : State} {H : Heap} (h : vx_Zq C n d A U H) (hAB : ∀ q, B q → A q) : vx_Zq C n d B U H := ⟨va_Zq.narrow h.1 hAB, vx_L.narrow h.2 hAB⟩
theorem vx_Zqof {args : Array Value} {s : State} {C n d : String} {A : Nat → Prop} (hl : (Cond.laysStatic C n d).before args s = true) (hini : (Cond.initialized C).before args s = true) (h : (Cond.isRef (.static C n d)).before args s = true) (hA : ∀ a : Nat, a < s.heap.size → ¬ A a) : vx_Zq C n d A s s.heap := by
  refine ⟨va_Zqof hl hini h hA, ?_⟩
  obtain ⟨c, k, i, f, a, cell, h1, h2, h3, h4, h5, h6, h7, h8, h9⟩ := Cond.laysStatic_spec hl
  exact ⟨c, k, i, f, a, cell, h1, h2, h3, h4, h5, h6, h7, h8, h9, hA a (Array.getElem?_eq_some_iff.mp h5).1⟩
theorem vx_isRef {C n d : String} {v : Value} {A : Nat → Prop} {s : State} {args : Array Value} (h : va_Z C n d v A s s.heap) (hv : v.isRef = true) : (Cond.isRef (.static C n d)).before args s = true := by
  obtain ⟨cf, kf, fi, f, a, cell, h1, h2, h3, h4, h5, h6, h7, -⟩ := h
  have he : (Term.static C n d).eval args s none [] s = some v := by
    simp [Term.eval, State.fieldNamed?, h1, h2, h4, h5, h6, h7]
  simp only [Cond.before, Cond.holds, Cond.value, he]
  cases v <;> simp_all [Value.isRef]
theorem vx_isRefq {C n d : String} {A : Nat → Prop} {s : State} {args : Array Value} (h : va_Zq C n d A s s.heap) : (Cond.isRef (.static C n d)).before args s = true := by
  rcases h with h | ⟨t, h⟩
  · exact vx_isRef h rfl
  · exact vx_isRef h rfl
/-- the same frame, seen from here: as if the method were called anew in this heap -/
theorem vx_rebase {T : State} (X : Stand p l e R s m args below meth c T locs cells slots) {R' : Room} (hf : R'.frames ≤ R.frames) (hl : R'.locals ≤ R.locals) (hc : cells + R'.cells ≤ R.cells) (hs : slots + R'.slots ≤ R.slots) :
    Stand p l e R' ((T.setVm s.vm).setFrames (.invoking m args :: below)) m args below meth c T [] 0 0 := by
  have htop : (T.setVm s.vm).topJava?.isSome := X.here.top
  have hF : ((T.setVm s.vm).setFrames (.invoking m args :: below)).frames = .invoking m args :: below := State.frames_setFrames _ (State.cur_lt_of_top htop)
  obtain ⟨g₀, hg0⟩ := Option.isSome_iff_exists.mp htop
  obtain ⟨r, hr⟩ := State.topJava?_eq_some.mp hg0
  have hl9 : e.platform.stackLimits (T.setVm s.vm).me = e.platform.stackLimits s.me := X.limits
  have hb9 : (T.setVm s.vm).me.stackBytes = s.me.stackBytes := X.bytes
  refine ⟨X.admits, X.cas, X.clock, hF, ?_, X.hears, X.method, X.code, X.here, X.tail, X.warmed, ?_, ?_, ?_⟩
  · have h := X.room
    have hU : ((T.setVm s.vm).setFrames (.invoking m args :: below)).localsInUse = s.localsInUse := by
      rw [State.localsInUse_invoking hF (meth := meth) (c := c) X.method X.code, State.localsInUse_invoking X.frames X.method X.code]
    simp only [State.hasRoom, Bool.and_eq_true, decide_eq_true_eq] at h ⊢
    obtain ⟨⟨⟨⟨h1, h2, h3, h4, h5, h6⟩, h7⟩, h8⟩, h9⟩ := h
    rw [X.frames, List.length_cons] at h2 h3
    have q1 := X.heapSize
    have q2 := X.used
    simp only [hF, hU, List.length_cons, State.stackLimits_setFrames, State.stackBytes_setFrames, hl9, hb9]
    refine ⟨⟨⟨⟨by omega, by omega, by omega, by omega, by omega, h6⟩, ?_⟩, ?_⟩, X.book⟩
    · show T.heap.size + R'.cells ≤ e.platform.maxCells
      omega
    · show T.slotsUsed + R'.slots ≤ e.platform.maxSlots
      omega
  · rw [State.stackLimits_setFrames]; rfl
  · rw [State.stackBytes_setFrames]; rfl
  · refine ⟨?_, Nat.le_refl _, Nat.le_refl _, ?_, ?_, fun a c9 h9 => ⟨c9, h9, rfl, rfl, fun _ _ => rfl⟩⟩
    · obtain ⟨t, ht, -⟩ := State.frames_cons hr
      show T.setVm s.vm = { ((T.setVm s.vm).setFrames (.invoking m args :: below)).setFrames (T.setVm s.vm).frames with heap := T.heap, slotsUsed := T.slotsUsed }
      rw [State.setFrames_setFrames, State.setFrames_self ht]
      rfl
    · show T.slotsUsed = T.slotsUsed + ((T.heap.toList.drop T.heap.size).map (·.slots.size)).sum
      rw [List.drop_eq_nil_of_le (Nat.le_of_eq Array.length_toList)]
      rfl
    · show ((T.heap.toList.drop T.heap.size).map (·.slots.size)).sum ≤ 0
      rw [List.drop_eq_nil_of_le (Nat.le_of_eq Array.length_toList)]
      exact Nat.le_refl _
/-- 'throw new E()': new; dup; invokespecial; athrow -/
theorem vx_throw0 {cc : ByteArray} {pc : Nat} (hexec : p.tables.exec = Jvm.exec) (hb : c.code = cc) (hl : l.stackTraces = false) {own cls : String} {names : List String} {ik ic mc ms : Nat} {A : Nat → Prop}
    (hown : s.vm.findClass own = some m.cls) (hcls : Bundle.fit cls = true) (hnames : ∀ n ∈ names, Bundle.fit n = true)
    (hk : (Cond.classLink own ik cls).before args s = true) (hini : (Cond.initialized cls).before args s = true) (hat : ∀ w ∈ vx_at0 own ic cls names, w.before args s = true)
    (hgood : ∀ w ∈ Cond.classLink own ik cls :: Cond.initialized cls :: vx_at0 own ic cls names, vx_ot w = true)
    (hU : vx_Zq Bundle.tN "UNASSIGNED_STACK" Bundle.steD A s s.heap) (hN : vx_Zq Bundle.tN "SUPPRESSED_SENTINEL" Bundle.listD A s s.heap) (hS : va_S A s.heap H locs) (hsize : ls.size = c.maxLocals)
    (d0 : decode cc pc = .ok (.new ik, 3)) (d3 : decode cc (pc + 3) = .ok (.dup, 1)) (d4 : decode cc (pc + 4) = .ok (.invokespecial ic, 3)) (d7 : decode cc (pc + 7) = .ok (.athrow, 1))
    (hout : ∀ x ∈ c.exceptionTable.toList, covers x (pc + 7) = false)
    (hRframes : names.length + 3 < R.frames) (hRlocals : (rest.map fun v => v.category).sum + (13 * (names.length + 1) + 42) ≤ R.locals) (hRcells : cells + 1 ≤ R.cells) (hRslots : slots + 6 ≤ R.slots) (hlocks : meth.locks = false)
    (hx : ∀ t : State, s.vm.Alike t.vm → H.size ≤ t.heap.size → (∀ q : Nat, q < H.size → t.heap[q]? = H[q]?) → XC cls s t)
    (hf : ∀ z ∈ locs, free z.base) (hc : cells + 1 ≤ mc) (hs : slots + 6 ≤ ms) :
    W p l e R s m args below meth c H locs cells slots (vx_MQ below Qc XC args s mc ms free) (F0 m pc ls rest) := by
  intro T hT X
  have htr : e.platform.stackTraces = false := (show e.platform.stackTraces = l.stackTraces by rw [X.admits.platform]).trans hl
  have Y := vx_rebase X (R' := { frames := R.frames, locals := R.locals, cells := 1, slots := 6 }) (Nat.le_refl _) (Nat.le_refl _) hRcells hRslots
  obtain ⟨s', hA⟩ : ∃ z, z = (T.setVm s.vm).setFrames (.invoking m args :: below) := ⟨_, rfl⟩
  rw [← hA] at Y
  have hvm : s'.vm = s.vm := by rw [hA]; rfl
  have hhp : s'.heap = H := by rw [hA]; exact hT
  have hW0 : s.WarmedH s'.vm := by rw [hvm]; exact State.WarmedH.refl s
  have hat' : ∀ w ∈ vx_at0 own ic cls names, w.before args s' = true := fun w hw => vx_ot_at hW0 hvm.symm (hgood w (List.mem_cons_of_mem _ (List.mem_cons_of_mem _ hw))) (hat w hw)
  have hk' : (Cond.classLink own ik cls).before args s' = true := vx_ot_at hW0 hvm.symm (hgood _ List.mem_cons_self) hk
  have hini' : (Cond.initialized cls).before args s' = true := vx_ot_at hW0 hvm.symm (hgood _ (List.mem_cons_of_mem _ List.mem_cons_self)) hini
  have hU' : vx_Zq Bundle.tN "UNASSIGNED_STACK" Bundle.steD A s' s'.heap := by rw [hhp]; exact vx_Zq.moved hW0.alike (hU.kept hS.2.1)
  have hN' : vx_Zq Bundle.tN "SUPPRESSED_SENTINEL" Bundle.listD A s' s'.heap := by rw [hhp]; exact vx_Zq.moved hW0.alike (hN.kept hS.2.1)
  have h : ∀ w ∈ Bundle.ownAtoms0 own ic cls names, w.before args s' = true := vx_own hat' (vx_isRefq hU'.1) (vx_isRefq hN'.1) hU'.2.word hN'.2.word
  have hown' : s'.vm.findClass own = some m.cls := by rw [hvm]; exact hown
  have hins : (Cond.instantiable cls 6).before args s' = true := h _ (by simp [Bundle.ownAtoms0])
  obtain ⟨vm₁, cX, kX, hfX, hkX, -, -, X₁, st1⟩ := Y.newCold hexec (own := own) (C := cls) (index := ik) (n := 6) hown' hk' hins hini'
    (g := F0 m pc ls rest) rfl (by rw [hb]; exact d0) (Nat.le_refl _) (Nat.le_refl _)
  generalize hT1 : (T.setVm vm₁).pushCell { cls := cX, slots := kX.instanceTypes.map defaultValue, vm := .none } = T1 at X₁ st1
  have hcat : (Value.ref T.heap.size).category = 1 := rfl
  have hcellA : T1.heap[T.heap.size]? = some (freshCell cX kX) := by rw [← hT1]; exact State.heap_pushCell_size _ _
  have d3' : decode c.code (pc + 3) = .ok (.dup, 1) := by rw [hb]; exact d3
  obtain ⟨U, hsteps, hrun, hend, hW, hsame, ce, hce, hO⟩ := X₁.ctorThrow0 hexec htr (own := own) (cls := cls) (names := names) (ic := ic) hown' hcls hnames h (fun x hx => nomatch hx) hfX hkX hcellA (by rw [hhp, hT]; exact Nat.le_refl _)
    (g := { method := m, pc := pc + 4, locals := ls, stack := .ref T.heap.size :: .ref T.heap.size :: rest, locked := none }) rfl hsize rfl rfl (rest := rest) rfl
    (by rw [hb]; exact d4) (by rw [hb]; exact d7) hout hRframes (by simp only [List.map_cons, List.sum_cons, hcat]; omega) hlocks
  obtain ⟨f1, f2⟩ := vx_frame hsame
  rw [hhp] at f1 f2
  have hWs : s.WarmedH U.vm := State.WarmedH.trans hW0 hW
  have hcl : s.vm.findClass cls = some ce.cls := by
    have h9 := hO.cls
    rw [hvm] at h9
    exact h9
  have hall : s.sameButNew ({ U with vm := s.vm } : State) locs mc ms := by
    subst hA
    obtain ⟨e1, e2⟩ := hsame
    rw [State.setFrames_setFrames] at e1
    have h2 : (T.setVm s.vm).sameButNew ({ U with vm := s.vm } : State) [] (0 + 1) (0 + 6) := ⟨e1, e2⟩
    have h3 := X.same.trans h2
    rw [List.append_nil] at h3
    exact h3.mono hc hs
  refine ⟨U, ?_, .threw T.heap.size, hrun, hend, Or.inr ⟨T.heap.size, rfl, cls, ce, locs, hx U hWs.alike f1 (fun q hq => f2 q hq (fun z hz => nomatch hz)), hce, hO.vm, hcl, hWs, hall, hf⟩⟩
  refine st1 _ ?_
  show Steps p.tables e below (T1.setTop { method := m, pc := pc + 3, locals := ls, stack := .ref T.heap.size :: rest, locked := none }) _
  jvm_step X₁.here [X₁.here.top, hexec, d3', Value.category]
  exact hsteps
/-- 'throw new E("text")': new; dup; ldc; invokespecial; athrow -/
theorem vx_throwS {cc : ByteArray} {pc : Nat} (hexec : p.tables.exec = Jvm.exec) (hb : c.code = cc) (hl : l.stackTraces = false) {own cls text : String} {names : List String} {ik is ic mc ms sa : Nat} {A : Nat → Prop}
    (hown : s.vm.findClass own = some m.cls) (hcls : Bundle.fit cls = true) (hnames : ∀ n ∈ names, Bundle.fit n = true)
    (hk : (Cond.classLink own ik cls).before args s = true) (hini : (Cond.initialized cls).before args s = true) (hstr : vk_R own is text sa s) (hat : ∀ w ∈ vx_atS own ic cls names, w.before args s = true)
    (hgood : ∀ w ∈ Cond.classLink own ik cls :: Cond.initialized cls :: vx_atS own ic cls names, vx_ot w = true)
    (hU : vx_Zq Bundle.tN "UNASSIGNED_STACK" Bundle.steD A s s.heap) (hN : vx_Zq Bundle.tN "SUPPRESSED_SENTINEL" Bundle.listD A s s.heap) (hS : va_S A s.heap H locs) (hsize : ls.size = c.maxLocals)
    (d0 : decode cc pc = .ok (.new ik, 3)) (d3 : decode cc (pc + 3) = .ok (.dup, 1)) (d4 : decode cc (pc + 4) = .ok (.ldc is, 2)) (d6 : decode cc (pc + 6) = .ok (.invokespecial ic, 3)) (d9 : decode cc (pc + 9) = .ok (.athrow, 1))
    (hout : ∀ x ∈ c.exceptionTable.toList, covers x (pc + 9) = false)
    (hRframes : names.length + 3 < R.frames) (hRlocals : (rest.map fun v => v.category).sum + (13 * (names.length + 1) + 43) ≤ R.locals) (hRcells : cells + 1 ≤ R.cells) (hRslots : slots + 6 ≤ R.slots) (hlocks : meth.locks = false)
    (hx : ∀ t : State, s.vm.Alike t.vm → H.size ≤ t.heap.size → (∀ q : Nat, q < H.size → t.heap[q]? = H[q]?) → XC cls s t)
    (hf : ∀ z ∈ locs, free z.base) (hc : cells + 1 ≤ mc) (hs : slots + 6 ≤ ms) :
    W p l e R s m args below meth c H locs cells slots (vx_MQ below Qc XC args s mc ms free) (F0 m pc ls rest) := by
  intro T hT X
  have htr : e.platform.stackTraces = false := (show e.platform.stackTraces = l.stackTraces by rw [X.admits.platform]).trans hl
  have Y := vx_rebase X (R' := { frames := R.frames, locals := R.locals, cells := 1, slots := 6 }) (Nat.le_refl _) (Nat.le_refl _) hRcells hRslots
  obtain ⟨s', hA⟩ : ∃ z, z = (T.setVm s.vm).setFrames (.invoking m args :: below) := ⟨_, rfl⟩
  rw [← hA] at Y
  have hvm : s'.vm = s.vm := by rw [hA]; rfl
  have hhp : s'.heap = H := by rw [hA]; exact hT
  have hW0 : s.WarmedH s'.vm := by rw [hvm]; exact State.WarmedH.refl s
  have hat' : ∀ w ∈ vx_atS own ic cls names, w.before args s' = true := fun w hw => vx_ot_at hW0 hvm.symm (hgood w (List.mem_cons_of_mem _ (List.mem_cons_of_mem _ hw))) (hat w hw)
  have hk' : (Cond.classLink own ik cls).before args s' = true := vx_ot_at hW0 hvm.symm (hgood _ List.mem_cons_self) hk
  have hini' : (Cond.initialized cls).before args s' = true := vx_ot_at hW0 hvm.symm (hgood _ (List.mem_cons_of_mem _ List.mem_cons_self)) hini
  have hU' : vx_Zq Bundle.tN "UNASSIGNED_STACK" Bundle.steD A s' s'.heap := by rw [hhp]; exact vx_Zq.moved hW0.alike (hU.kept hS.2.1)
  have hN' : vx_Zq Bundle.tN "SUPPRESSED_SENTINEL" Bundle.listD A s' s'.heap := by rw [hhp]; exact vx_Zq.moved hW0.alike (hN.kept hS.2.1)
  have h : ∀ w ∈ Bundle.ownAtoms own ic cls names, w.before args s' = true := vx_own hat' (vx_isRefq hU'.1) (vx_isRefq hN'.1) hU'.2.word hN'.2.word
  have hown' : s'.vm.findClass own = some m.cls := by rw [hvm]; exact hown
  have hins : (Cond.instantiable cls 6).before args s' = true := h _ (by simp [Bundle.ownAtoms])
  obtain ⟨vm₁, cX, kX, hfX, hkX, -, -, X₁, st1⟩ := Y.newCold hexec (own := own) (C := cls) (index := ik) (n := 6) hown' hk' hins hini'
    (g := F0 m pc ls rest) rfl (by rw [hb]; exact d0) (Nat.le_refl _) (Nat.le_refl _)
  generalize hT1 : (T.setVm vm₁).pushCell { cls := cX, slots := kX.instanceTypes.map defaultValue, vm := .none } = T1 at X₁ st1
  have hcat : (Value.ref T.heap.size).category = 1 := rfl
  have hcellA : T1.heap[T.heap.size]? = some (freshCell cX kX) := by rw [← hT1]; exact State.heap_pushCell_size _ _
  have d3' : decode c.code (pc + 3) = .ok (.dup, 1) := by rw [hb]; exact d3
  have d4' : decode c.code (pc + 4) = .ok (.ldc is, 2) := by rw [hb]; exact d4
  have hstr' : vk_R own is text sa s' := vk_R.warm hW0 hstr
  obtain ⟨U, hsteps, hrun, hend, hW, hsame, ce, hce, hO⟩ := X₁.ctorThrowS hexec htr (own := own) (cls := cls) (names := names) (ic := ic) hown' hcls hnames h (fun x hx => nomatch hx) hfX hkX hcellA (by rw [hhp, hT]; exact Nat.le_refl _) (msg := .ref sa) rfl
    (g := { method := m, pc := pc + 6, locals := ls, stack := .ref sa :: .ref T.heap.size :: .ref T.heap.size :: rest, locked := none }) rfl hsize rfl rfl (rest := rest) rfl
    (by rw [hb]; exact d6) (by rw [hb]; exact d9) hout hRframes (by simp only [List.map_cons, List.sum_cons, hcat]; omega) hlocks
  obtain ⟨f1, f2⟩ := vx_frame hsame
  rw [hhp] at f1 f2
  have hWs : s.WarmedH U.vm := State.WarmedH.trans hW0 hW
  have hcl : s.vm.findClass cls = some ce.cls := by
    have h9 := hO.cls
    rw [hvm] at h9
    exact h9
  have hall : s.sameButNew ({ U with vm := s.vm } : State) locs mc ms := by
    subst hA
    obtain ⟨e1, e2⟩ := hsame
    rw [State.setFrames_setFrames] at e1
    have h2 : (T.setVm s.vm).sameButNew ({ U with vm := s.vm } : State) [] (0 + 1) (0 + 6) := ⟨e1, e2⟩
    have h3 := X.same.trans h2
    rw [List.append_nil] at h3
    exact h3.mono hc hs
  refine ⟨U, ?_, .threw T.heap.size, hrun, hend, Or.inr ⟨T.heap.size, rfl, cls, ce, locs, hx U hWs.alike f1 (fun q hq => f2 q hq (fun z hz => nomatch hz)), hce, hO.vm, hcl, hWs, hall, hf⟩⟩
  refine st1 _ ?_
  show Steps p.tables e below (T1.setTop { method := m, pc := pc + 3, locals := ls, stack := .ref T.heap.size :: rest, locked := none }) _
  jvm_step X₁.here [X₁.here.top, hexec, d3', Value.category]
  exact X₁.ldcString hexec (own := own) (text := text) (index := is) (a := sa) hown' hstr'.1 hstr'.2
    (g := { method := m, pc := pc + 4, locals := ls, stack := .ref T.heap.size :: .ref T.heap.size :: rest, locked := none }) rfl d4' _ hsteps
/-- 'throw new E("text")', the text by a wide index -/
theorem vx_throwSW {cc : ByteArray} {pc : Nat} (hexec : p.tables.exec = Jvm.exec) (hb : c.code = cc) (hl : l.stackTraces = false) {own cls text : String} {names : List String} {ik is ic mc ms sa : Nat} {A : Nat → Prop}
    (hown : s.vm.findClass own = some m.cls) (hcls : Bundle.fit cls = true) (hnames : ∀ n ∈ names, Bundle.fit n = true)
    (hk : (Cond.classLink own ik cls).before args s = true) (hini : (Cond.initialized cls).before args s = true) (hstr : vk_R own is text sa s) (hat : ∀ w ∈ vx_atS own ic cls names, w.before args s = true)
    (hgood : ∀ w ∈ Cond.classLink own ik cls :: Cond.initialized cls :: vx_atS own ic cls names, vx_ot w = true)
    (hU : vx_Zq Bundle.tN "UNASSIGNED_STACK" Bundle.steD A s s.heap) (hN : vx_Zq Bundle.tN "SUPPRESSED_SENTINEL" Bundle.listD A s s.heap) (hS : va_S A s.heap H locs) (hsize : ls.size = c.maxLocals)
    (d0 : decode cc pc = .ok (.new ik, 3)) (d3 : decode cc (pc + 3) = .ok (.dup, 1)) (d4 : decode cc (pc + 4) = .ok (.ldc_w is, 3)) (d7 : decode cc (pc + 7) = .ok (.invokespecial ic, 3)) (d10 : decode cc (pc + 10) = .ok (.athrow, 1))
    (hout : ∀ x ∈ c.exceptionTable.toList, covers x (pc + 10) = false)
    (hRframes : names.length + 3 < R.frames) (hRlocals : (rest.map fun v => v.category).sum + (13 * (names.length + 1) + 43) ≤ R.locals) (hRcells : cells + 1 ≤ R.cells) (hRslots : slots + 6 ≤ R.slots) (hlocks : meth.locks = false)
    (hx : ∀ t : State, s.vm.Alike t.vm → H.size ≤ t.heap.size → (∀ q : Nat, q < H.size → t.heap[q]? = H[q]?) → XC cls s t)
    (hf : ∀ z ∈ locs, free z.base) (hc : cells + 1 ≤ mc) (hs : slots + 6 ≤ ms) :
    W p l e R s m args below meth c H locs cells slots (vx_MQ below Qc XC args s mc ms free) (F0 m pc ls rest) := by
  intro T hT X
  have htr : e.platform.stackTraces = false := (show e.platform.stackTraces = l.stackTraces by rw [X.admits.platform]).trans hl
  have Y := vx_rebase X (R' := { frames := R.frames, locals := R.locals, cells := 1, slots := 6 }) (Nat.le_refl _) (Nat.le_refl _) hRcells hRslots
  obtain ⟨s', hA⟩ : ∃ z, z = (T.setVm s.vm).setFrames (.invoking m args :: below) := ⟨_, rfl⟩
  rw [← hA] at Y
  have hvm : s'.vm = s.vm := by rw [hA]; rfl
  have hhp : s'.heap = H := by rw [hA]; exact hT
  have hW0 : s.WarmedH s'.vm := by rw [hvm]; exact State.WarmedH.refl s
  have hat' : ∀ w ∈ vx_atS own ic cls names, w.before args s' = true := fun w hw => vx_ot_at hW0 hvm.symm (hgood w (List.mem_cons_of_mem _ (List.mem_cons_of_mem _ hw))) (hat w hw)
  have hk' : (Cond.classLink own ik cls).before args s' = true := vx_ot_at hW0 hvm.symm (hgood _ List.mem_cons_self) hk
  have hini' : (Cond.initialized cls).before args s' = true := vx_ot_at hW0 hvm.symm (hgood _ (List.mem_cons_of_mem _ List.mem_cons_self)) hini
  have hU' : vx_Zq Bundle.tN "UNASSIGNED_STACK" Bundle.steD A s' s'.heap := by rw [hhp]; exact vx_Zq.moved hW0.alike (hU.kept hS.2.1)
  have hN' : vx_Zq Bundle.tN "SUPPRESSED_SENTINEL" Bundle.listD A s' s'.heap := by rw [hhp]; exact vx_Zq.moved hW0.alike (hN.kept hS.2.1)
  have h : ∀ w ∈ Bundle.ownAtoms own ic cls names, w.before args s' = true := vx_own hat' (vx_isRefq hU'.1) (vx_isRefq hN'.1) hU'.2.word hN'.2.word
  have hown' : s'.vm.findClass own = some m.cls := by rw [hvm]; exact hown
  have hins : (Cond.instantiable cls 6).before args s' = true := h _ (by simp [Bundle.ownAtoms])
  obtain ⟨vm₁, cX, kX, hfX, hkX, -, -, X₁, st1⟩ := Y.newCold hexec (own := own) (C := cls) (index := ik) (n := 6) hown' hk' hins hini'
    (g := F0 m pc ls rest) rfl (by rw [hb]; exact d0) (Nat.le_refl _) (Nat.le_refl _)
  generalize hT1 : (T.setVm vm₁).pushCell { cls := cX, slots := kX.instanceTypes.map defaultValue, vm := .none } = T1 at X₁ st1
  have hcat : (Value.ref T.heap.size).category = 1 := rfl
  have hcellA : T1.heap[T.heap.size]? = some (freshCell cX kX) := by rw [← hT1]; exact State.heap_pushCell_size _ _
  have d3' : decode c.code (pc + 3) = .ok (.dup, 1) := by rw [hb]; exact d3
  have d4' : decode c.code (pc + 4) = .ok (.ldc_w is, 3) := by rw [hb]; exact d4
  have hstr' : vk_R own is text sa s' := vk_R.warm hW0 hstr
  obtain ⟨U, hsteps, hrun, hend, hW, hsame, ce, hce, hO⟩ := X₁.ctorThrowS hexec htr (own := own) (cls := cls) (names := names) (ic := ic) hown' hcls hnames h (fun x hx => nomatch hx) hfX hkX hcellA (by rw [hhp, hT]; exact Nat.le_refl _) (msg := .ref sa) rfl
    (g := { method := m, pc := pc + 7, locals := ls, stack := .ref sa :: .ref T.heap.size :: .ref T.heap.size :: rest, locked := none }) rfl hsize rfl rfl (rest := rest) rfl
    (by rw [hb]; exact d7) (by rw [hb]; exact d10) hout hRframes (by simp only [List.map_cons, List.sum_cons, hcat]; omega) hlocks
  obtain ⟨f1, f2⟩ := vx_frame hsame
  rw [hhp] at f1 f2
  have hWs : s.WarmedH U.vm := State.WarmedH.trans hW0 hW
  have hcl : s.vm.findClass cls = some ce.cls := by
    have h9 := hO.cls
    rw [hvm] at h9
    exact h9
  have hall : s.sameButNew ({ U with vm := s.vm } : State) locs mc ms := by
    subst hA
    obtain ⟨e1, e2⟩ := hsame
    rw [State.setFrames_setFrames] at e1
    have h2 : (T.setVm s.vm).sameButNew ({ U with vm := s.vm } : State) [] (0 + 1) (0 + 6) := ⟨e1, e2⟩
    have h3 := X.same.trans h2
    rw [List.append_nil] at h3
    exact h3.mono hc hs
  refine ⟨U, ?_, .threw T.heap.size, hrun, hend, Or.inr ⟨T.heap.size, rfl, cls, ce, locs, hx U hWs.alike f1 (fun q hq => f2 q hq (fun z hz => nomatch hz)), hce, hO.vm, hcl, hWs, hall, hf⟩⟩
  refine st1 _ ?_
  show Steps p.tables e below (T1.setTop { method := m, pc := pc + 3, locals := ls, stack := .ref T.heap.size :: rest, locked := none }) _
  jvm_step X₁.here [X₁.here.top, hexec, d3', Value.category]
  exact X₁.ldcStringW hexec (own := own) (text := text) (index := is) (a := sa) hown' hstr'.1 hstr'.2
    (g := { method := m, pc := pc + 4, locals := ls, stack := .ref T.heap.size :: .ref T.heap.size :: rest, locked := none }) rfl d4' _ hsteps
end Ends
section Bodies
variable {l : Launch}
theorem vx_ofW {y : MethodName} {ws ws' : List Cond} {rm : Room} {Pc : Array Value → State → Prop} {Qc : Array Value → State → Outcome → State → Prop} {XC : String → State → State → Prop} {mc ms : Nat} {free : Addr → Prop} {cc : ByteArray} {maxL : Nat} {ret : Option FieldType}
    (hy : plainName y.cls = true) (hw : ws = Cond.code y cc maxL ret :: ws')
    (body : ∀ p e s m args below meth c s₁, BodyLoose p l y (headSpec ws rm) cc maxL ret e s m args below meth c s₁ → c.maxLocals = maxL → (∀ x ∈ c.exceptionTable.toList, False) → Pc args s →
      W p l e (headSpec ws rm).room s m args below meth c s.heap [] 0 0 (vx_MQ below Qc XC args s mc ms free) (entryFrame m args maxL)) : vx_Met l y ws rm Pc Qc XC mc ms free := by
  refine MetFree.of_bodyS (code := cc) (maxLocals := maxL) (ret := ret) hy ?_ ?_
  · intro args s m h hn
    obtain ⟨meth, c, h1, h2, h3, h4, h5, h6, -, -⟩ := Cond.code_spec hn (atoms_spec (ws := ws) h _ (by rw [hw]; exact List.mem_cons_self))
    exact ⟨meth, c, h1, h2, h3, h4, h5, h6⟩
  · intro p e s m args below meth c s₁ B hml hP _
    have hh0 : s₁.heap = s.heap := by rw [B.state]; rfl
    have ht : ∀ x ∈ c.exceptionTable.toList, False := by
      obtain ⟨meth9, c9, h1, h2, -, -, -, -, h7, -⟩ := Cond.code_spec B.named (atoms_spec (ws := ws) B.pre _ (by rw [hw]; exact List.mem_cons_self))
      cases Option.some.inj (h1.symm.trans B.method)
      cases Option.some.inj (h2.symm.trans (Stand.of_body B).code)
      intro x hx
      rw [Array.isEmpty_iff.mp h7] at hx
      cases hx
    obtain ⟨t, a1, o, b1, b2, b3⟩ := body p e s m args below meth c s₁ B hml ht hP s₁ hh0 (Stand.of_body B)
    exact ⟨t, o, a1, b1, b2, b3⟩
/-- the table of a body with handlers -/
theorem vx_table {p : Program} {x y : MethodName} {S : Spec} {cc bytes : ByteArray} {maxL maxL' : Nat} {ret ret' : Option FieldType} {e : Env} {s s₁ : State} {m : MethodId} {args : Array Value} {below : List Frame} {meth : Method} {c : Code} {hh : List (Nat × Nat × Nat × Nat)}
    (B : BodyLoose p l y S cc maxL ret e s m args below meth c s₁) (h : (Cond.codeWith y bytes maxL' ret' hh).before args s = true) : c.exceptionTable.toList = tableOf hh := by
  obtain ⟨m9, meth9, c9, hn9, h1, h2, -, -, h6, -⟩ := Cond.codeWith_spec h
  cases Option.some.inj (hn9.symm.trans B.named)
  cases Option.some.inj (h1.symm.trans B.method)
  cases Option.some.inj (h2.symm.trans (Stand.of_body B).code)
  rw [← h6, table_eq]
end Bodies
end VXA
/-! ===== END ===== -/
/-! ===== BEGIN a static call of a method with an exception table ===== -/
section VXS
variable {p : Program} {l : Launch} {e : Env} {R : Room} {s : State} {m : MethodId} {args : Array Value} {below : List Frame} {meth : Method} {c : Code} {T : State} {H : Heap} {locs : List Loc} {cells slots : Nat}
abbrev vx_CSW (R : Room) (s : State) (args : Array Value) (own : String) (index : Nat) (y : MethodName) (bytes : ByteArray) (maxL : Nat) (ret : Option FieldType) (hh : List (Nat × Nat × Nat × Nat)) (ws : List Cond) (rm : Room) (mc ms n : Nat) : Prop :=
  (rm.cells = mc ∧ rm.slots = ms ∧ rm.frames + 1 ≤ R.frames ∧ 8 + (maxL + 11) + rm.locals ≤ R.locals ∧ (∀ w ∈ ws, ∀ (a' : Array Value) (U : State), s.WarmedH U.vm → w.before a' U = true) ∧ Cond.codeWith y bytes maxL ret hh ∈ ws) ∧
  (Cond.codeWith y bytes maxL ret hh).before args s = true ∧ (Cond.initialized y.cls).before args s = true ∧ (y.cls ≠ "java/lang/invoke/MethodHandle" ∧ y.cls ≠ "java/lang/invoke/VarHandle") ∧
  (∀ sig, parseMethodDescriptor y.desc = some sig → n = sig.parameters.length) ∧ (Cond.methodLink own index y).before args s = true ∧ (Cond.static y).before args s = true
theorem vx_cwSW {own : String} {index maxL mc ms : Nat} {y : MethodName} {bytes : ByteArray} {ret : Option FieldType} {hh : List (Nat × Nat × Nat × Nat)} {Ts ws ws' : List Cond} {rm : Room} (n : Nat) (ht : ∀ w ∈ Ts, w.before args s = true) (hT : GoodIn Ts (va_wsS own index y ws)) (hw : ws = Cond.codeWith y bytes maxL ret hh :: ws') (hrc : rm.cells = mc) (hrs : rm.slots = ms)
    (hd : y.cls ≠ "java/lang/invoke/MethodHandle" ∧ y.cls ≠ "java/lang/invoke/VarHandle" ∧ (parseMethodDescriptor y.desc).map (fun d => d.parameters.length) = some n) (hR : rm.frames + 1 ≤ R.frames ∧ 8 + (maxL + 11) + rm.locals ≤ R.locals) :
    vx_CSW R s args own index y bytes maxL ret hh ws rm mc ms n := by
  have ok : ∀ w ∈ va_wsS own index y ws, w.before args s = true := fun w h => ht w (hT w h).1
  have hG : GoodIn Ts ws := fun w h => hT w (by unfold va_wsS; exact List.mem_append_right _ h)
  have hc : Cond.codeWith y bytes maxL ret hh ∈ ws := by rw [hw]; exact List.mem_cons_self
  refine ⟨⟨hrc, hrs, hR.1, hR.2, pay_in ht hG, hc⟩, ht _ (hG _ hc).1, ok _ (by simp [va_wsS]), ⟨hd.1, hd.2.1⟩, fun sig h => ?_, ok _ (by simp [va_wsS]), ok _ (by simp [va_wsS])⟩
  have h2 := hd.2.2
  rw [h] at h2
  exact (Option.some.inj h2).symm
theorem vx_callSW (X : Stand p l e R s m args below meth c T locs cells slots) (hexec : p.tables.exec = Jvm.exec) {own : String} {index : Nat} {y : MethodName} {bytes : ByteArray} {maxL : Nat} {ret : Option FieldType} {hh : List (Nat × Nat × Nat × Nat)}
    (hown : s.vm.findClass own = some m.cls) (hlink : (Cond.methodLink own index y).before args s = true) (hstat : (Cond.static y).before args s = true) (hinit : (Cond.initialized y.cls).before args s = true)
    (hcode : (Cond.codeWith y bytes maxL ret hh).before args s = true) (hy : y.cls ≠ "java/lang/invoke/MethodHandle" ∧ y.cls ≠ "java/lang/invoke/VarHandle")
    {W9 : Nat} {Pre : Pt → Array Value → Prop} {Post : Pt → Array Value → Option Value → Pt → Prop} (hK : Back l R p e below s args y 3 W9 Pre Post)
    {g : JFrame} (hg : g.method = m) (hsize : g.locals.size = c.maxLocals) {argsL rest : List Value} (hlen : ∀ sig, parseMethodDescriptor y.desc = some sig → argsL.length = sig.parameters.length)
    (hstack : g.stack = argsL.reverse ++ rest) (hW : 2 * g.monitorRoom + (rest.map fun v => v.category).sum ≤ W9) (hdg : decode c.code g.pc = .ok (.invokestatic index, 3))
    (hpre : ∀ vm₁, s.WarmedH vm₁ → Pre ⟨T.setVm vm₁, locs, cells, slots⟩ argsL.toArray) :
    ∃ (v : Option Value) (vm₁ : Vm) (B : Pt), s.WarmedH vm₁ ∧ Stand p l e R s m args below meth c B.U B.locs B.cells B.slots ∧ Post ⟨T.setVm vm₁, locs, cells, slots⟩ argsL.toArray v B ∧
      ∀ target, Steps p.tables e below (B.U.setTop { g with pc := g.pc + 3, stack := v.toList ++ rest }) target → Steps p.tables e below (T.setTop g) target := by
  obtain ⟨mk, methM, cM, hnamed, hmethM, -, -, -, -, -, -, hsigM⟩ := Cond.codeWith_spec hcode
  have hstatic : methM.isStatic = true := Cond.static_spec hnamed hmethM hstat
  obtain ⟨kP, hkP, -⟩ := className_of_methodNamed hnamed
  have hinitP : kP.init = .initialized := Cond.initialized_spec (findClass_of_methodNamed hnamed) hkP hinit
  obtain ⟨vm₁, X₁, hstep₁⟩ := X.invokestatic hexec hown hlink hnamed hmethM hstatic hkP hinitP hy (g := g) hg (argsL := argsL) (rest := rest) (hlen _ hsigM) hstack hdg
  obtain ⟨v, B, X', hpost, hsteps⟩ := hK m meth c ⟨T.setVm vm₁, locs, cells, slots⟩ { g with stack := rest } (.invokestatic index) mk argsL.toArray X₁ hg hsize hdg hW (X₁.named hnamed) (hpre vm₁ X₁.warmed)
  exact ⟨v, vm₁, B, X₁.warmed, X', hpost, fun target h => hstep₁ _ fun acts => by rw [doInvoke_state]; exact hsteps.trans h⟩
theorem vx_runSW {y : MethodName} {bytes cc : ByteArray} {maxL nL mc ms n index : Nat} {ret : Option FieldType} {hh : List (Nat × Nat × Nat × Nat)} {ws : List Cond} {rm : Room} {Pc : Array Value → State → Prop} {Qc : Array Value → State → Outcome → State → Prop} {free : Addr → Prop} {Ts : List Cond} {own : String} {As rest : List Value} {g : JFrame}
    (S : CallFix p m c cc nL s args Ts own) (hM : Met l y ws rm Pc Qc mc ms free) (cw : vx_CSW R s args own index y bytes maxL ret hh ws rm mc ms n) (hp : PreS s H Pc As)
    (hg : g.method = m) (hn : As.length = n) (hsize : g.locals.size = nL) (hstack : g.stack = As.reverse ++ rest) (hW : 2 * g.monitorRoom + (rest.map fun v => v.category).sum ≤ 8) (hdg : decode cc g.pc = .ok (.invokestatic index, 3)) (hf : cells + mc ≤ R.cells ∧ slots + ms ≤ R.slots) :
    va_Run p l e R s m args below meth c H locs cells slots mc ms g rest (Qc As.toArray) (free) := by
  obtain ⟨⟨hrc, hrs, hfr, hlo, hws, hcw⟩, hcode, hini, hy, hlen, hl, hstt⟩ := cw
  have hK : Back l R p e below s args y 3 8 (PreOf R mc ms Pc) (PostOf Qc mc ms free) := va_backW (hh := hh) (bytes := bytes) (maxL := maxL) (ret := ret) hM hp.1 hrc hrs hfr hlo hws hcw (fun a' U hW => word_at hW (Or.inl (by first | rfl | simp [Cond.onTables, Cond.keeps, Cond.steady])) hini)
  obtain ⟨hx, hb, hml, ho, -⟩ := S
  intro T hT X
  obtain ⟨v, vm₁, ⟨U', l2, c2, s2⟩, hW₁, X', ⟨g', mk, t, L, e1, e2, hq, h1, hL, h2, h3⟩, st⟩ := vx_callSW X hx (hh := hh) (bytes := bytes) (maxL := maxL) (ret := ret) ho hl hstt hini hcode hy hK hg (hsize.trans hml.symm) (argsL := As) (rest := rest) (fun sig h => hn.trans (hlen sig h)) hstack hW (by rw [hb]; exact hdg)
    (fun vm₁ hW₁ => ⟨hf.1, hf.2, hp.2 (T.setVm vm₁) hT hW₁⟩)
  dsimp only [Pt.U, Pt.locs, Pt.cells, Pt.slots] at X' e1 e2 h1 h2 h3 st
  subst h1; subst h2; subst h3
  exact ⟨v, (T.setVm vm₁).calling g' mk As.toArray, t, U', L, hT, X', hL, e1, e2, hq, st⟩
/-- not caught here, past rows that name other classes: it goes on to the caller -/
theorem vx_outP {p : Program} {l : Launch} {e : Env} {R : Room} {s : State} {m : MethodId} {args : Array Value} {below : List Frame} {meth : Method} {c : Code} {H : Heap} {locs : List Loc} {cells slots : Nat} {free : Addr → Prop} {ls : Array Slot} {rest : List Value} {Qc : Array Value → State → Outcome → State → Prop} {XC : String → State → State → Prop}
    {pc : Nat} {own E : String} {ce : Cell} {q : Addr} {mc ms : Nat} (hown : s.vm.findClass own = some m.cls) (hlocks : meth.locks = false)
    (hpass : ∀ z ∈ c.exceptionTable.toList, covers z pc = false ∨ (z.catchType ≠ 0 ∧ ∃ nm : String, (Cond.classLink own z.catchType nm).before args s = true ∧ va_Nc E nm s)) (hcell : H[q]? = some ce) (hv : ce.vm = .none) (hcl : s.vm.findClass E = some ce.cls)
    (hx : ∀ t : State, t.heap = H → s.vm.Alike t.vm → XC E s t) (hf : ∀ z ∈ locs, free z.base) (hc : cells ≤ mc) (hs : slots ≤ ms) :
    vx_W p l e R s m args below meth c H locs cells slots (vx_MQ below Qc XC args s mc ms free) (F0 m pc ls rest) q := by
  intro T hT X
  have hpl : e.platform.magicAccessors = ({} : Platform).magicAccessors := by rw [X.admits.platform]
  obtain ⟨vm', hW', X', st⟩ := X.outThrough hlocks q (g := F0 m pc ls rest) rfl rfl rfl (cell := ce) (by rw [hT]; exact hcell) (by rw [hv]; rfl)
    (by obtain ⟨k9, h9, -⟩ := Vm.findClass_spec hcl; exact ⟨k9, h9⟩) (fun z hz => by
      rcases hpass z hz with h | ⟨hz0, nm, hl1, hn1⟩
      · exact Or.inl h
      · obtain ⟨c6, hc6, hcl6⟩ := Cond.classLink_spec hown hl1 e.platform hpl
        obtain ⟨a8, b8, h1, h2, h3⟩ := hn1
        cases Option.some.inj (h1.symm.trans hcl)
        cases Option.some.inj (h2.symm.trans hc6)
        exact Or.inr ⟨hz0, _, hcl6, h3⟩)
  obtain ⟨g₀, hfr⟩ := X'.frames_eq
  have hcell9 : ((T.setVm vm').setFrames (.throwing q :: below)).heap[q]? = some ce := by
    show T.heap[q]? = some ce
    rw [hT]; exact hcell
  have hend : Ended ((T.setVm vm').setFrames (.throwing q :: below)) below (.threw q) := State.frames_setFrames _ (State.cur_lt_of_frames hfr)
  refine ⟨(T.setVm vm').setFrames (.throwing q :: below), ?_, .threw q, X'.here.running, hend, Or.inr ⟨q, rfl, E, ce, locs, hx _ hT (X'.ends _).1.alike, hcell9, hv, hcl, (X'.ends _).1, (X'.ends _).2.mono hc hs, hf⟩⟩
  rw [X.pushThrowing_eq]
  exact st
/-- a thing of a world lies in the heap -/
theorem vx_lt {D : va_G} {cl : List vw_C} {ws : va_W} {H1 : Heap} (h : va_P D cl ws H1) {k : Nat} {q : Nat × va_E} (hk : ws[k]? = some q) : q.1 < H1.size := (h k q hk).lt
end VXS
/-! ===== END ===== -/
def vx_atN (n : Nat) : List Cond := (Bundle.npeArmAtoms n).filter vx_no
def vx_atM (X : String) (names : List String) : List Cond := (Bundle.messageArmAtoms X names).filter vx_no
/-- the words of a throw whose class's constructor stands at another index -/
def vx_atSX (own : String) (ic : Nat) (X : String) (ix : Nat) (rx : ByteArray) (names : List String) : List Cond := (Bundle.ownAtomsX own ic X ix rx names).filter vx_no
/-! ===== BEGIN printed: names, fields, word lists, decode rows ===== -/
def RX0 : String := "ArenaPlan$Cells"
def TX0 : u_T := fun k => match k with
  | 0 => ("ArenaPlan$Cells", "graph", "LArenaPlan$Graph;", true)
  | 1 => ("ArenaPlan$Cells", "plan", "LArenaPlan$Plan;", true)
  | 2 => ("ArenaPlan$Cells", "places", "LArenaPlan$Places;", true)
  | _ => ("ArenaPlan$Cells", "value", "[I", true)
def tyX0 : Nat → FieldType := fun k => match k with
  | 0 => .object "ArenaPlan$Graph"
  | 1 => .object "ArenaPlan$Plan"
  | 2 => .object "ArenaPlan$Places"
  | _ => .array .int
abbrev wsX00 : List Cond := u_ws RX0 TX0 4
theorem nmX0 : ∀ a, a < 4 → ∀ b, b < 4 → a ≠ b → (TX0 a).2.1 ≠ (TX0 b).2.1 := by decide +kernel
theorem tyX0_ok : ∀ k, k < 4 → parseFieldDescriptor (TX0 k).2.2.1 = some (tyX0 k) := by decide +kernel
abbrev cX0_init : ByteArray := prog_2_method_1_code
def yX0_init : MethodName := ⟨RX0, "<init>", "(LArenaPlan$Places;)V"⟩
abbrev cX0_work : ByteArray := prog_2_method_2_code
def yX0_work : MethodName := ⟨RX0, "work", "()I"⟩
abbrev cX0_workOut : ByteArray := prog_2_method_3_code
def yX0_workOut : MethodName := ⟨RX0, "workOut", "(II)I"⟩
abbrev cX0_valueOf : ByteArray := prog_2_method_4_code
def yX0_valueOf : MethodName := ⟨RX0, "valueOf", "(II)I"⟩
abbrev cX0_totalOf : ByteArray := prog_2_method_5_code
def yX0_totalOf : MethodName := ⟨RX0, "totalOf", "(I)I"⟩
def RX1 : String := "ArenaPlan$Graph"
def TX1 : u_T := fun k => match k with
  | 0 => ("ArenaPlan$Graph", "operation", "[I", true)
  | 1 => ("ArenaPlan$Graph", "p", "[I", true)
  | 2 => ("ArenaPlan$Graph", "q", "[I", true)
  | 3 => ("ArenaPlan$Graph", "given", "[[I", true)
  | 4 => ("ArenaPlan$Graph", "source", "[[I", true)
  | 5 => ("ArenaPlan$Graph", "kept", "[Z", true)
  | _ => ("ArenaPlan$Graph", "count", "I", false)
def tyX1 : Nat → FieldType := fun k => match k with
  | 0 => .array .int
  | 1 => .array .int
  | 2 => .array .int
  | 3 => .array (.array .int)
  | 4 => .array (.array .int)
  | 5 => .array .boolean
  | _ => .int
abbrev wsX10 : List Cond := u_ws RX1 TX1 7
theorem nmX1 : ∀ a, a < 7 → ∀ b, b < 7 → a ≠ b → (TX1 a).2.1 ≠ (TX1 b).2.1 := by decide +kernel
theorem tyX1_ok : ∀ k, k < 7 → parseFieldDescriptor (TX1 k).2.2.1 = some (tyX1 k) := by decide +kernel
abbrev cX1_init : ByteArray := prog_3_method_1_code
def yX1_init : MethodName := ⟨RX1, "<init>", "()V"⟩
abbrev cX1_has : ByteArray := prog_3_method_2_code
def yX1_has : MethodName := ⟨RX1, "has", "(I)Z"⟩
abbrev cX1_inputs : ByteArray := prog_3_method_3_code
def yX1_inputs : MethodName := ⟨RX1, "inputs", "(I)I"⟩
abbrev cX1_add : ByteArray := prog_3_method_4_code
def yX1_add : MethodName := ⟨RX1, "add", "(III)I"⟩
abbrev cX1_isWired : ByteArray := prog_3_method_5_code
def yX1_isWired : MethodName := ⟨RX1, "isWired", "()Z"⟩
abbrev cX1_dependencies : ByteArray := prog_3_method_6_code
def yX1_dependencies : MethodName := ⟨RX1, "dependencies", "(I)I"⟩
def RX2 : String := "ArenaPlan$LeastPeak"
def TX2 : u_T := fun k => match k with
  | 0 => ("ArenaPlan$LeastPeak", "plan", "LArenaPlan$Plan;", true)
  | _ => ("ArenaPlan$LeastPeak", "peakOf", "[I", true)
def tyX2 : Nat → FieldType := fun k => match k with
  | 0 => .object "ArenaPlan$Plan"
  | _ => .array .int
abbrev wsX20 : List Cond := u_ws RX2 TX2 2
theorem nmX2 : ∀ a, a < 2 → ∀ b, b < 2 → a ≠ b → (TX2 a).2.1 ≠ (TX2 b).2.1 := by decide +kernel
theorem tyX2_ok : ∀ k, k < 2 → parseFieldDescriptor (TX2 k).2.2.1 = some (tyX2 k) := by decide +kernel
abbrev cX2_init : ByteArray := prog_4_method_1_code
def yX2_init : MethodName := ⟨RX2, "<init>", "(LArenaPlan$Plan;)V"⟩
abbrev cX2_find : ByteArray := prog_4_method_2_code
def yX2_find : MethodName := ⟨RX2, "find", "()I"⟩
abbrev cX2_goOn : ByteArray := prog_4_method_3_code
def yX2_goOn : MethodName := ⟨RX2, "goOn", "(I)V"⟩
abbrev cX2_heldAfter : ByteArray := prog_4_method_4_code
def yX2_heldAfter : MethodName := ⟨RX2, "heldAfter", "(I)I"⟩
def RX3 : String := "ArenaPlan$Places"
def TX3 : u_T := fun k => match k with
  | 0 => ("ArenaPlan$Places", "plan", "LArenaPlan$Plan;", true)
  | 1 => ("ArenaPlan$Places", "bySize", "[I", true)
  | 2 => ("ArenaPlan$Places", "start", "[I", true)
  | _ => ("ArenaPlan$Places", "arena", "I", false)
def tyX3 : Nat → FieldType := fun k => match k with
  | 0 => .object "ArenaPlan$Plan"
  | 1 => .array .int
  | 2 => .array .int
  | _ => .int
abbrev wsX30 : List Cond := u_ws RX3 TX3 4
theorem nmX3 : ∀ a, a < 4 → ∀ b, b < 4 → a ≠ b → (TX3 a).2.1 ≠ (TX3 b).2.1 := by decide +kernel
theorem tyX3_ok : ∀ k, k < 4 → parseFieldDescriptor (TX3 k).2.2.1 = some (tyX3 k) := by decide +kernel
abbrev cX3_init : ByteArray := prog_5_method_1_code
def yX3_init : MethodName := ⟨RX3, "<init>", "(LArenaPlan$Plan;)V"⟩
abbrev cX3_assign : ByteArray := prog_5_method_2_code
def yX3_assign : MethodName := ⟨RX3, "assign", "()V"⟩
abbrev cX3_sortBySize : ByteArray := prog_5_method_3_code
def yX3_sortBySize : MethodName := ⟨RX3, "sortBySize", "()V"⟩
abbrev cX3_lowestStart : ByteArray := prog_5_method_4_code
def yX3_lowestStart : MethodName := ⟨RX3, "lowestStart", "(I)I"⟩
abbrev cX3_isInTheWay : ByteArray := prog_5_method_5_code
def yX3_isInTheWay : MethodName := ⟨RX3, "isInTheWay", "(III)Z"⟩
abbrev cX3_end : ByteArray := prog_5_method_6_code
def yX3_end : MethodName := ⟨RX3, "end", "(I)I"⟩
def RX4 : String := "ArenaPlan$Plan"
def TX4 : u_T := fun k => match k with
  | 0 => ("ArenaPlan$Plan", "graph", "LArenaPlan$Graph;", true)
  | 1 => ("ArenaPlan$Plan", "dependencies", "[I", true)
  | 2 => ("ArenaPlan$Plan", "dependents", "[I", true)
  | 3 => ("ArenaPlan$Plan", "size", "[I", true)
  | 4 => ("ArenaPlan$Plan", "label", "[I", true)
  | 5 => ("ArenaPlan$Plan", "sequence", "[I", true)
  | 6 => ("ArenaPlan$Plan", "step", "[I", true)
  | 7 => ("ArenaPlan$Plan", "last", "[I", true)
  | 8 => ("ArenaPlan$Plan", "costOf", "[I", true)
  | 9 => ("ArenaPlan$Plan", "inOrder", "I", false)
  | 10 => ("ArenaPlan$Plan", "length", "I", false)
  | _ => ("ArenaPlan$Plan", "greatestCost", "I", false)
def tyX4 : Nat → FieldType := fun k => match k with
  | 0 => .object "ArenaPlan$Graph"
  | 1 => .array .int
  | 2 => .array .int
  | 3 => .array .int
  | 4 => .array .int
  | 5 => .array .int
  | 6 => .array .int
  | 7 => .array .int
  | 8 => .array .int
  | 9 => .int
  | 10 => .int
  | _ => .int
abbrev wsX40 : List Cond := u_ws RX4 TX4 12
theorem nmX4 : ∀ a, a < 12 → ∀ b, b < 12 → a ≠ b → (TX4 a).2.1 ≠ (TX4 b).2.1 := by decide +kernel
theorem tyX4_ok : ∀ k, k < 12 → parseFieldDescriptor (TX4 k).2.2.1 = some (tyX4 k) := by decide +kernel
abbrev cX4_init : ByteArray := prog_6_method_1_code
def yX4_init : MethodName := ⟨RX4, "<init>", "(LArenaPlan$Graph;)V"⟩
abbrev cX4_measure : ByteArray := prog_6_method_2_code
def yX4_measure : MethodName := ⟨RX4, "measure", "()Z"⟩
abbrev cX4_arrange : ByteArray := prog_6_method_3_code
def yX4_arrange : MethodName := ⟨RX4, "arrange", "(I)V"⟩
abbrev cX4_liveTogether : ByteArray := prog_6_method_4_code
def yX4_liveTogether : MethodName := ⟨RX4, "liveTogether", "(II)Z"⟩
abbrev cX4_findNeighbours : ByteArray := prog_6_method_5_code
def yX4_findNeighbours : MethodName := ⟨RX4, "findNeighbours", "()V"⟩
abbrev cX4_sizeOfSource : ByteArray := prog_6_method_6_code
def yX4_sizeOfSource : MethodName := ⟨RX4, "sizeOfSource", "(II)I"⟩
abbrev cX4_sizesFit : ByteArray := prog_6_method_7_code
def yX4_sizesFit : MethodName := ⟨RX4, "sizesFit", "(I)Z"⟩
abbrev cX4_sizeOf : ByteArray := prog_6_method_8_code
def yX4_sizeOf : MethodName := ⟨RX4, "sizeOf", "(I)I"⟩
abbrev cX4_labelOf : ByteArray := prog_6_method_9_code
def yX4_labelOf : MethodName := ⟨RX4, "labelOf", "(I)I"⟩
abbrev cX4_beginOrder : ByteArray := prog_6_method_10_code
def yX4_beginOrder : MethodName := ⟨RX4, "beginOrder", "()V"⟩
abbrev cX4_append : ByteArray := prog_6_method_11_code
def yX4_append : MethodName := ⟨RX4, "append", "(I)V"⟩
abbrev cX4_orderByNumbers : ByteArray := prog_6_method_12_code
def yX4_orderByNumbers : MethodName := ⟨RX4, "orderByNumbers", "()V"⟩
abbrev cX4_leastReady : ByteArray := prog_6_method_13_code
def yX4_leastReady : MethodName := ⟨RX4, "leastReady", "()I"⟩
abbrev cX4_isReady : ByteArray := prog_6_method_14_code
def yX4_isReady : MethodName := ⟨RX4, "isReady", "(I)Z"⟩
abbrev cX4_isMissing : ByteArray := prog_6_method_15_code
def yX4_isMissing : MethodName := ⟨RX4, "isMissing", "(I)Z"⟩
abbrev cX4_orderByLabels : ByteArray := prog_6_method_16_code
def yX4_orderByLabels : MethodName := ⟨RX4, "orderByLabels", "()V"⟩
abbrev cX4_visit : ByteArray := prog_6_method_17_code
def yX4_visit : MethodName := ⟨RX4, "visit", "(I)V"⟩
abbrev cX4_firstDue : ByteArray := prog_6_method_18_code
def yX4_firstDue : MethodName := ⟨RX4, "firstDue", "(I)I"⟩
abbrev cX4_sourceToVisit : ByteArray := prog_6_method_19_code
def yX4_sourceToVisit : MethodName := ⟨RX4, "sourceToVisit", "(I)I"⟩
abbrev cX4_lastStepOf : ByteArray := prog_6_method_20_code
def yX4_lastStepOf : MethodName := ⟨RX4, "lastStepOf", "(I)I"⟩
abbrev cX4_addCosts : ByteArray := prog_6_method_21_code
def yX4_addCosts : MethodName := ⟨RX4, "addCosts", "()V"⟩
def RX5 : String := "ArenaPlan$Rings"
def TX5 : u_T := fun k => match k with
  | 0 => ("ArenaPlan$Rings", "graph", "LArenaPlan$Graph;", true)
  | 1 => ("ArenaPlan$Rings", "reach", "[I", true)
  | 2 => ("ArenaPlan$Rings", "stepsLeft", "[I", true)
  | 3 => ("ArenaPlan$Rings", "member", "[I", true)
  | _ => ("ArenaPlan$Rings", "length", "I", false)
def tyX5 : Nat → FieldType := fun k => match k with
  | 0 => .object "ArenaPlan$Graph"
  | 1 => .array .int
  | 2 => .array .int
  | 3 => .array .int
  | _ => .int
abbrev wsX50 : List Cond := u_ws RX5 TX5 5
theorem nmX5 : ∀ a, a < 5 → ∀ b, b < 5 → a ≠ b → (TX5 a).2.1 ≠ (TX5 b).2.1 := by decide +kernel
theorem tyX5_ok : ∀ k, k < 5 → parseFieldDescriptor (TX5 k).2.2.1 = some (tyX5 k) := by decide +kernel
abbrev cX5_init : ByteArray := prog_7_method_1_code
def yX5_init : MethodName := ⟨RX5, "<init>", "(LArenaPlan$Graph;)V"⟩
abbrev cX5_find : ByteArray := prog_7_method_2_code
def yX5_find : MethodName := ⟨RX5, "find", "()V"⟩
abbrev cX5_findReach : ByteArray := prog_7_method_3_code
def yX5_findReach : MethodName := ⟨RX5, "findReach", "()V"⟩
abbrev cX5_countSteps : ByteArray := prog_7_method_4_code
def yX5_countSteps : MethodName := ⟨RX5, "countSteps", "(I)V"⟩
abbrev cX5_follow : ByteArray := prog_7_method_5_code
def yX5_follow : MethodName := ⟨RX5, "follow", "(I)V"⟩
abbrev cX5_nearest : ByteArray := prog_7_method_6_code
def yX5_nearest : MethodName := ⟨RX5, "nearest", "(I)I"⟩
def RX6 : String := "ArenaPlan"
def TX6 : u_T := fun k => match k with
  | 0 => ("ArenaPlan", "graph", "LArenaPlan$Graph;", true)
  | 1 => ("ArenaPlan", "rings", "LArenaPlan$Rings;", true)
  | 2 => ("ArenaPlan", "plan", "LArenaPlan$Plan;", true)
  | 3 => ("ArenaPlan", "places", "LArenaPlan$Places;", true)
  | 4 => ("ArenaPlan", "cells", "LArenaPlan$Cells;", true)
  | 5 => ("ArenaPlan", "search", "LArenaPlan$LeastPeak;", true)
  | 6 => ("ArenaPlan", "planned", "Z", false)
  | 7 => ("ArenaPlan", "ran", "Z", false)
  | _ => ("ArenaPlan", "leastPeak", "I", false)
def tyX6 : Nat → FieldType := fun k => match k with
  | 0 => .object "ArenaPlan$Graph"
  | 1 => .object "ArenaPlan$Rings"
  | 2 => .object "ArenaPlan$Plan"
  | 3 => .object "ArenaPlan$Places"
  | 4 => .object "ArenaPlan$Cells"
  | 5 => .object "ArenaPlan$LeastPeak"
  | 6 => .boolean
  | 7 => .boolean
  | _ => .int
abbrev wsX60 : List Cond := u_ws RX6 TX6 9
theorem nmX6 : ∀ a, a < 9 → ∀ b, b < 9 → a ≠ b → (TX6 a).2.1 ≠ (TX6 b).2.1 := by decide +kernel
theorem tyX6_ok : ∀ k, k < 9 → parseFieldDescriptor (TX6 k).2.2.1 = some (tyX6 k) := by decide +kernel
abbrev cX6_init : ByteArray := prog_1_method_1_code
def yX6_init : MethodName := ⟨RX6, "<init>", "()V"⟩
abbrev cX6_make : ByteArray := prog_1_method_2_code
def yX6_make : MethodName := ⟨RX6, "make", "(III)I"⟩
abbrev cX6_give : ByteArray := prog_1_method_3_code
def yX6_give : MethodName := ⟨RX6, "give", "(III)Z"⟩
abbrev cX6_wire : ByteArray := prog_1_method_4_code
def yX6_wire : MethodName := ⟨RX6, "wire", "(III)Z"⟩
abbrev cX6_keep : ByteArray := prog_1_method_5_code
def yX6_keep : MethodName := ⟨RX6, "keep", "(IZ)Z"⟩
abbrev cX6_nodes : ByteArray := prog_1_method_6_code
def yX6_nodes : MethodName := ⟨RX6, "nodes", "()I"⟩
abbrev cX6_ring : ByteArray := prog_1_method_7_code
def yX6_ring : MethodName := ⟨RX6, "ring", "(I)I"⟩
abbrev cX6_plan : ByteArray := prog_1_method_8_code
def yX6_plan : MethodName := ⟨RX6, "plan", "(I)I"⟩
abbrev cX6_order : ByteArray := prog_1_method_9_code
def yX6_order : MethodName := ⟨RX6, "order", "(I)I"⟩
abbrev cX6_about : ByteArray := prog_1_method_10_code
def yX6_about : MethodName := ⟨RX6, "about", "(II)I"⟩
abbrev cX6_cost : ByteArray := prog_1_method_11_code
def yX6_cost : MethodName := ⟨RX6, "cost", "(I)I"⟩
abbrev cX6_peak : ByteArray := prog_1_method_12_code
def yX6_peak : MethodName := ⟨RX6, "peak", "()I"⟩
abbrev cX6_least : ByteArray := prog_1_method_13_code
def yX6_least : MethodName := ⟨RX6, "least", "()I"⟩
abbrev cX6_run : ByteArray := prog_1_method_14_code
def yX6_run : MethodName := ⟨RX6, "run", "()I"⟩
abbrev cX6_cell : ByteArray := prog_1_method_15_code
def yX6_cell : MethodName := ⟨RX6, "cell", "(I)I"⟩
abbrev cX6_result : ByteArray := prog_1_method_16_code
def yX6_result : MethodName := ⟨RX6, "result", "(II)I"⟩
abbrev cX6_forgetPlan : ByteArray := prog_1_method_17_code
def yX6_forgetPlan : MethodName := ⟨RX6, "forgetPlan", "()V"⟩
abbrev cX6_needPlan : ByteArray := prog_1_method_18_code
def yX6_needPlan : MethodName := ⟨RX6, "needPlan", "()V"⟩
abbrev cX6_needRun : ByteArray := prog_1_method_19_code
def yX6_needRun : MethodName := ⟨RX6, "needRun", "()V"⟩
abbrev cX6_needWithin : ByteArray := prog_1_method_20_code
def yX6_needWithin : MethodName := ⟨RX6, "needWithin", "(II)V"⟩
abbrev cX6_isWithin : ByteArray := prog_1_method_21_code
def yX6_isWithin : MethodName := ⟨RX6, "isWithin", "(II)Z"⟩
abbrev cX6_canBeMade : ByteArray := prog_1_method_22_code
def yX6_canBeMade : MethodName := ⟨RX6, "canBeMade", "(III)Z"⟩
abbrev cX6_setOf : ByteArray := prog_1_method_23_code
def yX6_setOf : MethodName := ⟨RX6, "setOf", "(I)I"⟩
abbrev cX6_contains : ByteArray := prog_1_method_24_code
def yX6_contains : MethodName := ⟨RX6, "contains", "(II)Z"⟩
abbrev cX6_isPartOf : ByteArray := prog_1_method_25_code
def yX6_isPartOf : MethodName := ⟨RX6, "isPartOf", "(II)Z"⟩
def RX7 : String := "ArenaPlanModel"
def TX7 : u_T := fun k => match k with
  | 0 => ("ArenaPlanModel", "thrown", "I", false)
  | 1 => ("ArenaPlanModel", "count", "I", false)
  | 2 => ("ArenaPlanModel", "operation", "[I", true)
  | 3 => ("ArenaPlanModel", "first", "[I", true)
  | 4 => ("ArenaPlanModel", "second", "[I", true)
  | 5 => ("ArenaPlanModel", "source", "[I", true)
  | 6 => ("ArenaPlanModel", "kept", "[Z", true)
  | 7 => ("ArenaPlanModel", "given", "[I", true)
  | 8 => ("ArenaPlanModel", "distance", "[I", true)
  | 9 => ("ArenaPlanModel", "ringSize", "I", false)
  | 10 => ("ArenaPlanModel", "ring", "[I", true)
  | 11 => ("ArenaPlanModel", "planned", "Z", false)
  | 12 => ("ArenaPlanModel", "way", "I", false)
  | 13 => ("ArenaPlanModel", "size", "[I", true)
  | 14 => ("ArenaPlanModel", "label", "[I", true)
  | 15 => ("ArenaPlanModel", "order", "[I", true)
  | 16 => ("ArenaPlanModel", "step", "[I", true)
  | 17 => ("ArenaPlanModel", "until", "[I", true)
  | 18 => ("ArenaPlanModel", "place", "[I", true)
  | 19 => ("ArenaPlanModel", "placed", "I", false)
  | 20 => ("ArenaPlanModel", "arena", "I", false)
  | 21 => ("ArenaPlanModel", "least", "I", false)
  | 22 => ("ArenaPlanModel", "newSize", "[I", true)
  | 23 => ("ArenaPlanModel", "sized", "[Z", true)
  | 24 => ("ArenaPlanModel", "stack", "[I", true)
  | 25 => ("ArenaPlanModel", "top", "I", false)
  | 26 => ("ArenaPlanModel", "best", "[I", true)
  | 27 => ("ArenaPlanModel", "ran", "Z", false)
  | 28 => ("ArenaPlanModel", "cells", "[I", true)
  | _ => ("ArenaPlanModel", "value", "[I", true)
def tyX7 : Nat → FieldType := fun k => match k with
  | 0 => .int
  | 1 => .int
  | 2 => .array .int
  | 3 => .array .int
  | 4 => .array .int
  | 5 => .array .int
  | 6 => .array .boolean
  | 7 => .array .int
  | 8 => .array .int
  | 9 => .int
  | 10 => .array .int
  | 11 => .boolean
  | 12 => .int
  | 13 => .array .int
  | 14 => .array .int
  | 15 => .array .int
  | 16 => .array .int
  | 17 => .array .int
  | 18 => .array .int
  | 19 => .int
  | 20 => .int
  | 21 => .int
  | 22 => .array .int
  | 23 => .array .boolean
  | 24 => .array .int
  | 25 => .int
  | 26 => .array .int
  | 27 => .boolean
  | 28 => .array .int
  | _ => .array .int
abbrev wsX70 : List Cond := u_ws RX7 TX7 30
theorem nmX7 : ∀ a, a < 30 → ∀ b, b < 30 → a ≠ b → (TX7 a).2.1 ≠ (TX7 b).2.1 := by decide +kernel
theorem tyX7_ok : ∀ k, k < 30 → parseFieldDescriptor (TX7 k).2.2.1 = some (tyX7 k) := by decide +kernel
abbrev cX7_init : ByteArray := prog_9_method_1_code
def yX7_init : MethodName := ⟨RX7, "<init>", "()V"⟩
abbrev cX7_thrown : ByteArray := prog_9_method_2_code
def yX7_thrown : MethodName := ⟨RX7, "thrown", "()I"⟩
abbrev cX7_fail : ByteArray := prog_9_method_3_code
def yX7_fail : MethodName := ⟨RX7, "fail", "(I)I"⟩
abbrev cX7_inputs : ByteArray := prog_9_method_4_code
def yX7_inputs : MethodName := ⟨RX7, "inputs", "(I)I"⟩
abbrev cX7_isNode : ByteArray := prog_9_method_5_code
def yX7_isNode : MethodName := ⟨RX7, "isNode", "(I)Z"⟩
abbrev cX7_within : ByteArray := prog_9_method_6_code
def yX7_within : MethodName := ⟨RX7, "within", "(III)Z"⟩
abbrev cX7_make : ByteArray := prog_9_method_7_code
def yX7_make : MethodName := ⟨RX7, "make", "(III)I"⟩
abbrev cX7_give : ByteArray := prog_9_method_8_code
def yX7_give : MethodName := ⟨RX7, "give", "(III)Z"⟩
abbrev cX7_wire : ByteArray := prog_9_method_9_code
def yX7_wire : MethodName := ⟨RX7, "wire", "(III)Z"⟩
abbrev cX7_keep : ByteArray := prog_9_method_10_code
def yX7_keep : MethodName := ⟨RX7, "keep", "(IZ)Z"⟩
abbrev cX7_nodes : ByteArray := prog_9_method_11_code
def yX7_nodes : MethodName := ⟨RX7, "nodes", "()I"⟩
abbrev cX7_far : ByteArray := prog_9_method_12_code
def yX7_far : MethodName := ⟨RX7, "far", "(I)I"⟩
abbrev cX7_measure : ByteArray := prog_9_method_13_code
def yX7_measure : MethodName := ⟨RX7, "measure", "(I)V"⟩
abbrev cX7_nearest : ByteArray := prog_9_method_14_code
def yX7_nearest : MethodName := ⟨RX7, "nearest", "(I)I"⟩
abbrev cX7_findRing : ByteArray := prog_9_method_15_code
def yX7_findRing : MethodName := ⟨RX7, "findRing", "()V"⟩
abbrev cX7_ring : ByteArray := prog_9_method_16_code
def yX7_ring : MethodName := ⟨RX7, "ring", "(I)I"⟩
abbrev cX7_isWired : ByteArray := prog_9_method_17_code
def yX7_isWired : MethodName := ⟨RX7, "isWired", "()Z"⟩
abbrev cX7_sizeOf : ByteArray := prog_9_method_18_code
def yX7_sizeOf : MethodName := ⟨RX7, "sizeOf", "(I)I"⟩
abbrev cX7_isReady : ByteArray := prog_9_method_19_code
def yX7_isReady : MethodName := ⟨RX7, "isReady", "(I)Z"⟩
abbrev cX7_labelOf : ByteArray := prog_9_method_20_code
def yX7_labelOf : MethodName := ⟨RX7, "labelOf", "(I)V"⟩
abbrev cX7_findSizes : ByteArray := prog_9_method_21_code
def yX7_findSizes : MethodName := ⟨RX7, "findSizes", "()Z"⟩
abbrev cX7_come : ByteArray := prog_9_method_22_code
def yX7_come : MethodName := ⟨RX7, "come", "(I)V"⟩
abbrev cX7_isThere : ByteArray := prog_9_method_23_code
def yX7_isThere : MethodName := ⟨RX7, "isThere", "(I)Z"⟩
abbrev cX7_isFree : ByteArray := prog_9_method_24_code
def yX7_isFree : MethodName := ⟨RX7, "isFree", "(I)Z"⟩
abbrev cX7_orderByNumbers : ByteArray := prog_9_method_25_code
def yX7_orderByNumbers : MethodName := ⟨RX7, "orderByNumbers", "()V"⟩
abbrev cX7_isUsed : ByteArray := prog_9_method_26_code
def yX7_isUsed : MethodName := ⟨RX7, "isUsed", "(I)Z"⟩
abbrev cX7_due : ByteArray := prog_9_method_27_code
def yX7_due : MethodName := ⟨RX7, "due", "(I)I"⟩
abbrev cX7_visit : ByteArray := prog_9_method_28_code
def yX7_visit : MethodName := ⟨RX7, "visit", "(I)V"⟩
abbrev cX7_orderByLabels : ByteArray := prog_9_method_29_code
def yX7_orderByLabels : MethodName := ⟨RX7, "orderByLabels", "()V"⟩
abbrev cX7_findLives : ByteArray := prog_9_method_30_code
def yX7_findLives : MethodName := ⟨RX7, "findLives", "()V"⟩
abbrev cX7_fits : ByteArray := prog_9_method_31_code
def yX7_fits : MethodName := ⟨RX7, "fits", "(II)Z"⟩
abbrev cX7_findPlaces : ByteArray := prog_9_method_32_code
def yX7_findPlaces : MethodName := ⟨RX7, "findPlaces", "()V"⟩
abbrev cX7_plan : ByteArray := prog_9_method_33_code
def yX7_plan : MethodName := ⟨RX7, "plan", "(I)I"⟩
abbrev cX7_order : ByteArray := prog_9_method_34_code
def yX7_order : MethodName := ⟨RX7, "order", "(I)I"⟩
abbrev cX7_about : ByteArray := prog_9_method_35_code
def yX7_about : MethodName := ⟨RX7, "about", "(II)I"⟩
abbrev cX7_costOf : ByteArray := prog_9_method_36_code
def yX7_costOf : MethodName := ⟨RX7, "costOf", "(I)I"⟩
abbrev cX7_cost : ByteArray := prog_9_method_37_code
def yX7_cost : MethodName := ⟨RX7, "cost", "(I)I"⟩
abbrev cX7_peak : ByteArray := prog_9_method_38_code
def yX7_peak : MethodName := ⟨RX7, "peak", "()I"⟩
abbrev cX7_needed : ByteArray := prog_9_method_39_code
def yX7_needed : MethodName := ⟨RX7, "needed", "(I)I"⟩
abbrev cX7_users : ByteArray := prog_9_method_40_code
def yX7_users : MethodName := ⟨RX7, "users", "(I)I"⟩
abbrev cX7_stays : ByteArray := prog_9_method_41_code
def yX7_stays : MethodName := ⟨RX7, "stays", "(I)I"⟩
abbrev cX7_findLeast : ByteArray := prog_9_method_42_code
def yX7_findLeast : MethodName := ⟨RX7, "findLeast", "()V"⟩
abbrev cX7_least : ByteArray := prog_9_method_43_code
def yX7_least : MethodName := ⟨RX7, "least", "()I"⟩
abbrev cX7_work : ByteArray := prog_9_method_44_code
def yX7_work : MethodName := ⟨RX7, "work", "(I)V"⟩
abbrev cX7_run : ByteArray := prog_9_method_45_code
def yX7_run : MethodName := ⟨RX7, "run", "()I"⟩
abbrev cX7_cell : ByteArray := prog_9_method_46_code
def yX7_cell : MethodName := ⟨RX7, "cell", "(I)I"⟩
abbrev cX7_result : ByteArray := prog_9_method_47_code
def yX7_result : MethodName := ⟨RX7, "result", "(II)I"⟩
def RJx145de : String := "java/io/Serializable"
def TJx145de : u_T := fun k => match k with
  | _ => ("", "", "", false)
def tyJx145de : Nat → FieldType := fun k => match k with
  | _ => .int
abbrev wsJx145de0 : List Cond := u_ws RJx145de TJx145de 0
theorem nmJx145de : ∀ a, a < 0 → ∀ b, b < 0 → a ≠ b → (TJx145de a).2.1 ≠ (TJx145de b).2.1 := by decide +kernel
theorem tyJx145de_ok : ∀ k, k < 0 → parseFieldDescriptor (TJx145de k).2.2.1 = some (tyJx145de k) := by decide +kernel
def RJx00060 : String := "java/lang/ArrayIndexOutOfBoundsException"
def TJx00060 : u_T := fun k => match k with
  | 0 => ("java/lang/Throwable", "backtrace", "Ljava/lang/Object;", false)
  | 1 => ("java/lang/Throwable", "detailMessage", "Ljava/lang/String;", false)
  | 2 => ("java/lang/Throwable", "cause", "Ljava/lang/Throwable;", false)
  | 3 => ("java/lang/Throwable", "stackTrace", "[Ljava/lang/StackTraceElement;", false)
  | 4 => ("java/lang/Throwable", "depth", "I", false)
  | _ => ("java/lang/Throwable", "suppressedExceptions", "Ljava/util/List;", false)
def tyJx00060 : Nat → FieldType := fun k => match k with
  | 0 => .object "java/lang/Object"
  | 1 => .object "java/lang/String"
  | 2 => .object "java/lang/Throwable"
  | 3 => .array (.object "java/lang/StackTraceElement")
  | 4 => .int
  | _ => .object "java/util/List"
abbrev wsJx000600 : List Cond := u_ws RJx00060 TJx00060 6
theorem nmJx00060 : ∀ a, a < 6 → ∀ b, b < 6 → a ≠ b → (TJx00060 a).2.1 ≠ (TJx00060 b).2.1 := by decide +kernel
theorem tyJx00060_ok : ∀ k, k < 6 → parseFieldDescriptor (TJx00060 k).2.2.1 = some (tyJx00060 k) := by decide +kernel
abbrev cJx00060_init_a7421 : ByteArray := prog_12_method_2_code
def yJx00060_init_a7421 : MethodName := ⟨RJx00060, "<init>", "(Ljava/lang/String;)V"⟩
def RJ9 : String := "java/lang/Math"
def TJ9 : u_T := fun k => match k with
  | _ => ("", "", "", false)
def tyJ9 : Nat → FieldType := fun k => match k with
  | _ => .int
abbrev wsJ90 : List Cond := u_ws RJ9 TJ9 0
theorem nmJ9 : ∀ a, a < 0 → ∀ b, b < 0 → a ≠ b → (TJ9 a).2.1 ≠ (TJ9 b).2.1 := by decide +kernel
theorem tyJ9_ok : ∀ k, k < 0 → parseFieldDescriptor (TJ9 k).2.2.1 = some (tyJ9 k) := by decide +kernel
abbrev cJ9_max_7cf53 : ByteArray := prog_17_method_65_code
def yJ9_max_7cf53 : MethodName := ⟨RJ9, "max", "(II)I"⟩
abbrev cJ9_min_7cf53 : ByteArray := prog_17_method_69_code
def yJ9_min_7cf53 : MethodName := ⟨RJ9, "min", "(II)I"⟩
def RJ0 : String := "java/lang/String"
def TJ0 : u_T := fun k => match k with
  | 0 => ("java/lang/String", "value", "[B", true)
  | _ => ("java/lang/String", "coder", "B", true)
def tyJ0 : Nat → FieldType := fun k => match k with
  | 0 => .array .byte
  | _ => .byte
abbrev wsJ00 : List Cond := u_ws RJ0 TJ0 2
theorem nmJ0 : ∀ a, a < 2 → ∀ b, b < 2 → a ≠ b → (TJ0 a).2.1 ≠ (TJ0 b).2.1 := by decide +kernel
theorem tyJ0_ok : ∀ k, k < 2 → parseFieldDescriptor (TJ0 k).2.2.1 = some (tyJ0 k) := by decide +kernel
def RJ7 : String := "java/util/Arrays"
def TJ7 : u_T := fun k => match k with
  | _ => ("", "", "", false)
def tyJ7 : Nat → FieldType := fun k => match k with
  | _ => .int
abbrev wsJ70 : List Cond := u_ws RJ7 TJ7 0
theorem nmJ7 : ∀ a, a < 0 → ∀ b, b < 0 → a ≠ b → (TJ7 a).2.1 ≠ (TJ7 b).2.1 := by decide +kernel
theorem tyJ7_ok : ∀ k, k < 0 → parseFieldDescriptor (TJ7 k).2.2.1 = some (tyJ7 k) := by decide +kernel
abbrev cJ7_fill_53178 : ByteArray := prog_22_method_103_code
def yJ7_fill_53178 : MethodName := ⟨RJ7, "fill", "([II)V"⟩
def RL : String := "ArenaPlanLaw"
abbrev cL_make : ByteArray := method_3_code
def yL_make : MethodName := ⟨RL, "make", "(LArenaPlan;III[J)I"⟩
abbrev cL_ring : ByteArray := method_4_code
def yL_ring : MethodName := ⟨RL, "ring", "(LArenaPlan;I[J)I"⟩
abbrev cL_plan : ByteArray := method_5_code
def yL_plan : MethodName := ⟨RL, "plan", "(LArenaPlan;I[J)I"⟩
abbrev cL_order : ByteArray := method_6_code
def yL_order : MethodName := ⟨RL, "order", "(LArenaPlan;I[J)I"⟩
abbrev cL_about : ByteArray := method_7_code
def yL_about : MethodName := ⟨RL, "about", "(LArenaPlan;II[J)I"⟩
abbrev cL_cost : ByteArray := method_8_code
def yL_cost : MethodName := ⟨RL, "cost", "(LArenaPlan;I[J)I"⟩
abbrev cL_peak : ByteArray := method_9_code
def yL_peak : MethodName := ⟨RL, "peak", "(LArenaPlan;[J)I"⟩
abbrev cL_least : ByteArray := method_10_code
def yL_least : MethodName := ⟨RL, "least", "(LArenaPlan;[J)I"⟩
abbrev cL_run : ByteArray := method_11_code
def yL_run : MethodName := ⟨RL, "run", "(LArenaPlan;[J)I"⟩
abbrev cL_cell : ByteArray := method_12_code
def yL_cell : MethodName := ⟨RL, "cell", "(LArenaPlan;I[J)I"⟩
abbrev cL_result : ByteArray := method_13_code
def yL_result : MethodName := ⟨RL, "result", "(LArenaPlan;II[J)I"⟩
abbrev cL_law : ByteArray := code
def yL_law : MethodName := ⟨RL, "law", "([I)Z"⟩
def wsX0_init : List Cond := .code yX0_init cX0_init 2 none :: ([.methodLink RX0 3 objectInit, .instanceMethod objectInit, .code objectInit ⟨#[0xb1]⟩ 1 none, .arrayClass .int, .fieldLink RX0 9 "ArenaPlan$Cells" "value" "[I", .fieldLink RX0 15 "ArenaPlan$Cells" "places" "LArenaPlan$Places;", .fieldLink RX0 19 "ArenaPlan$Places" "plan" "LArenaPlan$Plan;", .fieldLink RX0 25 "ArenaPlan$Cells" "plan" "LArenaPlan$Plan;", .fieldLink RX0 26 "ArenaPlan$Plan" "graph" "LArenaPlan$Graph;", .fieldLink RX0 32 "ArenaPlan$Cells" "graph" "LArenaPlan$Graph;"] ++ wsX00 ++ wsX30 ++ wsX40)
def wsJ7_fill_53178 : List Cond := .code yJ7_fill_53178 cJ7_fill_53178 4 none :: ([])
def wsX0_valueOf : List Cond := .code yX0_valueOf cX0_valueOf 3 (some .int) :: ([.fieldLink RX0 9 "ArenaPlan$Cells" "value" "[I", .fieldLink RX0 15 "ArenaPlan$Cells" "places" "LArenaPlan$Places;", .fieldLink RX0 49 "ArenaPlan$Places" "start" "[I"] ++ wsX00 ++ wsX30 ++ (vx_atM "java/lang/ArrayIndexOutOfBoundsException" ["java/lang/IndexOutOfBoundsException", "java/lang/RuntimeException", "java/lang/Exception"]).filter goodWord)
def wsX0_totalOf : List Cond := .code yX0_totalOf cX0_totalOf 4 (some .int) :: ([.fieldLink RX0 25 "ArenaPlan$Cells" "plan" "LArenaPlan$Plan;", .fieldLink RX0 46 "ArenaPlan$Plan" "size" "[I", .methodLink RX0 68 yX0_valueOf, .instanceMethod yX0_valueOf, .selects RX0 yX0_valueOf yX0_valueOf, .initialized RX0, .code yX0_valueOf cX0_valueOf 3 (some .int), .fieldLink RX0 9 "ArenaPlan$Cells" "value" "[I", .fieldLink RX0 15 "ArenaPlan$Cells" "places" "LArenaPlan$Places;", .fieldLink RX0 49 "ArenaPlan$Places" "start" "[I"] ++ wsX00 ++ wsX40 ++ wsX30 ++ (vx_atM "java/lang/ArrayIndexOutOfBoundsException" ["java/lang/IndexOutOfBoundsException", "java/lang/RuntimeException", "java/lang/Exception"]).filter goodWord)
def wsX0_workOut : List Cond := .code yX0_workOut cX0_workOut 6 (some .int) :: ([.fieldLink RX0 32 "ArenaPlan$Cells" "graph" "LArenaPlan$Graph;", .fieldLink RX0 56 "ArenaPlan$Graph" "source" "[[I", .fieldLink RX0 62 "ArenaPlan$Graph" "operation" "[I", .fieldLink RX0 65 "ArenaPlan$Graph" "given" "[[I", .fieldLink RX0 25 "ArenaPlan$Cells" "plan" "LArenaPlan$Plan;", .fieldLink RX0 46 "ArenaPlan$Plan" "size" "[I", .fieldLink RX0 71 "ArenaPlan$Graph" "p" "[I", .methodLink RX0 68 yX0_valueOf, .instanceMethod yX0_valueOf, .selects RX0 yX0_valueOf yX0_valueOf, .initialized RX0, .code yX0_valueOf cX0_valueOf 3 (some .int), .fieldLink RX0 9 "ArenaPlan$Cells" "value" "[I", .fieldLink RX0 15 "ArenaPlan$Cells" "places" "LArenaPlan$Places;", .fieldLink RX0 49 "ArenaPlan$Places" "start" "[I", .methodLink RX0 74 yX0_totalOf, .instanceMethod yX0_totalOf, .selects RX0 yX0_totalOf yX0_totalOf, .code yX0_totalOf cX0_totalOf 4 (some .int)] ++ wsX00 ++ wsX10 ++ wsX40 ++ wsX30 ++ (vx_atM "java/lang/ArrayIndexOutOfBoundsException" ["java/lang/IndexOutOfBoundsException", "java/lang/RuntimeException", "java/lang/Exception"]).filter goodWord)
def wsX0_work_r1 : List Cond := [Cond.fieldLink RX0 9 "ArenaPlan$Cells" "value" "[I", Cond.fieldLink RX0 25 "ArenaPlan$Cells" "plan" "LArenaPlan$Plan;", Cond.fieldLink RX0 39 "ArenaPlan$Plan" "length" "I", Cond.fieldLink RX0 43 "ArenaPlan$Plan" "sequence" "[I", Cond.fieldLink RX0 46 "ArenaPlan$Plan" "size" "[I", Cond.fieldLink RX0 15 "ArenaPlan$Cells" "places" "LArenaPlan$Places;", Cond.fieldLink RX0 49 "ArenaPlan$Places" "start" "[I", Cond.methodLink RX0 33 yJ7_fill_53178, Cond.static yJ7_fill_53178, Cond.initialized RJ7, Cond.code yJ7_fill_53178 cJ7_fill_53178 4 none, Cond.methodLink RX0 52 yX0_workOut, Cond.instanceMethod yX0_workOut, Cond.selects RX0 yX0_workOut yX0_workOut, Cond.initialized RX0, Cond.code yX0_workOut cX0_workOut 6 (some .int), Cond.fieldLink RX0 32 "ArenaPlan$Cells" "graph" "LArenaPlan$Graph;", Cond.fieldLink RX0 56 "ArenaPlan$Graph" "source" "[[I", Cond.fieldLink RX0 62 "ArenaPlan$Graph" "operation" "[I", Cond.fieldLink RX0 65 "ArenaPlan$Graph" "given" "[[I", Cond.fieldLink RX0 71 "ArenaPlan$Graph" "p" "[I", Cond.methodLink RX0 68 yX0_valueOf, Cond.instanceMethod yX0_valueOf, Cond.selects RX0 yX0_valueOf yX0_valueOf]
def wsX0_work_r2 : List Cond := [Cond.code yX0_valueOf cX0_valueOf 3 (some .int), Cond.methodLink RX0 74 yX0_totalOf, Cond.instanceMethod yX0_totalOf, Cond.selects RX0 yX0_totalOf yX0_totalOf, Cond.code yX0_totalOf cX0_totalOf 4 (some .int)]
def wsX0_work : List Cond := .code yX0_work cX0_work 5 (some .int) :: ((wsX0_work_r1 ++ wsX0_work_r2) ++ wsX00 ++ wsX40 ++ wsX30 ++ wsX10 ++ (vx_atM "java/lang/ArrayIndexOutOfBoundsException" ["java/lang/IndexOutOfBoundsException", "java/lang/RuntimeException", "java/lang/Exception"]).filter goodWord)
def wsX1_init : List Cond := .code yX1_init cX1_init 1 none :: ([.methodLink RX1 3 objectInit, .instanceMethod objectInit, .code objectInit ⟨#[0xb1]⟩ 1 none, .arrayClass .int, .fieldLink RX1 9 "ArenaPlan$Graph" "operation" "[I", .fieldLink RX1 15 "ArenaPlan$Graph" "p" "[I", .fieldLink RX1 18 "ArenaPlan$Graph" "q" "[I", .classLink RX1 21 "[[I", .fieldLink RX1 23 "ArenaPlan$Graph" "given" "[[I", .fieldLink RX1 26 "ArenaPlan$Graph" "source" "[[I", .arrayClass .boolean, .fieldLink RX1 29 "ArenaPlan$Graph" "kept" "[Z"] ++ wsX10)
def wsX6_isWithin : List Cond := .code yX6_isWithin cX6_isWithin 2 (some .boolean) :: ([])
def wsX1_has : List Cond := .code yX1_has cX1_has 2 (some .boolean) :: ([.fieldLink RX1 33 "ArenaPlan$Graph" "count" "I", .static yX6_isWithin, .initialized RX6, .code yX6_isWithin cX6_isWithin 2 (some .boolean)] ++ wsX10)
def wsX1_inputs : List Cond := .code yX1_inputs cX1_inputs 2 (some .int) :: ([.fieldLink RX1 9 "ArenaPlan$Graph" "operation" "[I"] ++ wsX10 ++ (vx_atM "java/lang/ArrayIndexOutOfBoundsException" ["java/lang/IndexOutOfBoundsException", "java/lang/RuntimeException", "java/lang/Exception"]).filter goodWord)
def wsX1_add : List Cond := .code yX1_add cX1_add 5 (some .int) :: ([.fieldLink RX1 33 "ArenaPlan$Graph" "count" "I", .fieldLink RX1 9 "ArenaPlan$Graph" "operation" "[I", .fieldLink RX1 15 "ArenaPlan$Graph" "p" "[I", .fieldLink RX1 18 "ArenaPlan$Graph" "q" "[I", .fieldLink RX1 26 "ArenaPlan$Graph" "source" "[[I", .methodLink RX1 44 yJ7_fill_53178, .static yJ7_fill_53178, .initialized RJ7, .code yJ7_fill_53178 cJ7_fill_53178 4 none] ++ wsX10 ++ (vx_atM "java/lang/ArrayIndexOutOfBoundsException" ["java/lang/IndexOutOfBoundsException", "java/lang/RuntimeException", "java/lang/Exception"]).filter goodWord)
def wsX1_isWired : List Cond := .code yX1_isWired cX1_isWired 3 (some .boolean) :: ([.fieldLink RX1 33 "ArenaPlan$Graph" "count" "I", .fieldLink RX1 26 "ArenaPlan$Graph" "source" "[[I", .methodLink RX1 50 yX1_inputs, .instanceMethod yX1_inputs, .selects RX1 yX1_inputs yX1_inputs, .initialized RX1, .code yX1_inputs cX1_inputs 2 (some .int), .fieldLink RX1 9 "ArenaPlan$Graph" "operation" "[I"] ++ wsX10 ++ (vx_atM "java/lang/ArrayIndexOutOfBoundsException" ["java/lang/IndexOutOfBoundsException", "java/lang/RuntimeException", "java/lang/Exception"]).filter goodWord)
def wsX6_setOf : List Cond := .code yX6_setOf cX6_setOf 1 (some .int) :: ([])
def wsX1_dependencies : List Cond := .code yX1_dependencies cX1_dependencies 2 (some .int) :: ([.fieldLink RX1 26 "ArenaPlan$Graph" "source" "[[I", .static yX6_setOf, .initialized RX6, .code yX6_setOf cX6_setOf 1 (some .int)] ++ wsX10 ++ (vx_atM "java/lang/ArrayIndexOutOfBoundsException" ["java/lang/IndexOutOfBoundsException", "java/lang/RuntimeException", "java/lang/Exception"]).filter goodWord)
def wsX2_init : List Cond := .code yX2_init cX2_init 2 none :: ([.methodLink RX2 3 objectInit, .instanceMethod objectInit, .code objectInit ⟨#[0xb1]⟩ 1 none, .arrayClass .int, .fieldLink RX2 9 "ArenaPlan$LeastPeak" "peakOf" "[I", .fieldLink RX2 15 "ArenaPlan$LeastPeak" "plan" "LArenaPlan$Plan;"] ++ wsX20)
def wsX6_isPartOf : List Cond := .code yX6_isPartOf cX6_isPartOf 2 (some .boolean) :: ([])
def wsX6_contains : List Cond := .code yX6_contains cX6_contains 2 (some .boolean) :: ([])
def wsX2_heldAfter : List Cond := .code yX2_heldAfter cX2_heldAfter 5 (some .int) :: ([.fieldLink RX2 15 "ArenaPlan$LeastPeak" "plan" "LArenaPlan$Plan;", .fieldLink RX2 19 "ArenaPlan$Plan" "length" "I", .fieldLink RX2 67 "ArenaPlan$Plan" "graph" "LArenaPlan$Graph;", .fieldLink RX2 71 "ArenaPlan$Graph" "kept" "[Z", .fieldLink RX2 77 "ArenaPlan$Plan" "dependents" "[I", .fieldLink RX2 55 "ArenaPlan$Plan" "size" "[I", .static yX6_isPartOf, .initialized RX6, .code yX6_isPartOf cX6_isPartOf 2 (some .boolean), .static yX6_contains, .code yX6_contains cX6_contains 2 (some .boolean)] ++ wsX20 ++ wsX40 ++ wsX10 ++ (vx_atM "java/lang/ArrayIndexOutOfBoundsException" ["java/lang/IndexOutOfBoundsException", "java/lang/RuntimeException", "java/lang/Exception"]).filter goodWord)
def wsX2_goOn_r1 : List Cond := [Cond.fieldLink RX2 15 "ArenaPlan$LeastPeak" "plan" "LArenaPlan$Plan;", Cond.fieldLink RX2 19 "ArenaPlan$Plan" "length" "I", Cond.fieldLink RX2 46 "ArenaPlan$Plan" "dependencies" "[I", Cond.fieldLink RX2 9 "ArenaPlan$LeastPeak" "peakOf" "[I", Cond.fieldLink RX2 55 "ArenaPlan$Plan" "size" "[I", Cond.methodLink RX2 58 Lib.Math.max.name, Cond.static Lib.Math.max.name, Cond.initialized "java/lang/Math", Cond.code Lib.Math.max.name Lib.Math.max.code 2 (some .int), Cond.methodLink RX2 64 Lib.Math.min.name, Cond.static Lib.Math.min.name, Cond.code Lib.Math.min.name Lib.Math.min.code 2 (some .int), Cond.methodLink RX2 38 yX2_heldAfter, Cond.instanceMethod yX2_heldAfter, Cond.selects RX2 yX2_heldAfter yX2_heldAfter, Cond.initialized RX2, Cond.code yX2_heldAfter cX2_heldAfter 5 (some .int), Cond.fieldLink RX2 67 "ArenaPlan$Plan" "graph" "LArenaPlan$Graph;", Cond.fieldLink RX2 71 "ArenaPlan$Graph" "kept" "[Z", Cond.fieldLink RX2 77 "ArenaPlan$Plan" "dependents" "[I", Cond.static yX6_isPartOf, Cond.initialized RX6, Cond.code yX6_isPartOf cX6_isPartOf 2 (some .boolean), Cond.static yX6_contains]
def wsX2_goOn_r2 : List Cond := [Cond.code yX6_contains cX6_contains 2 (some .boolean), Cond.static yX6_setOf, Cond.code yX6_setOf cX6_setOf 1 (some .int)]
def wsX2_goOn : List Cond := .code yX2_goOn cX2_goOn 6 none :: ((wsX2_goOn_r1 ++ wsX2_goOn_r2) ++ wsX20 ++ wsX40 ++ wsX10 ++ (vx_atM "java/lang/ArrayIndexOutOfBoundsException" ["java/lang/IndexOutOfBoundsException", "java/lang/RuntimeException", "java/lang/Exception"]).filter goodWord)
def wsX2_find_r1 : List Cond := [Cond.fieldLink RX2 15 "ArenaPlan$LeastPeak" "plan" "LArenaPlan$Plan;", Cond.fieldLink RX2 19 "ArenaPlan$Plan" "length" "I", Cond.fieldLink RX2 9 "ArenaPlan$LeastPeak" "peakOf" "[I", Cond.fieldLink RX2 25 "ArenaPlan$Plan" "greatestCost" "I", Cond.methodLink RX2 28 yJ7_fill_53178, Cond.static yJ7_fill_53178, Cond.initialized RJ7, Cond.code yJ7_fill_53178 cJ7_fill_53178 4 none, Cond.methodLink RX2 34 yX2_goOn, Cond.instanceMethod yX2_goOn, Cond.selects RX2 yX2_goOn yX2_goOn, Cond.initialized RX2, Cond.code yX2_goOn cX2_goOn 6 none, Cond.fieldLink RX2 46 "ArenaPlan$Plan" "dependencies" "[I", Cond.fieldLink RX2 55 "ArenaPlan$Plan" "size" "[I", Cond.methodLink RX2 58 Lib.Math.max.name, Cond.static Lib.Math.max.name, Cond.initialized "java/lang/Math", Cond.code Lib.Math.max.name Lib.Math.max.code 2 (some .int), Cond.methodLink RX2 64 Lib.Math.min.name, Cond.static Lib.Math.min.name, Cond.code Lib.Math.min.name Lib.Math.min.code 2 (some .int), Cond.methodLink RX2 38 yX2_heldAfter, Cond.instanceMethod yX2_heldAfter]
def wsX2_find_r2 : List Cond := [Cond.selects RX2 yX2_heldAfter yX2_heldAfter, Cond.code yX2_heldAfter cX2_heldAfter 5 (some .int), Cond.fieldLink RX2 67 "ArenaPlan$Plan" "graph" "LArenaPlan$Graph;", Cond.fieldLink RX2 71 "ArenaPlan$Graph" "kept" "[Z", Cond.fieldLink RX2 77 "ArenaPlan$Plan" "dependents" "[I", Cond.static yX6_isPartOf, Cond.initialized RX6, Cond.code yX6_isPartOf cX6_isPartOf 2 (some .boolean), Cond.static yX6_contains, Cond.code yX6_contains cX6_contains 2 (some .boolean), Cond.static yX6_setOf, Cond.code yX6_setOf cX6_setOf 1 (some .int)]
def wsX2_find : List Cond := .code yX2_find cX2_find 3 (some .int) :: ((wsX2_find_r1 ++ wsX2_find_r2) ++ wsX20 ++ wsX40 ++ wsX10 ++ (vx_atM "java/lang/ArrayIndexOutOfBoundsException" ["java/lang/IndexOutOfBoundsException", "java/lang/RuntimeException", "java/lang/Exception"]).filter goodWord)
def wsX3_init : List Cond := .code yX3_init cX3_init 2 none :: ([.methodLink RX3 3 objectInit, .instanceMethod objectInit, .code objectInit ⟨#[0xb1]⟩ 1 none, .arrayClass .int, .fieldLink RX3 9 "ArenaPlan$Places" "bySize" "[I", .fieldLink RX3 15 "ArenaPlan$Places" "start" "[I", .fieldLink RX3 18 "ArenaPlan$Places" "plan" "LArenaPlan$Plan;"] ++ wsX30)
def wsX3_sortBySize : List Cond := .code yX3_sortBySize cX3_sortBySize 4 none :: ([.fieldLink RX3 18 "ArenaPlan$Places" "plan" "LArenaPlan$Plan;", .fieldLink RX3 29 "ArenaPlan$Plan" "length" "I", .fieldLink RX3 47 "ArenaPlan$Plan" "sequence" "[I", .fieldLink RX3 50 "ArenaPlan$Plan" "size" "[I", .fieldLink RX3 9 "ArenaPlan$Places" "bySize" "[I"] ++ wsX30 ++ wsX40 ++ (vx_atM "java/lang/ArrayIndexOutOfBoundsException" ["java/lang/IndexOutOfBoundsException", "java/lang/RuntimeException", "java/lang/Exception"]).filter goodWord)
def wsX4_liveTogether : List Cond := .code yX4_liveTogether cX4_liveTogether 3 (some .boolean) :: ([.fieldLink RX4 27 "ArenaPlan$Plan" "step" "[I", .fieldLink RX4 30 "ArenaPlan$Plan" "last" "[I"] ++ wsX40 ++ (vx_atM "java/lang/ArrayIndexOutOfBoundsException" ["java/lang/IndexOutOfBoundsException", "java/lang/RuntimeException", "java/lang/Exception"]).filter goodWord)
def wsX3_end : List Cond := .code yX3_end cX3_end 2 (some .int) :: ([.fieldLink RX3 15 "ArenaPlan$Places" "start" "[I", .fieldLink RX3 18 "ArenaPlan$Places" "plan" "LArenaPlan$Plan;", .fieldLink RX3 50 "ArenaPlan$Plan" "size" "[I"] ++ wsX30 ++ wsX40 ++ (vx_atM "java/lang/ArrayIndexOutOfBoundsException" ["java/lang/IndexOutOfBoundsException", "java/lang/RuntimeException", "java/lang/Exception"]).filter goodWord)
def wsX3_isInTheWay : List Cond := .code yX3_isInTheWay cX3_isInTheWay 4 (some .boolean) :: ([.fieldLink RX3 18 "ArenaPlan$Places" "plan" "LArenaPlan$Plan;", .fieldLink RX3 15 "ArenaPlan$Places" "start" "[I", .fieldLink RX3 50 "ArenaPlan$Plan" "size" "[I", .methodLink RX3 57 yX4_liveTogether, .instanceMethod yX4_liveTogether, .selects RX4 yX4_liveTogether yX4_liveTogether, .initialized RX4, .code yX4_liveTogether cX4_liveTogether 3 (some .boolean), .fieldLink RX4 27 "ArenaPlan$Plan" "step" "[I", .fieldLink RX4 30 "ArenaPlan$Plan" "last" "[I", .methodLink RX3 38 yX3_end, .instanceMethod yX3_end, .selects RX3 yX3_end yX3_end, .initialized RX3, .code yX3_end cX3_end 2 (some .int)] ++ wsX30 ++ wsX40 ++ (vx_atM "java/lang/ArrayIndexOutOfBoundsException" ["java/lang/IndexOutOfBoundsException", "java/lang/RuntimeException", "java/lang/Exception"]).filter goodWord)
def wsX3_lowestStart : List Cond := .code yX3_lowestStart cX3_lowestStart 6 (some .int) :: ([.fieldLink RX3 9 "ArenaPlan$Places" "bySize" "[I", .methodLink RX3 53 yX3_isInTheWay, .instanceMethod yX3_isInTheWay, .selects RX3 yX3_isInTheWay yX3_isInTheWay, .initialized RX3, .code yX3_isInTheWay cX3_isInTheWay 4 (some .boolean), .fieldLink RX3 18 "ArenaPlan$Places" "plan" "LArenaPlan$Plan;", .fieldLink RX3 15 "ArenaPlan$Places" "start" "[I", .fieldLink RX3 50 "ArenaPlan$Plan" "size" "[I", .methodLink RX3 57 yX4_liveTogether, .instanceMethod yX4_liveTogether, .selects RX4 yX4_liveTogether yX4_liveTogether, .initialized RX4, .code yX4_liveTogether cX4_liveTogether 3 (some .boolean), .fieldLink RX4 27 "ArenaPlan$Plan" "step" "[I", .fieldLink RX4 30 "ArenaPlan$Plan" "last" "[I", .methodLink RX3 38 yX3_end, .instanceMethod yX3_end, .selects RX3 yX3_end yX3_end, .code yX3_end cX3_end 2 (some .int)] ++ wsX30 ++ wsX40 ++ (vx_atM "java/lang/ArrayIndexOutOfBoundsException" ["java/lang/IndexOutOfBoundsException", "java/lang/RuntimeException", "java/lang/Exception"]).filter goodWord)
def wsX3_assign_r1 : List Cond := [Cond.fieldLink RX3 25 "ArenaPlan$Places" "arena" "I", Cond.fieldLink RX3 18 "ArenaPlan$Places" "plan" "LArenaPlan$Plan;", Cond.fieldLink RX3 29 "ArenaPlan$Plan" "length" "I", Cond.fieldLink RX3 9 "ArenaPlan$Places" "bySize" "[I", Cond.fieldLink RX3 15 "ArenaPlan$Places" "start" "[I", Cond.methodLink RX3 41 Lib.Math.max.name, Cond.static Lib.Math.max.name, Cond.initialized "java/lang/Math", Cond.code Lib.Math.max.name Lib.Math.max.code 2 (some .int), Cond.methodLink RX3 22 yX3_sortBySize, Cond.instanceMethod yX3_sortBySize, Cond.selects RX3 yX3_sortBySize yX3_sortBySize, Cond.initialized RX3, Cond.code yX3_sortBySize cX3_sortBySize 4 none, Cond.fieldLink RX3 47 "ArenaPlan$Plan" "sequence" "[I", Cond.fieldLink RX3 50 "ArenaPlan$Plan" "size" "[I", Cond.methodLink RX3 34 yX3_lowestStart, Cond.instanceMethod yX3_lowestStart, Cond.selects RX3 yX3_lowestStart yX3_lowestStart, Cond.code yX3_lowestStart cX3_lowestStart 6 (some .int), Cond.methodLink RX3 53 yX3_isInTheWay, Cond.instanceMethod yX3_isInTheWay, Cond.selects RX3 yX3_isInTheWay yX3_isInTheWay, Cond.code yX3_isInTheWay cX3_isInTheWay 4 (some .boolean)]
def wsX3_assign_r2 : List Cond := [Cond.methodLink RX3 57 yX4_liveTogether, Cond.instanceMethod yX4_liveTogether, Cond.selects RX4 yX4_liveTogether yX4_liveTogether, Cond.initialized RX4, Cond.code yX4_liveTogether cX4_liveTogether 3 (some .boolean), Cond.fieldLink RX4 27 "ArenaPlan$Plan" "step" "[I", Cond.fieldLink RX4 30 "ArenaPlan$Plan" "last" "[I", Cond.methodLink RX3 38 yX3_end, Cond.instanceMethod yX3_end, Cond.selects RX3 yX3_end yX3_end, Cond.code yX3_end cX3_end 2 (some .int)]
def wsX3_assign : List Cond := .code yX3_assign cX3_assign 3 none :: ((wsX3_assign_r1 ++ wsX3_assign_r2) ++ wsX30 ++ wsX40 ++ (vx_atM "java/lang/ArrayIndexOutOfBoundsException" ["java/lang/IndexOutOfBoundsException", "java/lang/RuntimeException", "java/lang/Exception"]).filter goodWord)
def wsX4_init : List Cond := .code yX4_init cX4_init 2 none :: ([.methodLink RX4 3 objectInit, .instanceMethod objectInit, .code objectInit ⟨#[0xb1]⟩ 1 none, .arrayClass .int, .fieldLink RX4 9 "ArenaPlan$Plan" "dependencies" "[I", .fieldLink RX4 15 "ArenaPlan$Plan" "dependents" "[I", .fieldLink RX4 18 "ArenaPlan$Plan" "size" "[I", .fieldLink RX4 21 "ArenaPlan$Plan" "label" "[I", .fieldLink RX4 24 "ArenaPlan$Plan" "sequence" "[I", .fieldLink RX4 27 "ArenaPlan$Plan" "step" "[I", .fieldLink RX4 30 "ArenaPlan$Plan" "last" "[I", .fieldLink RX4 33 "ArenaPlan$Plan" "costOf" "[I", .fieldLink RX4 36 "ArenaPlan$Plan" "graph" "LArenaPlan$Graph;"] ++ wsX40)
def wsX4_findNeighbours : List Cond := .code yX4_findNeighbours cX4_findNeighbours 3 none :: ([.fieldLink RX4 15 "ArenaPlan$Plan" "dependents" "[I", .fieldLink RX4 36 "ArenaPlan$Plan" "graph" "LArenaPlan$Graph;", .fieldLink RX4 64 "ArenaPlan$Graph" "count" "I", .fieldLink RX4 9 "ArenaPlan$Plan" "dependencies" "[I", .methodLink RX4 75 yJ7_fill_53178, .static yJ7_fill_53178, .initialized RJ7, .code yJ7_fill_53178 cJ7_fill_53178 4 none, .methodLink RX4 81 yX1_dependencies, .instanceMethod yX1_dependencies, .selects RX1 yX1_dependencies yX1_dependencies, .initialized RX1, .code yX1_dependencies cX1_dependencies 2 (some .int), .fieldLink RX1 26 "ArenaPlan$Graph" "source" "[[I", .static yX6_setOf, .initialized RX6, .code yX6_setOf cX6_setOf 1 (some .int), .static yX6_contains, .code yX6_contains cX6_contains 2 (some .boolean)] ++ wsX40 ++ wsX10 ++ (vx_atM "java/lang/ArrayIndexOutOfBoundsException" ["java/lang/IndexOutOfBoundsException", "java/lang/RuntimeException", "java/lang/Exception"]).filter goodWord)
def wsX4_beginOrder : List Cond := .code yX4_beginOrder cX4_beginOrder 1 none :: ([.fieldLink RX4 27 "ArenaPlan$Plan" "step" "[I", .fieldLink RX4 118 "ArenaPlan$Plan" "inOrder" "I", .fieldLink RX4 46 "ArenaPlan$Plan" "length" "I", .methodLink RX4 75 yJ7_fill_53178, .static yJ7_fill_53178, .initialized RJ7, .code yJ7_fill_53178 cJ7_fill_53178 4 none] ++ wsX40)
def wsX4_isMissing : List Cond := .code yX4_isMissing cX4_isMissing 2 (some .boolean) :: ([.fieldLink RX4 27 "ArenaPlan$Plan" "step" "[I"] ++ wsX40 ++ (vx_atM "java/lang/ArrayIndexOutOfBoundsException" ["java/lang/IndexOutOfBoundsException", "java/lang/RuntimeException", "java/lang/Exception"]).filter goodWord)
def wsX4_isReady : List Cond := .code yX4_isReady cX4_isReady 2 (some .boolean) :: ([.fieldLink RX4 9 "ArenaPlan$Plan" "dependencies" "[I", .fieldLink RX4 118 "ArenaPlan$Plan" "inOrder" "I", .methodLink RX4 135 yX4_isMissing, .instanceMethod yX4_isMissing, .selects RX4 yX4_isMissing yX4_isMissing, .initialized RX4, .code yX4_isMissing cX4_isMissing 2 (some .boolean), .fieldLink RX4 27 "ArenaPlan$Plan" "step" "[I", .static yX6_isPartOf, .initialized RX6, .code yX6_isPartOf cX6_isPartOf 2 (some .boolean)] ++ wsX40 ++ (vx_atM "java/lang/ArrayIndexOutOfBoundsException" ["java/lang/IndexOutOfBoundsException", "java/lang/RuntimeException", "java/lang/Exception"]).filter goodWord)
def wsX4_leastReady : List Cond := .code yX4_leastReady cX4_leastReady 2 (some .int) :: ([.fieldLink RX4 36 "ArenaPlan$Plan" "graph" "LArenaPlan$Graph;", .fieldLink RX4 64 "ArenaPlan$Graph" "count" "I", .methodLink RX4 132 yX4_isReady, .instanceMethod yX4_isReady, .selects RX4 yX4_isReady yX4_isReady, .initialized RX4, .code yX4_isReady cX4_isReady 2 (some .boolean), .fieldLink RX4 9 "ArenaPlan$Plan" "dependencies" "[I", .fieldLink RX4 118 "ArenaPlan$Plan" "inOrder" "I", .methodLink RX4 135 yX4_isMissing, .instanceMethod yX4_isMissing, .selects RX4 yX4_isMissing yX4_isMissing, .code yX4_isMissing cX4_isMissing 2 (some .boolean), .fieldLink RX4 27 "ArenaPlan$Plan" "step" "[I", .static yX6_isPartOf, .initialized RX6, .code yX6_isPartOf cX6_isPartOf 2 (some .boolean)] ++ wsX40 ++ wsX10 ++ (vx_atM "java/lang/ArrayIndexOutOfBoundsException" ["java/lang/IndexOutOfBoundsException", "java/lang/RuntimeException", "java/lang/Exception"]).filter goodWord)
def wsX4_append : List Cond := .code yX4_append cX4_append 2 none :: ([.fieldLink RX4 24 "ArenaPlan$Plan" "sequence" "[I", .fieldLink RX4 46 "ArenaPlan$Plan" "length" "I", .fieldLink RX4 27 "ArenaPlan$Plan" "step" "[I", .fieldLink RX4 118 "ArenaPlan$Plan" "inOrder" "I", .static yX6_setOf, .initialized RX6, .code yX6_setOf cX6_setOf 1 (some .int)] ++ wsX40 ++ (vx_atM "java/lang/ArrayIndexOutOfBoundsException" ["java/lang/IndexOutOfBoundsException", "java/lang/RuntimeException", "java/lang/Exception"]).filter goodWord)
def wsX4_orderByNumbers_r1 : List Cond := [Cond.fieldLink RX4 36 "ArenaPlan$Plan" "graph" "LArenaPlan$Graph;", Cond.fieldLink RX4 64 "ArenaPlan$Graph" "count" "I", Cond.methodLink RX4 121 yX4_beginOrder, Cond.instanceMethod yX4_beginOrder, Cond.selects RX4 yX4_beginOrder yX4_beginOrder, Cond.initialized RX4, Cond.code yX4_beginOrder cX4_beginOrder 1 none, Cond.fieldLink RX4 27 "ArenaPlan$Plan" "step" "[I", Cond.fieldLink RX4 118 "ArenaPlan$Plan" "inOrder" "I", Cond.fieldLink RX4 46 "ArenaPlan$Plan" "length" "I", Cond.methodLink RX4 75 yJ7_fill_53178, Cond.static yJ7_fill_53178, Cond.initialized RJ7, Cond.code yJ7_fill_53178 cJ7_fill_53178 4 none, Cond.methodLink RX4 124 yX4_leastReady, Cond.instanceMethod yX4_leastReady, Cond.selects RX4 yX4_leastReady yX4_leastReady, Cond.code yX4_leastReady cX4_leastReady 2 (some .int), Cond.methodLink RX4 132 yX4_isReady, Cond.instanceMethod yX4_isReady, Cond.selects RX4 yX4_isReady yX4_isReady, Cond.code yX4_isReady cX4_isReady 2 (some .boolean), Cond.fieldLink RX4 9 "ArenaPlan$Plan" "dependencies" "[I", Cond.methodLink RX4 135 yX4_isMissing]
def wsX4_orderByNumbers_r2 : List Cond := [Cond.instanceMethod yX4_isMissing, Cond.selects RX4 yX4_isMissing yX4_isMissing, Cond.code yX4_isMissing cX4_isMissing 2 (some .boolean), Cond.static yX6_isPartOf, Cond.initialized RX6, Cond.code yX6_isPartOf cX6_isPartOf 2 (some .boolean), Cond.methodLink RX4 128 yX4_append, Cond.instanceMethod yX4_append, Cond.selects RX4 yX4_append yX4_append, Cond.code yX4_append cX4_append 2 none, Cond.fieldLink RX4 24 "ArenaPlan$Plan" "sequence" "[I", Cond.static yX6_setOf, Cond.code yX6_setOf cX6_setOf 1 (some .int)]
def wsX4_orderByNumbers : List Cond := .code yX4_orderByNumbers cX4_orderByNumbers 2 none :: ((wsX4_orderByNumbers_r1 ++ wsX4_orderByNumbers_r2) ++ wsX40 ++ wsX10 ++ (vx_atM "java/lang/ArrayIndexOutOfBoundsException" ["java/lang/IndexOutOfBoundsException", "java/lang/RuntimeException", "java/lang/Exception"]).filter goodWord)
def wsX4_sizeOfSource : List Cond := .code yX4_sizeOfSource cX4_sizeOfSource 4 (some .int) :: ([.fieldLink RX4 36 "ArenaPlan$Plan" "graph" "LArenaPlan$Graph;", .fieldLink RX4 90 "ArenaPlan$Graph" "source" "[[I", .fieldLink RX4 18 "ArenaPlan$Plan" "size" "[I"] ++ wsX40 ++ wsX10 ++ (vx_atM "java/lang/ArrayIndexOutOfBoundsException" ["java/lang/IndexOutOfBoundsException", "java/lang/RuntimeException", "java/lang/Exception"]).filter goodWord)
def wsX4_sizesFit : List Cond := .code yX4_sizesFit cX4_sizesFit 4 (some .boolean) :: ([.fieldLink RX4 36 "ArenaPlan$Plan" "graph" "LArenaPlan$Graph;", .fieldLink RX4 98 "ArenaPlan$Graph" "operation" "[I", .fieldLink RX4 101 "ArenaPlan$Graph" "p" "[I", .fieldLink RX4 104 "ArenaPlan$Graph" "q" "[I", .methodLink RX4 94 yX4_sizeOfSource, .instanceMethod yX4_sizeOfSource, .selects RX4 yX4_sizeOfSource yX4_sizeOfSource, .initialized RX4, .code yX4_sizeOfSource cX4_sizeOfSource 4 (some .int), .fieldLink RX4 90 "ArenaPlan$Graph" "source" "[[I", .fieldLink RX4 18 "ArenaPlan$Plan" "size" "[I"] ++ wsX40 ++ wsX10 ++ (vx_atM "java/lang/ArrayIndexOutOfBoundsException" ["java/lang/IndexOutOfBoundsException", "java/lang/RuntimeException", "java/lang/Exception"]).filter goodWord)
def wsX4_sizeOf : List Cond := .code yX4_sizeOf cX4_sizeOf 3 (some .int) :: ([.fieldLink RX4 36 "ArenaPlan$Plan" "graph" "LArenaPlan$Graph;", .fieldLink RX4 98 "ArenaPlan$Graph" "operation" "[I", .fieldLink RX4 101 "ArenaPlan$Graph" "p" "[I", .fieldLink RX4 104 "ArenaPlan$Graph" "q" "[I", .methodLink RX4 94 yX4_sizeOfSource, .instanceMethod yX4_sizeOfSource, .selects RX4 yX4_sizeOfSource yX4_sizeOfSource, .initialized RX4, .code yX4_sizeOfSource cX4_sizeOfSource 4 (some .int), .fieldLink RX4 90 "ArenaPlan$Graph" "source" "[[I", .fieldLink RX4 18 "ArenaPlan$Plan" "size" "[I"] ++ wsX40 ++ wsX10 ++ (vx_atM "java/lang/ArrayIndexOutOfBoundsException" ["java/lang/IndexOutOfBoundsException", "java/lang/RuntimeException", "java/lang/Exception"]).filter goodWord)
def wsX4_labelOf : List Cond := .code yX4_labelOf cX4_labelOf 7 (some .int) :: ([.fieldLink RX4 36 "ArenaPlan$Plan" "graph" "LArenaPlan$Graph;", .fieldLink RX4 21 "ArenaPlan$Plan" "label" "[I", .fieldLink RX4 90 "ArenaPlan$Graph" "source" "[[I", .methodLink RX4 110 Lib.Math.max.name, .static Lib.Math.max.name, .initialized "java/lang/Math", .code Lib.Math.max.name Lib.Math.max.code 2 (some .int), .methodLink RX4 115 Lib.Math.min.name, .static Lib.Math.min.name, .code Lib.Math.min.name Lib.Math.min.code 2 (some .int), .methodLink RX4 107 yX1_inputs, .instanceMethod yX1_inputs, .selects RX1 yX1_inputs yX1_inputs, .initialized RX1, .code yX1_inputs cX1_inputs 2 (some .int), .fieldLink RX1 9 "ArenaPlan$Graph" "operation" "[I"] ++ wsX40 ++ wsX10 ++ (vx_atM "java/lang/ArrayIndexOutOfBoundsException" ["java/lang/IndexOutOfBoundsException", "java/lang/RuntimeException", "java/lang/Exception"]).filter goodWord)
def wsX4_measure_r1 : List Cond := [Cond.fieldLink RX4 46 "ArenaPlan$Plan" "length" "I", Cond.fieldLink RX4 24 "ArenaPlan$Plan" "sequence" "[I", Cond.fieldLink RX4 18 "ArenaPlan$Plan" "size" "[I", Cond.fieldLink RX4 21 "ArenaPlan$Plan" "label" "[I", Cond.methodLink RX4 40 yX4_findNeighbours, Cond.instanceMethod yX4_findNeighbours, Cond.selects RX4 yX4_findNeighbours yX4_findNeighbours, Cond.initialized RX4, Cond.code yX4_findNeighbours cX4_findNeighbours 3 none, Cond.fieldLink RX4 15 "ArenaPlan$Plan" "dependents" "[I", Cond.fieldLink RX4 36 "ArenaPlan$Plan" "graph" "LArenaPlan$Graph;", Cond.fieldLink RX4 64 "ArenaPlan$Graph" "count" "I", Cond.fieldLink RX4 9 "ArenaPlan$Plan" "dependencies" "[I", Cond.methodLink RX4 75 yJ7_fill_53178, Cond.static yJ7_fill_53178, Cond.initialized RJ7, Cond.code yJ7_fill_53178 cJ7_fill_53178 4 none, Cond.methodLink RX4 81 yX1_dependencies, Cond.instanceMethod yX1_dependencies, Cond.selects RX1 yX1_dependencies yX1_dependencies, Cond.initialized RX1, Cond.code yX1_dependencies cX1_dependencies 2 (some .int), Cond.fieldLink RX1 26 "ArenaPlan$Graph" "source" "[[I", Cond.static yX6_setOf]
def wsX4_measure_r2 : List Cond := [Cond.initialized RX6, Cond.code yX6_setOf cX6_setOf 1 (some .int), Cond.static yX6_contains, Cond.code yX6_contains cX6_contains 2 (some .boolean), Cond.methodLink RX4 43 yX4_orderByNumbers, Cond.instanceMethod yX4_orderByNumbers, Cond.selects RX4 yX4_orderByNumbers yX4_orderByNumbers, Cond.code yX4_orderByNumbers cX4_orderByNumbers 2 none, Cond.methodLink RX4 121 yX4_beginOrder, Cond.instanceMethod yX4_beginOrder, Cond.selects RX4 yX4_beginOrder yX4_beginOrder, Cond.code yX4_beginOrder cX4_beginOrder 1 none, Cond.fieldLink RX4 27 "ArenaPlan$Plan" "step" "[I", Cond.fieldLink RX4 118 "ArenaPlan$Plan" "inOrder" "I", Cond.methodLink RX4 124 yX4_leastReady, Cond.instanceMethod yX4_leastReady, Cond.selects RX4 yX4_leastReady yX4_leastReady, Cond.code yX4_leastReady cX4_leastReady 2 (some .int), Cond.methodLink RX4 132 yX4_isReady, Cond.instanceMethod yX4_isReady, Cond.selects RX4 yX4_isReady yX4_isReady, Cond.code yX4_isReady cX4_isReady 2 (some .boolean), Cond.methodLink RX4 135 yX4_isMissing, Cond.instanceMethod yX4_isMissing]
def wsX4_measure_r3 : List Cond := [Cond.selects RX4 yX4_isMissing yX4_isMissing, Cond.code yX4_isMissing cX4_isMissing 2 (some .boolean), Cond.static yX6_isPartOf, Cond.code yX6_isPartOf cX6_isPartOf 2 (some .boolean), Cond.methodLink RX4 128 yX4_append, Cond.instanceMethod yX4_append, Cond.selects RX4 yX4_append yX4_append, Cond.code yX4_append cX4_append 2 none, Cond.methodLink RX4 50 yX4_sizesFit, Cond.instanceMethod yX4_sizesFit, Cond.selects RX4 yX4_sizesFit yX4_sizesFit, Cond.code yX4_sizesFit cX4_sizesFit 4 (some .boolean), Cond.fieldLink RX4 98 "ArenaPlan$Graph" "operation" "[I", Cond.fieldLink RX4 101 "ArenaPlan$Graph" "p" "[I", Cond.fieldLink RX4 104 "ArenaPlan$Graph" "q" "[I", Cond.methodLink RX4 94 yX4_sizeOfSource, Cond.instanceMethod yX4_sizeOfSource, Cond.selects RX4 yX4_sizeOfSource yX4_sizeOfSource, Cond.code yX4_sizeOfSource cX4_sizeOfSource 4 (some .int), Cond.fieldLink RX4 90 "ArenaPlan$Graph" "source" "[[I", Cond.methodLink RX4 54 yX4_sizeOf, Cond.instanceMethod yX4_sizeOf, Cond.selects RX4 yX4_sizeOf yX4_sizeOf, Cond.code yX4_sizeOf cX4_sizeOf 3 (some .int)]
def wsX4_measure_r4 : List Cond := [Cond.methodLink RX4 58 yX4_labelOf, Cond.instanceMethod yX4_labelOf, Cond.selects RX4 yX4_labelOf yX4_labelOf, Cond.code yX4_labelOf cX4_labelOf 7 (some .int), Cond.methodLink RX4 110 Lib.Math.max.name, Cond.static Lib.Math.max.name, Cond.initialized "java/lang/Math", Cond.code Lib.Math.max.name Lib.Math.max.code 2 (some .int), Cond.methodLink RX4 115 Lib.Math.min.name, Cond.static Lib.Math.min.name, Cond.code Lib.Math.min.name Lib.Math.min.code 2 (some .int), Cond.methodLink RX4 107 yX1_inputs, Cond.instanceMethod yX1_inputs, Cond.selects RX1 yX1_inputs yX1_inputs, Cond.code yX1_inputs cX1_inputs 2 (some .int), Cond.fieldLink RX1 9 "ArenaPlan$Graph" "operation" "[I"]
def wsX4_measure : List Cond := .code yX4_measure cX4_measure 3 (some .boolean) :: ((wsX4_measure_r1 ++ (wsX4_measure_r2 ++ (wsX4_measure_r3 ++ wsX4_measure_r4))) ++ wsX40 ++ wsX10 ++ (vx_atM "java/lang/ArrayIndexOutOfBoundsException" ["java/lang/IndexOutOfBoundsException", "java/lang/RuntimeException", "java/lang/Exception"]).filter goodWord)
def wsX4_sourceToVisit : List Cond := .code yX4_sourceToVisit cX4_sourceToVisit 7 (some .int) :: ([.fieldLink RX4 36 "ArenaPlan$Plan" "graph" "LArenaPlan$Graph;", .fieldLink RX4 90 "ArenaPlan$Graph" "source" "[[I", .fieldLink RX4 21 "ArenaPlan$Plan" "label" "[I", .methodLink RX4 135 yX4_isMissing, .instanceMethod yX4_isMissing, .selects RX4 yX4_isMissing yX4_isMissing, .initialized RX4, .code yX4_isMissing cX4_isMissing 2 (some .boolean), .fieldLink RX4 27 "ArenaPlan$Plan" "step" "[I"] ++ wsX40 ++ wsX10 ++ (vx_atM "java/lang/ArrayIndexOutOfBoundsException" ["java/lang/IndexOutOfBoundsException", "java/lang/RuntimeException", "java/lang/Exception"]).filter goodWord)
def wsX4_firstDue : List Cond := .code yX4_firstDue cX4_firstDue 5 (some .int) :: ([.fieldLink RX4 36 "ArenaPlan$Plan" "graph" "LArenaPlan$Graph;", .fieldLink RX4 64 "ArenaPlan$Graph" "count" "I", .methodLink RX4 147 yX4_sourceToVisit, .instanceMethod yX4_sourceToVisit, .selects RX4 yX4_sourceToVisit yX4_sourceToVisit, .initialized RX4, .code yX4_sourceToVisit cX4_sourceToVisit 7 (some .int), .fieldLink RX4 90 "ArenaPlan$Graph" "source" "[[I", .fieldLink RX4 21 "ArenaPlan$Plan" "label" "[I", .methodLink RX4 135 yX4_isMissing, .instanceMethod yX4_isMissing, .selects RX4 yX4_isMissing yX4_isMissing, .code yX4_isMissing cX4_isMissing 2 (some .boolean), .fieldLink RX4 27 "ArenaPlan$Plan" "step" "[I"] ++ wsX40 ++ wsX10 ++ (vx_atM "java/lang/ArrayIndexOutOfBoundsException" ["java/lang/IndexOutOfBoundsException", "java/lang/RuntimeException", "java/lang/Exception"]).filter goodWord)
def wsX4_visit_r1 : List Cond := [Cond.fieldLink RX4 36 "ArenaPlan$Plan" "graph" "LArenaPlan$Graph;", Cond.fieldLink RX4 64 "ArenaPlan$Graph" "count" "I", Cond.methodLink RX4 135 yX4_isMissing, Cond.instanceMethod yX4_isMissing, Cond.selects RX4 yX4_isMissing yX4_isMissing, Cond.initialized RX4, Cond.code yX4_isMissing cX4_isMissing 2 (some .boolean), Cond.fieldLink RX4 27 "ArenaPlan$Plan" "step" "[I", Cond.methodLink RX4 144 yX4_firstDue, Cond.instanceMethod yX4_firstDue, Cond.selects RX4 yX4_firstDue yX4_firstDue, Cond.code yX4_firstDue cX4_firstDue 5 (some .int), Cond.methodLink RX4 147 yX4_sourceToVisit, Cond.instanceMethod yX4_sourceToVisit, Cond.selects RX4 yX4_sourceToVisit yX4_sourceToVisit, Cond.code yX4_sourceToVisit cX4_sourceToVisit 7 (some .int), Cond.fieldLink RX4 90 "ArenaPlan$Graph" "source" "[[I", Cond.fieldLink RX4 21 "ArenaPlan$Plan" "label" "[I", Cond.methodLink RX4 128 yX4_append, Cond.instanceMethod yX4_append, Cond.selects RX4 yX4_append yX4_append, Cond.code yX4_append cX4_append 2 none, Cond.fieldLink RX4 24 "ArenaPlan$Plan" "sequence" "[I", Cond.fieldLink RX4 46 "ArenaPlan$Plan" "length" "I"]
def wsX4_visit_r2 : List Cond := [Cond.fieldLink RX4 118 "ArenaPlan$Plan" "inOrder" "I", Cond.static yX6_setOf, Cond.initialized RX6, Cond.code yX6_setOf cX6_setOf 1 (some .int)]
def wsX4_visit : List Cond := .code yX4_visit cX4_visit 3 none :: ((wsX4_visit_r1 ++ wsX4_visit_r2) ++ wsX40 ++ wsX10 ++ (vx_atM "java/lang/ArrayIndexOutOfBoundsException" ["java/lang/IndexOutOfBoundsException", "java/lang/RuntimeException", "java/lang/Exception"]).filter goodWord)
def wsX4_orderByLabels_r1 : List Cond := [Cond.fieldLink RX4 36 "ArenaPlan$Plan" "graph" "LArenaPlan$Graph;", Cond.fieldLink RX4 64 "ArenaPlan$Graph" "count" "I", Cond.fieldLink RX4 15 "ArenaPlan$Plan" "dependents" "[I", Cond.methodLink RX4 121 yX4_beginOrder, Cond.instanceMethod yX4_beginOrder, Cond.selects RX4 yX4_beginOrder yX4_beginOrder, Cond.initialized RX4, Cond.code yX4_beginOrder cX4_beginOrder 1 none, Cond.fieldLink RX4 27 "ArenaPlan$Plan" "step" "[I", Cond.fieldLink RX4 118 "ArenaPlan$Plan" "inOrder" "I", Cond.fieldLink RX4 46 "ArenaPlan$Plan" "length" "I", Cond.methodLink RX4 75 yJ7_fill_53178, Cond.static yJ7_fill_53178, Cond.initialized RJ7, Cond.code yJ7_fill_53178 cJ7_fill_53178 4 none, Cond.methodLink RX4 141 yX4_visit, Cond.instanceMethod yX4_visit, Cond.selects RX4 yX4_visit yX4_visit, Cond.code yX4_visit cX4_visit 3 none, Cond.methodLink RX4 135 yX4_isMissing, Cond.instanceMethod yX4_isMissing, Cond.selects RX4 yX4_isMissing yX4_isMissing, Cond.code yX4_isMissing cX4_isMissing 2 (some .boolean), Cond.methodLink RX4 144 yX4_firstDue]
def wsX4_orderByLabels_r2 : List Cond := [Cond.instanceMethod yX4_firstDue, Cond.selects RX4 yX4_firstDue yX4_firstDue, Cond.code yX4_firstDue cX4_firstDue 5 (some .int), Cond.methodLink RX4 147 yX4_sourceToVisit, Cond.instanceMethod yX4_sourceToVisit, Cond.selects RX4 yX4_sourceToVisit yX4_sourceToVisit, Cond.code yX4_sourceToVisit cX4_sourceToVisit 7 (some .int), Cond.fieldLink RX4 90 "ArenaPlan$Graph" "source" "[[I", Cond.fieldLink RX4 21 "ArenaPlan$Plan" "label" "[I", Cond.methodLink RX4 128 yX4_append, Cond.instanceMethod yX4_append, Cond.selects RX4 yX4_append yX4_append, Cond.code yX4_append cX4_append 2 none, Cond.fieldLink RX4 24 "ArenaPlan$Plan" "sequence" "[I", Cond.static yX6_setOf, Cond.initialized RX6, Cond.code yX6_setOf cX6_setOf 1 (some .int)]
def wsX4_orderByLabels : List Cond := .code yX4_orderByLabels cX4_orderByLabels 2 none :: ((wsX4_orderByLabels_r1 ++ wsX4_orderByLabels_r2) ++ wsX40 ++ wsX10 ++ (vx_atM "java/lang/ArrayIndexOutOfBoundsException" ["java/lang/IndexOutOfBoundsException", "java/lang/RuntimeException", "java/lang/Exception"]).filter goodWord)
def wsX4_lastStepOf : List Cond := .code yX4_lastStepOf cX4_lastStepOf 4 (some .int) :: ([.fieldLink RX4 36 "ArenaPlan$Plan" "graph" "LArenaPlan$Graph;", .fieldLink RX4 150 "ArenaPlan$Graph" "kept" "[Z", .fieldLink RX4 64 "ArenaPlan$Graph" "count" "I", .fieldLink RX4 27 "ArenaPlan$Plan" "step" "[I", .fieldLink RX4 15 "ArenaPlan$Plan" "dependents" "[I", .methodLink RX4 110 Lib.Math.max.name, .static Lib.Math.max.name, .initialized "java/lang/Math", .code Lib.Math.max.name Lib.Math.max.code 2 (some .int), .static yX6_contains, .initialized RX6, .code yX6_contains cX6_contains 2 (some .boolean)] ++ wsX40 ++ wsX10 ++ (vx_atM "java/lang/ArrayIndexOutOfBoundsException" ["java/lang/IndexOutOfBoundsException", "java/lang/RuntimeException", "java/lang/Exception"]).filter goodWord)
def wsX4_addCosts : List Cond := .code yX4_addCosts cX4_addCosts 3 none :: ([.fieldLink RX4 154 "ArenaPlan$Plan" "greatestCost" "I", .fieldLink RX4 33 "ArenaPlan$Plan" "costOf" "[I", .fieldLink RX4 46 "ArenaPlan$Plan" "length" "I", .fieldLink RX4 36 "ArenaPlan$Plan" "graph" "LArenaPlan$Graph;", .fieldLink RX4 64 "ArenaPlan$Graph" "count" "I", .fieldLink RX4 27 "ArenaPlan$Plan" "step" "[I", .fieldLink RX4 30 "ArenaPlan$Plan" "last" "[I", .fieldLink RX4 18 "ArenaPlan$Plan" "size" "[I", .methodLink RX4 110 Lib.Math.max.name, .static Lib.Math.max.name, .initialized "java/lang/Math", .code Lib.Math.max.name Lib.Math.max.code 2 (some .int), .methodLink RX4 75 yJ7_fill_53178, .static yJ7_fill_53178, .initialized RJ7, .code yJ7_fill_53178 cJ7_fill_53178 4 none] ++ wsX40 ++ wsX10 ++ (vx_atM "java/lang/ArrayIndexOutOfBoundsException" ["java/lang/IndexOutOfBoundsException", "java/lang/RuntimeException", "java/lang/Exception"]).filter goodWord)
def wsX4_arrange_r1 : List Cond := [Cond.fieldLink RX4 36 "ArenaPlan$Plan" "graph" "LArenaPlan$Graph;", Cond.fieldLink RX4 64 "ArenaPlan$Graph" "count" "I", Cond.fieldLink RX4 30 "ArenaPlan$Plan" "last" "[I", Cond.methodLink RX4 61 yX4_orderByLabels, Cond.instanceMethod yX4_orderByLabels, Cond.selects RX4 yX4_orderByLabels yX4_orderByLabels, Cond.initialized RX4, Cond.code yX4_orderByLabels cX4_orderByLabels 2 none, Cond.fieldLink RX4 15 "ArenaPlan$Plan" "dependents" "[I", Cond.methodLink RX4 121 yX4_beginOrder, Cond.instanceMethod yX4_beginOrder, Cond.selects RX4 yX4_beginOrder yX4_beginOrder, Cond.code yX4_beginOrder cX4_beginOrder 1 none, Cond.fieldLink RX4 27 "ArenaPlan$Plan" "step" "[I", Cond.fieldLink RX4 118 "ArenaPlan$Plan" "inOrder" "I", Cond.fieldLink RX4 46 "ArenaPlan$Plan" "length" "I", Cond.methodLink RX4 75 yJ7_fill_53178, Cond.static yJ7_fill_53178, Cond.initialized RJ7, Cond.code yJ7_fill_53178 cJ7_fill_53178 4 none, Cond.methodLink RX4 141 yX4_visit, Cond.instanceMethod yX4_visit, Cond.selects RX4 yX4_visit yX4_visit, Cond.code yX4_visit cX4_visit 3 none]
def wsX4_arrange_r2 : List Cond := [Cond.methodLink RX4 135 yX4_isMissing, Cond.instanceMethod yX4_isMissing, Cond.selects RX4 yX4_isMissing yX4_isMissing, Cond.code yX4_isMissing cX4_isMissing 2 (some .boolean), Cond.methodLink RX4 144 yX4_firstDue, Cond.instanceMethod yX4_firstDue, Cond.selects RX4 yX4_firstDue yX4_firstDue, Cond.code yX4_firstDue cX4_firstDue 5 (some .int), Cond.methodLink RX4 147 yX4_sourceToVisit, Cond.instanceMethod yX4_sourceToVisit, Cond.selects RX4 yX4_sourceToVisit yX4_sourceToVisit, Cond.code yX4_sourceToVisit cX4_sourceToVisit 7 (some .int), Cond.fieldLink RX4 90 "ArenaPlan$Graph" "source" "[[I", Cond.fieldLink RX4 21 "ArenaPlan$Plan" "label" "[I", Cond.methodLink RX4 128 yX4_append, Cond.instanceMethod yX4_append, Cond.selects RX4 yX4_append yX4_append, Cond.code yX4_append cX4_append 2 none, Cond.fieldLink RX4 24 "ArenaPlan$Plan" "sequence" "[I", Cond.static yX6_setOf, Cond.initialized RX6, Cond.code yX6_setOf cX6_setOf 1 (some .int), Cond.methodLink RX4 43 yX4_orderByNumbers, Cond.instanceMethod yX4_orderByNumbers]
def wsX4_arrange_r3 : List Cond := [Cond.selects RX4 yX4_orderByNumbers yX4_orderByNumbers, Cond.code yX4_orderByNumbers cX4_orderByNumbers 2 none, Cond.methodLink RX4 124 yX4_leastReady, Cond.instanceMethod yX4_leastReady, Cond.selects RX4 yX4_leastReady yX4_leastReady, Cond.code yX4_leastReady cX4_leastReady 2 (some .int), Cond.methodLink RX4 132 yX4_isReady, Cond.instanceMethod yX4_isReady, Cond.selects RX4 yX4_isReady yX4_isReady, Cond.code yX4_isReady cX4_isReady 2 (some .boolean), Cond.fieldLink RX4 9 "ArenaPlan$Plan" "dependencies" "[I", Cond.static yX6_isPartOf, Cond.code yX6_isPartOf cX6_isPartOf 2 (some .boolean), Cond.methodLink RX4 69 yX4_lastStepOf, Cond.instanceMethod yX4_lastStepOf, Cond.selects RX4 yX4_lastStepOf yX4_lastStepOf, Cond.code yX4_lastStepOf cX4_lastStepOf 4 (some .int), Cond.fieldLink RX4 150 "ArenaPlan$Graph" "kept" "[Z", Cond.methodLink RX4 110 Lib.Math.max.name, Cond.static Lib.Math.max.name, Cond.initialized "java/lang/Math", Cond.code Lib.Math.max.name Lib.Math.max.code 2 (some .int), Cond.static yX6_contains, Cond.code yX6_contains cX6_contains 2 (some .boolean)]
def wsX4_arrange_r4 : List Cond := [Cond.methodLink RX4 72 yX4_addCosts, Cond.instanceMethod yX4_addCosts, Cond.selects RX4 yX4_addCosts yX4_addCosts, Cond.code yX4_addCosts cX4_addCosts 3 none, Cond.fieldLink RX4 154 "ArenaPlan$Plan" "greatestCost" "I", Cond.fieldLink RX4 33 "ArenaPlan$Plan" "costOf" "[I", Cond.fieldLink RX4 18 "ArenaPlan$Plan" "size" "[I"]
def wsX4_arrange : List Cond := .code yX4_arrange cX4_arrange 3 none :: ((wsX4_arrange_r1 ++ (wsX4_arrange_r2 ++ (wsX4_arrange_r3 ++ wsX4_arrange_r4))) ++ wsX40 ++ wsX10 ++ (vx_atM "java/lang/ArrayIndexOutOfBoundsException" ["java/lang/IndexOutOfBoundsException", "java/lang/RuntimeException", "java/lang/Exception"]).filter goodWord)
def wsX5_init : List Cond := .code yX5_init cX5_init 2 none :: ([.methodLink RX5 3 objectInit, .instanceMethod objectInit, .code objectInit ⟨#[0xb1]⟩ 1 none, .arrayClass .int, .fieldLink RX5 9 "ArenaPlan$Rings" "reach" "[I", .fieldLink RX5 15 "ArenaPlan$Rings" "stepsLeft" "[I", .fieldLink RX5 18 "ArenaPlan$Rings" "member" "[I", .fieldLink RX5 21 "ArenaPlan$Rings" "graph" "LArenaPlan$Graph;"] ++ wsX50)
def wsX5_findReach : List Cond := .code yX5_findReach cX5_findReach 3 none :: ([.fieldLink RX5 21 "ArenaPlan$Rings" "graph" "LArenaPlan$Graph;", .fieldLink RX5 32 "ArenaPlan$Graph" "count" "I", .fieldLink RX5 9 "ArenaPlan$Rings" "reach" "[I", .methodLink RX5 48 yX1_dependencies, .instanceMethod yX1_dependencies, .selects RX1 yX1_dependencies yX1_dependencies, .initialized RX1, .code yX1_dependencies cX1_dependencies 2 (some .int), .fieldLink RX1 26 "ArenaPlan$Graph" "source" "[[I", .static yX6_setOf, .initialized RX6, .code yX6_setOf cX6_setOf 1 (some .int), .static yX6_contains, .code yX6_contains cX6_contains 2 (some .boolean)] ++ wsX50 ++ wsX10 ++ (vx_atM "java/lang/ArrayIndexOutOfBoundsException" ["java/lang/IndexOutOfBoundsException", "java/lang/RuntimeException", "java/lang/Exception"]).filter goodWord)
def wsX5_nearest : List Cond := .code yX5_nearest cX5_nearest 4 (some .int) :: ([.fieldLink RX5 21 "ArenaPlan$Rings" "graph" "LArenaPlan$Graph;", .fieldLink RX5 67 "ArenaPlan$Graph" "source" "[[I", .fieldLink RX5 15 "ArenaPlan$Rings" "stepsLeft" "[I"] ++ wsX50 ++ wsX10 ++ (vx_atM "java/lang/ArrayIndexOutOfBoundsException" ["java/lang/IndexOutOfBoundsException", "java/lang/RuntimeException", "java/lang/Exception"]).filter goodWord)
def wsX5_countSteps : List Cond := .code yX5_countSteps cX5_countSteps 5 none :: ([.fieldLink RX5 15 "ArenaPlan$Rings" "stepsLeft" "[I", .fieldLink RX5 21 "ArenaPlan$Rings" "graph" "LArenaPlan$Graph;", .fieldLink RX5 32 "ArenaPlan$Graph" "count" "I", .methodLink RX5 61 Lib.Math.min.name, .static Lib.Math.min.name, .initialized "java/lang/Math", .code Lib.Math.min.name Lib.Math.min.code 2 (some .int), .methodLink RX5 52 yJ7_fill_53178, .static yJ7_fill_53178, .initialized RJ7, .code yJ7_fill_53178 cJ7_fill_53178 4 none, .methodLink RX5 58 yX5_nearest, .instanceMethod yX5_nearest, .selects RX5 yX5_nearest yX5_nearest, .initialized RX5, .code yX5_nearest cX5_nearest 4 (some .int), .fieldLink RX5 67 "ArenaPlan$Graph" "source" "[[I"] ++ wsX50 ++ wsX10 ++ (vx_atM "java/lang/ArrayIndexOutOfBoundsException" ["java/lang/IndexOutOfBoundsException", "java/lang/RuntimeException", "java/lang/Exception"]).filter goodWord)
def wsX5_follow : List Cond := .code yX5_follow cX5_follow 3 none :: ([.fieldLink RX5 18 "ArenaPlan$Rings" "member" "[I", .fieldLink RX5 25 "ArenaPlan$Rings" "length" "I", .fieldLink RX5 21 "ArenaPlan$Rings" "graph" "LArenaPlan$Graph;", .fieldLink RX5 32 "ArenaPlan$Graph" "count" "I", .methodLink RX5 58 yX5_nearest, .instanceMethod yX5_nearest, .selects RX5 yX5_nearest yX5_nearest, .initialized RX5, .code yX5_nearest cX5_nearest 4 (some .int), .fieldLink RX5 67 "ArenaPlan$Graph" "source" "[[I", .fieldLink RX5 15 "ArenaPlan$Rings" "stepsLeft" "[I"] ++ wsX50 ++ wsX10 ++ (vx_atM "java/lang/ArrayIndexOutOfBoundsException" ["java/lang/IndexOutOfBoundsException", "java/lang/RuntimeException", "java/lang/Exception"]).filter goodWord)
def wsX5_find_r1 : List Cond := [Cond.fieldLink RX5 25 "ArenaPlan$Rings" "length" "I", Cond.fieldLink RX5 21 "ArenaPlan$Rings" "graph" "LArenaPlan$Graph;", Cond.fieldLink RX5 32 "ArenaPlan$Graph" "count" "I", Cond.fieldLink RX5 9 "ArenaPlan$Rings" "reach" "[I", Cond.methodLink RX5 29 yX5_findReach, Cond.instanceMethod yX5_findReach, Cond.selects RX5 yX5_findReach yX5_findReach, Cond.initialized RX5, Cond.code yX5_findReach cX5_findReach 3 none, Cond.methodLink RX5 48 yX1_dependencies, Cond.instanceMethod yX1_dependencies, Cond.selects RX1 yX1_dependencies yX1_dependencies, Cond.initialized RX1, Cond.code yX1_dependencies cX1_dependencies 2 (some .int), Cond.fieldLink RX1 26 "ArenaPlan$Graph" "source" "[[I", Cond.static yX6_setOf, Cond.initialized RX6, Cond.code yX6_setOf cX6_setOf 1 (some .int), Cond.static yX6_contains, Cond.code yX6_contains cX6_contains 2 (some .boolean), Cond.methodLink RX5 41 yX5_countSteps, Cond.instanceMethod yX5_countSteps, Cond.selects RX5 yX5_countSteps yX5_countSteps, Cond.code yX5_countSteps cX5_countSteps 5 none]
def wsX5_find_r2 : List Cond := [Cond.fieldLink RX5 15 "ArenaPlan$Rings" "stepsLeft" "[I", Cond.methodLink RX5 61 Lib.Math.min.name, Cond.static Lib.Math.min.name, Cond.initialized "java/lang/Math", Cond.code Lib.Math.min.name Lib.Math.min.code 2 (some .int), Cond.methodLink RX5 52 yJ7_fill_53178, Cond.static yJ7_fill_53178, Cond.initialized RJ7, Cond.code yJ7_fill_53178 cJ7_fill_53178 4 none, Cond.methodLink RX5 58 yX5_nearest, Cond.instanceMethod yX5_nearest, Cond.selects RX5 yX5_nearest yX5_nearest, Cond.code yX5_nearest cX5_nearest 4 (some .int), Cond.fieldLink RX5 67 "ArenaPlan$Graph" "source" "[[I", Cond.methodLink RX5 45 yX5_follow, Cond.instanceMethod yX5_follow, Cond.selects RX5 yX5_follow yX5_follow, Cond.code yX5_follow cX5_follow 3 none, Cond.fieldLink RX5 18 "ArenaPlan$Rings" "member" "[I"]
def wsX5_find : List Cond := .code yX5_find cX5_find 2 none :: ((wsX5_find_r1 ++ wsX5_find_r2) ++ wsX50 ++ wsX10 ++ (vx_atM "java/lang/ArrayIndexOutOfBoundsException" ["java/lang/IndexOutOfBoundsException", "java/lang/RuntimeException", "java/lang/Exception"]).filter goodWord)
def wsX6_init_r1 : List Cond := [Cond.methodLink RX6 1 objectInit, Cond.instanceMethod objectInit, Cond.code objectInit ⟨#[0xb1]⟩ 1 none, Cond.classLink RX6 7 RX1, Cond.instantiable RX1 7, Cond.initialized RX1, Cond.fieldLink RX6 10 "ArenaPlan" "graph" "LArenaPlan$Graph;", Cond.classLink RX6 16 RX5, Cond.instantiable RX5 5, Cond.initialized RX5, Cond.fieldLink RX6 21 "ArenaPlan" "rings" "LArenaPlan$Rings;", Cond.classLink RX6 25 RX4, Cond.instantiable RX4 12, Cond.initialized RX4, Cond.fieldLink RX6 28 "ArenaPlan" "plan" "LArenaPlan$Plan;", Cond.classLink RX6 32 RX3, Cond.instantiable RX3 4, Cond.initialized RX3, Cond.fieldLink RX6 37 "ArenaPlan" "places" "LArenaPlan$Places;", Cond.classLink RX6 41 RX0, Cond.instantiable RX0 4, Cond.initialized RX0, Cond.fieldLink RX6 46 "ArenaPlan" "cells" "LArenaPlan$Cells;", Cond.classLink RX6 50 RX2]
def wsX6_init_r2 : List Cond := [Cond.instantiable RX2 2, Cond.initialized RX2, Cond.fieldLink RX6 53 "ArenaPlan" "search" "LArenaPlan$LeastPeak;", Cond.instanceMethod yX1_init, Cond.code yX1_init cX1_init 1 none, Cond.methodLink RX1 3 objectInit, Cond.arrayClass .int, Cond.fieldLink RX1 9 "ArenaPlan$Graph" "operation" "[I", Cond.fieldLink RX1 15 "ArenaPlan$Graph" "p" "[I", Cond.fieldLink RX1 18 "ArenaPlan$Graph" "q" "[I", Cond.classLink RX1 21 "[[I", Cond.fieldLink RX1 23 "ArenaPlan$Graph" "given" "[[I", Cond.fieldLink RX1 26 "ArenaPlan$Graph" "source" "[[I", Cond.arrayClass .boolean, Cond.fieldLink RX1 29 "ArenaPlan$Graph" "kept" "[Z", Cond.methodLink RX6 18 yX5_init, Cond.instanceMethod yX5_init, Cond.code yX5_init cX5_init 2 none, Cond.methodLink RX5 3 objectInit, Cond.fieldLink RX5 9 "ArenaPlan$Rings" "reach" "[I", Cond.fieldLink RX5 15 "ArenaPlan$Rings" "stepsLeft" "[I", Cond.fieldLink RX5 18 "ArenaPlan$Rings" "member" "[I", Cond.fieldLink RX5 21 "ArenaPlan$Rings" "graph" "LArenaPlan$Graph;", Cond.methodLink RX6 27 yX4_init]
def wsX6_init_r3 : List Cond := [Cond.instanceMethod yX4_init, Cond.code yX4_init cX4_init 2 none, Cond.methodLink RX4 3 objectInit, Cond.fieldLink RX4 9 "ArenaPlan$Plan" "dependencies" "[I", Cond.fieldLink RX4 15 "ArenaPlan$Plan" "dependents" "[I", Cond.fieldLink RX4 18 "ArenaPlan$Plan" "size" "[I", Cond.fieldLink RX4 21 "ArenaPlan$Plan" "label" "[I", Cond.fieldLink RX4 24 "ArenaPlan$Plan" "sequence" "[I", Cond.fieldLink RX4 27 "ArenaPlan$Plan" "step" "[I", Cond.fieldLink RX4 30 "ArenaPlan$Plan" "last" "[I", Cond.fieldLink RX4 33 "ArenaPlan$Plan" "costOf" "[I", Cond.fieldLink RX4 36 "ArenaPlan$Plan" "graph" "LArenaPlan$Graph;", Cond.methodLink RX6 34 yX3_init, Cond.instanceMethod yX3_init, Cond.code yX3_init cX3_init 2 none, Cond.methodLink RX3 3 objectInit, Cond.fieldLink RX3 9 "ArenaPlan$Places" "bySize" "[I", Cond.fieldLink RX3 15 "ArenaPlan$Places" "start" "[I", Cond.fieldLink RX3 18 "ArenaPlan$Places" "plan" "LArenaPlan$Plan;", Cond.methodLink RX6 43 yX0_init, Cond.instanceMethod yX0_init, Cond.code yX0_init cX0_init 2 none, Cond.methodLink RX0 3 objectInit, Cond.fieldLink RX0 9 "ArenaPlan$Cells" "value" "[I"]
def wsX6_init_r4 : List Cond := [Cond.fieldLink RX0 15 "ArenaPlan$Cells" "places" "LArenaPlan$Places;", Cond.fieldLink RX0 19 "ArenaPlan$Places" "plan" "LArenaPlan$Plan;", Cond.fieldLink RX0 25 "ArenaPlan$Cells" "plan" "LArenaPlan$Plan;", Cond.fieldLink RX0 26 "ArenaPlan$Plan" "graph" "LArenaPlan$Graph;", Cond.fieldLink RX0 32 "ArenaPlan$Cells" "graph" "LArenaPlan$Graph;", Cond.methodLink RX6 52 yX2_init, Cond.instanceMethod yX2_init, Cond.code yX2_init cX2_init 2 none, Cond.methodLink RX2 3 objectInit, Cond.fieldLink RX2 9 "ArenaPlan$LeastPeak" "peakOf" "[I", Cond.fieldLink RX2 15 "ArenaPlan$LeastPeak" "plan" "LArenaPlan$Plan;"]
def wsX6_init : List Cond := .code yX6_init cX6_init 1 none :: ((wsX6_init_r1 ++ (wsX6_init_r2 ++ (wsX6_init_r3 ++ wsX6_init_r4))) ++ wsX10 ++ wsX60 ++ wsX50 ++ wsX40 ++ wsX30 ++ wsX00 ++ wsX20)
def wsX6_canBeMade : List Cond := .code yX6_canBeMade cX6_canBeMade 3 (some .boolean) :: ([.fieldLink RX6 223 "ArenaPlan" "INPUTS" "[I", .methodLink RX6 95 yX6_isWithin, .static yX6_isWithin, .initialized RX6, .code yX6_isWithin cX6_isWithin 2 (some .boolean)])
def wsX6_forgetPlan : List Cond := .code yX6_forgetPlan cX6_forgetPlan 1 none :: ([.fieldLink RX6 156 "ArenaPlan" "planned" "Z"] ++ wsX60)
def wsX6_make_r1 : List Cond := [Cond.classLink RX6 61 "java/lang/IllegalArgumentException", Cond.initialized "java/lang/IllegalArgumentException", Cond.classLink RX6 72 "java/lang/UnsupportedOperationException", Cond.initialized "java/lang/UnsupportedOperationException", Cond.fieldLink RX6 10 "ArenaPlan" "graph" "LArenaPlan$Graph;", Cond.fieldLink RX6 68 "ArenaPlan$Graph" "count" "I", Cond.methodLink RX6 57 yX6_canBeMade, Cond.static yX6_canBeMade, Cond.initialized RX6, Cond.code yX6_canBeMade cX6_canBeMade 3 (some .boolean), Cond.fieldLink RX6 223 "ArenaPlan" "INPUTS" "[I", Cond.methodLink RX6 95 yX6_isWithin, Cond.static yX6_isWithin, Cond.code yX6_isWithin cX6_isWithin 2 (some .boolean), Cond.methodLink RX6 77 yX6_forgetPlan, Cond.instanceMethod yX6_forgetPlan, Cond.selects RX6 yX6_forgetPlan yX6_forgetPlan, Cond.code yX6_forgetPlan cX6_forgetPlan 1 none, Cond.fieldLink RX6 156 "ArenaPlan" "planned" "Z", Cond.methodLink RX6 80 yX1_add, Cond.instanceMethod yX1_add, Cond.selects RX1 yX1_add yX1_add, Cond.initialized RX1, Cond.code yX1_add cX1_add 5 (some .int)]
def wsX6_make_r2 : List Cond := [Cond.fieldLink RX1 33 "ArenaPlan$Graph" "count" "I", Cond.fieldLink RX1 9 "ArenaPlan$Graph" "operation" "[I", Cond.fieldLink RX1 15 "ArenaPlan$Graph" "p" "[I", Cond.fieldLink RX1 18 "ArenaPlan$Graph" "q" "[I", Cond.fieldLink RX1 26 "ArenaPlan$Graph" "source" "[[I", Cond.methodLink RX1 44 yJ7_fill_53178, Cond.static yJ7_fill_53178, Cond.initialized RJ7, Cond.code yJ7_fill_53178 cJ7_fill_53178 4 none]
def wsX6_make : List Cond := .code yX6_make cX6_make 4 (some .int) :: ((wsX6_make_r1 ++ wsX6_make_r2) ++ wsX60 ++ wsX10 ++ (vx_atS RX6 65 "java/lang/IllegalArgumentException" ["java/lang/RuntimeException", "java/lang/Exception"]).filter goodWord ++ (vx_atS RX6 76 "java/lang/UnsupportedOperationException" ["java/lang/RuntimeException", "java/lang/Exception"]).filter goodWord ++ (vx_atM "java/lang/ArrayIndexOutOfBoundsException" ["java/lang/IndexOutOfBoundsException", "java/lang/RuntimeException", "java/lang/Exception"]).filter goodWord)
def wsX6_give : List Cond := .code yX6_give cX6_give 4 (some .boolean) :: ([.fieldLink RX6 10 "ArenaPlan" "graph" "LArenaPlan$Graph;", .fieldLink RX6 88 "ArenaPlan$Graph" "operation" "[I", .fieldLink RX6 92 "ArenaPlan$Graph" "p" "[I", .fieldLink RX6 99 "ArenaPlan$Graph" "given" "[[I", .methodLink RX6 84 yX1_has, .instanceMethod yX1_has, .selects RX1 yX1_has yX1_has, .initialized RX1, .code yX1_has cX1_has 2 (some .boolean), .fieldLink RX1 33 "ArenaPlan$Graph" "count" "I", .static yX6_isWithin, .initialized RX6, .code yX6_isWithin cX6_isWithin 2 (some .boolean), .methodLink RX6 95 yX6_isWithin] ++ wsX60 ++ wsX10 ++ (vx_atM "java/lang/ArrayIndexOutOfBoundsException" ["java/lang/IndexOutOfBoundsException", "java/lang/RuntimeException", "java/lang/Exception"]).filter goodWord)
def wsX6_wire : List Cond := .code yX6_wire cX6_wire 4 (some .boolean) :: ([.fieldLink RX6 10 "ArenaPlan" "graph" "LArenaPlan$Graph;", .fieldLink RX6 107 "ArenaPlan$Graph" "source" "[[I", .methodLink RX6 84 yX1_has, .instanceMethod yX1_has, .selects RX1 yX1_has yX1_has, .initialized RX1, .code yX1_has cX1_has 2 (some .boolean), .fieldLink RX1 33 "ArenaPlan$Graph" "count" "I", .static yX6_isWithin, .initialized RX6, .code yX6_isWithin cX6_isWithin 2 (some .boolean), .methodLink RX6 103 yX1_inputs, .instanceMethod yX1_inputs, .selects RX1 yX1_inputs yX1_inputs, .code yX1_inputs cX1_inputs 2 (some .int), .fieldLink RX1 9 "ArenaPlan$Graph" "operation" "[I", .methodLink RX6 95 yX6_isWithin, .methodLink RX6 77 yX6_forgetPlan, .instanceMethod yX6_forgetPlan, .selects RX6 yX6_forgetPlan yX6_forgetPlan, .code yX6_forgetPlan cX6_forgetPlan 1 none, .fieldLink RX6 156 "ArenaPlan" "planned" "Z"] ++ wsX60 ++ wsX10 ++ (vx_atM "java/lang/ArrayIndexOutOfBoundsException" ["java/lang/IndexOutOfBoundsException", "java/lang/RuntimeException", "java/lang/Exception"]).filter goodWord)
def wsX6_keep : List Cond := .code yX6_keep cX6_keep 3 (some .boolean) :: ([.fieldLink RX6 10 "ArenaPlan" "graph" "LArenaPlan$Graph;", .fieldLink RX6 110 "ArenaPlan$Graph" "kept" "[Z", .methodLink RX6 84 yX1_has, .instanceMethod yX1_has, .selects RX1 yX1_has yX1_has, .initialized RX1, .code yX1_has cX1_has 2 (some .boolean), .fieldLink RX1 33 "ArenaPlan$Graph" "count" "I", .static yX6_isWithin, .initialized RX6, .code yX6_isWithin cX6_isWithin 2 (some .boolean), .methodLink RX6 77 yX6_forgetPlan, .instanceMethod yX6_forgetPlan, .selects RX6 yX6_forgetPlan yX6_forgetPlan, .code yX6_forgetPlan cX6_forgetPlan 1 none, .fieldLink RX6 156 "ArenaPlan" "planned" "Z"] ++ wsX60 ++ wsX10 ++ (vx_atM "java/lang/ArrayIndexOutOfBoundsException" ["java/lang/IndexOutOfBoundsException", "java/lang/RuntimeException", "java/lang/Exception"]).filter goodWord)
def wsX6_nodes : List Cond := .code yX6_nodes cX6_nodes 1 (some .int) :: ([.fieldLink RX6 10 "ArenaPlan" "graph" "LArenaPlan$Graph;", .fieldLink RX6 68 "ArenaPlan$Graph" "count" "I"] ++ wsX60 ++ wsX10)
def wsX6_ring_r1 : List Cond := [Cond.classLink RX6 120 "java/util/NoSuchElementException", Cond.initialized "java/util/NoSuchElementException", Cond.fieldLink RX6 21 "ArenaPlan" "rings" "LArenaPlan$Rings;", Cond.fieldLink RX6 117 "ArenaPlan$Rings" "length" "I", Cond.fieldLink RX6 125 "ArenaPlan$Rings" "member" "[I", Cond.methodLink RX6 114 yX5_find, Cond.instanceMethod yX5_find, Cond.selects RX5 yX5_find yX5_find, Cond.initialized RX5, Cond.code yX5_find cX5_find 2 none, Cond.fieldLink RX5 25 "ArenaPlan$Rings" "length" "I", Cond.fieldLink RX5 21 "ArenaPlan$Rings" "graph" "LArenaPlan$Graph;", Cond.fieldLink RX5 32 "ArenaPlan$Graph" "count" "I", Cond.fieldLink RX5 9 "ArenaPlan$Rings" "reach" "[I", Cond.methodLink RX5 29 yX5_findReach, Cond.instanceMethod yX5_findReach, Cond.selects RX5 yX5_findReach yX5_findReach, Cond.code yX5_findReach cX5_findReach 3 none, Cond.methodLink RX5 48 yX1_dependencies, Cond.instanceMethod yX1_dependencies, Cond.selects RX1 yX1_dependencies yX1_dependencies, Cond.initialized RX1, Cond.code yX1_dependencies cX1_dependencies 2 (some .int), Cond.fieldLink RX1 26 "ArenaPlan$Graph" "source" "[[I"]
def wsX6_ring_r2 : List Cond := [Cond.static yX6_setOf, Cond.initialized RX6, Cond.code yX6_setOf cX6_setOf 1 (some .int), Cond.static yX6_contains, Cond.code yX6_contains cX6_contains 2 (some .boolean), Cond.methodLink RX5 41 yX5_countSteps, Cond.instanceMethod yX5_countSteps, Cond.selects RX5 yX5_countSteps yX5_countSteps, Cond.code yX5_countSteps cX5_countSteps 5 none, Cond.fieldLink RX5 15 "ArenaPlan$Rings" "stepsLeft" "[I", Cond.methodLink RX5 61 Lib.Math.min.name, Cond.static Lib.Math.min.name, Cond.initialized "java/lang/Math", Cond.code Lib.Math.min.name Lib.Math.min.code 2 (some .int), Cond.methodLink RX5 52 yJ7_fill_53178, Cond.static yJ7_fill_53178, Cond.initialized RJ7, Cond.code yJ7_fill_53178 cJ7_fill_53178 4 none, Cond.methodLink RX5 58 yX5_nearest, Cond.instanceMethod yX5_nearest, Cond.selects RX5 yX5_nearest yX5_nearest, Cond.code yX5_nearest cX5_nearest 4 (some .int), Cond.fieldLink RX5 67 "ArenaPlan$Graph" "source" "[[I", Cond.methodLink RX5 45 yX5_follow]
def wsX6_ring_r3 : List Cond := [Cond.instanceMethod yX5_follow, Cond.selects RX5 yX5_follow yX5_follow, Cond.code yX5_follow cX5_follow 3 none, Cond.fieldLink RX5 18 "ArenaPlan$Rings" "member" "[I", Cond.methodLink RX6 95 yX6_isWithin, Cond.static yX6_isWithin, Cond.code yX6_isWithin cX6_isWithin 2 (some .boolean)]
def wsX6_ring : List Cond := .code yX6_ring cX6_ring 2 (some .int) :: ((wsX6_ring_r1 ++ (wsX6_ring_r2 ++ wsX6_ring_r3)) ++ wsX60 ++ wsX50 ++ wsX10 ++ (vx_atSX RX6 124 "java/util/NoSuchElementException" 13 prog_23_method_4_code ["java/lang/RuntimeException", "java/lang/Exception"]).filter goodWord ++ (vx_atM "java/lang/ArrayIndexOutOfBoundsException" ["java/lang/IndexOutOfBoundsException", "java/lang/RuntimeException", "java/lang/Exception"]).filter goodWord)
def wsX6_plan_r1 : List Cond := [Cond.classLink RX6 61 "java/lang/IllegalArgumentException", Cond.initialized "java/lang/IllegalArgumentException", Cond.classLink RX6 120 "java/util/NoSuchElementException", Cond.initialized "java/util/NoSuchElementException", Cond.classLink RX6 136 "java/lang/IllegalStateException", Cond.initialized "java/lang/IllegalStateException", Cond.classLink RX6 144 "java/lang/ArithmeticException", Cond.initialized "java/lang/ArithmeticException", Cond.fieldLink RX6 10 "ArenaPlan" "graph" "LArenaPlan$Graph;", Cond.fieldLink RX6 68 "ArenaPlan$Graph" "count" "I", Cond.fieldLink RX6 21 "ArenaPlan" "rings" "LArenaPlan$Rings;", Cond.fieldLink RX6 117 "ArenaPlan$Rings" "length" "I", Cond.fieldLink RX6 28 "ArenaPlan" "plan" "LArenaPlan$Plan;", Cond.fieldLink RX6 37 "ArenaPlan" "places" "LArenaPlan$Places;", Cond.fieldLink RX6 156 "ArenaPlan" "planned" "Z", Cond.fieldLink RX6 160 "ArenaPlan" "ran" "Z", Cond.fieldLink RX6 163 "ArenaPlan" "leastPeak" "I", Cond.fieldLink RX6 166 "ArenaPlan$Places" "arena" "I", Cond.methodLink RX6 130 yX1_isWired, Cond.instanceMethod yX1_isWired, Cond.selects RX1 yX1_isWired yX1_isWired, Cond.initialized RX1, Cond.code yX1_isWired cX1_isWired 3 (some .boolean), Cond.fieldLink RX1 33 "ArenaPlan$Graph" "count" "I"]
def wsX6_plan_r2 : List Cond := [Cond.fieldLink RX1 26 "ArenaPlan$Graph" "source" "[[I", Cond.methodLink RX1 50 yX1_inputs, Cond.instanceMethod yX1_inputs, Cond.selects RX1 yX1_inputs yX1_inputs, Cond.code yX1_inputs cX1_inputs 2 (some .int), Cond.fieldLink RX1 9 "ArenaPlan$Graph" "operation" "[I", Cond.methodLink RX6 114 yX5_find, Cond.instanceMethod yX5_find, Cond.selects RX5 yX5_find yX5_find, Cond.initialized RX5, Cond.code yX5_find cX5_find 2 none, Cond.fieldLink RX5 25 "ArenaPlan$Rings" "length" "I", Cond.fieldLink RX5 21 "ArenaPlan$Rings" "graph" "LArenaPlan$Graph;", Cond.fieldLink RX5 32 "ArenaPlan$Graph" "count" "I", Cond.fieldLink RX5 9 "ArenaPlan$Rings" "reach" "[I", Cond.methodLink RX5 29 yX5_findReach, Cond.instanceMethod yX5_findReach, Cond.selects RX5 yX5_findReach yX5_findReach, Cond.code yX5_findReach cX5_findReach 3 none, Cond.methodLink RX5 48 yX1_dependencies, Cond.instanceMethod yX1_dependencies, Cond.selects RX1 yX1_dependencies yX1_dependencies, Cond.code yX1_dependencies cX1_dependencies 2 (some .int), Cond.static yX6_setOf]
def wsX6_plan_r3 : List Cond := [Cond.initialized RX6, Cond.code yX6_setOf cX6_setOf 1 (some .int), Cond.static yX6_contains, Cond.code yX6_contains cX6_contains 2 (some .boolean), Cond.methodLink RX5 41 yX5_countSteps, Cond.instanceMethod yX5_countSteps, Cond.selects RX5 yX5_countSteps yX5_countSteps, Cond.code yX5_countSteps cX5_countSteps 5 none, Cond.fieldLink RX5 15 "ArenaPlan$Rings" "stepsLeft" "[I", Cond.methodLink RX5 61 Lib.Math.min.name, Cond.static Lib.Math.min.name, Cond.initialized "java/lang/Math", Cond.code Lib.Math.min.name Lib.Math.min.code 2 (some .int), Cond.methodLink RX5 52 yJ7_fill_53178, Cond.static yJ7_fill_53178, Cond.initialized RJ7, Cond.code yJ7_fill_53178 cJ7_fill_53178 4 none, Cond.methodLink RX5 58 yX5_nearest, Cond.instanceMethod yX5_nearest, Cond.selects RX5 yX5_nearest yX5_nearest, Cond.code yX5_nearest cX5_nearest 4 (some .int), Cond.fieldLink RX5 67 "ArenaPlan$Graph" "source" "[[I", Cond.methodLink RX5 45 yX5_follow, Cond.instanceMethod yX5_follow]
def wsX6_plan_r4 : List Cond := [Cond.selects RX5 yX5_follow yX5_follow, Cond.code yX5_follow cX5_follow 3 none, Cond.fieldLink RX5 18 "ArenaPlan$Rings" "member" "[I", Cond.methodLink RX6 141 yX4_measure, Cond.instanceMethod yX4_measure, Cond.selects RX4 yX4_measure yX4_measure, Cond.initialized RX4, Cond.code yX4_measure cX4_measure 3 (some .boolean), Cond.fieldLink RX4 46 "ArenaPlan$Plan" "length" "I", Cond.fieldLink RX4 24 "ArenaPlan$Plan" "sequence" "[I", Cond.fieldLink RX4 18 "ArenaPlan$Plan" "size" "[I", Cond.fieldLink RX4 21 "ArenaPlan$Plan" "label" "[I", Cond.methodLink RX4 40 yX4_findNeighbours, Cond.instanceMethod yX4_findNeighbours, Cond.selects RX4 yX4_findNeighbours yX4_findNeighbours, Cond.code yX4_findNeighbours cX4_findNeighbours 3 none, Cond.fieldLink RX4 15 "ArenaPlan$Plan" "dependents" "[I", Cond.fieldLink RX4 36 "ArenaPlan$Plan" "graph" "LArenaPlan$Graph;", Cond.fieldLink RX4 64 "ArenaPlan$Graph" "count" "I", Cond.fieldLink RX4 9 "ArenaPlan$Plan" "dependencies" "[I", Cond.methodLink RX4 75 yJ7_fill_53178, Cond.methodLink RX4 81 yX1_dependencies, Cond.methodLink RX4 43 yX4_orderByNumbers, Cond.instanceMethod yX4_orderByNumbers]
def wsX6_plan_r5 : List Cond := [Cond.selects RX4 yX4_orderByNumbers yX4_orderByNumbers, Cond.code yX4_orderByNumbers cX4_orderByNumbers 2 none, Cond.methodLink RX4 121 yX4_beginOrder, Cond.instanceMethod yX4_beginOrder, Cond.selects RX4 yX4_beginOrder yX4_beginOrder, Cond.code yX4_beginOrder cX4_beginOrder 1 none, Cond.fieldLink RX4 27 "ArenaPlan$Plan" "step" "[I", Cond.fieldLink RX4 118 "ArenaPlan$Plan" "inOrder" "I", Cond.methodLink RX4 124 yX4_leastReady, Cond.instanceMethod yX4_leastReady, Cond.selects RX4 yX4_leastReady yX4_leastReady, Cond.code yX4_leastReady cX4_leastReady 2 (some .int), Cond.methodLink RX4 132 yX4_isReady, Cond.instanceMethod yX4_isReady, Cond.selects RX4 yX4_isReady yX4_isReady, Cond.code yX4_isReady cX4_isReady 2 (some .boolean), Cond.methodLink RX4 135 yX4_isMissing, Cond.instanceMethod yX4_isMissing, Cond.selects RX4 yX4_isMissing yX4_isMissing, Cond.code yX4_isMissing cX4_isMissing 2 (some .boolean), Cond.static yX6_isPartOf, Cond.code yX6_isPartOf cX6_isPartOf 2 (some .boolean), Cond.methodLink RX4 128 yX4_append, Cond.instanceMethod yX4_append]
def wsX6_plan_r6 : List Cond := [Cond.selects RX4 yX4_append yX4_append, Cond.code yX4_append cX4_append 2 none, Cond.methodLink RX4 50 yX4_sizesFit, Cond.instanceMethod yX4_sizesFit, Cond.selects RX4 yX4_sizesFit yX4_sizesFit, Cond.code yX4_sizesFit cX4_sizesFit 4 (some .boolean), Cond.fieldLink RX4 98 "ArenaPlan$Graph" "operation" "[I", Cond.fieldLink RX4 101 "ArenaPlan$Graph" "p" "[I", Cond.fieldLink RX4 104 "ArenaPlan$Graph" "q" "[I", Cond.methodLink RX4 94 yX4_sizeOfSource, Cond.instanceMethod yX4_sizeOfSource, Cond.selects RX4 yX4_sizeOfSource yX4_sizeOfSource, Cond.code yX4_sizeOfSource cX4_sizeOfSource 4 (some .int), Cond.fieldLink RX4 90 "ArenaPlan$Graph" "source" "[[I", Cond.methodLink RX4 54 yX4_sizeOf, Cond.instanceMethod yX4_sizeOf, Cond.selects RX4 yX4_sizeOf yX4_sizeOf, Cond.code yX4_sizeOf cX4_sizeOf 3 (some .int), Cond.methodLink RX4 58 yX4_labelOf, Cond.instanceMethod yX4_labelOf, Cond.selects RX4 yX4_labelOf yX4_labelOf, Cond.code yX4_labelOf cX4_labelOf 7 (some .int), Cond.methodLink RX4 110 Lib.Math.max.name, Cond.static Lib.Math.max.name]
def wsX6_plan_r7 : List Cond := [Cond.code Lib.Math.max.name Lib.Math.max.code 2 (some .int), Cond.methodLink RX4 115 Lib.Math.min.name, Cond.methodLink RX4 107 yX1_inputs, Cond.methodLink RX6 149 yX4_arrange, Cond.instanceMethod yX4_arrange, Cond.selects RX4 yX4_arrange yX4_arrange, Cond.code yX4_arrange cX4_arrange 3 none, Cond.fieldLink RX4 30 "ArenaPlan$Plan" "last" "[I", Cond.methodLink RX4 61 yX4_orderByLabels, Cond.instanceMethod yX4_orderByLabels, Cond.selects RX4 yX4_orderByLabels yX4_orderByLabels, Cond.code yX4_orderByLabels cX4_orderByLabels 2 none, Cond.methodLink RX4 141 yX4_visit, Cond.instanceMethod yX4_visit, Cond.selects RX4 yX4_visit yX4_visit, Cond.code yX4_visit cX4_visit 3 none, Cond.methodLink RX4 144 yX4_firstDue, Cond.instanceMethod yX4_firstDue, Cond.selects RX4 yX4_firstDue yX4_firstDue, Cond.code yX4_firstDue cX4_firstDue 5 (some .int), Cond.methodLink RX4 147 yX4_sourceToVisit, Cond.instanceMethod yX4_sourceToVisit, Cond.selects RX4 yX4_sourceToVisit yX4_sourceToVisit, Cond.code yX4_sourceToVisit cX4_sourceToVisit 7 (some .int)]
def wsX6_plan_r8 : List Cond := [Cond.methodLink RX4 69 yX4_lastStepOf, Cond.instanceMethod yX4_lastStepOf, Cond.selects RX4 yX4_lastStepOf yX4_lastStepOf, Cond.code yX4_lastStepOf cX4_lastStepOf 4 (some .int), Cond.fieldLink RX4 150 "ArenaPlan$Graph" "kept" "[Z", Cond.methodLink RX4 72 yX4_addCosts, Cond.instanceMethod yX4_addCosts, Cond.selects RX4 yX4_addCosts yX4_addCosts, Cond.code yX4_addCosts cX4_addCosts 3 none, Cond.fieldLink RX4 154 "ArenaPlan$Plan" "greatestCost" "I", Cond.fieldLink RX4 33 "ArenaPlan$Plan" "costOf" "[I", Cond.methodLink RX6 153 yX3_assign, Cond.instanceMethod yX3_assign, Cond.selects RX3 yX3_assign yX3_assign, Cond.initialized RX3, Cond.code yX3_assign cX3_assign 3 none, Cond.fieldLink RX3 25 "ArenaPlan$Places" "arena" "I", Cond.fieldLink RX3 18 "ArenaPlan$Places" "plan" "LArenaPlan$Plan;", Cond.fieldLink RX3 29 "ArenaPlan$Plan" "length" "I", Cond.fieldLink RX3 9 "ArenaPlan$Places" "bySize" "[I", Cond.fieldLink RX3 15 "ArenaPlan$Places" "start" "[I", Cond.methodLink RX3 41 Lib.Math.max.name, Cond.methodLink RX3 22 yX3_sortBySize, Cond.instanceMethod yX3_sortBySize]
def wsX6_plan_r9 : List Cond := [Cond.selects RX3 yX3_sortBySize yX3_sortBySize, Cond.code yX3_sortBySize cX3_sortBySize 4 none, Cond.fieldLink RX3 47 "ArenaPlan$Plan" "sequence" "[I", Cond.fieldLink RX3 50 "ArenaPlan$Plan" "size" "[I", Cond.methodLink RX3 34 yX3_lowestStart, Cond.instanceMethod yX3_lowestStart, Cond.selects RX3 yX3_lowestStart yX3_lowestStart, Cond.code yX3_lowestStart cX3_lowestStart 6 (some .int), Cond.methodLink RX3 53 yX3_isInTheWay, Cond.instanceMethod yX3_isInTheWay, Cond.selects RX3 yX3_isInTheWay yX3_isInTheWay, Cond.code yX3_isInTheWay cX3_isInTheWay 4 (some .boolean), Cond.methodLink RX3 57 yX4_liveTogether, Cond.instanceMethod yX4_liveTogether, Cond.selects RX4 yX4_liveTogether yX4_liveTogether, Cond.code yX4_liveTogether cX4_liveTogether 3 (some .boolean), Cond.methodLink RX3 38 yX3_end, Cond.instanceMethod yX3_end, Cond.selects RX3 yX3_end yX3_end, Cond.code yX3_end cX3_end 2 (some .int)]
def wsX6_plan : List Cond := .code yX6_plan cX6_plan 2 (some .int) :: ((wsX6_plan_r1 ++ (wsX6_plan_r2 ++ (wsX6_plan_r3 ++ (wsX6_plan_r4 ++ (wsX6_plan_r5 ++ (wsX6_plan_r6 ++ (wsX6_plan_r7 ++ (wsX6_plan_r8 ++ wsX6_plan_r9)))))))) ++ wsX60 ++ wsX10 ++ wsX50 ++ wsX30 ++ wsX40 ++ (vx_atS RX6 65 "java/lang/IllegalArgumentException" ["java/lang/RuntimeException", "java/lang/Exception"]).filter goodWord ++ (vx_atSX RX6 124 "java/util/NoSuchElementException" 13 prog_23_method_4_code ["java/lang/RuntimeException", "java/lang/Exception"]).filter goodWord ++ (vx_atS RX6 140 "java/lang/IllegalStateException" ["java/lang/RuntimeException", "java/lang/Exception"]).filter goodWord ++ (vx_atS RX6 148 "java/lang/ArithmeticException" ["java/lang/RuntimeException", "java/lang/Exception"]).filter goodWord ++ (vx_atM "java/lang/ArrayIndexOutOfBoundsException" ["java/lang/IndexOutOfBoundsException", "java/lang/RuntimeException", "java/lang/Exception"]).filter goodWord)
def wsX6_needPlan : List Cond := .code yX6_needPlan cX6_needPlan 1 none :: ([.classLink RX6 136 "java/lang/IllegalStateException", .initialized "java/lang/IllegalStateException", .fieldLink RX6 156 "ArenaPlan" "planned" "Z"] ++ wsX60 ++ (vx_atS RX6 140 "java/lang/IllegalStateException" ["java/lang/RuntimeException", "java/lang/Exception"]).filter goodWord)
def wsX6_needWithin : List Cond := .code yX6_needWithin cX6_needWithin 2 none :: ([.classLink RX6 218 "java/lang/IndexOutOfBoundsException", .initialized "java/lang/IndexOutOfBoundsException", .methodLink RX6 95 yX6_isWithin, .static yX6_isWithin, .initialized RX6, .code yX6_isWithin cX6_isWithin 2 (some .boolean)] ++ (vx_atS RX6 222 "java/lang/IndexOutOfBoundsException" ["java/lang/RuntimeException", "java/lang/Exception"]).filter goodWord)
def wsX6_order : List Cond := .code yX6_order cX6_order 2 (some .int) :: ([.fieldLink RX6 10 "ArenaPlan" "graph" "LArenaPlan$Graph;", .fieldLink RX6 68 "ArenaPlan$Graph" "count" "I", .fieldLink RX6 28 "ArenaPlan" "plan" "LArenaPlan$Plan;", .fieldLink RX6 176 "ArenaPlan$Plan" "sequence" "[I", .methodLink RX6 169 yX6_needPlan, .instanceMethod yX6_needPlan, .selects RX6 yX6_needPlan yX6_needPlan, .initialized RX6, .code yX6_needPlan cX6_needPlan 1 none, .classLink RX6 136 "java/lang/IllegalStateException", .initialized "java/lang/IllegalStateException", .fieldLink RX6 156 "ArenaPlan" "planned" "Z", .methodLink RX6 172 yX6_needWithin, .static yX6_needWithin, .code yX6_needWithin cX6_needWithin 2 none, .classLink RX6 218 "java/lang/IndexOutOfBoundsException", .initialized "java/lang/IndexOutOfBoundsException", .methodLink RX6 95 yX6_isWithin, .static yX6_isWithin, .code yX6_isWithin cX6_isWithin 2 (some .boolean)] ++ wsX60 ++ wsX10 ++ wsX40 ++ (vx_atM "java/lang/ArrayIndexOutOfBoundsException" ["java/lang/IndexOutOfBoundsException", "java/lang/RuntimeException", "java/lang/Exception"]).filter goodWord ++ (vx_atS RX6 140 "java/lang/IllegalStateException" ["java/lang/RuntimeException", "java/lang/Exception"]).filter goodWord ++ (vx_atS RX6 222 "java/lang/IndexOutOfBoundsException" ["java/lang/RuntimeException", "java/lang/Exception"]).filter goodWord)
def wsX6_about_r1 : List Cond := [Cond.fieldLink RX6 10 "ArenaPlan" "graph" "LArenaPlan$Graph;", Cond.fieldLink RX6 68 "ArenaPlan$Graph" "count" "I", Cond.fieldLink RX6 28 "ArenaPlan" "plan" "LArenaPlan$Plan;", Cond.fieldLink RX6 179 "ArenaPlan$Plan" "size" "[I", Cond.fieldLink RX6 182 "ArenaPlan$Plan" "step" "[I", Cond.fieldLink RX6 185 "ArenaPlan$Plan" "last" "[I", Cond.fieldLink RX6 37 "ArenaPlan" "places" "LArenaPlan$Places;", Cond.fieldLink RX6 188 "ArenaPlan$Places" "start" "[I", Cond.fieldLink RX6 191 "ArenaPlan$Plan" "label" "[I", Cond.methodLink RX6 169 yX6_needPlan, Cond.instanceMethod yX6_needPlan, Cond.selects RX6 yX6_needPlan yX6_needPlan, Cond.initialized RX6, Cond.code yX6_needPlan cX6_needPlan 1 none, Cond.classLink RX6 136 "java/lang/IllegalStateException", Cond.initialized "java/lang/IllegalStateException", Cond.fieldLink RX6 156 "ArenaPlan" "planned" "Z", Cond.methodLink RX6 172 yX6_needWithin, Cond.static yX6_needWithin, Cond.code yX6_needWithin cX6_needWithin 2 none, Cond.classLink RX6 218 "java/lang/IndexOutOfBoundsException", Cond.initialized "java/lang/IndexOutOfBoundsException", Cond.methodLink RX6 95 yX6_isWithin, Cond.static yX6_isWithin]
def wsX6_about_r2 : List Cond := [Cond.code yX6_isWithin cX6_isWithin 2 (some .boolean)]
def wsX6_about : List Cond := .code yX6_about cX6_about 3 (some .int) :: ((wsX6_about_r1 ++ wsX6_about_r2) ++ wsX60 ++ wsX10 ++ wsX40 ++ wsX30 ++ (vx_atM "java/lang/ArrayIndexOutOfBoundsException" ["java/lang/IndexOutOfBoundsException", "java/lang/RuntimeException", "java/lang/Exception"]).filter goodWord ++ (vx_atS RX6 140 "java/lang/IllegalStateException" ["java/lang/RuntimeException", "java/lang/Exception"]).filter goodWord ++ (vx_atS RX6 222 "java/lang/IndexOutOfBoundsException" ["java/lang/RuntimeException", "java/lang/Exception"]).filter goodWord)
def wsX6_cost : List Cond := .code yX6_cost cX6_cost 2 (some .int) :: ([.fieldLink RX6 10 "ArenaPlan" "graph" "LArenaPlan$Graph;", .fieldLink RX6 68 "ArenaPlan$Graph" "count" "I", .fieldLink RX6 28 "ArenaPlan" "plan" "LArenaPlan$Plan;", .fieldLink RX6 194 "ArenaPlan$Plan" "costOf" "[I", .methodLink RX6 169 yX6_needPlan, .instanceMethod yX6_needPlan, .selects RX6 yX6_needPlan yX6_needPlan, .initialized RX6, .code yX6_needPlan cX6_needPlan 1 none, .classLink RX6 136 "java/lang/IllegalStateException", .initialized "java/lang/IllegalStateException", .fieldLink RX6 156 "ArenaPlan" "planned" "Z", .methodLink RX6 172 yX6_needWithin, .static yX6_needWithin, .code yX6_needWithin cX6_needWithin 2 none, .classLink RX6 218 "java/lang/IndexOutOfBoundsException", .initialized "java/lang/IndexOutOfBoundsException", .methodLink RX6 95 yX6_isWithin, .static yX6_isWithin, .code yX6_isWithin cX6_isWithin 2 (some .boolean)] ++ wsX60 ++ wsX10 ++ wsX40 ++ (vx_atM "java/lang/ArrayIndexOutOfBoundsException" ["java/lang/IndexOutOfBoundsException", "java/lang/RuntimeException", "java/lang/Exception"]).filter goodWord ++ (vx_atS RX6 140 "java/lang/IllegalStateException" ["java/lang/RuntimeException", "java/lang/Exception"]).filter goodWord ++ (vx_atS RX6 222 "java/lang/IndexOutOfBoundsException" ["java/lang/RuntimeException", "java/lang/Exception"]).filter goodWord)
def wsX6_peak : List Cond := .code yX6_peak cX6_peak 1 (some .int) :: ([.fieldLink RX6 28 "ArenaPlan" "plan" "LArenaPlan$Plan;", .fieldLink RX6 197 "ArenaPlan$Plan" "greatestCost" "I", .methodLink RX6 169 yX6_needPlan, .instanceMethod yX6_needPlan, .selects RX6 yX6_needPlan yX6_needPlan, .initialized RX6, .code yX6_needPlan cX6_needPlan 1 none, .classLink RX6 136 "java/lang/IllegalStateException", .initialized "java/lang/IllegalStateException", .fieldLink RX6 156 "ArenaPlan" "planned" "Z"] ++ wsX60 ++ wsX40 ++ (vx_atS RX6 140 "java/lang/IllegalStateException" ["java/lang/RuntimeException", "java/lang/Exception"]).filter goodWord)
def wsX6_least_r1 : List Cond := [Cond.fieldLink RX6 163 "ArenaPlan" "leastPeak" "I", Cond.fieldLink RX6 53 "ArenaPlan" "search" "LArenaPlan$LeastPeak;", Cond.methodLink RX6 169 yX6_needPlan, Cond.instanceMethod yX6_needPlan, Cond.selects RX6 yX6_needPlan yX6_needPlan, Cond.initialized RX6, Cond.code yX6_needPlan cX6_needPlan 1 none, Cond.classLink RX6 136 "java/lang/IllegalStateException", Cond.initialized "java/lang/IllegalStateException", Cond.fieldLink RX6 156 "ArenaPlan" "planned" "Z", Cond.methodLink RX6 200 yX2_find, Cond.instanceMethod yX2_find, Cond.selects RX2 yX2_find yX2_find, Cond.initialized RX2, Cond.code yX2_find cX2_find 3 (some .int), Cond.fieldLink RX2 15 "ArenaPlan$LeastPeak" "plan" "LArenaPlan$Plan;", Cond.fieldLink RX2 19 "ArenaPlan$Plan" "length" "I", Cond.fieldLink RX2 9 "ArenaPlan$LeastPeak" "peakOf" "[I", Cond.fieldLink RX2 25 "ArenaPlan$Plan" "greatestCost" "I", Cond.methodLink RX2 28 yJ7_fill_53178, Cond.static yJ7_fill_53178, Cond.initialized RJ7, Cond.code yJ7_fill_53178 cJ7_fill_53178 4 none, Cond.methodLink RX2 34 yX2_goOn]
def wsX6_least_r2 : List Cond := [Cond.instanceMethod yX2_goOn, Cond.selects RX2 yX2_goOn yX2_goOn, Cond.code yX2_goOn cX2_goOn 6 none, Cond.fieldLink RX2 46 "ArenaPlan$Plan" "dependencies" "[I", Cond.fieldLink RX2 55 "ArenaPlan$Plan" "size" "[I", Cond.methodLink RX2 58 Lib.Math.max.name, Cond.static Lib.Math.max.name, Cond.initialized "java/lang/Math", Cond.code Lib.Math.max.name Lib.Math.max.code 2 (some .int), Cond.methodLink RX2 64 Lib.Math.min.name, Cond.static Lib.Math.min.name, Cond.code Lib.Math.min.name Lib.Math.min.code 2 (some .int), Cond.methodLink RX2 38 yX2_heldAfter, Cond.instanceMethod yX2_heldAfter, Cond.selects RX2 yX2_heldAfter yX2_heldAfter, Cond.code yX2_heldAfter cX2_heldAfter 5 (some .int), Cond.fieldLink RX2 67 "ArenaPlan$Plan" "graph" "LArenaPlan$Graph;", Cond.fieldLink RX2 71 "ArenaPlan$Graph" "kept" "[Z", Cond.fieldLink RX2 77 "ArenaPlan$Plan" "dependents" "[I", Cond.static yX6_isPartOf, Cond.code yX6_isPartOf cX6_isPartOf 2 (some .boolean), Cond.static yX6_contains, Cond.code yX6_contains cX6_contains 2 (some .boolean), Cond.static yX6_setOf]
def wsX6_least_r3 : List Cond := [Cond.code yX6_setOf cX6_setOf 1 (some .int)]
def wsX6_least : List Cond := .code yX6_least cX6_least 1 (some .int) :: ((wsX6_least_r1 ++ (wsX6_least_r2 ++ wsX6_least_r3)) ++ wsX60 ++ wsX20 ++ wsX40 ++ wsX10 ++ (vx_atS RX6 140 "java/lang/IllegalStateException" ["java/lang/RuntimeException", "java/lang/Exception"]).filter goodWord ++ (vx_atM "java/lang/ArrayIndexOutOfBoundsException" ["java/lang/IndexOutOfBoundsException", "java/lang/RuntimeException", "java/lang/Exception"]).filter goodWord)
def wsX6_run_r1 : List Cond := [Cond.fieldLink RX6 160 "ArenaPlan" "ran" "Z", Cond.fieldLink RX6 46 "ArenaPlan" "cells" "LArenaPlan$Cells;", Cond.methodLink RX6 169 yX6_needPlan, Cond.instanceMethod yX6_needPlan, Cond.selects RX6 yX6_needPlan yX6_needPlan, Cond.initialized RX6, Cond.code yX6_needPlan cX6_needPlan 1 none, Cond.classLink RX6 136 "java/lang/IllegalStateException", Cond.initialized "java/lang/IllegalStateException", Cond.fieldLink RX6 156 "ArenaPlan" "planned" "Z", Cond.methodLink RX6 203 yX0_work, Cond.instanceMethod yX0_work, Cond.selects RX0 yX0_work yX0_work, Cond.initialized RX0, Cond.code yX0_work cX0_work 5 (some .int), Cond.fieldLink RX0 9 "ArenaPlan$Cells" "value" "[I", Cond.fieldLink RX0 25 "ArenaPlan$Cells" "plan" "LArenaPlan$Plan;", Cond.fieldLink RX0 39 "ArenaPlan$Plan" "length" "I", Cond.fieldLink RX0 43 "ArenaPlan$Plan" "sequence" "[I", Cond.fieldLink RX0 46 "ArenaPlan$Plan" "size" "[I", Cond.fieldLink RX0 15 "ArenaPlan$Cells" "places" "LArenaPlan$Places;", Cond.fieldLink RX0 49 "ArenaPlan$Places" "start" "[I", Cond.methodLink RX0 33 yJ7_fill_53178, Cond.static yJ7_fill_53178]
def wsX6_run_r2 : List Cond := [Cond.initialized RJ7, Cond.code yJ7_fill_53178 cJ7_fill_53178 4 none, Cond.methodLink RX0 52 yX0_workOut, Cond.instanceMethod yX0_workOut, Cond.selects RX0 yX0_workOut yX0_workOut, Cond.code yX0_workOut cX0_workOut 6 (some .int), Cond.fieldLink RX0 32 "ArenaPlan$Cells" "graph" "LArenaPlan$Graph;", Cond.fieldLink RX0 56 "ArenaPlan$Graph" "source" "[[I", Cond.fieldLink RX0 62 "ArenaPlan$Graph" "operation" "[I", Cond.fieldLink RX0 65 "ArenaPlan$Graph" "given" "[[I", Cond.fieldLink RX0 71 "ArenaPlan$Graph" "p" "[I", Cond.methodLink RX0 68 yX0_valueOf, Cond.instanceMethod yX0_valueOf, Cond.selects RX0 yX0_valueOf yX0_valueOf, Cond.code yX0_valueOf cX0_valueOf 3 (some .int), Cond.methodLink RX0 74 yX0_totalOf, Cond.instanceMethod yX0_totalOf, Cond.selects RX0 yX0_totalOf yX0_totalOf, Cond.code yX0_totalOf cX0_totalOf 4 (some .int)]
def wsX6_run : List Cond := .code yX6_run cX6_run 1 (some .int) :: ((wsX6_run_r1 ++ wsX6_run_r2) ++ wsX60 ++ wsX00 ++ wsX40 ++ wsX30 ++ wsX10 ++ (vx_atS RX6 140 "java/lang/IllegalStateException" ["java/lang/RuntimeException", "java/lang/Exception"]).filter goodWord ++ (vx_atM "java/lang/ArrayIndexOutOfBoundsException" ["java/lang/IndexOutOfBoundsException", "java/lang/RuntimeException", "java/lang/Exception"]).filter goodWord)
def wsX6_needRun : List Cond := .code yX6_needRun cX6_needRun 1 none :: ([.classLink RX6 136 "java/lang/IllegalStateException", .initialized "java/lang/IllegalStateException", .fieldLink RX6 160 "ArenaPlan" "ran" "Z", .methodLink RX6 169 yX6_needPlan, .instanceMethod yX6_needPlan, .selects RX6 yX6_needPlan yX6_needPlan, .initialized RX6, .code yX6_needPlan cX6_needPlan 1 none, .fieldLink RX6 156 "ArenaPlan" "planned" "Z"] ++ wsX60 ++ (vx_atS RX6 140 "java/lang/IllegalStateException" ["java/lang/RuntimeException", "java/lang/Exception"]).filter goodWord)
def wsX6_cell_r1 : List Cond := [Cond.fieldLink RX6 37 "ArenaPlan" "places" "LArenaPlan$Places;", Cond.fieldLink RX6 166 "ArenaPlan$Places" "arena" "I", Cond.fieldLink RX6 46 "ArenaPlan" "cells" "LArenaPlan$Cells;", Cond.fieldLink RX6 209 "ArenaPlan$Cells" "value" "[I", Cond.methodLink RX6 206 yX6_needRun, Cond.instanceMethod yX6_needRun, Cond.selects RX6 yX6_needRun yX6_needRun, Cond.initialized RX6, Cond.code yX6_needRun cX6_needRun 1 none, Cond.classLink RX6 136 "java/lang/IllegalStateException", Cond.initialized "java/lang/IllegalStateException", Cond.fieldLink RX6 160 "ArenaPlan" "ran" "Z", Cond.methodLink RX6 169 yX6_needPlan, Cond.instanceMethod yX6_needPlan, Cond.selects RX6 yX6_needPlan yX6_needPlan, Cond.code yX6_needPlan cX6_needPlan 1 none, Cond.fieldLink RX6 156 "ArenaPlan" "planned" "Z", Cond.methodLink RX6 172 yX6_needWithin, Cond.static yX6_needWithin, Cond.code yX6_needWithin cX6_needWithin 2 none, Cond.classLink RX6 218 "java/lang/IndexOutOfBoundsException", Cond.initialized "java/lang/IndexOutOfBoundsException", Cond.methodLink RX6 95 yX6_isWithin, Cond.static yX6_isWithin]
def wsX6_cell_r2 : List Cond := [Cond.code yX6_isWithin cX6_isWithin 2 (some .boolean)]
def wsX6_cell : List Cond := .code yX6_cell cX6_cell 2 (some .int) :: ((wsX6_cell_r1 ++ wsX6_cell_r2) ++ wsX60 ++ wsX30 ++ wsX00 ++ (vx_atM "java/lang/ArrayIndexOutOfBoundsException" ["java/lang/IndexOutOfBoundsException", "java/lang/RuntimeException", "java/lang/Exception"]).filter goodWord ++ (vx_atS RX6 140 "java/lang/IllegalStateException" ["java/lang/RuntimeException", "java/lang/Exception"]).filter goodWord ++ (vx_atS RX6 222 "java/lang/IndexOutOfBoundsException" ["java/lang/RuntimeException", "java/lang/Exception"]).filter goodWord)
def wsX6_result_r1 : List Cond := [Cond.classLink RX6 120 "java/util/NoSuchElementException", Cond.initialized "java/util/NoSuchElementException", Cond.fieldLink RX6 10 "ArenaPlan" "graph" "LArenaPlan$Graph;", Cond.fieldLink RX6 110 "ArenaPlan$Graph" "kept" "[Z", Cond.fieldLink RX6 28 "ArenaPlan" "plan" "LArenaPlan$Plan;", Cond.fieldLink RX6 179 "ArenaPlan$Plan" "size" "[I", Cond.fieldLink RX6 46 "ArenaPlan" "cells" "LArenaPlan$Cells;", Cond.fieldLink RX6 209 "ArenaPlan$Cells" "value" "[I", Cond.fieldLink RX6 37 "ArenaPlan" "places" "LArenaPlan$Places;", Cond.fieldLink RX6 188 "ArenaPlan$Places" "start" "[I", Cond.methodLink RX6 206 yX6_needRun, Cond.instanceMethod yX6_needRun, Cond.selects RX6 yX6_needRun yX6_needRun, Cond.initialized RX6, Cond.code yX6_needRun cX6_needRun 1 none, Cond.classLink RX6 136 "java/lang/IllegalStateException", Cond.initialized "java/lang/IllegalStateException", Cond.fieldLink RX6 160 "ArenaPlan" "ran" "Z", Cond.methodLink RX6 169 yX6_needPlan, Cond.instanceMethod yX6_needPlan, Cond.selects RX6 yX6_needPlan yX6_needPlan, Cond.code yX6_needPlan cX6_needPlan 1 none, Cond.fieldLink RX6 156 "ArenaPlan" "planned" "Z", Cond.methodLink RX6 84 yX1_has]
def wsX6_result_r2 : List Cond := [Cond.instanceMethod yX1_has, Cond.selects RX1 yX1_has yX1_has, Cond.initialized RX1, Cond.code yX1_has cX1_has 2 (some .boolean), Cond.fieldLink RX1 33 "ArenaPlan$Graph" "count" "I", Cond.static yX6_isWithin, Cond.code yX6_isWithin cX6_isWithin 2 (some .boolean), Cond.methodLink RX6 172 yX6_needWithin, Cond.static yX6_needWithin, Cond.code yX6_needWithin cX6_needWithin 2 none, Cond.classLink RX6 218 "java/lang/IndexOutOfBoundsException", Cond.initialized "java/lang/IndexOutOfBoundsException", Cond.methodLink RX6 95 yX6_isWithin]
def wsX6_result : List Cond := .code yX6_result cX6_result 3 (some .int) :: ((wsX6_result_r1 ++ wsX6_result_r2) ++ wsX60 ++ wsX10 ++ wsX40 ++ wsX00 ++ wsX30 ++ (vx_atM "java/lang/ArrayIndexOutOfBoundsException" ["java/lang/IndexOutOfBoundsException", "java/lang/RuntimeException", "java/lang/Exception"]).filter goodWord ++ (vx_atSX RX6 124 "java/util/NoSuchElementException" 13 prog_23_method_4_code ["java/lang/RuntimeException", "java/lang/Exception"]).filter goodWord ++ (vx_atS RX6 140 "java/lang/IllegalStateException" ["java/lang/RuntimeException", "java/lang/Exception"]).filter goodWord ++ (vx_atS RX6 222 "java/lang/IndexOutOfBoundsException" ["java/lang/RuntimeException", "java/lang/Exception"]).filter goodWord)
def wsX7_init_r1 : List Cond := [Cond.methodLink RX7 1 objectInit, Cond.instanceMethod objectInit, Cond.code objectInit ⟨#[0xb1]⟩ 1 none, Cond.arrayClass .int, Cond.fieldLink RX7 7 "ArenaPlanModel" "operation" "[I", Cond.fieldLink RX7 13 "ArenaPlanModel" "first" "[I", Cond.fieldLink RX7 16 "ArenaPlanModel" "second" "[I", Cond.fieldLink RX7 19 "ArenaPlanModel" "source" "[I", Cond.arrayClass .boolean, Cond.fieldLink RX7 22 "ArenaPlanModel" "kept" "[Z", Cond.fieldLink RX7 26 "ArenaPlanModel" "given" "[I", Cond.fieldLink RX7 29 "ArenaPlanModel" "distance" "[I", Cond.fieldLink RX7 32 "ArenaPlanModel" "ring" "[I", Cond.fieldLink RX7 35 "ArenaPlanModel" "size" "[I", Cond.fieldLink RX7 38 "ArenaPlanModel" "label" "[I", Cond.fieldLink RX7 41 "ArenaPlanModel" "order" "[I", Cond.fieldLink RX7 44 "ArenaPlanModel" "step" "[I", Cond.fieldLink RX7 47 "ArenaPlanModel" "until" "[I", Cond.fieldLink RX7 50 "ArenaPlanModel" "place" "[I", Cond.fieldLink RX7 53 "ArenaPlanModel" "newSize" "[I", Cond.fieldLink RX7 56 "ArenaPlanModel" "sized" "[Z", Cond.fieldLink RX7 59 "ArenaPlanModel" "stack" "[I", Cond.fieldLink RX7 62 "ArenaPlanModel" "best" "[I", Cond.fieldLink RX7 65 "ArenaPlanModel" "cells" "[I"]
def wsX7_init_r2 : List Cond := [Cond.fieldLink RX7 68 "ArenaPlanModel" "value" "[I"]
def wsX7_init : List Cond := .code yX7_init cX7_init 1 none :: ((wsX7_init_r1 ++ wsX7_init_r2) ++ wsX70)
def wsX7_thrown : List Cond := .code yX7_thrown cX7_thrown 1 (some .int) :: ([.fieldLink RX7 71 "ArenaPlanModel" "thrown" "I"] ++ wsX70)
def wsX7_fail : List Cond := .code yX7_fail cX7_fail 2 (some .int) :: ([.fieldLink RX7 71 "ArenaPlanModel" "thrown" "I"] ++ wsX70)
def wsX7_inputs : List Cond := .code yX7_inputs cX7_inputs 1 (some .int) :: ([])
def wsX7_isNode : List Cond := .code yX7_isNode cX7_isNode 2 (some .boolean) :: ([.fieldLink RX7 75 "ArenaPlanModel" "count" "I"] ++ wsX70)
def wsX7_within : List Cond := .code yX7_within cX7_within 3 (some .boolean) :: ([])
def wsX7_make : List Cond := .code yX7_make cX7_make 6 (some .int) :: ([.fieldLink RX7 71 "ArenaPlanModel" "thrown" "I", .fieldLink RX7 75 "ArenaPlanModel" "count" "I", .fieldLink RX7 7 "ArenaPlanModel" "operation" "[I", .fieldLink RX7 13 "ArenaPlanModel" "first" "[I", .fieldLink RX7 16 "ArenaPlanModel" "second" "[I", .fieldLink RX7 19 "ArenaPlanModel" "source" "[I", .fieldLink RX7 22 "ArenaPlanModel" "kept" "[Z", .fieldLink RX7 26 "ArenaPlanModel" "given" "[I", .fieldLink RX7 86 "ArenaPlanModel" "planned" "Z", .methodLink RX7 78 yX7_within, .static yX7_within, .initialized RX7, .code yX7_within cX7_within 3 (some .boolean), .methodLink RX7 82 yX7_fail, .instanceMethod yX7_fail, .selects RX7 yX7_fail yX7_fail, .code yX7_fail cX7_fail 2 (some .int)] ++ wsX70 ++ (vx_atM "java/lang/ArrayIndexOutOfBoundsException" ["java/lang/IndexOutOfBoundsException", "java/lang/RuntimeException", "java/lang/Exception"]).filter goodWord)
def wsX7_give : List Cond := .code yX7_give cX7_give 4 (some .boolean) :: ([.fieldLink RX7 71 "ArenaPlanModel" "thrown" "I", .fieldLink RX7 7 "ArenaPlanModel" "operation" "[I", .fieldLink RX7 13 "ArenaPlanModel" "first" "[I", .fieldLink RX7 26 "ArenaPlanModel" "given" "[I", .methodLink RX7 90 yX7_isNode, .instanceMethod yX7_isNode, .selects RX7 yX7_isNode yX7_isNode, .initialized RX7, .code yX7_isNode cX7_isNode 2 (some .boolean), .fieldLink RX7 75 "ArenaPlanModel" "count" "I"] ++ wsX70 ++ (vx_atM "java/lang/ArrayIndexOutOfBoundsException" ["java/lang/IndexOutOfBoundsException", "java/lang/RuntimeException", "java/lang/Exception"]).filter goodWord)
def wsX7_wire : List Cond := .code yX7_wire cX7_wire 4 (some .boolean) :: ([.fieldLink RX7 71 "ArenaPlanModel" "thrown" "I", .fieldLink RX7 7 "ArenaPlanModel" "operation" "[I", .fieldLink RX7 75 "ArenaPlanModel" "count" "I", .fieldLink RX7 19 "ArenaPlanModel" "source" "[I", .fieldLink RX7 86 "ArenaPlanModel" "planned" "Z", .methodLink RX7 90 yX7_isNode, .instanceMethod yX7_isNode, .selects RX7 yX7_isNode yX7_isNode, .initialized RX7, .code yX7_isNode cX7_isNode 2 (some .boolean), .methodLink RX7 94 yX7_inputs, .static yX7_inputs, .code yX7_inputs cX7_inputs 1 (some .int)] ++ wsX70 ++ (vx_atM "java/lang/ArrayIndexOutOfBoundsException" ["java/lang/IndexOutOfBoundsException", "java/lang/RuntimeException", "java/lang/Exception"]).filter goodWord)
def wsX7_keep : List Cond := .code yX7_keep cX7_keep 3 (some .boolean) :: ([.fieldLink RX7 71 "ArenaPlanModel" "thrown" "I", .fieldLink RX7 22 "ArenaPlanModel" "kept" "[Z", .fieldLink RX7 86 "ArenaPlanModel" "planned" "Z", .methodLink RX7 90 yX7_isNode, .instanceMethod yX7_isNode, .selects RX7 yX7_isNode yX7_isNode, .initialized RX7, .code yX7_isNode cX7_isNode 2 (some .boolean), .fieldLink RX7 75 "ArenaPlanModel" "count" "I"] ++ wsX70 ++ (vx_atM "java/lang/ArrayIndexOutOfBoundsException" ["java/lang/IndexOutOfBoundsException", "java/lang/RuntimeException", "java/lang/Exception"]).filter goodWord)
def wsX7_nodes : List Cond := .code yX7_nodes cX7_nodes 1 (some .int) :: ([.fieldLink RX7 71 "ArenaPlanModel" "thrown" "I", .fieldLink RX7 75 "ArenaPlanModel" "count" "I"] ++ wsX70)
def wsX7_far : List Cond := .code yX7_far cX7_far 2 (some .int) :: ([.fieldLink RX7 29 "ArenaPlanModel" "distance" "[I"] ++ wsX70 ++ (vx_atM "java/lang/ArrayIndexOutOfBoundsException" ["java/lang/IndexOutOfBoundsException", "java/lang/RuntimeException", "java/lang/Exception"]).filter goodWord)
def wsX7_measure : List Cond := .code yX7_measure cX7_measure 5 none :: ([.fieldLink RX7 75 "ArenaPlanModel" "count" "I", .fieldLink RX7 29 "ArenaPlanModel" "distance" "[I", .fieldLink RX7 19 "ArenaPlanModel" "source" "[I", .methodLink RX7 97 yX7_far, .instanceMethod yX7_far, .selects RX7 yX7_far yX7_far, .initialized RX7, .code yX7_far cX7_far 2 (some .int)] ++ wsX70 ++ (vx_atM "java/lang/ArrayIndexOutOfBoundsException" ["java/lang/IndexOutOfBoundsException", "java/lang/RuntimeException", "java/lang/Exception"]).filter goodWord)
def wsX7_nearest : List Cond := .code yX7_nearest cX7_nearest 5 (some .int) :: ([.fieldLink RX7 19 "ArenaPlanModel" "source" "[I", .methodLink RX7 97 yX7_far, .instanceMethod yX7_far, .selects RX7 yX7_far yX7_far, .initialized RX7, .code yX7_far cX7_far 2 (some .int), .fieldLink RX7 29 "ArenaPlanModel" "distance" "[I"] ++ wsX70 ++ (vx_atM "java/lang/ArrayIndexOutOfBoundsException" ["java/lang/IndexOutOfBoundsException", "java/lang/RuntimeException", "java/lang/Exception"]).filter goodWord)
def wsX7_findRing : List Cond := .code yX7_findRing cX7_findRing 3 none :: ([.fieldLink RX7 100 "ArenaPlanModel" "ringSize" "I", .fieldLink RX7 75 "ArenaPlanModel" "count" "I", .fieldLink RX7 32 "ArenaPlanModel" "ring" "[I", .methodLink RX7 103 yX7_measure, .instanceMethod yX7_measure, .selects RX7 yX7_measure yX7_measure, .initialized RX7, .code yX7_measure cX7_measure 5 none, .fieldLink RX7 29 "ArenaPlanModel" "distance" "[I", .fieldLink RX7 19 "ArenaPlanModel" "source" "[I", .methodLink RX7 97 yX7_far, .instanceMethod yX7_far, .selects RX7 yX7_far yX7_far, .code yX7_far cX7_far 2 (some .int), .methodLink RX7 107 yX7_nearest, .instanceMethod yX7_nearest, .selects RX7 yX7_nearest yX7_nearest, .code yX7_nearest cX7_nearest 5 (some .int)] ++ wsX70 ++ (vx_atM "java/lang/ArrayIndexOutOfBoundsException" ["java/lang/IndexOutOfBoundsException", "java/lang/RuntimeException", "java/lang/Exception"]).filter goodWord)
def wsX7_ring_r1 : List Cond := [Cond.fieldLink RX7 71 "ArenaPlanModel" "thrown" "I", Cond.fieldLink RX7 100 "ArenaPlanModel" "ringSize" "I", Cond.fieldLink RX7 32 "ArenaPlanModel" "ring" "[I", Cond.methodLink RX7 110 yX7_findRing, Cond.instanceMethod yX7_findRing, Cond.selects RX7 yX7_findRing yX7_findRing, Cond.initialized RX7, Cond.code yX7_findRing cX7_findRing 3 none, Cond.fieldLink RX7 75 "ArenaPlanModel" "count" "I", Cond.methodLink RX7 103 yX7_measure, Cond.instanceMethod yX7_measure, Cond.selects RX7 yX7_measure yX7_measure, Cond.code yX7_measure cX7_measure 5 none, Cond.fieldLink RX7 29 "ArenaPlanModel" "distance" "[I", Cond.fieldLink RX7 19 "ArenaPlanModel" "source" "[I", Cond.methodLink RX7 97 yX7_far, Cond.instanceMethod yX7_far, Cond.selects RX7 yX7_far yX7_far, Cond.code yX7_far cX7_far 2 (some .int), Cond.methodLink RX7 107 yX7_nearest, Cond.instanceMethod yX7_nearest, Cond.selects RX7 yX7_nearest yX7_nearest, Cond.code yX7_nearest cX7_nearest 5 (some .int), Cond.methodLink RX7 82 yX7_fail]
def wsX7_ring_r2 : List Cond := [Cond.instanceMethod yX7_fail, Cond.selects RX7 yX7_fail yX7_fail, Cond.code yX7_fail cX7_fail 2 (some .int)]
def wsX7_ring : List Cond := .code yX7_ring cX7_ring 2 (some .int) :: ((wsX7_ring_r1 ++ wsX7_ring_r2) ++ wsX70 ++ (vx_atM "java/lang/ArrayIndexOutOfBoundsException" ["java/lang/IndexOutOfBoundsException", "java/lang/RuntimeException", "java/lang/Exception"]).filter goodWord)
def wsX7_isWired : List Cond := .code yX7_isWired cX7_isWired 4 (some .boolean) :: ([.fieldLink RX7 75 "ArenaPlanModel" "count" "I", .fieldLink RX7 7 "ArenaPlanModel" "operation" "[I", .fieldLink RX7 19 "ArenaPlanModel" "source" "[I", .methodLink RX7 94 yX7_inputs, .static yX7_inputs, .initialized RX7, .code yX7_inputs cX7_inputs 1 (some .int)] ++ wsX70 ++ (vx_atM "java/lang/ArrayIndexOutOfBoundsException" ["java/lang/IndexOutOfBoundsException", "java/lang/RuntimeException", "java/lang/Exception"]).filter goodWord)
def wsX7_sizeOf : List Cond := .code yX7_sizeOf cX7_sizeOf 5 (some .int) :: ([.fieldLink RX7 7 "ArenaPlanModel" "operation" "[I", .fieldLink RX7 53 "ArenaPlanModel" "newSize" "[I", .fieldLink RX7 19 "ArenaPlanModel" "source" "[I", .fieldLink RX7 13 "ArenaPlanModel" "first" "[I", .fieldLink RX7 16 "ArenaPlanModel" "second" "[I", .methodLink RX7 94 yX7_inputs, .static yX7_inputs, .initialized RX7, .code yX7_inputs cX7_inputs 1 (some .int)] ++ wsX70 ++ (vx_atM "java/lang/ArrayIndexOutOfBoundsException" ["java/lang/IndexOutOfBoundsException", "java/lang/RuntimeException", "java/lang/Exception"]).filter goodWord)
def wsX7_isReady : List Cond := .code yX7_isReady cX7_isReady 4 (some .boolean) :: ([.fieldLink RX7 7 "ArenaPlanModel" "operation" "[I", .fieldLink RX7 56 "ArenaPlanModel" "sized" "[Z", .fieldLink RX7 19 "ArenaPlanModel" "source" "[I", .methodLink RX7 94 yX7_inputs, .static yX7_inputs, .initialized RX7, .code yX7_inputs cX7_inputs 1 (some .int)] ++ wsX70 ++ (vx_atM "java/lang/ArrayIndexOutOfBoundsException" ["java/lang/IndexOutOfBoundsException", "java/lang/RuntimeException", "java/lang/Exception"]).filter goodWord)
def wsX7_labelOf : List Cond := .code yX7_labelOf cX7_labelOf 8 none :: ([.fieldLink RX7 7 "ArenaPlanModel" "operation" "[I", .fieldLink RX7 38 "ArenaPlanModel" "label" "[I", .fieldLink RX7 19 "ArenaPlanModel" "source" "[I", .methodLink RX7 94 yX7_inputs, .static yX7_inputs, .initialized RX7, .code yX7_inputs cX7_inputs 1 (some .int)] ++ wsX70 ++ (vx_atM "java/lang/ArrayIndexOutOfBoundsException" ["java/lang/IndexOutOfBoundsException", "java/lang/RuntimeException", "java/lang/Exception"]).filter goodWord)
def wsX7_findSizes : List Cond := .code yX7_findSizes cX7_findSizes 3 (some .boolean) :: ([.fieldLink RX7 75 "ArenaPlanModel" "count" "I", .fieldLink RX7 56 "ArenaPlanModel" "sized" "[Z", .fieldLink RX7 53 "ArenaPlanModel" "newSize" "[I", .methodLink RX7 113 yX7_isReady, .instanceMethod yX7_isReady, .selects RX7 yX7_isReady yX7_isReady, .initialized RX7, .code yX7_isReady cX7_isReady 4 (some .boolean), .fieldLink RX7 7 "ArenaPlanModel" "operation" "[I", .fieldLink RX7 19 "ArenaPlanModel" "source" "[I", .methodLink RX7 94 yX7_inputs, .static yX7_inputs, .code yX7_inputs cX7_inputs 1 (some .int), .methodLink RX7 116 yX7_sizeOf, .instanceMethod yX7_sizeOf, .selects RX7 yX7_sizeOf yX7_sizeOf, .code yX7_sizeOf cX7_sizeOf 5 (some .int), .fieldLink RX7 13 "ArenaPlanModel" "first" "[I", .fieldLink RX7 16 "ArenaPlanModel" "second" "[I"] ++ wsX70 ++ (vx_atM "java/lang/ArrayIndexOutOfBoundsException" ["java/lang/IndexOutOfBoundsException", "java/lang/RuntimeException", "java/lang/Exception"]).filter goodWord)
def wsX7_come : List Cond := .code yX7_come cX7_come 2 none :: ([.fieldLink RX7 44 "ArenaPlanModel" "step" "[I", .fieldLink RX7 119 "ArenaPlanModel" "placed" "I", .fieldLink RX7 41 "ArenaPlanModel" "order" "[I"] ++ wsX70 ++ (vx_atM "java/lang/ArrayIndexOutOfBoundsException" ["java/lang/IndexOutOfBoundsException", "java/lang/RuntimeException", "java/lang/Exception"]).filter goodWord)
def wsX7_isThere : List Cond := .code yX7_isThere cX7_isThere 2 (some .boolean) :: ([.fieldLink RX7 44 "ArenaPlanModel" "step" "[I"] ++ wsX70 ++ (vx_atM "java/lang/ArrayIndexOutOfBoundsException" ["java/lang/IndexOutOfBoundsException", "java/lang/RuntimeException", "java/lang/Exception"]).filter goodWord)
def wsX7_isFree : List Cond := .code yX7_isFree cX7_isFree 4 (some .boolean) :: ([.fieldLink RX7 7 "ArenaPlanModel" "operation" "[I", .fieldLink RX7 19 "ArenaPlanModel" "source" "[I", .methodLink RX7 94 yX7_inputs, .static yX7_inputs, .initialized RX7, .code yX7_inputs cX7_inputs 1 (some .int), .methodLink RX7 122 yX7_isThere, .instanceMethod yX7_isThere, .selects RX7 yX7_isThere yX7_isThere, .code yX7_isThere cX7_isThere 2 (some .boolean), .fieldLink RX7 44 "ArenaPlanModel" "step" "[I"] ++ wsX70 ++ (vx_atM "java/lang/ArrayIndexOutOfBoundsException" ["java/lang/IndexOutOfBoundsException", "java/lang/RuntimeException", "java/lang/Exception"]).filter goodWord)
def wsX7_orderByNumbers : List Cond := .code yX7_orderByNumbers cX7_orderByNumbers 2 none :: ([.fieldLink RX7 119 "ArenaPlanModel" "placed" "I", .fieldLink RX7 75 "ArenaPlanModel" "count" "I", .methodLink RX7 122 yX7_isThere, .instanceMethod yX7_isThere, .selects RX7 yX7_isThere yX7_isThere, .initialized RX7, .code yX7_isThere cX7_isThere 2 (some .boolean), .fieldLink RX7 44 "ArenaPlanModel" "step" "[I", .methodLink RX7 125 yX7_isFree, .instanceMethod yX7_isFree, .selects RX7 yX7_isFree yX7_isFree, .code yX7_isFree cX7_isFree 4 (some .boolean), .fieldLink RX7 7 "ArenaPlanModel" "operation" "[I", .fieldLink RX7 19 "ArenaPlanModel" "source" "[I", .methodLink RX7 94 yX7_inputs, .static yX7_inputs, .code yX7_inputs cX7_inputs 1 (some .int), .methodLink RX7 128 yX7_come, .instanceMethod yX7_come, .selects RX7 yX7_come yX7_come, .code yX7_come cX7_come 2 none, .fieldLink RX7 41 "ArenaPlanModel" "order" "[I"] ++ wsX70 ++ (vx_atM "java/lang/ArrayIndexOutOfBoundsException" ["java/lang/IndexOutOfBoundsException", "java/lang/RuntimeException", "java/lang/Exception"]).filter goodWord)
def wsX7_isUsed : List Cond := .code yX7_isUsed cX7_isUsed 4 (some .boolean) :: ([.fieldLink RX7 75 "ArenaPlanModel" "count" "I", .fieldLink RX7 19 "ArenaPlanModel" "source" "[I"] ++ wsX70 ++ (vx_atM "java/lang/ArrayIndexOutOfBoundsException" ["java/lang/IndexOutOfBoundsException", "java/lang/RuntimeException", "java/lang/Exception"]).filter goodWord)
def wsX7_due : List Cond := .code yX7_due cX7_due 7 (some .int) :: ([.fieldLink RX7 19 "ArenaPlanModel" "source" "[I", .fieldLink RX7 7 "ArenaPlanModel" "operation" "[I", .fieldLink RX7 38 "ArenaPlanModel" "label" "[I", .methodLink RX7 94 yX7_inputs, .static yX7_inputs, .initialized RX7, .code yX7_inputs cX7_inputs 1 (some .int), .methodLink RX7 122 yX7_isThere, .instanceMethod yX7_isThere, .selects RX7 yX7_isThere yX7_isThere, .code yX7_isThere cX7_isThere 2 (some .boolean), .fieldLink RX7 44 "ArenaPlanModel" "step" "[I"] ++ wsX70 ++ (vx_atM "java/lang/ArrayIndexOutOfBoundsException" ["java/lang/IndexOutOfBoundsException", "java/lang/RuntimeException", "java/lang/Exception"]).filter goodWord)
def wsX7_visit_r1 : List Cond := [Cond.fieldLink RX7 59 "ArenaPlanModel" "stack" "[I", Cond.fieldLink RX7 131 "ArenaPlanModel" "top" "I", Cond.methodLink RX7 122 yX7_isThere, Cond.instanceMethod yX7_isThere, Cond.selects RX7 yX7_isThere yX7_isThere, Cond.initialized RX7, Cond.code yX7_isThere cX7_isThere 2 (some .boolean), Cond.fieldLink RX7 44 "ArenaPlanModel" "step" "[I", Cond.methodLink RX7 125 yX7_isFree, Cond.instanceMethod yX7_isFree, Cond.selects RX7 yX7_isFree yX7_isFree, Cond.code yX7_isFree cX7_isFree 4 (some .boolean), Cond.fieldLink RX7 7 "ArenaPlanModel" "operation" "[I", Cond.fieldLink RX7 19 "ArenaPlanModel" "source" "[I", Cond.methodLink RX7 94 yX7_inputs, Cond.static yX7_inputs, Cond.code yX7_inputs cX7_inputs 1 (some .int), Cond.methodLink RX7 128 yX7_come, Cond.instanceMethod yX7_come, Cond.selects RX7 yX7_come yX7_come, Cond.code yX7_come cX7_come 2 none, Cond.fieldLink RX7 119 "ArenaPlanModel" "placed" "I", Cond.fieldLink RX7 41 "ArenaPlanModel" "order" "[I", Cond.methodLink RX7 134 yX7_due]
def wsX7_visit_r2 : List Cond := [Cond.instanceMethod yX7_due, Cond.selects RX7 yX7_due yX7_due, Cond.code yX7_due cX7_due 7 (some .int), Cond.fieldLink RX7 38 "ArenaPlanModel" "label" "[I"]
def wsX7_visit : List Cond := .code yX7_visit cX7_visit 3 none :: ((wsX7_visit_r1 ++ wsX7_visit_r2) ++ wsX70 ++ (vx_atM "java/lang/ArrayIndexOutOfBoundsException" ["java/lang/IndexOutOfBoundsException", "java/lang/RuntimeException", "java/lang/Exception"]).filter goodWord)
def wsX7_orderByLabels_r1 : List Cond := [Cond.fieldLink RX7 75 "ArenaPlanModel" "count" "I", Cond.methodLink RX7 137 yX7_isUsed, Cond.instanceMethod yX7_isUsed, Cond.selects RX7 yX7_isUsed yX7_isUsed, Cond.initialized RX7, Cond.code yX7_isUsed cX7_isUsed 4 (some .boolean), Cond.fieldLink RX7 19 "ArenaPlanModel" "source" "[I", Cond.methodLink RX7 140 yX7_visit, Cond.instanceMethod yX7_visit, Cond.selects RX7 yX7_visit yX7_visit, Cond.code yX7_visit cX7_visit 3 none, Cond.fieldLink RX7 59 "ArenaPlanModel" "stack" "[I", Cond.fieldLink RX7 131 "ArenaPlanModel" "top" "I", Cond.methodLink RX7 122 yX7_isThere, Cond.instanceMethod yX7_isThere, Cond.selects RX7 yX7_isThere yX7_isThere, Cond.code yX7_isThere cX7_isThere 2 (some .boolean), Cond.fieldLink RX7 44 "ArenaPlanModel" "step" "[I", Cond.methodLink RX7 125 yX7_isFree, Cond.instanceMethod yX7_isFree, Cond.selects RX7 yX7_isFree yX7_isFree, Cond.code yX7_isFree cX7_isFree 4 (some .boolean), Cond.fieldLink RX7 7 "ArenaPlanModel" "operation" "[I", Cond.methodLink RX7 94 yX7_inputs]
def wsX7_orderByLabels_r2 : List Cond := [Cond.static yX7_inputs, Cond.code yX7_inputs cX7_inputs 1 (some .int), Cond.methodLink RX7 128 yX7_come, Cond.instanceMethod yX7_come, Cond.selects RX7 yX7_come yX7_come, Cond.code yX7_come cX7_come 2 none, Cond.fieldLink RX7 119 "ArenaPlanModel" "placed" "I", Cond.fieldLink RX7 41 "ArenaPlanModel" "order" "[I", Cond.methodLink RX7 134 yX7_due, Cond.instanceMethod yX7_due, Cond.selects RX7 yX7_due yX7_due, Cond.code yX7_due cX7_due 7 (some .int), Cond.fieldLink RX7 38 "ArenaPlanModel" "label" "[I"]
def wsX7_orderByLabels : List Cond := .code yX7_orderByLabels cX7_orderByLabels 2 none :: ((wsX7_orderByLabels_r1 ++ wsX7_orderByLabels_r2) ++ wsX70 ++ (vx_atM "java/lang/ArrayIndexOutOfBoundsException" ["java/lang/IndexOutOfBoundsException", "java/lang/RuntimeException", "java/lang/Exception"]).filter goodWord)
def wsX7_findLives : List Cond := .code yX7_findLives cX7_findLives 3 none :: ([.fieldLink RX7 75 "ArenaPlanModel" "count" "I", .fieldLink RX7 47 "ArenaPlanModel" "until" "[I", .fieldLink RX7 22 "ArenaPlanModel" "kept" "[Z", .fieldLink RX7 44 "ArenaPlanModel" "step" "[I", .fieldLink RX7 19 "ArenaPlanModel" "source" "[I"] ++ wsX70 ++ (vx_atM "java/lang/ArrayIndexOutOfBoundsException" ["java/lang/IndexOutOfBoundsException", "java/lang/RuntimeException", "java/lang/Exception"]).filter goodWord)
def wsX7_fits : List Cond := .code yX7_fits cX7_fits 6 (some .boolean) :: ([.fieldLink RX7 75 "ArenaPlanModel" "count" "I", .fieldLink RX7 50 "ArenaPlanModel" "place" "[I", .fieldLink RX7 44 "ArenaPlanModel" "step" "[I", .fieldLink RX7 47 "ArenaPlanModel" "until" "[I", .fieldLink RX7 35 "ArenaPlanModel" "size" "[I"] ++ wsX70 ++ (vx_atM "java/lang/ArrayIndexOutOfBoundsException" ["java/lang/IndexOutOfBoundsException", "java/lang/RuntimeException", "java/lang/Exception"]).filter goodWord)
def wsX7_findPlaces : List Cond := .code yX7_findPlaces cX7_findPlaces 5 none :: ([.fieldLink RX7 143 "ArenaPlanModel" "arena" "I", .fieldLink RX7 75 "ArenaPlanModel" "count" "I", .fieldLink RX7 50 "ArenaPlanModel" "place" "[I", .fieldLink RX7 41 "ArenaPlanModel" "order" "[I", .fieldLink RX7 35 "ArenaPlanModel" "size" "[I", .methodLink RX7 146 yX7_fits, .instanceMethod yX7_fits, .selects RX7 yX7_fits yX7_fits, .initialized RX7, .code yX7_fits cX7_fits 6 (some .boolean), .fieldLink RX7 44 "ArenaPlanModel" "step" "[I", .fieldLink RX7 47 "ArenaPlanModel" "until" "[I"] ++ wsX70 ++ (vx_atM "java/lang/ArrayIndexOutOfBoundsException" ["java/lang/IndexOutOfBoundsException", "java/lang/RuntimeException", "java/lang/Exception"]).filter goodWord)
def wsX7_plan_r1 : List Cond := [Cond.fieldLink RX7 71 "ArenaPlanModel" "thrown" "I", Cond.fieldLink RX7 100 "ArenaPlanModel" "ringSize" "I", Cond.fieldLink RX7 157 "ArenaPlanModel" "way" "I", Cond.fieldLink RX7 119 "ArenaPlanModel" "placed" "I", Cond.fieldLink RX7 75 "ArenaPlanModel" "count" "I", Cond.fieldLink RX7 35 "ArenaPlanModel" "size" "[I", Cond.fieldLink RX7 53 "ArenaPlanModel" "newSize" "[I", Cond.fieldLink RX7 44 "ArenaPlanModel" "step" "[I", Cond.fieldLink RX7 41 "ArenaPlanModel" "order" "[I", Cond.fieldLink RX7 86 "ArenaPlanModel" "planned" "Z", Cond.fieldLink RX7 175 "ArenaPlanModel" "ran" "Z", Cond.fieldLink RX7 178 "ArenaPlanModel" "least" "I", Cond.fieldLink RX7 143 "ArenaPlanModel" "arena" "I", Cond.methodLink RX7 82 yX7_fail, Cond.instanceMethod yX7_fail, Cond.selects RX7 yX7_fail yX7_fail, Cond.initialized RX7, Cond.code yX7_fail cX7_fail 2 (some .int), Cond.methodLink RX7 150 yX7_isWired, Cond.instanceMethod yX7_isWired, Cond.selects RX7 yX7_isWired yX7_isWired, Cond.code yX7_isWired cX7_isWired 4 (some .boolean), Cond.fieldLink RX7 7 "ArenaPlanModel" "operation" "[I", Cond.fieldLink RX7 19 "ArenaPlanModel" "source" "[I"]
def wsX7_plan_r2 : List Cond := [Cond.methodLink RX7 94 yX7_inputs, Cond.static yX7_inputs, Cond.code yX7_inputs cX7_inputs 1 (some .int), Cond.methodLink RX7 110 yX7_findRing, Cond.instanceMethod yX7_findRing, Cond.selects RX7 yX7_findRing yX7_findRing, Cond.code yX7_findRing cX7_findRing 3 none, Cond.fieldLink RX7 32 "ArenaPlanModel" "ring" "[I", Cond.methodLink RX7 103 yX7_measure, Cond.instanceMethod yX7_measure, Cond.selects RX7 yX7_measure yX7_measure, Cond.code yX7_measure cX7_measure 5 none, Cond.fieldLink RX7 29 "ArenaPlanModel" "distance" "[I", Cond.methodLink RX7 97 yX7_far, Cond.instanceMethod yX7_far, Cond.selects RX7 yX7_far yX7_far, Cond.code yX7_far cX7_far 2 (some .int), Cond.methodLink RX7 107 yX7_nearest, Cond.instanceMethod yX7_nearest, Cond.selects RX7 yX7_nearest yX7_nearest, Cond.code yX7_nearest cX7_nearest 5 (some .int), Cond.methodLink RX7 154 yX7_findSizes, Cond.instanceMethod yX7_findSizes, Cond.selects RX7 yX7_findSizes yX7_findSizes]
def wsX7_plan_r3 : List Cond := [Cond.code yX7_findSizes cX7_findSizes 3 (some .boolean), Cond.fieldLink RX7 56 "ArenaPlanModel" "sized" "[Z", Cond.methodLink RX7 113 yX7_isReady, Cond.instanceMethod yX7_isReady, Cond.selects RX7 yX7_isReady yX7_isReady, Cond.code yX7_isReady cX7_isReady 4 (some .boolean), Cond.methodLink RX7 116 yX7_sizeOf, Cond.instanceMethod yX7_sizeOf, Cond.selects RX7 yX7_sizeOf yX7_sizeOf, Cond.code yX7_sizeOf cX7_sizeOf 5 (some .int), Cond.fieldLink RX7 13 "ArenaPlanModel" "first" "[I", Cond.fieldLink RX7 16 "ArenaPlanModel" "second" "[I", Cond.methodLink RX7 160 yX7_orderByNumbers, Cond.instanceMethod yX7_orderByNumbers, Cond.selects RX7 yX7_orderByNumbers yX7_orderByNumbers, Cond.code yX7_orderByNumbers cX7_orderByNumbers 2 none, Cond.methodLink RX7 122 yX7_isThere, Cond.instanceMethod yX7_isThere, Cond.selects RX7 yX7_isThere yX7_isThere, Cond.code yX7_isThere cX7_isThere 2 (some .boolean), Cond.methodLink RX7 125 yX7_isFree, Cond.instanceMethod yX7_isFree, Cond.selects RX7 yX7_isFree yX7_isFree, Cond.code yX7_isFree cX7_isFree 4 (some .boolean)]
def wsX7_plan_r4 : List Cond := [Cond.methodLink RX7 128 yX7_come, Cond.instanceMethod yX7_come, Cond.selects RX7 yX7_come yX7_come, Cond.code yX7_come cX7_come 2 none, Cond.methodLink RX7 163 yX7_labelOf, Cond.instanceMethod yX7_labelOf, Cond.selects RX7 yX7_labelOf yX7_labelOf, Cond.code yX7_labelOf cX7_labelOf 8 none, Cond.fieldLink RX7 38 "ArenaPlanModel" "label" "[I", Cond.methodLink RX7 166 yX7_orderByLabels, Cond.instanceMethod yX7_orderByLabels, Cond.selects RX7 yX7_orderByLabels yX7_orderByLabels, Cond.code yX7_orderByLabels cX7_orderByLabels 2 none, Cond.methodLink RX7 137 yX7_isUsed, Cond.instanceMethod yX7_isUsed, Cond.selects RX7 yX7_isUsed yX7_isUsed, Cond.code yX7_isUsed cX7_isUsed 4 (some .boolean), Cond.methodLink RX7 140 yX7_visit, Cond.instanceMethod yX7_visit, Cond.selects RX7 yX7_visit yX7_visit, Cond.code yX7_visit cX7_visit 3 none, Cond.fieldLink RX7 59 "ArenaPlanModel" "stack" "[I", Cond.fieldLink RX7 131 "ArenaPlanModel" "top" "I", Cond.methodLink RX7 134 yX7_due]
def wsX7_plan_r5 : List Cond := [Cond.instanceMethod yX7_due, Cond.selects RX7 yX7_due yX7_due, Cond.code yX7_due cX7_due 7 (some .int), Cond.methodLink RX7 169 yX7_findLives, Cond.instanceMethod yX7_findLives, Cond.selects RX7 yX7_findLives yX7_findLives, Cond.code yX7_findLives cX7_findLives 3 none, Cond.fieldLink RX7 47 "ArenaPlanModel" "until" "[I", Cond.fieldLink RX7 22 "ArenaPlanModel" "kept" "[Z", Cond.methodLink RX7 172 yX7_findPlaces, Cond.instanceMethod yX7_findPlaces, Cond.selects RX7 yX7_findPlaces yX7_findPlaces, Cond.code yX7_findPlaces cX7_findPlaces 5 none, Cond.fieldLink RX7 50 "ArenaPlanModel" "place" "[I", Cond.methodLink RX7 146 yX7_fits, Cond.instanceMethod yX7_fits, Cond.selects RX7 yX7_fits yX7_fits, Cond.code yX7_fits cX7_fits 6 (some .boolean)]
def wsX7_plan : List Cond := .code yX7_plan cX7_plan 3 (some .int) :: ((wsX7_plan_r1 ++ (wsX7_plan_r2 ++ (wsX7_plan_r3 ++ (wsX7_plan_r4 ++ wsX7_plan_r5)))) ++ wsX70 ++ (vx_atM "java/lang/ArrayIndexOutOfBoundsException" ["java/lang/IndexOutOfBoundsException", "java/lang/RuntimeException", "java/lang/Exception"]).filter goodWord)
def wsX7_order : List Cond := .code yX7_order cX7_order 2 (some .int) :: ([.fieldLink RX7 86 "ArenaPlanModel" "planned" "Z", .fieldLink RX7 75 "ArenaPlanModel" "count" "I", .fieldLink RX7 71 "ArenaPlanModel" "thrown" "I", .fieldLink RX7 41 "ArenaPlanModel" "order" "[I"] ++ wsX70 ++ (vx_atM "java/lang/ArrayIndexOutOfBoundsException" ["java/lang/IndexOutOfBoundsException", "java/lang/RuntimeException", "java/lang/Exception"]).filter goodWord)
def wsX7_about : List Cond := .code yX7_about cX7_about 3 (some .int) :: ([.fieldLink RX7 86 "ArenaPlanModel" "planned" "Z", .fieldLink RX7 71 "ArenaPlanModel" "thrown" "I", .fieldLink RX7 35 "ArenaPlanModel" "size" "[I", .fieldLink RX7 44 "ArenaPlanModel" "step" "[I", .fieldLink RX7 47 "ArenaPlanModel" "until" "[I", .fieldLink RX7 50 "ArenaPlanModel" "place" "[I", .fieldLink RX7 38 "ArenaPlanModel" "label" "[I", .methodLink RX7 90 yX7_isNode, .instanceMethod yX7_isNode, .selects RX7 yX7_isNode yX7_isNode, .initialized RX7, .code yX7_isNode cX7_isNode 2 (some .boolean), .fieldLink RX7 75 "ArenaPlanModel" "count" "I"] ++ wsX70 ++ (vx_atM "java/lang/ArrayIndexOutOfBoundsException" ["java/lang/IndexOutOfBoundsException", "java/lang/RuntimeException", "java/lang/Exception"]).filter goodWord)
def wsX7_costOf : List Cond := .code yX7_costOf cX7_costOf 4 (some .int) :: ([.fieldLink RX7 75 "ArenaPlanModel" "count" "I", .fieldLink RX7 44 "ArenaPlanModel" "step" "[I", .fieldLink RX7 47 "ArenaPlanModel" "until" "[I", .fieldLink RX7 35 "ArenaPlanModel" "size" "[I"] ++ wsX70 ++ (vx_atM "java/lang/ArrayIndexOutOfBoundsException" ["java/lang/IndexOutOfBoundsException", "java/lang/RuntimeException", "java/lang/Exception"]).filter goodWord)
def wsX7_cost : List Cond := .code yX7_cost cX7_cost 2 (some .int) :: ([.fieldLink RX7 86 "ArenaPlanModel" "planned" "Z", .fieldLink RX7 75 "ArenaPlanModel" "count" "I", .fieldLink RX7 71 "ArenaPlanModel" "thrown" "I", .methodLink RX7 181 yX7_costOf, .instanceMethod yX7_costOf, .selects RX7 yX7_costOf yX7_costOf, .initialized RX7, .code yX7_costOf cX7_costOf 4 (some .int), .fieldLink RX7 44 "ArenaPlanModel" "step" "[I", .fieldLink RX7 47 "ArenaPlanModel" "until" "[I", .fieldLink RX7 35 "ArenaPlanModel" "size" "[I"] ++ wsX70 ++ (vx_atM "java/lang/ArrayIndexOutOfBoundsException" ["java/lang/IndexOutOfBoundsException", "java/lang/RuntimeException", "java/lang/Exception"]).filter goodWord)
def wsX7_peak : List Cond := .code yX7_peak cX7_peak 3 (some .int) :: ([.fieldLink RX7 86 "ArenaPlanModel" "planned" "Z", .fieldLink RX7 71 "ArenaPlanModel" "thrown" "I", .fieldLink RX7 75 "ArenaPlanModel" "count" "I", .methodLink RX7 181 yX7_costOf, .instanceMethod yX7_costOf, .selects RX7 yX7_costOf yX7_costOf, .initialized RX7, .code yX7_costOf cX7_costOf 4 (some .int), .fieldLink RX7 44 "ArenaPlanModel" "step" "[I", .fieldLink RX7 47 "ArenaPlanModel" "until" "[I", .fieldLink RX7 35 "ArenaPlanModel" "size" "[I"] ++ wsX70 ++ (vx_atM "java/lang/ArrayIndexOutOfBoundsException" ["java/lang/IndexOutOfBoundsException", "java/lang/RuntimeException", "java/lang/Exception"]).filter goodWord)
def wsX7_needed : List Cond := .code yX7_needed cX7_needed 4 (some .int) :: ([.fieldLink RX7 7 "ArenaPlanModel" "operation" "[I", .fieldLink RX7 19 "ArenaPlanModel" "source" "[I", .methodLink RX7 94 yX7_inputs, .static yX7_inputs, .initialized RX7, .code yX7_inputs cX7_inputs 1 (some .int)] ++ wsX70 ++ (vx_atM "java/lang/ArrayIndexOutOfBoundsException" ["java/lang/IndexOutOfBoundsException", "java/lang/RuntimeException", "java/lang/Exception"]).filter goodWord)
def wsX7_users : List Cond := .code yX7_users cX7_users 4 (some .int) :: ([.fieldLink RX7 75 "ArenaPlanModel" "count" "I", .fieldLink RX7 19 "ArenaPlanModel" "source" "[I"] ++ wsX70 ++ (vx_atM "java/lang/ArrayIndexOutOfBoundsException" ["java/lang/IndexOutOfBoundsException", "java/lang/RuntimeException", "java/lang/Exception"]).filter goodWord)
def wsX7_stays : List Cond := .code yX7_stays cX7_stays 5 (some .int) :: ([.fieldLink RX7 75 "ArenaPlanModel" "count" "I", .fieldLink RX7 22 "ArenaPlanModel" "kept" "[Z", .fieldLink RX7 35 "ArenaPlanModel" "size" "[I", .methodLink RX7 184 yX7_users, .instanceMethod yX7_users, .selects RX7 yX7_users yX7_users, .initialized RX7, .code yX7_users cX7_users 4 (some .int), .fieldLink RX7 19 "ArenaPlanModel" "source" "[I"] ++ wsX70 ++ (vx_atM "java/lang/ArrayIndexOutOfBoundsException" ["java/lang/IndexOutOfBoundsException", "java/lang/RuntimeException", "java/lang/Exception"]).filter goodWord)
def wsX7_findLeast : List Cond := .code yX7_findLeast cX7_findLeast 8 none :: ([.fieldLink RX7 75 "ArenaPlanModel" "count" "I", .fieldLink RX7 62 "ArenaPlanModel" "best" "[I", .fieldLink RX7 35 "ArenaPlanModel" "size" "[I", .fieldLink RX7 178 "ArenaPlanModel" "least" "I", .methodLink RX7 187 yX7_stays, .instanceMethod yX7_stays, .selects RX7 yX7_stays yX7_stays, .initialized RX7, .code yX7_stays cX7_stays 5 (some .int), .fieldLink RX7 22 "ArenaPlanModel" "kept" "[Z", .methodLink RX7 184 yX7_users, .instanceMethod yX7_users, .selects RX7 yX7_users yX7_users, .code yX7_users cX7_users 4 (some .int), .fieldLink RX7 19 "ArenaPlanModel" "source" "[I", .methodLink RX7 190 yX7_needed, .instanceMethod yX7_needed, .selects RX7 yX7_needed yX7_needed, .code yX7_needed cX7_needed 4 (some .int), .fieldLink RX7 7 "ArenaPlanModel" "operation" "[I", .methodLink RX7 94 yX7_inputs, .static yX7_inputs, .code yX7_inputs cX7_inputs 1 (some .int)] ++ wsX70 ++ (vx_atM "java/lang/ArrayIndexOutOfBoundsException" ["java/lang/IndexOutOfBoundsException", "java/lang/RuntimeException", "java/lang/Exception"]).filter goodWord)
def wsX7_least_r1 : List Cond := [Cond.fieldLink RX7 86 "ArenaPlanModel" "planned" "Z", Cond.fieldLink RX7 71 "ArenaPlanModel" "thrown" "I", Cond.fieldLink RX7 178 "ArenaPlanModel" "least" "I", Cond.methodLink RX7 193 yX7_findLeast, Cond.instanceMethod yX7_findLeast, Cond.selects RX7 yX7_findLeast yX7_findLeast, Cond.initialized RX7, Cond.code yX7_findLeast cX7_findLeast 8 none, Cond.fieldLink RX7 75 "ArenaPlanModel" "count" "I", Cond.fieldLink RX7 62 "ArenaPlanModel" "best" "[I", Cond.fieldLink RX7 35 "ArenaPlanModel" "size" "[I", Cond.methodLink RX7 187 yX7_stays, Cond.instanceMethod yX7_stays, Cond.selects RX7 yX7_stays yX7_stays, Cond.code yX7_stays cX7_stays 5 (some .int), Cond.fieldLink RX7 22 "ArenaPlanModel" "kept" "[Z", Cond.methodLink RX7 184 yX7_users, Cond.instanceMethod yX7_users, Cond.selects RX7 yX7_users yX7_users, Cond.code yX7_users cX7_users 4 (some .int), Cond.fieldLink RX7 19 "ArenaPlanModel" "source" "[I", Cond.methodLink RX7 190 yX7_needed, Cond.instanceMethod yX7_needed, Cond.selects RX7 yX7_needed yX7_needed]
def wsX7_least_r2 : List Cond := [Cond.code yX7_needed cX7_needed 4 (some .int), Cond.fieldLink RX7 7 "ArenaPlanModel" "operation" "[I", Cond.methodLink RX7 94 yX7_inputs, Cond.static yX7_inputs, Cond.code yX7_inputs cX7_inputs 1 (some .int)]
def wsX7_least : List Cond := .code yX7_least cX7_least 1 (some .int) :: ((wsX7_least_r1 ++ wsX7_least_r2) ++ wsX70 ++ (vx_atM "java/lang/ArrayIndexOutOfBoundsException" ["java/lang/IndexOutOfBoundsException", "java/lang/RuntimeException", "java/lang/Exception"]).filter goodWord)
def wsX7_work : List Cond := .code yX7_work cX7_work 9 none :: ([.fieldLink RX7 7 "ArenaPlanModel" "operation" "[I", .fieldLink RX7 19 "ArenaPlanModel" "source" "[I", .fieldLink RX7 35 "ArenaPlanModel" "size" "[I", .fieldLink RX7 68 "ArenaPlanModel" "value" "[I", .fieldLink RX7 26 "ArenaPlanModel" "given" "[I", .fieldLink RX7 13 "ArenaPlanModel" "first" "[I", .methodLink RX7 94 yX7_inputs, .static yX7_inputs, .initialized RX7, .code yX7_inputs cX7_inputs 1 (some .int)] ++ wsX70 ++ (vx_atM "java/lang/ArrayIndexOutOfBoundsException" ["java/lang/IndexOutOfBoundsException", "java/lang/RuntimeException", "java/lang/Exception"]).filter goodWord)
def wsX7_run : List Cond := .code yX7_run cX7_run 5 (some .int) :: ([.fieldLink RX7 86 "ArenaPlanModel" "planned" "Z", .fieldLink RX7 71 "ArenaPlanModel" "thrown" "I", .fieldLink RX7 65 "ArenaPlanModel" "cells" "[I", .fieldLink RX7 75 "ArenaPlanModel" "count" "I", .fieldLink RX7 41 "ArenaPlanModel" "order" "[I", .fieldLink RX7 35 "ArenaPlanModel" "size" "[I", .fieldLink RX7 50 "ArenaPlanModel" "place" "[I", .fieldLink RX7 68 "ArenaPlanModel" "value" "[I", .fieldLink RX7 175 "ArenaPlanModel" "ran" "Z", .methodLink RX7 196 yX7_work, .instanceMethod yX7_work, .selects RX7 yX7_work yX7_work, .initialized RX7, .code yX7_work cX7_work 9 none, .fieldLink RX7 7 "ArenaPlanModel" "operation" "[I", .fieldLink RX7 19 "ArenaPlanModel" "source" "[I", .fieldLink RX7 26 "ArenaPlanModel" "given" "[I", .fieldLink RX7 13 "ArenaPlanModel" "first" "[I", .methodLink RX7 94 yX7_inputs, .static yX7_inputs, .code yX7_inputs cX7_inputs 1 (some .int)] ++ wsX70 ++ (vx_atM "java/lang/ArrayIndexOutOfBoundsException" ["java/lang/IndexOutOfBoundsException", "java/lang/RuntimeException", "java/lang/Exception"]).filter goodWord)
def wsX7_cell : List Cond := .code yX7_cell cX7_cell 2 (some .int) :: ([.fieldLink RX7 86 "ArenaPlanModel" "planned" "Z", .fieldLink RX7 175 "ArenaPlanModel" "ran" "Z", .fieldLink RX7 143 "ArenaPlanModel" "arena" "I", .fieldLink RX7 71 "ArenaPlanModel" "thrown" "I", .fieldLink RX7 65 "ArenaPlanModel" "cells" "[I"] ++ wsX70 ++ (vx_atM "java/lang/ArrayIndexOutOfBoundsException" ["java/lang/IndexOutOfBoundsException", "java/lang/RuntimeException", "java/lang/Exception"]).filter goodWord)
def wsX7_result : List Cond := .code yX7_result cX7_result 3 (some .int) :: ([.fieldLink RX7 86 "ArenaPlanModel" "planned" "Z", .fieldLink RX7 175 "ArenaPlanModel" "ran" "Z", .fieldLink RX7 22 "ArenaPlanModel" "kept" "[Z", .fieldLink RX7 35 "ArenaPlanModel" "size" "[I", .fieldLink RX7 71 "ArenaPlanModel" "thrown" "I", .fieldLink RX7 68 "ArenaPlanModel" "value" "[I", .methodLink RX7 90 yX7_isNode, .instanceMethod yX7_isNode, .selects RX7 yX7_isNode yX7_isNode, .initialized RX7, .code yX7_isNode cX7_isNode 2 (some .boolean), .fieldLink RX7 75 "ArenaPlanModel" "count" "I"] ++ wsX70 ++ (vx_atM "java/lang/ArrayIndexOutOfBoundsException" ["java/lang/IndexOutOfBoundsException", "java/lang/RuntimeException", "java/lang/Exception"]).filter goodWord)
def wsJx00060_init_a7421 : List Cond := .code yJx00060_init_a7421 cJx00060_init_a7421 2 none :: ([])
def wsJ9_max_7cf53 : List Cond := .code yJ9_max_7cf53 cJ9_max_7cf53 2 (some .int) :: ([])
def wsJ9_min_7cf53 : List Cond := .code yJ9_min_7cf53 cJ9_min_7cf53 2 (some .int) :: ([])
def wsL_make_r1 : List Cond := [Cond.classLink RL 13 "java/lang/IllegalArgumentException", Cond.classLink RL 15 "java/lang/UnsupportedOperationException", Cond.methodLink RL 7 yX6_make, Cond.instanceMethod yX6_make, Cond.selects RX6 yX6_make yX6_make, Cond.initialized RX6, Cond.code yX6_make cX6_make 4 (some .int), Cond.classLink RX6 61 "java/lang/IllegalArgumentException", Cond.initialized "java/lang/IllegalArgumentException", Cond.classLink RX6 72 "java/lang/UnsupportedOperationException", Cond.initialized "java/lang/UnsupportedOperationException", Cond.fieldLink RX6 10 "ArenaPlan" "graph" "LArenaPlan$Graph;", Cond.fieldLink RX6 68 "ArenaPlan$Graph" "count" "I", Cond.methodLink RX6 57 yX6_canBeMade, Cond.static yX6_canBeMade, Cond.code yX6_canBeMade cX6_canBeMade 3 (some .boolean), Cond.fieldLink RX6 223 "ArenaPlan" "INPUTS" "[I", Cond.methodLink RX6 95 yX6_isWithin, Cond.static yX6_isWithin, Cond.code yX6_isWithin cX6_isWithin 2 (some .boolean), Cond.methodLink RX6 77 yX6_forgetPlan, Cond.instanceMethod yX6_forgetPlan, Cond.selects RX6 yX6_forgetPlan yX6_forgetPlan, Cond.code yX6_forgetPlan cX6_forgetPlan 1 none]
def wsL_make_r2 : List Cond := [Cond.fieldLink RX6 156 "ArenaPlan" "planned" "Z", Cond.methodLink RX6 80 yX1_add, Cond.instanceMethod yX1_add, Cond.selects RX1 yX1_add yX1_add, Cond.initialized RX1, Cond.code yX1_add cX1_add 5 (some .int), Cond.fieldLink RX1 33 "ArenaPlan$Graph" "count" "I", Cond.fieldLink RX1 9 "ArenaPlan$Graph" "operation" "[I", Cond.fieldLink RX1 15 "ArenaPlan$Graph" "p" "[I", Cond.fieldLink RX1 18 "ArenaPlan$Graph" "q" "[I", Cond.fieldLink RX1 26 "ArenaPlan$Graph" "source" "[[I", Cond.methodLink RX1 44 yJ7_fill_53178, Cond.static yJ7_fill_53178, Cond.initialized RJ7, Cond.code yJ7_fill_53178 cJ7_fill_53178 4 none]
def wsL_make : List Cond := .codeWith yL_make cL_make 6 (some .int) [(0, 12, 15, 13), (0, 12, 19, 15)] :: ((wsL_make_r1 ++ wsL_make_r2) ++ wsX60 ++ wsX10 ++ (vx_atM "java/lang/ArrayIndexOutOfBoundsException" ["java/lang/IndexOutOfBoundsException", "java/lang/RuntimeException", "java/lang/Exception"]).filter goodWord ++ (vx_atS RX6 65 "java/lang/IllegalArgumentException" ["java/lang/RuntimeException", "java/lang/Exception"]).filter goodWord ++ (vx_atS RX6 76 "java/lang/UnsupportedOperationException" ["java/lang/RuntimeException", "java/lang/Exception"]).filter goodWord)
def wsL_ring_r1 : List Cond := [Cond.classLink RL 21 "java/util/NoSuchElementException", Cond.methodLink RL 17 yX6_ring, Cond.instanceMethod yX6_ring, Cond.selects RX6 yX6_ring yX6_ring, Cond.initialized RX6, Cond.code yX6_ring cX6_ring 2 (some .int), Cond.classLink RX6 120 "java/util/NoSuchElementException", Cond.initialized "java/util/NoSuchElementException", Cond.fieldLink RX6 21 "ArenaPlan" "rings" "LArenaPlan$Rings;", Cond.fieldLink RX6 117 "ArenaPlan$Rings" "length" "I", Cond.fieldLink RX6 125 "ArenaPlan$Rings" "member" "[I", Cond.methodLink RX6 114 yX5_find, Cond.instanceMethod yX5_find, Cond.selects RX5 yX5_find yX5_find, Cond.initialized RX5, Cond.code yX5_find cX5_find 2 none, Cond.fieldLink RX5 25 "ArenaPlan$Rings" "length" "I", Cond.fieldLink RX5 21 "ArenaPlan$Rings" "graph" "LArenaPlan$Graph;", Cond.fieldLink RX5 32 "ArenaPlan$Graph" "count" "I", Cond.fieldLink RX5 9 "ArenaPlan$Rings" "reach" "[I", Cond.methodLink RX5 29 yX5_findReach, Cond.instanceMethod yX5_findReach, Cond.selects RX5 yX5_findReach yX5_findReach, Cond.code yX5_findReach cX5_findReach 3 none]
def wsL_ring_r2 : List Cond := [Cond.methodLink RX5 48 yX1_dependencies, Cond.instanceMethod yX1_dependencies, Cond.selects RX1 yX1_dependencies yX1_dependencies, Cond.initialized RX1, Cond.code yX1_dependencies cX1_dependencies 2 (some .int), Cond.fieldLink RX1 26 "ArenaPlan$Graph" "source" "[[I", Cond.static yX6_setOf, Cond.code yX6_setOf cX6_setOf 1 (some .int), Cond.static yX6_contains, Cond.code yX6_contains cX6_contains 2 (some .boolean), Cond.methodLink RX5 41 yX5_countSteps, Cond.instanceMethod yX5_countSteps, Cond.selects RX5 yX5_countSteps yX5_countSteps, Cond.code yX5_countSteps cX5_countSteps 5 none, Cond.fieldLink RX5 15 "ArenaPlan$Rings" "stepsLeft" "[I", Cond.methodLink RX5 61 Lib.Math.min.name, Cond.static Lib.Math.min.name, Cond.initialized "java/lang/Math", Cond.code Lib.Math.min.name Lib.Math.min.code 2 (some .int), Cond.methodLink RX5 52 yJ7_fill_53178, Cond.static yJ7_fill_53178, Cond.initialized RJ7, Cond.code yJ7_fill_53178 cJ7_fill_53178 4 none, Cond.methodLink RX5 58 yX5_nearest]
def wsL_ring_r3 : List Cond := [Cond.instanceMethod yX5_nearest, Cond.selects RX5 yX5_nearest yX5_nearest, Cond.code yX5_nearest cX5_nearest 4 (some .int), Cond.fieldLink RX5 67 "ArenaPlan$Graph" "source" "[[I", Cond.methodLink RX5 45 yX5_follow, Cond.instanceMethod yX5_follow, Cond.selects RX5 yX5_follow yX5_follow, Cond.code yX5_follow cX5_follow 3 none, Cond.fieldLink RX5 18 "ArenaPlan$Rings" "member" "[I", Cond.methodLink RX6 95 yX6_isWithin, Cond.static yX6_isWithin, Cond.code yX6_isWithin cX6_isWithin 2 (some .boolean)]
def wsL_ring : List Cond := .codeWith yL_ring cL_ring 4 (some .int) [(0, 9, 12, 21)] :: ((wsL_ring_r1 ++ (wsL_ring_r2 ++ wsL_ring_r3)) ++ wsX60 ++ wsX50 ++ wsX10 ++ (vx_atM "java/lang/ArrayIndexOutOfBoundsException" ["java/lang/IndexOutOfBoundsException", "java/lang/RuntimeException", "java/lang/Exception"]).filter goodWord ++ (vx_atSX RX6 124 "java/util/NoSuchElementException" 13 prog_23_method_4_code ["java/lang/RuntimeException", "java/lang/Exception"]).filter goodWord)
def wsL_plan_r1 : List Cond := [Cond.classLink RL 13 "java/lang/IllegalArgumentException", Cond.classLink RL 21 "java/util/NoSuchElementException", Cond.classLink RL 26 "java/lang/IllegalStateException", Cond.classLink RL 28 "java/lang/ArithmeticException", Cond.methodLink RL 23 yX6_plan, Cond.instanceMethod yX6_plan, Cond.selects RX6 yX6_plan yX6_plan, Cond.initialized RX6, Cond.code yX6_plan cX6_plan 2 (some .int), Cond.classLink RX6 61 "java/lang/IllegalArgumentException", Cond.initialized "java/lang/IllegalArgumentException", Cond.classLink RX6 120 "java/util/NoSuchElementException", Cond.initialized "java/util/NoSuchElementException", Cond.classLink RX6 136 "java/lang/IllegalStateException", Cond.initialized "java/lang/IllegalStateException", Cond.classLink RX6 144 "java/lang/ArithmeticException", Cond.initialized "java/lang/ArithmeticException", Cond.fieldLink RX6 10 "ArenaPlan" "graph" "LArenaPlan$Graph;", Cond.fieldLink RX6 68 "ArenaPlan$Graph" "count" "I", Cond.fieldLink RX6 21 "ArenaPlan" "rings" "LArenaPlan$Rings;", Cond.fieldLink RX6 117 "ArenaPlan$Rings" "length" "I", Cond.fieldLink RX6 28 "ArenaPlan" "plan" "LArenaPlan$Plan;", Cond.fieldLink RX6 37 "ArenaPlan" "places" "LArenaPlan$Places;", Cond.fieldLink RX6 156 "ArenaPlan" "planned" "Z"]
def wsL_plan_r2 : List Cond := [Cond.fieldLink RX6 160 "ArenaPlan" "ran" "Z", Cond.fieldLink RX6 163 "ArenaPlan" "leastPeak" "I", Cond.fieldLink RX6 166 "ArenaPlan$Places" "arena" "I", Cond.methodLink RX6 130 yX1_isWired, Cond.instanceMethod yX1_isWired, Cond.selects RX1 yX1_isWired yX1_isWired, Cond.initialized RX1, Cond.code yX1_isWired cX1_isWired 3 (some .boolean), Cond.fieldLink RX1 33 "ArenaPlan$Graph" "count" "I", Cond.fieldLink RX1 26 "ArenaPlan$Graph" "source" "[[I", Cond.methodLink RX1 50 yX1_inputs, Cond.instanceMethod yX1_inputs, Cond.selects RX1 yX1_inputs yX1_inputs, Cond.code yX1_inputs cX1_inputs 2 (some .int), Cond.fieldLink RX1 9 "ArenaPlan$Graph" "operation" "[I", Cond.methodLink RX6 114 yX5_find, Cond.instanceMethod yX5_find, Cond.selects RX5 yX5_find yX5_find, Cond.initialized RX5, Cond.code yX5_find cX5_find 2 none, Cond.fieldLink RX5 25 "ArenaPlan$Rings" "length" "I", Cond.fieldLink RX5 21 "ArenaPlan$Rings" "graph" "LArenaPlan$Graph;", Cond.fieldLink RX5 32 "ArenaPlan$Graph" "count" "I", Cond.fieldLink RX5 9 "ArenaPlan$Rings" "reach" "[I"]
def wsL_plan_r3 : List Cond := [Cond.methodLink RX5 29 yX5_findReach, Cond.instanceMethod yX5_findReach, Cond.selects RX5 yX5_findReach yX5_findReach, Cond.code yX5_findReach cX5_findReach 3 none, Cond.methodLink RX5 48 yX1_dependencies, Cond.instanceMethod yX1_dependencies, Cond.selects RX1 yX1_dependencies yX1_dependencies, Cond.code yX1_dependencies cX1_dependencies 2 (some .int), Cond.static yX6_setOf, Cond.code yX6_setOf cX6_setOf 1 (some .int), Cond.static yX6_contains, Cond.code yX6_contains cX6_contains 2 (some .boolean), Cond.methodLink RX5 41 yX5_countSteps, Cond.instanceMethod yX5_countSteps, Cond.selects RX5 yX5_countSteps yX5_countSteps, Cond.code yX5_countSteps cX5_countSteps 5 none, Cond.fieldLink RX5 15 "ArenaPlan$Rings" "stepsLeft" "[I", Cond.methodLink RX5 61 Lib.Math.min.name, Cond.static Lib.Math.min.name, Cond.initialized "java/lang/Math", Cond.code Lib.Math.min.name Lib.Math.min.code 2 (some .int), Cond.methodLink RX5 52 yJ7_fill_53178, Cond.static yJ7_fill_53178, Cond.initialized RJ7]
def wsL_plan_r4 : List Cond := [Cond.code yJ7_fill_53178 cJ7_fill_53178 4 none, Cond.methodLink RX5 58 yX5_nearest, Cond.instanceMethod yX5_nearest, Cond.selects RX5 yX5_nearest yX5_nearest, Cond.code yX5_nearest cX5_nearest 4 (some .int), Cond.fieldLink RX5 67 "ArenaPlan$Graph" "source" "[[I", Cond.methodLink RX5 45 yX5_follow, Cond.instanceMethod yX5_follow, Cond.selects RX5 yX5_follow yX5_follow, Cond.code yX5_follow cX5_follow 3 none, Cond.fieldLink RX5 18 "ArenaPlan$Rings" "member" "[I", Cond.methodLink RX6 141 yX4_measure, Cond.instanceMethod yX4_measure, Cond.selects RX4 yX4_measure yX4_measure, Cond.initialized RX4, Cond.code yX4_measure cX4_measure 3 (some .boolean), Cond.fieldLink RX4 46 "ArenaPlan$Plan" "length" "I", Cond.fieldLink RX4 24 "ArenaPlan$Plan" "sequence" "[I", Cond.fieldLink RX4 18 "ArenaPlan$Plan" "size" "[I", Cond.fieldLink RX4 21 "ArenaPlan$Plan" "label" "[I", Cond.methodLink RX4 40 yX4_findNeighbours, Cond.instanceMethod yX4_findNeighbours, Cond.selects RX4 yX4_findNeighbours yX4_findNeighbours, Cond.code yX4_findNeighbours cX4_findNeighbours 3 none]
def wsL_plan_r5 : List Cond := [Cond.fieldLink RX4 15 "ArenaPlan$Plan" "dependents" "[I", Cond.fieldLink RX4 36 "ArenaPlan$Plan" "graph" "LArenaPlan$Graph;", Cond.fieldLink RX4 64 "ArenaPlan$Graph" "count" "I", Cond.fieldLink RX4 9 "ArenaPlan$Plan" "dependencies" "[I", Cond.methodLink RX4 75 yJ7_fill_53178, Cond.methodLink RX4 81 yX1_dependencies, Cond.methodLink RX4 43 yX4_orderByNumbers, Cond.instanceMethod yX4_orderByNumbers, Cond.selects RX4 yX4_orderByNumbers yX4_orderByNumbers, Cond.code yX4_orderByNumbers cX4_orderByNumbers 2 none, Cond.methodLink RX4 121 yX4_beginOrder, Cond.instanceMethod yX4_beginOrder, Cond.selects RX4 yX4_beginOrder yX4_beginOrder, Cond.code yX4_beginOrder cX4_beginOrder 1 none, Cond.fieldLink RX4 27 "ArenaPlan$Plan" "step" "[I", Cond.fieldLink RX4 118 "ArenaPlan$Plan" "inOrder" "I", Cond.methodLink RX4 124 yX4_leastReady, Cond.instanceMethod yX4_leastReady, Cond.selects RX4 yX4_leastReady yX4_leastReady, Cond.code yX4_leastReady cX4_leastReady 2 (some .int), Cond.methodLink RX4 132 yX4_isReady, Cond.instanceMethod yX4_isReady, Cond.selects RX4 yX4_isReady yX4_isReady, Cond.code yX4_isReady cX4_isReady 2 (some .boolean)]
def wsL_plan_r6 : List Cond := [Cond.methodLink RX4 135 yX4_isMissing, Cond.instanceMethod yX4_isMissing, Cond.selects RX4 yX4_isMissing yX4_isMissing, Cond.code yX4_isMissing cX4_isMissing 2 (some .boolean), Cond.static yX6_isPartOf, Cond.code yX6_isPartOf cX6_isPartOf 2 (some .boolean), Cond.methodLink RX4 128 yX4_append, Cond.instanceMethod yX4_append, Cond.selects RX4 yX4_append yX4_append, Cond.code yX4_append cX4_append 2 none, Cond.methodLink RX4 50 yX4_sizesFit, Cond.instanceMethod yX4_sizesFit, Cond.selects RX4 yX4_sizesFit yX4_sizesFit, Cond.code yX4_sizesFit cX4_sizesFit 4 (some .boolean), Cond.fieldLink RX4 98 "ArenaPlan$Graph" "operation" "[I", Cond.fieldLink RX4 101 "ArenaPlan$Graph" "p" "[I", Cond.fieldLink RX4 104 "ArenaPlan$Graph" "q" "[I", Cond.methodLink RX4 94 yX4_sizeOfSource, Cond.instanceMethod yX4_sizeOfSource, Cond.selects RX4 yX4_sizeOfSource yX4_sizeOfSource, Cond.code yX4_sizeOfSource cX4_sizeOfSource 4 (some .int), Cond.fieldLink RX4 90 "ArenaPlan$Graph" "source" "[[I", Cond.methodLink RX4 54 yX4_sizeOf, Cond.instanceMethod yX4_sizeOf]
def wsL_plan_r7 : List Cond := [Cond.selects RX4 yX4_sizeOf yX4_sizeOf, Cond.code yX4_sizeOf cX4_sizeOf 3 (some .int), Cond.methodLink RX4 58 yX4_labelOf, Cond.instanceMethod yX4_labelOf, Cond.selects RX4 yX4_labelOf yX4_labelOf, Cond.code yX4_labelOf cX4_labelOf 7 (some .int), Cond.methodLink RX4 110 Lib.Math.max.name, Cond.static Lib.Math.max.name, Cond.code Lib.Math.max.name Lib.Math.max.code 2 (some .int), Cond.methodLink RX4 115 Lib.Math.min.name, Cond.methodLink RX4 107 yX1_inputs, Cond.methodLink RX6 149 yX4_arrange, Cond.instanceMethod yX4_arrange, Cond.selects RX4 yX4_arrange yX4_arrange, Cond.code yX4_arrange cX4_arrange 3 none, Cond.fieldLink RX4 30 "ArenaPlan$Plan" "last" "[I", Cond.methodLink RX4 61 yX4_orderByLabels, Cond.instanceMethod yX4_orderByLabels, Cond.selects RX4 yX4_orderByLabels yX4_orderByLabels, Cond.code yX4_orderByLabels cX4_orderByLabels 2 none, Cond.methodLink RX4 141 yX4_visit, Cond.instanceMethod yX4_visit, Cond.selects RX4 yX4_visit yX4_visit, Cond.code yX4_visit cX4_visit 3 none]
def wsL_plan_r8 : List Cond := [Cond.methodLink RX4 144 yX4_firstDue, Cond.instanceMethod yX4_firstDue, Cond.selects RX4 yX4_firstDue yX4_firstDue, Cond.code yX4_firstDue cX4_firstDue 5 (some .int), Cond.methodLink RX4 147 yX4_sourceToVisit, Cond.instanceMethod yX4_sourceToVisit, Cond.selects RX4 yX4_sourceToVisit yX4_sourceToVisit, Cond.code yX4_sourceToVisit cX4_sourceToVisit 7 (some .int), Cond.methodLink RX4 69 yX4_lastStepOf, Cond.instanceMethod yX4_lastStepOf, Cond.selects RX4 yX4_lastStepOf yX4_lastStepOf, Cond.code yX4_lastStepOf cX4_lastStepOf 4 (some .int), Cond.fieldLink RX4 150 "ArenaPlan$Graph" "kept" "[Z", Cond.methodLink RX4 72 yX4_addCosts, Cond.instanceMethod yX4_addCosts, Cond.selects RX4 yX4_addCosts yX4_addCosts, Cond.code yX4_addCosts cX4_addCosts 3 none, Cond.fieldLink RX4 154 "ArenaPlan$Plan" "greatestCost" "I", Cond.fieldLink RX4 33 "ArenaPlan$Plan" "costOf" "[I", Cond.methodLink RX6 153 yX3_assign, Cond.instanceMethod yX3_assign, Cond.selects RX3 yX3_assign yX3_assign, Cond.initialized RX3, Cond.code yX3_assign cX3_assign 3 none]
def wsL_plan_r9 : List Cond := [Cond.fieldLink RX3 25 "ArenaPlan$Places" "arena" "I", Cond.fieldLink RX3 18 "ArenaPlan$Places" "plan" "LArenaPlan$Plan;", Cond.fieldLink RX3 29 "ArenaPlan$Plan" "length" "I", Cond.fieldLink RX3 9 "ArenaPlan$Places" "bySize" "[I", Cond.fieldLink RX3 15 "ArenaPlan$Places" "start" "[I", Cond.methodLink RX3 41 Lib.Math.max.name, Cond.methodLink RX3 22 yX3_sortBySize, Cond.instanceMethod yX3_sortBySize, Cond.selects RX3 yX3_sortBySize yX3_sortBySize, Cond.code yX3_sortBySize cX3_sortBySize 4 none, Cond.fieldLink RX3 47 "ArenaPlan$Plan" "sequence" "[I", Cond.fieldLink RX3 50 "ArenaPlan$Plan" "size" "[I", Cond.methodLink RX3 34 yX3_lowestStart, Cond.instanceMethod yX3_lowestStart, Cond.selects RX3 yX3_lowestStart yX3_lowestStart, Cond.code yX3_lowestStart cX3_lowestStart 6 (some .int), Cond.methodLink RX3 53 yX3_isInTheWay, Cond.instanceMethod yX3_isInTheWay, Cond.selects RX3 yX3_isInTheWay yX3_isInTheWay, Cond.code yX3_isInTheWay cX3_isInTheWay 4 (some .boolean), Cond.methodLink RX3 57 yX4_liveTogether, Cond.instanceMethod yX4_liveTogether, Cond.selects RX4 yX4_liveTogether yX4_liveTogether, Cond.code yX4_liveTogether cX4_liveTogether 3 (some .boolean)]
def wsL_plan_r10 : List Cond := [Cond.methodLink RX3 38 yX3_end, Cond.instanceMethod yX3_end, Cond.selects RX3 yX3_end yX3_end, Cond.code yX3_end cX3_end 2 (some .int)]
def wsL_plan : List Cond := .codeWith yL_plan cL_plan 4 (some .int) [(0, 9, 12, 13), (0, 9, 15, 21), (0, 9, 18, 26), (0, 9, 21, 28)] :: ((wsL_plan_r1 ++ (wsL_plan_r2 ++ (wsL_plan_r3 ++ (wsL_plan_r4 ++ (wsL_plan_r5 ++ (wsL_plan_r6 ++ (wsL_plan_r7 ++ (wsL_plan_r8 ++ (wsL_plan_r9 ++ wsL_plan_r10))))))))) ++ wsX60 ++ wsX10 ++ wsX50 ++ wsX30 ++ wsX40 ++ (vx_atM "java/lang/ArrayIndexOutOfBoundsException" ["java/lang/IndexOutOfBoundsException", "java/lang/RuntimeException", "java/lang/Exception"]).filter goodWord ++ (vx_atS RX6 65 "java/lang/IllegalArgumentException" ["java/lang/RuntimeException", "java/lang/Exception"]).filter goodWord ++ (vx_atSX RX6 124 "java/util/NoSuchElementException" 13 prog_23_method_4_code ["java/lang/RuntimeException", "java/lang/Exception"]).filter goodWord ++ (vx_atS RX6 140 "java/lang/IllegalStateException" ["java/lang/RuntimeException", "java/lang/Exception"]).filter goodWord ++ (vx_atS RX6 148 "java/lang/ArithmeticException" ["java/lang/RuntimeException", "java/lang/Exception"]).filter goodWord)
def wsL_order_r1 : List Cond := [Cond.classLink RL 26 "java/lang/IllegalStateException", Cond.classLink RL 33 "java/lang/IndexOutOfBoundsException", Cond.methodLink RL 30 yX6_order, Cond.instanceMethod yX6_order, Cond.selects RX6 yX6_order yX6_order, Cond.initialized RX6, Cond.code yX6_order cX6_order 2 (some .int), Cond.fieldLink RX6 10 "ArenaPlan" "graph" "LArenaPlan$Graph;", Cond.fieldLink RX6 68 "ArenaPlan$Graph" "count" "I", Cond.fieldLink RX6 28 "ArenaPlan" "plan" "LArenaPlan$Plan;", Cond.fieldLink RX6 176 "ArenaPlan$Plan" "sequence" "[I", Cond.methodLink RX6 169 yX6_needPlan, Cond.instanceMethod yX6_needPlan, Cond.selects RX6 yX6_needPlan yX6_needPlan, Cond.code yX6_needPlan cX6_needPlan 1 none, Cond.classLink RX6 136 "java/lang/IllegalStateException", Cond.initialized "java/lang/IllegalStateException", Cond.fieldLink RX6 156 "ArenaPlan" "planned" "Z", Cond.methodLink RX6 172 yX6_needWithin, Cond.static yX6_needWithin, Cond.code yX6_needWithin cX6_needWithin 2 none, Cond.classLink RX6 218 "java/lang/IndexOutOfBoundsException", Cond.initialized "java/lang/IndexOutOfBoundsException", Cond.methodLink RX6 95 yX6_isWithin]
def wsL_order_r2 : List Cond := [Cond.static yX6_isWithin, Cond.code yX6_isWithin cX6_isWithin 2 (some .boolean)]
def wsL_order : List Cond := .codeWith yL_order cL_order 4 (some .int) [(0, 9, 12, 26), (0, 9, 15, 33)] :: ((wsL_order_r1 ++ wsL_order_r2) ++ wsX60 ++ wsX10 ++ wsX40 ++ (vx_atM "java/lang/ArrayIndexOutOfBoundsException" ["java/lang/IndexOutOfBoundsException", "java/lang/RuntimeException", "java/lang/Exception"]).filter goodWord ++ (vx_atS RX6 140 "java/lang/IllegalStateException" ["java/lang/RuntimeException", "java/lang/Exception"]).filter goodWord ++ (vx_atS RX6 222 "java/lang/IndexOutOfBoundsException" ["java/lang/RuntimeException", "java/lang/Exception"]).filter goodWord)
def wsL_about_r1 : List Cond := [Cond.classLink RL 26 "java/lang/IllegalStateException", Cond.classLink RL 33 "java/lang/IndexOutOfBoundsException", Cond.methodLink RL 35 yX6_about, Cond.instanceMethod yX6_about, Cond.selects RX6 yX6_about yX6_about, Cond.initialized RX6, Cond.code yX6_about cX6_about 3 (some .int), Cond.fieldLink RX6 10 "ArenaPlan" "graph" "LArenaPlan$Graph;", Cond.fieldLink RX6 68 "ArenaPlan$Graph" "count" "I", Cond.fieldLink RX6 28 "ArenaPlan" "plan" "LArenaPlan$Plan;", Cond.fieldLink RX6 179 "ArenaPlan$Plan" "size" "[I", Cond.fieldLink RX6 182 "ArenaPlan$Plan" "step" "[I", Cond.fieldLink RX6 185 "ArenaPlan$Plan" "last" "[I", Cond.fieldLink RX6 37 "ArenaPlan" "places" "LArenaPlan$Places;", Cond.fieldLink RX6 188 "ArenaPlan$Places" "start" "[I", Cond.fieldLink RX6 191 "ArenaPlan$Plan" "label" "[I", Cond.methodLink RX6 169 yX6_needPlan, Cond.instanceMethod yX6_needPlan, Cond.selects RX6 yX6_needPlan yX6_needPlan, Cond.code yX6_needPlan cX6_needPlan 1 none, Cond.classLink RX6 136 "java/lang/IllegalStateException", Cond.initialized "java/lang/IllegalStateException", Cond.fieldLink RX6 156 "ArenaPlan" "planned" "Z", Cond.methodLink RX6 172 yX6_needWithin]
def wsL_about_r2 : List Cond := [Cond.static yX6_needWithin, Cond.code yX6_needWithin cX6_needWithin 2 none, Cond.classLink RX6 218 "java/lang/IndexOutOfBoundsException", Cond.initialized "java/lang/IndexOutOfBoundsException", Cond.methodLink RX6 95 yX6_isWithin, Cond.static yX6_isWithin, Cond.code yX6_isWithin cX6_isWithin 2 (some .boolean)]
def wsL_about : List Cond := .codeWith yL_about cL_about 5 (some .int) [(0, 10, 13, 26), (0, 10, 17, 33)] :: ((wsL_about_r1 ++ wsL_about_r2) ++ wsX60 ++ wsX10 ++ wsX40 ++ wsX30 ++ (vx_atM "java/lang/ArrayIndexOutOfBoundsException" ["java/lang/IndexOutOfBoundsException", "java/lang/RuntimeException", "java/lang/Exception"]).filter goodWord ++ (vx_atS RX6 140 "java/lang/IllegalStateException" ["java/lang/RuntimeException", "java/lang/Exception"]).filter goodWord ++ (vx_atS RX6 222 "java/lang/IndexOutOfBoundsException" ["java/lang/RuntimeException", "java/lang/Exception"]).filter goodWord)
def wsL_cost_r1 : List Cond := [Cond.classLink RL 26 "java/lang/IllegalStateException", Cond.classLink RL 33 "java/lang/IndexOutOfBoundsException", Cond.methodLink RL 39 yX6_cost, Cond.instanceMethod yX6_cost, Cond.selects RX6 yX6_cost yX6_cost, Cond.initialized RX6, Cond.code yX6_cost cX6_cost 2 (some .int), Cond.fieldLink RX6 10 "ArenaPlan" "graph" "LArenaPlan$Graph;", Cond.fieldLink RX6 68 "ArenaPlan$Graph" "count" "I", Cond.fieldLink RX6 28 "ArenaPlan" "plan" "LArenaPlan$Plan;", Cond.fieldLink RX6 194 "ArenaPlan$Plan" "costOf" "[I", Cond.methodLink RX6 169 yX6_needPlan, Cond.instanceMethod yX6_needPlan, Cond.selects RX6 yX6_needPlan yX6_needPlan, Cond.code yX6_needPlan cX6_needPlan 1 none, Cond.classLink RX6 136 "java/lang/IllegalStateException", Cond.initialized "java/lang/IllegalStateException", Cond.fieldLink RX6 156 "ArenaPlan" "planned" "Z", Cond.methodLink RX6 172 yX6_needWithin, Cond.static yX6_needWithin, Cond.code yX6_needWithin cX6_needWithin 2 none, Cond.classLink RX6 218 "java/lang/IndexOutOfBoundsException", Cond.initialized "java/lang/IndexOutOfBoundsException", Cond.methodLink RX6 95 yX6_isWithin]
def wsL_cost_r2 : List Cond := [Cond.static yX6_isWithin, Cond.code yX6_isWithin cX6_isWithin 2 (some .boolean)]
def wsL_cost : List Cond := .codeWith yL_cost cL_cost 4 (some .int) [(0, 9, 12, 26), (0, 9, 15, 33)] :: ((wsL_cost_r1 ++ wsL_cost_r2) ++ wsX60 ++ wsX10 ++ wsX40 ++ (vx_atM "java/lang/ArrayIndexOutOfBoundsException" ["java/lang/IndexOutOfBoundsException", "java/lang/RuntimeException", "java/lang/Exception"]).filter goodWord ++ (vx_atS RX6 140 "java/lang/IllegalStateException" ["java/lang/RuntimeException", "java/lang/Exception"]).filter goodWord ++ (vx_atS RX6 222 "java/lang/IndexOutOfBoundsException" ["java/lang/RuntimeException", "java/lang/Exception"]).filter goodWord)
def wsL_peak : List Cond := .codeWith yL_peak cL_peak 3 (some .int) [(0, 8, 11, 26)] :: ([.classLink RL 26 "java/lang/IllegalStateException", .methodLink RL 42 yX6_peak, .instanceMethod yX6_peak, .selects RX6 yX6_peak yX6_peak, .initialized RX6, .code yX6_peak cX6_peak 1 (some .int), .fieldLink RX6 28 "ArenaPlan" "plan" "LArenaPlan$Plan;", .fieldLink RX6 197 "ArenaPlan$Plan" "greatestCost" "I", .methodLink RX6 169 yX6_needPlan, .instanceMethod yX6_needPlan, .selects RX6 yX6_needPlan yX6_needPlan, .code yX6_needPlan cX6_needPlan 1 none, .classLink RX6 136 "java/lang/IllegalStateException", .initialized "java/lang/IllegalStateException", .fieldLink RX6 156 "ArenaPlan" "planned" "Z"] ++ wsX60 ++ wsX40 ++ (vx_atM "java/lang/ArrayIndexOutOfBoundsException" ["java/lang/IndexOutOfBoundsException", "java/lang/RuntimeException", "java/lang/Exception"]).filter goodWord ++ (vx_atS RX6 140 "java/lang/IllegalStateException" ["java/lang/RuntimeException", "java/lang/Exception"]).filter goodWord)
def wsL_least_r1 : List Cond := [Cond.classLink RL 26 "java/lang/IllegalStateException", Cond.methodLink RL 46 yX6_least, Cond.instanceMethod yX6_least, Cond.selects RX6 yX6_least yX6_least, Cond.initialized RX6, Cond.code yX6_least cX6_least 1 (some .int), Cond.fieldLink RX6 163 "ArenaPlan" "leastPeak" "I", Cond.fieldLink RX6 53 "ArenaPlan" "search" "LArenaPlan$LeastPeak;", Cond.methodLink RX6 169 yX6_needPlan, Cond.instanceMethod yX6_needPlan, Cond.selects RX6 yX6_needPlan yX6_needPlan, Cond.code yX6_needPlan cX6_needPlan 1 none, Cond.classLink RX6 136 "java/lang/IllegalStateException", Cond.initialized "java/lang/IllegalStateException", Cond.fieldLink RX6 156 "ArenaPlan" "planned" "Z", Cond.methodLink RX6 200 yX2_find, Cond.instanceMethod yX2_find, Cond.selects RX2 yX2_find yX2_find, Cond.initialized RX2, Cond.code yX2_find cX2_find 3 (some .int), Cond.fieldLink RX2 15 "ArenaPlan$LeastPeak" "plan" "LArenaPlan$Plan;", Cond.fieldLink RX2 19 "ArenaPlan$Plan" "length" "I", Cond.fieldLink RX2 9 "ArenaPlan$LeastPeak" "peakOf" "[I", Cond.fieldLink RX2 25 "ArenaPlan$Plan" "greatestCost" "I"]
def wsL_least_r2 : List Cond := [Cond.methodLink RX2 28 yJ7_fill_53178, Cond.static yJ7_fill_53178, Cond.initialized RJ7, Cond.code yJ7_fill_53178 cJ7_fill_53178 4 none, Cond.methodLink RX2 34 yX2_goOn, Cond.instanceMethod yX2_goOn, Cond.selects RX2 yX2_goOn yX2_goOn, Cond.code yX2_goOn cX2_goOn 6 none, Cond.fieldLink RX2 46 "ArenaPlan$Plan" "dependencies" "[I", Cond.fieldLink RX2 55 "ArenaPlan$Plan" "size" "[I", Cond.methodLink RX2 58 Lib.Math.max.name, Cond.static Lib.Math.max.name, Cond.initialized "java/lang/Math", Cond.code Lib.Math.max.name Lib.Math.max.code 2 (some .int), Cond.methodLink RX2 64 Lib.Math.min.name, Cond.static Lib.Math.min.name, Cond.code Lib.Math.min.name Lib.Math.min.code 2 (some .int), Cond.methodLink RX2 38 yX2_heldAfter, Cond.instanceMethod yX2_heldAfter, Cond.selects RX2 yX2_heldAfter yX2_heldAfter, Cond.code yX2_heldAfter cX2_heldAfter 5 (some .int), Cond.fieldLink RX2 67 "ArenaPlan$Plan" "graph" "LArenaPlan$Graph;", Cond.fieldLink RX2 71 "ArenaPlan$Graph" "kept" "[Z", Cond.fieldLink RX2 77 "ArenaPlan$Plan" "dependents" "[I"]
def wsL_least_r3 : List Cond := [Cond.static yX6_isPartOf, Cond.code yX6_isPartOf cX6_isPartOf 2 (some .boolean), Cond.static yX6_contains, Cond.code yX6_contains cX6_contains 2 (some .boolean), Cond.static yX6_setOf, Cond.code yX6_setOf cX6_setOf 1 (some .int)]
def wsL_least : List Cond := .codeWith yL_least cL_least 3 (some .int) [(0, 8, 11, 26)] :: ((wsL_least_r1 ++ (wsL_least_r2 ++ wsL_least_r3)) ++ wsX60 ++ wsX20 ++ wsX40 ++ wsX10 ++ (vx_atM "java/lang/ArrayIndexOutOfBoundsException" ["java/lang/IndexOutOfBoundsException", "java/lang/RuntimeException", "java/lang/Exception"]).filter goodWord ++ (vx_atS RX6 140 "java/lang/IllegalStateException" ["java/lang/RuntimeException", "java/lang/Exception"]).filter goodWord)
def wsL_run_r1 : List Cond := [Cond.classLink RL 26 "java/lang/IllegalStateException", Cond.methodLink RL 49 yX6_run, Cond.instanceMethod yX6_run, Cond.selects RX6 yX6_run yX6_run, Cond.initialized RX6, Cond.code yX6_run cX6_run 1 (some .int), Cond.fieldLink RX6 160 "ArenaPlan" "ran" "Z", Cond.fieldLink RX6 46 "ArenaPlan" "cells" "LArenaPlan$Cells;", Cond.methodLink RX6 169 yX6_needPlan, Cond.instanceMethod yX6_needPlan, Cond.selects RX6 yX6_needPlan yX6_needPlan, Cond.code yX6_needPlan cX6_needPlan 1 none, Cond.classLink RX6 136 "java/lang/IllegalStateException", Cond.initialized "java/lang/IllegalStateException", Cond.fieldLink RX6 156 "ArenaPlan" "planned" "Z", Cond.methodLink RX6 203 yX0_work, Cond.instanceMethod yX0_work, Cond.selects RX0 yX0_work yX0_work, Cond.initialized RX0, Cond.code yX0_work cX0_work 5 (some .int), Cond.fieldLink RX0 9 "ArenaPlan$Cells" "value" "[I", Cond.fieldLink RX0 25 "ArenaPlan$Cells" "plan" "LArenaPlan$Plan;", Cond.fieldLink RX0 39 "ArenaPlan$Plan" "length" "I", Cond.fieldLink RX0 43 "ArenaPlan$Plan" "sequence" "[I"]
def wsL_run_r2 : List Cond := [Cond.fieldLink RX0 46 "ArenaPlan$Plan" "size" "[I", Cond.fieldLink RX0 15 "ArenaPlan$Cells" "places" "LArenaPlan$Places;", Cond.fieldLink RX0 49 "ArenaPlan$Places" "start" "[I", Cond.methodLink RX0 33 yJ7_fill_53178, Cond.static yJ7_fill_53178, Cond.initialized RJ7, Cond.code yJ7_fill_53178 cJ7_fill_53178 4 none, Cond.methodLink RX0 52 yX0_workOut, Cond.instanceMethod yX0_workOut, Cond.selects RX0 yX0_workOut yX0_workOut, Cond.code yX0_workOut cX0_workOut 6 (some .int), Cond.fieldLink RX0 32 "ArenaPlan$Cells" "graph" "LArenaPlan$Graph;", Cond.fieldLink RX0 56 "ArenaPlan$Graph" "source" "[[I", Cond.fieldLink RX0 62 "ArenaPlan$Graph" "operation" "[I", Cond.fieldLink RX0 65 "ArenaPlan$Graph" "given" "[[I", Cond.fieldLink RX0 71 "ArenaPlan$Graph" "p" "[I", Cond.methodLink RX0 68 yX0_valueOf, Cond.instanceMethod yX0_valueOf, Cond.selects RX0 yX0_valueOf yX0_valueOf, Cond.code yX0_valueOf cX0_valueOf 3 (some .int), Cond.methodLink RX0 74 yX0_totalOf, Cond.instanceMethod yX0_totalOf, Cond.selects RX0 yX0_totalOf yX0_totalOf, Cond.code yX0_totalOf cX0_totalOf 4 (some .int)]
def wsL_run : List Cond := .codeWith yL_run cL_run 3 (some .int) [(0, 8, 11, 26)] :: ((wsL_run_r1 ++ wsL_run_r2) ++ wsX60 ++ wsX00 ++ wsX40 ++ wsX30 ++ wsX10 ++ (vx_atM "java/lang/ArrayIndexOutOfBoundsException" ["java/lang/IndexOutOfBoundsException", "java/lang/RuntimeException", "java/lang/Exception"]).filter goodWord ++ (vx_atS RX6 140 "java/lang/IllegalStateException" ["java/lang/RuntimeException", "java/lang/Exception"]).filter goodWord)
def wsL_cell_r1 : List Cond := [Cond.classLink RL 26 "java/lang/IllegalStateException", Cond.classLink RL 33 "java/lang/IndexOutOfBoundsException", Cond.methodLink RL 52 yX6_cell, Cond.instanceMethod yX6_cell, Cond.selects RX6 yX6_cell yX6_cell, Cond.initialized RX6, Cond.code yX6_cell cX6_cell 2 (some .int), Cond.fieldLink RX6 37 "ArenaPlan" "places" "LArenaPlan$Places;", Cond.fieldLink RX6 166 "ArenaPlan$Places" "arena" "I", Cond.fieldLink RX6 46 "ArenaPlan" "cells" "LArenaPlan$Cells;", Cond.fieldLink RX6 209 "ArenaPlan$Cells" "value" "[I", Cond.methodLink RX6 206 yX6_needRun, Cond.instanceMethod yX6_needRun, Cond.selects RX6 yX6_needRun yX6_needRun, Cond.code yX6_needRun cX6_needRun 1 none, Cond.classLink RX6 136 "java/lang/IllegalStateException", Cond.initialized "java/lang/IllegalStateException", Cond.fieldLink RX6 160 "ArenaPlan" "ran" "Z", Cond.methodLink RX6 169 yX6_needPlan, Cond.instanceMethod yX6_needPlan, Cond.selects RX6 yX6_needPlan yX6_needPlan, Cond.code yX6_needPlan cX6_needPlan 1 none, Cond.fieldLink RX6 156 "ArenaPlan" "planned" "Z", Cond.methodLink RX6 172 yX6_needWithin]
def wsL_cell_r2 : List Cond := [Cond.static yX6_needWithin, Cond.code yX6_needWithin cX6_needWithin 2 none, Cond.classLink RX6 218 "java/lang/IndexOutOfBoundsException", Cond.initialized "java/lang/IndexOutOfBoundsException", Cond.methodLink RX6 95 yX6_isWithin, Cond.static yX6_isWithin, Cond.code yX6_isWithin cX6_isWithin 2 (some .boolean)]
def wsL_cell : List Cond := .codeWith yL_cell cL_cell 4 (some .int) [(0, 9, 12, 26), (0, 9, 15, 33)] :: ((wsL_cell_r1 ++ wsL_cell_r2) ++ wsX60 ++ wsX30 ++ wsX00 ++ (vx_atM "java/lang/ArrayIndexOutOfBoundsException" ["java/lang/IndexOutOfBoundsException", "java/lang/RuntimeException", "java/lang/Exception"]).filter goodWord ++ (vx_atS RX6 140 "java/lang/IllegalStateException" ["java/lang/RuntimeException", "java/lang/Exception"]).filter goodWord ++ (vx_atS RX6 222 "java/lang/IndexOutOfBoundsException" ["java/lang/RuntimeException", "java/lang/Exception"]).filter goodWord)
def wsL_result_r1 : List Cond := [Cond.classLink RL 26 "java/lang/IllegalStateException", Cond.classLink RL 21 "java/util/NoSuchElementException", Cond.classLink RL 33 "java/lang/IndexOutOfBoundsException", Cond.methodLink RL 55 yX6_result, Cond.instanceMethod yX6_result, Cond.selects RX6 yX6_result yX6_result, Cond.initialized RX6, Cond.code yX6_result cX6_result 3 (some .int), Cond.classLink RX6 120 "java/util/NoSuchElementException", Cond.initialized "java/util/NoSuchElementException", Cond.fieldLink RX6 10 "ArenaPlan" "graph" "LArenaPlan$Graph;", Cond.fieldLink RX6 110 "ArenaPlan$Graph" "kept" "[Z", Cond.fieldLink RX6 28 "ArenaPlan" "plan" "LArenaPlan$Plan;", Cond.fieldLink RX6 179 "ArenaPlan$Plan" "size" "[I", Cond.fieldLink RX6 46 "ArenaPlan" "cells" "LArenaPlan$Cells;", Cond.fieldLink RX6 209 "ArenaPlan$Cells" "value" "[I", Cond.fieldLink RX6 37 "ArenaPlan" "places" "LArenaPlan$Places;", Cond.fieldLink RX6 188 "ArenaPlan$Places" "start" "[I", Cond.methodLink RX6 206 yX6_needRun, Cond.instanceMethod yX6_needRun, Cond.selects RX6 yX6_needRun yX6_needRun, Cond.code yX6_needRun cX6_needRun 1 none, Cond.classLink RX6 136 "java/lang/IllegalStateException", Cond.initialized "java/lang/IllegalStateException"]
def wsL_result_r2 : List Cond := [Cond.fieldLink RX6 160 "ArenaPlan" "ran" "Z", Cond.methodLink RX6 169 yX6_needPlan, Cond.instanceMethod yX6_needPlan, Cond.selects RX6 yX6_needPlan yX6_needPlan, Cond.code yX6_needPlan cX6_needPlan 1 none, Cond.fieldLink RX6 156 "ArenaPlan" "planned" "Z", Cond.methodLink RX6 84 yX1_has, Cond.instanceMethod yX1_has, Cond.selects RX1 yX1_has yX1_has, Cond.initialized RX1, Cond.code yX1_has cX1_has 2 (some .boolean), Cond.fieldLink RX1 33 "ArenaPlan$Graph" "count" "I", Cond.static yX6_isWithin, Cond.code yX6_isWithin cX6_isWithin 2 (some .boolean), Cond.methodLink RX6 172 yX6_needWithin, Cond.static yX6_needWithin, Cond.code yX6_needWithin cX6_needWithin 2 none, Cond.classLink RX6 218 "java/lang/IndexOutOfBoundsException", Cond.initialized "java/lang/IndexOutOfBoundsException", Cond.methodLink RX6 95 yX6_isWithin]
def wsL_result : List Cond := .codeWith yL_result cL_result 5 (some .int) [(0, 10, 13, 26), (0, 10, 17, 21), (0, 10, 21, 33)] :: ((wsL_result_r1 ++ wsL_result_r2) ++ wsX60 ++ wsX10 ++ wsX40 ++ wsX00 ++ wsX30 ++ (vx_atM "java/lang/ArrayIndexOutOfBoundsException" ["java/lang/IndexOutOfBoundsException", "java/lang/RuntimeException", "java/lang/Exception"]).filter goodWord ++ (vx_atSX RX6 124 "java/util/NoSuchElementException" 13 prog_23_method_4_code ["java/lang/RuntimeException", "java/lang/Exception"]).filter goodWord ++ (vx_atS RX6 140 "java/lang/IllegalStateException" ["java/lang/RuntimeException", "java/lang/Exception"]).filter goodWord ++ (vx_atS RX6 222 "java/lang/IndexOutOfBoundsException" ["java/lang/RuntimeException", "java/lang/Exception"]).filter goodWord)
def wsL_law0_r1 : List Cond := [Cond.classLink RL 8 RX6, Cond.instantiable RX6 9, Cond.initialized RX6, Cond.classLink RL 59 RX7, Cond.instantiable RX7 30, Cond.initialized RX7, Cond.arrayClass .long, Cond.methodLink RL 58 yX6_init, Cond.instanceMethod yX6_init, Cond.code yX6_init cX6_init 1 none, Cond.methodLink RX6 1 objectInit, Cond.instanceMethod objectInit, Cond.code objectInit ⟨#[0xb1]⟩ 1 none, Cond.classLink RX6 7 RX1, Cond.instantiable RX1 7, Cond.initialized RX1, Cond.fieldLink RX6 10 "ArenaPlan" "graph" "LArenaPlan$Graph;", Cond.classLink RX6 16 RX5, Cond.instantiable RX5 5, Cond.initialized RX5, Cond.fieldLink RX6 21 "ArenaPlan" "rings" "LArenaPlan$Rings;", Cond.classLink RX6 25 RX4, Cond.instantiable RX4 12, Cond.initialized RX4]
def wsL_law0_r2 : List Cond := [Cond.fieldLink RX6 28 "ArenaPlan" "plan" "LArenaPlan$Plan;", Cond.classLink RX6 32 RX3, Cond.instantiable RX3 4, Cond.initialized RX3, Cond.fieldLink RX6 37 "ArenaPlan" "places" "LArenaPlan$Places;", Cond.classLink RX6 41 RX0, Cond.instantiable RX0 4, Cond.initialized RX0, Cond.fieldLink RX6 46 "ArenaPlan" "cells" "LArenaPlan$Cells;", Cond.classLink RX6 50 RX2, Cond.instantiable RX2 2, Cond.initialized RX2, Cond.fieldLink RX6 53 "ArenaPlan" "search" "LArenaPlan$LeastPeak;", Cond.instanceMethod yX1_init, Cond.code yX1_init cX1_init 1 none, Cond.methodLink RX1 3 objectInit, Cond.arrayClass .int, Cond.fieldLink RX1 9 "ArenaPlan$Graph" "operation" "[I", Cond.fieldLink RX1 15 "ArenaPlan$Graph" "p" "[I", Cond.fieldLink RX1 18 "ArenaPlan$Graph" "q" "[I", Cond.classLink RX1 21 "[[I", Cond.fieldLink RX1 23 "ArenaPlan$Graph" "given" "[[I", Cond.fieldLink RX1 26 "ArenaPlan$Graph" "source" "[[I", Cond.arrayClass .boolean]
def wsL_law0_r3 : List Cond := [Cond.fieldLink RX1 29 "ArenaPlan$Graph" "kept" "[Z", Cond.methodLink RX6 18 yX5_init, Cond.instanceMethod yX5_init, Cond.code yX5_init cX5_init 2 none, Cond.methodLink RX5 3 objectInit, Cond.fieldLink RX5 9 "ArenaPlan$Rings" "reach" "[I", Cond.fieldLink RX5 15 "ArenaPlan$Rings" "stepsLeft" "[I", Cond.fieldLink RX5 18 "ArenaPlan$Rings" "member" "[I", Cond.fieldLink RX5 21 "ArenaPlan$Rings" "graph" "LArenaPlan$Graph;", Cond.methodLink RX6 27 yX4_init, Cond.instanceMethod yX4_init, Cond.code yX4_init cX4_init 2 none, Cond.methodLink RX4 3 objectInit, Cond.fieldLink RX4 9 "ArenaPlan$Plan" "dependencies" "[I", Cond.fieldLink RX4 15 "ArenaPlan$Plan" "dependents" "[I", Cond.fieldLink RX4 18 "ArenaPlan$Plan" "size" "[I", Cond.fieldLink RX4 21 "ArenaPlan$Plan" "label" "[I", Cond.fieldLink RX4 24 "ArenaPlan$Plan" "sequence" "[I", Cond.fieldLink RX4 27 "ArenaPlan$Plan" "step" "[I", Cond.fieldLink RX4 30 "ArenaPlan$Plan" "last" "[I", Cond.fieldLink RX4 33 "ArenaPlan$Plan" "costOf" "[I", Cond.fieldLink RX4 36 "ArenaPlan$Plan" "graph" "LArenaPlan$Graph;", Cond.methodLink RX6 34 yX3_init, Cond.instanceMethod yX3_init]
def wsL_law0_r4 : List Cond := [Cond.code yX3_init cX3_init 2 none, Cond.methodLink RX3 3 objectInit, Cond.fieldLink RX3 9 "ArenaPlan$Places" "bySize" "[I", Cond.fieldLink RX3 15 "ArenaPlan$Places" "start" "[I", Cond.fieldLink RX3 18 "ArenaPlan$Places" "plan" "LArenaPlan$Plan;", Cond.methodLink RX6 43 yX0_init, Cond.instanceMethod yX0_init, Cond.code yX0_init cX0_init 2 none, Cond.methodLink RX0 3 objectInit, Cond.fieldLink RX0 9 "ArenaPlan$Cells" "value" "[I", Cond.fieldLink RX0 15 "ArenaPlan$Cells" "places" "LArenaPlan$Places;", Cond.fieldLink RX0 19 "ArenaPlan$Places" "plan" "LArenaPlan$Plan;", Cond.fieldLink RX0 25 "ArenaPlan$Cells" "plan" "LArenaPlan$Plan;", Cond.fieldLink RX0 26 "ArenaPlan$Plan" "graph" "LArenaPlan$Graph;", Cond.fieldLink RX0 32 "ArenaPlan$Cells" "graph" "LArenaPlan$Graph;", Cond.methodLink RX6 52 yX2_init, Cond.instanceMethod yX2_init, Cond.code yX2_init cX2_init 2 none, Cond.methodLink RX2 3 objectInit, Cond.fieldLink RX2 9 "ArenaPlan$LeastPeak" "peakOf" "[I", Cond.fieldLink RX2 15 "ArenaPlan$LeastPeak" "plan" "LArenaPlan$Plan;", Cond.methodLink RL 61 yX7_init, Cond.instanceMethod yX7_init, Cond.code yX7_init cX7_init 1 none]
def wsL_law0_r5 : List Cond := [Cond.methodLink RX7 1 objectInit, Cond.fieldLink RX7 7 "ArenaPlanModel" "operation" "[I", Cond.fieldLink RX7 13 "ArenaPlanModel" "first" "[I", Cond.fieldLink RX7 16 "ArenaPlanModel" "second" "[I", Cond.fieldLink RX7 19 "ArenaPlanModel" "source" "[I", Cond.fieldLink RX7 22 "ArenaPlanModel" "kept" "[Z", Cond.fieldLink RX7 26 "ArenaPlanModel" "given" "[I", Cond.fieldLink RX7 29 "ArenaPlanModel" "distance" "[I", Cond.fieldLink RX7 32 "ArenaPlanModel" "ring" "[I", Cond.fieldLink RX7 35 "ArenaPlanModel" "size" "[I", Cond.fieldLink RX7 38 "ArenaPlanModel" "label" "[I", Cond.fieldLink RX7 41 "ArenaPlanModel" "order" "[I", Cond.fieldLink RX7 44 "ArenaPlanModel" "step" "[I", Cond.fieldLink RX7 47 "ArenaPlanModel" "until" "[I", Cond.fieldLink RX7 50 "ArenaPlanModel" "place" "[I", Cond.fieldLink RX7 53 "ArenaPlanModel" "newSize" "[I", Cond.fieldLink RX7 56 "ArenaPlanModel" "sized" "[Z", Cond.fieldLink RX7 59 "ArenaPlanModel" "stack" "[I", Cond.fieldLink RX7 62 "ArenaPlanModel" "best" "[I", Cond.fieldLink RX7 65 "ArenaPlanModel" "cells" "[I", Cond.fieldLink RX7 68 "ArenaPlanModel" "value" "[I", Cond.methodLink RL 62 yL_make, Cond.static yL_make, Cond.initialized RL]
def wsL_law0_r6 : List Cond := [Cond.codeWith yL_make cL_make 6 (some .int) [(0, 12, 15, 13), (0, 12, 19, 15)], Cond.classLink RL 13 "java/lang/IllegalArgumentException", Cond.classLink RL 15 "java/lang/UnsupportedOperationException", Cond.methodLink RL 7 yX6_make, Cond.instanceMethod yX6_make, Cond.selects RX6 yX6_make yX6_make, Cond.code yX6_make cX6_make 4 (some .int), Cond.classLink RX6 61 "java/lang/IllegalArgumentException", Cond.initialized "java/lang/IllegalArgumentException", Cond.classLink RX6 72 "java/lang/UnsupportedOperationException", Cond.initialized "java/lang/UnsupportedOperationException", Cond.fieldLink RX6 68 "ArenaPlan$Graph" "count" "I", Cond.methodLink RX6 57 yX6_canBeMade, Cond.static yX6_canBeMade, Cond.code yX6_canBeMade cX6_canBeMade 3 (some .boolean), Cond.fieldLink RX6 223 "ArenaPlan" "INPUTS" "[I", Cond.methodLink RX6 95 yX6_isWithin, Cond.static yX6_isWithin, Cond.code yX6_isWithin cX6_isWithin 2 (some .boolean), Cond.methodLink RX6 77 yX6_forgetPlan, Cond.instanceMethod yX6_forgetPlan, Cond.selects RX6 yX6_forgetPlan yX6_forgetPlan, Cond.code yX6_forgetPlan cX6_forgetPlan 1 none, Cond.fieldLink RX6 156 "ArenaPlan" "planned" "Z"]
def wsL_law0_r7 : List Cond := [Cond.methodLink RX6 80 yX1_add, Cond.instanceMethod yX1_add, Cond.selects RX1 yX1_add yX1_add, Cond.code yX1_add cX1_add 5 (some .int), Cond.fieldLink RX1 33 "ArenaPlan$Graph" "count" "I", Cond.methodLink RX1 44 yJ7_fill_53178, Cond.static yJ7_fill_53178, Cond.initialized RJ7, Cond.code yJ7_fill_53178 cJ7_fill_53178 4 none, Cond.methodLink RL 67 yX7_make, Cond.instanceMethod yX7_make, Cond.selects RX7 yX7_make yX7_make, Cond.code yX7_make cX7_make 6 (some .int), Cond.fieldLink RX7 71 "ArenaPlanModel" "thrown" "I", Cond.fieldLink RX7 75 "ArenaPlanModel" "count" "I", Cond.fieldLink RX7 86 "ArenaPlanModel" "planned" "Z", Cond.methodLink RX7 78 yX7_within, Cond.static yX7_within, Cond.code yX7_within cX7_within 3 (some .boolean), Cond.methodLink RX7 82 yX7_fail, Cond.instanceMethod yX7_fail, Cond.selects RX7 yX7_fail yX7_fail, Cond.code yX7_fail cX7_fail 2 (some .int), Cond.methodLink RL 68 yX7_thrown]
def wsL_law0_r8 : List Cond := [Cond.instanceMethod yX7_thrown, Cond.selects RX7 yX7_thrown yX7_thrown, Cond.code yX7_thrown cX7_thrown 1 (some .int), Cond.methodLink RL 71 yX6_give, Cond.instanceMethod yX6_give, Cond.selects RX6 yX6_give yX6_give, Cond.code yX6_give cX6_give 4 (some .boolean), Cond.fieldLink RX6 88 "ArenaPlan$Graph" "operation" "[I", Cond.fieldLink RX6 92 "ArenaPlan$Graph" "p" "[I", Cond.fieldLink RX6 99 "ArenaPlan$Graph" "given" "[[I", Cond.methodLink RX6 84 yX1_has, Cond.instanceMethod yX1_has, Cond.selects RX1 yX1_has yX1_has, Cond.code yX1_has cX1_has 2 (some .boolean), Cond.methodLink RL 75 yX7_give, Cond.instanceMethod yX7_give, Cond.selects RX7 yX7_give yX7_give, Cond.code yX7_give cX7_give 4 (some .boolean), Cond.methodLink RX7 90 yX7_isNode, Cond.instanceMethod yX7_isNode, Cond.selects RX7 yX7_isNode yX7_isNode, Cond.code yX7_isNode cX7_isNode 2 (some .boolean), Cond.methodLink RL 76 yX6_wire, Cond.instanceMethod yX6_wire]
def wsL_law0_r9 : List Cond := [Cond.selects RX6 yX6_wire yX6_wire, Cond.code yX6_wire cX6_wire 4 (some .boolean), Cond.fieldLink RX6 107 "ArenaPlan$Graph" "source" "[[I", Cond.methodLink RX6 103 yX1_inputs, Cond.instanceMethod yX1_inputs, Cond.selects RX1 yX1_inputs yX1_inputs, Cond.code yX1_inputs cX1_inputs 2 (some .int), Cond.methodLink RL 79 yX7_wire, Cond.instanceMethod yX7_wire, Cond.selects RX7 yX7_wire yX7_wire, Cond.code yX7_wire cX7_wire 4 (some .boolean), Cond.methodLink RX7 94 yX7_inputs, Cond.static yX7_inputs, Cond.code yX7_inputs cX7_inputs 1 (some .int), Cond.methodLink RL 80 yX6_keep, Cond.instanceMethod yX6_keep, Cond.selects RX6 yX6_keep yX6_keep, Cond.code yX6_keep cX6_keep 3 (some .boolean), Cond.fieldLink RX6 110 "ArenaPlan$Graph" "kept" "[Z", Cond.methodLink RL 84 yX7_keep, Cond.instanceMethod yX7_keep, Cond.selects RX7 yX7_keep yX7_keep, Cond.code yX7_keep cX7_keep 3 (some .boolean), Cond.methodLink RL 85 yX6_nodes]
def wsL_law0_r10 : List Cond := [Cond.instanceMethod yX6_nodes, Cond.selects RX6 yX6_nodes yX6_nodes, Cond.code yX6_nodes cX6_nodes 1 (some .int), Cond.methodLink RL 88 yX7_nodes, Cond.instanceMethod yX7_nodes, Cond.selects RX7 yX7_nodes yX7_nodes, Cond.code yX7_nodes cX7_nodes 1 (some .int), Cond.methodLink RL 89 yL_ring, Cond.static yL_ring, Cond.codeWith yL_ring cL_ring 4 (some .int) [(0, 9, 12, 21)], Cond.classLink RL 21 "java/util/NoSuchElementException", Cond.methodLink RL 17 yX6_ring, Cond.instanceMethod yX6_ring, Cond.selects RX6 yX6_ring yX6_ring, Cond.code yX6_ring cX6_ring 2 (some .int), Cond.classLink RX6 120 "java/util/NoSuchElementException", Cond.initialized "java/util/NoSuchElementException", Cond.fieldLink RX6 117 "ArenaPlan$Rings" "length" "I", Cond.fieldLink RX6 125 "ArenaPlan$Rings" "member" "[I", Cond.methodLink RX6 114 yX5_find, Cond.instanceMethod yX5_find, Cond.selects RX5 yX5_find yX5_find, Cond.code yX5_find cX5_find 2 none, Cond.fieldLink RX5 25 "ArenaPlan$Rings" "length" "I"]
def wsL_law0_r11 : List Cond := [Cond.fieldLink RX5 32 "ArenaPlan$Graph" "count" "I", Cond.methodLink RX5 29 yX5_findReach, Cond.instanceMethod yX5_findReach, Cond.selects RX5 yX5_findReach yX5_findReach, Cond.code yX5_findReach cX5_findReach 3 none, Cond.methodLink RX5 48 yX1_dependencies, Cond.instanceMethod yX1_dependencies, Cond.selects RX1 yX1_dependencies yX1_dependencies, Cond.code yX1_dependencies cX1_dependencies 2 (some .int), Cond.static yX6_setOf, Cond.code yX6_setOf cX6_setOf 1 (some .int), Cond.static yX6_contains, Cond.code yX6_contains cX6_contains 2 (some .boolean), Cond.methodLink RX5 41 yX5_countSteps, Cond.instanceMethod yX5_countSteps, Cond.selects RX5 yX5_countSteps yX5_countSteps, Cond.code yX5_countSteps cX5_countSteps 5 none, Cond.methodLink RX5 61 Lib.Math.min.name, Cond.static Lib.Math.min.name, Cond.initialized "java/lang/Math", Cond.code Lib.Math.min.name Lib.Math.min.code 2 (some .int), Cond.methodLink RX5 52 yJ7_fill_53178, Cond.methodLink RX5 58 yX5_nearest, Cond.instanceMethod yX5_nearest]
def wsL_law0_r12 : List Cond := [Cond.selects RX5 yX5_nearest yX5_nearest, Cond.code yX5_nearest cX5_nearest 4 (some .int), Cond.fieldLink RX5 67 "ArenaPlan$Graph" "source" "[[I", Cond.methodLink RX5 45 yX5_follow, Cond.instanceMethod yX5_follow, Cond.selects RX5 yX5_follow yX5_follow, Cond.code yX5_follow cX5_follow 3 none, Cond.methodLink RL 92 yX7_ring, Cond.instanceMethod yX7_ring, Cond.selects RX7 yX7_ring yX7_ring, Cond.code yX7_ring cX7_ring 2 (some .int), Cond.fieldLink RX7 100 "ArenaPlanModel" "ringSize" "I", Cond.methodLink RX7 110 yX7_findRing, Cond.instanceMethod yX7_findRing, Cond.selects RX7 yX7_findRing yX7_findRing, Cond.code yX7_findRing cX7_findRing 3 none, Cond.methodLink RX7 103 yX7_measure, Cond.instanceMethod yX7_measure, Cond.selects RX7 yX7_measure yX7_measure, Cond.code yX7_measure cX7_measure 5 none, Cond.methodLink RX7 97 yX7_far, Cond.instanceMethod yX7_far, Cond.selects RX7 yX7_far yX7_far, Cond.code yX7_far cX7_far 2 (some .int)]
def wsL_law0_r13 : List Cond := [Cond.methodLink RX7 107 yX7_nearest, Cond.instanceMethod yX7_nearest, Cond.selects RX7 yX7_nearest yX7_nearest, Cond.code yX7_nearest cX7_nearest 5 (some .int), Cond.methodLink RL 93 yL_plan, Cond.static yL_plan, Cond.codeWith yL_plan cL_plan 4 (some .int) [(0, 9, 12, 13), (0, 9, 15, 21), (0, 9, 18, 26), (0, 9, 21, 28)], Cond.classLink RL 26 "java/lang/IllegalStateException", Cond.classLink RL 28 "java/lang/ArithmeticException", Cond.methodLink RL 23 yX6_plan, Cond.instanceMethod yX6_plan, Cond.selects RX6 yX6_plan yX6_plan, Cond.code yX6_plan cX6_plan 2 (some .int), Cond.classLink RX6 136 "java/lang/IllegalStateException", Cond.initialized "java/lang/IllegalStateException", Cond.classLink RX6 144 "java/lang/ArithmeticException", Cond.initialized "java/lang/ArithmeticException", Cond.fieldLink RX6 160 "ArenaPlan" "ran" "Z", Cond.fieldLink RX6 163 "ArenaPlan" "leastPeak" "I", Cond.fieldLink RX6 166 "ArenaPlan$Places" "arena" "I", Cond.methodLink RX6 130 yX1_isWired, Cond.instanceMethod yX1_isWired, Cond.selects RX1 yX1_isWired yX1_isWired, Cond.code yX1_isWired cX1_isWired 3 (some .boolean)]
def wsL_law0_r14 : List Cond := [Cond.methodLink RX1 50 yX1_inputs, Cond.methodLink RX6 141 yX4_measure, Cond.instanceMethod yX4_measure, Cond.selects RX4 yX4_measure yX4_measure, Cond.code yX4_measure cX4_measure 3 (some .boolean), Cond.fieldLink RX4 46 "ArenaPlan$Plan" "length" "I", Cond.methodLink RX4 40 yX4_findNeighbours, Cond.instanceMethod yX4_findNeighbours, Cond.selects RX4 yX4_findNeighbours yX4_findNeighbours, Cond.code yX4_findNeighbours cX4_findNeighbours 3 none, Cond.fieldLink RX4 64 "ArenaPlan$Graph" "count" "I", Cond.methodLink RX4 75 yJ7_fill_53178, Cond.methodLink RX4 81 yX1_dependencies, Cond.methodLink RX4 43 yX4_orderByNumbers, Cond.instanceMethod yX4_orderByNumbers, Cond.selects RX4 yX4_orderByNumbers yX4_orderByNumbers, Cond.code yX4_orderByNumbers cX4_orderByNumbers 2 none, Cond.methodLink RX4 121 yX4_beginOrder, Cond.instanceMethod yX4_beginOrder, Cond.selects RX4 yX4_beginOrder yX4_beginOrder, Cond.code yX4_beginOrder cX4_beginOrder 1 none, Cond.fieldLink RX4 118 "ArenaPlan$Plan" "inOrder" "I", Cond.methodLink RX4 124 yX4_leastReady, Cond.instanceMethod yX4_leastReady]
def wsL_law0_r15 : List Cond := [Cond.selects RX4 yX4_leastReady yX4_leastReady, Cond.code yX4_leastReady cX4_leastReady 2 (some .int), Cond.methodLink RX4 132 yX4_isReady, Cond.instanceMethod yX4_isReady, Cond.selects RX4 yX4_isReady yX4_isReady, Cond.code yX4_isReady cX4_isReady 2 (some .boolean), Cond.methodLink RX4 135 yX4_isMissing, Cond.instanceMethod yX4_isMissing, Cond.selects RX4 yX4_isMissing yX4_isMissing, Cond.code yX4_isMissing cX4_isMissing 2 (some .boolean), Cond.static yX6_isPartOf, Cond.code yX6_isPartOf cX6_isPartOf 2 (some .boolean), Cond.methodLink RX4 128 yX4_append, Cond.instanceMethod yX4_append, Cond.selects RX4 yX4_append yX4_append, Cond.code yX4_append cX4_append 2 none, Cond.methodLink RX4 50 yX4_sizesFit, Cond.instanceMethod yX4_sizesFit, Cond.selects RX4 yX4_sizesFit yX4_sizesFit, Cond.code yX4_sizesFit cX4_sizesFit 4 (some .boolean), Cond.fieldLink RX4 98 "ArenaPlan$Graph" "operation" "[I", Cond.fieldLink RX4 101 "ArenaPlan$Graph" "p" "[I", Cond.fieldLink RX4 104 "ArenaPlan$Graph" "q" "[I", Cond.methodLink RX4 94 yX4_sizeOfSource]
def wsL_law0_r16 : List Cond := [Cond.instanceMethod yX4_sizeOfSource, Cond.selects RX4 yX4_sizeOfSource yX4_sizeOfSource, Cond.code yX4_sizeOfSource cX4_sizeOfSource 4 (some .int), Cond.fieldLink RX4 90 "ArenaPlan$Graph" "source" "[[I", Cond.methodLink RX4 54 yX4_sizeOf, Cond.instanceMethod yX4_sizeOf, Cond.selects RX4 yX4_sizeOf yX4_sizeOf, Cond.code yX4_sizeOf cX4_sizeOf 3 (some .int), Cond.methodLink RX4 58 yX4_labelOf, Cond.instanceMethod yX4_labelOf, Cond.selects RX4 yX4_labelOf yX4_labelOf, Cond.code yX4_labelOf cX4_labelOf 7 (some .int), Cond.methodLink RX4 110 Lib.Math.max.name, Cond.static Lib.Math.max.name, Cond.code Lib.Math.max.name Lib.Math.max.code 2 (some .int), Cond.methodLink RX4 115 Lib.Math.min.name, Cond.methodLink RX4 107 yX1_inputs, Cond.methodLink RX6 149 yX4_arrange, Cond.instanceMethod yX4_arrange, Cond.selects RX4 yX4_arrange yX4_arrange, Cond.code yX4_arrange cX4_arrange 3 none, Cond.methodLink RX4 61 yX4_orderByLabels, Cond.instanceMethod yX4_orderByLabels, Cond.selects RX4 yX4_orderByLabels yX4_orderByLabels]
def wsL_law0_r17 : List Cond := [Cond.code yX4_orderByLabels cX4_orderByLabels 2 none, Cond.methodLink RX4 141 yX4_visit, Cond.instanceMethod yX4_visit, Cond.selects RX4 yX4_visit yX4_visit, Cond.code yX4_visit cX4_visit 3 none, Cond.methodLink RX4 144 yX4_firstDue, Cond.instanceMethod yX4_firstDue, Cond.selects RX4 yX4_firstDue yX4_firstDue, Cond.code yX4_firstDue cX4_firstDue 5 (some .int), Cond.methodLink RX4 147 yX4_sourceToVisit, Cond.instanceMethod yX4_sourceToVisit, Cond.selects RX4 yX4_sourceToVisit yX4_sourceToVisit, Cond.code yX4_sourceToVisit cX4_sourceToVisit 7 (some .int), Cond.methodLink RX4 69 yX4_lastStepOf, Cond.instanceMethod yX4_lastStepOf, Cond.selects RX4 yX4_lastStepOf yX4_lastStepOf, Cond.code yX4_lastStepOf cX4_lastStepOf 4 (some .int), Cond.fieldLink RX4 150 "ArenaPlan$Graph" "kept" "[Z", Cond.methodLink RX4 72 yX4_addCosts, Cond.instanceMethod yX4_addCosts, Cond.selects RX4 yX4_addCosts yX4_addCosts, Cond.code yX4_addCosts cX4_addCosts 3 none, Cond.fieldLink RX4 154 "ArenaPlan$Plan" "greatestCost" "I", Cond.methodLink RX6 153 yX3_assign]
def wsL_law0_r18 : List Cond := [Cond.instanceMethod yX3_assign, Cond.selects RX3 yX3_assign yX3_assign, Cond.code yX3_assign cX3_assign 3 none, Cond.fieldLink RX3 25 "ArenaPlan$Places" "arena" "I", Cond.fieldLink RX3 29 "ArenaPlan$Plan" "length" "I", Cond.methodLink RX3 41 Lib.Math.max.name, Cond.methodLink RX3 22 yX3_sortBySize, Cond.instanceMethod yX3_sortBySize, Cond.selects RX3 yX3_sortBySize yX3_sortBySize, Cond.code yX3_sortBySize cX3_sortBySize 4 none, Cond.fieldLink RX3 47 "ArenaPlan$Plan" "sequence" "[I", Cond.fieldLink RX3 50 "ArenaPlan$Plan" "size" "[I", Cond.methodLink RX3 34 yX3_lowestStart, Cond.instanceMethod yX3_lowestStart, Cond.selects RX3 yX3_lowestStart yX3_lowestStart, Cond.code yX3_lowestStart cX3_lowestStart 6 (some .int), Cond.methodLink RX3 53 yX3_isInTheWay, Cond.instanceMethod yX3_isInTheWay, Cond.selects RX3 yX3_isInTheWay yX3_isInTheWay, Cond.code yX3_isInTheWay cX3_isInTheWay 4 (some .boolean), Cond.methodLink RX3 57 yX4_liveTogether, Cond.instanceMethod yX4_liveTogether, Cond.selects RX4 yX4_liveTogether yX4_liveTogether, Cond.code yX4_liveTogether cX4_liveTogether 3 (some .boolean)]
def wsL_law0_r19 : List Cond := [Cond.methodLink RX3 38 yX3_end, Cond.instanceMethod yX3_end, Cond.selects RX3 yX3_end yX3_end, Cond.code yX3_end cX3_end 2 (some .int), Cond.methodLink RL 95 yX7_plan, Cond.instanceMethod yX7_plan, Cond.selects RX7 yX7_plan yX7_plan, Cond.code yX7_plan cX7_plan 3 (some .int), Cond.fieldLink RX7 157 "ArenaPlanModel" "way" "I", Cond.fieldLink RX7 119 "ArenaPlanModel" "placed" "I", Cond.fieldLink RX7 175 "ArenaPlanModel" "ran" "Z", Cond.fieldLink RX7 178 "ArenaPlanModel" "least" "I", Cond.fieldLink RX7 143 "ArenaPlanModel" "arena" "I", Cond.methodLink RX7 150 yX7_isWired, Cond.instanceMethod yX7_isWired, Cond.selects RX7 yX7_isWired yX7_isWired, Cond.code yX7_isWired cX7_isWired 4 (some .boolean), Cond.methodLink RX7 154 yX7_findSizes, Cond.instanceMethod yX7_findSizes, Cond.selects RX7 yX7_findSizes yX7_findSizes, Cond.code yX7_findSizes cX7_findSizes 3 (some .boolean), Cond.methodLink RX7 113 yX7_isReady, Cond.instanceMethod yX7_isReady, Cond.selects RX7 yX7_isReady yX7_isReady]
def wsL_law0_r20 : List Cond := [Cond.code yX7_isReady cX7_isReady 4 (some .boolean), Cond.methodLink RX7 116 yX7_sizeOf, Cond.instanceMethod yX7_sizeOf, Cond.selects RX7 yX7_sizeOf yX7_sizeOf, Cond.code yX7_sizeOf cX7_sizeOf 5 (some .int), Cond.methodLink RX7 160 yX7_orderByNumbers, Cond.instanceMethod yX7_orderByNumbers, Cond.selects RX7 yX7_orderByNumbers yX7_orderByNumbers, Cond.code yX7_orderByNumbers cX7_orderByNumbers 2 none, Cond.methodLink RX7 122 yX7_isThere, Cond.instanceMethod yX7_isThere, Cond.selects RX7 yX7_isThere yX7_isThere, Cond.code yX7_isThere cX7_isThere 2 (some .boolean), Cond.methodLink RX7 125 yX7_isFree, Cond.instanceMethod yX7_isFree, Cond.selects RX7 yX7_isFree yX7_isFree, Cond.code yX7_isFree cX7_isFree 4 (some .boolean), Cond.methodLink RX7 128 yX7_come, Cond.instanceMethod yX7_come, Cond.selects RX7 yX7_come yX7_come, Cond.code yX7_come cX7_come 2 none, Cond.methodLink RX7 163 yX7_labelOf, Cond.instanceMethod yX7_labelOf, Cond.selects RX7 yX7_labelOf yX7_labelOf]
def wsL_law0_r21 : List Cond := [Cond.code yX7_labelOf cX7_labelOf 8 none, Cond.methodLink RX7 166 yX7_orderByLabels, Cond.instanceMethod yX7_orderByLabels, Cond.selects RX7 yX7_orderByLabels yX7_orderByLabels, Cond.code yX7_orderByLabels cX7_orderByLabels 2 none, Cond.methodLink RX7 137 yX7_isUsed, Cond.instanceMethod yX7_isUsed, Cond.selects RX7 yX7_isUsed yX7_isUsed, Cond.code yX7_isUsed cX7_isUsed 4 (some .boolean), Cond.methodLink RX7 140 yX7_visit, Cond.instanceMethod yX7_visit, Cond.selects RX7 yX7_visit yX7_visit, Cond.code yX7_visit cX7_visit 3 none, Cond.fieldLink RX7 131 "ArenaPlanModel" "top" "I", Cond.methodLink RX7 134 yX7_due, Cond.instanceMethod yX7_due, Cond.selects RX7 yX7_due yX7_due, Cond.code yX7_due cX7_due 7 (some .int), Cond.methodLink RX7 169 yX7_findLives, Cond.instanceMethod yX7_findLives, Cond.selects RX7 yX7_findLives yX7_findLives, Cond.code yX7_findLives cX7_findLives 3 none, Cond.methodLink RX7 172 yX7_findPlaces, Cond.instanceMethod yX7_findPlaces]
def wsL_law0_r22 : List Cond := [Cond.selects RX7 yX7_findPlaces yX7_findPlaces, Cond.code yX7_findPlaces cX7_findPlaces 5 none, Cond.methodLink RX7 146 yX7_fits, Cond.instanceMethod yX7_fits, Cond.selects RX7 yX7_fits yX7_fits, Cond.code yX7_fits cX7_fits 6 (some .boolean), Cond.methodLink RL 96 yL_order, Cond.static yL_order, Cond.codeWith yL_order cL_order 4 (some .int) [(0, 9, 12, 26), (0, 9, 15, 33)], Cond.classLink RL 33 "java/lang/IndexOutOfBoundsException", Cond.methodLink RL 30 yX6_order, Cond.instanceMethod yX6_order, Cond.selects RX6 yX6_order yX6_order, Cond.code yX6_order cX6_order 2 (some .int), Cond.fieldLink RX6 176 "ArenaPlan$Plan" "sequence" "[I", Cond.methodLink RX6 169 yX6_needPlan, Cond.instanceMethod yX6_needPlan, Cond.selects RX6 yX6_needPlan yX6_needPlan, Cond.code yX6_needPlan cX6_needPlan 1 none, Cond.methodLink RX6 172 yX6_needWithin, Cond.static yX6_needWithin, Cond.code yX6_needWithin cX6_needWithin 2 none, Cond.classLink RX6 218 "java/lang/IndexOutOfBoundsException", Cond.initialized "java/lang/IndexOutOfBoundsException"]
def wsL_law0_r23 : List Cond := [Cond.methodLink RL 98 yX7_order, Cond.instanceMethod yX7_order, Cond.selects RX7 yX7_order yX7_order, Cond.code yX7_order cX7_order 2 (some .int), Cond.methodLink RL 99 yL_about, Cond.static yL_about, Cond.codeWith yL_about cL_about 5 (some .int) [(0, 10, 13, 26), (0, 10, 17, 33)], Cond.methodLink RL 35 yX6_about, Cond.instanceMethod yX6_about, Cond.selects RX6 yX6_about yX6_about, Cond.code yX6_about cX6_about 3 (some .int), Cond.fieldLink RX6 179 "ArenaPlan$Plan" "size" "[I", Cond.fieldLink RX6 182 "ArenaPlan$Plan" "step" "[I", Cond.fieldLink RX6 185 "ArenaPlan$Plan" "last" "[I", Cond.fieldLink RX6 188 "ArenaPlan$Places" "start" "[I", Cond.fieldLink RX6 191 "ArenaPlan$Plan" "label" "[I", Cond.methodLink RL 102 yX7_about, Cond.instanceMethod yX7_about, Cond.selects RX7 yX7_about yX7_about, Cond.code yX7_about cX7_about 3 (some .int), Cond.methodLink RL 103 yL_cost, Cond.static yL_cost, Cond.codeWith yL_cost cL_cost 4 (some .int) [(0, 9, 12, 26), (0, 9, 15, 33)], Cond.methodLink RL 39 yX6_cost]
def wsL_law0_r24 : List Cond := [Cond.instanceMethod yX6_cost, Cond.selects RX6 yX6_cost yX6_cost, Cond.code yX6_cost cX6_cost 2 (some .int), Cond.fieldLink RX6 194 "ArenaPlan$Plan" "costOf" "[I", Cond.methodLink RL 105 yX7_cost, Cond.instanceMethod yX7_cost, Cond.selects RX7 yX7_cost yX7_cost, Cond.code yX7_cost cX7_cost 2 (some .int), Cond.methodLink RX7 181 yX7_costOf, Cond.instanceMethod yX7_costOf, Cond.selects RX7 yX7_costOf yX7_costOf, Cond.code yX7_costOf cX7_costOf 4 (some .int), Cond.methodLink RL 106 yL_peak, Cond.static yL_peak, Cond.codeWith yL_peak cL_peak 3 (some .int) [(0, 8, 11, 26)], Cond.methodLink RL 42 yX6_peak, Cond.instanceMethod yX6_peak, Cond.selects RX6 yX6_peak yX6_peak, Cond.code yX6_peak cX6_peak 1 (some .int), Cond.fieldLink RX6 197 "ArenaPlan$Plan" "greatestCost" "I", Cond.methodLink RL 109 yX7_peak, Cond.instanceMethod yX7_peak, Cond.selects RX7 yX7_peak yX7_peak, Cond.code yX7_peak cX7_peak 3 (some .int)]
def wsL_law0_r25 : List Cond := [Cond.methodLink RL 110 yL_least, Cond.static yL_least, Cond.codeWith yL_least cL_least 3 (some .int) [(0, 8, 11, 26)], Cond.methodLink RL 46 yX6_least, Cond.instanceMethod yX6_least, Cond.selects RX6 yX6_least yX6_least, Cond.code yX6_least cX6_least 1 (some .int), Cond.methodLink RX6 200 yX2_find, Cond.instanceMethod yX2_find, Cond.selects RX2 yX2_find yX2_find, Cond.code yX2_find cX2_find 3 (some .int), Cond.fieldLink RX2 19 "ArenaPlan$Plan" "length" "I", Cond.fieldLink RX2 25 "ArenaPlan$Plan" "greatestCost" "I", Cond.methodLink RX2 28 yJ7_fill_53178, Cond.methodLink RX2 34 yX2_goOn, Cond.instanceMethod yX2_goOn, Cond.selects RX2 yX2_goOn yX2_goOn, Cond.code yX2_goOn cX2_goOn 6 none, Cond.fieldLink RX2 46 "ArenaPlan$Plan" "dependencies" "[I", Cond.fieldLink RX2 55 "ArenaPlan$Plan" "size" "[I", Cond.methodLink RX2 58 Lib.Math.max.name, Cond.methodLink RX2 64 Lib.Math.min.name, Cond.methodLink RX2 38 yX2_heldAfter, Cond.instanceMethod yX2_heldAfter]
def wsL_law0_r26 : List Cond := [Cond.selects RX2 yX2_heldAfter yX2_heldAfter, Cond.code yX2_heldAfter cX2_heldAfter 5 (some .int), Cond.fieldLink RX2 67 "ArenaPlan$Plan" "graph" "LArenaPlan$Graph;", Cond.fieldLink RX2 71 "ArenaPlan$Graph" "kept" "[Z", Cond.fieldLink RX2 77 "ArenaPlan$Plan" "dependents" "[I", Cond.methodLink RL 112 yX7_least, Cond.instanceMethod yX7_least, Cond.selects RX7 yX7_least yX7_least, Cond.code yX7_least cX7_least 1 (some .int), Cond.methodLink RX7 193 yX7_findLeast, Cond.instanceMethod yX7_findLeast, Cond.selects RX7 yX7_findLeast yX7_findLeast, Cond.code yX7_findLeast cX7_findLeast 8 none, Cond.methodLink RX7 187 yX7_stays, Cond.instanceMethod yX7_stays, Cond.selects RX7 yX7_stays yX7_stays, Cond.code yX7_stays cX7_stays 5 (some .int), Cond.methodLink RX7 184 yX7_users, Cond.instanceMethod yX7_users, Cond.selects RX7 yX7_users yX7_users, Cond.code yX7_users cX7_users 4 (some .int), Cond.methodLink RX7 190 yX7_needed, Cond.instanceMethod yX7_needed, Cond.selects RX7 yX7_needed yX7_needed]
def wsL_law0_r27 : List Cond := [Cond.code yX7_needed cX7_needed 4 (some .int), Cond.methodLink RL 113 yL_run, Cond.static yL_run, Cond.codeWith yL_run cL_run 3 (some .int) [(0, 8, 11, 26)], Cond.methodLink RL 49 yX6_run, Cond.instanceMethod yX6_run, Cond.selects RX6 yX6_run yX6_run, Cond.code yX6_run cX6_run 1 (some .int), Cond.methodLink RX6 203 yX0_work, Cond.instanceMethod yX0_work, Cond.selects RX0 yX0_work yX0_work, Cond.code yX0_work cX0_work 5 (some .int), Cond.fieldLink RX0 39 "ArenaPlan$Plan" "length" "I", Cond.fieldLink RX0 43 "ArenaPlan$Plan" "sequence" "[I", Cond.fieldLink RX0 46 "ArenaPlan$Plan" "size" "[I", Cond.fieldLink RX0 49 "ArenaPlan$Places" "start" "[I", Cond.methodLink RX0 33 yJ7_fill_53178, Cond.methodLink RX0 52 yX0_workOut, Cond.instanceMethod yX0_workOut, Cond.selects RX0 yX0_workOut yX0_workOut, Cond.code yX0_workOut cX0_workOut 6 (some .int), Cond.fieldLink RX0 56 "ArenaPlan$Graph" "source" "[[I", Cond.fieldLink RX0 62 "ArenaPlan$Graph" "operation" "[I", Cond.fieldLink RX0 65 "ArenaPlan$Graph" "given" "[[I"]
def wsL_law0_r28 : List Cond := [Cond.fieldLink RX0 71 "ArenaPlan$Graph" "p" "[I", Cond.methodLink RX0 68 yX0_valueOf, Cond.instanceMethod yX0_valueOf, Cond.selects RX0 yX0_valueOf yX0_valueOf, Cond.code yX0_valueOf cX0_valueOf 3 (some .int), Cond.methodLink RX0 74 yX0_totalOf, Cond.instanceMethod yX0_totalOf, Cond.selects RX0 yX0_totalOf yX0_totalOf, Cond.code yX0_totalOf cX0_totalOf 4 (some .int), Cond.methodLink RL 115 yX7_run, Cond.instanceMethod yX7_run, Cond.selects RX7 yX7_run yX7_run, Cond.code yX7_run cX7_run 5 (some .int), Cond.methodLink RX7 196 yX7_work, Cond.instanceMethod yX7_work, Cond.selects RX7 yX7_work yX7_work, Cond.code yX7_work cX7_work 9 none, Cond.methodLink RL 116 yL_cell, Cond.static yL_cell, Cond.codeWith yL_cell cL_cell 4 (some .int) [(0, 9, 12, 26), (0, 9, 15, 33)], Cond.methodLink RL 52 yX6_cell, Cond.instanceMethod yX6_cell, Cond.selects RX6 yX6_cell yX6_cell, Cond.code yX6_cell cX6_cell 2 (some .int)]
def wsL_law0_r29 : List Cond := [Cond.fieldLink RX6 209 "ArenaPlan$Cells" "value" "[I", Cond.methodLink RX6 206 yX6_needRun, Cond.instanceMethod yX6_needRun, Cond.selects RX6 yX6_needRun yX6_needRun, Cond.code yX6_needRun cX6_needRun 1 none, Cond.methodLink RL 118 yX7_cell, Cond.instanceMethod yX7_cell, Cond.selects RX7 yX7_cell yX7_cell, Cond.code yX7_cell cX7_cell 2 (some .int), Cond.methodLink RL 119 yL_result, Cond.static yL_result, Cond.codeWith yL_result cL_result 5 (some .int) [(0, 10, 13, 26), (0, 10, 17, 21), (0, 10, 21, 33)], Cond.methodLink RL 55 yX6_result, Cond.instanceMethod yX6_result, Cond.selects RX6 yX6_result yX6_result, Cond.code yX6_result cX6_result 3 (some .int), Cond.methodLink RL 121 yX7_result, Cond.instanceMethod yX7_result, Cond.selects RX7 yX7_result yX7_result, Cond.code yX7_result cX7_result 3 (some .int)]
def wsL_law0 : List Cond := (wsL_law0_r1 ++ (wsL_law0_r2 ++ (wsL_law0_r3 ++ (wsL_law0_r4 ++ (wsL_law0_r5 ++ (wsL_law0_r6 ++ (wsL_law0_r7 ++ (wsL_law0_r8 ++ (wsL_law0_r9 ++ (wsL_law0_r10 ++ (wsL_law0_r11 ++ (wsL_law0_r12 ++ (wsL_law0_r13 ++ (wsL_law0_r14 ++ (wsL_law0_r15 ++ (wsL_law0_r16 ++ (wsL_law0_r17 ++ (wsL_law0_r18 ++ (wsL_law0_r19 ++ (wsL_law0_r20 ++ (wsL_law0_r21 ++ (wsL_law0_r22 ++ (wsL_law0_r23 ++ (wsL_law0_r24 ++ (wsL_law0_r25 ++ (wsL_law0_r26 ++ (wsL_law0_r27 ++ (wsL_law0_r28 ++ wsL_law0_r29)))))))))))))))))))))))))))) ++ wsX60 ++ wsX70 ++ wsX10 ++ wsX50 ++ wsX40 ++ wsX30 ++ wsX00 ++ wsX20 ++ ([] : List Cond)
def wsL_law : List Cond := wsL_law0 ++ (vx_atM "java/lang/ArrayIndexOutOfBoundsException" ["java/lang/IndexOutOfBoundsException", "java/lang/RuntimeException", "java/lang/Exception"]).filter goodWord ++ (vx_atS RX6 65 "java/lang/IllegalArgumentException" ["java/lang/RuntimeException", "java/lang/Exception"]).filter goodWord ++ (vx_atS RX6 76 "java/lang/UnsupportedOperationException" ["java/lang/RuntimeException", "java/lang/Exception"]).filter goodWord ++ (vx_atSX RX6 124 "java/util/NoSuchElementException" 13 prog_23_method_4_code ["java/lang/RuntimeException", "java/lang/Exception"]).filter goodWord ++ (vx_atS RX6 140 "java/lang/IllegalStateException" ["java/lang/RuntimeException", "java/lang/Exception"]).filter goodWord ++ (vx_atS RX6 148 "java/lang/ArithmeticException" ["java/lang/RuntimeException", "java/lang/Exception"]).filter goodWord ++ (vx_atS RX6 222 "java/lang/IndexOutOfBoundsException" ["java/lang/RuntimeException", "java/lang/Exception"]).filter goodWord
abbrev vwCl : List vw_C := [(RJ0, TJ0, 2), (RJx00060, TJx00060, 6), (RX0, TX0, 4), (RX1, TX1, 7), (RX2, TX2, 2), (RX3, TX3, 4), (RX4, TX4, 12), (RX5, TX5, 5), (RX6, TX6, 9), (RX7, TX7, 30)]
end
section
/-! ===== the ground: a memory of ints by cell and place; what cells lie in the heap; the judgement apV ===== -/
/-- the ints of all cells: cell, place -/
abbrev apM : Type := Nat → Nat → Int32
def mst (σ : apM) (k i : Nat) (v : Int32) : apM := fun k' => if k' = k then upd (σ k) i v else σ k'
theorem mst_k {σ : apM} {k i k' : Nat} {v : Int32} (h : ¬ k' = k) : mst σ k i v k' = σ k' := by unfold mst; rw [if_neg h]
theorem mst_e {σ : apM} {k i : Nat} {v : Int32} : mst σ k i v k = upd (σ k) i v := by unfold mst; rw [if_pos rfl]
/-- a cell's kind: an object (class, fields: a cell's number, or none for an int), an array of ints (type, length), a row of references (type, length, first cell) -/
abbrev apK : Type := (Nat × List (Option Nat)) ⊕ ((Nat × Nat) ⊕ (Nat × Nat × Nat))
def apF (q : Nat → Nat) (f : Nat → Int32) : Nat → List (Option Nat) → List Value
  | _, [] => []
  | j, none :: r => .int (f j) :: apF q f (j + 1) r
  | j, some k :: r => .ref (q k) :: apF q f (j + 1) r
def apE (q : Nat → Nat) (d : Nat → ClassId) (f : Nat → Int32) : apK → va_E
  | .inl (c, fl) => .inr (c, apF q f 0 fl)
  | .inr (.inl (t, n)) => if t = 3 then .inl (d t, (n, .inr (.inl (fun i => (f i).toInt64)))) else .inl (d t, (n, .inl f))
  | .inr (.inr (t, n, b)) => .inl (d t, (n, .inr (.inr (.inr (.inr (fun i => some (q (b + i))))))))
def apL (q : Nat → Nat) (d : Nat → ClassId) (σ : apM) : Nat → List apK → va_W
  | _, [] => []
  | k, x :: r => (q k, apE q d (σ k) x) :: apL q d σ (k + 1) r
/-- the cells of a layout -/
def apU (lay : List apK) (q : Nat → Nat) (d : Nat → ClassId) (σ : apM) : va_W := apL q d σ 0 lay
abbrev apT (d : Nat → ClassId) : List (ClassId × FieldType) := [(d 0, .int), (d 1, .boolean), (d 2, .array .int), (d 3, .long)]
theorem apF_get {q : Nat → Nat} {f : Nat → Int32} : ∀ {fl : List (Option Nat)} {j b : Nat} {x : Option Nat}, fl[j]? = some x → (apF q f b fl)[j]? = some (match x with | none => .int (f (b + j)) | some k => .ref (q k)) := by
  intro fl
  induction fl with
  | nil => intro j b x h; simp at h
  | cons y r ih =>
    intro j b x h
    cases j with
    | zero =>
      rw [List.getElem?_cons_zero] at h
      cases h
      cases y <;> rfl
    | succ j =>
      rw [List.getElem?_cons_succ] at h
      have h2 := ih (b := b + 1) h
      cases y <;> (unfold apF; rw [List.getElem?_cons_succ, h2, show b + 1 + j = b + (j + 1) by omega])
theorem apF_set {q : Nat → Nat} {f : Nat → Int32} {v : Int32} : ∀ {fl : List (Option Nat)} {j b : Nat}, fl[j]? = some none → (apF q f b fl).set j (.int v) = apF q (upd f (b + j) v) b fl := by
  have keep : ∀ (fl : List (Option Nat)) (b j : Nat), j < b → apF q (upd f j v) b fl = apF q f b fl := by
    intro fl
    induction fl with
    | nil => intro b j h; rfl
    | cons y r ih =>
      intro b j h
      cases y with
      | none =>
        unfold apF
        rw [ih (b + 1) j (by omega)]
        simp [upd, show ¬ b = j by omega]
      | some k =>
        unfold apF
        rw [ih (b + 1) j (by omega)]
  intro fl
  induction fl with
  | nil => intro j b h; simp at h
  | cons y r ih =>
    intro j b h
    cases j with
    | zero =>
      rw [List.getElem?_cons_zero] at h
      cases h
      unfold apF
      rw [List.set_cons_zero, keep r (b + 1) (b + 0) (by omega)]
      simp [upd]
    | succ j =>
      rw [List.getElem?_cons_succ] at h
      have h2 := ih (b := b + 1) h
      cases y with
      | none =>
        unfold apF
        rw [List.set_cons_succ, h2, show b + 1 + j = b + (j + 1) by omega]
        simp [upd, show ¬ b = b + (j + 1) by omega]
      | some k =>
        unfold apF
        rw [List.set_cons_succ, h2, show b + 1 + j = b + (j + 1) by omega]
theorem apL_get {q : Nat → Nat} {d : Nat → ClassId} {σ : apM} : ∀ {lay : List apK} {k b : Nat} {x : apK}, lay[k]? = some x → (apL q d σ b lay)[k]? = some (q (b + k), apE q d (σ (b + k)) x) := by
  intro lay
  induction lay with
  | nil => intro k b x h; simp at h
  | cons y r ih =>
    intro k b x h
    cases k with
    | zero =>
      rw [List.getElem?_cons_zero] at h
      cases h
      rfl
    | succ k =>
      rw [List.getElem?_cons_succ] at h
      unfold apL
      rw [List.getElem?_cons_succ, ih (b := b + 1) h, show b + 1 + k = b + (k + 1) by omega]
theorem apU_get {lay : List apK} {q : Nat → Nat} {d : Nat → ClassId} {σ : apM} {k : Nat} {x : apK} (h : lay[k]? = some x) : (apU lay q d σ)[k]? = some (q k, apE q d (σ k) x) := by
  have := apL_get (q := q) (d := d) (σ := σ) (b := 0) h
  rw [Nat.zero_add] at this
  exact this
theorem apL_set {q : Nat → Nat} {d : Nat → ClassId} {σ σ' : apM} : ∀ {lay : List apK} {k b : Nat} {x : apK}, lay[k]? = some x → (∀ k', k' ≠ b + k → σ' k' = σ k') → (apL q d σ b lay).set k (q (b + k), apE q d (σ' (b + k)) x) = apL q d σ' b lay := by
  have keep : ∀ (lay : List apK) (b k : Nat), k < b → (∀ k', k' ≠ k → σ' k' = σ k') → apL q d σ' b lay = apL q d σ b lay := by
    intro lay
    induction lay with
    | nil => intro b k h hs; rfl
    | cons y r ih =>
      intro b k h hs
      unfold apL
      rw [ih (b + 1) k (by omega) hs, hs b (by omega)]
  intro lay
  induction lay with
  | nil => intro k b x h; simp at h
  | cons y r ih =>
    intro k b x h hs
    cases k with
    | zero =>
      rw [List.getElem?_cons_zero] at h
      cases h
      unfold apL
      rw [List.set_cons_zero, keep r (b + 1) (b + 0) (by omega) hs]
      rfl
    | succ k =>
      rw [List.getElem?_cons_succ] at h
      have h2 := ih (b := b + 1) h (fun k' hk => hs k' (by omega))
      unfold apL
      rw [List.set_cons_succ, ← h2, show b + 1 + k = b + (k + 1) by omega, hs b (by omega)]
theorem apU_set {lay : List apK} {q : Nat → Nat} {d : Nat → ClassId} {σ σ' : apM} {k : Nat} {x : apK} (h : lay[k]? = some x) (hs : ∀ k', k' ≠ k → σ' k' = σ k') : (apU lay q d σ).set k (q k, apE q d (σ' k) x) = apU lay q d σ' := by
  have := apL_set (q := q) (d := d) (σ := σ) (σ' := σ') (b := 0) h (by rw [Nat.zero_add]; exact hs)
  rw [Nat.zero_add] at this
  exact this
/-- an array's int; a store; none where the index is outside -/
def ald (σ : apM) (k n : Nat) (i : Int32) : Option Int32 := if 0 ≤ i ∧ i.toNatClampNeg < n then some (σ k i.toNatClampNeg) else none
def ast (σ : apM) (k n : Nat) (i : Int32) (v : Int32) : Option apM := if 0 ≤ i ∧ i.toNatClampNeg < n then some (mst σ k i.toNatClampNeg v) else none
def rix (n : Nat) (i : Int32) : Option Nat := if 0 ≤ i ∧ i.toNatClampNeg < n then some i.toNatClampNeg else none
def bz (v : Int32) : Option Int32 := if v = 0 ∨ v = 1 then some v else none
theorem ix_in {i : Int32} {n : Nat} (h : 0 ≤ i ∧ i.toNatClampNeg < n) : vp_in i n := by
  intro g
  rcases g with g | g
  · exact absurd g (by have := h.1; rw [Int32.lt_iff_toInt_lt]; rw [Int32.le_iff_toInt_le] at this; omega)
  · omega
theorem ald_some {σ : apM} {k n : Nat} {i v : Int32} (h : ald σ k n i = some v) : vp_in i n ∧ σ k i.toNatClampNeg = v := by
  unfold ald at h
  split at h
  · next c => exact ⟨ix_in c, Option.some.inj h⟩
  · cases h
theorem ast_some {σ σ' : apM} {k n : Nat} {i v : Int32} (h : ast σ k n i v = some σ') : vp_in i n ∧ mst σ k i.toNatClampNeg v = σ' := by
  unfold ast at h
  split at h
  · next c => exact ⟨ix_in c, Option.some.inj h⟩
  · cases h
theorem rix_some {n j : Nat} {i : Int32} (h : rix n i = some j) : vp_in i n ∧ i.toNatClampNeg = j ∧ j < n := by
  unfold rix at h
  split at h
  · next c => cases h; exact ⟨ix_in c, rfl, c.2⟩
  · cases h
theorem bz_some {v w : Int32} (h : bz v = some w) : v = w ∧ (v = 0 ∨ v = 1) := by
  unfold bz at h
  split at h
  · next c => exact ⟨Option.some.inj h, c⟩
  · cases h
/-- a loop: the body gives the next state or the end -/
def lp {S E : Type} : Nat → (S → Option (S ⊕ E)) → S → Option E
  | 0, _, _ => none
  | n + 1, b, s => match b s with
    | none => none
    | some (.inl s') => lp n b s'
    | some (.inr e) => some e
def FU : Nat := 5000
/-- the whole array filled, from the place i on, with v -/
def mfl (σ : apM) (k : Nat) (v : Int32) : Nat → apM
  | 0 => σ
  | n + 1 => mst (mfl σ k v n) k n v
/-! the frame of a method in which a judgement stands -/
abbrev apC : Type := (Program × Launch × Env × Room × State) × ((MethodId × Array Value × List Frame × Method × Code) × ((State → Prop) × va_G × (Nat → ClassId) × (Nat → Prop)))
abbrev apW (Γ : apC) (H : Heap) (locs : List Loc) (cn sn : Nat) (g : JFrame) : Prop := W Γ.1.1 Γ.1.2.1 Γ.1.2.2.1 Γ.1.2.2.2.1 Γ.1.2.2.2.2 Γ.2.1.1 Γ.2.1.2.1 Γ.2.1.2.2.1 Γ.2.1.2.2.2.1 Γ.2.1.2.2.2.2 H locs cn sn Γ.2.2.1 g
abbrev apS (Γ : apC) : State := Γ.1.2.2.2.2
abbrev apA (Γ : apC) : Nat → Prop := Γ.2.2.2.2.2
abbrev apD (Γ : apC) : va_G := Γ.2.2.2.1
abbrev apd (Γ : apC) : Nat → ClassId := Γ.2.2.2.2.1
/-- the heap H holds the cells w; since the start nothing else has changed -/
def apH (Γ : apC) (w : va_W) (H : Heap) (locs : List Loc) : Prop := va_P (apD Γ) vwCl w H ∧ va_D (apA Γ) w ∧ va_S (apA Γ) (apS Γ).heap H locs
/-- from pc, with these locals, this stack and these cells, the machine comes to the method's due end -/
def apV (Γ : apC) (nL : Nat) (w : va_W) (cn sn : Nat) (pc : Nat) (L : List (Nat × Value)) (st : List Value) : Prop :=
  ∀ (H : Heap) (locs : List Loc) (ls : Array Slot), apH Γ w H locs → lv_has ls nL L → apW Γ H locs cn sn (F0 Γ.2.1.1 pc ls st)
/-- what a method's body may use: code, names, tables, room, what it may change, what else is known of the start -/
def apG (Γ : apC) (cc : ByteArray) (nL : Nat) (own : String) (Ts : List Cond) (rm : Room) (X : (Nat → Prop) → State → Prop) : Prop :=
  Γ.1.1.tables.exec = Jvm.exec ∧ Γ.2.1.2.2.2.2.code = cc ∧ Γ.2.1.2.2.2.2.maxLocals = nL ∧ (apS Γ).vm.findClass own = some Γ.2.1.1.cls ∧ (∀ w ∈ Ts, w.before Γ.2.1.2.1 (apS Γ) = true) ∧
  va_K (apD Γ) vwCl (apT (apd Γ)) (apS Γ) ∧ Γ.1.2.2.2.1 = rm ∧ (∀ q : Nat, (apS Γ).heap.size ≤ q → apA Γ q) ∧ X (apA Γ) (apS Γ) ∧ Γ.2.1.2.2.2.1.locks = false
/-- the method may end with this answer over these cells -/
def apR (Γ : apC) (cc : ByteArray) (mc ms : Nat) (r : Option Int32) (w : va_W) : Prop :=
  match r with
  | some v => ∀ (pc : Nat) (H : Heap) (locs : List Loc) (ls : Array Slot), apH Γ w H locs → decode cc pc = .ok (.ireturn, 1) → apW Γ H locs mc ms (F0 Γ.2.1.1 pc ls [.int v])
  | none => ∀ (pc : Nat) (H : Heap) (locs : List Loc) (ls : Array Slot), apH Γ w H locs → decode cc pc = .ok (.return_, 1) → apW Γ H locs mc ms (F0 Γ.2.1.1 pc ls [])
end
section
/-! ===== the rows of apV, an instruction a row ===== -/
section APR
variable {Γ : apC} {cc : ByteArray} {nL : Nat} {own : String} {Ts : List Cond} {rm : Room} {X : (Nat → Prop) → State → Prop} {w : va_W} {cn sn pc : Nat} {L L' : List (Nat × Value)} {st : List Value}
theorem v_iconst (G : apG Γ cc nL own Ts rm X) {n : Int} {v : Int32} (hd : decode cc pc = .ok (.iconst n, 1)) (hv : Int32.ofInt n = v) (kk : apV Γ nL w cn sn (pc + 1) L (.int v :: st)) : apV Γ nL w cn sn pc L st := fun H locs ls hH hL => lv_iconst G.1 G.2.1 hd hv (kk H locs ls hH hL)
theorem v_bipush (G : apG Γ cc nL own Ts rm X) {n : Int} {v : Int32} (hd : decode cc pc = .ok (.bipush n, 2)) (hv : (Int8.ofInt n).toInt32 = v) (kk : apV Γ nL w cn sn (pc + 2) L (.int v :: st)) : apV Γ nL w cn sn pc L st := fun H locs ls hH hL => lv_bipush G.1 G.2.1 hd hv (kk H locs ls hH hL)
theorem v_sipush (G : apG Γ cc nL own Ts rm X) {n : Int} {v : Int32} (hd : decode cc pc = .ok (.sipush n, 3)) (hv : (Int16.ofInt n).toInt32 = v) (kk : apV Γ nL w cn sn (pc + 3) L (.int v :: st)) : apV Γ nL w cn sn pc L st := fun H locs ls hH hL => lv_sipush G.1 G.2.1 hd hv (kk H locs ls hH hL)
theorem v_iload_n (G : apG Γ cc nL own Ts rm X) {k : Fin 4} {i : Nat} {x : Int32} (hd : decode cc pc = .ok (.iload_n k, 1)) (hi : (k : Nat) = i) (j : Nat) (hl : L[j]? = some (i, .int x)) (kk : apV Γ nL w cn sn (pc + 1) L (.int x :: st)) : apV Γ nL w cn sn pc L st := fun H locs ls hH hL => lv_iload_n G.1 G.2.1 hd hi (lv_at hL j hl) (kk H locs ls hH hL)
theorem v_iload (G : apG Γ cc nL own Ts rm X) {i : Nat} {x : Int32} (hd : decode cc pc = .ok (.iload i, 2)) (j : Nat) (hl : L[j]? = some (i, .int x)) (kk : apV Γ nL w cn sn (pc + 2) L (.int x :: st)) : apV Γ nL w cn sn pc L st := fun H locs ls hH hL => lv_iload G.1 G.2.1 hd (lv_at hL j hl) (kk H locs ls hH hL)
theorem v_aload_n (G : apG Γ cc nL own Ts rm X) {k : Fin 4} {i x : Nat} (hd : decode cc pc = .ok (.aload_n k, 1)) (hi : (k : Nat) = i) (j : Nat) (hl : L[j]? = some (i, .ref x)) (kk : apV Γ nL w cn sn (pc + 1) L (.ref x :: st)) : apV Γ nL w cn sn pc L st := fun H locs ls hH hL => lv_aload_n G.1 G.2.1 hd hi (lv_at hL j hl) (kk H locs ls hH hL)
theorem v_aload (G : apG Γ cc nL own Ts rm X) {i x : Nat} (hd : decode cc pc = .ok (.aload i, 2)) (j : Nat) (hl : L[j]? = some (i, .ref x)) (kk : apV Γ nL w cn sn (pc + 2) L (.ref x :: st)) : apV Γ nL w cn sn pc L st := fun H locs ls hH hL => lv_aload G.1 G.2.1 hd (lv_at hL j hl) (kk H locs ls hH hL)
theorem v_istore_n (G : apG Γ cc nL own Ts rm X) {k : Fin 4} {i : Nat} {x : Int32} (hd : decode cc pc = .ok (.istore_n k, 1)) (hi : (k : Nat) = i) (hn : i < nL) (hl : (i, Value.int x) :: L.filter (fun q => !(q.1 == i) && !(q.1 + 1 == i && q.2.category == 2)) = L') (kk : apV Γ nL w cn sn (pc + 1) L' st) : apV Γ nL w cn sn pc L (.int x :: st) := fun H locs ls hH hL => lv_istore_n G.1 G.2.1 hd hi hL hn hl (fun ls' hL' => kk H locs ls' hH hL')
theorem v_istore (G : apG Γ cc nL own Ts rm X) {i : Nat} {x : Int32} (hd : decode cc pc = .ok (.istore i, 2)) (hn : i < nL) (hl : (i, Value.int x) :: L.filter (fun q => !(q.1 == i) && !(q.1 + 1 == i && q.2.category == 2)) = L') (kk : apV Γ nL w cn sn (pc + 2) L' st) : apV Γ nL w cn sn pc L (.int x :: st) := fun H locs ls hH hL => lv_istore G.1 G.2.1 hd hL hn hl (fun ls' hL' => kk H locs ls' hH hL')
theorem v_astore_n (G : apG Γ cc nL own Ts rm X) {k : Fin 4} {i x : Nat} (hd : decode cc pc = .ok (.astore_n k, 1)) (hi : (k : Nat) = i) (hn : i < nL) (hl : (i, Value.ref x) :: L.filter (fun q => !(q.1 == i) && !(q.1 + 1 == i && q.2.category == 2)) = L') (kk : apV Γ nL w cn sn (pc + 1) L' st) : apV Γ nL w cn sn pc L (.ref x :: st) := fun H locs ls hH hL => lv_astore_n G.1 G.2.1 hd hi hL hn hl (fun ls' hL' => kk H locs ls' hH hL')
theorem v_astore (G : apG Γ cc nL own Ts rm X) {i x : Nat} (hd : decode cc pc = .ok (.astore i, 2)) (hn : i < nL) (hl : (i, Value.ref x) :: L.filter (fun q => !(q.1 == i) && !(q.1 + 1 == i && q.2.category == 2)) = L') (kk : apV Γ nL w cn sn (pc + 2) L' st) : apV Γ nL w cn sn pc L (.ref x :: st) := fun H locs ls hH hL => lv_astore G.1 G.2.1 hd hL hn hl (fun ls' hL' => kk H locs ls' hH hL')
theorem v_iinc (G : apG Γ cc nL own Ts rm X) {i : Nat} {n : Int} {x v : Int32} (hd : decode cc pc = .ok (.iinc i n, 3)) (j : Nat) (hj : L[j]? = some (i, .int x)) (hv : x + Int32.ofInt n = v) (hn : i < nL) (hl : (i, Value.int v) :: L.filter (fun q => !(q.1 == i) && !(q.1 + 1 == i && q.2.category == 2)) = L') (kk : apV Γ nL w cn sn (pc + 3) L' st) : apV Γ nL w cn sn pc L st := fun H locs ls hH hL => lv_iinc G.1 G.2.1 hd hL hj hv hn hl (fun ls' hL' => kk H locs ls' hH hL')
theorem v_iadd (G : apG Γ cc nL own Ts rm X) {x y : Int32} (hd : decode cc pc = .ok (.iadd, 1)) (kk : apV Γ nL w cn sn (pc + 1) L (.int (x + y) :: st)) : apV Γ nL w cn sn pc L (.int y :: .int x :: st) := fun H locs ls hH hL => lv_iadd G.1 G.2.1 hd (kk H locs ls hH hL)
theorem v_isub (G : apG Γ cc nL own Ts rm X) {x y : Int32} (hd : decode cc pc = .ok (.isub, 1)) (kk : apV Γ nL w cn sn (pc + 1) L (.int (x - y) :: st)) : apV Γ nL w cn sn pc L (.int y :: .int x :: st) := fun H locs ls hH hL => lv_isub G.1 G.2.1 hd (kk H locs ls hH hL)
theorem v_imul (G : apG Γ cc nL own Ts rm X) {x y : Int32} (hd : decode cc pc = .ok (.imul, 1)) (kk : apV Γ nL w cn sn (pc + 1) L (.int (x * y) :: st)) : apV Γ nL w cn sn pc L (.int y :: .int x :: st) := fun H locs ls hH hL => lv_imul G.1 G.2.1 hd (kk H locs ls hH hL)
theorem v_iand (G : apG Γ cc nL own Ts rm X) {x y : Int32} (hd : decode cc pc = .ok (.iand, 1)) (kk : apV Γ nL w cn sn (pc + 1) L (.int (x &&& y) :: st)) : apV Γ nL w cn sn pc L (.int y :: .int x :: st) := fun H locs ls hH hL => lv_iand G.1 G.2.1 hd (kk H locs ls hH hL)
theorem v_ior (G : apG Γ cc nL own Ts rm X) {x y : Int32} (hd : decode cc pc = .ok (.ior, 1)) (kk : apV Γ nL w cn sn (pc + 1) L (.int (x ||| y) :: st)) : apV Γ nL w cn sn pc L (.int y :: .int x :: st) := fun H locs ls hH hL => lv_ior G.1 G.2.1 hd (kk H locs ls hH hL)
theorem v_ixor (G : apG Γ cc nL own Ts rm X) {x y : Int32} (hd : decode cc pc = .ok (.ixor, 1)) (kk : apV Γ nL w cn sn (pc + 1) L (.int (x ^^^ y) :: st)) : apV Γ nL w cn sn pc L (.int y :: .int x :: st) := fun H locs ls hH hL => lv_ixor G.1 G.2.1 hd (kk H locs ls hH hL)
theorem v_ishl (G : apG Γ cc nL own Ts rm X) {x y : Int32} (hd : decode cc pc = .ok (.ishl, 1)) (kk : apV Γ nL w cn sn (pc + 1) L (.int (x <<< (y &&& 31)) :: st)) : apV Γ nL w cn sn pc L (.int y :: .int x :: st) := fun H locs ls hH hL => lv_ishl G.1 G.2.1 hd (kk H locs ls hH hL)
theorem v_ishr (G : apG Γ cc nL own Ts rm X) {x y : Int32} (hd : decode cc pc = .ok (.ishr, 1)) (kk : apV Γ nL w cn sn (pc + 1) L (.int (x >>> (y &&& 31)) :: st)) : apV Γ nL w cn sn pc L (.int y :: .int x :: st) := fun H locs ls hH hL => lv_ishr G.1 G.2.1 hd (kk H locs ls hH hL)
theorem v_idiv (G : apG Γ cc nL own Ts rm X) {x y : Int32} (hd : decode cc pc = .ok (.idiv, 1)) (hne : ¬ y = 0) (kk : apV Γ nL w cn sn (pc + 1) L (.int (x / y) :: st)) : apV Γ nL w cn sn pc L (.int y :: .int x :: st) := fun H locs ls hH hL => lv_idiv G.1 G.2.1 hd hne (kk H locs ls hH hL)
theorem v_ineg (G : apG Γ cc nL own Ts rm X) {x : Int32} (hd : decode cc pc = .ok (.ineg, 1)) (kk : apV Γ nL w cn sn (pc + 1) L (.int (-x) :: st)) : apV Γ nL w cn sn pc L (.int x :: st) := fun H locs ls hH hL => lv_ineg G.1 G.2.1 hd (kk H locs ls hH hL)
theorem v_dup (G : apG Γ cc nL own Ts rm X) {a : Value} (hd : decode cc pc = .ok (.dup, 1)) (ha : a.category = 1) (kk : apV Γ nL w cn sn (pc + 1) L (a :: a :: st)) : apV Γ nL w cn sn pc L (a :: st) := fun H locs ls hH hL => lv_dup G.1 G.2.1 hd ha (kk H locs ls hH hL)
theorem v_dup2 (G : apG Γ cc nL own Ts rm X) {a b : Value} (hd : decode cc pc = .ok (.dup2, 1)) (ha : a.category = 1) (hb : b.category = 1) (kk : apV Γ nL w cn sn (pc + 1) L (a :: b :: a :: b :: st)) : apV Γ nL w cn sn pc L (a :: b :: st) := fun H locs ls hH hL => lv_dup2_11 G.1 G.2.1 hd ha hb (kk H locs ls hH hL)
theorem v_pop (G : apG Γ cc nL own Ts rm X) {a : Value} (hd : decode cc pc = .ok (.pop, 1)) (ha : a.category = 1) (kk : apV Γ nL w cn sn (pc + 1) L st) : apV Γ nL w cn sn pc L (a :: st) := fun H locs ls hH hL => lv_pop G.1 G.2.1 hd ha (kk H locs ls hH hL)
theorem v_goto (G : apG Γ cc nL own Ts rm X) {off : Int} {tgt : Nat} (hd : decode cc pc = .ok (.goto off, 3)) (ht : (pc : Int) + off = (tgt : Int)) (kk : apV Γ nL w cn sn tgt L st) : apV Γ nL w cn sn pc L st := fun H locs ls hH hL => lv_goto G.1 G.2.1 hd ht (kk H locs ls hH hL)
theorem v_if_eq (G : apG Γ cc nL own Ts rm X) {x : Int32} {off : Int} {tgt : Nat} (hd : decode cc pc = .ok (.ifCond .eq off, 3)) (ht : (pc : Int) + off = (tgt : Int)) (kt : x = 0 → apV Γ nL w cn sn tgt L st) (kf : ¬ x = 0 → apV Γ nL w cn sn (pc + 3) L st) : apV Γ nL w cn sn pc L (.int x :: st) := fun H locs ls hH hL => lv_if_eq G.1 G.2.1 hd ht (fun c9 => kt c9 H locs ls hH hL) (fun c9 => kf c9 H locs ls hH hL)
theorem v_icmp_eq (G : apG Γ cc nL own Ts rm X) {x y : Int32} {off : Int} {tgt : Nat} (hd : decode cc pc = .ok (.if_icmp .eq off, 3)) (ht : (pc : Int) + off = (tgt : Int)) (kt : x = y → apV Γ nL w cn sn tgt L st) (kf : ¬ x = y → apV Γ nL w cn sn (pc + 3) L st) : apV Γ nL w cn sn pc L (.int y :: .int x :: st) := fun H locs ls hH hL => lv_icmp_eq G.1 G.2.1 hd ht (fun c9 => kt c9 H locs ls hH hL) (fun c9 => kf c9 H locs ls hH hL)
theorem v_if_ne (G : apG Γ cc nL own Ts rm X) {x : Int32} {off : Int} {tgt : Nat} (hd : decode cc pc = .ok (.ifCond .ne off, 3)) (ht : (pc : Int) + off = (tgt : Int)) (kt : ¬ x = 0 → apV Γ nL w cn sn tgt L st) (kf : x = 0 → apV Γ nL w cn sn (pc + 3) L st) : apV Γ nL w cn sn pc L (.int x :: st) := fun H locs ls hH hL => lv_if_ne G.1 G.2.1 hd ht (fun c9 => kt c9 H locs ls hH hL) (fun c9 => kf c9 H locs ls hH hL)
theorem v_icmp_ne (G : apG Γ cc nL own Ts rm X) {x y : Int32} {off : Int} {tgt : Nat} (hd : decode cc pc = .ok (.if_icmp .ne off, 3)) (ht : (pc : Int) + off = (tgt : Int)) (kt : ¬ x = y → apV Γ nL w cn sn tgt L st) (kf : x = y → apV Γ nL w cn sn (pc + 3) L st) : apV Γ nL w cn sn pc L (.int y :: .int x :: st) := fun H locs ls hH hL => lv_icmp_ne G.1 G.2.1 hd ht (fun c9 => kt c9 H locs ls hH hL) (fun c9 => kf c9 H locs ls hH hL)
theorem v_if_lt (G : apG Γ cc nL own Ts rm X) {x : Int32} {off : Int} {tgt : Nat} (hd : decode cc pc = .ok (.ifCond .lt off, 3)) (ht : (pc : Int) + off = (tgt : Int)) (kt : x < 0 → apV Γ nL w cn sn tgt L st) (kf : ¬ x < 0 → apV Γ nL w cn sn (pc + 3) L st) : apV Γ nL w cn sn pc L (.int x :: st) := fun H locs ls hH hL => lv_if_lt G.1 G.2.1 hd ht (fun c9 => kt c9 H locs ls hH hL) (fun c9 => kf c9 H locs ls hH hL)
theorem v_icmp_lt (G : apG Γ cc nL own Ts rm X) {x y : Int32} {off : Int} {tgt : Nat} (hd : decode cc pc = .ok (.if_icmp .lt off, 3)) (ht : (pc : Int) + off = (tgt : Int)) (kt : x < y → apV Γ nL w cn sn tgt L st) (kf : ¬ x < y → apV Γ nL w cn sn (pc + 3) L st) : apV Γ nL w cn sn pc L (.int y :: .int x :: st) := fun H locs ls hH hL => lv_icmp_lt G.1 G.2.1 hd ht (fun c9 => kt c9 H locs ls hH hL) (fun c9 => kf c9 H locs ls hH hL)
theorem v_if_ge (G : apG Γ cc nL own Ts rm X) {x : Int32} {off : Int} {tgt : Nat} (hd : decode cc pc = .ok (.ifCond .ge off, 3)) (ht : (pc : Int) + off = (tgt : Int)) (kt : 0 ≤ x → apV Γ nL w cn sn tgt L st) (kf : ¬ 0 ≤ x → apV Γ nL w cn sn (pc + 3) L st) : apV Γ nL w cn sn pc L (.int x :: st) := fun H locs ls hH hL => lv_if_ge G.1 G.2.1 hd ht (fun c9 => kt c9 H locs ls hH hL) (fun c9 => kf c9 H locs ls hH hL)
theorem v_icmp_ge (G : apG Γ cc nL own Ts rm X) {x y : Int32} {off : Int} {tgt : Nat} (hd : decode cc pc = .ok (.if_icmp .ge off, 3)) (ht : (pc : Int) + off = (tgt : Int)) (kt : y ≤ x → apV Γ nL w cn sn tgt L st) (kf : ¬ y ≤ x → apV Γ nL w cn sn (pc + 3) L st) : apV Γ nL w cn sn pc L (.int y :: .int x :: st) := fun H locs ls hH hL => lv_icmp_ge G.1 G.2.1 hd ht (fun c9 => kt c9 H locs ls hH hL) (fun c9 => kf c9 H locs ls hH hL)
theorem v_if_gt (G : apG Γ cc nL own Ts rm X) {x : Int32} {off : Int} {tgt : Nat} (hd : decode cc pc = .ok (.ifCond .gt off, 3)) (ht : (pc : Int) + off = (tgt : Int)) (kt : 0 < x → apV Γ nL w cn sn tgt L st) (kf : ¬ 0 < x → apV Γ nL w cn sn (pc + 3) L st) : apV Γ nL w cn sn pc L (.int x :: st) := fun H locs ls hH hL => lv_if_gt G.1 G.2.1 hd ht (fun c9 => kt c9 H locs ls hH hL) (fun c9 => kf c9 H locs ls hH hL)
theorem v_icmp_gt (G : apG Γ cc nL own Ts rm X) {x y : Int32} {off : Int} {tgt : Nat} (hd : decode cc pc = .ok (.if_icmp .gt off, 3)) (ht : (pc : Int) + off = (tgt : Int)) (kt : y < x → apV Γ nL w cn sn tgt L st) (kf : ¬ y < x → apV Γ nL w cn sn (pc + 3) L st) : apV Γ nL w cn sn pc L (.int y :: .int x :: st) := fun H locs ls hH hL => lv_icmp_gt G.1 G.2.1 hd ht (fun c9 => kt c9 H locs ls hH hL) (fun c9 => kf c9 H locs ls hH hL)
theorem v_if_le (G : apG Γ cc nL own Ts rm X) {x : Int32} {off : Int} {tgt : Nat} (hd : decode cc pc = .ok (.ifCond .le off, 3)) (ht : (pc : Int) + off = (tgt : Int)) (kt : x ≤ 0 → apV Γ nL w cn sn tgt L st) (kf : ¬ x ≤ 0 → apV Γ nL w cn sn (pc + 3) L st) : apV Γ nL w cn sn pc L (.int x :: st) := fun H locs ls hH hL => lv_if_le G.1 G.2.1 hd ht (fun c9 => kt c9 H locs ls hH hL) (fun c9 => kf c9 H locs ls hH hL)
theorem v_icmp_le (G : apG Γ cc nL own Ts rm X) {x y : Int32} {off : Int} {tgt : Nat} (hd : decode cc pc = .ok (.if_icmp .le off, 3)) (ht : (pc : Int) + off = (tgt : Int)) (kt : x ≤ y → apV Γ nL w cn sn tgt L st) (kf : ¬ x ≤ y → apV Γ nL w cn sn (pc + 3) L st) : apV Γ nL w cn sn pc L (.int y :: .int x :: st) := fun H locs ls hH hL => lv_icmp_le G.1 G.2.1 hd ht (fun c9 => kt c9 H locs ls hH hL) (fun c9 => kf c9 H locs ls hH hL)
theorem v_tableOut (G : apG Γ cc nL own Ts rm X) {dflt lo hi : Int} {offs : Array Int} {len tgt : Nat} {x : Int32} (hd : decode cc pc = .ok (.tableswitch dflt lo hi offs, len)) (h : x.toInt < lo ∨ hi < x.toInt) (ht : (pc : Int) + dflt = (tgt : Int)) (kk : apV Γ nL w cn sn tgt L st) : apV Γ nL w cn sn pc L (.int x :: st) := fun H locs ls hH hL => lv_tableOut G.1 G.2.1 hd h ht (kk H locs ls hH hL)
theorem v_tableIn (G : apG Γ cc nL own Ts rm X) {dflt lo hi : Int} {offs : Array Int} {len tgt : Nat} {x : Int32} {off : Int} (hd : decode cc pc = .ok (.tableswitch dflt lo hi offs, len)) (h1 : ¬ x.toInt < lo) (h2 : ¬ hi < x.toInt) (ho : offs[(x.toInt - lo).toNat]? = some off) (ht : (pc : Int) + off = (tgt : Int)) (kk : apV Γ nL w cn sn tgt L st) : apV Γ nL w cn sn pc L (.int x :: st) := fun H locs ls hH hL => lv_tableIn G.1 G.2.1 hd h1 h2 ho ht (kk H locs ls hH hL)
theorem v_lookup (G : apG Γ cc nL own Ts rm X) {dflt : Int} {ps : Array (Int × Int)} {len tgt : Nat} {x : Int32} {off : Int} (hd : decode cc pc = .ok (.lookupswitch dflt ps, len)) (hp : (ps.toList.zip (ps.toList.drop 1)).all (fun (a, next) => a.1 < next.1) = true) (ho : Op.lookupswitch.offset ps.toList dflt x.toInt = off) (ht : (pc : Int) + off = (tgt : Int)) (kk : apV Γ nL w cn sn tgt L st) : apV Γ nL w cn sn pc L (.int x :: st) := fun H locs ls hH hL => lv_lookup G.1 G.2.1 hd hp ho ht (kk H locs ls hH hL)
theorem v_locs (ks : List Nat) (hl : lv_pick L ks = L') (kk : apV Γ nL w cn sn pc L' st) : apV Γ nL w cn sn pc L st := fun H locs ls hH hL => kk H locs ls hH (lv_sub hL ks hl)
theorem v_w {w' : va_W} (h : w = w') (kk : apV Γ nL w' cn sn pc L st) : apV Γ nL w cn sn pc L st := h ▸ kk
section FLD
variable {lay : List apK} {q : Nat → Nat} {σ : apM}
theorem v_getr (G : apG Γ cc nL own Ts rm X) {ref C : String} {T : u_T} {N ci index k k' : Nat} {fl : List (Option Nat)} (hin : ∀ w ∈ u_ws C T N, w ∈ Ts) (hk : lay[k]? = some (.inl (ci, fl))) (hc : vwCl[ci]? = some (C, T, N)) (j : Nat) (hj : j < N) (hlink : Cond.fieldLink own index ref (T j).2.1 (T j).2.2.1 ∈ Ts) (href : (T j).1 = ref) (hv : fl[j]? = some (some k')) (hd : decode cc pc = .ok (.getfield index, 3))
    (kk : apV Γ nL (apU lay q (apd Γ) σ) cn sn (pc + 3) L (.ref (q k') :: st)) : apV Γ nL (apU lay q (apd Γ) σ) cn sn pc L (.ref (q k) :: st) := fun H locs ls hH hL =>
  va_get G.1 G.2.1 G.2.2.2.2.1 hin G.2.2.2.1 G.2.2.2.2.2.1 hH.1 k (apU_get hk) hc j hj (G.2.2.2.2.1 _ hlink) (fun x h => by rw [← href]; exact h) (apF_get (q := q) (f := σ k) (b := 0) hv) hd (kk H locs ls hH hL)
theorem v_geti (G : apG Γ cc nL own Ts rm X) {ref C : String} {T : u_T} {N ci index k : Nat} {fl : List (Option Nat)} (hin : ∀ w ∈ u_ws C T N, w ∈ Ts) (hk : lay[k]? = some (.inl (ci, fl))) (hc : vwCl[ci]? = some (C, T, N)) (j : Nat) (hj : j < N) (hlink : Cond.fieldLink own index ref (T j).2.1 (T j).2.2.1 ∈ Ts) (href : (T j).1 = ref) (hv : fl[j]? = some none) (hd : decode cc pc = .ok (.getfield index, 3))
    (kk : apV Γ nL (apU lay q (apd Γ) σ) cn sn (pc + 3) L (.int (σ k j) :: st)) : apV Γ nL (apU lay q (apd Γ) σ) cn sn pc L (.ref (q k) :: st) := fun H locs ls hH hL => by
  have h9 := apF_get (q := q) (f := σ k) (b := 0) hv
  rw [Nat.zero_add] at h9
  exact va_get G.1 G.2.1 G.2.2.2.2.1 hin G.2.2.2.1 G.2.2.2.2.2.1 hH.1 k (apU_get hk) hc j hj (G.2.2.2.2.1 _ hlink) (fun x h => by rw [← href]; exact h) h9 hd (kk H locs ls hH hL)
theorem v_put (G : apG Γ cc nL own Ts rm X) {ref C : String} {T : u_T} {N ci index k : Nat} {fl : List (Option Nat)} (hin : ∀ w ∈ u_ws C T N, w ∈ Ts) (ty0 : Nat → FieldType) (hty : ∀ k, k < N → parseFieldDescriptor (T k).2.2.1 = some (ty0 k)) (hnm : ∀ a, a < N → ∀ b, b < N → a ≠ b → (T a).2.1 ≠ (T b).2.1) (hk : lay[k]? = some (.inl (ci, fl))) (hc : vwCl[ci]? = some (C, T, N)) (j : Nat) (hj : j < N) (hlink : Cond.fieldLink own index ref (T j).2.1 (T j).2.2.1 ∈ Ts) (href : (T j).1 = ref) (hfin : (T j).2.2.2 = false) {v : Int32} (hn : narrow (ty0 j) (.int v) = .int v) (hfit : fits (ty0 j) (.int v) = true) (hv : fl[j]? = some none) (hd : decode cc pc = .ok (.putfield index, 3))
    (kk : apV Γ nL (apU lay q (apd Γ) (mst σ k j v)) cn sn (pc + 3) L st) : apV Γ nL (apU lay q (apd Γ) σ) cn sn pc L (.int v :: .ref (q k) :: st) := fun H locs ls hH hL => by
  have hl : j < (apF q (σ k) 0 fl).length := (List.getElem?_eq_some_iff.mp (apF_get (q := q) (f := σ k) (b := 0) hv)).1
  have he := apF_set (q := q) (f := σ k) (b := 0) (v := v) hv
  rw [Nat.zero_add] at he
  have hs := apU_set (q := q) (d := apd Γ) (σ := σ) (σ' := mst σ k j v) hk (fun k' h => mst_k h)
  rw [mst_e] at hs
  refine va_put G.1 G.2.1 G.2.2.2.2.1 hin ty0 hty hnm G.2.2.2.1 G.2.2.2.2.2.1 hH.1 hH.2.1 hH.2.2 k (apU_get hk) hc j hj (G.2.2.2.2.1 _ hlink) (fun x h => by rw [← href]; exact h) hfin (hty j hj) hn hfit hl hd (fun H1 locs1 h1 h2 h3 => kk H1 locs1 ls ⟨?_, ?_, h3⟩ hL)
  · rw [he] at h1
    rw [← hs]
    exact h1
  · rw [he] at h2
    rw [← hs]
    exact h2
theorem apE_int {q : Nat → Nat} {d : Nat → ClassId} {f : Nat → Int32} {t n : Nat} (ht : t < 3) : apE q d f (.inr (.inl (t, n))) = .inl (d t, (n, .inl f)) := by
  show (if t = 3 then _ else _) = _
  rw [if_neg (by omega)]
theorem v_iald (G : apG Γ cc nL own Ts rm X) {k n : Nat} {i v : Int32} (hk : lay[k]? = some (.inr (.inl (0, n)))) (hv : ald σ k n i = some v) (hd : decode cc pc = .ok (.iaload, 1))
    (kk : apV Γ nL (apU lay q (apd Γ) σ) cn sn (pc + 1) L (.int v :: st)) : apV Γ nL (apU lay q (apd Γ) σ) cn sn pc L (.int i :: .ref (q k) :: st) := fun H locs ls hH hL => by
  obtain ⟨h1, h2⟩ := ald_some hv
  subst h2
  have hg := apU_get (q := q) (d := apd Γ) (σ := σ) hk
  rw [apE_int (by omega)] at hg
  exact va_iald G.1 G.2.1 G.2.2.2.2.2.1 hH.1 k 0 hg rfl h1 hd (kk H locs ls hH hL)
theorem v_zald (G : apG Γ cc nL own Ts rm X) {k n : Nat} {i v : Int32} (hk : lay[k]? = some (.inr (.inl (1, n)))) (hv : ald σ k n i = some v) (hd : decode cc pc = .ok (.baload, 1))
    (kk : apV Γ nL (apU lay q (apd Γ) σ) cn sn (pc + 1) L (.int v :: st)) : apV Γ nL (apU lay q (apd Γ) σ) cn sn pc L (.int i :: .ref (q k) :: st) := fun H locs ls hH hL => by
  obtain ⟨h1, h2⟩ := ald_some hv
  subst h2
  have hg := apU_get (q := q) (d := apd Γ) (σ := σ) hk
  rw [apE_int (by omega)] at hg
  exact va_zald G.1 G.2.1 G.2.2.2.2.2.1 hH.1 k 1 hg rfl h1 hd (kk H locs ls hH hL)
theorem v_iast (G : apG Γ cc nL own Ts rm X) {k n : Nat} {i v : Int32} {σ' : apM} (hk : lay[k]? = some (.inr (.inl (0, n)))) (hv : ast σ k n i v = some σ') (hd : decode cc pc = .ok (.iastore, 1))
    (kk : apV Γ nL (apU lay q (apd Γ) σ') cn sn (pc + 1) L st) : apV Γ nL (apU lay q (apd Γ) σ) cn sn pc L (.int v :: .int i :: .ref (q k) :: st) := fun H locs ls hH hL => by
  obtain ⟨h1, h2⟩ := ast_some hv
  subst h2
  have hg := apU_get (q := q) (d := apd Γ) (σ := σ) hk
  rw [apE_int (by omega)] at hg
  have hs := apU_set (q := q) (d := apd Γ) (σ := σ) (σ' := mst σ k i.toNatClampNeg v) hk (fun k' h => mst_k h)
  rw [apE_int (by omega), mst_e] at hs
  refine va_iast G.1 G.2.1 G.2.2.2.2.2.1 hH.1 hH.2.1 hH.2.2 k 0 hg rfl h1 hd (fun H1 locs1 h1 h2 h3 => kk H1 locs1 ls ⟨?_, ?_, h3⟩ hL)
  · rw [← hs]; exact h1
  · rw [← hs]; exact h2
theorem v_zast (G : apG Γ cc nL own Ts rm X) {k n : Nat} {i v : Int32} {σ' : apM} (hk : lay[k]? = some (.inr (.inl (1, n)))) (hv : ast σ k n i (vp_nar .boolean v) = some σ') (hd : decode cc pc = .ok (.bastore, 1))
    (kk : apV Γ nL (apU lay q (apd Γ) σ') cn sn (pc + 1) L st) : apV Γ nL (apU lay q (apd Γ) σ) cn sn pc L (.int v :: .int i :: .ref (q k) :: st) := fun H locs ls hH hL => by
  obtain ⟨h1, h2⟩ := ast_some hv
  subst h2
  have hg := apU_get (q := q) (d := apd Γ) (σ := σ) hk
  rw [apE_int (by omega)] at hg
  have hs := apU_set (q := q) (d := apd Γ) (σ := σ) (σ' := mst σ k i.toNatClampNeg (vp_nar .boolean v)) hk (fun k' h => mst_k h)
  rw [apE_int (by omega), mst_e] at hs
  refine va_zast G.1 G.2.1 G.2.2.2.2.2.1 hH.1 hH.2.1 hH.2.2 k 1 hg rfl h1 hd (fun H1 locs1 h1 h2 h3 => kk H1 locs1 ls ⟨?_, ?_, h3⟩ hL)
  · rw [← hs]; exact h1
  · rw [← hs]; exact h2
theorem v_aald (G : apG Γ cc nL own Ts rm X) {k n b j : Nat} {i : Int32} (hk : lay[k]? = some (.inr (.inr (2, n, b)))) (hv : rix n i = some j) (hd : decode cc pc = .ok (.aaload, 1))
    (kk : apV Γ nL (apU lay q (apd Γ) σ) cn sn (pc + 1) L (.ref (q (b + j)) :: st)) : apV Γ nL (apU lay q (apd Γ) σ) cn sn pc L (.int i :: .ref (q k) :: st) := fun H locs ls hH hL => by
  obtain ⟨h1, h2, h3⟩ := rix_some hv
  subst h2
  have hg : (apU lay q (apd Γ) σ)[k]? = some (q k, .inl (apd Γ 2, (n, .inr (.inr (.inr (.inr (fun i => some (q (b + i)))))))))  := apU_get (q := q) (d := apd Γ) (σ := σ) hk
  exact W.aald (v := .ref (q (b + i.toNatClampNeg))) (ty := .array .int) G.1 G.2.1 (hH.1 k _ hg) ((G.2.2.2.2.2.1.2 2 (apd Γ 2, .array .int) rfl).1 n (fun j => va_rf (some (q (b + j))))) rfl (fun q => by cases q) (by show ¬ (i < 0 ∨ (arrV _ _ _).slots.size ≤ _); rw [arrV_size]; exact h1) (by show (arrV _ _ _).slots[_]? = _; rw [arrV_read _ _ h3]; rfl) rfl rfl hd (kk H locs ls hH hL)
theorem v_alen (G : apG Γ cc nL own Ts rm X) {k n t : Nat} {v : Int32} (ht : t < 3) (hk : lay[k]? = some (.inr (.inl (t, n)))) (hv : Int32.ofNat n = v) (hd : decode cc pc = .ok (.arraylength, 1))
    (kk : apV Γ nL (apU lay q (apd Γ) σ) cn sn (pc + 1) L (.int v :: st)) : apV Γ nL (apU lay q (apd Γ) σ) cn sn pc L (.ref (q k) :: st) := fun H locs ls hH hL => by
  have hg := apU_get (q := q) (d := apd Γ) (σ := σ) hk
  rw [apE_int ht] at hg
  have hty : ∃ ty, (apT (apd Γ))[t]? = some (apd Γ t, ty) := by
    rcases (show t = 0 ∨ t = 1 ∨ t = 2 by omega) with rfl | rfl | rfl
    · exact ⟨_, rfl⟩
    · exact ⟨_, rfl⟩
    · exact ⟨_, rfl⟩
  obtain ⟨ty, hty⟩ := hty
  exact va_alen G.1 G.2.1 G.2.2.2.2.2.1 hH.1 k t hg hty hv hd (kk H locs ls hH hL)
end FLD
theorem v_iret (G : apG Γ cc nL own Ts rm X) {v : Int32} {mc ms : Nat} (hr : apR Γ cc mc ms (some v) w) (hc : cn ≤ mc) (hs : sn ≤ ms) (hd : decode cc pc = .ok (.ireturn, 1)) : apV Γ nL w cn sn pc L [.int v] := fun H locs ls hH _ => W.widen hc hs (hr pc H locs ls hH hd)
theorem v_vret (G : apG Γ cc nL own Ts rm X) {mc ms : Nat} (hr : apR Γ cc mc ms none w) (hc : cn ≤ mc) (hs : sn ≤ ms) (hd : decode cc pc = .ok (.return_, 1)) : apV Γ nL w cn sn pc L [] := fun H locs ls hH _ => W.widen hc hs (hr pc H locs ls hH hd)
/-- a loop -/
theorem v_lp {S E : Type} {b : S → Option (S ⊕ E)} {I : S → Prop} {O : E → Prop} (hb : ∀ s r, b s = some r → (match r with | .inl s' => I s' | .inr e => O e) → I s) : ∀ (n : Nat) (s : S) (e : E), lp n b s = some e → O e → I s := by
  intro n
  induction n with
  | zero => intro s e h; cases h
  | succ n ih =>
    intro s e h ho
    unfold lp at h
    split at h
    · cases h
    · next s' hs => exact hb s _ hs (ih s' e h ho)
    · next e' hs =>
      cases h
      exact hb s _ hs ho
end APR
end
section
/-! ===== contracts of methods over a layout's cells, and their calls ===== -/
def apRm (k n : Nat) : Room := { frames := k, cells := n, slots := 6 * n, locals := 64 * k }
/-- what else is known of the start stays known in a callee -/
def apXok (X : (Nat → Prop) → State → Prop) : Prop :=
  (∀ (A : Nat → Prop) (U : State) (g : JFrame) (mk : MethodId) (a : Array Value), X A U → X A (U.calling g mk a)) ∧
  ∀ (A A1 : Nat → Prop) (s U : State), X A s → s.WarmedH U.vm → (∀ q : Nat, q < s.heap.size → ¬ A q → U.heap[q]? = s.heap[q]?) → (∀ q : Nat, A1 q → A q) → X A1 U
def apPc (lay : List apK) (X : (Nat → Prop) → State → Prop) (D : va_G) (d : Nat → ClassId) (q : Nat → Nat) (sz : Nat) (σ : apM) (av : List Value) : Array Value → State → Prop :=
  va_Pc av (fun U => U.heap.size = sz ∧ va_P D vwCl (apU lay q d σ) U.heap ∧ va_K D vwCl (apT d) U ∧ va_D (fun _ => True) (apU lay q d σ) ∧ X (va_A (apU lay q d σ) sz) U)
def apB (lay : List apK) (D : va_G) (d : Nat → ClassId) (q : Nat → Nat) (sz : Nat) (σ σ' : apM) : State → Prop := fun t => va_P D vwCl (apU lay q d σ') t.heap ∧ va_D (va_A (apU lay q d σ) sz) (apU lay q d σ')
/-- called with av over σ the method answers r, over σ' -/
def apMi (l : Launch) (lay : List apK) (X : (Nat → Prop) → State → Prop) (y : MethodName) (ws : List Cond) (k : Nat) (av : (Nat → Nat) → List Value) (σ : apM) (r : Int32) (σ' : apM) : Prop :=
  ∀ (D : va_G) (d : Nat → ClassId) (q : Nat → Nat) (sz : Nat), Met l y ws (apRm k 0) (apPc lay X D d q sz σ (av q)) (va_Qi (fun r' (_ : Unit) => r' = r) (fun _ => apB lay D d q sz σ σ') (va_A (apU lay q d σ) sz)) 0 0 (va_A (apU lay q d σ) sz)
def apMv (l : Launch) (lay : List apK) (X : (Nat → Prop) → State → Prop) (y : MethodName) (ws : List Cond) (k : Nat) (av : (Nat → Nat) → List Value) (σ σ' : apM) : Prop :=
  ∀ (D : va_G) (d : Nat → ClassId) (q : Nat → Nat) (sz : Nat), Met l y ws (apRm k 0) (apPc lay X D d q sz σ (av q)) (va_Qv (fun (_ : Unit) => True) (fun _ => apB lay D d q sz σ σ') (va_A (apU lay q d σ) sz)) 0 0 (va_A (apU lay q d σ) sz)
theorem apPc_blind {lay : List apK} {X : (Nat → Prop) → State → Prop} (hX : apXok X) {D : va_G} {d : Nat → ClassId} {q : Nat → Nat} {sz : Nat} {σ : apM} {av : List Value} : FrameBlind (apPc lay X D d q sz σ av) := fun a U g mk h => by
  obtain ⟨h1, h2, h3, h4, h5, h6⟩ := h
  exact ⟨h1, h2, h3, va_K.moved (u := U) (U := U.calling g mk a) (Vm.Alike.refl U.vm) h4, h5, hX.1 _ _ _ _ _ h6⟩
theorem apMi_of {l : Launch} {lay : List apK} {X : (Nat → Prop) → State → Prop} {y : MethodName} {ws ws' : List Cond} {k : Nat} {av : (Nat → Nat) → List Value} {σ σ' : apM} {cc : ByteArray} {nL : Nat} {ty : FieldType} {r : Int32} (hy : plainName y.cls = true) (hw : ws = Cond.code y cc nL (some ty) :: ws') (hnar : narrow ty (.int r) = .int r) (hlen : ∀ q, (lg_sl (av q)).length ≤ nL)
    (body : ∀ (Γ : apC) (q : Nat → Nat), Γ.1.2.1 = l → apG Γ cc nL y.cls ws (apRm k 0) X → apR Γ cc 0 0 (some r) (apU lay q (apd Γ) σ') → apV Γ nL (apU lay q (apd Γ) σ) 0 0 0 (lv_args 0 (av q)) []) : apMi l lay X y ws k av σ r σ' := by
  intro D d q sz
  refine Met.ofW (cc := cc) (maxL := nL) (ret := some ty) hy hw ?_
  intro p e s m args below meth c s₁ B hml hv
  obtain ⟨rfl, hsz, hP, hK, hD0, hXs⟩ := hv
  subst hsz
  have hD := hD0.self (sz := s.heap.size)
  have hts := atoms_spec (ws := ws) B.pre
  have hb := body ((p, l, e, apRm k 0, s), ((m, (av q).toArray, below, meth, c), (MQ below (va_Qi (fun r' (_ : Unit) => r' = r) (fun _ => apB lay D d q s.heap.size σ σ') (va_A (apU lay q d σ) s.heap.size)) (av q).toArray s 0 0 (va_A (apU lay q d σ) s.heap.size), D, d, va_A (apU lay q d σ) s.heap.size))) q rfl
    ⟨B.exec, B.bytes, hml, findClass_of_methodNamed B.named, hts, hK, rfl, fun q h => Or.inr h, hXs, B.notSynchronized⟩
    (fun pc H locs ls hH hd => by exact W.zret B.exec B.bytes B.returns hnar (fun t ht hW => ⟨⟨r, (), rfl, rfl, by rw [ht]; exact hH.1, hH.2.1⟩, hH.2.2.F ht⟩) hH.2.2.2.2 hd B.notSynchronized)
  rw [lg_entry_eq]
  exact hb s.heap [] _ ⟨hP, hD, va_S.rf⟩ (lv_entry (av q) (n := nL) (hlen q))
theorem apMv_of {l : Launch} {lay : List apK} {X : (Nat → Prop) → State → Prop} {y : MethodName} {ws ws' : List Cond} {k : Nat} {av : (Nat → Nat) → List Value} {σ σ' : apM} {cc : ByteArray} {nL : Nat} (hy : plainName y.cls = true) (hw : ws = Cond.code y cc nL none :: ws') (hlen : ∀ q, (lg_sl (av q)).length ≤ nL)
    (body : ∀ (Γ : apC) (q : Nat → Nat), Γ.1.2.1 = l → apG Γ cc nL y.cls ws (apRm k 0) X → apR Γ cc 0 0 none (apU lay q (apd Γ) σ') → apV Γ nL (apU lay q (apd Γ) σ) 0 0 0 (lv_args 0 (av q)) []) : apMv l lay X y ws k av σ σ' := by
  intro D d q sz
  refine Met.ofW (cc := cc) (maxL := nL) (ret := none) hy hw ?_
  intro p e s m args below meth c s₁ B hml hv
  obtain ⟨rfl, hsz, hP, hK, hD0, hXs⟩ := hv
  subst hsz
  have hD := hD0.self (sz := s.heap.size)
  have hts := atoms_spec (ws := ws) B.pre
  have hb := body ((p, l, e, apRm k 0, s), ((m, (av q).toArray, below, meth, c), (MQ below (va_Qv (fun (_ : Unit) => True) (fun _ => apB lay D d q s.heap.size σ σ') (va_A (apU lay q d σ) s.heap.size)) (av q).toArray s 0 0 (va_A (apU lay q d σ) s.heap.size), D, d, va_A (apU lay q d σ) s.heap.size))) q rfl
    ⟨B.exec, B.bytes, hml, findClass_of_methodNamed B.named, hts, hK, rfl, fun q h => Or.inr h, hXs, B.notSynchronized⟩
    (fun pc H locs ls hH hd => by exact W.vret B.exec B.bytes B.returns (fun t ht hW => ⟨⟨(), rfl, trivial, by rw [ht]; exact hH.1, hH.2.1⟩, hH.2.2.F ht⟩) hH.2.2.2.2 hd B.notSynchronized)
  rw [lg_entry_eq]
  exact hb s.heap [] _ ⟨hP, hD, va_S.rf⟩ (lv_entry (av q) (n := nL) (hlen q))
section APC
variable {Γ : apC} {cc : ByteArray} {nL : Nat} {own : String} {Ts : List Cond} {rm : Room} {X : (Nat → Prop) → State → Prop} {cn sn pc : Nat} {L : List (Nat × Value)} {st stk As : List Value}
variable {lay : List apK} {q : Nat → Nat} {σ σ' : apM} {y : MethodName} {ws ws' : List Cond} {k : Nat} {av : (Nat → Nat) → List Value} {r : Int32} {bytes : ByteArray} {maxL index n k0 ci N : Nat} {C host : String} {T : u_T} {fl : List (Option Nat)} {ret : Option FieldType}
theorem ap_free (G : apG Γ cc nL own Ts rm X) {w : va_W} {H : Heap} {locs : List Loc} (hH : apH Γ w H locs) : ∀ q, va_A w H.size q → apA Γ q := by
  intro q h
  rcases h with ⟨k, e, h⟩ | h
  · exact hH.2.1.2 k (q, e) h
  · exact G.2.2.2.2.2.2.2.1 q (Nat.le_trans hH.2.2.1 h)
theorem ap_pre (G : apG Γ cc nL own Ts rm X) (hX : apXok X) {H : Heap} {locs : List Loc} (hH : apH Γ (apU lay q (apd Γ) σ) H locs) : ∀ U : State, U.heap = H → (apS Γ).WarmedH U.vm → apPc lay X (apD Γ) (apd Γ) q H.size σ (av q) (av q).toArray U := by
  intro U hU hW
  exact ⟨rfl, by rw [hU], by rw [hU]; exact hH.1, va_K.moved hW.alike G.2.2.2.2.2.1, hH.2.1.weaken (fun _ _ _ _ => trivial), hX.2 _ _ _ _ G.2.2.2.2.2.2.2.2.1 hW (fun q h1 h2 => by rw [hU]; exact hH.2.2.2.1 q h1 h2) (ap_free G hH)⟩
theorem v_calliV (G : apG Γ cc nL own Ts rm X) (hX : apXok X) (hM : apMi Γ.1.2.1 lay X y ws k av σ r σ') (hG : GoodIn Ts (wsV own index C y ws)) (hw : ws = Cond.code y bytes maxL ret :: ws') (hd0 : y.cls = C ∧ y.cls ≠ "java/lang/invoke/MethodHandle" ∧ y.cls ≠ "java/lang/invoke/VarHandle" ∧ (parseMethodDescriptor y.desc).map (fun d => d.parameters.length) = some n) (hR : k + 1 ≤ rm.frames ∧ 8 + (maxL + 11) + 64 * k ≤ rm.locals) (hk0 : lay[k0]? = some (.inl (ci, fl))) (hc : vwCl[ci]? = some (C, T, N)) (hav : av q = .ref (q k0) :: As) (hn : As.length = n) (hst : (st.map fun v => v.category).sum ≤ 8) (hcs : cn ≤ rm.cells ∧ sn ≤ rm.slots) (hstk : stk = As.reverse ++ .ref (q k0) :: st) (hd : decode cc pc = .ok (.invokevirtual index, 3))
    (kk : apV Γ nL (apU lay q (apd Γ) σ') cn sn (pc + 3) L (.int r :: st)) : apV Γ nL (apU lay q (apd Γ) σ) cn sn pc L stk := fun H locs ls hH hL => by
  subst hstk
  refine va_calli (va_runV (As := As) (rest := st) ⟨G.1, G.2.1, G.2.2.1, G.2.2.2.1, G.2.2.2.2.1⟩ (hM (apD Γ) (apd Γ) q H.size) (cwV n G.2.2.2.2.1 hG hw rfl rfl hd0 ⟨by rw [G.2.2.2.2.2.2.1]; exact hR.1, by rw [G.2.2.2.2.2.2.1]; exact hR.2⟩) ⟨apPc_blind hX, va_recv G.2.2.2.2.2.1 hH.1 hc (apU_get hk0), fun U hU hW => by rw [← hav]; exact ap_pre G hX hH U hU hW⟩ rfl hn hL.1 rfl (lv_room hst) hd ⟨by rw [G.2.2.2.2.2.2.1]; exact hcs.1, by rw [G.2.2.2.2.2.2.1]; exact hcs.2⟩) hH.2.2 (fun q _ h => ap_free G hH q h) (ap_free G hH) (fun r1 u t H1 locs1 ht hvm hw1 hB hz1 hk1 hS => ?_)
  subst hw1
  exact kk H1 locs1 ls ⟨by rw [← ht]; exact hB.1, hB.2.weaken (fun _ q _ h => ap_free G hH _ h), hS⟩ hL
theorem v_calliS (G : apG Γ cc nL own Ts rm X) (hX : apXok X) (hM : apMi Γ.1.2.1 lay X y ws k av σ r σ') (hG : GoodIn Ts (va_wsS own index y ws)) (hw : ws = Cond.code y bytes maxL ret :: ws') (hd0 : y.cls ≠ "java/lang/invoke/MethodHandle" ∧ y.cls ≠ "java/lang/invoke/VarHandle" ∧ (parseMethodDescriptor y.desc).map (fun d => d.parameters.length) = some n) (hR : k + 1 ≤ rm.frames ∧ 8 + (maxL + 11) + 64 * k ≤ rm.locals) (hav : av q = As) (hn : As.length = n) (hst : (st.map fun v => v.category).sum ≤ 8) (hcs : cn ≤ rm.cells ∧ sn ≤ rm.slots) (hstk : stk = As.reverse ++ st) (hd : decode cc pc = .ok (.invokestatic index, 3))
    (kk : apV Γ nL (apU lay q (apd Γ) σ') cn sn (pc + 3) L (.int r :: st)) : apV Γ nL (apU lay q (apd Γ) σ) cn sn pc L stk := fun H locs ls hH hL => by
  subst hstk
  refine va_calli (va_runS (As := As) (rest := st) ⟨G.1, G.2.1, G.2.2.1, G.2.2.2.1, G.2.2.2.2.1⟩ (hM (apD Γ) (apd Γ) q H.size) (va_cwS n G.2.2.2.2.1 hG hw rfl rfl hd0 ⟨by rw [G.2.2.2.2.2.2.1]; exact hR.1, by rw [G.2.2.2.2.2.2.1]; exact hR.2⟩) ⟨apPc_blind hX, fun U hU hW => by rw [← hav]; exact ap_pre G hX hH U hU hW⟩ rfl hn hL.1 rfl (lv_room hst) hd ⟨by rw [G.2.2.2.2.2.2.1]; exact hcs.1, by rw [G.2.2.2.2.2.2.1]; exact hcs.2⟩) hH.2.2 (fun q _ h => ap_free G hH q h) (ap_free G hH) (fun r1 u t H1 locs1 ht hvm hw1 hB hz1 hk1 hS => ?_)
  subst hw1
  exact kk H1 locs1 ls ⟨by rw [← ht]; exact hB.1, hB.2.weaken (fun _ q _ h => ap_free G hH _ h), hS⟩ hL
theorem v_calliN (G : apG Γ cc nL own Ts rm X) (hX : apXok X) (hM : apMi Γ.1.2.1 lay X y ws k av σ r σ') (hG : GoodIn Ts ws) (hw : ws = Cond.code y bytes maxL ret :: ws') (hl : va_Nw (.methodLinkNest own index y host) (apS Γ)) (hini : Cond.initialized y.cls ∈ Ts) (hsta : Cond.static y ∈ Ts) (hd0 : y.cls ≠ "java/lang/invoke/MethodHandle" ∧ y.cls ≠ "java/lang/invoke/VarHandle" ∧ (parseMethodDescriptor y.desc).map (fun d => d.parameters.length) = some n) (hR : k + 1 ≤ rm.frames ∧ 8 + (maxL + 11) + 64 * k ≤ rm.locals) (hav : av q = As) (hn : As.length = n) (hst : (st.map fun v => v.category).sum ≤ 8) (hcs : cn ≤ rm.cells ∧ sn ≤ rm.slots) (hstk : stk = As.reverse ++ st) (hd : decode cc pc = .ok (.invokestatic index, 3))
    (kk : apV Γ nL (apU lay q (apd Γ) σ') cn sn (pc + 3) L (.int r :: st)) : apV Γ nL (apU lay q (apd Γ) σ) cn sn pc L stk := fun H locs ls hH hL => by
  subst hstk
  refine va_calli (va_runSN (As := As) (rest := st) ⟨G.1, G.2.1, G.2.2.1, G.2.2.2.1, G.2.2.2.2.1⟩ (hM (apD Γ) (apd Γ) q H.size) ⟨va_cnB n G.2.2.2.2.1 hG hw rfl rfl hl (G.2.2.2.2.1 _ hini) hd0 ⟨by rw [G.2.2.2.2.2.2.1]; exact hR.1, by rw [G.2.2.2.2.2.2.1]; exact hR.2⟩, G.2.2.2.2.1 _ hsta, trivial⟩ ⟨apPc_blind hX, fun U hU hW => by rw [← hav]; exact ap_pre G hX hH U hU hW⟩ rfl hn hL.1 rfl (lv_room hst) hd ⟨by rw [G.2.2.2.2.2.2.1]; exact hcs.1, by rw [G.2.2.2.2.2.2.1]; exact hcs.2⟩) hH.2.2 (fun q _ h => ap_free G hH q h) (ap_free G hH) (fun r1 u t H1 locs1 ht hvm hw1 hB hz1 hk1 hS => ?_)
  subst hw1
  exact kk H1 locs1 ls ⟨by rw [← ht]; exact hB.1, hB.2.weaken (fun _ q _ h => ap_free G hH _ h), hS⟩ hL
theorem v_callvV (G : apG Γ cc nL own Ts rm X) (hX : apXok X) (hM : apMv Γ.1.2.1 lay X y ws k av σ σ') (hG : GoodIn Ts (wsV own index C y ws)) (hw : ws = Cond.code y bytes maxL ret :: ws') (hd0 : y.cls = C ∧ y.cls ≠ "java/lang/invoke/MethodHandle" ∧ y.cls ≠ "java/lang/invoke/VarHandle" ∧ (parseMethodDescriptor y.desc).map (fun d => d.parameters.length) = some n) (hR : k + 1 ≤ rm.frames ∧ 8 + (maxL + 11) + 64 * k ≤ rm.locals) (hk0 : lay[k0]? = some (.inl (ci, fl))) (hc : vwCl[ci]? = some (C, T, N)) (hav : av q = .ref (q k0) :: As) (hn : As.length = n) (hst : (st.map fun v => v.category).sum ≤ 8) (hcs : cn ≤ rm.cells ∧ sn ≤ rm.slots) (hstk : stk = As.reverse ++ .ref (q k0) :: st) (hd : decode cc pc = .ok (.invokevirtual index, 3))
    (kk : apV Γ nL (apU lay q (apd Γ) σ') cn sn (pc + 3) L st) : apV Γ nL (apU lay q (apd Γ) σ) cn sn pc L stk := fun H locs ls hH hL => by
  subst hstk
  refine va_callv (va_runV (As := As) (rest := st) ⟨G.1, G.2.1, G.2.2.1, G.2.2.2.1, G.2.2.2.2.1⟩ (hM (apD Γ) (apd Γ) q H.size) (cwV n G.2.2.2.2.1 hG hw rfl rfl hd0 ⟨by rw [G.2.2.2.2.2.2.1]; exact hR.1, by rw [G.2.2.2.2.2.2.1]; exact hR.2⟩) ⟨apPc_blind hX, va_recv G.2.2.2.2.2.1 hH.1 hc (apU_get hk0), fun U hU hW => by rw [← hav]; exact ap_pre G hX hH U hU hW⟩ rfl hn hL.1 rfl (lv_room hst) hd ⟨by rw [G.2.2.2.2.2.2.1]; exact hcs.1, by rw [G.2.2.2.2.2.2.1]; exact hcs.2⟩) hH.2.2 (fun q _ h => ap_free G hH q h) (ap_free G hH) (fun u t H1 locs1 ht hvm hw1 hB hz1 hk1 hS => ?_)
  exact kk H1 locs1 ls ⟨by rw [← ht]; exact hB.1, hB.2.weaken (fun _ q _ h => ap_free G hH _ h), hS⟩ hL
theorem v_callvS (G : apG Γ cc nL own Ts rm X) (hX : apXok X) (hM : apMv Γ.1.2.1 lay X y ws k av σ σ') (hG : GoodIn Ts (va_wsS own index y ws)) (hw : ws = Cond.code y bytes maxL ret :: ws') (hd0 : y.cls ≠ "java/lang/invoke/MethodHandle" ∧ y.cls ≠ "java/lang/invoke/VarHandle" ∧ (parseMethodDescriptor y.desc).map (fun d => d.parameters.length) = some n) (hR : k + 1 ≤ rm.frames ∧ 8 + (maxL + 11) + 64 * k ≤ rm.locals) (hav : av q = As) (hn : As.length = n) (hst : (st.map fun v => v.category).sum ≤ 8) (hcs : cn ≤ rm.cells ∧ sn ≤ rm.slots) (hstk : stk = As.reverse ++ st) (hd : decode cc pc = .ok (.invokestatic index, 3))
    (kk : apV Γ nL (apU lay q (apd Γ) σ') cn sn (pc + 3) L st) : apV Γ nL (apU lay q (apd Γ) σ) cn sn pc L stk := fun H locs ls hH hL => by
  subst hstk
  refine va_callv (va_runS (As := As) (rest := st) ⟨G.1, G.2.1, G.2.2.1, G.2.2.2.1, G.2.2.2.2.1⟩ (hM (apD Γ) (apd Γ) q H.size) (va_cwS n G.2.2.2.2.1 hG hw rfl rfl hd0 ⟨by rw [G.2.2.2.2.2.2.1]; exact hR.1, by rw [G.2.2.2.2.2.2.1]; exact hR.2⟩) ⟨apPc_blind hX, fun U hU hW => by rw [← hav]; exact ap_pre G hX hH U hU hW⟩ rfl hn hL.1 rfl (lv_room hst) hd ⟨by rw [G.2.2.2.2.2.2.1]; exact hcs.1, by rw [G.2.2.2.2.2.2.1]; exact hcs.2⟩) hH.2.2 (fun q _ h => ap_free G hH q h) (ap_free G hH) (fun u t H1 locs1 ht hvm hw1 hB hz1 hk1 hS => ?_)
  exact kk H1 locs1 ls ⟨by rw [← ht]; exact hB.1, hB.2.weaken (fun _ q _ h => ap_free G hH _ h), hS⟩ hL
theorem v_callvN (G : apG Γ cc nL own Ts rm X) (hX : apXok X) (hM : apMv Γ.1.2.1 lay X y ws k av σ σ') (hG : GoodIn Ts ws) (hw : ws = Cond.code y bytes maxL ret :: ws') (hl : va_Nw (.methodLinkNest own index y host) (apS Γ)) (hini : Cond.initialized y.cls ∈ Ts) (hsta : Cond.static y ∈ Ts) (hd0 : y.cls ≠ "java/lang/invoke/MethodHandle" ∧ y.cls ≠ "java/lang/invoke/VarHandle" ∧ (parseMethodDescriptor y.desc).map (fun d => d.parameters.length) = some n) (hR : k + 1 ≤ rm.frames ∧ 8 + (maxL + 11) + 64 * k ≤ rm.locals) (hav : av q = As) (hn : As.length = n) (hst : (st.map fun v => v.category).sum ≤ 8) (hcs : cn ≤ rm.cells ∧ sn ≤ rm.slots) (hstk : stk = As.reverse ++ st) (hd : decode cc pc = .ok (.invokestatic index, 3))
    (kk : apV Γ nL (apU lay q (apd Γ) σ') cn sn (pc + 3) L st) : apV Γ nL (apU lay q (apd Γ) σ) cn sn pc L stk := fun H locs ls hH hL => by
  subst hstk
  refine va_callv (va_runSN (As := As) (rest := st) ⟨G.1, G.2.1, G.2.2.1, G.2.2.2.1, G.2.2.2.2.1⟩ (hM (apD Γ) (apd Γ) q H.size) ⟨va_cnB n G.2.2.2.2.1 hG hw rfl rfl hl (G.2.2.2.2.1 _ hini) hd0 ⟨by rw [G.2.2.2.2.2.2.1]; exact hR.1, by rw [G.2.2.2.2.2.2.1]; exact hR.2⟩, G.2.2.2.2.1 _ hsta, trivial⟩ ⟨apPc_blind hX, fun U hU hW => by rw [← hav]; exact ap_pre G hX hH U hU hW⟩ rfl hn hL.1 rfl (lv_room hst) hd ⟨by rw [G.2.2.2.2.2.2.1]; exact hcs.1, by rw [G.2.2.2.2.2.2.1]; exact hcs.2⟩) hH.2.2 (fun q _ h => ap_free G hH q h) (ap_free G hH) (fun u t H1 locs1 ht hvm hw1 hB hz1 hk1 hS => ?_)
  exact kk H1 locs1 ls ⟨by rw [← ht]; exact hB.1, hB.2.weaken (fun _ q _ h => ap_free G hH _ h), hS⟩ hL
theorem v_mmax (G : apG Γ cc nL own Ts rm X) {w : va_W} {x y : Int32} (hl : Cond.methodLink own index Lib.Math.max.name ∈ Ts) (h2 : Cond.static Lib.Math.max.name ∈ Ts) (h3 : Cond.initialized "java/lang/Math" ∈ Ts) (h4 : Cond.code Lib.Math.max.name Lib.Math.max.code 2 (some .int) ∈ Ts) (hR : 1 ≤ rm.frames ∧ 21 ≤ rm.locals) (hst : (st.map fun v => v.category).sum ≤ 8) (hcs : cn ≤ rm.cells ∧ sn ≤ rm.slots) (hd : decode cc pc = .ok (.invokestatic index, 3))
    (kk : apV Γ nL w cn sn (pc + 3) L (.int (if x < y then y else x) :: st)) : apV Γ nL w cn sn pc L (.int y :: .int x :: st) := fun H locs ls hH hL => by
  have T1 := G.2.2.2.2.1
  have hr := G.2.2.2.2.2.2.1
  exact va_mmax G.1 G.2.1 (G.2.2.1.trans hL.1.symm) G.2.2.2.1 (T1 _ hl) (T1 _ h2) (T1 _ h3) (T1 _ h4) (by rw [hr]; exact hR.1) (by rw [hr]; have := hR.2; omega) (by rw [hr]; exact hcs.1) (by rw [hr]; exact hcs.2) hd (kk H locs ls hH hL)
theorem v_mmin (G : apG Γ cc nL own Ts rm X) {w : va_W} {x y : Int32} (hl : Cond.methodLink own index Lib.Math.min.name ∈ Ts) (h2 : Cond.static Lib.Math.min.name ∈ Ts) (h3 : Cond.initialized "java/lang/Math" ∈ Ts) (h4 : Cond.code Lib.Math.min.name Lib.Math.min.code 2 (some .int) ∈ Ts) (hR : 1 ≤ rm.frames ∧ 21 ≤ rm.locals) (hst : (st.map fun v => v.category).sum ≤ 8) (hcs : cn ≤ rm.cells ∧ sn ≤ rm.slots) (hd : decode cc pc = .ok (.invokestatic index, 3))
    (kk : apV Γ nL w cn sn (pc + 3) L (.int (if y < x then y else x) :: st)) : apV Γ nL w cn sn pc L (.int y :: .int x :: st) := fun H locs ls hH hL => by
  have T1 := G.2.2.2.2.1
  have hr := G.2.2.2.2.2.2.1
  exact va_mmin G.1 G.2.1 (G.2.2.1.trans hL.1.symm) G.2.2.2.1 (T1 _ hl) (T1 _ h2) (T1 _ h3) (T1 _ h4) (by rw [hr]; exact hR.1) (by rw [hr]; have := hR.2; omega) (by rw [hr]; exact hcs.1) (by rw [hr]; exact hcs.2) hd (kk H locs ls hH hL)
end APC
end
section
theorem dX0_init_0 : decode cX0_init 0 = .ok (.aload_n 0, 1) := by decide +kernel
theorem dX0_init_1 : decode cX0_init 1 = .ok (.invokespecial 3, 3) := by decide +kernel
theorem dX0_init_4 : decode cX0_init 4 = .ok (.aload_n 0, 1) := by decide +kernel
theorem dX0_init_5 : decode cX0_init 5 = .ok (.sipush 480, 3) := by decide +kernel
theorem dX0_init_8 : decode cX0_init 8 = .ok (.newarray .int, 2) := by decide +kernel
theorem dX0_init_10 : decode cX0_init 10 = .ok (.putfield 9, 3) := by decide +kernel
theorem dX0_init_13 : decode cX0_init 13 = .ok (.aload_n 0, 1) := by decide +kernel
theorem dX0_init_14 : decode cX0_init 14 = .ok (.aload_n 1, 1) := by decide +kernel
theorem dX0_init_15 : decode cX0_init 15 = .ok (.putfield 15, 3) := by decide +kernel
theorem dX0_init_18 : decode cX0_init 18 = .ok (.aload_n 0, 1) := by decide +kernel
theorem dX0_init_19 : decode cX0_init 19 = .ok (.aload_n 1, 1) := by decide +kernel
theorem dX0_init_20 : decode cX0_init 20 = .ok (.getfield 19, 3) := by decide +kernel
theorem dX0_init_23 : decode cX0_init 23 = .ok (.putfield 25, 3) := by decide +kernel
theorem dX0_init_26 : decode cX0_init 26 = .ok (.aload_n 0, 1) := by decide +kernel
theorem dX0_init_27 : decode cX0_init 27 = .ok (.aload_n 1, 1) := by decide +kernel
theorem dX0_init_28 : decode cX0_init 28 = .ok (.getfield 19, 3) := by decide +kernel
theorem dX0_init_31 : decode cX0_init 31 = .ok (.getfield 26, 3) := by decide +kernel
theorem dX0_init_34 : decode cX0_init 34 = .ok (.putfield 32, 3) := by decide +kernel
theorem dX0_init_37 : decode cX0_init 37 = .ok (.return_, 1) := by decide +kernel
set_option maxRecDepth 20000 in
theorem ggX0_work_J7_fill_53178 : GoodIn wsX0_work wsJ7_fill_53178 := goodIn_r _ [11] (by decide +kernel) (by decide +kernel)
set_option maxRecDepth 20000 in
theorem gX0_work_J7_fill_53178 : GoodIn wsX0_work (va_wsS RX0 33 yJ7_fill_53178 wsJ7_fill_53178) := goodIn_app (goodIn_of _ (by decide +kernel)) ggX0_work_J7_fill_53178
set_option maxRecDepth 20000 in
theorem ggX0_work_X0_workOut : GoodIn wsX0_work wsX0_workOut := goodIn_ca (goodIn_r _ [16, 17, 18, 19, 20, 2, 5, 21, 22, 23, 24, 15, 25, 1, 6, 7, 26, 27, 28, 29, 30, 31, 32, 33, 50, 51, 52, 53, 54, 55, 56, 34, 35, 36, 37, 38, 39, 40, 41, 42, 43, 44, 45, 46, 47, 48, 49] (by decide +kernel) (by decide +kernel)) (goodIn_sub (fun _ h => List.mem_cons_of_mem _ (List.mem_append_right _ h)) (by decide +kernel))
set_option maxRecDepth 20000 in
theorem gX0_work_X0_workOut : GoodIn wsX0_work (wsV RX0 52 RX0 yX0_workOut wsX0_workOut) := goodIn_app (goodIn_of _ (by decide +kernel)) ggX0_work_X0_workOut
theorem dX0_work_0 : decode cX0_work 0 = .ok (.aload_n 0, 1) := by decide +kernel
theorem dX0_work_1 : decode cX0_work 1 = .ok (.getfield 9, 3) := by decide +kernel
theorem dX0_work_4 : decode cX0_work 4 = .ok (.iconst 0, 1) := by decide +kernel
theorem dX0_work_5 : decode cX0_work 5 = .ok (.invokestatic 33, 3) := by decide +kernel
theorem dX0_work_8 : decode cX0_work 8 = .ok (.iconst 0, 1) := by decide +kernel
theorem dX0_work_9 : decode cX0_work 9 = .ok (.istore_n 1, 1) := by decide +kernel
theorem dX0_work_10 : decode cX0_work 10 = .ok (.iconst 0, 1) := by decide +kernel
theorem dX0_work_11 : decode cX0_work 11 = .ok (.istore_n 2, 1) := by decide +kernel
theorem dX0_work_12 : decode cX0_work 12 = .ok (.iload_n 2, 1) := by decide +kernel
theorem dX0_work_13 : decode cX0_work 13 = .ok (.aload_n 0, 1) := by decide +kernel
theorem dX0_work_14 : decode cX0_work 14 = .ok (.getfield 25, 3) := by decide +kernel
theorem dX0_work_17 : decode cX0_work 17 = .ok (.getfield 39, 3) := by decide +kernel
theorem dX0_work_20 : decode cX0_work 20 = .ok (.if_icmp .ge 78, 3) := by decide +kernel
theorem dX0_work_23 : decode cX0_work 23 = .ok (.aload_n 0, 1) := by decide +kernel
theorem dX0_work_24 : decode cX0_work 24 = .ok (.getfield 25, 3) := by decide +kernel
theorem dX0_work_27 : decode cX0_work 27 = .ok (.getfield 43, 3) := by decide +kernel
theorem dX0_work_30 : decode cX0_work 30 = .ok (.iload_n 2, 1) := by decide +kernel
theorem dX0_work_31 : decode cX0_work 31 = .ok (.iaload, 1) := by decide +kernel
theorem dX0_work_32 : decode cX0_work 32 = .ok (.istore_n 3, 1) := by decide +kernel
theorem dX0_work_33 : decode cX0_work 33 = .ok (.iconst 0, 1) := by decide +kernel
theorem dX0_work_34 : decode cX0_work 34 = .ok (.istore 4, 2) := by decide +kernel
theorem dX0_work_36 : decode cX0_work 36 = .ok (.iload 4, 2) := by decide +kernel
theorem dX0_work_38 : decode cX0_work 38 = .ok (.aload_n 0, 1) := by decide +kernel
theorem dX0_work_39 : decode cX0_work 39 = .ok (.getfield 25, 3) := by decide +kernel
theorem dX0_work_42 : decode cX0_work 42 = .ok (.getfield 46, 3) := by decide +kernel
theorem dX0_work_45 : decode cX0_work 45 = .ok (.iload_n 3, 1) := by decide +kernel
theorem dX0_work_46 : decode cX0_work 46 = .ok (.iaload, 1) := by decide +kernel
theorem dX0_work_47 : decode cX0_work 47 = .ok (.if_icmp .ge 33, 3) := by decide +kernel
theorem dX0_work_50 : decode cX0_work 50 = .ok (.aload_n 0, 1) := by decide +kernel
theorem dX0_work_51 : decode cX0_work 51 = .ok (.getfield 9, 3) := by decide +kernel
theorem dX0_work_54 : decode cX0_work 54 = .ok (.aload_n 0, 1) := by decide +kernel
theorem dX0_work_55 : decode cX0_work 55 = .ok (.getfield 15, 3) := by decide +kernel
theorem dX0_work_58 : decode cX0_work 58 = .ok (.getfield 49, 3) := by decide +kernel
theorem dX0_work_61 : decode cX0_work 61 = .ok (.iload_n 3, 1) := by decide +kernel
theorem dX0_work_62 : decode cX0_work 62 = .ok (.iaload, 1) := by decide +kernel
theorem dX0_work_63 : decode cX0_work 63 = .ok (.iload 4, 2) := by decide +kernel
theorem dX0_work_65 : decode cX0_work 65 = .ok (.iadd, 1) := by decide +kernel
theorem dX0_work_66 : decode cX0_work 66 = .ok (.aload_n 0, 1) := by decide +kernel
theorem dX0_work_67 : decode cX0_work 67 = .ok (.iload_n 3, 1) := by decide +kernel
theorem dX0_work_68 : decode cX0_work 68 = .ok (.iload 4, 2) := by decide +kernel
theorem dX0_work_70 : decode cX0_work 70 = .ok (.invokevirtual 52, 3) := by decide +kernel
theorem dX0_work_73 : decode cX0_work 73 = .ok (.iastore, 1) := by decide +kernel
theorem dX0_work_74 : decode cX0_work 74 = .ok (.iinc 4 1, 3) := by decide +kernel
theorem dX0_work_77 : decode cX0_work 77 = .ok (.goto (-41), 3) := by decide +kernel
theorem dX0_work_80 : decode cX0_work 80 = .ok (.iload_n 1, 1) := by decide +kernel
theorem dX0_work_81 : decode cX0_work 81 = .ok (.aload_n 0, 1) := by decide +kernel
theorem dX0_work_82 : decode cX0_work 82 = .ok (.getfield 25, 3) := by decide +kernel
theorem dX0_work_85 : decode cX0_work 85 = .ok (.getfield 46, 3) := by decide +kernel
theorem dX0_work_88 : decode cX0_work 88 = .ok (.iload_n 3, 1) := by decide +kernel
theorem dX0_work_89 : decode cX0_work 89 = .ok (.iaload, 1) := by decide +kernel
theorem dX0_work_90 : decode cX0_work 90 = .ok (.iadd, 1) := by decide +kernel
theorem dX0_work_91 : decode cX0_work 91 = .ok (.istore_n 1, 1) := by decide +kernel
theorem dX0_work_92 : decode cX0_work 92 = .ok (.iinc 2 1, 3) := by decide +kernel
theorem dX0_work_95 : decode cX0_work 95 = .ok (.goto (-83), 3) := by decide +kernel
theorem dX0_work_98 : decode cX0_work 98 = .ok (.iload_n 1, 1) := by decide +kernel
theorem dX0_work_99 : decode cX0_work 99 = .ok (.ireturn, 1) := by decide +kernel
set_option maxRecDepth 20000 in
theorem ggX0_workOut_X0_valueOf : GoodIn wsX0_workOut wsX0_valueOf := goodIn_ca (goodIn_r _ [12, 13, 14, 15, 20, 21, 22, 23, 43, 44, 45, 46] (by decide +kernel) (by decide +kernel)) (goodIn_sub (fun _ h => List.mem_cons_of_mem _ (List.mem_append_right _ h)) (by decide +kernel))
set_option maxRecDepth 20000 in
theorem gX0_workOut_X0_valueOf : GoodIn wsX0_workOut (wsV RX0 68 RX0 yX0_valueOf wsX0_valueOf) := goodIn_app (goodIn_of _ (by decide +kernel)) ggX0_workOut_X0_valueOf
set_option maxRecDepth 20000 in
theorem ggX0_workOut_X0_totalOf : GoodIn wsX0_workOut wsX0_totalOf := goodIn_ca (goodIn_r _ [19, 5, 6, 8, 9, 10, 11, 12, 13, 14, 15, 20, 21, 22, 23, 31, 32, 33, 34, 35, 36, 37, 38, 39, 40, 41, 42, 43, 44, 45, 46] (by decide +kernel) (by decide +kernel)) (goodIn_sub (fun _ h => List.mem_cons_of_mem _ (List.mem_append_right _ h)) (by decide +kernel))
set_option maxRecDepth 20000 in
theorem gX0_workOut_X0_totalOf : GoodIn wsX0_workOut (wsV RX0 74 RX0 yX0_totalOf wsX0_totalOf) := goodIn_app (goodIn_of _ (by decide +kernel)) ggX0_workOut_X0_totalOf
theorem dX0_workOut_0 : decode cX0_workOut 0 = .ok (.aload_n 0, 1) := by decide +kernel
theorem dX0_workOut_1 : decode cX0_workOut 1 = .ok (.getfield 32, 3) := by decide +kernel
theorem dX0_workOut_4 : decode cX0_workOut 4 = .ok (.getfield 56, 3) := by decide +kernel
theorem dX0_workOut_7 : decode cX0_workOut 7 = .ok (.iload_n 1, 1) := by decide +kernel
theorem dX0_workOut_8 : decode cX0_workOut 8 = .ok (.aaload, 1) := by decide +kernel
theorem dX0_workOut_9 : decode cX0_workOut 9 = .ok (.iconst 0, 1) := by decide +kernel
theorem dX0_workOut_10 : decode cX0_workOut 10 = .ok (.iaload, 1) := by decide +kernel
theorem dX0_workOut_11 : decode cX0_workOut 11 = .ok (.istore_n 3, 1) := by decide +kernel
theorem dX0_workOut_12 : decode cX0_workOut 12 = .ok (.aload_n 0, 1) := by decide +kernel
theorem dX0_workOut_13 : decode cX0_workOut 13 = .ok (.getfield 32, 3) := by decide +kernel
theorem dX0_workOut_16 : decode cX0_workOut 16 = .ok (.getfield 56, 3) := by decide +kernel
theorem dX0_workOut_19 : decode cX0_workOut 19 = .ok (.iload_n 1, 1) := by decide +kernel
theorem dX0_workOut_20 : decode cX0_workOut 20 = .ok (.aaload, 1) := by decide +kernel
theorem dX0_workOut_21 : decode cX0_workOut 21 = .ok (.iconst 1, 1) := by decide +kernel
theorem dX0_workOut_22 : decode cX0_workOut 22 = .ok (.iaload, 1) := by decide +kernel
theorem dX0_workOut_23 : decode cX0_workOut 23 = .ok (.istore 4, 2) := by decide +kernel
theorem dX0_workOut_25 : decode cX0_workOut 25 = .ok (.aload_n 0, 1) := by decide +kernel
theorem dX0_workOut_26 : decode cX0_workOut 26 = .ok (.getfield 32, 3) := by decide +kernel
theorem dX0_workOut_29 : decode cX0_workOut 29 = .ok (.getfield 62, 3) := by decide +kernel
theorem dX0_workOut_32 : decode cX0_workOut 32 = .ok (.iload_n 1, 1) := by decide +kernel
theorem dX0_workOut_33 : decode cX0_workOut 33 = .ok (.iaload, 1) := by decide +kernel
theorem dX0_workOut_34 : decode cX0_workOut 34 = .ok (.tableswitch 152 0 6 #[42, 54, 62, 77, 92, 129, 146], 42) := by decide +kernel
theorem dX0_workOut_76 : decode cX0_workOut 76 = .ok (.aload_n 0, 1) := by decide +kernel
theorem dX0_workOut_77 : decode cX0_workOut 77 = .ok (.getfield 32, 3) := by decide +kernel
theorem dX0_workOut_80 : decode cX0_workOut 80 = .ok (.getfield 65, 3) := by decide +kernel
theorem dX0_workOut_83 : decode cX0_workOut 83 = .ok (.iload_n 1, 1) := by decide +kernel
theorem dX0_workOut_84 : decode cX0_workOut 84 = .ok (.aaload, 1) := by decide +kernel
theorem dX0_workOut_85 : decode cX0_workOut 85 = .ok (.iload_n 2, 1) := by decide +kernel
theorem dX0_workOut_86 : decode cX0_workOut 86 = .ok (.iaload, 1) := by decide +kernel
theorem dX0_workOut_87 : decode cX0_workOut 87 = .ok (.ireturn, 1) := by decide +kernel
theorem dX0_workOut_88 : decode cX0_workOut 88 = .ok (.aload_n 0, 1) := by decide +kernel
theorem dX0_workOut_89 : decode cX0_workOut 89 = .ok (.iload_n 3, 1) := by decide +kernel
theorem dX0_workOut_90 : decode cX0_workOut 90 = .ok (.iload_n 2, 1) := by decide +kernel
theorem dX0_workOut_91 : decode cX0_workOut 91 = .ok (.invokevirtual 68, 3) := by decide +kernel
theorem dX0_workOut_94 : decode cX0_workOut 94 = .ok (.ineg, 1) := by decide +kernel
theorem dX0_workOut_95 : decode cX0_workOut 95 = .ok (.ireturn, 1) := by decide +kernel
theorem dX0_workOut_96 : decode cX0_workOut 96 = .ok (.aload_n 0, 1) := by decide +kernel
theorem dX0_workOut_97 : decode cX0_workOut 97 = .ok (.iload_n 3, 1) := by decide +kernel
theorem dX0_workOut_98 : decode cX0_workOut 98 = .ok (.iload_n 2, 1) := by decide +kernel
theorem dX0_workOut_99 : decode cX0_workOut 99 = .ok (.invokevirtual 68, 3) := by decide +kernel
theorem dX0_workOut_102 : decode cX0_workOut 102 = .ok (.aload_n 0, 1) := by decide +kernel
theorem dX0_workOut_103 : decode cX0_workOut 103 = .ok (.iload 4, 2) := by decide +kernel
theorem dX0_workOut_105 : decode cX0_workOut 105 = .ok (.iload_n 2, 1) := by decide +kernel
theorem dX0_workOut_106 : decode cX0_workOut 106 = .ok (.invokevirtual 68, 3) := by decide +kernel
theorem dX0_workOut_109 : decode cX0_workOut 109 = .ok (.iadd, 1) := by decide +kernel
theorem dX0_workOut_110 : decode cX0_workOut 110 = .ok (.ireturn, 1) := by decide +kernel
theorem dX0_workOut_111 : decode cX0_workOut 111 = .ok (.aload_n 0, 1) := by decide +kernel
theorem dX0_workOut_112 : decode cX0_workOut 112 = .ok (.iload_n 3, 1) := by decide +kernel
theorem dX0_workOut_113 : decode cX0_workOut 113 = .ok (.iload_n 2, 1) := by decide +kernel
theorem dX0_workOut_114 : decode cX0_workOut 114 = .ok (.invokevirtual 68, 3) := by decide +kernel
theorem dX0_workOut_117 : decode cX0_workOut 117 = .ok (.aload_n 0, 1) := by decide +kernel
theorem dX0_workOut_118 : decode cX0_workOut 118 = .ok (.iload 4, 2) := by decide +kernel
theorem dX0_workOut_120 : decode cX0_workOut 120 = .ok (.iload_n 2, 1) := by decide +kernel
theorem dX0_workOut_121 : decode cX0_workOut 121 = .ok (.invokevirtual 68, 3) := by decide +kernel
theorem dX0_workOut_124 : decode cX0_workOut 124 = .ok (.imul, 1) := by decide +kernel
theorem dX0_workOut_125 : decode cX0_workOut 125 = .ok (.ireturn, 1) := by decide +kernel
theorem dX0_workOut_126 : decode cX0_workOut 126 = .ok (.aload_n 0, 1) := by decide +kernel
theorem dX0_workOut_127 : decode cX0_workOut 127 = .ok (.getfield 25, 3) := by decide +kernel
theorem dX0_workOut_130 : decode cX0_workOut 130 = .ok (.getfield 46, 3) := by decide +kernel
theorem dX0_workOut_133 : decode cX0_workOut 133 = .ok (.iload_n 3, 1) := by decide +kernel
theorem dX0_workOut_134 : decode cX0_workOut 134 = .ok (.iaload, 1) := by decide +kernel
theorem dX0_workOut_135 : decode cX0_workOut 135 = .ok (.istore 5, 2) := by decide +kernel
theorem dX0_workOut_137 : decode cX0_workOut 137 = .ok (.iload_n 2, 1) := by decide +kernel
theorem dX0_workOut_138 : decode cX0_workOut 138 = .ok (.iload 5, 2) := by decide +kernel
theorem dX0_workOut_140 : decode cX0_workOut 140 = .ok (.if_icmp .ge 12, 3) := by decide +kernel
theorem dX0_workOut_143 : decode cX0_workOut 143 = .ok (.aload_n 0, 1) := by decide +kernel
theorem dX0_workOut_144 : decode cX0_workOut 144 = .ok (.iload_n 3, 1) := by decide +kernel
theorem dX0_workOut_145 : decode cX0_workOut 145 = .ok (.iload_n 2, 1) := by decide +kernel
theorem dX0_workOut_146 : decode cX0_workOut 146 = .ok (.invokevirtual 68, 3) := by decide +kernel
theorem dX0_workOut_149 : decode cX0_workOut 149 = .ok (.goto 13, 3) := by decide +kernel
theorem dX0_workOut_152 : decode cX0_workOut 152 = .ok (.aload_n 0, 1) := by decide +kernel
theorem dX0_workOut_153 : decode cX0_workOut 153 = .ok (.iload 4, 2) := by decide +kernel
theorem dX0_workOut_155 : decode cX0_workOut 155 = .ok (.iload_n 2, 1) := by decide +kernel
theorem dX0_workOut_156 : decode cX0_workOut 156 = .ok (.iload 5, 2) := by decide +kernel
theorem dX0_workOut_158 : decode cX0_workOut 158 = .ok (.isub, 1) := by decide +kernel
theorem dX0_workOut_159 : decode cX0_workOut 159 = .ok (.invokevirtual 68, 3) := by decide +kernel
theorem dX0_workOut_162 : decode cX0_workOut 162 = .ok (.ireturn, 1) := by decide +kernel
theorem dX0_workOut_163 : decode cX0_workOut 163 = .ok (.aload_n 0, 1) := by decide +kernel
theorem dX0_workOut_164 : decode cX0_workOut 164 = .ok (.iload_n 3, 1) := by decide +kernel
theorem dX0_workOut_165 : decode cX0_workOut 165 = .ok (.aload_n 0, 1) := by decide +kernel
theorem dX0_workOut_166 : decode cX0_workOut 166 = .ok (.getfield 32, 3) := by decide +kernel
theorem dX0_workOut_169 : decode cX0_workOut 169 = .ok (.getfield 71, 3) := by decide +kernel
theorem dX0_workOut_172 : decode cX0_workOut 172 = .ok (.iload_n 1, 1) := by decide +kernel
theorem dX0_workOut_173 : decode cX0_workOut 173 = .ok (.iaload, 1) := by decide +kernel
theorem dX0_workOut_174 : decode cX0_workOut 174 = .ok (.iload_n 2, 1) := by decide +kernel
theorem dX0_workOut_175 : decode cX0_workOut 175 = .ok (.iadd, 1) := by decide +kernel
theorem dX0_workOut_176 : decode cX0_workOut 176 = .ok (.invokevirtual 68, 3) := by decide +kernel
theorem dX0_workOut_179 : decode cX0_workOut 179 = .ok (.ireturn, 1) := by decide +kernel
theorem dX0_workOut_180 : decode cX0_workOut 180 = .ok (.aload_n 0, 1) := by decide +kernel
theorem dX0_workOut_181 : decode cX0_workOut 181 = .ok (.iload_n 3, 1) := by decide +kernel
theorem dX0_workOut_182 : decode cX0_workOut 182 = .ok (.invokevirtual 74, 3) := by decide +kernel
theorem dX0_workOut_185 : decode cX0_workOut 185 = .ok (.ireturn, 1) := by decide +kernel
theorem dX0_workOut_186 : decode cX0_workOut 186 = .ok (.aload_n 0, 1) := by decide +kernel
theorem dX0_workOut_187 : decode cX0_workOut 187 = .ok (.iload_n 3, 1) := by decide +kernel
theorem dX0_workOut_188 : decode cX0_workOut 188 = .ok (.iconst 0, 1) := by decide +kernel
theorem dX0_workOut_189 : decode cX0_workOut 189 = .ok (.invokevirtual 68, 3) := by decide +kernel
theorem dX0_workOut_192 : decode cX0_workOut 192 = .ok (.ireturn, 1) := by decide +kernel
theorem dX0_valueOf_0 : decode cX0_valueOf 0 = .ok (.aload_n 0, 1) := by decide +kernel
theorem dX0_valueOf_1 : decode cX0_valueOf 1 = .ok (.getfield 9, 3) := by decide +kernel
theorem dX0_valueOf_4 : decode cX0_valueOf 4 = .ok (.aload_n 0, 1) := by decide +kernel
theorem dX0_valueOf_5 : decode cX0_valueOf 5 = .ok (.getfield 15, 3) := by decide +kernel
theorem dX0_valueOf_8 : decode cX0_valueOf 8 = .ok (.getfield 49, 3) := by decide +kernel
theorem dX0_valueOf_11 : decode cX0_valueOf 11 = .ok (.iload_n 1, 1) := by decide +kernel
theorem dX0_valueOf_12 : decode cX0_valueOf 12 = .ok (.iaload, 1) := by decide +kernel
theorem dX0_valueOf_13 : decode cX0_valueOf 13 = .ok (.iload_n 2, 1) := by decide +kernel
theorem dX0_valueOf_14 : decode cX0_valueOf 14 = .ok (.iadd, 1) := by decide +kernel
theorem dX0_valueOf_15 : decode cX0_valueOf 15 = .ok (.iaload, 1) := by decide +kernel
theorem dX0_valueOf_16 : decode cX0_valueOf 16 = .ok (.ireturn, 1) := by decide +kernel
set_option maxRecDepth 20000 in
theorem ggX0_totalOf_X0_valueOf : GoodIn wsX0_totalOf wsX0_valueOf := goodIn_ca (goodIn_r _ [7, 8, 9, 10, 11, 12, 13, 14, 27, 28, 29, 30] (by decide +kernel) (by decide +kernel)) (goodIn_sub (fun _ h => List.mem_cons_of_mem _ (List.mem_append_right _ h)) (by decide +kernel))
set_option maxRecDepth 20000 in
theorem gX0_totalOf_X0_valueOf : GoodIn wsX0_totalOf (wsV RX0 68 RX0 yX0_valueOf wsX0_valueOf) := goodIn_app (goodIn_of _ (by decide +kernel)) ggX0_totalOf_X0_valueOf
theorem dX0_totalOf_0 : decode cX0_totalOf 0 = .ok (.iconst 0, 1) := by decide +kernel
theorem dX0_totalOf_1 : decode cX0_totalOf 1 = .ok (.istore_n 2, 1) := by decide +kernel
theorem dX0_totalOf_2 : decode cX0_totalOf 2 = .ok (.iconst 0, 1) := by decide +kernel
theorem dX0_totalOf_3 : decode cX0_totalOf 3 = .ok (.istore_n 3, 1) := by decide +kernel
theorem dX0_totalOf_4 : decode cX0_totalOf 4 = .ok (.iload_n 3, 1) := by decide +kernel
theorem dX0_totalOf_5 : decode cX0_totalOf 5 = .ok (.aload_n 0, 1) := by decide +kernel
theorem dX0_totalOf_6 : decode cX0_totalOf 6 = .ok (.getfield 25, 3) := by decide +kernel
theorem dX0_totalOf_9 : decode cX0_totalOf 9 = .ok (.getfield 46, 3) := by decide +kernel
theorem dX0_totalOf_12 : decode cX0_totalOf 12 = .ok (.iload_n 1, 1) := by decide +kernel
theorem dX0_totalOf_13 : decode cX0_totalOf 13 = .ok (.iaload, 1) := by decide +kernel
theorem dX0_totalOf_14 : decode cX0_totalOf 14 = .ok (.if_icmp .ge 18, 3) := by decide +kernel
theorem dX0_totalOf_17 : decode cX0_totalOf 17 = .ok (.iload_n 2, 1) := by decide +kernel
theorem dX0_totalOf_18 : decode cX0_totalOf 18 = .ok (.aload_n 0, 1) := by decide +kernel
theorem dX0_totalOf_19 : decode cX0_totalOf 19 = .ok (.iload_n 1, 1) := by decide +kernel
theorem dX0_totalOf_20 : decode cX0_totalOf 20 = .ok (.iload_n 3, 1) := by decide +kernel
theorem dX0_totalOf_21 : decode cX0_totalOf 21 = .ok (.invokevirtual 68, 3) := by decide +kernel
theorem dX0_totalOf_24 : decode cX0_totalOf 24 = .ok (.iadd, 1) := by decide +kernel
theorem dX0_totalOf_25 : decode cX0_totalOf 25 = .ok (.istore_n 2, 1) := by decide +kernel
theorem dX0_totalOf_26 : decode cX0_totalOf 26 = .ok (.iinc 3 1, 3) := by decide +kernel
theorem dX0_totalOf_29 : decode cX0_totalOf 29 = .ok (.goto (-25), 3) := by decide +kernel
theorem dX0_totalOf_32 : decode cX0_totalOf 32 = .ok (.iload_n 2, 1) := by decide +kernel
theorem dX0_totalOf_33 : decode cX0_totalOf 33 = .ok (.ireturn, 1) := by decide +kernel
theorem dX1_init_0 : decode cX1_init 0 = .ok (.aload_n 0, 1) := by decide +kernel
theorem dX1_init_1 : decode cX1_init 1 = .ok (.invokespecial 3, 3) := by decide +kernel
theorem dX1_init_4 : decode cX1_init 4 = .ok (.aload_n 0, 1) := by decide +kernel
theorem dX1_init_5 : decode cX1_init 5 = .ok (.bipush 12, 2) := by decide +kernel
theorem dX1_init_7 : decode cX1_init 7 = .ok (.newarray .int, 2) := by decide +kernel
theorem dX1_init_9 : decode cX1_init 9 = .ok (.putfield 9, 3) := by decide +kernel
theorem dX1_init_12 : decode cX1_init 12 = .ok (.aload_n 0, 1) := by decide +kernel
theorem dX1_init_13 : decode cX1_init 13 = .ok (.bipush 12, 2) := by decide +kernel
theorem dX1_init_15 : decode cX1_init 15 = .ok (.newarray .int, 2) := by decide +kernel
theorem dX1_init_17 : decode cX1_init 17 = .ok (.putfield 15, 3) := by decide +kernel
theorem dX1_init_20 : decode cX1_init 20 = .ok (.aload_n 0, 1) := by decide +kernel
theorem dX1_init_21 : decode cX1_init 21 = .ok (.bipush 12, 2) := by decide +kernel
theorem dX1_init_23 : decode cX1_init 23 = .ok (.newarray .int, 2) := by decide +kernel
theorem dX1_init_25 : decode cX1_init 25 = .ok (.putfield 18, 3) := by decide +kernel
theorem dX1_init_28 : decode cX1_init 28 = .ok (.aload_n 0, 1) := by decide +kernel
theorem dX1_init_29 : decode cX1_init 29 = .ok (.bipush 12, 2) := by decide +kernel
theorem dX1_init_31 : decode cX1_init 31 = .ok (.bipush 16, 2) := by decide +kernel
theorem dX1_init_33 : decode cX1_init 33 = .ok (.multianewarray 21 2, 4) := by decide +kernel
theorem dX1_init_37 : decode cX1_init 37 = .ok (.putfield 23, 3) := by decide +kernel
theorem dX1_init_40 : decode cX1_init 40 = .ok (.aload_n 0, 1) := by decide +kernel
theorem dX1_init_41 : decode cX1_init 41 = .ok (.bipush 12, 2) := by decide +kernel
theorem dX1_init_43 : decode cX1_init 43 = .ok (.iconst 2, 1) := by decide +kernel
theorem dX1_init_44 : decode cX1_init 44 = .ok (.multianewarray 21 2, 4) := by decide +kernel
theorem dX1_init_48 : decode cX1_init 48 = .ok (.putfield 26, 3) := by decide +kernel
theorem dX1_init_51 : decode cX1_init 51 = .ok (.aload_n 0, 1) := by decide +kernel
theorem dX1_init_52 : decode cX1_init 52 = .ok (.bipush 12, 2) := by decide +kernel
theorem dX1_init_54 : decode cX1_init 54 = .ok (.newarray .boolean, 2) := by decide +kernel
theorem dX1_init_56 : decode cX1_init 56 = .ok (.putfield 29, 3) := by decide +kernel
theorem dX1_init_59 : decode cX1_init 59 = .ok (.return_, 1) := by decide +kernel
set_option maxRecDepth 20000 in
theorem ggX1_has_X6_isWithin : GoodIn wsX1_has wsX6_isWithin := goodIn_r _ [4] (by decide +kernel) (by decide +kernel)
set_option maxRecDepth 20000 in
theorem gX1_has_X6_isWithin_n37 : GoodIn wsX1_has (wsX6_isWithin) := ggX1_has_X6_isWithin
theorem dX1_has_0 : decode cX1_has 0 = .ok (.iload_n 1, 1) := by decide +kernel
theorem dX1_has_1 : decode cX1_has 1 = .ok (.aload_n 0, 1) := by decide +kernel
theorem dX1_has_2 : decode cX1_has 2 = .ok (.getfield 33, 3) := by decide +kernel
theorem dX1_has_5 : decode cX1_has 5 = .ok (.invokestatic 37, 3) := by decide +kernel
theorem dX1_has_8 : decode cX1_has 8 = .ok (.ireturn, 1) := by decide +kernel
theorem dX1_inputs_0 : decode cX1_inputs 0 = .ok (.getstatic 41, 3) := by decide +kernel
theorem dX1_inputs_3 : decode cX1_inputs 3 = .ok (.aload_n 0, 1) := by decide +kernel
theorem dX1_inputs_4 : decode cX1_inputs 4 = .ok (.getfield 9, 3) := by decide +kernel
theorem dX1_inputs_7 : decode cX1_inputs 7 = .ok (.iload_n 1, 1) := by decide +kernel
theorem dX1_inputs_8 : decode cX1_inputs 8 = .ok (.iaload, 1) := by decide +kernel
theorem dX1_inputs_9 : decode cX1_inputs 9 = .ok (.iaload, 1) := by decide +kernel
theorem dX1_inputs_10 : decode cX1_inputs 10 = .ok (.ireturn, 1) := by decide +kernel
set_option maxRecDepth 20000 in
theorem ggX1_add_J7_fill_53178 : GoodIn wsX1_add wsJ7_fill_53178 := goodIn_r _ [9] (by decide +kernel) (by decide +kernel)
set_option maxRecDepth 20000 in
theorem gX1_add_J7_fill_53178 : GoodIn wsX1_add (va_wsS RX1 44 yJ7_fill_53178 wsJ7_fill_53178) := goodIn_app (goodIn_of _ (by decide +kernel)) ggX1_add_J7_fill_53178
theorem dX1_add_0 : decode cX1_add 0 = .ok (.aload_n 0, 1) := by decide +kernel
theorem dX1_add_1 : decode cX1_add 1 = .ok (.getfield 33, 3) := by decide +kernel
theorem dX1_add_4 : decode cX1_add 4 = .ok (.istore 4, 2) := by decide +kernel
theorem dX1_add_6 : decode cX1_add 6 = .ok (.aload_n 0, 1) := by decide +kernel
theorem dX1_add_7 : decode cX1_add 7 = .ok (.getfield 9, 3) := by decide +kernel
theorem dX1_add_10 : decode cX1_add 10 = .ok (.iload 4, 2) := by decide +kernel
theorem dX1_add_12 : decode cX1_add 12 = .ok (.iload_n 1, 1) := by decide +kernel
theorem dX1_add_13 : decode cX1_add 13 = .ok (.iastore, 1) := by decide +kernel
theorem dX1_add_14 : decode cX1_add 14 = .ok (.aload_n 0, 1) := by decide +kernel
theorem dX1_add_15 : decode cX1_add 15 = .ok (.getfield 15, 3) := by decide +kernel
theorem dX1_add_18 : decode cX1_add 18 = .ok (.iload 4, 2) := by decide +kernel
theorem dX1_add_20 : decode cX1_add 20 = .ok (.iload_n 2, 1) := by decide +kernel
theorem dX1_add_21 : decode cX1_add 21 = .ok (.iastore, 1) := by decide +kernel
theorem dX1_add_22 : decode cX1_add 22 = .ok (.aload_n 0, 1) := by decide +kernel
theorem dX1_add_23 : decode cX1_add 23 = .ok (.getfield 18, 3) := by decide +kernel
theorem dX1_add_26 : decode cX1_add 26 = .ok (.iload 4, 2) := by decide +kernel
theorem dX1_add_28 : decode cX1_add 28 = .ok (.iload_n 3, 1) := by decide +kernel
theorem dX1_add_29 : decode cX1_add 29 = .ok (.iastore, 1) := by decide +kernel
theorem dX1_add_30 : decode cX1_add 30 = .ok (.aload_n 0, 1) := by decide +kernel
theorem dX1_add_31 : decode cX1_add 31 = .ok (.getfield 26, 3) := by decide +kernel
theorem dX1_add_34 : decode cX1_add 34 = .ok (.iload 4, 2) := by decide +kernel
theorem dX1_add_36 : decode cX1_add 36 = .ok (.aaload, 1) := by decide +kernel
theorem dX1_add_37 : decode cX1_add 37 = .ok (.iconst (-1), 1) := by decide +kernel
theorem dX1_add_38 : decode cX1_add 38 = .ok (.invokestatic 44, 3) := by decide +kernel
theorem dX1_add_41 : decode cX1_add 41 = .ok (.aload_n 0, 1) := by decide +kernel
theorem dX1_add_42 : decode cX1_add 42 = .ok (.dup, 1) := by decide +kernel
theorem dX1_add_43 : decode cX1_add 43 = .ok (.getfield 33, 3) := by decide +kernel
theorem dX1_add_46 : decode cX1_add 46 = .ok (.iconst 1, 1) := by decide +kernel
theorem dX1_add_47 : decode cX1_add 47 = .ok (.iadd, 1) := by decide +kernel
theorem dX1_add_48 : decode cX1_add 48 = .ok (.putfield 33, 3) := by decide +kernel
theorem dX1_add_51 : decode cX1_add 51 = .ok (.iload 4, 2) := by decide +kernel
theorem dX1_add_53 : decode cX1_add 53 = .ok (.ireturn, 1) := by decide +kernel
set_option maxRecDepth 20000 in
theorem ggX1_isWired_X1_inputs : GoodIn wsX1_isWired wsX1_inputs := goodIn_ca (goodIn_r _ [7, 8, 9, 10, 11, 12, 13, 14, 15] (by decide +kernel) (by decide +kernel)) (goodIn_sub (fun _ h => List.mem_cons_of_mem _ (List.mem_append_right _ h)) (by decide +kernel))
set_option maxRecDepth 20000 in
theorem gX1_isWired_X1_inputs : GoodIn wsX1_isWired (wsV RX1 50 RX1 yX1_inputs wsX1_inputs) := goodIn_app (goodIn_of _ (by decide +kernel)) ggX1_isWired_X1_inputs
theorem dX1_isWired_0 : decode cX1_isWired 0 = .ok (.iconst 0, 1) := by decide +kernel
theorem dX1_isWired_1 : decode cX1_isWired 1 = .ok (.istore_n 1, 1) := by decide +kernel
theorem dX1_isWired_2 : decode cX1_isWired 2 = .ok (.iload_n 1, 1) := by decide +kernel
theorem dX1_isWired_3 : decode cX1_isWired 3 = .ok (.aload_n 0, 1) := by decide +kernel
theorem dX1_isWired_4 : decode cX1_isWired 4 = .ok (.getfield 33, 3) := by decide +kernel
theorem dX1_isWired_7 : decode cX1_isWired 7 = .ok (.if_icmp .ge 40, 3) := by decide +kernel
theorem dX1_isWired_10 : decode cX1_isWired 10 = .ok (.iconst 0, 1) := by decide +kernel
theorem dX1_isWired_11 : decode cX1_isWired 11 = .ok (.istore_n 2, 1) := by decide +kernel
theorem dX1_isWired_12 : decode cX1_isWired 12 = .ok (.iload_n 2, 1) := by decide +kernel
theorem dX1_isWired_13 : decode cX1_isWired 13 = .ok (.aload_n 0, 1) := by decide +kernel
theorem dX1_isWired_14 : decode cX1_isWired 14 = .ok (.iload_n 1, 1) := by decide +kernel
theorem dX1_isWired_15 : decode cX1_isWired 15 = .ok (.invokevirtual 50, 3) := by decide +kernel
theorem dX1_isWired_18 : decode cX1_isWired 18 = .ok (.if_icmp .ge 23, 3) := by decide +kernel
theorem dX1_isWired_21 : decode cX1_isWired 21 = .ok (.aload_n 0, 1) := by decide +kernel
theorem dX1_isWired_22 : decode cX1_isWired 22 = .ok (.getfield 26, 3) := by decide +kernel
theorem dX1_isWired_25 : decode cX1_isWired 25 = .ok (.iload_n 1, 1) := by decide +kernel
theorem dX1_isWired_26 : decode cX1_isWired 26 = .ok (.aaload, 1) := by decide +kernel
theorem dX1_isWired_27 : decode cX1_isWired 27 = .ok (.iload_n 2, 1) := by decide +kernel
theorem dX1_isWired_28 : decode cX1_isWired 28 = .ok (.iaload, 1) := by decide +kernel
theorem dX1_isWired_29 : decode cX1_isWired 29 = .ok (.iconst (-1), 1) := by decide +kernel
theorem dX1_isWired_30 : decode cX1_isWired 30 = .ok (.if_icmp .ne 5, 3) := by decide +kernel
theorem dX1_isWired_33 : decode cX1_isWired 33 = .ok (.iconst 0, 1) := by decide +kernel
theorem dX1_isWired_34 : decode cX1_isWired 34 = .ok (.ireturn, 1) := by decide +kernel
theorem dX1_isWired_35 : decode cX1_isWired 35 = .ok (.iinc 2 1, 3) := by decide +kernel
theorem dX1_isWired_38 : decode cX1_isWired 38 = .ok (.goto (-26), 3) := by decide +kernel
theorem dX1_isWired_41 : decode cX1_isWired 41 = .ok (.iinc 1 1, 3) := by decide +kernel
theorem dX1_isWired_44 : decode cX1_isWired 44 = .ok (.goto (-42), 3) := by decide +kernel
theorem dX1_isWired_47 : decode cX1_isWired 47 = .ok (.iconst 1, 1) := by decide +kernel
theorem dX1_isWired_48 : decode cX1_isWired 48 = .ok (.ireturn, 1) := by decide +kernel
set_option maxRecDepth 20000 in
theorem ggX1_dependencies_X6_setOf : GoodIn wsX1_dependencies wsX6_setOf := goodIn_r _ [4] (by decide +kernel) (by decide +kernel)
set_option maxRecDepth 20000 in
theorem gX1_dependencies_X6_setOf_n54 : GoodIn wsX1_dependencies (wsX6_setOf) := ggX1_dependencies_X6_setOf
theorem dX1_dependencies_0 : decode cX1_dependencies 0 = .ok (.aload_n 0, 1) := by decide +kernel
theorem dX1_dependencies_1 : decode cX1_dependencies 1 = .ok (.getfield 26, 3) := by decide +kernel
theorem dX1_dependencies_4 : decode cX1_dependencies 4 = .ok (.iload_n 1, 1) := by decide +kernel
theorem dX1_dependencies_5 : decode cX1_dependencies 5 = .ok (.aaload, 1) := by decide +kernel
theorem dX1_dependencies_6 : decode cX1_dependencies 6 = .ok (.iconst 0, 1) := by decide +kernel
theorem dX1_dependencies_7 : decode cX1_dependencies 7 = .ok (.iaload, 1) := by decide +kernel
theorem dX1_dependencies_8 : decode cX1_dependencies 8 = .ok (.invokestatic 54, 3) := by decide +kernel
theorem dX1_dependencies_11 : decode cX1_dependencies 11 = .ok (.aload_n 0, 1) := by decide +kernel
theorem dX1_dependencies_12 : decode cX1_dependencies 12 = .ok (.getfield 26, 3) := by decide +kernel
theorem dX1_dependencies_15 : decode cX1_dependencies 15 = .ok (.iload_n 1, 1) := by decide +kernel
theorem dX1_dependencies_16 : decode cX1_dependencies 16 = .ok (.aaload, 1) := by decide +kernel
theorem dX1_dependencies_17 : decode cX1_dependencies 17 = .ok (.iconst 1, 1) := by decide +kernel
theorem dX1_dependencies_18 : decode cX1_dependencies 18 = .ok (.iaload, 1) := by decide +kernel
theorem dX1_dependencies_19 : decode cX1_dependencies 19 = .ok (.invokestatic 54, 3) := by decide +kernel
theorem dX1_dependencies_22 : decode cX1_dependencies 22 = .ok (.ior, 1) := by decide +kernel
theorem dX1_dependencies_23 : decode cX1_dependencies 23 = .ok (.ireturn, 1) := by decide +kernel
theorem dX2_init_0 : decode cX2_init 0 = .ok (.aload_n 0, 1) := by decide +kernel
theorem dX2_init_1 : decode cX2_init 1 = .ok (.invokespecial 3, 3) := by decide +kernel
theorem dX2_init_4 : decode cX2_init 4 = .ok (.aload_n 0, 1) := by decide +kernel
theorem dX2_init_5 : decode cX2_init 5 = .ok (.sipush 4096, 3) := by decide +kernel
theorem dX2_init_8 : decode cX2_init 8 = .ok (.newarray .int, 2) := by decide +kernel
theorem dX2_init_10 : decode cX2_init 10 = .ok (.putfield 9, 3) := by decide +kernel
theorem dX2_init_13 : decode cX2_init 13 = .ok (.aload_n 0, 1) := by decide +kernel
theorem dX2_init_14 : decode cX2_init 14 = .ok (.aload_n 1, 1) := by decide +kernel
theorem dX2_init_15 : decode cX2_init 15 = .ok (.putfield 15, 3) := by decide +kernel
theorem dX2_init_18 : decode cX2_init 18 = .ok (.return_, 1) := by decide +kernel
set_option maxRecDepth 20000 in
theorem ggX2_find_J7_fill_53178 : GoodIn wsX2_find wsJ7_fill_53178 := goodIn_r _ [8] (by decide +kernel) (by decide +kernel)
set_option maxRecDepth 20000 in
theorem gX2_find_J7_fill_53178 : GoodIn wsX2_find (va_wsS RX2 28 yJ7_fill_53178 wsJ7_fill_53178) := goodIn_app (goodIn_of _ (by decide +kernel)) ggX2_find_J7_fill_53178
set_option maxRecDepth 20000 in
theorem ggX2_find_X2_goOn : GoodIn wsX2_find wsX2_goOn := goodIn_ca (goodIn_r _ [13, 1, 2, 14, 3, 15, 16, 17, 18, 19, 20, 21, 22, 23, 24, 25, 12, 26, 27, 28, 29, 30, 31, 32, 33, 34, 35, 36, 37, 38, 39, 40, 41, 42, 43, 44, 45, 46, 47, 48, 49, 50, 51, 52, 53, 54, 55, 56, 57] (by decide +kernel) (by decide +kernel)) (goodIn_sub (fun _ h => List.mem_cons_of_mem _ (List.mem_append_right _ h)) (by decide +kernel))
set_option maxRecDepth 20000 in
theorem gX2_find_X2_goOn : GoodIn wsX2_find (wsV RX2 34 RX2 yX2_goOn wsX2_goOn) := goodIn_app (goodIn_of _ (by decide +kernel)) ggX2_find_X2_goOn
theorem dX2_find_0 : decode cX2_find 0 = .ok (.iconst 1, 1) := by decide +kernel
theorem dX2_find_1 : decode cX2_find 1 = .ok (.aload_n 0, 1) := by decide +kernel
theorem dX2_find_2 : decode cX2_find 2 = .ok (.getfield 15, 3) := by decide +kernel
theorem dX2_find_5 : decode cX2_find 5 = .ok (.getfield 19, 3) := by decide +kernel
theorem dX2_find_8 : decode cX2_find 8 = .ok (.ishl, 1) := by decide +kernel
theorem dX2_find_9 : decode cX2_find 9 = .ok (.iconst 1, 1) := by decide +kernel
theorem dX2_find_10 : decode cX2_find 10 = .ok (.isub, 1) := by decide +kernel
theorem dX2_find_11 : decode cX2_find 11 = .ok (.istore_n 1, 1) := by decide +kernel
theorem dX2_find_12 : decode cX2_find 12 = .ok (.aload_n 0, 1) := by decide +kernel
theorem dX2_find_13 : decode cX2_find 13 = .ok (.getfield 9, 3) := by decide +kernel
theorem dX2_find_16 : decode cX2_find 16 = .ok (.aload_n 0, 1) := by decide +kernel
theorem dX2_find_17 : decode cX2_find 17 = .ok (.getfield 15, 3) := by decide +kernel
theorem dX2_find_20 : decode cX2_find 20 = .ok (.getfield 25, 3) := by decide +kernel
theorem dX2_find_23 : decode cX2_find 23 = .ok (.invokestatic 28, 3) := by decide +kernel
theorem dX2_find_26 : decode cX2_find 26 = .ok (.aload_n 0, 1) := by decide +kernel
theorem dX2_find_27 : decode cX2_find 27 = .ok (.getfield 9, 3) := by decide +kernel
theorem dX2_find_30 : decode cX2_find 30 = .ok (.iconst 0, 1) := by decide +kernel
theorem dX2_find_31 : decode cX2_find 31 = .ok (.iconst 0, 1) := by decide +kernel
theorem dX2_find_32 : decode cX2_find 32 = .ok (.iastore, 1) := by decide +kernel
theorem dX2_find_33 : decode cX2_find 33 = .ok (.iconst 0, 1) := by decide +kernel
theorem dX2_find_34 : decode cX2_find 34 = .ok (.istore_n 2, 1) := by decide +kernel
theorem dX2_find_35 : decode cX2_find 35 = .ok (.iload_n 2, 1) := by decide +kernel
theorem dX2_find_36 : decode cX2_find 36 = .ok (.iload_n 1, 1) := by decide +kernel
theorem dX2_find_37 : decode cX2_find 37 = .ok (.if_icmp .ge 30, 3) := by decide +kernel
theorem dX2_find_40 : decode cX2_find 40 = .ok (.aload_n 0, 1) := by decide +kernel
theorem dX2_find_41 : decode cX2_find 41 = .ok (.getfield 9, 3) := by decide +kernel
theorem dX2_find_44 : decode cX2_find 44 = .ok (.iload_n 2, 1) := by decide +kernel
theorem dX2_find_45 : decode cX2_find 45 = .ok (.iaload, 1) := by decide +kernel
theorem dX2_find_46 : decode cX2_find 46 = .ok (.aload_n 0, 1) := by decide +kernel
theorem dX2_find_47 : decode cX2_find 47 = .ok (.getfield 15, 3) := by decide +kernel
theorem dX2_find_50 : decode cX2_find 50 = .ok (.getfield 25, 3) := by decide +kernel
theorem dX2_find_53 : decode cX2_find 53 = .ok (.if_icmp .ge 8, 3) := by decide +kernel
theorem dX2_find_56 : decode cX2_find 56 = .ok (.aload_n 0, 1) := by decide +kernel
theorem dX2_find_57 : decode cX2_find 57 = .ok (.iload_n 2, 1) := by decide +kernel
theorem dX2_find_58 : decode cX2_find 58 = .ok (.invokevirtual 34, 3) := by decide +kernel
theorem dX2_find_61 : decode cX2_find 61 = .ok (.iinc 2 1, 3) := by decide +kernel
theorem dX2_find_64 : decode cX2_find 64 = .ok (.goto (-29), 3) := by decide +kernel
theorem dX2_find_67 : decode cX2_find 67 = .ok (.aload_n 0, 1) := by decide +kernel
theorem dX2_find_68 : decode cX2_find 68 = .ok (.getfield 9, 3) := by decide +kernel
theorem dX2_find_71 : decode cX2_find 71 = .ok (.iload_n 1, 1) := by decide +kernel
theorem dX2_find_72 : decode cX2_find 72 = .ok (.iaload, 1) := by decide +kernel
theorem dX2_find_73 : decode cX2_find 73 = .ok (.ireturn, 1) := by decide +kernel
set_option maxRecDepth 20000 in
theorem ggX2_goOn_X2_heldAfter : GoodIn wsX2_goOn wsX2_heldAfter := goodIn_ca (goodIn_r _ [17, 1, 2, 18, 19, 20, 5, 21, 22, 23, 24, 25, 28, 29, 30, 31, 32, 33, 34, 35, 36, 37, 38, 39, 40, 41, 42, 43, 44, 45, 46, 47, 48] (by decide +kernel) (by decide +kernel)) (goodIn_sub (fun _ h => List.mem_cons_of_mem _ (List.mem_append_right _ h)) (by decide +kernel))
set_option maxRecDepth 20000 in
theorem gX2_goOn_X2_heldAfter : GoodIn wsX2_goOn (wsV RX2 38 RX2 yX2_heldAfter wsX2_heldAfter) := goodIn_app (goodIn_of _ (by decide +kernel)) ggX2_goOn_X2_heldAfter
set_option maxRecDepth 20000 in
theorem ggX2_goOn_X6_contains : GoodIn wsX2_goOn wsX6_contains := goodIn_r _ [25] (by decide +kernel) (by decide +kernel)
set_option maxRecDepth 20000 in
theorem gX2_goOn_X6_contains_n42 : GoodIn wsX2_goOn (wsX6_contains) := ggX2_goOn_X6_contains
set_option maxRecDepth 20000 in
theorem ggX2_goOn_X6_isPartOf : GoodIn wsX2_goOn wsX6_isPartOf := goodIn_r _ [23] (by decide +kernel) (by decide +kernel)
set_option maxRecDepth 20000 in
theorem gX2_goOn_X6_isPartOf_n49 : GoodIn wsX2_goOn (wsX6_isPartOf) := ggX2_goOn_X6_isPartOf
set_option maxRecDepth 20000 in
theorem ggX2_goOn_X6_setOf : GoodIn wsX2_goOn wsX6_setOf := goodIn_r _ [27] (by decide +kernel) (by decide +kernel)
set_option maxRecDepth 20000 in
theorem gX2_goOn_X6_setOf_n52 : GoodIn wsX2_goOn (wsX6_setOf) := ggX2_goOn_X6_setOf
theorem dX2_goOn_0 : decode cX2_goOn 0 = .ok (.aload_n 0, 1) := by decide +kernel
theorem dX2_goOn_1 : decode cX2_goOn 1 = .ok (.iload_n 1, 1) := by decide +kernel
theorem dX2_goOn_2 : decode cX2_goOn 2 = .ok (.invokevirtual 38, 3) := by decide +kernel
theorem dX2_goOn_5 : decode cX2_goOn 5 = .ok (.istore_n 2, 1) := by decide +kernel
theorem dX2_goOn_6 : decode cX2_goOn 6 = .ok (.iconst 0, 1) := by decide +kernel
theorem dX2_goOn_7 : decode cX2_goOn 7 = .ok (.istore_n 3, 1) := by decide +kernel
theorem dX2_goOn_8 : decode cX2_goOn 8 = .ok (.iload_n 3, 1) := by decide +kernel
theorem dX2_goOn_9 : decode cX2_goOn 9 = .ok (.aload_n 0, 1) := by decide +kernel
theorem dX2_goOn_10 : decode cX2_goOn 10 = .ok (.getfield 15, 3) := by decide +kernel
theorem dX2_goOn_13 : decode cX2_goOn 13 = .ok (.getfield 19, 3) := by decide +kernel
theorem dX2_goOn_16 : decode cX2_goOn 16 = .ok (.if_icmp .ge 82, 3) := by decide +kernel
theorem dX2_goOn_19 : decode cX2_goOn 19 = .ok (.iload_n 1, 1) := by decide +kernel
theorem dX2_goOn_20 : decode cX2_goOn 20 = .ok (.iload_n 3, 1) := by decide +kernel
theorem dX2_goOn_21 : decode cX2_goOn 21 = .ok (.invokestatic 42, 3) := by decide +kernel
theorem dX2_goOn_24 : decode cX2_goOn 24 = .ok (.ifCond .ne 68, 3) := by decide +kernel
theorem dX2_goOn_27 : decode cX2_goOn 27 = .ok (.aload_n 0, 1) := by decide +kernel
theorem dX2_goOn_28 : decode cX2_goOn 28 = .ok (.getfield 15, 3) := by decide +kernel
theorem dX2_goOn_31 : decode cX2_goOn 31 = .ok (.getfield 46, 3) := by decide +kernel
theorem dX2_goOn_34 : decode cX2_goOn 34 = .ok (.iload_n 3, 1) := by decide +kernel
theorem dX2_goOn_35 : decode cX2_goOn 35 = .ok (.iaload, 1) := by decide +kernel
theorem dX2_goOn_36 : decode cX2_goOn 36 = .ok (.iload_n 1, 1) := by decide +kernel
theorem dX2_goOn_37 : decode cX2_goOn 37 = .ok (.invokestatic 49, 3) := by decide +kernel
theorem dX2_goOn_40 : decode cX2_goOn 40 = .ok (.ifCond .eq 52, 3) := by decide +kernel
theorem dX2_goOn_43 : decode cX2_goOn 43 = .ok (.iload_n 1, 1) := by decide +kernel
theorem dX2_goOn_44 : decode cX2_goOn 44 = .ok (.iload_n 3, 1) := by decide +kernel
theorem dX2_goOn_45 : decode cX2_goOn 45 = .ok (.invokestatic 52, 3) := by decide +kernel
theorem dX2_goOn_48 : decode cX2_goOn 48 = .ok (.ior, 1) := by decide +kernel
theorem dX2_goOn_49 : decode cX2_goOn 49 = .ok (.istore 4, 2) := by decide +kernel
theorem dX2_goOn_51 : decode cX2_goOn 51 = .ok (.aload_n 0, 1) := by decide +kernel
theorem dX2_goOn_52 : decode cX2_goOn 52 = .ok (.getfield 9, 3) := by decide +kernel
theorem dX2_goOn_55 : decode cX2_goOn 55 = .ok (.iload_n 1, 1) := by decide +kernel
theorem dX2_goOn_56 : decode cX2_goOn 56 = .ok (.iaload, 1) := by decide +kernel
theorem dX2_goOn_57 : decode cX2_goOn 57 = .ok (.iload_n 2, 1) := by decide +kernel
theorem dX2_goOn_58 : decode cX2_goOn 58 = .ok (.aload_n 0, 1) := by decide +kernel
theorem dX2_goOn_59 : decode cX2_goOn 59 = .ok (.getfield 15, 3) := by decide +kernel
theorem dX2_goOn_62 : decode cX2_goOn 62 = .ok (.getfield 55, 3) := by decide +kernel
theorem dX2_goOn_65 : decode cX2_goOn 65 = .ok (.iload_n 3, 1) := by decide +kernel
theorem dX2_goOn_66 : decode cX2_goOn 66 = .ok (.iaload, 1) := by decide +kernel
theorem dX2_goOn_67 : decode cX2_goOn 67 = .ok (.iadd, 1) := by decide +kernel
theorem dX2_goOn_68 : decode cX2_goOn 68 = .ok (.invokestatic 58, 3) := by decide +kernel
theorem dX2_goOn_71 : decode cX2_goOn 71 = .ok (.istore 5, 2) := by decide +kernel
theorem dX2_goOn_73 : decode cX2_goOn 73 = .ok (.aload_n 0, 1) := by decide +kernel
theorem dX2_goOn_74 : decode cX2_goOn 74 = .ok (.getfield 9, 3) := by decide +kernel
theorem dX2_goOn_77 : decode cX2_goOn 77 = .ok (.iload 4, 2) := by decide +kernel
theorem dX2_goOn_79 : decode cX2_goOn 79 = .ok (.aload_n 0, 1) := by decide +kernel
theorem dX2_goOn_80 : decode cX2_goOn 80 = .ok (.getfield 9, 3) := by decide +kernel
theorem dX2_goOn_83 : decode cX2_goOn 83 = .ok (.iload 4, 2) := by decide +kernel
theorem dX2_goOn_85 : decode cX2_goOn 85 = .ok (.iaload, 1) := by decide +kernel
theorem dX2_goOn_86 : decode cX2_goOn 86 = .ok (.iload 5, 2) := by decide +kernel
theorem dX2_goOn_88 : decode cX2_goOn 88 = .ok (.invokestatic 64, 3) := by decide +kernel
theorem dX2_goOn_91 : decode cX2_goOn 91 = .ok (.iastore, 1) := by decide +kernel
theorem dX2_goOn_92 : decode cX2_goOn 92 = .ok (.iinc 3 1, 3) := by decide +kernel
theorem dX2_goOn_95 : decode cX2_goOn 95 = .ok (.goto (-87), 3) := by decide +kernel
theorem dX2_goOn_98 : decode cX2_goOn 98 = .ok (.return_, 1) := by decide +kernel
set_option maxRecDepth 20000 in
theorem ggX2_heldAfter_X6_isPartOf : GoodIn wsX2_heldAfter wsX6_isPartOf := goodIn_r _ [9] (by decide +kernel) (by decide +kernel)
set_option maxRecDepth 20000 in
theorem gX2_heldAfter_X6_isPartOf_n49 : GoodIn wsX2_heldAfter (wsX6_isPartOf) := ggX2_heldAfter_X6_isPartOf
set_option maxRecDepth 20000 in
theorem ggX2_heldAfter_X6_contains : GoodIn wsX2_heldAfter wsX6_contains := goodIn_r _ [11] (by decide +kernel) (by decide +kernel)
set_option maxRecDepth 20000 in
theorem gX2_heldAfter_X6_contains_n42 : GoodIn wsX2_heldAfter (wsX6_contains) := ggX2_heldAfter_X6_contains
theorem dX2_heldAfter_0 : decode cX2_heldAfter 0 = .ok (.iconst 0, 1) := by decide +kernel
theorem dX2_heldAfter_1 : decode cX2_heldAfter 1 = .ok (.istore_n 2, 1) := by decide +kernel
theorem dX2_heldAfter_2 : decode cX2_heldAfter 2 = .ok (.iconst 0, 1) := by decide +kernel
theorem dX2_heldAfter_3 : decode cX2_heldAfter 3 = .ok (.istore_n 3, 1) := by decide +kernel
theorem dX2_heldAfter_4 : decode cX2_heldAfter 4 = .ok (.iload_n 3, 1) := by decide +kernel
theorem dX2_heldAfter_5 : decode cX2_heldAfter 5 = .ok (.aload_n 0, 1) := by decide +kernel
theorem dX2_heldAfter_6 : decode cX2_heldAfter 6 = .ok (.getfield 15, 3) := by decide +kernel
theorem dX2_heldAfter_9 : decode cX2_heldAfter 9 = .ok (.getfield 19, 3) := by decide +kernel
theorem dX2_heldAfter_12 : decode cX2_heldAfter 12 = .ok (.if_icmp .ge 72, 3) := by decide +kernel
theorem dX2_heldAfter_15 : decode cX2_heldAfter 15 = .ok (.aload_n 0, 1) := by decide +kernel
theorem dX2_heldAfter_16 : decode cX2_heldAfter 16 = .ok (.getfield 15, 3) := by decide +kernel
theorem dX2_heldAfter_19 : decode cX2_heldAfter 19 = .ok (.getfield 67, 3) := by decide +kernel
theorem dX2_heldAfter_22 : decode cX2_heldAfter 22 = .ok (.getfield 71, 3) := by decide +kernel
theorem dX2_heldAfter_25 : decode cX2_heldAfter 25 = .ok (.iload_n 3, 1) := by decide +kernel
theorem dX2_heldAfter_26 : decode cX2_heldAfter 26 = .ok (.baload, 1) := by decide +kernel
theorem dX2_heldAfter_27 : decode cX2_heldAfter 27 = .ok (.ifCond .ne 19, 3) := by decide +kernel
theorem dX2_heldAfter_30 : decode cX2_heldAfter 30 = .ok (.aload_n 0, 1) := by decide +kernel
theorem dX2_heldAfter_31 : decode cX2_heldAfter 31 = .ok (.getfield 15, 3) := by decide +kernel
theorem dX2_heldAfter_34 : decode cX2_heldAfter 34 = .ok (.getfield 77, 3) := by decide +kernel
theorem dX2_heldAfter_37 : decode cX2_heldAfter 37 = .ok (.iload_n 3, 1) := by decide +kernel
theorem dX2_heldAfter_38 : decode cX2_heldAfter 38 = .ok (.iaload, 1) := by decide +kernel
theorem dX2_heldAfter_39 : decode cX2_heldAfter 39 = .ok (.iload_n 1, 1) := by decide +kernel
theorem dX2_heldAfter_40 : decode cX2_heldAfter 40 = .ok (.invokestatic 49, 3) := by decide +kernel
theorem dX2_heldAfter_43 : decode cX2_heldAfter 43 = .ok (.ifCond .ne 7, 3) := by decide +kernel
theorem dX2_heldAfter_46 : decode cX2_heldAfter 46 = .ok (.iconst 1, 1) := by decide +kernel
theorem dX2_heldAfter_47 : decode cX2_heldAfter 47 = .ok (.goto 4, 3) := by decide +kernel
theorem dX2_heldAfter_50 : decode cX2_heldAfter 50 = .ok (.iconst 0, 1) := by decide +kernel
theorem dX2_heldAfter_51 : decode cX2_heldAfter 51 = .ok (.istore 4, 2) := by decide +kernel
theorem dX2_heldAfter_53 : decode cX2_heldAfter 53 = .ok (.iload_n 1, 1) := by decide +kernel
theorem dX2_heldAfter_54 : decode cX2_heldAfter 54 = .ok (.iload_n 3, 1) := by decide +kernel
theorem dX2_heldAfter_55 : decode cX2_heldAfter 55 = .ok (.invokestatic 42, 3) := by decide +kernel
theorem dX2_heldAfter_58 : decode cX2_heldAfter 58 = .ok (.ifCond .eq 20, 3) := by decide +kernel
theorem dX2_heldAfter_61 : decode cX2_heldAfter 61 = .ok (.iload 4, 2) := by decide +kernel
theorem dX2_heldAfter_63 : decode cX2_heldAfter 63 = .ok (.ifCond .eq 15, 3) := by decide +kernel
theorem dX2_heldAfter_66 : decode cX2_heldAfter 66 = .ok (.iload_n 2, 1) := by decide +kernel
theorem dX2_heldAfter_67 : decode cX2_heldAfter 67 = .ok (.aload_n 0, 1) := by decide +kernel
theorem dX2_heldAfter_68 : decode cX2_heldAfter 68 = .ok (.getfield 15, 3) := by decide +kernel
theorem dX2_heldAfter_71 : decode cX2_heldAfter 71 = .ok (.getfield 55, 3) := by decide +kernel
theorem dX2_heldAfter_74 : decode cX2_heldAfter 74 = .ok (.iload_n 3, 1) := by decide +kernel
theorem dX2_heldAfter_75 : decode cX2_heldAfter 75 = .ok (.iaload, 1) := by decide +kernel
theorem dX2_heldAfter_76 : decode cX2_heldAfter 76 = .ok (.iadd, 1) := by decide +kernel
theorem dX2_heldAfter_77 : decode cX2_heldAfter 77 = .ok (.istore_n 2, 1) := by decide +kernel
theorem dX2_heldAfter_78 : decode cX2_heldAfter 78 = .ok (.iinc 3 1, 3) := by decide +kernel
theorem dX2_heldAfter_81 : decode cX2_heldAfter 81 = .ok (.goto (-77), 3) := by decide +kernel
theorem dX2_heldAfter_84 : decode cX2_heldAfter 84 = .ok (.iload_n 2, 1) := by decide +kernel
theorem dX2_heldAfter_85 : decode cX2_heldAfter 85 = .ok (.ireturn, 1) := by decide +kernel
theorem dX3_init_0 : decode cX3_init 0 = .ok (.aload_n 0, 1) := by decide +kernel
theorem dX3_init_1 : decode cX3_init 1 = .ok (.invokespecial 3, 3) := by decide +kernel
theorem dX3_init_4 : decode cX3_init 4 = .ok (.aload_n 0, 1) := by decide +kernel
theorem dX3_init_5 : decode cX3_init 5 = .ok (.bipush 12, 2) := by decide +kernel
theorem dX3_init_7 : decode cX3_init 7 = .ok (.newarray .int, 2) := by decide +kernel
theorem dX3_init_9 : decode cX3_init 9 = .ok (.putfield 9, 3) := by decide +kernel
theorem dX3_init_12 : decode cX3_init 12 = .ok (.aload_n 0, 1) := by decide +kernel
theorem dX3_init_13 : decode cX3_init 13 = .ok (.bipush 12, 2) := by decide +kernel
theorem dX3_init_15 : decode cX3_init 15 = .ok (.newarray .int, 2) := by decide +kernel
theorem dX3_init_17 : decode cX3_init 17 = .ok (.putfield 15, 3) := by decide +kernel
theorem dX3_init_20 : decode cX3_init 20 = .ok (.aload_n 0, 1) := by decide +kernel
theorem dX3_init_21 : decode cX3_init 21 = .ok (.aload_n 1, 1) := by decide +kernel
theorem dX3_init_22 : decode cX3_init 22 = .ok (.putfield 18, 3) := by decide +kernel
theorem dX3_init_25 : decode cX3_init 25 = .ok (.return_, 1) := by decide +kernel
set_option maxRecDepth 20000 in
theorem ggX3_assign_X3_sortBySize : GoodIn wsX3_assign wsX3_sortBySize := goodIn_ca (goodIn_r _ [14, 2, 3, 15, 16, 4, 36, 37, 38, 39, 40, 41, 42, 43, 44, 45, 46, 47, 48, 49, 50, 51] (by decide +kernel) (by decide +kernel)) (goodIn_sub (fun _ h => List.mem_cons_of_mem _ (List.mem_append_right _ h)) (by decide +kernel))
set_option maxRecDepth 20000 in
theorem gX3_assign_X3_sortBySize : GoodIn wsX3_assign (wsV RX3 22 RX3 yX3_sortBySize wsX3_sortBySize) := goodIn_app (goodIn_of _ (by decide +kernel)) ggX3_assign_X3_sortBySize
set_option maxRecDepth 20000 in
theorem ggX3_assign_X3_lowestStart : GoodIn wsX3_assign wsX3_lowestStart := goodIn_ca (goodIn_r _ [20, 4, 21, 22, 23, 13, 24, 2, 5, 16, 25, 26, 27, 28, 29, 30, 31, 32, 33, 34, 35, 36, 37, 38, 39, 40, 41, 42, 43, 44, 45, 46, 47, 48, 49, 50, 51] (by decide +kernel) (by decide +kernel)) (goodIn_sub (fun _ h => List.mem_cons_of_mem _ (List.mem_append_right _ h)) (by decide +kernel))
set_option maxRecDepth 20000 in
theorem gX3_assign_X3_lowestStart : GoodIn wsX3_assign (wsV RX3 34 RX3 yX3_lowestStart wsX3_lowestStart) := goodIn_app (goodIn_of _ (by decide +kernel)) ggX3_assign_X3_lowestStart
set_option maxRecDepth 20000 in
theorem ggX3_assign_X3_end : GoodIn wsX3_assign wsX3_end := goodIn_ca (goodIn_r _ [35, 5, 2, 16, 36, 37, 38, 39, 40, 41, 42, 43, 44, 45, 46, 47, 48, 49, 50, 51] (by decide +kernel) (by decide +kernel)) (goodIn_sub (fun _ h => List.mem_cons_of_mem _ (List.mem_append_right _ h)) (by decide +kernel))
set_option maxRecDepth 20000 in
theorem gX3_assign_X3_end : GoodIn wsX3_assign (wsV RX3 38 RX3 yX3_end wsX3_end) := goodIn_app (goodIn_of _ (by decide +kernel)) ggX3_assign_X3_end
theorem dX3_assign_0 : decode cX3_assign 0 = .ok (.aload_n 0, 1) := by decide +kernel
theorem dX3_assign_1 : decode cX3_assign 1 = .ok (.invokevirtual 22, 3) := by decide +kernel
theorem dX3_assign_4 : decode cX3_assign 4 = .ok (.aload_n 0, 1) := by decide +kernel
theorem dX3_assign_5 : decode cX3_assign 5 = .ok (.iconst 0, 1) := by decide +kernel
theorem dX3_assign_6 : decode cX3_assign 6 = .ok (.putfield 25, 3) := by decide +kernel
theorem dX3_assign_9 : decode cX3_assign 9 = .ok (.iconst 0, 1) := by decide +kernel
theorem dX3_assign_10 : decode cX3_assign 10 = .ok (.istore_n 1, 1) := by decide +kernel
theorem dX3_assign_11 : decode cX3_assign 11 = .ok (.iload_n 1, 1) := by decide +kernel
theorem dX3_assign_12 : decode cX3_assign 12 = .ok (.aload_n 0, 1) := by decide +kernel
theorem dX3_assign_13 : decode cX3_assign 13 = .ok (.getfield 18, 3) := by decide +kernel
theorem dX3_assign_16 : decode cX3_assign 16 = .ok (.getfield 29, 3) := by decide +kernel
theorem dX3_assign_19 : decode cX3_assign 19 = .ok (.if_icmp .ge 43, 3) := by decide +kernel
theorem dX3_assign_22 : decode cX3_assign 22 = .ok (.aload_n 0, 1) := by decide +kernel
theorem dX3_assign_23 : decode cX3_assign 23 = .ok (.getfield 9, 3) := by decide +kernel
theorem dX3_assign_26 : decode cX3_assign 26 = .ok (.iload_n 1, 1) := by decide +kernel
theorem dX3_assign_27 : decode cX3_assign 27 = .ok (.iaload, 1) := by decide +kernel
theorem dX3_assign_28 : decode cX3_assign 28 = .ok (.istore_n 2, 1) := by decide +kernel
theorem dX3_assign_29 : decode cX3_assign 29 = .ok (.aload_n 0, 1) := by decide +kernel
theorem dX3_assign_30 : decode cX3_assign 30 = .ok (.getfield 15, 3) := by decide +kernel
theorem dX3_assign_33 : decode cX3_assign 33 = .ok (.iload_n 2, 1) := by decide +kernel
theorem dX3_assign_34 : decode cX3_assign 34 = .ok (.aload_n 0, 1) := by decide +kernel
theorem dX3_assign_35 : decode cX3_assign 35 = .ok (.iload_n 1, 1) := by decide +kernel
theorem dX3_assign_36 : decode cX3_assign 36 = .ok (.invokevirtual 34, 3) := by decide +kernel
theorem dX3_assign_39 : decode cX3_assign 39 = .ok (.iastore, 1) := by decide +kernel
theorem dX3_assign_40 : decode cX3_assign 40 = .ok (.aload_n 0, 1) := by decide +kernel
theorem dX3_assign_41 : decode cX3_assign 41 = .ok (.aload_n 0, 1) := by decide +kernel
theorem dX3_assign_42 : decode cX3_assign 42 = .ok (.getfield 25, 3) := by decide +kernel
theorem dX3_assign_45 : decode cX3_assign 45 = .ok (.aload_n 0, 1) := by decide +kernel
theorem dX3_assign_46 : decode cX3_assign 46 = .ok (.iload_n 2, 1) := by decide +kernel
theorem dX3_assign_47 : decode cX3_assign 47 = .ok (.invokevirtual 38, 3) := by decide +kernel
theorem dX3_assign_50 : decode cX3_assign 50 = .ok (.invokestatic 41, 3) := by decide +kernel
theorem dX3_assign_53 : decode cX3_assign 53 = .ok (.putfield 25, 3) := by decide +kernel
theorem dX3_assign_56 : decode cX3_assign 56 = .ok (.iinc 1 1, 3) := by decide +kernel
theorem dX3_assign_59 : decode cX3_assign 59 = .ok (.goto (-48), 3) := by decide +kernel
theorem dX3_assign_62 : decode cX3_assign 62 = .ok (.return_, 1) := by decide +kernel
theorem dX3_sortBySize_0 : decode cX3_sortBySize 0 = .ok (.iconst 0, 1) := by decide +kernel
theorem dX3_sortBySize_1 : decode cX3_sortBySize 1 = .ok (.istore_n 1, 1) := by decide +kernel
theorem dX3_sortBySize_2 : decode cX3_sortBySize 2 = .ok (.iload_n 1, 1) := by decide +kernel
theorem dX3_sortBySize_3 : decode cX3_sortBySize 3 = .ok (.aload_n 0, 1) := by decide +kernel
theorem dX3_sortBySize_4 : decode cX3_sortBySize 4 = .ok (.getfield 18, 3) := by decide +kernel
theorem dX3_sortBySize_7 : decode cX3_sortBySize 7 = .ok (.getfield 29, 3) := by decide +kernel
theorem dX3_sortBySize_10 : decode cX3_sortBySize 10 = .ok (.if_icmp .ge 80, 3) := by decide +kernel
theorem dX3_sortBySize_13 : decode cX3_sortBySize 13 = .ok (.aload_n 0, 1) := by decide +kernel
theorem dX3_sortBySize_14 : decode cX3_sortBySize 14 = .ok (.getfield 18, 3) := by decide +kernel
theorem dX3_sortBySize_17 : decode cX3_sortBySize 17 = .ok (.getfield 47, 3) := by decide +kernel
theorem dX3_sortBySize_20 : decode cX3_sortBySize 20 = .ok (.iload_n 1, 1) := by decide +kernel
theorem dX3_sortBySize_21 : decode cX3_sortBySize 21 = .ok (.iaload, 1) := by decide +kernel
theorem dX3_sortBySize_22 : decode cX3_sortBySize 22 = .ok (.istore_n 2, 1) := by decide +kernel
theorem dX3_sortBySize_23 : decode cX3_sortBySize 23 = .ok (.iload_n 1, 1) := by decide +kernel
theorem dX3_sortBySize_24 : decode cX3_sortBySize 24 = .ok (.istore_n 3, 1) := by decide +kernel
theorem dX3_sortBySize_25 : decode cX3_sortBySize 25 = .ok (.iload_n 3, 1) := by decide +kernel
theorem dX3_sortBySize_26 : decode cX3_sortBySize 26 = .ok (.ifCond .le 51, 3) := by decide +kernel
theorem dX3_sortBySize_29 : decode cX3_sortBySize 29 = .ok (.aload_n 0, 1) := by decide +kernel
theorem dX3_sortBySize_30 : decode cX3_sortBySize 30 = .ok (.getfield 18, 3) := by decide +kernel
theorem dX3_sortBySize_33 : decode cX3_sortBySize 33 = .ok (.getfield 50, 3) := by decide +kernel
theorem dX3_sortBySize_36 : decode cX3_sortBySize 36 = .ok (.aload_n 0, 1) := by decide +kernel
theorem dX3_sortBySize_37 : decode cX3_sortBySize 37 = .ok (.getfield 9, 3) := by decide +kernel
theorem dX3_sortBySize_40 : decode cX3_sortBySize 40 = .ok (.iload_n 3, 1) := by decide +kernel
theorem dX3_sortBySize_41 : decode cX3_sortBySize 41 = .ok (.iconst 1, 1) := by decide +kernel
theorem dX3_sortBySize_42 : decode cX3_sortBySize 42 = .ok (.isub, 1) := by decide +kernel
theorem dX3_sortBySize_43 : decode cX3_sortBySize 43 = .ok (.iaload, 1) := by decide +kernel
theorem dX3_sortBySize_44 : decode cX3_sortBySize 44 = .ok (.iaload, 1) := by decide +kernel
theorem dX3_sortBySize_45 : decode cX3_sortBySize 45 = .ok (.aload_n 0, 1) := by decide +kernel
theorem dX3_sortBySize_46 : decode cX3_sortBySize 46 = .ok (.getfield 18, 3) := by decide +kernel
theorem dX3_sortBySize_49 : decode cX3_sortBySize 49 = .ok (.getfield 50, 3) := by decide +kernel
theorem dX3_sortBySize_52 : decode cX3_sortBySize 52 = .ok (.iload_n 2, 1) := by decide +kernel
theorem dX3_sortBySize_53 : decode cX3_sortBySize 53 = .ok (.iaload, 1) := by decide +kernel
theorem dX3_sortBySize_54 : decode cX3_sortBySize 54 = .ok (.if_icmp .ge 23, 3) := by decide +kernel
theorem dX3_sortBySize_57 : decode cX3_sortBySize 57 = .ok (.aload_n 0, 1) := by decide +kernel
theorem dX3_sortBySize_58 : decode cX3_sortBySize 58 = .ok (.getfield 9, 3) := by decide +kernel
theorem dX3_sortBySize_61 : decode cX3_sortBySize 61 = .ok (.iload_n 3, 1) := by decide +kernel
theorem dX3_sortBySize_62 : decode cX3_sortBySize 62 = .ok (.aload_n 0, 1) := by decide +kernel
theorem dX3_sortBySize_63 : decode cX3_sortBySize 63 = .ok (.getfield 9, 3) := by decide +kernel
theorem dX3_sortBySize_66 : decode cX3_sortBySize 66 = .ok (.iload_n 3, 1) := by decide +kernel
theorem dX3_sortBySize_67 : decode cX3_sortBySize 67 = .ok (.iconst 1, 1) := by decide +kernel
theorem dX3_sortBySize_68 : decode cX3_sortBySize 68 = .ok (.isub, 1) := by decide +kernel
theorem dX3_sortBySize_69 : decode cX3_sortBySize 69 = .ok (.iaload, 1) := by decide +kernel
theorem dX3_sortBySize_70 : decode cX3_sortBySize 70 = .ok (.iastore, 1) := by decide +kernel
theorem dX3_sortBySize_71 : decode cX3_sortBySize 71 = .ok (.iinc 3 (-1), 3) := by decide +kernel
theorem dX3_sortBySize_74 : decode cX3_sortBySize 74 = .ok (.goto (-49), 3) := by decide +kernel
theorem dX3_sortBySize_77 : decode cX3_sortBySize 77 = .ok (.aload_n 0, 1) := by decide +kernel
theorem dX3_sortBySize_78 : decode cX3_sortBySize 78 = .ok (.getfield 9, 3) := by decide +kernel
theorem dX3_sortBySize_81 : decode cX3_sortBySize 81 = .ok (.iload_n 3, 1) := by decide +kernel
theorem dX3_sortBySize_82 : decode cX3_sortBySize 82 = .ok (.iload_n 2, 1) := by decide +kernel
theorem dX3_sortBySize_83 : decode cX3_sortBySize 83 = .ok (.iastore, 1) := by decide +kernel
theorem dX3_sortBySize_84 : decode cX3_sortBySize 84 = .ok (.iinc 1 1, 3) := by decide +kernel
theorem dX3_sortBySize_87 : decode cX3_sortBySize 87 = .ok (.goto (-85), 3) := by decide +kernel
theorem dX3_sortBySize_90 : decode cX3_sortBySize 90 = .ok (.return_, 1) := by decide +kernel
set_option maxRecDepth 20000 in
theorem ggX3_lowestStart_X3_isInTheWay : GoodIn wsX3_lowestStart wsX3_isInTheWay := goodIn_ca (goodIn_r _ [6, 7, 8, 9, 10, 11, 12, 13, 14, 15, 16, 17, 18, 19, 5, 20, 21, 22, 23, 24, 25, 26, 27, 28, 29, 30, 31, 32, 33, 34, 35, 36] (by decide +kernel) (by decide +kernel)) (goodIn_sub (fun _ h => List.mem_cons_of_mem _ (List.mem_append_right _ h)) (by decide +kernel))
set_option maxRecDepth 20000 in
theorem gX3_lowestStart_X3_isInTheWay : GoodIn wsX3_lowestStart (wsV RX3 53 RX3 yX3_isInTheWay wsX3_isInTheWay) := goodIn_app (goodIn_of _ (by decide +kernel)) ggX3_lowestStart_X3_isInTheWay
set_option maxRecDepth 20000 in
theorem ggX3_lowestStart_X3_end : GoodIn wsX3_lowestStart wsX3_end := goodIn_ca (goodIn_r _ [20, 8, 7, 9, 21, 22, 23, 24, 25, 26, 27, 28, 29, 30, 31, 32, 33, 34, 35, 36] (by decide +kernel) (by decide +kernel)) (goodIn_sub (fun _ h => List.mem_cons_of_mem _ (List.mem_append_right _ h)) (by decide +kernel))
set_option maxRecDepth 20000 in
theorem gX3_lowestStart_X3_end : GoodIn wsX3_lowestStart (wsV RX3 38 RX3 yX3_end wsX3_end) := goodIn_app (goodIn_of _ (by decide +kernel)) ggX3_lowestStart_X3_end
theorem dX3_lowestStart_0 : decode cX3_lowestStart 0 = .ok (.aload_n 0, 1) := by decide +kernel
theorem dX3_lowestStart_1 : decode cX3_lowestStart 1 = .ok (.getfield 9, 3) := by decide +kernel
theorem dX3_lowestStart_4 : decode cX3_lowestStart 4 = .ok (.iload_n 1, 1) := by decide +kernel
theorem dX3_lowestStart_5 : decode cX3_lowestStart 5 = .ok (.iaload, 1) := by decide +kernel
theorem dX3_lowestStart_6 : decode cX3_lowestStart 6 = .ok (.istore_n 2, 1) := by decide +kernel
theorem dX3_lowestStart_7 : decode cX3_lowestStart 7 = .ok (.iconst 0, 1) := by decide +kernel
theorem dX3_lowestStart_8 : decode cX3_lowestStart 8 = .ok (.istore_n 3, 1) := by decide +kernel
theorem dX3_lowestStart_9 : decode cX3_lowestStart 9 = .ok (.iconst 0, 1) := by decide +kernel
theorem dX3_lowestStart_10 : decode cX3_lowestStart 10 = .ok (.istore 4, 2) := by decide +kernel
theorem dX3_lowestStart_12 : decode cX3_lowestStart 12 = .ok (.iload 4, 2) := by decide +kernel
theorem dX3_lowestStart_14 : decode cX3_lowestStart 14 = .ok (.iload_n 1, 1) := by decide +kernel
theorem dX3_lowestStart_15 : decode cX3_lowestStart 15 = .ok (.if_icmp .ge 52, 3) := by decide +kernel
theorem dX3_lowestStart_18 : decode cX3_lowestStart 18 = .ok (.iconst 0, 1) := by decide +kernel
theorem dX3_lowestStart_19 : decode cX3_lowestStart 19 = .ok (.istore 5, 2) := by decide +kernel
theorem dX3_lowestStart_21 : decode cX3_lowestStart 21 = .ok (.iload 5, 2) := by decide +kernel
theorem dX3_lowestStart_23 : decode cX3_lowestStart 23 = .ok (.iload_n 1, 1) := by decide +kernel
theorem dX3_lowestStart_24 : decode cX3_lowestStart 24 = .ok (.if_icmp .ge 37, 3) := by decide +kernel
theorem dX3_lowestStart_27 : decode cX3_lowestStart 27 = .ok (.aload_n 0, 1) := by decide +kernel
theorem dX3_lowestStart_28 : decode cX3_lowestStart 28 = .ok (.aload_n 0, 1) := by decide +kernel
theorem dX3_lowestStart_29 : decode cX3_lowestStart 29 = .ok (.getfield 9, 3) := by decide +kernel
theorem dX3_lowestStart_32 : decode cX3_lowestStart 32 = .ok (.iload 5, 2) := by decide +kernel
theorem dX3_lowestStart_34 : decode cX3_lowestStart 34 = .ok (.iaload, 1) := by decide +kernel
theorem dX3_lowestStart_35 : decode cX3_lowestStart 35 = .ok (.iload_n 2, 1) := by decide +kernel
theorem dX3_lowestStart_36 : decode cX3_lowestStart 36 = .ok (.iload_n 3, 1) := by decide +kernel
theorem dX3_lowestStart_37 : decode cX3_lowestStart 37 = .ok (.invokevirtual 53, 3) := by decide +kernel
theorem dX3_lowestStart_40 : decode cX3_lowestStart 40 = .ok (.ifCond .eq 15, 3) := by decide +kernel
theorem dX3_lowestStart_43 : decode cX3_lowestStart 43 = .ok (.aload_n 0, 1) := by decide +kernel
theorem dX3_lowestStart_44 : decode cX3_lowestStart 44 = .ok (.aload_n 0, 1) := by decide +kernel
theorem dX3_lowestStart_45 : decode cX3_lowestStart 45 = .ok (.getfield 9, 3) := by decide +kernel
theorem dX3_lowestStart_48 : decode cX3_lowestStart 48 = .ok (.iload 5, 2) := by decide +kernel
theorem dX3_lowestStart_50 : decode cX3_lowestStart 50 = .ok (.iaload, 1) := by decide +kernel
theorem dX3_lowestStart_51 : decode cX3_lowestStart 51 = .ok (.invokevirtual 38, 3) := by decide +kernel
theorem dX3_lowestStart_54 : decode cX3_lowestStart 54 = .ok (.istore_n 3, 1) := by decide +kernel
theorem dX3_lowestStart_55 : decode cX3_lowestStart 55 = .ok (.iinc 5 1, 3) := by decide +kernel
theorem dX3_lowestStart_58 : decode cX3_lowestStart 58 = .ok (.goto (-37), 3) := by decide +kernel
theorem dX3_lowestStart_61 : decode cX3_lowestStart 61 = .ok (.iinc 4 1, 3) := by decide +kernel
theorem dX3_lowestStart_64 : decode cX3_lowestStart 64 = .ok (.goto (-52), 3) := by decide +kernel
theorem dX3_lowestStart_67 : decode cX3_lowestStart 67 = .ok (.iload_n 3, 1) := by decide +kernel
theorem dX3_lowestStart_68 : decode cX3_lowestStart 68 = .ok (.ireturn, 1) := by decide +kernel
set_option maxRecDepth 20000 in
theorem ggX3_isInTheWay_X4_liveTogether : GoodIn wsX3_isInTheWay wsX4_liveTogether := goodIn_ca (goodIn_r _ [8, 9, 10, 20, 21, 22, 23, 24, 25, 26, 27, 28, 29, 30, 31] (by decide +kernel) (by decide +kernel)) (goodIn_sub (fun _ h => List.mem_cons_of_mem _ (List.mem_append_right _ h)) (by decide +kernel))
set_option maxRecDepth 20000 in
theorem gX3_isInTheWay_X4_liveTogether : GoodIn wsX3_isInTheWay (wsV RX3 57 RX4 yX4_liveTogether wsX4_liveTogether) := goodIn_app (goodIn_of _ (by decide +kernel)) ggX3_isInTheWay_X4_liveTogether
set_option maxRecDepth 20000 in
theorem ggX3_isInTheWay_X3_end : GoodIn wsX3_isInTheWay wsX3_end := goodIn_ca (goodIn_r _ [15, 2, 1, 3, 16, 17, 18, 19, 20, 21, 22, 23, 24, 25, 26, 27, 28, 29, 30, 31] (by decide +kernel) (by decide +kernel)) (goodIn_sub (fun _ h => List.mem_cons_of_mem _ (List.mem_append_right _ h)) (by decide +kernel))
set_option maxRecDepth 20000 in
theorem gX3_isInTheWay_X3_end : GoodIn wsX3_isInTheWay (wsV RX3 38 RX3 yX3_end wsX3_end) := goodIn_app (goodIn_of _ (by decide +kernel)) ggX3_isInTheWay_X3_end
theorem dX3_isInTheWay_0 : decode cX3_isInTheWay 0 = .ok (.aload_n 0, 1) := by decide +kernel
theorem dX3_isInTheWay_1 : decode cX3_isInTheWay 1 = .ok (.getfield 18, 3) := by decide +kernel
theorem dX3_isInTheWay_4 : decode cX3_isInTheWay 4 = .ok (.iload_n 1, 1) := by decide +kernel
theorem dX3_isInTheWay_5 : decode cX3_isInTheWay 5 = .ok (.iload_n 2, 1) := by decide +kernel
theorem dX3_isInTheWay_6 : decode cX3_isInTheWay 6 = .ok (.invokevirtual 57, 3) := by decide +kernel
theorem dX3_isInTheWay_9 : decode cX3_isInTheWay 9 = .ok (.ifCond .eq 36, 3) := by decide +kernel
theorem dX3_isInTheWay_12 : decode cX3_isInTheWay 12 = .ok (.iload_n 3, 1) := by decide +kernel
theorem dX3_isInTheWay_13 : decode cX3_isInTheWay 13 = .ok (.aload_n 0, 1) := by decide +kernel
theorem dX3_isInTheWay_14 : decode cX3_isInTheWay 14 = .ok (.iload_n 1, 1) := by decide +kernel
theorem dX3_isInTheWay_15 : decode cX3_isInTheWay 15 = .ok (.invokevirtual 38, 3) := by decide +kernel
theorem dX3_isInTheWay_18 : decode cX3_isInTheWay 18 = .ok (.if_icmp .ge 27, 3) := by decide +kernel
theorem dX3_isInTheWay_21 : decode cX3_isInTheWay 21 = .ok (.aload_n 0, 1) := by decide +kernel
theorem dX3_isInTheWay_22 : decode cX3_isInTheWay 22 = .ok (.getfield 15, 3) := by decide +kernel
theorem dX3_isInTheWay_25 : decode cX3_isInTheWay 25 = .ok (.iload_n 1, 1) := by decide +kernel
theorem dX3_isInTheWay_26 : decode cX3_isInTheWay 26 = .ok (.iaload, 1) := by decide +kernel
theorem dX3_isInTheWay_27 : decode cX3_isInTheWay 27 = .ok (.iload_n 3, 1) := by decide +kernel
theorem dX3_isInTheWay_28 : decode cX3_isInTheWay 28 = .ok (.aload_n 0, 1) := by decide +kernel
theorem dX3_isInTheWay_29 : decode cX3_isInTheWay 29 = .ok (.getfield 18, 3) := by decide +kernel
theorem dX3_isInTheWay_32 : decode cX3_isInTheWay 32 = .ok (.getfield 50, 3) := by decide +kernel
theorem dX3_isInTheWay_35 : decode cX3_isInTheWay 35 = .ok (.iload_n 2, 1) := by decide +kernel
theorem dX3_isInTheWay_36 : decode cX3_isInTheWay 36 = .ok (.iaload, 1) := by decide +kernel
theorem dX3_isInTheWay_37 : decode cX3_isInTheWay 37 = .ok (.iadd, 1) := by decide +kernel
theorem dX3_isInTheWay_38 : decode cX3_isInTheWay 38 = .ok (.if_icmp .ge 7, 3) := by decide +kernel
theorem dX3_isInTheWay_41 : decode cX3_isInTheWay 41 = .ok (.iconst 1, 1) := by decide +kernel
theorem dX3_isInTheWay_42 : decode cX3_isInTheWay 42 = .ok (.goto 4, 3) := by decide +kernel
theorem dX3_isInTheWay_45 : decode cX3_isInTheWay 45 = .ok (.iconst 0, 1) := by decide +kernel
theorem dX3_isInTheWay_46 : decode cX3_isInTheWay 46 = .ok (.ireturn, 1) := by decide +kernel
theorem dX3_end_0 : decode cX3_end 0 = .ok (.aload_n 0, 1) := by decide +kernel
theorem dX3_end_1 : decode cX3_end 1 = .ok (.getfield 15, 3) := by decide +kernel
theorem dX3_end_4 : decode cX3_end 4 = .ok (.iload_n 1, 1) := by decide +kernel
theorem dX3_end_5 : decode cX3_end 5 = .ok (.iaload, 1) := by decide +kernel
theorem dX3_end_6 : decode cX3_end 6 = .ok (.aload_n 0, 1) := by decide +kernel
theorem dX3_end_7 : decode cX3_end 7 = .ok (.getfield 18, 3) := by decide +kernel
theorem dX3_end_10 : decode cX3_end 10 = .ok (.getfield 50, 3) := by decide +kernel
theorem dX3_end_13 : decode cX3_end 13 = .ok (.iload_n 1, 1) := by decide +kernel
theorem dX3_end_14 : decode cX3_end 14 = .ok (.iaload, 1) := by decide +kernel
theorem dX3_end_15 : decode cX3_end 15 = .ok (.iadd, 1) := by decide +kernel
theorem dX3_end_16 : decode cX3_end 16 = .ok (.ireturn, 1) := by decide +kernel
theorem dX4_init_0 : decode cX4_init 0 = .ok (.aload_n 0, 1) := by decide +kernel
theorem dX4_init_1 : decode cX4_init 1 = .ok (.invokespecial 3, 3) := by decide +kernel
theorem dX4_init_4 : decode cX4_init 4 = .ok (.aload_n 0, 1) := by decide +kernel
theorem dX4_init_5 : decode cX4_init 5 = .ok (.bipush 12, 2) := by decide +kernel
theorem dX4_init_7 : decode cX4_init 7 = .ok (.newarray .int, 2) := by decide +kernel
theorem dX4_init_9 : decode cX4_init 9 = .ok (.putfield 9, 3) := by decide +kernel
theorem dX4_init_12 : decode cX4_init 12 = .ok (.aload_n 0, 1) := by decide +kernel
theorem dX4_init_13 : decode cX4_init 13 = .ok (.bipush 12, 2) := by decide +kernel
theorem dX4_init_15 : decode cX4_init 15 = .ok (.newarray .int, 2) := by decide +kernel
theorem dX4_init_17 : decode cX4_init 17 = .ok (.putfield 15, 3) := by decide +kernel
theorem dX4_init_20 : decode cX4_init 20 = .ok (.aload_n 0, 1) := by decide +kernel
theorem dX4_init_21 : decode cX4_init 21 = .ok (.bipush 12, 2) := by decide +kernel
theorem dX4_init_23 : decode cX4_init 23 = .ok (.newarray .int, 2) := by decide +kernel
theorem dX4_init_25 : decode cX4_init 25 = .ok (.putfield 18, 3) := by decide +kernel
theorem dX4_init_28 : decode cX4_init 28 = .ok (.aload_n 0, 1) := by decide +kernel
theorem dX4_init_29 : decode cX4_init 29 = .ok (.bipush 12, 2) := by decide +kernel
theorem dX4_init_31 : decode cX4_init 31 = .ok (.newarray .int, 2) := by decide +kernel
theorem dX4_init_33 : decode cX4_init 33 = .ok (.putfield 21, 3) := by decide +kernel
theorem dX4_init_36 : decode cX4_init 36 = .ok (.aload_n 0, 1) := by decide +kernel
theorem dX4_init_37 : decode cX4_init 37 = .ok (.bipush 12, 2) := by decide +kernel
theorem dX4_init_39 : decode cX4_init 39 = .ok (.newarray .int, 2) := by decide +kernel
theorem dX4_init_41 : decode cX4_init 41 = .ok (.putfield 24, 3) := by decide +kernel
theorem dX4_init_44 : decode cX4_init 44 = .ok (.aload_n 0, 1) := by decide +kernel
theorem dX4_init_45 : decode cX4_init 45 = .ok (.bipush 12, 2) := by decide +kernel
theorem dX4_init_47 : decode cX4_init 47 = .ok (.newarray .int, 2) := by decide +kernel
theorem dX4_init_49 : decode cX4_init 49 = .ok (.putfield 27, 3) := by decide +kernel
theorem dX4_init_52 : decode cX4_init 52 = .ok (.aload_n 0, 1) := by decide +kernel
theorem dX4_init_53 : decode cX4_init 53 = .ok (.bipush 12, 2) := by decide +kernel
theorem dX4_init_55 : decode cX4_init 55 = .ok (.newarray .int, 2) := by decide +kernel
theorem dX4_init_57 : decode cX4_init 57 = .ok (.putfield 30, 3) := by decide +kernel
theorem dX4_init_60 : decode cX4_init 60 = .ok (.aload_n 0, 1) := by decide +kernel
theorem dX4_init_61 : decode cX4_init 61 = .ok (.bipush 12, 2) := by decide +kernel
theorem dX4_init_63 : decode cX4_init 63 = .ok (.newarray .int, 2) := by decide +kernel
theorem dX4_init_65 : decode cX4_init 65 = .ok (.putfield 33, 3) := by decide +kernel
theorem dX4_init_68 : decode cX4_init 68 = .ok (.aload_n 0, 1) := by decide +kernel
theorem dX4_init_69 : decode cX4_init 69 = .ok (.aload_n 1, 1) := by decide +kernel
theorem dX4_init_70 : decode cX4_init 70 = .ok (.putfield 36, 3) := by decide +kernel
theorem dX4_init_73 : decode cX4_init 73 = .ok (.return_, 1) := by decide +kernel
set_option maxRecDepth 20000 in
theorem ggX4_measure_X4_findNeighbours : GoodIn wsX4_measure wsX4_findNeighbours := goodIn_ca (goodIn_r _ [9, 10, 11, 12, 13, 14, 15, 16, 17, 18, 19, 20, 21, 22, 23, 24, 25, 26, 27, 28, 89, 90, 91, 92, 93, 94, 95, 96, 97, 98, 99, 100, 101, 102, 103, 104, 105, 106, 107] (by decide +kernel) (by decide +kernel)) (goodIn_sub (fun _ h => List.mem_cons_of_mem _ (List.mem_append_right _ h)) (by decide +kernel))
set_option maxRecDepth 20000 in
theorem gX4_measure_X4_findNeighbours : GoodIn wsX4_measure (wsV RX4 40 RX4 yX4_findNeighbours wsX4_findNeighbours) := goodIn_app (goodIn_of _ (by decide +kernel)) ggX4_measure_X4_findNeighbours
set_option maxRecDepth 20000 in
theorem ggX4_measure_X4_orderByNumbers : GoodIn wsX4_measure wsX4_orderByNumbers := goodIn_ca (goodIn_r _ [32, 11, 12, 33, 34, 35, 8, 36, 37, 38, 1, 14, 15, 16, 17, 39, 40, 41, 42, 43, 44, 45, 46, 13, 47, 48, 49, 50, 51, 25, 52, 53, 54, 55, 56, 2, 24, 26, 89, 90, 91, 92, 93, 94, 95, 96, 97, 98, 99, 100, 101, 102, 103, 104, 105, 106, 107] (by decide +kernel) (by decide +kernel)) (goodIn_sub (fun _ h => List.mem_cons_of_mem _ (List.mem_append_right _ h)) (by decide +kernel))
set_option maxRecDepth 20000 in
theorem gX4_measure_X4_orderByNumbers : GoodIn wsX4_measure (wsV RX4 43 RX4 yX4_orderByNumbers wsX4_orderByNumbers) := goodIn_app (goodIn_of _ (by decide +kernel)) ggX4_measure_X4_orderByNumbers
set_option maxRecDepth 20000 in
theorem ggX4_measure_X4_sizesFit : GoodIn wsX4_measure wsX4_sizesFit := goodIn_ca (goodIn_r _ [60, 11, 61, 62, 63, 64, 65, 66, 8, 67, 68, 3, 89, 90, 91, 92, 93, 94, 95, 96, 97, 98, 99, 100, 101, 102, 103, 104, 105, 106, 107] (by decide +kernel) (by decide +kernel)) (goodIn_sub (fun _ h => List.mem_cons_of_mem _ (List.mem_append_right _ h)) (by decide +kernel))
set_option maxRecDepth 20000 in
theorem gX4_measure_X4_sizesFit : GoodIn wsX4_measure (wsV RX4 50 RX4 yX4_sizesFit wsX4_sizesFit) := goodIn_app (goodIn_of _ (by decide +kernel)) ggX4_measure_X4_sizesFit
set_option maxRecDepth 20000 in
theorem ggX4_measure_X4_sizeOf : GoodIn wsX4_measure wsX4_sizeOf := goodIn_ca (goodIn_r _ [72, 11, 61, 62, 63, 64, 65, 66, 8, 67, 68, 3, 89, 90, 91, 92, 93, 94, 95, 96, 97, 98, 99, 100, 101, 102, 103, 104, 105, 106, 107] (by decide +kernel) (by decide +kernel)) (goodIn_sub (fun _ h => List.mem_cons_of_mem _ (List.mem_append_right _ h)) (by decide +kernel))
set_option maxRecDepth 20000 in
theorem gX4_measure_X4_sizeOf : GoodIn wsX4_measure (wsV RX4 54 RX4 yX4_sizeOf wsX4_sizeOf) := goodIn_app (goodIn_of _ (by decide +kernel)) ggX4_measure_X4_sizeOf
set_option maxRecDepth 20000 in
theorem ggX4_measure_X4_labelOf : GoodIn wsX4_measure wsX4_labelOf := goodIn_ca (goodIn_r _ [76, 11, 4, 68, 77, 78, 79, 80, 81, 82, 83, 84, 85, 86, 21, 87, 88, 89, 90, 91, 92, 93, 94, 95, 96, 97, 98, 99, 100, 101, 102, 103, 104, 105, 106, 107] (by decide +kernel) (by decide +kernel)) (goodIn_sub (fun _ h => List.mem_cons_of_mem _ (List.mem_append_right _ h)) (by decide +kernel))
set_option maxRecDepth 20000 in
theorem gX4_measure_X4_labelOf : GoodIn wsX4_measure (wsV RX4 58 RX4 yX4_labelOf wsX4_labelOf) := goodIn_app (goodIn_of _ (by decide +kernel)) ggX4_measure_X4_labelOf
theorem dX4_measure_0 : decode cX4_measure 0 = .ok (.aload_n 0, 1) := by decide +kernel
theorem dX4_measure_1 : decode cX4_measure 1 = .ok (.invokevirtual 40, 3) := by decide +kernel
theorem dX4_measure_4 : decode cX4_measure 4 = .ok (.aload_n 0, 1) := by decide +kernel
theorem dX4_measure_5 : decode cX4_measure 5 = .ok (.invokevirtual 43, 3) := by decide +kernel
theorem dX4_measure_8 : decode cX4_measure 8 = .ok (.iconst 0, 1) := by decide +kernel
theorem dX4_measure_9 : decode cX4_measure 9 = .ok (.istore_n 1, 1) := by decide +kernel
theorem dX4_measure_10 : decode cX4_measure 10 = .ok (.iload_n 1, 1) := by decide +kernel
theorem dX4_measure_11 : decode cX4_measure 11 = .ok (.aload_n 0, 1) := by decide +kernel
theorem dX4_measure_12 : decode cX4_measure 12 = .ok (.getfield 46, 3) := by decide +kernel
theorem dX4_measure_15 : decode cX4_measure 15 = .ok (.if_icmp .ge 48, 3) := by decide +kernel
theorem dX4_measure_18 : decode cX4_measure 18 = .ok (.aload_n 0, 1) := by decide +kernel
theorem dX4_measure_19 : decode cX4_measure 19 = .ok (.getfield 24, 3) := by decide +kernel
theorem dX4_measure_22 : decode cX4_measure 22 = .ok (.iload_n 1, 1) := by decide +kernel
theorem dX4_measure_23 : decode cX4_measure 23 = .ok (.iaload, 1) := by decide +kernel
theorem dX4_measure_24 : decode cX4_measure 24 = .ok (.istore_n 2, 1) := by decide +kernel
theorem dX4_measure_25 : decode cX4_measure 25 = .ok (.aload_n 0, 1) := by decide +kernel
theorem dX4_measure_26 : decode cX4_measure 26 = .ok (.iload_n 2, 1) := by decide +kernel
theorem dX4_measure_27 : decode cX4_measure 27 = .ok (.invokevirtual 50, 3) := by decide +kernel
theorem dX4_measure_30 : decode cX4_measure 30 = .ok (.ifCond .ne 5, 3) := by decide +kernel
theorem dX4_measure_33 : decode cX4_measure 33 = .ok (.iconst 0, 1) := by decide +kernel
theorem dX4_measure_34 : decode cX4_measure 34 = .ok (.ireturn, 1) := by decide +kernel
theorem dX4_measure_35 : decode cX4_measure 35 = .ok (.aload_n 0, 1) := by decide +kernel
theorem dX4_measure_36 : decode cX4_measure 36 = .ok (.getfield 18, 3) := by decide +kernel
theorem dX4_measure_39 : decode cX4_measure 39 = .ok (.iload_n 2, 1) := by decide +kernel
theorem dX4_measure_40 : decode cX4_measure 40 = .ok (.aload_n 0, 1) := by decide +kernel
theorem dX4_measure_41 : decode cX4_measure 41 = .ok (.iload_n 2, 1) := by decide +kernel
theorem dX4_measure_42 : decode cX4_measure 42 = .ok (.invokevirtual 54, 3) := by decide +kernel
theorem dX4_measure_45 : decode cX4_measure 45 = .ok (.iastore, 1) := by decide +kernel
theorem dX4_measure_46 : decode cX4_measure 46 = .ok (.aload_n 0, 1) := by decide +kernel
theorem dX4_measure_47 : decode cX4_measure 47 = .ok (.getfield 21, 3) := by decide +kernel
theorem dX4_measure_50 : decode cX4_measure 50 = .ok (.iload_n 2, 1) := by decide +kernel
theorem dX4_measure_51 : decode cX4_measure 51 = .ok (.aload_n 0, 1) := by decide +kernel
theorem dX4_measure_52 : decode cX4_measure 52 = .ok (.iload_n 2, 1) := by decide +kernel
theorem dX4_measure_53 : decode cX4_measure 53 = .ok (.invokevirtual 58, 3) := by decide +kernel
theorem dX4_measure_56 : decode cX4_measure 56 = .ok (.iastore, 1) := by decide +kernel
theorem dX4_measure_57 : decode cX4_measure 57 = .ok (.iinc 1 1, 3) := by decide +kernel
theorem dX4_measure_60 : decode cX4_measure 60 = .ok (.goto (-50), 3) := by decide +kernel
theorem dX4_measure_63 : decode cX4_measure 63 = .ok (.iconst 1, 1) := by decide +kernel
theorem dX4_measure_64 : decode cX4_measure 64 = .ok (.ireturn, 1) := by decide +kernel
set_option maxRecDepth 20000 in
theorem ggX4_arrange_X4_orderByLabels : GoodIn wsX4_arrange wsX4_orderByLabels := goodIn_ca (goodIn_r _ [8, 1, 2, 9, 10, 11, 12, 7, 13, 14, 15, 16, 17, 18, 19, 20, 21, 22, 23, 24, 25, 26, 27, 28, 29, 30, 31, 32, 33, 34, 35, 36, 37, 38, 39, 40, 41, 42, 43, 44, 45, 46, 80, 81, 82, 83, 84, 85, 86, 87, 88, 89, 90, 91, 92, 93, 94, 95, 96, 97, 98] (by decide +kernel) (by decide +kernel)) (goodIn_sub (fun _ h => List.mem_cons_of_mem _ (List.mem_append_right _ h)) (by decide +kernel))
set_option maxRecDepth 20000 in
theorem gX4_arrange_X4_orderByLabels : GoodIn wsX4_arrange (wsV RX4 61 RX4 yX4_orderByLabels wsX4_orderByLabels) := goodIn_app (goodIn_of _ (by decide +kernel)) ggX4_arrange_X4_orderByLabels
set_option maxRecDepth 20000 in
theorem ggX4_arrange_X4_orderByNumbers : GoodIn wsX4_arrange wsX4_orderByNumbers := goodIn_ca (goodIn_r _ [50, 1, 2, 10, 11, 12, 7, 13, 14, 15, 16, 17, 18, 19, 20, 51, 52, 53, 54, 55, 56, 57, 58, 59, 25, 26, 27, 28, 60, 45, 61, 39, 40, 41, 42, 43, 44, 46, 80, 81, 82, 83, 84, 85, 86, 87, 88, 89, 90, 91, 92, 93, 94, 95, 96, 97, 98] (by decide +kernel) (by decide +kernel)) (goodIn_sub (fun _ h => List.mem_cons_of_mem _ (List.mem_append_right _ h)) (by decide +kernel))
set_option maxRecDepth 20000 in
theorem gX4_arrange_X4_orderByNumbers : GoodIn wsX4_arrange (wsV RX4 43 RX4 yX4_orderByNumbers wsX4_orderByNumbers) := goodIn_app (goodIn_of _ (by decide +kernel)) ggX4_arrange_X4_orderByNumbers
set_option maxRecDepth 20000 in
theorem ggX4_arrange_X4_lastStepOf : GoodIn wsX4_arrange wsX4_lastStepOf := goodIn_ca (goodIn_r _ [65, 1, 66, 2, 14, 9, 67, 68, 69, 70, 71, 45, 72, 80, 81, 82, 83, 84, 85, 86, 87, 88, 89, 90, 91, 92, 93, 94, 95, 96, 97, 98] (by decide +kernel) (by decide +kernel)) (goodIn_sub (fun _ h => List.mem_cons_of_mem _ (List.mem_append_right _ h)) (by decide +kernel))
set_option maxRecDepth 20000 in
theorem gX4_arrange_X4_lastStepOf : GoodIn wsX4_arrange (wsV RX4 69 RX4 yX4_lastStepOf wsX4_lastStepOf) := goodIn_app (goodIn_of _ (by decide +kernel)) ggX4_arrange_X4_lastStepOf
set_option maxRecDepth 20000 in
theorem ggX4_arrange_X4_addCosts : GoodIn wsX4_arrange wsX4_addCosts := goodIn_ca (goodIn_r _ [76, 77, 78, 16, 1, 2, 14, 3, 79, 67, 68, 69, 70, 17, 18, 19, 20, 80, 81, 82, 83, 84, 85, 86, 87, 88, 89, 90, 91, 92, 93, 94, 95, 96, 97, 98] (by decide +kernel) (by decide +kernel)) (goodIn_sub (fun _ h => List.mem_cons_of_mem _ (List.mem_append_right _ h)) (by decide +kernel))
set_option maxRecDepth 20000 in
theorem gX4_arrange_X4_addCosts : GoodIn wsX4_arrange (wsV RX4 72 RX4 yX4_addCosts wsX4_addCosts) := goodIn_app (goodIn_of _ (by decide +kernel)) ggX4_arrange_X4_addCosts
theorem dX4_arrange_0 : decode cX4_arrange 0 = .ok (.iload_n 1, 1) := by decide +kernel
theorem dX4_arrange_1 : decode cX4_arrange 1 = .ok (.iconst 1, 1) := by decide +kernel
theorem dX4_arrange_2 : decode cX4_arrange 2 = .ok (.if_icmp .ne 10, 3) := by decide +kernel
theorem dX4_arrange_5 : decode cX4_arrange 5 = .ok (.aload_n 0, 1) := by decide +kernel
theorem dX4_arrange_6 : decode cX4_arrange 6 = .ok (.invokevirtual 61, 3) := by decide +kernel
theorem dX4_arrange_9 : decode cX4_arrange 9 = .ok (.goto 7, 3) := by decide +kernel
theorem dX4_arrange_12 : decode cX4_arrange 12 = .ok (.aload_n 0, 1) := by decide +kernel
theorem dX4_arrange_13 : decode cX4_arrange 13 = .ok (.invokevirtual 43, 3) := by decide +kernel
theorem dX4_arrange_16 : decode cX4_arrange 16 = .ok (.iconst 0, 1) := by decide +kernel
theorem dX4_arrange_17 : decode cX4_arrange 17 = .ok (.istore_n 2, 1) := by decide +kernel
theorem dX4_arrange_18 : decode cX4_arrange 18 = .ok (.iload_n 2, 1) := by decide +kernel
theorem dX4_arrange_19 : decode cX4_arrange 19 = .ok (.aload_n 0, 1) := by decide +kernel
theorem dX4_arrange_20 : decode cX4_arrange 20 = .ok (.getfield 36, 3) := by decide +kernel
theorem dX4_arrange_23 : decode cX4_arrange 23 = .ok (.getfield 64, 3) := by decide +kernel
theorem dX4_arrange_26 : decode cX4_arrange 26 = .ok (.if_icmp .ge 20, 3) := by decide +kernel
theorem dX4_arrange_29 : decode cX4_arrange 29 = .ok (.aload_n 0, 1) := by decide +kernel
theorem dX4_arrange_30 : decode cX4_arrange 30 = .ok (.getfield 30, 3) := by decide +kernel
theorem dX4_arrange_33 : decode cX4_arrange 33 = .ok (.iload_n 2, 1) := by decide +kernel
theorem dX4_arrange_34 : decode cX4_arrange 34 = .ok (.aload_n 0, 1) := by decide +kernel
theorem dX4_arrange_35 : decode cX4_arrange 35 = .ok (.iload_n 2, 1) := by decide +kernel
theorem dX4_arrange_36 : decode cX4_arrange 36 = .ok (.invokevirtual 69, 3) := by decide +kernel
theorem dX4_arrange_39 : decode cX4_arrange 39 = .ok (.iastore, 1) := by decide +kernel
theorem dX4_arrange_40 : decode cX4_arrange 40 = .ok (.iinc 2 1, 3) := by decide +kernel
theorem dX4_arrange_43 : decode cX4_arrange 43 = .ok (.goto (-25), 3) := by decide +kernel
theorem dX4_arrange_46 : decode cX4_arrange 46 = .ok (.aload_n 0, 1) := by decide +kernel
theorem dX4_arrange_47 : decode cX4_arrange 47 = .ok (.invokevirtual 72, 3) := by decide +kernel
theorem dX4_arrange_50 : decode cX4_arrange 50 = .ok (.return_, 1) := by decide +kernel
theorem dX4_liveTogether_0 : decode cX4_liveTogether 0 = .ok (.aload_n 0, 1) := by decide +kernel
theorem dX4_liveTogether_1 : decode cX4_liveTogether 1 = .ok (.getfield 27, 3) := by decide +kernel
theorem dX4_liveTogether_4 : decode cX4_liveTogether 4 = .ok (.iload_n 1, 1) := by decide +kernel
theorem dX4_liveTogether_5 : decode cX4_liveTogether 5 = .ok (.iaload, 1) := by decide +kernel
theorem dX4_liveTogether_6 : decode cX4_liveTogether 6 = .ok (.aload_n 0, 1) := by decide +kernel
theorem dX4_liveTogether_7 : decode cX4_liveTogether 7 = .ok (.getfield 30, 3) := by decide +kernel
theorem dX4_liveTogether_10 : decode cX4_liveTogether 10 = .ok (.iload_n 2, 1) := by decide +kernel
theorem dX4_liveTogether_11 : decode cX4_liveTogether 11 = .ok (.iaload, 1) := by decide +kernel
theorem dX4_liveTogether_12 : decode cX4_liveTogether 12 = .ok (.if_icmp .gt 22, 3) := by decide +kernel
theorem dX4_liveTogether_15 : decode cX4_liveTogether 15 = .ok (.aload_n 0, 1) := by decide +kernel
theorem dX4_liveTogether_16 : decode cX4_liveTogether 16 = .ok (.getfield 27, 3) := by decide +kernel
theorem dX4_liveTogether_19 : decode cX4_liveTogether 19 = .ok (.iload_n 2, 1) := by decide +kernel
theorem dX4_liveTogether_20 : decode cX4_liveTogether 20 = .ok (.iaload, 1) := by decide +kernel
theorem dX4_liveTogether_21 : decode cX4_liveTogether 21 = .ok (.aload_n 0, 1) := by decide +kernel
theorem dX4_liveTogether_22 : decode cX4_liveTogether 22 = .ok (.getfield 30, 3) := by decide +kernel
theorem dX4_liveTogether_25 : decode cX4_liveTogether 25 = .ok (.iload_n 1, 1) := by decide +kernel
theorem dX4_liveTogether_26 : decode cX4_liveTogether 26 = .ok (.iaload, 1) := by decide +kernel
theorem dX4_liveTogether_27 : decode cX4_liveTogether 27 = .ok (.if_icmp .gt 7, 3) := by decide +kernel
theorem dX4_liveTogether_30 : decode cX4_liveTogether 30 = .ok (.iconst 1, 1) := by decide +kernel
theorem dX4_liveTogether_31 : decode cX4_liveTogether 31 = .ok (.goto 4, 3) := by decide +kernel
theorem dX4_liveTogether_34 : decode cX4_liveTogether 34 = .ok (.iconst 0, 1) := by decide +kernel
theorem dX4_liveTogether_35 : decode cX4_liveTogether 35 = .ok (.ireturn, 1) := by decide +kernel
set_option maxRecDepth 20000 in
theorem ggX4_findNeighbours_J7_fill_53178 : GoodIn wsX4_findNeighbours wsJ7_fill_53178 := goodIn_r _ [8] (by decide +kernel) (by decide +kernel)
set_option maxRecDepth 20000 in
theorem gX4_findNeighbours_J7_fill_53178 : GoodIn wsX4_findNeighbours (va_wsS RX4 75 yJ7_fill_53178 wsJ7_fill_53178) := goodIn_app (goodIn_of _ (by decide +kernel)) ggX4_findNeighbours_J7_fill_53178
set_option maxRecDepth 20000 in
theorem ggX4_findNeighbours_X1_dependencies : GoodIn wsX4_findNeighbours wsX1_dependencies := goodIn_ca (goodIn_r _ [13, 14, 15, 16, 17, 32, 33, 34, 35, 36, 37, 38] (by decide +kernel) (by decide +kernel)) (goodIn_sub (fun _ h => List.mem_cons_of_mem _ (List.mem_append_right _ h)) (by decide +kernel))
set_option maxRecDepth 20000 in
theorem gX4_findNeighbours_X1_dependencies : GoodIn wsX4_findNeighbours (wsV RX4 81 RX1 yX1_dependencies wsX1_dependencies) := goodIn_app (goodIn_of _ (by decide +kernel)) ggX4_findNeighbours_X1_dependencies
set_option maxRecDepth 20000 in
theorem ggX4_findNeighbours_X6_contains : GoodIn wsX4_findNeighbours wsX6_contains := goodIn_r _ [19] (by decide +kernel) (by decide +kernel)
set_option maxRecDepth 20000 in
theorem gX4_findNeighbours_X6_contains_n83 : GoodIn wsX4_findNeighbours (wsX6_contains) := ggX4_findNeighbours_X6_contains
set_option maxRecDepth 20000 in
theorem ggX4_findNeighbours_X6_setOf : GoodIn wsX4_findNeighbours wsX6_setOf := goodIn_r _ [17] (by decide +kernel) (by decide +kernel)
set_option maxRecDepth 20000 in
theorem gX4_findNeighbours_X6_setOf_n87 : GoodIn wsX4_findNeighbours (wsX6_setOf) := ggX4_findNeighbours_X6_setOf
theorem dX4_findNeighbours_0 : decode cX4_findNeighbours 0 = .ok (.aload_n 0, 1) := by decide +kernel
theorem dX4_findNeighbours_1 : decode cX4_findNeighbours 1 = .ok (.getfield 15, 3) := by decide +kernel
theorem dX4_findNeighbours_4 : decode cX4_findNeighbours 4 = .ok (.iconst 0, 1) := by decide +kernel
theorem dX4_findNeighbours_5 : decode cX4_findNeighbours 5 = .ok (.invokestatic 75, 3) := by decide +kernel
theorem dX4_findNeighbours_8 : decode cX4_findNeighbours 8 = .ok (.iconst 0, 1) := by decide +kernel
theorem dX4_findNeighbours_9 : decode cX4_findNeighbours 9 = .ok (.istore_n 1, 1) := by decide +kernel
theorem dX4_findNeighbours_10 : decode cX4_findNeighbours 10 = .ok (.iload_n 1, 1) := by decide +kernel
theorem dX4_findNeighbours_11 : decode cX4_findNeighbours 11 = .ok (.aload_n 0, 1) := by decide +kernel
theorem dX4_findNeighbours_12 : decode cX4_findNeighbours 12 = .ok (.getfield 36, 3) := by decide +kernel
theorem dX4_findNeighbours_15 : decode cX4_findNeighbours 15 = .ok (.getfield 64, 3) := by decide +kernel
theorem dX4_findNeighbours_18 : decode cX4_findNeighbours 18 = .ok (.if_icmp .ge 68, 3) := by decide +kernel
theorem dX4_findNeighbours_21 : decode cX4_findNeighbours 21 = .ok (.aload_n 0, 1) := by decide +kernel
theorem dX4_findNeighbours_22 : decode cX4_findNeighbours 22 = .ok (.getfield 9, 3) := by decide +kernel
theorem dX4_findNeighbours_25 : decode cX4_findNeighbours 25 = .ok (.iload_n 1, 1) := by decide +kernel
theorem dX4_findNeighbours_26 : decode cX4_findNeighbours 26 = .ok (.aload_n 0, 1) := by decide +kernel
theorem dX4_findNeighbours_27 : decode cX4_findNeighbours 27 = .ok (.getfield 36, 3) := by decide +kernel
theorem dX4_findNeighbours_30 : decode cX4_findNeighbours 30 = .ok (.iload_n 1, 1) := by decide +kernel
theorem dX4_findNeighbours_31 : decode cX4_findNeighbours 31 = .ok (.invokevirtual 81, 3) := by decide +kernel
theorem dX4_findNeighbours_34 : decode cX4_findNeighbours 34 = .ok (.iastore, 1) := by decide +kernel
theorem dX4_findNeighbours_35 : decode cX4_findNeighbours 35 = .ok (.iconst 0, 1) := by decide +kernel
theorem dX4_findNeighbours_36 : decode cX4_findNeighbours 36 = .ok (.istore_n 2, 1) := by decide +kernel
theorem dX4_findNeighbours_37 : decode cX4_findNeighbours 37 = .ok (.iload_n 2, 1) := by decide +kernel
theorem dX4_findNeighbours_38 : decode cX4_findNeighbours 38 = .ok (.aload_n 0, 1) := by decide +kernel
theorem dX4_findNeighbours_39 : decode cX4_findNeighbours 39 = .ok (.getfield 36, 3) := by decide +kernel
theorem dX4_findNeighbours_42 : decode cX4_findNeighbours 42 = .ok (.getfield 64, 3) := by decide +kernel
theorem dX4_findNeighbours_45 : decode cX4_findNeighbours 45 = .ok (.if_icmp .ge 35, 3) := by decide +kernel
theorem dX4_findNeighbours_48 : decode cX4_findNeighbours 48 = .ok (.aload_n 0, 1) := by decide +kernel
theorem dX4_findNeighbours_49 : decode cX4_findNeighbours 49 = .ok (.getfield 9, 3) := by decide +kernel
theorem dX4_findNeighbours_52 : decode cX4_findNeighbours 52 = .ok (.iload_n 1, 1) := by decide +kernel
theorem dX4_findNeighbours_53 : decode cX4_findNeighbours 53 = .ok (.iaload, 1) := by decide +kernel
theorem dX4_findNeighbours_54 : decode cX4_findNeighbours 54 = .ok (.iload_n 2, 1) := by decide +kernel
theorem dX4_findNeighbours_55 : decode cX4_findNeighbours 55 = .ok (.invokestatic 83, 3) := by decide +kernel
theorem dX4_findNeighbours_58 : decode cX4_findNeighbours 58 = .ok (.ifCond .eq 16, 3) := by decide +kernel
theorem dX4_findNeighbours_61 : decode cX4_findNeighbours 61 = .ok (.aload_n 0, 1) := by decide +kernel
theorem dX4_findNeighbours_62 : decode cX4_findNeighbours 62 = .ok (.getfield 15, 3) := by decide +kernel
theorem dX4_findNeighbours_65 : decode cX4_findNeighbours 65 = .ok (.iload_n 2, 1) := by decide +kernel
theorem dX4_findNeighbours_66 : decode cX4_findNeighbours 66 = .ok (.dup2, 1) := by decide +kernel
theorem dX4_findNeighbours_67 : decode cX4_findNeighbours 67 = .ok (.iaload, 1) := by decide +kernel
theorem dX4_findNeighbours_68 : decode cX4_findNeighbours 68 = .ok (.iload_n 1, 1) := by decide +kernel
theorem dX4_findNeighbours_69 : decode cX4_findNeighbours 69 = .ok (.invokestatic 87, 3) := by decide +kernel
theorem dX4_findNeighbours_72 : decode cX4_findNeighbours 72 = .ok (.ior, 1) := by decide +kernel
theorem dX4_findNeighbours_73 : decode cX4_findNeighbours 73 = .ok (.iastore, 1) := by decide +kernel
theorem dX4_findNeighbours_74 : decode cX4_findNeighbours 74 = .ok (.iinc 2 1, 3) := by decide +kernel
theorem dX4_findNeighbours_77 : decode cX4_findNeighbours 77 = .ok (.goto (-40), 3) := by decide +kernel
theorem dX4_findNeighbours_80 : decode cX4_findNeighbours 80 = .ok (.iinc 1 1, 3) := by decide +kernel
theorem dX4_findNeighbours_83 : decode cX4_findNeighbours 83 = .ok (.goto (-73), 3) := by decide +kernel
theorem dX4_findNeighbours_86 : decode cX4_findNeighbours 86 = .ok (.return_, 1) := by decide +kernel
theorem dX4_sizeOfSource_0 : decode cX4_sizeOfSource 0 = .ok (.aload_n 0, 1) := by decide +kernel
theorem dX4_sizeOfSource_1 : decode cX4_sizeOfSource 1 = .ok (.getfield 36, 3) := by decide +kernel
theorem dX4_sizeOfSource_4 : decode cX4_sizeOfSource 4 = .ok (.getfield 90, 3) := by decide +kernel
theorem dX4_sizeOfSource_7 : decode cX4_sizeOfSource 7 = .ok (.iload_n 1, 1) := by decide +kernel
theorem dX4_sizeOfSource_8 : decode cX4_sizeOfSource 8 = .ok (.aaload, 1) := by decide +kernel
theorem dX4_sizeOfSource_9 : decode cX4_sizeOfSource 9 = .ok (.iload_n 2, 1) := by decide +kernel
theorem dX4_sizeOfSource_10 : decode cX4_sizeOfSource 10 = .ok (.iaload, 1) := by decide +kernel
theorem dX4_sizeOfSource_11 : decode cX4_sizeOfSource 11 = .ok (.istore_n 3, 1) := by decide +kernel
theorem dX4_sizeOfSource_12 : decode cX4_sizeOfSource 12 = .ok (.iload_n 3, 1) := by decide +kernel
theorem dX4_sizeOfSource_13 : decode cX4_sizeOfSource 13 = .ok (.iconst (-1), 1) := by decide +kernel
theorem dX4_sizeOfSource_14 : decode cX4_sizeOfSource 14 = .ok (.if_icmp .ne 7, 3) := by decide +kernel
theorem dX4_sizeOfSource_17 : decode cX4_sizeOfSource 17 = .ok (.iconst 0, 1) := by decide +kernel
theorem dX4_sizeOfSource_18 : decode cX4_sizeOfSource 18 = .ok (.goto 9, 3) := by decide +kernel
theorem dX4_sizeOfSource_21 : decode cX4_sizeOfSource 21 = .ok (.aload_n 0, 1) := by decide +kernel
theorem dX4_sizeOfSource_22 : decode cX4_sizeOfSource 22 = .ok (.getfield 18, 3) := by decide +kernel
theorem dX4_sizeOfSource_25 : decode cX4_sizeOfSource 25 = .ok (.iload_n 3, 1) := by decide +kernel
theorem dX4_sizeOfSource_26 : decode cX4_sizeOfSource 26 = .ok (.iaload, 1) := by decide +kernel
theorem dX4_sizeOfSource_27 : decode cX4_sizeOfSource 27 = .ok (.ireturn, 1) := by decide +kernel
set_option maxRecDepth 20000 in
theorem ggX4_sizesFit_X4_sizeOfSource : GoodIn wsX4_sizesFit wsX4_sizeOfSource := goodIn_ca (goodIn_r _ [9, 1, 10, 11, 12, 13, 14, 15, 16, 17, 18, 19, 20, 21, 22, 23, 24, 25, 26, 27, 28, 29, 30] (by decide +kernel) (by decide +kernel)) (goodIn_sub (fun _ h => List.mem_cons_of_mem _ (List.mem_append_right _ h)) (by decide +kernel))
set_option maxRecDepth 20000 in
theorem gX4_sizesFit_X4_sizeOfSource : GoodIn wsX4_sizesFit (wsV RX4 94 RX4 yX4_sizeOfSource wsX4_sizeOfSource) := goodIn_app (goodIn_of _ (by decide +kernel)) ggX4_sizesFit_X4_sizeOfSource
theorem dX4_sizesFit_0 : decode cX4_sizesFit 0 = .ok (.aload_n 0, 1) := by decide +kernel
theorem dX4_sizesFit_1 : decode cX4_sizesFit 1 = .ok (.iload_n 1, 1) := by decide +kernel
theorem dX4_sizesFit_2 : decode cX4_sizesFit 2 = .ok (.iconst 0, 1) := by decide +kernel
theorem dX4_sizesFit_3 : decode cX4_sizesFit 3 = .ok (.invokevirtual 94, 3) := by decide +kernel
theorem dX4_sizesFit_6 : decode cX4_sizesFit 6 = .ok (.istore_n 2, 1) := by decide +kernel
theorem dX4_sizesFit_7 : decode cX4_sizesFit 7 = .ok (.aload_n 0, 1) := by decide +kernel
theorem dX4_sizesFit_8 : decode cX4_sizesFit 8 = .ok (.iload_n 1, 1) := by decide +kernel
theorem dX4_sizesFit_9 : decode cX4_sizesFit 9 = .ok (.iconst 1, 1) := by decide +kernel
theorem dX4_sizesFit_10 : decode cX4_sizesFit 10 = .ok (.invokevirtual 94, 3) := by decide +kernel
theorem dX4_sizesFit_13 : decode cX4_sizesFit 13 = .ok (.istore_n 3, 1) := by decide +kernel
theorem dX4_sizesFit_14 : decode cX4_sizesFit 14 = .ok (.aload_n 0, 1) := by decide +kernel
theorem dX4_sizesFit_15 : decode cX4_sizesFit 15 = .ok (.getfield 36, 3) := by decide +kernel
theorem dX4_sizesFit_18 : decode cX4_sizesFit 18 = .ok (.getfield 98, 3) := by decide +kernel
theorem dX4_sizesFit_21 : decode cX4_sizesFit 21 = .ok (.iload_n 1, 1) := by decide +kernel
theorem dX4_sizesFit_22 : decode cX4_sizesFit 22 = .ok (.iaload, 1) := by decide +kernel
theorem dX4_sizesFit_23 : decode cX4_sizesFit 23 = .ok (.tableswitch 102 2 7 #[37, 37, 48, 62, 102, 91], 37) := by decide +kernel
theorem dX4_sizesFit_60 : decode cX4_sizesFit 60 = .ok (.iload_n 2, 1) := by decide +kernel
theorem dX4_sizesFit_61 : decode cX4_sizesFit 61 = .ok (.iload_n 3, 1) := by decide +kernel
theorem dX4_sizesFit_62 : decode cX4_sizesFit 62 = .ok (.if_icmp .ne 7, 3) := by decide +kernel
theorem dX4_sizesFit_65 : decode cX4_sizesFit 65 = .ok (.iconst 1, 1) := by decide +kernel
theorem dX4_sizesFit_66 : decode cX4_sizesFit 66 = .ok (.goto 4, 3) := by decide +kernel
theorem dX4_sizesFit_69 : decode cX4_sizesFit 69 = .ok (.iconst 0, 1) := by decide +kernel
theorem dX4_sizesFit_70 : decode cX4_sizesFit 70 = .ok (.ireturn, 1) := by decide +kernel
theorem dX4_sizesFit_71 : decode cX4_sizesFit 71 = .ok (.iload_n 2, 1) := by decide +kernel
theorem dX4_sizesFit_72 : decode cX4_sizesFit 72 = .ok (.iload_n 3, 1) := by decide +kernel
theorem dX4_sizesFit_73 : decode cX4_sizesFit 73 = .ok (.iadd, 1) := by decide +kernel
theorem dX4_sizesFit_74 : decode cX4_sizesFit 74 = .ok (.bipush 40, 2) := by decide +kernel
theorem dX4_sizesFit_76 : decode cX4_sizesFit 76 = .ok (.if_icmp .gt 7, 3) := by decide +kernel
theorem dX4_sizesFit_79 : decode cX4_sizesFit 79 = .ok (.iconst 1, 1) := by decide +kernel
theorem dX4_sizesFit_80 : decode cX4_sizesFit 80 = .ok (.goto 4, 3) := by decide +kernel
theorem dX4_sizesFit_83 : decode cX4_sizesFit 83 = .ok (.iconst 0, 1) := by decide +kernel
theorem dX4_sizesFit_84 : decode cX4_sizesFit 84 = .ok (.ireturn, 1) := by decide +kernel
theorem dX4_sizesFit_85 : decode cX4_sizesFit 85 = .ok (.aload_n 0, 1) := by decide +kernel
theorem dX4_sizesFit_86 : decode cX4_sizesFit 86 = .ok (.getfield 36, 3) := by decide +kernel
theorem dX4_sizesFit_89 : decode cX4_sizesFit 89 = .ok (.getfield 101, 3) := by decide +kernel
theorem dX4_sizesFit_92 : decode cX4_sizesFit 92 = .ok (.iload_n 1, 1) := by decide +kernel
theorem dX4_sizesFit_93 : decode cX4_sizesFit 93 = .ok (.iaload, 1) := by decide +kernel
theorem dX4_sizesFit_94 : decode cX4_sizesFit 94 = .ok (.aload_n 0, 1) := by decide +kernel
theorem dX4_sizesFit_95 : decode cX4_sizesFit 95 = .ok (.getfield 36, 3) := by decide +kernel
theorem dX4_sizesFit_98 : decode cX4_sizesFit 98 = .ok (.getfield 104, 3) := by decide +kernel
theorem dX4_sizesFit_101 : decode cX4_sizesFit 101 = .ok (.iload_n 1, 1) := by decide +kernel
theorem dX4_sizesFit_102 : decode cX4_sizesFit 102 = .ok (.iaload, 1) := by decide +kernel
theorem dX4_sizesFit_103 : decode cX4_sizesFit 103 = .ok (.iadd, 1) := by decide +kernel
theorem dX4_sizesFit_104 : decode cX4_sizesFit 104 = .ok (.iload_n 2, 1) := by decide +kernel
theorem dX4_sizesFit_105 : decode cX4_sizesFit 105 = .ok (.if_icmp .gt 7, 3) := by decide +kernel
theorem dX4_sizesFit_108 : decode cX4_sizesFit 108 = .ok (.iconst 1, 1) := by decide +kernel
theorem dX4_sizesFit_109 : decode cX4_sizesFit 109 = .ok (.goto 4, 3) := by decide +kernel
theorem dX4_sizesFit_112 : decode cX4_sizesFit 112 = .ok (.iconst 0, 1) := by decide +kernel
theorem dX4_sizesFit_113 : decode cX4_sizesFit 113 = .ok (.ireturn, 1) := by decide +kernel
theorem dX4_sizesFit_114 : decode cX4_sizesFit 114 = .ok (.iload_n 2, 1) := by decide +kernel
theorem dX4_sizesFit_115 : decode cX4_sizesFit 115 = .ok (.iconst 1, 1) := by decide +kernel
theorem dX4_sizesFit_116 : decode cX4_sizesFit 116 = .ok (.if_icmp .ne 7, 3) := by decide +kernel
theorem dX4_sizesFit_119 : decode cX4_sizesFit 119 = .ok (.iconst 1, 1) := by decide +kernel
theorem dX4_sizesFit_120 : decode cX4_sizesFit 120 = .ok (.goto 4, 3) := by decide +kernel
theorem dX4_sizesFit_123 : decode cX4_sizesFit 123 = .ok (.iconst 0, 1) := by decide +kernel
theorem dX4_sizesFit_124 : decode cX4_sizesFit 124 = .ok (.ireturn, 1) := by decide +kernel
theorem dX4_sizesFit_125 : decode cX4_sizesFit 125 = .ok (.iconst 1, 1) := by decide +kernel
theorem dX4_sizesFit_126 : decode cX4_sizesFit 126 = .ok (.ireturn, 1) := by decide +kernel
set_option maxRecDepth 20000 in
theorem ggX4_sizeOf_X4_sizeOfSource : GoodIn wsX4_sizeOf wsX4_sizeOfSource := goodIn_ca (goodIn_r _ [9, 1, 10, 11, 12, 13, 14, 15, 16, 17, 18, 19, 20, 21, 22, 23, 24, 25, 26, 27, 28, 29, 30] (by decide +kernel) (by decide +kernel)) (goodIn_sub (fun _ h => List.mem_cons_of_mem _ (List.mem_append_right _ h)) (by decide +kernel))
set_option maxRecDepth 20000 in
theorem gX4_sizeOf_X4_sizeOfSource : GoodIn wsX4_sizeOf (wsV RX4 94 RX4 yX4_sizeOfSource wsX4_sizeOfSource) := goodIn_app (goodIn_of _ (by decide +kernel)) ggX4_sizeOf_X4_sizeOfSource
theorem dX4_sizeOf_0 : decode cX4_sizeOf 0 = .ok (.aload_n 0, 1) := by decide +kernel
theorem dX4_sizeOf_1 : decode cX4_sizeOf 1 = .ok (.iload_n 1, 1) := by decide +kernel
theorem dX4_sizeOf_2 : decode cX4_sizeOf 2 = .ok (.iconst 0, 1) := by decide +kernel
theorem dX4_sizeOf_3 : decode cX4_sizeOf 3 = .ok (.invokevirtual 94, 3) := by decide +kernel
theorem dX4_sizeOf_6 : decode cX4_sizeOf 6 = .ok (.istore_n 2, 1) := by decide +kernel
theorem dX4_sizeOf_7 : decode cX4_sizeOf 7 = .ok (.aload_n 0, 1) := by decide +kernel
theorem dX4_sizeOf_8 : decode cX4_sizeOf 8 = .ok (.getfield 36, 3) := by decide +kernel
theorem dX4_sizeOf_11 : decode cX4_sizeOf 11 = .ok (.getfield 98, 3) := by decide +kernel
theorem dX4_sizeOf_14 : decode cX4_sizeOf 14 = .ok (.iload_n 1, 1) := by decide +kernel
theorem dX4_sizeOf_15 : decode cX4_sizeOf 15 = .ok (.iaload, 1) := by decide +kernel
theorem dX4_sizeOf_16 : decode cX4_sizeOf 16 = .ok (.tableswitch 79 0 7 #[48, 79, 79, 79, 58, 67, 77, 48], 48) := by decide +kernel
theorem dX4_sizeOf_64 : decode cX4_sizeOf 64 = .ok (.aload_n 0, 1) := by decide +kernel
theorem dX4_sizeOf_65 : decode cX4_sizeOf 65 = .ok (.getfield 36, 3) := by decide +kernel
theorem dX4_sizeOf_68 : decode cX4_sizeOf 68 = .ok (.getfield 101, 3) := by decide +kernel
theorem dX4_sizeOf_71 : decode cX4_sizeOf 71 = .ok (.iload_n 1, 1) := by decide +kernel
theorem dX4_sizeOf_72 : decode cX4_sizeOf 72 = .ok (.iaload, 1) := by decide +kernel
theorem dX4_sizeOf_73 : decode cX4_sizeOf 73 = .ok (.ireturn, 1) := by decide +kernel
theorem dX4_sizeOf_74 : decode cX4_sizeOf 74 = .ok (.iload_n 2, 1) := by decide +kernel
theorem dX4_sizeOf_75 : decode cX4_sizeOf 75 = .ok (.aload_n 0, 1) := by decide +kernel
theorem dX4_sizeOf_76 : decode cX4_sizeOf 76 = .ok (.iload_n 1, 1) := by decide +kernel
theorem dX4_sizeOf_77 : decode cX4_sizeOf 77 = .ok (.iconst 1, 1) := by decide +kernel
theorem dX4_sizeOf_78 : decode cX4_sizeOf 78 = .ok (.invokevirtual 94, 3) := by decide +kernel
theorem dX4_sizeOf_81 : decode cX4_sizeOf 81 = .ok (.iadd, 1) := by decide +kernel
theorem dX4_sizeOf_82 : decode cX4_sizeOf 82 = .ok (.ireturn, 1) := by decide +kernel
theorem dX4_sizeOf_83 : decode cX4_sizeOf 83 = .ok (.aload_n 0, 1) := by decide +kernel
theorem dX4_sizeOf_84 : decode cX4_sizeOf 84 = .ok (.getfield 36, 3) := by decide +kernel
theorem dX4_sizeOf_87 : decode cX4_sizeOf 87 = .ok (.getfield 104, 3) := by decide +kernel
theorem dX4_sizeOf_90 : decode cX4_sizeOf 90 = .ok (.iload_n 1, 1) := by decide +kernel
theorem dX4_sizeOf_91 : decode cX4_sizeOf 91 = .ok (.iaload, 1) := by decide +kernel
theorem dX4_sizeOf_92 : decode cX4_sizeOf 92 = .ok (.ireturn, 1) := by decide +kernel
theorem dX4_sizeOf_93 : decode cX4_sizeOf 93 = .ok (.iconst 1, 1) := by decide +kernel
theorem dX4_sizeOf_94 : decode cX4_sizeOf 94 = .ok (.ireturn, 1) := by decide +kernel
theorem dX4_sizeOf_95 : decode cX4_sizeOf 95 = .ok (.iload_n 2, 1) := by decide +kernel
theorem dX4_sizeOf_96 : decode cX4_sizeOf 96 = .ok (.ireturn, 1) := by decide +kernel
set_option maxRecDepth 20000 in
theorem ggX4_labelOf_X1_inputs : GoodIn wsX4_labelOf wsX1_inputs := goodIn_ca (goodIn_r _ [15, 16, 29, 30, 31, 32, 33, 34, 35] (by decide +kernel) (by decide +kernel)) (goodIn_sub (fun _ h => List.mem_cons_of_mem _ (List.mem_append_right _ h)) (by decide +kernel))
set_option maxRecDepth 20000 in
theorem gX4_labelOf_X1_inputs : GoodIn wsX4_labelOf (wsV RX4 107 RX1 yX1_inputs wsX1_inputs) := goodIn_app (goodIn_of _ (by decide +kernel)) ggX4_labelOf_X1_inputs
theorem dX4_labelOf_0 : decode cX4_labelOf 0 = .ok (.aload_n 0, 1) := by decide +kernel
theorem dX4_labelOf_1 : decode cX4_labelOf 1 = .ok (.getfield 36, 3) := by decide +kernel
theorem dX4_labelOf_4 : decode cX4_labelOf 4 = .ok (.iload_n 1, 1) := by decide +kernel
theorem dX4_labelOf_5 : decode cX4_labelOf 5 = .ok (.invokevirtual 107, 3) := by decide +kernel
theorem dX4_labelOf_8 : decode cX4_labelOf 8 = .ok (.istore_n 2, 1) := by decide +kernel
theorem dX4_labelOf_9 : decode cX4_labelOf 9 = .ok (.iload_n 2, 1) := by decide +kernel
theorem dX4_labelOf_10 : decode cX4_labelOf 10 = .ok (.ifCond .ne 5, 3) := by decide +kernel
theorem dX4_labelOf_13 : decode cX4_labelOf 13 = .ok (.iconst 1, 1) := by decide +kernel
theorem dX4_labelOf_14 : decode cX4_labelOf 14 = .ok (.ireturn, 1) := by decide +kernel
theorem dX4_labelOf_15 : decode cX4_labelOf 15 = .ok (.aload_n 0, 1) := by decide +kernel
theorem dX4_labelOf_16 : decode cX4_labelOf 16 = .ok (.getfield 21, 3) := by decide +kernel
theorem dX4_labelOf_19 : decode cX4_labelOf 19 = .ok (.aload_n 0, 1) := by decide +kernel
theorem dX4_labelOf_20 : decode cX4_labelOf 20 = .ok (.getfield 36, 3) := by decide +kernel
theorem dX4_labelOf_23 : decode cX4_labelOf 23 = .ok (.getfield 90, 3) := by decide +kernel
theorem dX4_labelOf_26 : decode cX4_labelOf 26 = .ok (.iload_n 1, 1) := by decide +kernel
theorem dX4_labelOf_27 : decode cX4_labelOf 27 = .ok (.aaload, 1) := by decide +kernel
theorem dX4_labelOf_28 : decode cX4_labelOf 28 = .ok (.iconst 0, 1) := by decide +kernel
theorem dX4_labelOf_29 : decode cX4_labelOf 29 = .ok (.iaload, 1) := by decide +kernel
theorem dX4_labelOf_30 : decode cX4_labelOf 30 = .ok (.iaload, 1) := by decide +kernel
theorem dX4_labelOf_31 : decode cX4_labelOf 31 = .ok (.istore_n 3, 1) := by decide +kernel
theorem dX4_labelOf_32 : decode cX4_labelOf 32 = .ok (.iload_n 2, 1) := by decide +kernel
theorem dX4_labelOf_33 : decode cX4_labelOf 33 = .ok (.iconst 1, 1) := by decide +kernel
theorem dX4_labelOf_34 : decode cX4_labelOf 34 = .ok (.if_icmp .ne 9, 3) := by decide +kernel
theorem dX4_labelOf_37 : decode cX4_labelOf 37 = .ok (.iconst 2, 1) := by decide +kernel
theorem dX4_labelOf_38 : decode cX4_labelOf 38 = .ok (.iload_n 3, 1) := by decide +kernel
theorem dX4_labelOf_39 : decode cX4_labelOf 39 = .ok (.invokestatic 110, 3) := by decide +kernel
theorem dX4_labelOf_42 : decode cX4_labelOf 42 = .ok (.ireturn, 1) := by decide +kernel
theorem dX4_labelOf_43 : decode cX4_labelOf 43 = .ok (.aload_n 0, 1) := by decide +kernel
theorem dX4_labelOf_44 : decode cX4_labelOf 44 = .ok (.getfield 21, 3) := by decide +kernel
theorem dX4_labelOf_47 : decode cX4_labelOf 47 = .ok (.aload_n 0, 1) := by decide +kernel
theorem dX4_labelOf_48 : decode cX4_labelOf 48 = .ok (.getfield 36, 3) := by decide +kernel
theorem dX4_labelOf_51 : decode cX4_labelOf 51 = .ok (.getfield 90, 3) := by decide +kernel
theorem dX4_labelOf_54 : decode cX4_labelOf 54 = .ok (.iload_n 1, 1) := by decide +kernel
theorem dX4_labelOf_55 : decode cX4_labelOf 55 = .ok (.aaload, 1) := by decide +kernel
theorem dX4_labelOf_56 : decode cX4_labelOf 56 = .ok (.iconst 1, 1) := by decide +kernel
theorem dX4_labelOf_57 : decode cX4_labelOf 57 = .ok (.iaload, 1) := by decide +kernel
theorem dX4_labelOf_58 : decode cX4_labelOf 58 = .ok (.iaload, 1) := by decide +kernel
theorem dX4_labelOf_59 : decode cX4_labelOf 59 = .ok (.istore 4, 2) := by decide +kernel
theorem dX4_labelOf_61 : decode cX4_labelOf 61 = .ok (.iload_n 3, 1) := by decide +kernel
theorem dX4_labelOf_62 : decode cX4_labelOf 62 = .ok (.iload 4, 2) := by decide +kernel
theorem dX4_labelOf_64 : decode cX4_labelOf 64 = .ok (.invokestatic 110, 3) := by decide +kernel
theorem dX4_labelOf_67 : decode cX4_labelOf 67 = .ok (.istore 5, 2) := by decide +kernel
theorem dX4_labelOf_69 : decode cX4_labelOf 69 = .ok (.iload_n 3, 1) := by decide +kernel
theorem dX4_labelOf_70 : decode cX4_labelOf 70 = .ok (.iload 4, 2) := by decide +kernel
theorem dX4_labelOf_72 : decode cX4_labelOf 72 = .ok (.invokestatic 115, 3) := by decide +kernel
theorem dX4_labelOf_75 : decode cX4_labelOf 75 = .ok (.istore 6, 2) := by decide +kernel
theorem dX4_labelOf_77 : decode cX4_labelOf 77 = .ok (.iconst 3, 1) := by decide +kernel
theorem dX4_labelOf_78 : decode cX4_labelOf 78 = .ok (.iload 5, 2) := by decide +kernel
theorem dX4_labelOf_80 : decode cX4_labelOf 80 = .ok (.iload 6, 2) := by decide +kernel
theorem dX4_labelOf_82 : decode cX4_labelOf 82 = .ok (.iconst 1, 1) := by decide +kernel
theorem dX4_labelOf_83 : decode cX4_labelOf 83 = .ok (.iadd, 1) := by decide +kernel
theorem dX4_labelOf_84 : decode cX4_labelOf 84 = .ok (.invokestatic 110, 3) := by decide +kernel
theorem dX4_labelOf_87 : decode cX4_labelOf 87 = .ok (.invokestatic 110, 3) := by decide +kernel
theorem dX4_labelOf_90 : decode cX4_labelOf 90 = .ok (.ireturn, 1) := by decide +kernel
set_option maxRecDepth 20000 in
theorem ggX4_beginOrder_J7_fill_53178 : GoodIn wsX4_beginOrder wsJ7_fill_53178 := goodIn_r _ [7] (by decide +kernel) (by decide +kernel)
set_option maxRecDepth 20000 in
theorem gX4_beginOrder_J7_fill_53178 : GoodIn wsX4_beginOrder (va_wsS RX4 75 yJ7_fill_53178 wsJ7_fill_53178) := goodIn_app (goodIn_of _ (by decide +kernel)) ggX4_beginOrder_J7_fill_53178
theorem dX4_beginOrder_0 : decode cX4_beginOrder 0 = .ok (.aload_n 0, 1) := by decide +kernel
theorem dX4_beginOrder_1 : decode cX4_beginOrder 1 = .ok (.getfield 27, 3) := by decide +kernel
theorem dX4_beginOrder_4 : decode cX4_beginOrder 4 = .ok (.iconst (-1), 1) := by decide +kernel
theorem dX4_beginOrder_5 : decode cX4_beginOrder 5 = .ok (.invokestatic 75, 3) := by decide +kernel
theorem dX4_beginOrder_8 : decode cX4_beginOrder 8 = .ok (.aload_n 0, 1) := by decide +kernel
theorem dX4_beginOrder_9 : decode cX4_beginOrder 9 = .ok (.iconst 0, 1) := by decide +kernel
theorem dX4_beginOrder_10 : decode cX4_beginOrder 10 = .ok (.putfield 118, 3) := by decide +kernel
theorem dX4_beginOrder_13 : decode cX4_beginOrder 13 = .ok (.aload_n 0, 1) := by decide +kernel
theorem dX4_beginOrder_14 : decode cX4_beginOrder 14 = .ok (.iconst 0, 1) := by decide +kernel
theorem dX4_beginOrder_15 : decode cX4_beginOrder 15 = .ok (.putfield 46, 3) := by decide +kernel
theorem dX4_beginOrder_18 : decode cX4_beginOrder 18 = .ok (.return_, 1) := by decide +kernel
set_option maxRecDepth 20000 in
theorem ggX4_append_X6_setOf : GoodIn wsX4_append wsX6_setOf := goodIn_r _ [7] (by decide +kernel) (by decide +kernel)
set_option maxRecDepth 20000 in
theorem gX4_append_X6_setOf_n87 : GoodIn wsX4_append (wsX6_setOf) := ggX4_append_X6_setOf
theorem dX4_append_0 : decode cX4_append 0 = .ok (.aload_n 0, 1) := by decide +kernel
theorem dX4_append_1 : decode cX4_append 1 = .ok (.getfield 24, 3) := by decide +kernel
theorem dX4_append_4 : decode cX4_append 4 = .ok (.aload_n 0, 1) := by decide +kernel
theorem dX4_append_5 : decode cX4_append 5 = .ok (.getfield 46, 3) := by decide +kernel
theorem dX4_append_8 : decode cX4_append 8 = .ok (.iload_n 1, 1) := by decide +kernel
theorem dX4_append_9 : decode cX4_append 9 = .ok (.iastore, 1) := by decide +kernel
theorem dX4_append_10 : decode cX4_append 10 = .ok (.aload_n 0, 1) := by decide +kernel
theorem dX4_append_11 : decode cX4_append 11 = .ok (.getfield 27, 3) := by decide +kernel
theorem dX4_append_14 : decode cX4_append 14 = .ok (.iload_n 1, 1) := by decide +kernel
theorem dX4_append_15 : decode cX4_append 15 = .ok (.aload_n 0, 1) := by decide +kernel
theorem dX4_append_16 : decode cX4_append 16 = .ok (.getfield 46, 3) := by decide +kernel
theorem dX4_append_19 : decode cX4_append 19 = .ok (.iastore, 1) := by decide +kernel
theorem dX4_append_20 : decode cX4_append 20 = .ok (.aload_n 0, 1) := by decide +kernel
theorem dX4_append_21 : decode cX4_append 21 = .ok (.dup, 1) := by decide +kernel
theorem dX4_append_22 : decode cX4_append 22 = .ok (.getfield 118, 3) := by decide +kernel
theorem dX4_append_25 : decode cX4_append 25 = .ok (.iload_n 1, 1) := by decide +kernel
theorem dX4_append_26 : decode cX4_append 26 = .ok (.invokestatic 87, 3) := by decide +kernel
theorem dX4_append_29 : decode cX4_append 29 = .ok (.ior, 1) := by decide +kernel
theorem dX4_append_30 : decode cX4_append 30 = .ok (.putfield 118, 3) := by decide +kernel
theorem dX4_append_33 : decode cX4_append 33 = .ok (.aload_n 0, 1) := by decide +kernel
theorem dX4_append_34 : decode cX4_append 34 = .ok (.dup, 1) := by decide +kernel
theorem dX4_append_35 : decode cX4_append 35 = .ok (.getfield 46, 3) := by decide +kernel
theorem dX4_append_38 : decode cX4_append 38 = .ok (.iconst 1, 1) := by decide +kernel
theorem dX4_append_39 : decode cX4_append 39 = .ok (.iadd, 1) := by decide +kernel
theorem dX4_append_40 : decode cX4_append 40 = .ok (.putfield 46, 3) := by decide +kernel
theorem dX4_append_43 : decode cX4_append 43 = .ok (.return_, 1) := by decide +kernel
set_option maxRecDepth 20000 in
theorem ggX4_orderByNumbers_X4_beginOrder : GoodIn wsX4_orderByNumbers wsX4_beginOrder := goodIn_r _ [7, 8, 9, 10, 11, 12, 13, 14, 38, 39, 40, 41, 42, 43, 44, 45, 46, 47, 48, 49] (by decide +kernel) (by decide +kernel)
set_option maxRecDepth 20000 in
theorem gX4_orderByNumbers_X4_beginOrder : GoodIn wsX4_orderByNumbers (wsV RX4 121 RX4 yX4_beginOrder wsX4_beginOrder) := goodIn_app (goodIn_of _ (by decide +kernel)) ggX4_orderByNumbers_X4_beginOrder
set_option maxRecDepth 20000 in
theorem ggX4_orderByNumbers_X4_leastReady : GoodIn wsX4_orderByNumbers wsX4_leastReady := goodIn_ca (goodIn_r _ [18, 1, 2, 19, 20, 21, 6, 22, 23, 9, 24, 25, 26, 27, 8, 28, 29, 30, 38, 39, 40, 41, 42, 43, 44, 45, 46, 47, 48, 49, 50, 51, 52, 53, 54, 55, 56] (by decide +kernel) (by decide +kernel)) (goodIn_sub (fun _ h => List.mem_cons_of_mem _ (List.mem_append_right _ h)) (by decide +kernel))
set_option maxRecDepth 20000 in
theorem gX4_orderByNumbers_X4_leastReady : GoodIn wsX4_orderByNumbers (wsV RX4 124 RX4 yX4_leastReady wsX4_leastReady) := goodIn_app (goodIn_of _ (by decide +kernel)) ggX4_orderByNumbers_X4_leastReady
set_option maxRecDepth 20000 in
theorem ggX4_orderByNumbers_X4_append : GoodIn wsX4_orderByNumbers wsX4_append := goodIn_ca (goodIn_r _ [34, 35, 10, 8, 9, 36, 29, 37, 38, 39, 40, 41, 42, 43, 44, 45, 46, 47, 48, 49] (by decide +kernel) (by decide +kernel)) (goodIn_sub (fun _ h => List.mem_cons_of_mem _ (List.mem_append_right _ h)) (by decide +kernel))
set_option maxRecDepth 20000 in
theorem gX4_orderByNumbers_X4_append : GoodIn wsX4_orderByNumbers (wsV RX4 128 RX4 yX4_append wsX4_append) := goodIn_app (goodIn_of _ (by decide +kernel)) ggX4_orderByNumbers_X4_append
theorem dX4_orderByNumbers_0 : decode cX4_orderByNumbers 0 = .ok (.aload_n 0, 1) := by decide +kernel
theorem dX4_orderByNumbers_1 : decode cX4_orderByNumbers 1 = .ok (.invokevirtual 121, 3) := by decide +kernel
theorem dX4_orderByNumbers_4 : decode cX4_orderByNumbers 4 = .ok (.iconst 0, 1) := by decide +kernel
theorem dX4_orderByNumbers_5 : decode cX4_orderByNumbers 5 = .ok (.istore_n 1, 1) := by decide +kernel
theorem dX4_orderByNumbers_6 : decode cX4_orderByNumbers 6 = .ok (.iload_n 1, 1) := by decide +kernel
theorem dX4_orderByNumbers_7 : decode cX4_orderByNumbers 7 = .ok (.aload_n 0, 1) := by decide +kernel
theorem dX4_orderByNumbers_8 : decode cX4_orderByNumbers 8 = .ok (.getfield 36, 3) := by decide +kernel
theorem dX4_orderByNumbers_11 : decode cX4_orderByNumbers 11 = .ok (.getfield 64, 3) := by decide +kernel
theorem dX4_orderByNumbers_14 : decode cX4_orderByNumbers 14 = .ok (.if_icmp .ge 17, 3) := by decide +kernel
theorem dX4_orderByNumbers_17 : decode cX4_orderByNumbers 17 = .ok (.aload_n 0, 1) := by decide +kernel
theorem dX4_orderByNumbers_18 : decode cX4_orderByNumbers 18 = .ok (.aload_n 0, 1) := by decide +kernel
theorem dX4_orderByNumbers_19 : decode cX4_orderByNumbers 19 = .ok (.invokevirtual 124, 3) := by decide +kernel
theorem dX4_orderByNumbers_22 : decode cX4_orderByNumbers 22 = .ok (.invokevirtual 128, 3) := by decide +kernel
theorem dX4_orderByNumbers_25 : decode cX4_orderByNumbers 25 = .ok (.iinc 1 1, 3) := by decide +kernel
theorem dX4_orderByNumbers_28 : decode cX4_orderByNumbers 28 = .ok (.goto (-22), 3) := by decide +kernel
theorem dX4_orderByNumbers_31 : decode cX4_orderByNumbers 31 = .ok (.return_, 1) := by decide +kernel
set_option maxRecDepth 20000 in
theorem ggX4_leastReady_X4_isReady : GoodIn wsX4_leastReady wsX4_isReady := goodIn_ca (goodIn_r _ [7, 8, 9, 10, 11, 12, 6, 13, 14, 15, 16, 17, 18, 19, 20, 21, 22, 23, 24, 25, 26, 27, 28, 29] (by decide +kernel) (by decide +kernel)) (goodIn_sub (fun _ h => List.mem_cons_of_mem _ (List.mem_append_right _ h)) (by decide +kernel))
set_option maxRecDepth 20000 in
theorem gX4_leastReady_X4_isReady : GoodIn wsX4_leastReady (wsV RX4 132 RX4 yX4_isReady wsX4_isReady) := goodIn_app (goodIn_of _ (by decide +kernel)) ggX4_leastReady_X4_isReady
theorem dX4_leastReady_0 : decode cX4_leastReady 0 = .ok (.iconst 0, 1) := by decide +kernel
theorem dX4_leastReady_1 : decode cX4_leastReady 1 = .ok (.istore_n 1, 1) := by decide +kernel
theorem dX4_leastReady_2 : decode cX4_leastReady 2 = .ok (.iload_n 1, 1) := by decide +kernel
theorem dX4_leastReady_3 : decode cX4_leastReady 3 = .ok (.aload_n 0, 1) := by decide +kernel
theorem dX4_leastReady_4 : decode cX4_leastReady 4 = .ok (.getfield 36, 3) := by decide +kernel
theorem dX4_leastReady_7 : decode cX4_leastReady 7 = .ok (.getfield 64, 3) := by decide +kernel
theorem dX4_leastReady_10 : decode cX4_leastReady 10 = .ok (.iconst 1, 1) := by decide +kernel
theorem dX4_leastReady_11 : decode cX4_leastReady 11 = .ok (.isub, 1) := by decide +kernel
theorem dX4_leastReady_12 : decode cX4_leastReady 12 = .ok (.if_icmp .ge 17, 3) := by decide +kernel
theorem dX4_leastReady_15 : decode cX4_leastReady 15 = .ok (.aload_n 0, 1) := by decide +kernel
theorem dX4_leastReady_16 : decode cX4_leastReady 16 = .ok (.iload_n 1, 1) := by decide +kernel
theorem dX4_leastReady_17 : decode cX4_leastReady 17 = .ok (.invokevirtual 132, 3) := by decide +kernel
theorem dX4_leastReady_20 : decode cX4_leastReady 20 = .ok (.ifCond .ne 9, 3) := by decide +kernel
theorem dX4_leastReady_23 : decode cX4_leastReady 23 = .ok (.iinc 1 1, 3) := by decide +kernel
theorem dX4_leastReady_26 : decode cX4_leastReady 26 = .ok (.goto (-24), 3) := by decide +kernel
theorem dX4_leastReady_29 : decode cX4_leastReady 29 = .ok (.iload_n 1, 1) := by decide +kernel
theorem dX4_leastReady_30 : decode cX4_leastReady 30 = .ok (.ireturn, 1) := by decide +kernel
set_option maxRecDepth 20000 in
theorem ggX4_isReady_X4_isMissing : GoodIn wsX4_isReady wsX4_isMissing := goodIn_ca (goodIn_r _ [7, 8, 12, 13, 14, 15, 16, 17, 18, 19, 20, 21, 22, 23] (by decide +kernel) (by decide +kernel)) (goodIn_sub (fun _ h => List.mem_cons_of_mem _ (List.mem_append_right _ h)) (by decide +kernel))
set_option maxRecDepth 20000 in
theorem gX4_isReady_X4_isMissing : GoodIn wsX4_isReady (wsV RX4 135 RX4 yX4_isMissing wsX4_isMissing) := goodIn_app (goodIn_of _ (by decide +kernel)) ggX4_isReady_X4_isMissing
set_option maxRecDepth 20000 in
theorem ggX4_isReady_X6_isPartOf : GoodIn wsX4_isReady wsX6_isPartOf := goodIn_r _ [11] (by decide +kernel) (by decide +kernel)
set_option maxRecDepth 20000 in
theorem gX4_isReady_X6_isPartOf_n138 : GoodIn wsX4_isReady (wsX6_isPartOf) := ggX4_isReady_X6_isPartOf
theorem dX4_isReady_0 : decode cX4_isReady 0 = .ok (.aload_n 0, 1) := by decide +kernel
theorem dX4_isReady_1 : decode cX4_isReady 1 = .ok (.iload_n 1, 1) := by decide +kernel
theorem dX4_isReady_2 : decode cX4_isReady 2 = .ok (.invokevirtual 135, 3) := by decide +kernel
theorem dX4_isReady_5 : decode cX4_isReady 5 = .ok (.ifCond .eq 23, 3) := by decide +kernel
theorem dX4_isReady_8 : decode cX4_isReady 8 = .ok (.aload_n 0, 1) := by decide +kernel
theorem dX4_isReady_9 : decode cX4_isReady 9 = .ok (.getfield 9, 3) := by decide +kernel
theorem dX4_isReady_12 : decode cX4_isReady 12 = .ok (.iload_n 1, 1) := by decide +kernel
theorem dX4_isReady_13 : decode cX4_isReady 13 = .ok (.iaload, 1) := by decide +kernel
theorem dX4_isReady_14 : decode cX4_isReady 14 = .ok (.aload_n 0, 1) := by decide +kernel
theorem dX4_isReady_15 : decode cX4_isReady 15 = .ok (.getfield 118, 3) := by decide +kernel
theorem dX4_isReady_18 : decode cX4_isReady 18 = .ok (.invokestatic 138, 3) := by decide +kernel
theorem dX4_isReady_21 : decode cX4_isReady 21 = .ok (.ifCond .eq 7, 3) := by decide +kernel
theorem dX4_isReady_24 : decode cX4_isReady 24 = .ok (.iconst 1, 1) := by decide +kernel
theorem dX4_isReady_25 : decode cX4_isReady 25 = .ok (.goto 4, 3) := by decide +kernel
theorem dX4_isReady_28 : decode cX4_isReady 28 = .ok (.iconst 0, 1) := by decide +kernel
theorem dX4_isReady_29 : decode cX4_isReady 29 = .ok (.ireturn, 1) := by decide +kernel
theorem dX4_isMissing_0 : decode cX4_isMissing 0 = .ok (.aload_n 0, 1) := by decide +kernel
theorem dX4_isMissing_1 : decode cX4_isMissing 1 = .ok (.getfield 27, 3) := by decide +kernel
theorem dX4_isMissing_4 : decode cX4_isMissing 4 = .ok (.iload_n 1, 1) := by decide +kernel
theorem dX4_isMissing_5 : decode cX4_isMissing 5 = .ok (.iaload, 1) := by decide +kernel
theorem dX4_isMissing_6 : decode cX4_isMissing 6 = .ok (.iconst (-1), 1) := by decide +kernel
theorem dX4_isMissing_7 : decode cX4_isMissing 7 = .ok (.if_icmp .ne 7, 3) := by decide +kernel
theorem dX4_isMissing_10 : decode cX4_isMissing 10 = .ok (.iconst 1, 1) := by decide +kernel
theorem dX4_isMissing_11 : decode cX4_isMissing 11 = .ok (.goto 4, 3) := by decide +kernel
theorem dX4_isMissing_14 : decode cX4_isMissing 14 = .ok (.iconst 0, 1) := by decide +kernel
theorem dX4_isMissing_15 : decode cX4_isMissing 15 = .ok (.ireturn, 1) := by decide +kernel
set_option maxRecDepth 20000 in
theorem ggX4_orderByLabels_X4_beginOrder : GoodIn wsX4_orderByLabels wsX4_beginOrder := goodIn_r _ [8, 9, 10, 11, 12, 13, 14, 15, 42, 43, 44, 45, 46, 47, 48, 49, 50, 51, 52, 53] (by decide +kernel) (by decide +kernel)
set_option maxRecDepth 20000 in
theorem gX4_orderByLabels_X4_beginOrder : GoodIn wsX4_orderByLabels (wsV RX4 121 RX4 yX4_beginOrder wsX4_beginOrder) := goodIn_app (goodIn_of _ (by decide +kernel)) ggX4_orderByLabels_X4_beginOrder
set_option maxRecDepth 20000 in
theorem ggX4_orderByLabels_X4_visit : GoodIn wsX4_orderByLabels wsX4_visit := goodIn_ca (goodIn_r _ [19, 1, 2, 20, 21, 22, 7, 23, 9, 24, 25, 26, 27, 28, 29, 30, 31, 32, 33, 34, 35, 36, 37, 38, 11, 10, 39, 40, 41, 42, 43, 44, 45, 46, 47, 48, 49, 50, 51, 52, 53, 54, 55, 56, 57, 58, 59, 60] (by decide +kernel) (by decide +kernel)) (goodIn_sub (fun _ h => List.mem_cons_of_mem _ (List.mem_append_right _ h)) (by decide +kernel))
set_option maxRecDepth 20000 in
theorem gX4_orderByLabels_X4_visit : GoodIn wsX4_orderByLabels (wsV RX4 141 RX4 yX4_visit wsX4_visit) := goodIn_app (goodIn_of _ (by decide +kernel)) ggX4_orderByLabels_X4_visit
theorem dX4_orderByLabels_0 : decode cX4_orderByLabels 0 = .ok (.aload_n 0, 1) := by decide +kernel
theorem dX4_orderByLabels_1 : decode cX4_orderByLabels 1 = .ok (.invokevirtual 121, 3) := by decide +kernel
theorem dX4_orderByLabels_4 : decode cX4_orderByLabels 4 = .ok (.iconst 0, 1) := by decide +kernel
theorem dX4_orderByLabels_5 : decode cX4_orderByLabels 5 = .ok (.istore_n 1, 1) := by decide +kernel
theorem dX4_orderByLabels_6 : decode cX4_orderByLabels 6 = .ok (.iload_n 1, 1) := by decide +kernel
theorem dX4_orderByLabels_7 : decode cX4_orderByLabels 7 = .ok (.aload_n 0, 1) := by decide +kernel
theorem dX4_orderByLabels_8 : decode cX4_orderByLabels 8 = .ok (.getfield 36, 3) := by decide +kernel
theorem dX4_orderByLabels_11 : decode cX4_orderByLabels 11 = .ok (.getfield 64, 3) := by decide +kernel
theorem dX4_orderByLabels_14 : decode cX4_orderByLabels 14 = .ok (.if_icmp .ge 23, 3) := by decide +kernel
theorem dX4_orderByLabels_17 : decode cX4_orderByLabels 17 = .ok (.aload_n 0, 1) := by decide +kernel
theorem dX4_orderByLabels_18 : decode cX4_orderByLabels 18 = .ok (.getfield 15, 3) := by decide +kernel
theorem dX4_orderByLabels_21 : decode cX4_orderByLabels 21 = .ok (.iload_n 1, 1) := by decide +kernel
theorem dX4_orderByLabels_22 : decode cX4_orderByLabels 22 = .ok (.iaload, 1) := by decide +kernel
theorem dX4_orderByLabels_23 : decode cX4_orderByLabels 23 = .ok (.ifCond .ne 8, 3) := by decide +kernel
theorem dX4_orderByLabels_26 : decode cX4_orderByLabels 26 = .ok (.aload_n 0, 1) := by decide +kernel
theorem dX4_orderByLabels_27 : decode cX4_orderByLabels 27 = .ok (.iload_n 1, 1) := by decide +kernel
theorem dX4_orderByLabels_28 : decode cX4_orderByLabels 28 = .ok (.invokevirtual 141, 3) := by decide +kernel
theorem dX4_orderByLabels_31 : decode cX4_orderByLabels 31 = .ok (.iinc 1 1, 3) := by decide +kernel
theorem dX4_orderByLabels_34 : decode cX4_orderByLabels 34 = .ok (.goto (-28), 3) := by decide +kernel
theorem dX4_orderByLabels_37 : decode cX4_orderByLabels 37 = .ok (.return_, 1) := by decide +kernel
set_option maxRecDepth 20000 in
theorem ggX4_visit_X4_isMissing : GoodIn wsX4_visit wsX4_isMissing := goodIn_ca (goodIn_r _ [7, 8, 29, 30, 31, 32, 33, 34, 35, 36, 37, 38, 39, 40] (by decide +kernel) (by decide +kernel)) (goodIn_sub (fun _ h => List.mem_cons_of_mem _ (List.mem_append_right _ h)) (by decide +kernel))
set_option maxRecDepth 20000 in
theorem gX4_visit_X4_isMissing : GoodIn wsX4_visit (wsV RX4 135 RX4 yX4_isMissing wsX4_isMissing) := goodIn_app (goodIn_of _ (by decide +kernel)) ggX4_visit_X4_isMissing
set_option maxRecDepth 20000 in
theorem ggX4_visit_X4_firstDue : GoodIn wsX4_visit wsX4_firstDue := goodIn_ca (goodIn_r _ [12, 1, 2, 13, 14, 15, 6, 16, 17, 18, 3, 4, 5, 7, 8, 29, 30, 31, 32, 33, 34, 35, 36, 37, 38, 39, 40, 41, 42, 43, 44, 45, 46, 47] (by decide +kernel) (by decide +kernel)) (goodIn_sub (fun _ h => List.mem_cons_of_mem _ (List.mem_append_right _ h)) (by decide +kernel))
set_option maxRecDepth 20000 in
theorem gX4_visit_X4_firstDue : GoodIn wsX4_visit (wsV RX4 144 RX4 yX4_firstDue wsX4_firstDue) := goodIn_app (goodIn_of _ (by decide +kernel)) ggX4_visit_X4_firstDue
set_option maxRecDepth 20000 in
theorem ggX4_visit_X4_append : GoodIn wsX4_visit wsX4_append := goodIn_ca (goodIn_r _ [22, 23, 24, 8, 25, 26, 27, 28, 29, 30, 31, 32, 33, 34, 35, 36, 37, 38, 39, 40] (by decide +kernel) (by decide +kernel)) (goodIn_sub (fun _ h => List.mem_cons_of_mem _ (List.mem_append_right _ h)) (by decide +kernel))
set_option maxRecDepth 20000 in
theorem gX4_visit_X4_append : GoodIn wsX4_visit (wsV RX4 128 RX4 yX4_append wsX4_append) := goodIn_app (goodIn_of _ (by decide +kernel)) ggX4_visit_X4_append
theorem dX4_visit_0 : decode cX4_visit 0 = .ok (.iconst 0, 1) := by decide +kernel
theorem dX4_visit_1 : decode cX4_visit 1 = .ok (.istore_n 2, 1) := by decide +kernel
theorem dX4_visit_2 : decode cX4_visit 2 = .ok (.iload_n 2, 1) := by decide +kernel
theorem dX4_visit_3 : decode cX4_visit 3 = .ok (.aload_n 0, 1) := by decide +kernel
theorem dX4_visit_4 : decode cX4_visit 4 = .ok (.getfield 36, 3) := by decide +kernel
theorem dX4_visit_7 : decode cX4_visit 7 = .ok (.getfield 64, 3) := by decide +kernel
theorem dX4_visit_10 : decode cX4_visit 10 = .ok (.if_icmp .ge 26, 3) := by decide +kernel
theorem dX4_visit_13 : decode cX4_visit 13 = .ok (.aload_n 0, 1) := by decide +kernel
theorem dX4_visit_14 : decode cX4_visit 14 = .ok (.iload_n 1, 1) := by decide +kernel
theorem dX4_visit_15 : decode cX4_visit 15 = .ok (.invokevirtual 135, 3) := by decide +kernel
theorem dX4_visit_18 : decode cX4_visit 18 = .ok (.ifCond .eq 18, 3) := by decide +kernel
theorem dX4_visit_21 : decode cX4_visit 21 = .ok (.aload_n 0, 1) := by decide +kernel
theorem dX4_visit_22 : decode cX4_visit 22 = .ok (.aload_n 0, 1) := by decide +kernel
theorem dX4_visit_23 : decode cX4_visit 23 = .ok (.iload_n 1, 1) := by decide +kernel
theorem dX4_visit_24 : decode cX4_visit 24 = .ok (.invokevirtual 144, 3) := by decide +kernel
theorem dX4_visit_27 : decode cX4_visit 27 = .ok (.invokevirtual 128, 3) := by decide +kernel
theorem dX4_visit_30 : decode cX4_visit 30 = .ok (.iinc 2 1, 3) := by decide +kernel
theorem dX4_visit_33 : decode cX4_visit 33 = .ok (.goto (-31), 3) := by decide +kernel
theorem dX4_visit_36 : decode cX4_visit 36 = .ok (.return_, 1) := by decide +kernel
set_option maxRecDepth 20000 in
theorem ggX4_firstDue_X4_sourceToVisit : GoodIn wsX4_firstDue wsX4_sourceToVisit := goodIn_ca (goodIn_r _ [7, 1, 8, 9, 10, 11, 12, 6, 13, 14, 15, 16, 17, 18, 19, 20, 21, 22, 23, 24, 25, 26, 27, 28, 29, 30, 31, 32, 33] (by decide +kernel) (by decide +kernel)) (goodIn_sub (fun _ h => List.mem_cons_of_mem _ (List.mem_append_right _ h)) (by decide +kernel))
set_option maxRecDepth 20000 in
theorem gX4_firstDue_X4_sourceToVisit : GoodIn wsX4_firstDue (wsV RX4 147 RX4 yX4_sourceToVisit wsX4_sourceToVisit) := goodIn_app (goodIn_of _ (by decide +kernel)) ggX4_firstDue_X4_sourceToVisit
theorem dX4_firstDue_0 : decode cX4_firstDue 0 = .ok (.iload_n 1, 1) := by decide +kernel
theorem dX4_firstDue_1 : decode cX4_firstDue 1 = .ok (.istore_n 2, 1) := by decide +kernel
theorem dX4_firstDue_2 : decode cX4_firstDue 2 = .ok (.iconst 0, 1) := by decide +kernel
theorem dX4_firstDue_3 : decode cX4_firstDue 3 = .ok (.istore_n 3, 1) := by decide +kernel
theorem dX4_firstDue_4 : decode cX4_firstDue 4 = .ok (.iload_n 3, 1) := by decide +kernel
theorem dX4_firstDue_5 : decode cX4_firstDue 5 = .ok (.aload_n 0, 1) := by decide +kernel
theorem dX4_firstDue_6 : decode cX4_firstDue 6 = .ok (.getfield 36, 3) := by decide +kernel
theorem dX4_firstDue_9 : decode cX4_firstDue 9 = .ok (.getfield 64, 3) := by decide +kernel
theorem dX4_firstDue_12 : decode cX4_firstDue 12 = .ok (.if_icmp .ge 27, 3) := by decide +kernel
theorem dX4_firstDue_15 : decode cX4_firstDue 15 = .ok (.aload_n 0, 1) := by decide +kernel
theorem dX4_firstDue_16 : decode cX4_firstDue 16 = .ok (.iload_n 2, 1) := by decide +kernel
theorem dX4_firstDue_17 : decode cX4_firstDue 17 = .ok (.invokevirtual 147, 3) := by decide +kernel
theorem dX4_firstDue_20 : decode cX4_firstDue 20 = .ok (.istore 4, 2) := by decide +kernel
theorem dX4_firstDue_22 : decode cX4_firstDue 22 = .ok (.iload 4, 2) := by decide +kernel
theorem dX4_firstDue_24 : decode cX4_firstDue 24 = .ok (.iconst (-1), 1) := by decide +kernel
theorem dX4_firstDue_25 : decode cX4_firstDue 25 = .ok (.if_icmp .ne 5, 3) := by decide +kernel
theorem dX4_firstDue_28 : decode cX4_firstDue 28 = .ok (.iload_n 2, 1) := by decide +kernel
theorem dX4_firstDue_29 : decode cX4_firstDue 29 = .ok (.ireturn, 1) := by decide +kernel
theorem dX4_firstDue_30 : decode cX4_firstDue 30 = .ok (.iload 4, 2) := by decide +kernel
theorem dX4_firstDue_32 : decode cX4_firstDue 32 = .ok (.istore_n 2, 1) := by decide +kernel
theorem dX4_firstDue_33 : decode cX4_firstDue 33 = .ok (.iinc 3 1, 3) := by decide +kernel
theorem dX4_firstDue_36 : decode cX4_firstDue 36 = .ok (.goto (-32), 3) := by decide +kernel
theorem dX4_firstDue_39 : decode cX4_firstDue 39 = .ok (.iload_n 2, 1) := by decide +kernel
theorem dX4_firstDue_40 : decode cX4_firstDue 40 = .ok (.ireturn, 1) := by decide +kernel
set_option maxRecDepth 20000 in
theorem ggX4_sourceToVisit_X4_isMissing : GoodIn wsX4_sourceToVisit wsX4_isMissing := goodIn_ca (goodIn_r _ [8, 9, 10, 11, 12, 13, 14, 15, 16, 17, 18, 19, 20, 21] (by decide +kernel) (by decide +kernel)) (goodIn_sub (fun _ h => List.mem_cons_of_mem _ (List.mem_append_right _ h)) (by decide +kernel))
set_option maxRecDepth 20000 in
theorem gX4_sourceToVisit_X4_isMissing : GoodIn wsX4_sourceToVisit (wsV RX4 135 RX4 yX4_isMissing wsX4_isMissing) := goodIn_app (goodIn_of _ (by decide +kernel)) ggX4_sourceToVisit_X4_isMissing
theorem dX4_sourceToVisit_0 : decode cX4_sourceToVisit 0 = .ok (.aload_n 0, 1) := by decide +kernel
theorem dX4_sourceToVisit_1 : decode cX4_sourceToVisit 1 = .ok (.getfield 36, 3) := by decide +kernel
theorem dX4_sourceToVisit_4 : decode cX4_sourceToVisit 4 = .ok (.getfield 90, 3) := by decide +kernel
theorem dX4_sourceToVisit_7 : decode cX4_sourceToVisit 7 = .ok (.iload_n 1, 1) := by decide +kernel
theorem dX4_sourceToVisit_8 : decode cX4_sourceToVisit 8 = .ok (.aaload, 1) := by decide +kernel
theorem dX4_sourceToVisit_9 : decode cX4_sourceToVisit 9 = .ok (.iconst 0, 1) := by decide +kernel
theorem dX4_sourceToVisit_10 : decode cX4_sourceToVisit 10 = .ok (.iaload, 1) := by decide +kernel
theorem dX4_sourceToVisit_11 : decode cX4_sourceToVisit 11 = .ok (.istore_n 2, 1) := by decide +kernel
theorem dX4_sourceToVisit_12 : decode cX4_sourceToVisit 12 = .ok (.aload_n 0, 1) := by decide +kernel
theorem dX4_sourceToVisit_13 : decode cX4_sourceToVisit 13 = .ok (.getfield 36, 3) := by decide +kernel
theorem dX4_sourceToVisit_16 : decode cX4_sourceToVisit 16 = .ok (.getfield 90, 3) := by decide +kernel
theorem dX4_sourceToVisit_19 : decode cX4_sourceToVisit 19 = .ok (.iload_n 1, 1) := by decide +kernel
theorem dX4_sourceToVisit_20 : decode cX4_sourceToVisit 20 = .ok (.aaload, 1) := by decide +kernel
theorem dX4_sourceToVisit_21 : decode cX4_sourceToVisit 21 = .ok (.iconst 1, 1) := by decide +kernel
theorem dX4_sourceToVisit_22 : decode cX4_sourceToVisit 22 = .ok (.iaload, 1) := by decide +kernel
theorem dX4_sourceToVisit_23 : decode cX4_sourceToVisit 23 = .ok (.istore_n 3, 1) := by decide +kernel
theorem dX4_sourceToVisit_24 : decode cX4_sourceToVisit 24 = .ok (.iload_n 2, 1) := by decide +kernel
theorem dX4_sourceToVisit_25 : decode cX4_sourceToVisit 25 = .ok (.iconst (-1), 1) := by decide +kernel
theorem dX4_sourceToVisit_26 : decode cX4_sourceToVisit 26 = .ok (.if_icmp .eq 27, 3) := by decide +kernel
theorem dX4_sourceToVisit_29 : decode cX4_sourceToVisit 29 = .ok (.iload_n 3, 1) := by decide +kernel
theorem dX4_sourceToVisit_30 : decode cX4_sourceToVisit 30 = .ok (.iconst (-1), 1) := by decide +kernel
theorem dX4_sourceToVisit_31 : decode cX4_sourceToVisit 31 = .ok (.if_icmp .eq 22, 3) := by decide +kernel
theorem dX4_sourceToVisit_34 : decode cX4_sourceToVisit 34 = .ok (.aload_n 0, 1) := by decide +kernel
theorem dX4_sourceToVisit_35 : decode cX4_sourceToVisit 35 = .ok (.getfield 21, 3) := by decide +kernel
theorem dX4_sourceToVisit_38 : decode cX4_sourceToVisit 38 = .ok (.iload_n 3, 1) := by decide +kernel
theorem dX4_sourceToVisit_39 : decode cX4_sourceToVisit 39 = .ok (.iaload, 1) := by decide +kernel
theorem dX4_sourceToVisit_40 : decode cX4_sourceToVisit 40 = .ok (.aload_n 0, 1) := by decide +kernel
theorem dX4_sourceToVisit_41 : decode cX4_sourceToVisit 41 = .ok (.getfield 21, 3) := by decide +kernel
theorem dX4_sourceToVisit_44 : decode cX4_sourceToVisit 44 = .ok (.iload_n 2, 1) := by decide +kernel
theorem dX4_sourceToVisit_45 : decode cX4_sourceToVisit 45 = .ok (.iaload, 1) := by decide +kernel
theorem dX4_sourceToVisit_46 : decode cX4_sourceToVisit 46 = .ok (.if_icmp .le 7, 3) := by decide +kernel
theorem dX4_sourceToVisit_49 : decode cX4_sourceToVisit 49 = .ok (.iconst 1, 1) := by decide +kernel
theorem dX4_sourceToVisit_50 : decode cX4_sourceToVisit 50 = .ok (.goto 4, 3) := by decide +kernel
theorem dX4_sourceToVisit_53 : decode cX4_sourceToVisit 53 = .ok (.iconst 0, 1) := by decide +kernel
theorem dX4_sourceToVisit_54 : decode cX4_sourceToVisit 54 = .ok (.istore 4, 2) := by decide +kernel
theorem dX4_sourceToVisit_56 : decode cX4_sourceToVisit 56 = .ok (.iload 4, 2) := by decide +kernel
theorem dX4_sourceToVisit_58 : decode cX4_sourceToVisit 58 = .ok (.ifCond .eq 7, 3) := by decide +kernel
theorem dX4_sourceToVisit_61 : decode cX4_sourceToVisit 61 = .ok (.iload_n 3, 1) := by decide +kernel
theorem dX4_sourceToVisit_62 : decode cX4_sourceToVisit 62 = .ok (.goto 4, 3) := by decide +kernel
theorem dX4_sourceToVisit_65 : decode cX4_sourceToVisit 65 = .ok (.iload_n 2, 1) := by decide +kernel
theorem dX4_sourceToVisit_66 : decode cX4_sourceToVisit 66 = .ok (.istore 5, 2) := by decide +kernel
theorem dX4_sourceToVisit_68 : decode cX4_sourceToVisit 68 = .ok (.iload 4, 2) := by decide +kernel
theorem dX4_sourceToVisit_70 : decode cX4_sourceToVisit 70 = .ok (.ifCond .eq 7, 3) := by decide +kernel
theorem dX4_sourceToVisit_73 : decode cX4_sourceToVisit 73 = .ok (.iload_n 2, 1) := by decide +kernel
theorem dX4_sourceToVisit_74 : decode cX4_sourceToVisit 74 = .ok (.goto 4, 3) := by decide +kernel
theorem dX4_sourceToVisit_77 : decode cX4_sourceToVisit 77 = .ok (.iload_n 3, 1) := by decide +kernel
theorem dX4_sourceToVisit_78 : decode cX4_sourceToVisit 78 = .ok (.istore 6, 2) := by decide +kernel
theorem dX4_sourceToVisit_80 : decode cX4_sourceToVisit 80 = .ok (.iload 5, 2) := by decide +kernel
theorem dX4_sourceToVisit_82 : decode cX4_sourceToVisit 82 = .ok (.iconst (-1), 1) := by decide +kernel
theorem dX4_sourceToVisit_83 : decode cX4_sourceToVisit 83 = .ok (.if_icmp .eq 15, 3) := by decide +kernel
theorem dX4_sourceToVisit_86 : decode cX4_sourceToVisit 86 = .ok (.aload_n 0, 1) := by decide +kernel
theorem dX4_sourceToVisit_87 : decode cX4_sourceToVisit 87 = .ok (.iload 5, 2) := by decide +kernel
theorem dX4_sourceToVisit_89 : decode cX4_sourceToVisit 89 = .ok (.invokevirtual 135, 3) := by decide +kernel
theorem dX4_sourceToVisit_92 : decode cX4_sourceToVisit 92 = .ok (.ifCond .eq 6, 3) := by decide +kernel
theorem dX4_sourceToVisit_95 : decode cX4_sourceToVisit 95 = .ok (.iload 5, 2) := by decide +kernel
theorem dX4_sourceToVisit_97 : decode cX4_sourceToVisit 97 = .ok (.ireturn, 1) := by decide +kernel
theorem dX4_sourceToVisit_98 : decode cX4_sourceToVisit 98 = .ok (.iload 6, 2) := by decide +kernel
theorem dX4_sourceToVisit_100 : decode cX4_sourceToVisit 100 = .ok (.iconst (-1), 1) := by decide +kernel
theorem dX4_sourceToVisit_101 : decode cX4_sourceToVisit 101 = .ok (.if_icmp .eq 17, 3) := by decide +kernel
theorem dX4_sourceToVisit_104 : decode cX4_sourceToVisit 104 = .ok (.aload_n 0, 1) := by decide +kernel
theorem dX4_sourceToVisit_105 : decode cX4_sourceToVisit 105 = .ok (.iload 6, 2) := by decide +kernel
theorem dX4_sourceToVisit_107 : decode cX4_sourceToVisit 107 = .ok (.invokevirtual 135, 3) := by decide +kernel
theorem dX4_sourceToVisit_110 : decode cX4_sourceToVisit 110 = .ok (.ifCond .eq 8, 3) := by decide +kernel
theorem dX4_sourceToVisit_113 : decode cX4_sourceToVisit 113 = .ok (.iload 6, 2) := by decide +kernel
theorem dX4_sourceToVisit_115 : decode cX4_sourceToVisit 115 = .ok (.goto 4, 3) := by decide +kernel
theorem dX4_sourceToVisit_118 : decode cX4_sourceToVisit 118 = .ok (.iconst (-1), 1) := by decide +kernel
theorem dX4_sourceToVisit_119 : decode cX4_sourceToVisit 119 = .ok (.ireturn, 1) := by decide +kernel
set_option maxRecDepth 20000 in
theorem ggX4_lastStepOf_X6_contains : GoodIn wsX4_lastStepOf wsX6_contains := goodIn_r _ [12] (by decide +kernel) (by decide +kernel)
set_option maxRecDepth 20000 in
theorem gX4_lastStepOf_X6_contains_n83 : GoodIn wsX4_lastStepOf (wsX6_contains) := ggX4_lastStepOf_X6_contains
theorem dX4_lastStepOf_0 : decode cX4_lastStepOf 0 = .ok (.aload_n 0, 1) := by decide +kernel
theorem dX4_lastStepOf_1 : decode cX4_lastStepOf 1 = .ok (.getfield 36, 3) := by decide +kernel
theorem dX4_lastStepOf_4 : decode cX4_lastStepOf 4 = .ok (.getfield 150, 3) := by decide +kernel
theorem dX4_lastStepOf_7 : decode cX4_lastStepOf 7 = .ok (.iload_n 1, 1) := by decide +kernel
theorem dX4_lastStepOf_8 : decode cX4_lastStepOf 8 = .ok (.baload, 1) := by decide +kernel
theorem dX4_lastStepOf_9 : decode cX4_lastStepOf 9 = .ok (.ifCond .eq 13, 3) := by decide +kernel
theorem dX4_lastStepOf_12 : decode cX4_lastStepOf 12 = .ok (.aload_n 0, 1) := by decide +kernel
theorem dX4_lastStepOf_13 : decode cX4_lastStepOf 13 = .ok (.getfield 36, 3) := by decide +kernel
theorem dX4_lastStepOf_16 : decode cX4_lastStepOf 16 = .ok (.getfield 64, 3) := by decide +kernel
theorem dX4_lastStepOf_19 : decode cX4_lastStepOf 19 = .ok (.iconst 1, 1) := by decide +kernel
theorem dX4_lastStepOf_20 : decode cX4_lastStepOf 20 = .ok (.isub, 1) := by decide +kernel
theorem dX4_lastStepOf_21 : decode cX4_lastStepOf 21 = .ok (.ireturn, 1) := by decide +kernel
theorem dX4_lastStepOf_22 : decode cX4_lastStepOf 22 = .ok (.aload_n 0, 1) := by decide +kernel
theorem dX4_lastStepOf_23 : decode cX4_lastStepOf 23 = .ok (.getfield 27, 3) := by decide +kernel
theorem dX4_lastStepOf_26 : decode cX4_lastStepOf 26 = .ok (.iload_n 1, 1) := by decide +kernel
theorem dX4_lastStepOf_27 : decode cX4_lastStepOf 27 = .ok (.iaload, 1) := by decide +kernel
theorem dX4_lastStepOf_28 : decode cX4_lastStepOf 28 = .ok (.istore_n 2, 1) := by decide +kernel
theorem dX4_lastStepOf_29 : decode cX4_lastStepOf 29 = .ok (.iconst 0, 1) := by decide +kernel
theorem dX4_lastStepOf_30 : decode cX4_lastStepOf 30 = .ok (.istore_n 3, 1) := by decide +kernel
theorem dX4_lastStepOf_31 : decode cX4_lastStepOf 31 = .ok (.iload_n 3, 1) := by decide +kernel
theorem dX4_lastStepOf_32 : decode cX4_lastStepOf 32 = .ok (.aload_n 0, 1) := by decide +kernel
theorem dX4_lastStepOf_33 : decode cX4_lastStepOf 33 = .ok (.getfield 36, 3) := by decide +kernel
theorem dX4_lastStepOf_36 : decode cX4_lastStepOf 36 = .ok (.getfield 64, 3) := by decide +kernel
theorem dX4_lastStepOf_39 : decode cX4_lastStepOf 39 = .ok (.if_icmp .ge 33, 3) := by decide +kernel
theorem dX4_lastStepOf_42 : decode cX4_lastStepOf 42 = .ok (.aload_n 0, 1) := by decide +kernel
theorem dX4_lastStepOf_43 : decode cX4_lastStepOf 43 = .ok (.getfield 15, 3) := by decide +kernel
theorem dX4_lastStepOf_46 : decode cX4_lastStepOf 46 = .ok (.iload_n 1, 1) := by decide +kernel
theorem dX4_lastStepOf_47 : decode cX4_lastStepOf 47 = .ok (.iaload, 1) := by decide +kernel
theorem dX4_lastStepOf_48 : decode cX4_lastStepOf 48 = .ok (.iload_n 3, 1) := by decide +kernel
theorem dX4_lastStepOf_49 : decode cX4_lastStepOf 49 = .ok (.invokestatic 83, 3) := by decide +kernel
theorem dX4_lastStepOf_52 : decode cX4_lastStepOf 52 = .ok (.ifCond .eq 14, 3) := by decide +kernel
theorem dX4_lastStepOf_55 : decode cX4_lastStepOf 55 = .ok (.iload_n 2, 1) := by decide +kernel
theorem dX4_lastStepOf_56 : decode cX4_lastStepOf 56 = .ok (.aload_n 0, 1) := by decide +kernel
theorem dX4_lastStepOf_57 : decode cX4_lastStepOf 57 = .ok (.getfield 27, 3) := by decide +kernel
theorem dX4_lastStepOf_60 : decode cX4_lastStepOf 60 = .ok (.iload_n 3, 1) := by decide +kernel
theorem dX4_lastStepOf_61 : decode cX4_lastStepOf 61 = .ok (.iaload, 1) := by decide +kernel
theorem dX4_lastStepOf_62 : decode cX4_lastStepOf 62 = .ok (.invokestatic 110, 3) := by decide +kernel
theorem dX4_lastStepOf_65 : decode cX4_lastStepOf 65 = .ok (.istore_n 2, 1) := by decide +kernel
theorem dX4_lastStepOf_66 : decode cX4_lastStepOf 66 = .ok (.iinc 3 1, 3) := by decide +kernel
theorem dX4_lastStepOf_69 : decode cX4_lastStepOf 69 = .ok (.goto (-38), 3) := by decide +kernel
theorem dX4_lastStepOf_72 : decode cX4_lastStepOf 72 = .ok (.iload_n 2, 1) := by decide +kernel
theorem dX4_lastStepOf_73 : decode cX4_lastStepOf 73 = .ok (.ireturn, 1) := by decide +kernel
set_option maxRecDepth 20000 in
theorem ggX4_addCosts_J7_fill_53178 : GoodIn wsX4_addCosts wsJ7_fill_53178 := goodIn_r _ [16] (by decide +kernel) (by decide +kernel)
set_option maxRecDepth 20000 in
theorem gX4_addCosts_J7_fill_53178 : GoodIn wsX4_addCosts (va_wsS RX4 75 yJ7_fill_53178 wsJ7_fill_53178) := goodIn_app (goodIn_of _ (by decide +kernel)) ggX4_addCosts_J7_fill_53178
theorem dX4_addCosts_0 : decode cX4_addCosts 0 = .ok (.aload_n 0, 1) := by decide +kernel
theorem dX4_addCosts_1 : decode cX4_addCosts 1 = .ok (.iconst 0, 1) := by decide +kernel
theorem dX4_addCosts_2 : decode cX4_addCosts 2 = .ok (.putfield 154, 3) := by decide +kernel
theorem dX4_addCosts_5 : decode cX4_addCosts 5 = .ok (.aload_n 0, 1) := by decide +kernel
theorem dX4_addCosts_6 : decode cX4_addCosts 6 = .ok (.getfield 33, 3) := by decide +kernel
theorem dX4_addCosts_9 : decode cX4_addCosts 9 = .ok (.iconst 0, 1) := by decide +kernel
theorem dX4_addCosts_10 : decode cX4_addCosts 10 = .ok (.invokestatic 75, 3) := by decide +kernel
theorem dX4_addCosts_13 : decode cX4_addCosts 13 = .ok (.iconst 0, 1) := by decide +kernel
theorem dX4_addCosts_14 : decode cX4_addCosts 14 = .ok (.istore_n 1, 1) := by decide +kernel
theorem dX4_addCosts_15 : decode cX4_addCosts 15 = .ok (.iload_n 1, 1) := by decide +kernel
theorem dX4_addCosts_16 : decode cX4_addCosts 16 = .ok (.aload_n 0, 1) := by decide +kernel
theorem dX4_addCosts_17 : decode cX4_addCosts 17 = .ok (.getfield 46, 3) := by decide +kernel
theorem dX4_addCosts_20 : decode cX4_addCosts 20 = .ok (.if_icmp .ge 80, 3) := by decide +kernel
theorem dX4_addCosts_23 : decode cX4_addCosts 23 = .ok (.iconst 0, 1) := by decide +kernel
theorem dX4_addCosts_24 : decode cX4_addCosts 24 = .ok (.istore_n 2, 1) := by decide +kernel
theorem dX4_addCosts_25 : decode cX4_addCosts 25 = .ok (.iload_n 2, 1) := by decide +kernel
theorem dX4_addCosts_26 : decode cX4_addCosts 26 = .ok (.aload_n 0, 1) := by decide +kernel
theorem dX4_addCosts_27 : decode cX4_addCosts 27 = .ok (.getfield 36, 3) := by decide +kernel
theorem dX4_addCosts_30 : decode cX4_addCosts 30 = .ok (.getfield 64, 3) := by decide +kernel
theorem dX4_addCosts_33 : decode cX4_addCosts 33 = .ok (.if_icmp .ge 44, 3) := by decide +kernel
theorem dX4_addCosts_36 : decode cX4_addCosts 36 = .ok (.aload_n 0, 1) := by decide +kernel
theorem dX4_addCosts_37 : decode cX4_addCosts 37 = .ok (.getfield 27, 3) := by decide +kernel
theorem dX4_addCosts_40 : decode cX4_addCosts 40 = .ok (.iload_n 2, 1) := by decide +kernel
theorem dX4_addCosts_41 : decode cX4_addCosts 41 = .ok (.iaload, 1) := by decide +kernel
theorem dX4_addCosts_42 : decode cX4_addCosts 42 = .ok (.iload_n 1, 1) := by decide +kernel
theorem dX4_addCosts_43 : decode cX4_addCosts 43 = .ok (.if_icmp .gt 28, 3) := by decide +kernel
theorem dX4_addCosts_46 : decode cX4_addCosts 46 = .ok (.iload_n 1, 1) := by decide +kernel
theorem dX4_addCosts_47 : decode cX4_addCosts 47 = .ok (.aload_n 0, 1) := by decide +kernel
theorem dX4_addCosts_48 : decode cX4_addCosts 48 = .ok (.getfield 30, 3) := by decide +kernel
theorem dX4_addCosts_51 : decode cX4_addCosts 51 = .ok (.iload_n 2, 1) := by decide +kernel
theorem dX4_addCosts_52 : decode cX4_addCosts 52 = .ok (.iaload, 1) := by decide +kernel
theorem dX4_addCosts_53 : decode cX4_addCosts 53 = .ok (.if_icmp .gt 18, 3) := by decide +kernel
theorem dX4_addCosts_56 : decode cX4_addCosts 56 = .ok (.aload_n 0, 1) := by decide +kernel
theorem dX4_addCosts_57 : decode cX4_addCosts 57 = .ok (.getfield 33, 3) := by decide +kernel
theorem dX4_addCosts_60 : decode cX4_addCosts 60 = .ok (.iload_n 1, 1) := by decide +kernel
theorem dX4_addCosts_61 : decode cX4_addCosts 61 = .ok (.dup2, 1) := by decide +kernel
theorem dX4_addCosts_62 : decode cX4_addCosts 62 = .ok (.iaload, 1) := by decide +kernel
theorem dX4_addCosts_63 : decode cX4_addCosts 63 = .ok (.aload_n 0, 1) := by decide +kernel
theorem dX4_addCosts_64 : decode cX4_addCosts 64 = .ok (.getfield 18, 3) := by decide +kernel
theorem dX4_addCosts_67 : decode cX4_addCosts 67 = .ok (.iload_n 2, 1) := by decide +kernel
theorem dX4_addCosts_68 : decode cX4_addCosts 68 = .ok (.iaload, 1) := by decide +kernel
theorem dX4_addCosts_69 : decode cX4_addCosts 69 = .ok (.iadd, 1) := by decide +kernel
theorem dX4_addCosts_70 : decode cX4_addCosts 70 = .ok (.iastore, 1) := by decide +kernel
theorem dX4_addCosts_71 : decode cX4_addCosts 71 = .ok (.iinc 2 1, 3) := by decide +kernel
theorem dX4_addCosts_74 : decode cX4_addCosts 74 = .ok (.goto (-49), 3) := by decide +kernel
theorem dX4_addCosts_77 : decode cX4_addCosts 77 = .ok (.aload_n 0, 1) := by decide +kernel
theorem dX4_addCosts_78 : decode cX4_addCosts 78 = .ok (.aload_n 0, 1) := by decide +kernel
theorem dX4_addCosts_79 : decode cX4_addCosts 79 = .ok (.getfield 154, 3) := by decide +kernel
theorem dX4_addCosts_82 : decode cX4_addCosts 82 = .ok (.aload_n 0, 1) := by decide +kernel
theorem dX4_addCosts_83 : decode cX4_addCosts 83 = .ok (.getfield 33, 3) := by decide +kernel
theorem dX4_addCosts_86 : decode cX4_addCosts 86 = .ok (.iload_n 1, 1) := by decide +kernel
theorem dX4_addCosts_87 : decode cX4_addCosts 87 = .ok (.iaload, 1) := by decide +kernel
theorem dX4_addCosts_88 : decode cX4_addCosts 88 = .ok (.invokestatic 110, 3) := by decide +kernel
theorem dX4_addCosts_91 : decode cX4_addCosts 91 = .ok (.putfield 154, 3) := by decide +kernel
theorem dX4_addCosts_94 : decode cX4_addCosts 94 = .ok (.iinc 1 1, 3) := by decide +kernel
theorem dX4_addCosts_97 : decode cX4_addCosts 97 = .ok (.goto (-82), 3) := by decide +kernel
theorem dX4_addCosts_100 : decode cX4_addCosts 100 = .ok (.return_, 1) := by decide +kernel
theorem dX5_init_0 : decode cX5_init 0 = .ok (.aload_n 0, 1) := by decide +kernel
theorem dX5_init_1 : decode cX5_init 1 = .ok (.invokespecial 3, 3) := by decide +kernel
theorem dX5_init_4 : decode cX5_init 4 = .ok (.aload_n 0, 1) := by decide +kernel
theorem dX5_init_5 : decode cX5_init 5 = .ok (.bipush 12, 2) := by decide +kernel
theorem dX5_init_7 : decode cX5_init 7 = .ok (.newarray .int, 2) := by decide +kernel
theorem dX5_init_9 : decode cX5_init 9 = .ok (.putfield 9, 3) := by decide +kernel
theorem dX5_init_12 : decode cX5_init 12 = .ok (.aload_n 0, 1) := by decide +kernel
theorem dX5_init_13 : decode cX5_init 13 = .ok (.bipush 12, 2) := by decide +kernel
theorem dX5_init_15 : decode cX5_init 15 = .ok (.newarray .int, 2) := by decide +kernel
theorem dX5_init_17 : decode cX5_init 17 = .ok (.putfield 15, 3) := by decide +kernel
theorem dX5_init_20 : decode cX5_init 20 = .ok (.aload_n 0, 1) := by decide +kernel
theorem dX5_init_21 : decode cX5_init 21 = .ok (.bipush 12, 2) := by decide +kernel
theorem dX5_init_23 : decode cX5_init 23 = .ok (.newarray .int, 2) := by decide +kernel
theorem dX5_init_25 : decode cX5_init 25 = .ok (.putfield 18, 3) := by decide +kernel
theorem dX5_init_28 : decode cX5_init 28 = .ok (.aload_n 0, 1) := by decide +kernel
theorem dX5_init_29 : decode cX5_init 29 = .ok (.aload_n 1, 1) := by decide +kernel
theorem dX5_init_30 : decode cX5_init 30 = .ok (.putfield 21, 3) := by decide +kernel
theorem dX5_init_33 : decode cX5_init 33 = .ok (.return_, 1) := by decide +kernel
set_option maxRecDepth 20000 in
theorem ggX5_find_X5_findReach : GoodIn wsX5_find wsX5_findReach := goodIn_ca (goodIn_r _ [9, 2, 3, 4, 10, 11, 12, 13, 14, 15, 16, 17, 18, 19, 20, 44, 45, 46, 47, 48, 49, 50, 51, 52, 53, 54, 55] (by decide +kernel) (by decide +kernel)) (goodIn_sub (fun _ h => List.mem_cons_of_mem _ (List.mem_append_right _ h)) (by decide +kernel))
set_option maxRecDepth 20000 in
theorem gX5_find_X5_findReach : GoodIn wsX5_find (wsV RX5 29 RX5 yX5_findReach wsX5_findReach) := goodIn_app (goodIn_of _ (by decide +kernel)) ggX5_find_X5_findReach
set_option maxRecDepth 20000 in
theorem ggX5_find_X6_contains : GoodIn wsX5_find wsX6_contains := goodIn_r _ [20] (by decide +kernel) (by decide +kernel)
set_option maxRecDepth 20000 in
theorem gX5_find_X6_contains_n37 : GoodIn wsX5_find (wsX6_contains) := ggX5_find_X6_contains
set_option maxRecDepth 20000 in
theorem ggX5_find_X5_countSteps : GoodIn wsX5_find wsX5_countSteps := goodIn_ca (goodIn_r _ [24, 25, 2, 3, 26, 27, 28, 29, 30, 31, 32, 33, 34, 35, 36, 8, 37, 38, 44, 45, 46, 47, 48, 49, 50, 51, 52, 53, 54, 55] (by decide +kernel) (by decide +kernel)) (goodIn_sub (fun _ h => List.mem_cons_of_mem _ (List.mem_append_right _ h)) (by decide +kernel))
set_option maxRecDepth 20000 in
theorem gX5_find_X5_countSteps : GoodIn wsX5_find (wsV RX5 41 RX5 yX5_countSteps wsX5_countSteps) := goodIn_app (goodIn_of _ (by decide +kernel)) ggX5_find_X5_countSteps
set_option maxRecDepth 20000 in
theorem ggX5_find_X5_follow : GoodIn wsX5_find wsX5_follow := goodIn_ca (goodIn_r _ [42, 43, 1, 2, 3, 34, 35, 36, 8, 37, 38, 25, 44, 45, 46, 47, 48, 49, 50, 51, 52, 53, 54, 55] (by decide +kernel) (by decide +kernel)) (goodIn_sub (fun _ h => List.mem_cons_of_mem _ (List.mem_append_right _ h)) (by decide +kernel))
set_option maxRecDepth 20000 in
theorem gX5_find_X5_follow : GoodIn wsX5_find (wsV RX5 45 RX5 yX5_follow wsX5_follow) := goodIn_app (goodIn_of _ (by decide +kernel)) ggX5_find_X5_follow
theorem dX5_find_0 : decode cX5_find 0 = .ok (.aload_n 0, 1) := by decide +kernel
theorem dX5_find_1 : decode cX5_find 1 = .ok (.iconst 0, 1) := by decide +kernel
theorem dX5_find_2 : decode cX5_find 2 = .ok (.putfield 25, 3) := by decide +kernel
theorem dX5_find_5 : decode cX5_find 5 = .ok (.aload_n 0, 1) := by decide +kernel
theorem dX5_find_6 : decode cX5_find 6 = .ok (.invokevirtual 29, 3) := by decide +kernel
theorem dX5_find_9 : decode cX5_find 9 = .ok (.iconst 0, 1) := by decide +kernel
theorem dX5_find_10 : decode cX5_find 10 = .ok (.istore_n 1, 1) := by decide +kernel
theorem dX5_find_11 : decode cX5_find 11 = .ok (.iload_n 1, 1) := by decide +kernel
theorem dX5_find_12 : decode cX5_find 12 = .ok (.aload_n 0, 1) := by decide +kernel
theorem dX5_find_13 : decode cX5_find 13 = .ok (.getfield 21, 3) := by decide +kernel
theorem dX5_find_16 : decode cX5_find 16 = .ok (.getfield 32, 3) := by decide +kernel
theorem dX5_find_19 : decode cX5_find 19 = .ok (.if_icmp .ge 33, 3) := by decide +kernel
theorem dX5_find_22 : decode cX5_find 22 = .ok (.aload_n 0, 1) := by decide +kernel
theorem dX5_find_23 : decode cX5_find 23 = .ok (.getfield 9, 3) := by decide +kernel
theorem dX5_find_26 : decode cX5_find 26 = .ok (.iload_n 1, 1) := by decide +kernel
theorem dX5_find_27 : decode cX5_find 27 = .ok (.iaload, 1) := by decide +kernel
theorem dX5_find_28 : decode cX5_find 28 = .ok (.iload_n 1, 1) := by decide +kernel
theorem dX5_find_29 : decode cX5_find 29 = .ok (.invokestatic 37, 3) := by decide +kernel
theorem dX5_find_32 : decode cX5_find 32 = .ok (.ifCond .eq 14, 3) := by decide +kernel
theorem dX5_find_35 : decode cX5_find 35 = .ok (.aload_n 0, 1) := by decide +kernel
theorem dX5_find_36 : decode cX5_find 36 = .ok (.iload_n 1, 1) := by decide +kernel
theorem dX5_find_37 : decode cX5_find 37 = .ok (.invokevirtual 41, 3) := by decide +kernel
theorem dX5_find_40 : decode cX5_find 40 = .ok (.aload_n 0, 1) := by decide +kernel
theorem dX5_find_41 : decode cX5_find 41 = .ok (.iload_n 1, 1) := by decide +kernel
theorem dX5_find_42 : decode cX5_find 42 = .ok (.invokevirtual 45, 3) := by decide +kernel
theorem dX5_find_45 : decode cX5_find 45 = .ok (.return_, 1) := by decide +kernel
theorem dX5_find_46 : decode cX5_find 46 = .ok (.iinc 1 1, 3) := by decide +kernel
theorem dX5_find_49 : decode cX5_find 49 = .ok (.goto (-38), 3) := by decide +kernel
theorem dX5_find_52 : decode cX5_find 52 = .ok (.return_, 1) := by decide +kernel
set_option maxRecDepth 20000 in
theorem ggX5_findReach_X1_dependencies : GoodIn wsX5_findReach wsX1_dependencies := goodIn_ca (goodIn_r _ [8, 9, 10, 11, 12, 20, 21, 22, 23, 24, 25, 26] (by decide +kernel) (by decide +kernel)) (goodIn_sub (fun _ h => List.mem_cons_of_mem _ (List.mem_append_right _ h)) (by decide +kernel))
set_option maxRecDepth 20000 in
theorem gX5_findReach_X1_dependencies : GoodIn wsX5_findReach (wsV RX5 48 RX1 yX1_dependencies wsX1_dependencies) := goodIn_app (goodIn_of _ (by decide +kernel)) ggX5_findReach_X1_dependencies
set_option maxRecDepth 20000 in
theorem ggX5_findReach_X6_contains : GoodIn wsX5_findReach wsX6_contains := goodIn_r _ [14] (by decide +kernel) (by decide +kernel)
set_option maxRecDepth 20000 in
theorem gX5_findReach_X6_contains_n37 : GoodIn wsX5_findReach (wsX6_contains) := ggX5_findReach_X6_contains
theorem dX5_findReach_0 : decode cX5_findReach 0 = .ok (.iconst 0, 1) := by decide +kernel
theorem dX5_findReach_1 : decode cX5_findReach 1 = .ok (.istore_n 1, 1) := by decide +kernel
theorem dX5_findReach_2 : decode cX5_findReach 2 = .ok (.iload_n 1, 1) := by decide +kernel
theorem dX5_findReach_3 : decode cX5_findReach 3 = .ok (.aload_n 0, 1) := by decide +kernel
theorem dX5_findReach_4 : decode cX5_findReach 4 = .ok (.getfield 21, 3) := by decide +kernel
theorem dX5_findReach_7 : decode cX5_findReach 7 = .ok (.getfield 32, 3) := by decide +kernel
theorem dX5_findReach_10 : decode cX5_findReach 10 = .ok (.if_icmp .ge 23, 3) := by decide +kernel
theorem dX5_findReach_13 : decode cX5_findReach 13 = .ok (.aload_n 0, 1) := by decide +kernel
theorem dX5_findReach_14 : decode cX5_findReach 14 = .ok (.getfield 9, 3) := by decide +kernel
theorem dX5_findReach_17 : decode cX5_findReach 17 = .ok (.iload_n 1, 1) := by decide +kernel
theorem dX5_findReach_18 : decode cX5_findReach 18 = .ok (.aload_n 0, 1) := by decide +kernel
theorem dX5_findReach_19 : decode cX5_findReach 19 = .ok (.getfield 21, 3) := by decide +kernel
theorem dX5_findReach_22 : decode cX5_findReach 22 = .ok (.iload_n 1, 1) := by decide +kernel
theorem dX5_findReach_23 : decode cX5_findReach 23 = .ok (.invokevirtual 48, 3) := by decide +kernel
theorem dX5_findReach_26 : decode cX5_findReach 26 = .ok (.iastore, 1) := by decide +kernel
theorem dX5_findReach_27 : decode cX5_findReach 27 = .ok (.iinc 1 1, 3) := by decide +kernel
theorem dX5_findReach_30 : decode cX5_findReach 30 = .ok (.goto (-28), 3) := by decide +kernel
theorem dX5_findReach_33 : decode cX5_findReach 33 = .ok (.iconst 0, 1) := by decide +kernel
theorem dX5_findReach_34 : decode cX5_findReach 34 = .ok (.istore_n 1, 1) := by decide +kernel
theorem dX5_findReach_35 : decode cX5_findReach 35 = .ok (.iload_n 1, 1) := by decide +kernel
theorem dX5_findReach_36 : decode cX5_findReach 36 = .ok (.aload_n 0, 1) := by decide +kernel
theorem dX5_findReach_37 : decode cX5_findReach 37 = .ok (.getfield 21, 3) := by decide +kernel
theorem dX5_findReach_40 : decode cX5_findReach 40 = .ok (.getfield 32, 3) := by decide +kernel
theorem dX5_findReach_43 : decode cX5_findReach 43 = .ok (.if_icmp .ge 56, 3) := by decide +kernel
theorem dX5_findReach_46 : decode cX5_findReach 46 = .ok (.iconst 0, 1) := by decide +kernel
theorem dX5_findReach_47 : decode cX5_findReach 47 = .ok (.istore_n 2, 1) := by decide +kernel
theorem dX5_findReach_48 : decode cX5_findReach 48 = .ok (.iload_n 2, 1) := by decide +kernel
theorem dX5_findReach_49 : decode cX5_findReach 49 = .ok (.aload_n 0, 1) := by decide +kernel
theorem dX5_findReach_50 : decode cX5_findReach 50 = .ok (.getfield 21, 3) := by decide +kernel
theorem dX5_findReach_53 : decode cX5_findReach 53 = .ok (.getfield 32, 3) := by decide +kernel
theorem dX5_findReach_56 : decode cX5_findReach 56 = .ok (.if_icmp .ge 37, 3) := by decide +kernel
theorem dX5_findReach_59 : decode cX5_findReach 59 = .ok (.aload_n 0, 1) := by decide +kernel
theorem dX5_findReach_60 : decode cX5_findReach 60 = .ok (.getfield 9, 3) := by decide +kernel
theorem dX5_findReach_63 : decode cX5_findReach 63 = .ok (.iload_n 2, 1) := by decide +kernel
theorem dX5_findReach_64 : decode cX5_findReach 64 = .ok (.iaload, 1) := by decide +kernel
theorem dX5_findReach_65 : decode cX5_findReach 65 = .ok (.iload_n 1, 1) := by decide +kernel
theorem dX5_findReach_66 : decode cX5_findReach 66 = .ok (.invokestatic 37, 3) := by decide +kernel
theorem dX5_findReach_69 : decode cX5_findReach 69 = .ok (.ifCond .eq 18, 3) := by decide +kernel
theorem dX5_findReach_72 : decode cX5_findReach 72 = .ok (.aload_n 0, 1) := by decide +kernel
theorem dX5_findReach_73 : decode cX5_findReach 73 = .ok (.getfield 9, 3) := by decide +kernel
theorem dX5_findReach_76 : decode cX5_findReach 76 = .ok (.iload_n 2, 1) := by decide +kernel
theorem dX5_findReach_77 : decode cX5_findReach 77 = .ok (.dup2, 1) := by decide +kernel
theorem dX5_findReach_78 : decode cX5_findReach 78 = .ok (.iaload, 1) := by decide +kernel
theorem dX5_findReach_79 : decode cX5_findReach 79 = .ok (.aload_n 0, 1) := by decide +kernel
theorem dX5_findReach_80 : decode cX5_findReach 80 = .ok (.getfield 9, 3) := by decide +kernel
theorem dX5_findReach_83 : decode cX5_findReach 83 = .ok (.iload_n 1, 1) := by decide +kernel
theorem dX5_findReach_84 : decode cX5_findReach 84 = .ok (.iaload, 1) := by decide +kernel
theorem dX5_findReach_85 : decode cX5_findReach 85 = .ok (.ior, 1) := by decide +kernel
theorem dX5_findReach_86 : decode cX5_findReach 86 = .ok (.iastore, 1) := by decide +kernel
theorem dX5_findReach_87 : decode cX5_findReach 87 = .ok (.iinc 2 1, 3) := by decide +kernel
theorem dX5_findReach_90 : decode cX5_findReach 90 = .ok (.goto (-42), 3) := by decide +kernel
theorem dX5_findReach_93 : decode cX5_findReach 93 = .ok (.iinc 1 1, 3) := by decide +kernel
theorem dX5_findReach_96 : decode cX5_findReach 96 = .ok (.goto (-61), 3) := by decide +kernel
theorem dX5_findReach_99 : decode cX5_findReach 99 = .ok (.return_, 1) := by decide +kernel
set_option maxRecDepth 20000 in
theorem ggX5_countSteps_J7_fill_53178 : GoodIn wsX5_countSteps wsJ7_fill_53178 := goodIn_r _ [11] (by decide +kernel) (by decide +kernel)
set_option maxRecDepth 20000 in
theorem gX5_countSteps_J7_fill_53178 : GoodIn wsX5_countSteps (va_wsS RX5 52 yJ7_fill_53178 wsJ7_fill_53178) := goodIn_app (goodIn_of _ (by decide +kernel)) ggX5_countSteps_J7_fill_53178
set_option maxRecDepth 20000 in
theorem ggX5_countSteps_X5_nearest : GoodIn wsX5_countSteps wsX5_nearest := goodIn_ca (goodIn_r _ [16, 2, 17, 1, 18, 19, 20, 21, 22, 23, 24, 25, 26, 27, 28, 29] (by decide +kernel) (by decide +kernel)) (goodIn_sub (fun _ h => List.mem_cons_of_mem _ (List.mem_append_right _ h)) (by decide +kernel))
set_option maxRecDepth 20000 in
theorem gX5_countSteps_X5_nearest : GoodIn wsX5_countSteps (wsV RX5 58 RX5 yX5_nearest wsX5_nearest) := goodIn_app (goodIn_of _ (by decide +kernel)) ggX5_countSteps_X5_nearest
theorem dX5_countSteps_0 : decode cX5_countSteps 0 = .ok (.aload_n 0, 1) := by decide +kernel
theorem dX5_countSteps_1 : decode cX5_countSteps 1 = .ok (.getfield 15, 3) := by decide +kernel
theorem dX5_countSteps_4 : decode cX5_countSteps 4 = .ok (.bipush 12, 2) := by decide +kernel
theorem dX5_countSteps_6 : decode cX5_countSteps 6 = .ok (.invokestatic 52, 3) := by decide +kernel
theorem dX5_countSteps_9 : decode cX5_countSteps 9 = .ok (.aload_n 0, 1) := by decide +kernel
theorem dX5_countSteps_10 : decode cX5_countSteps 10 = .ok (.getfield 15, 3) := by decide +kernel
theorem dX5_countSteps_13 : decode cX5_countSteps 13 = .ok (.iload_n 1, 1) := by decide +kernel
theorem dX5_countSteps_14 : decode cX5_countSteps 14 = .ok (.iconst 0, 1) := by decide +kernel
theorem dX5_countSteps_15 : decode cX5_countSteps 15 = .ok (.iastore, 1) := by decide +kernel
theorem dX5_countSteps_16 : decode cX5_countSteps 16 = .ok (.iconst 0, 1) := by decide +kernel
theorem dX5_countSteps_17 : decode cX5_countSteps 17 = .ok (.istore_n 2, 1) := by decide +kernel
theorem dX5_countSteps_18 : decode cX5_countSteps 18 = .ok (.iload_n 2, 1) := by decide +kernel
theorem dX5_countSteps_19 : decode cX5_countSteps 19 = .ok (.aload_n 0, 1) := by decide +kernel
theorem dX5_countSteps_20 : decode cX5_countSteps 20 = .ok (.getfield 21, 3) := by decide +kernel
theorem dX5_countSteps_23 : decode cX5_countSteps 23 = .ok (.getfield 32, 3) := by decide +kernel
theorem dX5_countSteps_26 : decode cX5_countSteps 26 = .ok (.if_icmp .ge 65, 3) := by decide +kernel
theorem dX5_countSteps_29 : decode cX5_countSteps 29 = .ok (.iconst 0, 1) := by decide +kernel
theorem dX5_countSteps_30 : decode cX5_countSteps 30 = .ok (.istore_n 3, 1) := by decide +kernel
theorem dX5_countSteps_31 : decode cX5_countSteps 31 = .ok (.iload_n 3, 1) := by decide +kernel
theorem dX5_countSteps_32 : decode cX5_countSteps 32 = .ok (.aload_n 0, 1) := by decide +kernel
theorem dX5_countSteps_33 : decode cX5_countSteps 33 = .ok (.getfield 21, 3) := by decide +kernel
theorem dX5_countSteps_36 : decode cX5_countSteps 36 = .ok (.getfield 32, 3) := by decide +kernel
theorem dX5_countSteps_39 : decode cX5_countSteps 39 = .ok (.if_icmp .ge 46, 3) := by decide +kernel
theorem dX5_countSteps_42 : decode cX5_countSteps 42 = .ok (.aload_n 0, 1) := by decide +kernel
theorem dX5_countSteps_43 : decode cX5_countSteps 43 = .ok (.iload_n 3, 1) := by decide +kernel
theorem dX5_countSteps_44 : decode cX5_countSteps 44 = .ok (.invokevirtual 58, 3) := by decide +kernel
theorem dX5_countSteps_47 : decode cX5_countSteps 47 = .ok (.istore 4, 2) := by decide +kernel
theorem dX5_countSteps_49 : decode cX5_countSteps 49 = .ok (.iload 4, 2) := by decide +kernel
theorem dX5_countSteps_51 : decode cX5_countSteps 51 = .ok (.iconst (-1), 1) := by decide +kernel
theorem dX5_countSteps_52 : decode cX5_countSteps 52 = .ok (.if_icmp .eq 27, 3) := by decide +kernel
theorem dX5_countSteps_55 : decode cX5_countSteps 55 = .ok (.aload_n 0, 1) := by decide +kernel
theorem dX5_countSteps_56 : decode cX5_countSteps 56 = .ok (.getfield 15, 3) := by decide +kernel
theorem dX5_countSteps_59 : decode cX5_countSteps 59 = .ok (.iload_n 3, 1) := by decide +kernel
theorem dX5_countSteps_60 : decode cX5_countSteps 60 = .ok (.aload_n 0, 1) := by decide +kernel
theorem dX5_countSteps_61 : decode cX5_countSteps 61 = .ok (.getfield 15, 3) := by decide +kernel
theorem dX5_countSteps_64 : decode cX5_countSteps 64 = .ok (.iload_n 3, 1) := by decide +kernel
theorem dX5_countSteps_65 : decode cX5_countSteps 65 = .ok (.iaload, 1) := by decide +kernel
theorem dX5_countSteps_66 : decode cX5_countSteps 66 = .ok (.aload_n 0, 1) := by decide +kernel
theorem dX5_countSteps_67 : decode cX5_countSteps 67 = .ok (.getfield 15, 3) := by decide +kernel
theorem dX5_countSteps_70 : decode cX5_countSteps 70 = .ok (.iload 4, 2) := by decide +kernel
theorem dX5_countSteps_72 : decode cX5_countSteps 72 = .ok (.iaload, 1) := by decide +kernel
theorem dX5_countSteps_73 : decode cX5_countSteps 73 = .ok (.iconst 1, 1) := by decide +kernel
theorem dX5_countSteps_74 : decode cX5_countSteps 74 = .ok (.iadd, 1) := by decide +kernel
theorem dX5_countSteps_75 : decode cX5_countSteps 75 = .ok (.invokestatic 61, 3) := by decide +kernel
theorem dX5_countSteps_78 : decode cX5_countSteps 78 = .ok (.iastore, 1) := by decide +kernel
theorem dX5_countSteps_79 : decode cX5_countSteps 79 = .ok (.iinc 3 1, 3) := by decide +kernel
theorem dX5_countSteps_82 : decode cX5_countSteps 82 = .ok (.goto (-51), 3) := by decide +kernel
theorem dX5_countSteps_85 : decode cX5_countSteps 85 = .ok (.iinc 2 1, 3) := by decide +kernel
theorem dX5_countSteps_88 : decode cX5_countSteps 88 = .ok (.goto (-70), 3) := by decide +kernel
theorem dX5_countSteps_91 : decode cX5_countSteps 91 = .ok (.return_, 1) := by decide +kernel
set_option maxRecDepth 20000 in
theorem ggX5_follow_X5_nearest : GoodIn wsX5_follow wsX5_nearest := goodIn_ca (goodIn_r _ [9, 3, 10, 11, 12, 13, 14, 15, 16, 17, 18, 19, 20, 21, 22, 23] (by decide +kernel) (by decide +kernel)) (goodIn_sub (fun _ h => List.mem_cons_of_mem _ (List.mem_append_right _ h)) (by decide +kernel))
set_option maxRecDepth 20000 in
theorem gX5_follow_X5_nearest : GoodIn wsX5_follow (wsV RX5 58 RX5 yX5_nearest wsX5_nearest) := goodIn_app (goodIn_of _ (by decide +kernel)) ggX5_follow_X5_nearest
theorem dX5_follow_0 : decode cX5_follow 0 = .ok (.iload_n 1, 1) := by decide +kernel
theorem dX5_follow_1 : decode cX5_follow 1 = .ok (.istore_n 2, 1) := by decide +kernel
theorem dX5_follow_2 : decode cX5_follow 2 = .ok (.aload_n 0, 1) := by decide +kernel
theorem dX5_follow_3 : decode cX5_follow 3 = .ok (.getfield 18, 3) := by decide +kernel
theorem dX5_follow_6 : decode cX5_follow 6 = .ok (.aload_n 0, 1) := by decide +kernel
theorem dX5_follow_7 : decode cX5_follow 7 = .ok (.getfield 25, 3) := by decide +kernel
theorem dX5_follow_10 : decode cX5_follow 10 = .ok (.iload_n 2, 1) := by decide +kernel
theorem dX5_follow_11 : decode cX5_follow 11 = .ok (.iastore, 1) := by decide +kernel
theorem dX5_follow_12 : decode cX5_follow 12 = .ok (.aload_n 0, 1) := by decide +kernel
theorem dX5_follow_13 : decode cX5_follow 13 = .ok (.dup, 1) := by decide +kernel
theorem dX5_follow_14 : decode cX5_follow 14 = .ok (.getfield 25, 3) := by decide +kernel
theorem dX5_follow_17 : decode cX5_follow 17 = .ok (.iconst 1, 1) := by decide +kernel
theorem dX5_follow_18 : decode cX5_follow 18 = .ok (.iadd, 1) := by decide +kernel
theorem dX5_follow_19 : decode cX5_follow 19 = .ok (.putfield 25, 3) := by decide +kernel
theorem dX5_follow_22 : decode cX5_follow 22 = .ok (.aload_n 0, 1) := by decide +kernel
theorem dX5_follow_23 : decode cX5_follow 23 = .ok (.iload_n 2, 1) := by decide +kernel
theorem dX5_follow_24 : decode cX5_follow 24 = .ok (.invokevirtual 58, 3) := by decide +kernel
theorem dX5_follow_27 : decode cX5_follow 27 = .ok (.istore_n 2, 1) := by decide +kernel
theorem dX5_follow_28 : decode cX5_follow 28 = .ok (.iload_n 2, 1) := by decide +kernel
theorem dX5_follow_29 : decode cX5_follow 29 = .ok (.iload_n 1, 1) := by decide +kernel
theorem dX5_follow_30 : decode cX5_follow 30 = .ok (.if_icmp .eq 22, 3) := by decide +kernel
theorem dX5_follow_33 : decode cX5_follow 33 = .ok (.iload_n 2, 1) := by decide +kernel
theorem dX5_follow_34 : decode cX5_follow 34 = .ok (.iconst (-1), 1) := by decide +kernel
theorem dX5_follow_35 : decode cX5_follow 35 = .ok (.if_icmp .eq 17, 3) := by decide +kernel
theorem dX5_follow_38 : decode cX5_follow 38 = .ok (.aload_n 0, 1) := by decide +kernel
theorem dX5_follow_39 : decode cX5_follow 39 = .ok (.getfield 25, 3) := by decide +kernel
theorem dX5_follow_42 : decode cX5_follow 42 = .ok (.aload_n 0, 1) := by decide +kernel
theorem dX5_follow_43 : decode cX5_follow 43 = .ok (.getfield 21, 3) := by decide +kernel
theorem dX5_follow_46 : decode cX5_follow 46 = .ok (.getfield 32, 3) := by decide +kernel
theorem dX5_follow_49 : decode cX5_follow 49 = .ok (.if_icmp .lt (-47), 3) := by decide +kernel
theorem dX5_follow_52 : decode cX5_follow 52 = .ok (.return_, 1) := by decide +kernel
theorem dX5_nearest_0 : decode cX5_nearest 0 = .ok (.aload_n 0, 1) := by decide +kernel
theorem dX5_nearest_1 : decode cX5_nearest 1 = .ok (.getfield 21, 3) := by decide +kernel
theorem dX5_nearest_4 : decode cX5_nearest 4 = .ok (.getfield 67, 3) := by decide +kernel
theorem dX5_nearest_7 : decode cX5_nearest 7 = .ok (.iload_n 1, 1) := by decide +kernel
theorem dX5_nearest_8 : decode cX5_nearest 8 = .ok (.aaload, 1) := by decide +kernel
theorem dX5_nearest_9 : decode cX5_nearest 9 = .ok (.iconst 0, 1) := by decide +kernel
theorem dX5_nearest_10 : decode cX5_nearest 10 = .ok (.iaload, 1) := by decide +kernel
theorem dX5_nearest_11 : decode cX5_nearest 11 = .ok (.istore_n 2, 1) := by decide +kernel
theorem dX5_nearest_12 : decode cX5_nearest 12 = .ok (.aload_n 0, 1) := by decide +kernel
theorem dX5_nearest_13 : decode cX5_nearest 13 = .ok (.getfield 21, 3) := by decide +kernel
theorem dX5_nearest_16 : decode cX5_nearest 16 = .ok (.getfield 67, 3) := by decide +kernel
theorem dX5_nearest_19 : decode cX5_nearest 19 = .ok (.iload_n 1, 1) := by decide +kernel
theorem dX5_nearest_20 : decode cX5_nearest 20 = .ok (.aaload, 1) := by decide +kernel
theorem dX5_nearest_21 : decode cX5_nearest 21 = .ok (.iconst 1, 1) := by decide +kernel
theorem dX5_nearest_22 : decode cX5_nearest 22 = .ok (.iaload, 1) := by decide +kernel
theorem dX5_nearest_23 : decode cX5_nearest 23 = .ok (.istore_n 3, 1) := by decide +kernel
theorem dX5_nearest_24 : decode cX5_nearest 24 = .ok (.iload_n 2, 1) := by decide +kernel
theorem dX5_nearest_25 : decode cX5_nearest 25 = .ok (.iconst (-1), 1) := by decide +kernel
theorem dX5_nearest_26 : decode cX5_nearest 26 = .ok (.if_icmp .ne 5, 3) := by decide +kernel
theorem dX5_nearest_29 : decode cX5_nearest 29 = .ok (.iload_n 3, 1) := by decide +kernel
theorem dX5_nearest_30 : decode cX5_nearest 30 = .ok (.ireturn, 1) := by decide +kernel
theorem dX5_nearest_31 : decode cX5_nearest 31 = .ok (.iload_n 3, 1) := by decide +kernel
theorem dX5_nearest_32 : decode cX5_nearest 32 = .ok (.iconst (-1), 1) := by decide +kernel
theorem dX5_nearest_33 : decode cX5_nearest 33 = .ok (.if_icmp .ne 5, 3) := by decide +kernel
theorem dX5_nearest_36 : decode cX5_nearest 36 = .ok (.iload_n 2, 1) := by decide +kernel
theorem dX5_nearest_37 : decode cX5_nearest 37 = .ok (.ireturn, 1) := by decide +kernel
theorem dX5_nearest_38 : decode cX5_nearest 38 = .ok (.aload_n 0, 1) := by decide +kernel
theorem dX5_nearest_39 : decode cX5_nearest 39 = .ok (.getfield 15, 3) := by decide +kernel
theorem dX5_nearest_42 : decode cX5_nearest 42 = .ok (.iload_n 3, 1) := by decide +kernel
theorem dX5_nearest_43 : decode cX5_nearest 43 = .ok (.iaload, 1) := by decide +kernel
theorem dX5_nearest_44 : decode cX5_nearest 44 = .ok (.aload_n 0, 1) := by decide +kernel
theorem dX5_nearest_45 : decode cX5_nearest 45 = .ok (.getfield 15, 3) := by decide +kernel
theorem dX5_nearest_48 : decode cX5_nearest 48 = .ok (.iload_n 2, 1) := by decide +kernel
theorem dX5_nearest_49 : decode cX5_nearest 49 = .ok (.iaload, 1) := by decide +kernel
theorem dX5_nearest_50 : decode cX5_nearest 50 = .ok (.if_icmp .ge 7, 3) := by decide +kernel
theorem dX5_nearest_53 : decode cX5_nearest 53 = .ok (.iload_n 3, 1) := by decide +kernel
theorem dX5_nearest_54 : decode cX5_nearest 54 = .ok (.goto 4, 3) := by decide +kernel
theorem dX5_nearest_57 : decode cX5_nearest 57 = .ok (.iload_n 2, 1) := by decide +kernel
theorem dX5_nearest_58 : decode cX5_nearest 58 = .ok (.ireturn, 1) := by decide +kernel
end
section
set_option maxRecDepth 20000 in
theorem ggX6_init_X1_init : GoodIn wsX6_init wsX1_init := goodIn_r _ [29, 30, 2, 3, 31, 32, 33, 34, 35, 36, 37, 38, 39, 84, 85, 86, 87, 88, 89, 90] (by decide +kernel) (by decide +kernel)
set_option maxRecDepth 20000 in
theorem gX6_init_X1_init_n9 : GoodIn wsX6_init (wsX1_init) := ggX6_init_X1_init
set_option maxRecDepth 20000 in
theorem ggX6_init_X5_init : GoodIn wsX6_init wsX5_init := goodIn_r _ [42, 43, 2, 3, 31, 44, 45, 46, 47, 100, 101, 102, 103, 104] (by decide +kernel) (by decide +kernel)
set_option maxRecDepth 20000 in
theorem gX6_init_X5_init : GoodIn wsX6_init (wsX5_init) := ggX6_init_X5_init
set_option maxRecDepth 20000 in
theorem ggX6_init_X4_init : GoodIn wsX6_init wsX4_init := goodIn_r _ [50, 51, 2, 3, 31, 52, 53, 54, 55, 56, 57, 58, 59, 60, 105, 106, 107, 108, 109, 110, 111, 112, 113, 114, 115, 116] (by decide +kernel) (by decide +kernel)
set_option maxRecDepth 20000 in
theorem gX6_init_X4_init : GoodIn wsX6_init (wsX4_init) := ggX6_init_X4_init
set_option maxRecDepth 20000 in
theorem ggX6_init_X3_init : GoodIn wsX6_init wsX3_init := goodIn_r _ [63, 64, 2, 3, 31, 65, 66, 67, 117, 118, 119, 120] (by decide +kernel) (by decide +kernel)
set_option maxRecDepth 20000 in
theorem gX6_init_X3_init : GoodIn wsX6_init (wsX3_init) := ggX6_init_X3_init
set_option maxRecDepth 20000 in
theorem ggX6_init_X0_init : GoodIn wsX6_init wsX0_init := goodIn_r _ [70, 71, 2, 3, 31, 72, 73, 74, 75, 76, 77, 121, 122, 123, 124, 117, 118, 119, 120, 105, 106, 107, 108, 109, 110, 111, 112, 113, 114, 115, 116] (by decide +kernel) (by decide +kernel)
set_option maxRecDepth 20000 in
theorem gX6_init_X0_init : GoodIn wsX6_init (wsX0_init) := ggX6_init_X0_init
set_option maxRecDepth 20000 in
theorem ggX6_init_X2_init : GoodIn wsX6_init wsX2_init := goodIn_r _ [80, 81, 2, 3, 31, 82, 83, 125, 126] (by decide +kernel) (by decide +kernel)
set_option maxRecDepth 20000 in
theorem gX6_init_X2_init : GoodIn wsX6_init (wsX2_init) := ggX6_init_X2_init
theorem dX6_init_0 : decode cX6_init 0 = .ok (.aload_n 0, 1) := by decide +kernel
theorem dX6_init_1 : decode cX6_init 1 = .ok (.invokespecial 1, 3) := by decide +kernel
theorem dX6_init_4 : decode cX6_init 4 = .ok (.aload_n 0, 1) := by decide +kernel
theorem dX6_init_5 : decode cX6_init 5 = .ok (.new 7, 3) := by decide +kernel
theorem dX6_init_8 : decode cX6_init 8 = .ok (.dup, 1) := by decide +kernel
theorem dX6_init_9 : decode cX6_init 9 = .ok (.invokespecial 9, 3) := by decide +kernel
theorem dX6_init_12 : decode cX6_init 12 = .ok (.putfield 10, 3) := by decide +kernel
theorem dX6_init_15 : decode cX6_init 15 = .ok (.aload_n 0, 1) := by decide +kernel
theorem dX6_init_16 : decode cX6_init 16 = .ok (.new 16, 3) := by decide +kernel
theorem dX6_init_19 : decode cX6_init 19 = .ok (.dup, 1) := by decide +kernel
theorem dX6_init_20 : decode cX6_init 20 = .ok (.aload_n 0, 1) := by decide +kernel
theorem dX6_init_21 : decode cX6_init 21 = .ok (.getfield 10, 3) := by decide +kernel
theorem dX6_init_24 : decode cX6_init 24 = .ok (.invokespecial 18, 3) := by decide +kernel
theorem dX6_init_27 : decode cX6_init 27 = .ok (.putfield 21, 3) := by decide +kernel
theorem dX6_init_30 : decode cX6_init 30 = .ok (.aload_n 0, 1) := by decide +kernel
theorem dX6_init_31 : decode cX6_init 31 = .ok (.new 25, 3) := by decide +kernel
theorem dX6_init_34 : decode cX6_init 34 = .ok (.dup, 1) := by decide +kernel
theorem dX6_init_35 : decode cX6_init 35 = .ok (.aload_n 0, 1) := by decide +kernel
theorem dX6_init_36 : decode cX6_init 36 = .ok (.getfield 10, 3) := by decide +kernel
theorem dX6_init_39 : decode cX6_init 39 = .ok (.invokespecial 27, 3) := by decide +kernel
theorem dX6_init_42 : decode cX6_init 42 = .ok (.putfield 28, 3) := by decide +kernel
theorem dX6_init_45 : decode cX6_init 45 = .ok (.aload_n 0, 1) := by decide +kernel
theorem dX6_init_46 : decode cX6_init 46 = .ok (.new 32, 3) := by decide +kernel
theorem dX6_init_49 : decode cX6_init 49 = .ok (.dup, 1) := by decide +kernel
theorem dX6_init_50 : decode cX6_init 50 = .ok (.aload_n 0, 1) := by decide +kernel
theorem dX6_init_51 : decode cX6_init 51 = .ok (.getfield 28, 3) := by decide +kernel
theorem dX6_init_54 : decode cX6_init 54 = .ok (.invokespecial 34, 3) := by decide +kernel
theorem dX6_init_57 : decode cX6_init 57 = .ok (.putfield 37, 3) := by decide +kernel
theorem dX6_init_60 : decode cX6_init 60 = .ok (.aload_n 0, 1) := by decide +kernel
theorem dX6_init_61 : decode cX6_init 61 = .ok (.new 41, 3) := by decide +kernel
theorem dX6_init_64 : decode cX6_init 64 = .ok (.dup, 1) := by decide +kernel
theorem dX6_init_65 : decode cX6_init 65 = .ok (.aload_n 0, 1) := by decide +kernel
theorem dX6_init_66 : decode cX6_init 66 = .ok (.getfield 37, 3) := by decide +kernel
theorem dX6_init_69 : decode cX6_init 69 = .ok (.invokespecial 43, 3) := by decide +kernel
theorem dX6_init_72 : decode cX6_init 72 = .ok (.putfield 46, 3) := by decide +kernel
theorem dX6_init_75 : decode cX6_init 75 = .ok (.aload_n 0, 1) := by decide +kernel
theorem dX6_init_76 : decode cX6_init 76 = .ok (.new 50, 3) := by decide +kernel
theorem dX6_init_79 : decode cX6_init 79 = .ok (.dup, 1) := by decide +kernel
theorem dX6_init_80 : decode cX6_init 80 = .ok (.aload_n 0, 1) := by decide +kernel
theorem dX6_init_81 : decode cX6_init 81 = .ok (.getfield 28, 3) := by decide +kernel
theorem dX6_init_84 : decode cX6_init 84 = .ok (.invokespecial 52, 3) := by decide +kernel
theorem dX6_init_87 : decode cX6_init 87 = .ok (.putfield 53, 3) := by decide +kernel
theorem dX6_init_90 : decode cX6_init 90 = .ok (.return_, 1) := by decide +kernel
set_option maxRecDepth 20000 in
theorem ggX6_make_X6_canBeMade : GoodIn wsX6_make wsX6_canBeMade := goodIn_r _ [10, 11, 12, 13, 9, 14] (by decide +kernel) (by decide +kernel)
set_option maxRecDepth 20000 in
theorem gX6_make_X6_canBeMade : GoodIn wsX6_make (va_wsS RX6 57 yX6_canBeMade wsX6_canBeMade) := goodIn_app (goodIn_of _ (by decide +kernel)) ggX6_make_X6_canBeMade
set_option maxRecDepth 20000 in
theorem ggX6_make_X6_forgetPlan : GoodIn wsX6_make wsX6_forgetPlan := goodIn_r _ [18, 19, 34, 35, 36, 37, 38, 39, 40, 41, 42] (by decide +kernel) (by decide +kernel)
set_option maxRecDepth 20000 in
theorem gX6_make_X6_forgetPlan : GoodIn wsX6_make (wsV RX6 77 RX6 yX6_forgetPlan wsX6_forgetPlan) := goodIn_app (goodIn_of _ (by decide +kernel)) ggX6_make_X6_forgetPlan
set_option maxRecDepth 20000 in
theorem ggX6_make_X1_add : GoodIn wsX6_make wsX1_add := goodIn_ca (goodIn_r _ [24, 25, 26, 27, 28, 29, 30, 31, 32, 33, 43, 44, 45, 46, 47, 48, 49] (by decide +kernel) (by decide +kernel)) (goodIn_sub (fun _ h => List.mem_cons_of_mem _ (List.mem_append_right _ h)) (by decide +kernel))
set_option maxRecDepth 20000 in
theorem gX6_make_X1_add : GoodIn wsX6_make (wsV RX6 80 RX1 yX1_add wsX1_add) := goodIn_app (goodIn_of _ (by decide +kernel)) ggX6_make_X1_add
theorem dX6_make_0 : decode cX6_make 0 = .ok (.iload_n 1, 1) := by decide +kernel
theorem dX6_make_1 : decode cX6_make 1 = .ok (.iload_n 2, 1) := by decide +kernel
theorem dX6_make_2 : decode cX6_make 2 = .ok (.iload_n 3, 1) := by decide +kernel
theorem dX6_make_3 : decode cX6_make 3 = .ok (.invokestatic 57, 3) := by decide +kernel
theorem dX6_make_6 : decode cX6_make 6 = .ok (.ifCond .ne 13, 3) := by decide +kernel
theorem dX6_make_9 : decode cX6_make 9 = .ok (.new 61, 3) := by decide +kernel
theorem dX6_make_12 : decode cX6_make 12 = .ok (.dup, 1) := by decide +kernel
theorem dX6_make_13 : decode cX6_make 13 = .ok (.ldc 63, 2) := by decide +kernel
theorem dX6_make_15 : decode cX6_make 15 = .ok (.invokespecial 65, 3) := by decide +kernel
theorem dX6_make_18 : decode cX6_make 18 = .ok (.athrow, 1) := by decide +kernel
theorem dX6_make_19 : decode cX6_make 19 = .ok (.aload_n 0, 1) := by decide +kernel
theorem dX6_make_20 : decode cX6_make 20 = .ok (.getfield 10, 3) := by decide +kernel
theorem dX6_make_23 : decode cX6_make 23 = .ok (.getfield 68, 3) := by decide +kernel
theorem dX6_make_26 : decode cX6_make 26 = .ok (.bipush 12, 2) := by decide +kernel
theorem dX6_make_28 : decode cX6_make 28 = .ok (.if_icmp .ne 13, 3) := by decide +kernel
theorem dX6_make_31 : decode cX6_make 31 = .ok (.new 72, 3) := by decide +kernel
theorem dX6_make_34 : decode cX6_make 34 = .ok (.dup, 1) := by decide +kernel
theorem dX6_make_35 : decode cX6_make 35 = .ok (.ldc 74, 2) := by decide +kernel
theorem dX6_make_37 : decode cX6_make 37 = .ok (.invokespecial 76, 3) := by decide +kernel
theorem dX6_make_40 : decode cX6_make 40 = .ok (.athrow, 1) := by decide +kernel
theorem dX6_make_41 : decode cX6_make 41 = .ok (.aload_n 0, 1) := by decide +kernel
theorem dX6_make_42 : decode cX6_make 42 = .ok (.invokevirtual 77, 3) := by decide +kernel
theorem dX6_make_45 : decode cX6_make 45 = .ok (.aload_n 0, 1) := by decide +kernel
theorem dX6_make_46 : decode cX6_make 46 = .ok (.getfield 10, 3) := by decide +kernel
theorem dX6_make_49 : decode cX6_make 49 = .ok (.iload_n 1, 1) := by decide +kernel
theorem dX6_make_50 : decode cX6_make 50 = .ok (.iload_n 2, 1) := by decide +kernel
theorem dX6_make_51 : decode cX6_make 51 = .ok (.iload_n 3, 1) := by decide +kernel
theorem dX6_make_52 : decode cX6_make 52 = .ok (.invokevirtual 80, 3) := by decide +kernel
theorem dX6_make_55 : decode cX6_make 55 = .ok (.ireturn, 1) := by decide +kernel
set_option maxRecDepth 20000 in
theorem ggX6_give_X1_has : GoodIn wsX6_give wsX1_has := goodIn_r _ [9, 10, 11, 12, 13, 24, 25, 26, 27, 28, 29, 30] (by decide +kernel) (by decide +kernel)
set_option maxRecDepth 20000 in
theorem gX6_give_X1_has : GoodIn wsX6_give (wsV RX6 84 RX1 yX1_has wsX1_has) := goodIn_app (goodIn_of _ (by decide +kernel)) ggX6_give_X1_has
set_option maxRecDepth 20000 in
theorem ggX6_give_X6_isWithin : GoodIn wsX6_give wsX6_isWithin := goodIn_r _ [13] (by decide +kernel) (by decide +kernel)
set_option maxRecDepth 20000 in
theorem gX6_give_X6_isWithin : GoodIn wsX6_give (va_wsS RX6 95 yX6_isWithin wsX6_isWithin) := goodIn_app (goodIn_of _ (by decide +kernel)) ggX6_give_X6_isWithin
theorem dX6_give_0 : decode cX6_give 0 = .ok (.aload_n 0, 1) := by decide +kernel
theorem dX6_give_1 : decode cX6_give 1 = .ok (.getfield 10, 3) := by decide +kernel
theorem dX6_give_4 : decode cX6_give 4 = .ok (.iload_n 1, 1) := by decide +kernel
theorem dX6_give_5 : decode cX6_give 5 = .ok (.invokevirtual 84, 3) := by decide +kernel
theorem dX6_give_8 : decode cX6_give 8 = .ok (.ifCond .eq 31, 3) := by decide +kernel
theorem dX6_give_11 : decode cX6_give 11 = .ok (.aload_n 0, 1) := by decide +kernel
theorem dX6_give_12 : decode cX6_give 12 = .ok (.getfield 10, 3) := by decide +kernel
theorem dX6_give_15 : decode cX6_give 15 = .ok (.getfield 88, 3) := by decide +kernel
theorem dX6_give_18 : decode cX6_give 18 = .ok (.iload_n 1, 1) := by decide +kernel
theorem dX6_give_19 : decode cX6_give 19 = .ok (.iaload, 1) := by decide +kernel
theorem dX6_give_20 : decode cX6_give 20 = .ok (.ifCond .ne 19, 3) := by decide +kernel
theorem dX6_give_23 : decode cX6_give 23 = .ok (.iload_n 2, 1) := by decide +kernel
theorem dX6_give_24 : decode cX6_give 24 = .ok (.aload_n 0, 1) := by decide +kernel
theorem dX6_give_25 : decode cX6_give 25 = .ok (.getfield 10, 3) := by decide +kernel
theorem dX6_give_28 : decode cX6_give 28 = .ok (.getfield 92, 3) := by decide +kernel
theorem dX6_give_31 : decode cX6_give 31 = .ok (.iload_n 1, 1) := by decide +kernel
theorem dX6_give_32 : decode cX6_give 32 = .ok (.iaload, 1) := by decide +kernel
theorem dX6_give_33 : decode cX6_give 33 = .ok (.invokestatic 95, 3) := by decide +kernel
theorem dX6_give_36 : decode cX6_give 36 = .ok (.ifCond .ne 5, 3) := by decide +kernel
theorem dX6_give_39 : decode cX6_give 39 = .ok (.iconst 0, 1) := by decide +kernel
theorem dX6_give_40 : decode cX6_give 40 = .ok (.ireturn, 1) := by decide +kernel
theorem dX6_give_41 : decode cX6_give 41 = .ok (.aload_n 0, 1) := by decide +kernel
theorem dX6_give_42 : decode cX6_give 42 = .ok (.getfield 10, 3) := by decide +kernel
theorem dX6_give_45 : decode cX6_give 45 = .ok (.getfield 99, 3) := by decide +kernel
theorem dX6_give_48 : decode cX6_give 48 = .ok (.iload_n 1, 1) := by decide +kernel
theorem dX6_give_49 : decode cX6_give 49 = .ok (.aaload, 1) := by decide +kernel
theorem dX6_give_50 : decode cX6_give 50 = .ok (.iload_n 2, 1) := by decide +kernel
theorem dX6_give_51 : decode cX6_give 51 = .ok (.iload_n 3, 1) := by decide +kernel
theorem dX6_give_52 : decode cX6_give 52 = .ok (.iastore, 1) := by decide +kernel
theorem dX6_give_53 : decode cX6_give 53 = .ok (.iconst 1, 1) := by decide +kernel
theorem dX6_give_54 : decode cX6_give 54 = .ok (.ireturn, 1) := by decide +kernel
set_option maxRecDepth 20000 in
theorem ggX6_wire_X1_has : GoodIn wsX6_wire wsX1_has := goodIn_r _ [7, 8, 9, 10, 11, 32, 33, 34, 35, 36, 37, 38] (by decide +kernel) (by decide +kernel)
set_option maxRecDepth 20000 in
theorem gX6_wire_X1_has : GoodIn wsX6_wire (wsV RX6 84 RX1 yX1_has wsX1_has) := goodIn_app (goodIn_of _ (by decide +kernel)) ggX6_wire_X1_has
set_option maxRecDepth 20000 in
theorem ggX6_wire_X1_inputs : GoodIn wsX6_wire wsX1_inputs := goodIn_ca (goodIn_r _ [15, 16, 32, 33, 34, 35, 36, 37, 38] (by decide +kernel) (by decide +kernel)) (goodIn_sub (fun _ h => List.mem_cons_of_mem _ (List.mem_append_right _ h)) (by decide +kernel))
set_option maxRecDepth 20000 in
theorem gX6_wire_X1_inputs : GoodIn wsX6_wire (wsV RX6 103 RX1 yX1_inputs wsX1_inputs) := goodIn_app (goodIn_of _ (by decide +kernel)) ggX6_wire_X1_inputs
set_option maxRecDepth 20000 in
theorem ggX6_wire_X6_isWithin : GoodIn wsX6_wire wsX6_isWithin := goodIn_r _ [11] (by decide +kernel) (by decide +kernel)
set_option maxRecDepth 20000 in
theorem gX6_wire_X6_isWithin : GoodIn wsX6_wire (va_wsS RX6 95 yX6_isWithin wsX6_isWithin) := goodIn_app (goodIn_of _ (by decide +kernel)) ggX6_wire_X6_isWithin
set_option maxRecDepth 20000 in
theorem ggX6_wire_X6_forgetPlan : GoodIn wsX6_wire wsX6_forgetPlan := goodIn_r _ [21, 22, 23, 24, 25, 26, 27, 28, 29, 30, 31] (by decide +kernel) (by decide +kernel)
set_option maxRecDepth 20000 in
theorem gX6_wire_X6_forgetPlan : GoodIn wsX6_wire (wsV RX6 77 RX6 yX6_forgetPlan wsX6_forgetPlan) := goodIn_app (goodIn_of _ (by decide +kernel)) ggX6_wire_X6_forgetPlan
theorem dX6_wire_0 : decode cX6_wire 0 = .ok (.aload_n 0, 1) := by decide +kernel
theorem dX6_wire_1 : decode cX6_wire 1 = .ok (.getfield 10, 3) := by decide +kernel
theorem dX6_wire_4 : decode cX6_wire 4 = .ok (.iload_n 1, 1) := by decide +kernel
theorem dX6_wire_5 : decode cX6_wire 5 = .ok (.invokevirtual 84, 3) := by decide +kernel
theorem dX6_wire_8 : decode cX6_wire 8 = .ok (.ifCond .eq 18, 3) := by decide +kernel
theorem dX6_wire_11 : decode cX6_wire 11 = .ok (.iload_n 2, 1) := by decide +kernel
theorem dX6_wire_12 : decode cX6_wire 12 = .ok (.aload_n 0, 1) := by decide +kernel
theorem dX6_wire_13 : decode cX6_wire 13 = .ok (.getfield 10, 3) := by decide +kernel
theorem dX6_wire_16 : decode cX6_wire 16 = .ok (.iload_n 1, 1) := by decide +kernel
theorem dX6_wire_17 : decode cX6_wire 17 = .ok (.invokevirtual 103, 3) := by decide +kernel
theorem dX6_wire_20 : decode cX6_wire 20 = .ok (.invokestatic 95, 3) := by decide +kernel
theorem dX6_wire_23 : decode cX6_wire 23 = .ok (.ifCond .ne 5, 3) := by decide +kernel
theorem dX6_wire_26 : decode cX6_wire 26 = .ok (.iconst 0, 1) := by decide +kernel
theorem dX6_wire_27 : decode cX6_wire 27 = .ok (.ireturn, 1) := by decide +kernel
theorem dX6_wire_28 : decode cX6_wire 28 = .ok (.iload_n 3, 1) := by decide +kernel
theorem dX6_wire_29 : decode cX6_wire 29 = .ok (.iconst (-1), 1) := by decide +kernel
theorem dX6_wire_30 : decode cX6_wire 30 = .ok (.if_icmp .eq 16, 3) := by decide +kernel
theorem dX6_wire_33 : decode cX6_wire 33 = .ok (.aload_n 0, 1) := by decide +kernel
theorem dX6_wire_34 : decode cX6_wire 34 = .ok (.getfield 10, 3) := by decide +kernel
theorem dX6_wire_37 : decode cX6_wire 37 = .ok (.iload_n 3, 1) := by decide +kernel
theorem dX6_wire_38 : decode cX6_wire 38 = .ok (.invokevirtual 84, 3) := by decide +kernel
theorem dX6_wire_41 : decode cX6_wire 41 = .ok (.ifCond .ne 5, 3) := by decide +kernel
theorem dX6_wire_44 : decode cX6_wire 44 = .ok (.iconst 0, 1) := by decide +kernel
theorem dX6_wire_45 : decode cX6_wire 45 = .ok (.ireturn, 1) := by decide +kernel
theorem dX6_wire_46 : decode cX6_wire 46 = .ok (.aload_n 0, 1) := by decide +kernel
theorem dX6_wire_47 : decode cX6_wire 47 = .ok (.getfield 10, 3) := by decide +kernel
theorem dX6_wire_50 : decode cX6_wire 50 = .ok (.getfield 107, 3) := by decide +kernel
theorem dX6_wire_53 : decode cX6_wire 53 = .ok (.iload_n 1, 1) := by decide +kernel
theorem dX6_wire_54 : decode cX6_wire 54 = .ok (.aaload, 1) := by decide +kernel
theorem dX6_wire_55 : decode cX6_wire 55 = .ok (.iload_n 2, 1) := by decide +kernel
theorem dX6_wire_56 : decode cX6_wire 56 = .ok (.iload_n 3, 1) := by decide +kernel
theorem dX6_wire_57 : decode cX6_wire 57 = .ok (.iastore, 1) := by decide +kernel
theorem dX6_wire_58 : decode cX6_wire 58 = .ok (.aload_n 0, 1) := by decide +kernel
theorem dX6_wire_59 : decode cX6_wire 59 = .ok (.invokevirtual 77, 3) := by decide +kernel
theorem dX6_wire_62 : decode cX6_wire 62 = .ok (.iconst 1, 1) := by decide +kernel
theorem dX6_wire_63 : decode cX6_wire 63 = .ok (.ireturn, 1) := by decide +kernel
set_option maxRecDepth 20000 in
theorem ggX6_keep_X1_has : GoodIn wsX6_keep wsX1_has := goodIn_r _ [7, 8, 9, 10, 11, 26, 27, 28, 29, 30, 31, 32] (by decide +kernel) (by decide +kernel)
set_option maxRecDepth 20000 in
theorem gX6_keep_X1_has : GoodIn wsX6_keep (wsV RX6 84 RX1 yX1_has wsX1_has) := goodIn_app (goodIn_of _ (by decide +kernel)) ggX6_keep_X1_has
set_option maxRecDepth 20000 in
theorem ggX6_keep_X6_forgetPlan : GoodIn wsX6_keep wsX6_forgetPlan := goodIn_r _ [15, 16, 17, 18, 19, 20, 21, 22, 23, 24, 25] (by decide +kernel) (by decide +kernel)
set_option maxRecDepth 20000 in
theorem gX6_keep_X6_forgetPlan : GoodIn wsX6_keep (wsV RX6 77 RX6 yX6_forgetPlan wsX6_forgetPlan) := goodIn_app (goodIn_of _ (by decide +kernel)) ggX6_keep_X6_forgetPlan
theorem dX6_keep_0 : decode cX6_keep 0 = .ok (.aload_n 0, 1) := by decide +kernel
theorem dX6_keep_1 : decode cX6_keep 1 = .ok (.getfield 10, 3) := by decide +kernel
theorem dX6_keep_4 : decode cX6_keep 4 = .ok (.iload_n 1, 1) := by decide +kernel
theorem dX6_keep_5 : decode cX6_keep 5 = .ok (.invokevirtual 84, 3) := by decide +kernel
theorem dX6_keep_8 : decode cX6_keep 8 = .ok (.ifCond .eq 16, 3) := by decide +kernel
theorem dX6_keep_11 : decode cX6_keep 11 = .ok (.aload_n 0, 1) := by decide +kernel
theorem dX6_keep_12 : decode cX6_keep 12 = .ok (.getfield 10, 3) := by decide +kernel
theorem dX6_keep_15 : decode cX6_keep 15 = .ok (.getfield 110, 3) := by decide +kernel
theorem dX6_keep_18 : decode cX6_keep 18 = .ok (.iload_n 1, 1) := by decide +kernel
theorem dX6_keep_19 : decode cX6_keep 19 = .ok (.baload, 1) := by decide +kernel
theorem dX6_keep_20 : decode cX6_keep 20 = .ok (.iload_n 2, 1) := by decide +kernel
theorem dX6_keep_21 : decode cX6_keep 21 = .ok (.if_icmp .ne 5, 3) := by decide +kernel
theorem dX6_keep_24 : decode cX6_keep 24 = .ok (.iconst 0, 1) := by decide +kernel
theorem dX6_keep_25 : decode cX6_keep 25 = .ok (.ireturn, 1) := by decide +kernel
theorem dX6_keep_26 : decode cX6_keep 26 = .ok (.aload_n 0, 1) := by decide +kernel
theorem dX6_keep_27 : decode cX6_keep 27 = .ok (.getfield 10, 3) := by decide +kernel
theorem dX6_keep_30 : decode cX6_keep 30 = .ok (.getfield 110, 3) := by decide +kernel
theorem dX6_keep_33 : decode cX6_keep 33 = .ok (.iload_n 1, 1) := by decide +kernel
theorem dX6_keep_34 : decode cX6_keep 34 = .ok (.iload_n 2, 1) := by decide +kernel
theorem dX6_keep_35 : decode cX6_keep 35 = .ok (.bastore, 1) := by decide +kernel
theorem dX6_keep_36 : decode cX6_keep 36 = .ok (.aload_n 0, 1) := by decide +kernel
theorem dX6_keep_37 : decode cX6_keep 37 = .ok (.invokevirtual 77, 3) := by decide +kernel
theorem dX6_keep_40 : decode cX6_keep 40 = .ok (.iconst 1, 1) := by decide +kernel
theorem dX6_keep_41 : decode cX6_keep 41 = .ok (.ireturn, 1) := by decide +kernel
theorem dX6_nodes_0 : decode cX6_nodes 0 = .ok (.aload_n 0, 1) := by decide +kernel
theorem dX6_nodes_1 : decode cX6_nodes 1 = .ok (.getfield 10, 3) := by decide +kernel
theorem dX6_nodes_4 : decode cX6_nodes 4 = .ok (.getfield 68, 3) := by decide +kernel
theorem dX6_nodes_7 : decode cX6_nodes 7 = .ok (.ireturn, 1) := by decide +kernel
set_option maxRecDepth 20000 in
theorem ggX6_ring_X5_find : GoodIn wsX6_ring wsX5_find := goodIn_ca (goodIn_r _ [10, 11, 12, 13, 14, 15, 16, 17, 9, 18, 19, 20, 21, 22, 23, 24, 25, 26, 27, 28, 29, 30, 31, 32, 33, 34, 35, 36, 37, 38, 39, 40, 41, 42, 43, 44, 45, 46, 47, 48, 49, 50, 51, 52, 65, 66, 67, 68, 69, 70, 71, 72, 73, 74, 75, 76] (by decide +kernel) (by decide +kernel)) (goodIn_sub (fun _ h => List.mem_cons_of_mem _ (List.mem_append_right _ h)) (by decide +kernel))
set_option maxRecDepth 20000 in
theorem gX6_ring_X5_find : GoodIn wsX6_ring (wsV RX6 114 RX5 yX5_find wsX5_find) := goodIn_app (goodIn_of _ (by decide +kernel)) ggX6_ring_X5_find
set_option maxRecDepth 20000 in
theorem ggX6_ring_X6_isWithin : GoodIn wsX6_ring wsX6_isWithin := goodIn_r _ [55] (by decide +kernel) (by decide +kernel)
set_option maxRecDepth 20000 in
theorem gX6_ring_X6_isWithin : GoodIn wsX6_ring (va_wsS RX6 95 yX6_isWithin wsX6_isWithin) := goodIn_app (goodIn_of _ (by decide +kernel)) ggX6_ring_X6_isWithin
theorem dX6_ring_0 : decode cX6_ring 0 = .ok (.aload_n 0, 1) := by decide +kernel
theorem dX6_ring_1 : decode cX6_ring 1 = .ok (.getfield 21, 3) := by decide +kernel
theorem dX6_ring_4 : decode cX6_ring 4 = .ok (.invokevirtual 114, 3) := by decide +kernel
theorem dX6_ring_7 : decode cX6_ring 7 = .ok (.iload_n 1, 1) := by decide +kernel
theorem dX6_ring_8 : decode cX6_ring 8 = .ok (.aload_n 0, 1) := by decide +kernel
theorem dX6_ring_9 : decode cX6_ring 9 = .ok (.getfield 21, 3) := by decide +kernel
theorem dX6_ring_12 : decode cX6_ring 12 = .ok (.getfield 117, 3) := by decide +kernel
theorem dX6_ring_15 : decode cX6_ring 15 = .ok (.invokestatic 95, 3) := by decide +kernel
theorem dX6_ring_18 : decode cX6_ring 18 = .ok (.ifCond .ne 13, 3) := by decide +kernel
theorem dX6_ring_21 : decode cX6_ring 21 = .ok (.new 120, 3) := by decide +kernel
theorem dX6_ring_24 : decode cX6_ring 24 = .ok (.dup, 1) := by decide +kernel
theorem dX6_ring_25 : decode cX6_ring 25 = .ok (.ldc 122, 2) := by decide +kernel
theorem dX6_ring_27 : decode cX6_ring 27 = .ok (.invokespecial 124, 3) := by decide +kernel
theorem dX6_ring_30 : decode cX6_ring 30 = .ok (.athrow, 1) := by decide +kernel
theorem dX6_ring_31 : decode cX6_ring 31 = .ok (.aload_n 0, 1) := by decide +kernel
theorem dX6_ring_32 : decode cX6_ring 32 = .ok (.getfield 21, 3) := by decide +kernel
theorem dX6_ring_35 : decode cX6_ring 35 = .ok (.getfield 125, 3) := by decide +kernel
theorem dX6_ring_38 : decode cX6_ring 38 = .ok (.iload_n 1, 1) := by decide +kernel
theorem dX6_ring_39 : decode cX6_ring 39 = .ok (.iaload, 1) := by decide +kernel
theorem dX6_ring_40 : decode cX6_ring 40 = .ok (.ireturn, 1) := by decide +kernel
set_option maxRecDepth 20000 in
theorem ggX6_plan_X1_isWired : GoodIn wsX6_plan wsX1_isWired := goodIn_ca (goodIn_r _ [23, 24, 25, 26, 27, 28, 22, 29, 30, 222, 223, 224, 225, 226, 227, 228] (by decide +kernel) (by decide +kernel)) (goodIn_sub (fun _ h => List.mem_cons_of_mem _ (List.mem_append_right _ h)) (by decide +kernel))
set_option maxRecDepth 20000 in
theorem gX6_plan_X1_isWired : GoodIn wsX6_plan (wsV RX6 130 RX1 yX1_isWired wsX1_isWired) := goodIn_app (goodIn_of _ (by decide +kernel)) ggX6_plan_X1_isWired
set_option maxRecDepth 20000 in
theorem ggX6_plan_X5_find : GoodIn wsX6_plan wsX5_find := goodIn_ca (goodIn_r _ [35, 36, 37, 38, 39, 40, 41, 42, 34, 43, 44, 45, 46, 22, 47, 25, 48, 49, 50, 51, 52, 53, 54, 55, 56, 57, 58, 59, 60, 61, 62, 63, 64, 65, 66, 67, 68, 69, 70, 71, 72, 73, 74, 75, 229, 230, 231, 232, 233, 222, 223, 224, 225, 226, 227, 228] (by decide +kernel) (by decide +kernel)) (goodIn_sub (fun _ h => List.mem_cons_of_mem _ (List.mem_append_right _ h)) (by decide +kernel))
set_option maxRecDepth 20000 in
theorem gX6_plan_X5_find : GoodIn wsX6_plan (wsV RX6 114 RX5 yX5_find wsX5_find) := goodIn_app (goodIn_of _ (by decide +kernel)) ggX6_plan_X5_find
set_option maxRecDepth 20000 in
theorem ggX6_plan_X4_measure : GoodIn wsX6_plan wsX4_measure := goodIn_ca (goodIn_r _ [80, 81, 82, 83, 84, 85, 86, 87, 79, 88, 89, 90, 91, 92, 93, 63, 64, 65, 94, 45, 46, 22, 47, 25, 48, 49, 50, 51, 52, 95, 96, 97, 98, 99, 100, 101, 102, 103, 104, 105, 106, 107, 108, 109, 110, 111, 112, 113, 114, 115, 116, 117, 118, 119, 120, 121, 122, 123, 124, 125, 126, 127, 128, 129, 130, 131, 132, 133, 134, 135, 136, 137, 138, 139, 140, 141, 142, 143, 144, 60, 145, 146, 59, 61, 147, 27, 28, 29, 30, 238, 239, 240, 241, 242, 243, 244, 245, 246, 247, 248, 249, 222, 223, 224, 225, 226, 227, 228] (by decide +kernel) (by decide +kernel)) (goodIn_sub (fun _ h => List.mem_cons_of_mem _ (List.mem_append_right _ h)) (by decide +kernel))
set_option maxRecDepth 20000 in
theorem gX6_plan_X4_measure : GoodIn wsX6_plan (wsV RX6 141 RX4 yX4_measure wsX4_measure) := goodIn_app (goodIn_of _ (by decide +kernel)) ggX6_plan_X4_measure
set_option maxRecDepth 20000 in
theorem ggX6_plan_X4_arrange : GoodIn wsX6_plan wsX4_arrange := goodIn_ca (goodIn_r _ [151, 90, 91, 152, 153, 154, 155, 79, 156, 89, 99, 100, 101, 102, 103, 104, 81, 93, 63, 64, 65, 157, 158, 159, 160, 113, 114, 115, 116, 161, 162, 163, 164, 165, 166, 167, 168, 134, 84, 119, 120, 121, 122, 82, 48, 49, 50, 95, 96, 97, 98, 105, 106, 107, 108, 109, 110, 111, 112, 92, 117, 118, 169, 170, 171, 172, 173, 143, 144, 60, 145, 51, 52, 174, 175, 176, 177, 178, 179, 83, 238, 239, 240, 241, 242, 243, 244, 245, 246, 247, 248, 249, 222, 223, 224, 225, 226, 227, 228] (by decide +kernel) (by decide +kernel)) (goodIn_sub (fun _ h => List.mem_cons_of_mem _ (List.mem_append_right _ h)) (by decide +kernel))
set_option maxRecDepth 20000 in
theorem gX6_plan_X4_arrange : GoodIn wsX6_plan (wsV RX6 149 RX4 yX4_arrange wsX4_arrange) := goodIn_app (goodIn_of _ (by decide +kernel)) ggX6_plan_X4_arrange
set_option maxRecDepth 20000 in
theorem ggX6_plan_X3_assign : GoodIn wsX6_plan wsX3_assign := goodIn_ca (goodIn_r _ [184, 185, 186, 187, 188, 189, 190, 144, 60, 145, 191, 192, 193, 183, 194, 195, 196, 197, 198, 199, 200, 201, 202, 203, 204, 205, 206, 207, 79, 208, 103, 152, 209, 210, 211, 212, 234, 235, 236, 237, 238, 239, 240, 241, 242, 243, 244, 245, 246, 247, 248, 249] (by decide +kernel) (by decide +kernel)) (goodIn_sub (fun _ h => List.mem_cons_of_mem _ (List.mem_append_right _ h)) (by decide +kernel))
set_option maxRecDepth 20000 in
theorem gX6_plan_X3_assign : GoodIn wsX6_plan (wsV RX6 153 RX3 yX3_assign wsX3_assign) := goodIn_app (goodIn_of _ (by decide +kernel)) ggX6_plan_X3_assign
theorem dX6_plan_0 : decode cX6_plan 0 = .ok (.iload_n 1, 1) := by decide +kernel
theorem dX6_plan_1 : decode cX6_plan 1 = .ok (.ifCond .eq 18, 3) := by decide +kernel
theorem dX6_plan_4 : decode cX6_plan 4 = .ok (.iload_n 1, 1) := by decide +kernel
theorem dX6_plan_5 : decode cX6_plan 5 = .ok (.iconst 1, 1) := by decide +kernel
theorem dX6_plan_6 : decode cX6_plan 6 = .ok (.if_icmp .eq 13, 3) := by decide +kernel
theorem dX6_plan_9 : decode cX6_plan 9 = .ok (.new 61, 3) := by decide +kernel
theorem dX6_plan_12 : decode cX6_plan 12 = .ok (.dup, 1) := by decide +kernel
theorem dX6_plan_13 : decode cX6_plan 13 = .ok (.ldc 128, 2) := by decide +kernel
theorem dX6_plan_15 : decode cX6_plan 15 = .ok (.invokespecial 65, 3) := by decide +kernel
theorem dX6_plan_18 : decode cX6_plan 18 = .ok (.athrow, 1) := by decide +kernel
theorem dX6_plan_19 : decode cX6_plan 19 = .ok (.aload_n 0, 1) := by decide +kernel
theorem dX6_plan_20 : decode cX6_plan 20 = .ok (.getfield 10, 3) := by decide +kernel
theorem dX6_plan_23 : decode cX6_plan 23 = .ok (.getfield 68, 3) := by decide +kernel
theorem dX6_plan_26 : decode cX6_plan 26 = .ok (.ifCond .eq 13, 3) := by decide +kernel
theorem dX6_plan_29 : decode cX6_plan 29 = .ok (.aload_n 0, 1) := by decide +kernel
theorem dX6_plan_30 : decode cX6_plan 30 = .ok (.getfield 10, 3) := by decide +kernel
theorem dX6_plan_33 : decode cX6_plan 33 = .ok (.invokevirtual 130, 3) := by decide +kernel
theorem dX6_plan_36 : decode cX6_plan 36 = .ok (.ifCond .ne 13, 3) := by decide +kernel
theorem dX6_plan_39 : decode cX6_plan 39 = .ok (.new 120, 3) := by decide +kernel
theorem dX6_plan_42 : decode cX6_plan 42 = .ok (.dup, 1) := by decide +kernel
theorem dX6_plan_43 : decode cX6_plan 43 = .ok (.ldc 134, 2) := by decide +kernel
theorem dX6_plan_45 : decode cX6_plan 45 = .ok (.invokespecial 124, 3) := by decide +kernel
theorem dX6_plan_48 : decode cX6_plan 48 = .ok (.athrow, 1) := by decide +kernel
theorem dX6_plan_49 : decode cX6_plan 49 = .ok (.aload_n 0, 1) := by decide +kernel
theorem dX6_plan_50 : decode cX6_plan 50 = .ok (.getfield 21, 3) := by decide +kernel
theorem dX6_plan_53 : decode cX6_plan 53 = .ok (.invokevirtual 114, 3) := by decide +kernel
theorem dX6_plan_56 : decode cX6_plan 56 = .ok (.aload_n 0, 1) := by decide +kernel
theorem dX6_plan_57 : decode cX6_plan 57 = .ok (.getfield 21, 3) := by decide +kernel
theorem dX6_plan_60 : decode cX6_plan 60 = .ok (.getfield 117, 3) := by decide +kernel
theorem dX6_plan_63 : decode cX6_plan 63 = .ok (.ifCond .le 13, 3) := by decide +kernel
theorem dX6_plan_66 : decode cX6_plan 66 = .ok (.new 136, 3) := by decide +kernel
theorem dX6_plan_69 : decode cX6_plan 69 = .ok (.dup, 1) := by decide +kernel
theorem dX6_plan_70 : decode cX6_plan 70 = .ok (.ldc 138, 2) := by decide +kernel
theorem dX6_plan_72 : decode cX6_plan 72 = .ok (.invokespecial 140, 3) := by decide +kernel
theorem dX6_plan_75 : decode cX6_plan 75 = .ok (.athrow, 1) := by decide +kernel
theorem dX6_plan_76 : decode cX6_plan 76 = .ok (.aload_n 0, 1) := by decide +kernel
theorem dX6_plan_77 : decode cX6_plan 77 = .ok (.getfield 28, 3) := by decide +kernel
theorem dX6_plan_80 : decode cX6_plan 80 = .ok (.invokevirtual 141, 3) := by decide +kernel
theorem dX6_plan_83 : decode cX6_plan 83 = .ok (.ifCond .ne 13, 3) := by decide +kernel
theorem dX6_plan_86 : decode cX6_plan 86 = .ok (.new 144, 3) := by decide +kernel
theorem dX6_plan_89 : decode cX6_plan 89 = .ok (.dup, 1) := by decide +kernel
theorem dX6_plan_90 : decode cX6_plan 90 = .ok (.ldc 146, 2) := by decide +kernel
theorem dX6_plan_92 : decode cX6_plan 92 = .ok (.invokespecial 148, 3) := by decide +kernel
theorem dX6_plan_95 : decode cX6_plan 95 = .ok (.athrow, 1) := by decide +kernel
theorem dX6_plan_96 : decode cX6_plan 96 = .ok (.aload_n 0, 1) := by decide +kernel
theorem dX6_plan_97 : decode cX6_plan 97 = .ok (.getfield 28, 3) := by decide +kernel
theorem dX6_plan_100 : decode cX6_plan 100 = .ok (.iload_n 1, 1) := by decide +kernel
theorem dX6_plan_101 : decode cX6_plan 101 = .ok (.invokevirtual 149, 3) := by decide +kernel
theorem dX6_plan_104 : decode cX6_plan 104 = .ok (.aload_n 0, 1) := by decide +kernel
theorem dX6_plan_105 : decode cX6_plan 105 = .ok (.getfield 37, 3) := by decide +kernel
theorem dX6_plan_108 : decode cX6_plan 108 = .ok (.invokevirtual 153, 3) := by decide +kernel
theorem dX6_plan_111 : decode cX6_plan 111 = .ok (.aload_n 0, 1) := by decide +kernel
theorem dX6_plan_112 : decode cX6_plan 112 = .ok (.iconst 1, 1) := by decide +kernel
theorem dX6_plan_113 : decode cX6_plan 113 = .ok (.putfield 156, 3) := by decide +kernel
theorem dX6_plan_116 : decode cX6_plan 116 = .ok (.aload_n 0, 1) := by decide +kernel
theorem dX6_plan_117 : decode cX6_plan 117 = .ok (.iconst 0, 1) := by decide +kernel
theorem dX6_plan_118 : decode cX6_plan 118 = .ok (.putfield 160, 3) := by decide +kernel
theorem dX6_plan_121 : decode cX6_plan 121 = .ok (.aload_n 0, 1) := by decide +kernel
theorem dX6_plan_122 : decode cX6_plan 122 = .ok (.iconst 0, 1) := by decide +kernel
theorem dX6_plan_123 : decode cX6_plan 123 = .ok (.putfield 163, 3) := by decide +kernel
theorem dX6_plan_126 : decode cX6_plan 126 = .ok (.aload_n 0, 1) := by decide +kernel
theorem dX6_plan_127 : decode cX6_plan 127 = .ok (.getfield 37, 3) := by decide +kernel
theorem dX6_plan_130 : decode cX6_plan 130 = .ok (.getfield 166, 3) := by decide +kernel
theorem dX6_plan_133 : decode cX6_plan 133 = .ok (.ireturn, 1) := by decide +kernel
set_option maxRecDepth 20000 in
theorem ggX6_order_X6_needPlan : GoodIn wsX6_order wsX6_needPlan := goodIn_ca (goodIn_r _ [9, 10, 11, 12, 21, 22, 23, 24, 25, 26, 27, 28, 29] (by decide +kernel) (by decide +kernel)) (goodIn_sub (fun _ h => List.mem_cons_of_mem _ (List.mem_append_left _ (List.mem_append_right _ h))) (by decide +kernel))
set_option maxRecDepth 20000 in
theorem gX6_order_X6_needPlan : GoodIn wsX6_order (wsV RX6 169 RX6 yX6_needPlan wsX6_needPlan) := goodIn_app (goodIn_of _ (by decide +kernel)) ggX6_order_X6_needPlan
set_option maxRecDepth 20000 in
theorem ggX6_order_X6_needWithin : GoodIn wsX6_order wsX6_needWithin := goodIn_ca (goodIn_r _ [15, 16, 17, 18, 19, 8, 20] (by decide +kernel) (by decide +kernel)) (goodIn_sub (fun _ h => List.mem_cons_of_mem _ (List.mem_append_right _ h)) (by decide +kernel))
set_option maxRecDepth 20000 in
theorem gX6_order_X6_needWithin : GoodIn wsX6_order (va_wsS RX6 172 yX6_needWithin wsX6_needWithin) := goodIn_app (goodIn_of _ (by decide +kernel)) ggX6_order_X6_needWithin
theorem dX6_order_0 : decode cX6_order 0 = .ok (.aload_n 0, 1) := by decide +kernel
theorem dX6_order_1 : decode cX6_order 1 = .ok (.invokevirtual 169, 3) := by decide +kernel
theorem dX6_order_4 : decode cX6_order 4 = .ok (.iload_n 1, 1) := by decide +kernel
theorem dX6_order_5 : decode cX6_order 5 = .ok (.aload_n 0, 1) := by decide +kernel
theorem dX6_order_6 : decode cX6_order 6 = .ok (.getfield 10, 3) := by decide +kernel
theorem dX6_order_9 : decode cX6_order 9 = .ok (.getfield 68, 3) := by decide +kernel
theorem dX6_order_12 : decode cX6_order 12 = .ok (.invokestatic 172, 3) := by decide +kernel
theorem dX6_order_15 : decode cX6_order 15 = .ok (.aload_n 0, 1) := by decide +kernel
theorem dX6_order_16 : decode cX6_order 16 = .ok (.getfield 28, 3) := by decide +kernel
theorem dX6_order_19 : decode cX6_order 19 = .ok (.getfield 176, 3) := by decide +kernel
theorem dX6_order_22 : decode cX6_order 22 = .ok (.iload_n 1, 1) := by decide +kernel
theorem dX6_order_23 : decode cX6_order 23 = .ok (.iaload, 1) := by decide +kernel
theorem dX6_order_24 : decode cX6_order 24 = .ok (.ireturn, 1) := by decide +kernel
set_option maxRecDepth 20000 in
theorem ggX6_about_X6_needPlan : GoodIn wsX6_about wsX6_needPlan := goodIn_ca (goodIn_r _ [14, 15, 16, 17, 26, 27, 28, 29, 30, 31, 32, 33, 34] (by decide +kernel) (by decide +kernel)) (goodIn_sub (fun _ h => List.mem_cons_of_mem _ (List.mem_append_left _ (List.mem_append_right _ h))) (by decide +kernel))
set_option maxRecDepth 20000 in
theorem gX6_about_X6_needPlan : GoodIn wsX6_about (wsV RX6 169 RX6 yX6_needPlan wsX6_needPlan) := goodIn_app (goodIn_of _ (by decide +kernel)) ggX6_about_X6_needPlan
set_option maxRecDepth 20000 in
theorem ggX6_about_X6_needWithin : GoodIn wsX6_about wsX6_needWithin := goodIn_ca (goodIn_r _ [20, 21, 22, 23, 24, 13, 25] (by decide +kernel) (by decide +kernel)) (goodIn_sub (fun _ h => List.mem_cons_of_mem _ (List.mem_append_right _ h)) (by decide +kernel))
set_option maxRecDepth 20000 in
theorem gX6_about_X6_needWithin : GoodIn wsX6_about (va_wsS RX6 172 yX6_needWithin wsX6_needWithin) := goodIn_app (goodIn_of _ (by decide +kernel)) ggX6_about_X6_needWithin
theorem dX6_about_0 : decode cX6_about 0 = .ok (.aload_n 0, 1) := by decide +kernel
theorem dX6_about_1 : decode cX6_about 1 = .ok (.invokevirtual 169, 3) := by decide +kernel
theorem dX6_about_4 : decode cX6_about 4 = .ok (.iload_n 1, 1) := by decide +kernel
theorem dX6_about_5 : decode cX6_about 5 = .ok (.aload_n 0, 1) := by decide +kernel
theorem dX6_about_6 : decode cX6_about 6 = .ok (.getfield 10, 3) := by decide +kernel
theorem dX6_about_9 : decode cX6_about 9 = .ok (.getfield 68, 3) := by decide +kernel
theorem dX6_about_12 : decode cX6_about 12 = .ok (.invokestatic 172, 3) := by decide +kernel
theorem dX6_about_15 : decode cX6_about 15 = .ok (.iload_n 2, 1) := by decide +kernel
theorem dX6_about_16 : decode cX6_about 16 = .ok (.iconst 5, 1) := by decide +kernel
theorem dX6_about_17 : decode cX6_about 17 = .ok (.invokestatic 172, 3) := by decide +kernel
theorem dX6_about_20 : decode cX6_about 20 = .ok (.iload_n 2, 1) := by decide +kernel
theorem dX6_about_21 : decode cX6_about 21 = .ok (.tableswitch 71 0 3 #[31, 41, 51, 61], 31) := by decide +kernel
theorem dX6_about_52 : decode cX6_about 52 = .ok (.aload_n 0, 1) := by decide +kernel
theorem dX6_about_53 : decode cX6_about 53 = .ok (.getfield 28, 3) := by decide +kernel
theorem dX6_about_56 : decode cX6_about 56 = .ok (.getfield 179, 3) := by decide +kernel
theorem dX6_about_59 : decode cX6_about 59 = .ok (.iload_n 1, 1) := by decide +kernel
theorem dX6_about_60 : decode cX6_about 60 = .ok (.iaload, 1) := by decide +kernel
theorem dX6_about_61 : decode cX6_about 61 = .ok (.ireturn, 1) := by decide +kernel
theorem dX6_about_62 : decode cX6_about 62 = .ok (.aload_n 0, 1) := by decide +kernel
theorem dX6_about_63 : decode cX6_about 63 = .ok (.getfield 28, 3) := by decide +kernel
theorem dX6_about_66 : decode cX6_about 66 = .ok (.getfield 182, 3) := by decide +kernel
theorem dX6_about_69 : decode cX6_about 69 = .ok (.iload_n 1, 1) := by decide +kernel
theorem dX6_about_70 : decode cX6_about 70 = .ok (.iaload, 1) := by decide +kernel
theorem dX6_about_71 : decode cX6_about 71 = .ok (.ireturn, 1) := by decide +kernel
theorem dX6_about_72 : decode cX6_about 72 = .ok (.aload_n 0, 1) := by decide +kernel
theorem dX6_about_73 : decode cX6_about 73 = .ok (.getfield 28, 3) := by decide +kernel
theorem dX6_about_76 : decode cX6_about 76 = .ok (.getfield 185, 3) := by decide +kernel
theorem dX6_about_79 : decode cX6_about 79 = .ok (.iload_n 1, 1) := by decide +kernel
theorem dX6_about_80 : decode cX6_about 80 = .ok (.iaload, 1) := by decide +kernel
theorem dX6_about_81 : decode cX6_about 81 = .ok (.ireturn, 1) := by decide +kernel
theorem dX6_about_82 : decode cX6_about 82 = .ok (.aload_n 0, 1) := by decide +kernel
theorem dX6_about_83 : decode cX6_about 83 = .ok (.getfield 37, 3) := by decide +kernel
theorem dX6_about_86 : decode cX6_about 86 = .ok (.getfield 188, 3) := by decide +kernel
theorem dX6_about_89 : decode cX6_about 89 = .ok (.iload_n 1, 1) := by decide +kernel
theorem dX6_about_90 : decode cX6_about 90 = .ok (.iaload, 1) := by decide +kernel
theorem dX6_about_91 : decode cX6_about 91 = .ok (.ireturn, 1) := by decide +kernel
theorem dX6_about_92 : decode cX6_about 92 = .ok (.aload_n 0, 1) := by decide +kernel
theorem dX6_about_93 : decode cX6_about 93 = .ok (.getfield 28, 3) := by decide +kernel
theorem dX6_about_96 : decode cX6_about 96 = .ok (.getfield 191, 3) := by decide +kernel
theorem dX6_about_99 : decode cX6_about 99 = .ok (.iload_n 1, 1) := by decide +kernel
theorem dX6_about_100 : decode cX6_about 100 = .ok (.iaload, 1) := by decide +kernel
theorem dX6_about_101 : decode cX6_about 101 = .ok (.ireturn, 1) := by decide +kernel
set_option maxRecDepth 20000 in
theorem ggX6_cost_X6_needPlan : GoodIn wsX6_cost wsX6_needPlan := goodIn_ca (goodIn_r _ [9, 10, 11, 12, 21, 22, 23, 24, 25, 26, 27, 28, 29] (by decide +kernel) (by decide +kernel)) (goodIn_sub (fun _ h => List.mem_cons_of_mem _ (List.mem_append_left _ (List.mem_append_right _ h))) (by decide +kernel))
set_option maxRecDepth 20000 in
theorem gX6_cost_X6_needPlan : GoodIn wsX6_cost (wsV RX6 169 RX6 yX6_needPlan wsX6_needPlan) := goodIn_app (goodIn_of _ (by decide +kernel)) ggX6_cost_X6_needPlan
set_option maxRecDepth 20000 in
theorem ggX6_cost_X6_needWithin : GoodIn wsX6_cost wsX6_needWithin := goodIn_ca (goodIn_r _ [15, 16, 17, 18, 19, 8, 20] (by decide +kernel) (by decide +kernel)) (goodIn_sub (fun _ h => List.mem_cons_of_mem _ (List.mem_append_right _ h)) (by decide +kernel))
set_option maxRecDepth 20000 in
theorem gX6_cost_X6_needWithin : GoodIn wsX6_cost (va_wsS RX6 172 yX6_needWithin wsX6_needWithin) := goodIn_app (goodIn_of _ (by decide +kernel)) ggX6_cost_X6_needWithin
theorem dX6_cost_0 : decode cX6_cost 0 = .ok (.aload_n 0, 1) := by decide +kernel
theorem dX6_cost_1 : decode cX6_cost 1 = .ok (.invokevirtual 169, 3) := by decide +kernel
theorem dX6_cost_4 : decode cX6_cost 4 = .ok (.iload_n 1, 1) := by decide +kernel
theorem dX6_cost_5 : decode cX6_cost 5 = .ok (.aload_n 0, 1) := by decide +kernel
theorem dX6_cost_6 : decode cX6_cost 6 = .ok (.getfield 10, 3) := by decide +kernel
theorem dX6_cost_9 : decode cX6_cost 9 = .ok (.getfield 68, 3) := by decide +kernel
theorem dX6_cost_12 : decode cX6_cost 12 = .ok (.invokestatic 172, 3) := by decide +kernel
theorem dX6_cost_15 : decode cX6_cost 15 = .ok (.aload_n 0, 1) := by decide +kernel
theorem dX6_cost_16 : decode cX6_cost 16 = .ok (.getfield 28, 3) := by decide +kernel
theorem dX6_cost_19 : decode cX6_cost 19 = .ok (.getfield 194, 3) := by decide +kernel
theorem dX6_cost_22 : decode cX6_cost 22 = .ok (.iload_n 1, 1) := by decide +kernel
theorem dX6_cost_23 : decode cX6_cost 23 = .ok (.iaload, 1) := by decide +kernel
theorem dX6_cost_24 : decode cX6_cost 24 = .ok (.ireturn, 1) := by decide +kernel
set_option maxRecDepth 20000 in
theorem ggX6_peak_X6_needPlan : GoodIn wsX6_peak wsX6_needPlan := goodIn_ca (goodIn_r _ [7, 8, 9, 10, 11, 12, 13, 14, 15, 16, 17, 18, 19] (by decide +kernel) (by decide +kernel)) (goodIn_sub (fun _ h => List.mem_cons_of_mem _ (List.mem_append_right _ h)) (by decide +kernel))
set_option maxRecDepth 20000 in
theorem gX6_peak_X6_needPlan : GoodIn wsX6_peak (wsV RX6 169 RX6 yX6_needPlan wsX6_needPlan) := goodIn_app (goodIn_of _ (by decide +kernel)) ggX6_peak_X6_needPlan
theorem dX6_peak_0 : decode cX6_peak 0 = .ok (.aload_n 0, 1) := by decide +kernel
theorem dX6_peak_1 : decode cX6_peak 1 = .ok (.invokevirtual 169, 3) := by decide +kernel
theorem dX6_peak_4 : decode cX6_peak 4 = .ok (.aload_n 0, 1) := by decide +kernel
theorem dX6_peak_5 : decode cX6_peak 5 = .ok (.getfield 28, 3) := by decide +kernel
theorem dX6_peak_8 : decode cX6_peak 8 = .ok (.getfield 197, 3) := by decide +kernel
theorem dX6_peak_11 : decode cX6_peak 11 = .ok (.ireturn, 1) := by decide +kernel
set_option maxRecDepth 20000 in
theorem ggX6_least_X6_needPlan : GoodIn wsX6_least wsX6_needPlan := goodIn_ca (goodIn_r _ [7, 8, 9, 10, 50, 51, 52, 53, 54, 55, 56, 57, 58] (by decide +kernel) (by decide +kernel)) (goodIn_sub (fun _ h => List.mem_cons_of_mem _ (List.mem_append_left _ (List.mem_append_right _ h))) (by decide +kernel))
set_option maxRecDepth 20000 in
theorem gX6_least_X6_needPlan : GoodIn wsX6_least (wsV RX6 169 RX6 yX6_needPlan wsX6_needPlan) := goodIn_app (goodIn_of _ (by decide +kernel)) ggX6_least_X6_needPlan
set_option maxRecDepth 20000 in
theorem ggX6_least_X2_find : GoodIn wsX6_least wsX2_find := goodIn_ca (goodIn_r _ [15, 16, 17, 18, 19, 20, 21, 22, 23, 24, 25, 26, 14, 27, 28, 29, 30, 31, 32, 33, 34, 35, 36, 37, 38, 39, 40, 41, 42, 43, 44, 6, 45, 46, 47, 48, 49, 59, 60, 61, 62, 63, 64, 65, 66, 67, 68, 69, 70, 71, 72, 73, 74, 75, 76, 77, 78, 79] (by decide +kernel) (by decide +kernel)) (goodIn_sub (fun _ h => List.mem_cons_of_mem _ (List.mem_append_right _ h)) (by decide +kernel))
set_option maxRecDepth 20000 in
theorem gX6_least_X2_find : GoodIn wsX6_least (wsV RX6 200 RX2 yX2_find wsX2_find) := goodIn_app (goodIn_of _ (by decide +kernel)) ggX6_least_X2_find
theorem dX6_least_0 : decode cX6_least 0 = .ok (.aload_n 0, 1) := by decide +kernel
theorem dX6_least_1 : decode cX6_least 1 = .ok (.invokevirtual 169, 3) := by decide +kernel
theorem dX6_least_4 : decode cX6_least 4 = .ok (.aload_n 0, 1) := by decide +kernel
theorem dX6_least_5 : decode cX6_least 5 = .ok (.getfield 163, 3) := by decide +kernel
theorem dX6_least_8 : decode cX6_least 8 = .ok (.ifCond .ne 14, 3) := by decide +kernel
theorem dX6_least_11 : decode cX6_least 11 = .ok (.aload_n 0, 1) := by decide +kernel
theorem dX6_least_12 : decode cX6_least 12 = .ok (.aload_n 0, 1) := by decide +kernel
theorem dX6_least_13 : decode cX6_least 13 = .ok (.getfield 53, 3) := by decide +kernel
theorem dX6_least_16 : decode cX6_least 16 = .ok (.invokevirtual 200, 3) := by decide +kernel
theorem dX6_least_19 : decode cX6_least 19 = .ok (.putfield 163, 3) := by decide +kernel
theorem dX6_least_22 : decode cX6_least 22 = .ok (.aload_n 0, 1) := by decide +kernel
theorem dX6_least_23 : decode cX6_least 23 = .ok (.getfield 163, 3) := by decide +kernel
theorem dX6_least_26 : decode cX6_least 26 = .ok (.ireturn, 1) := by decide +kernel
set_option maxRecDepth 20000 in
theorem ggX6_run_X6_needPlan : GoodIn wsX6_run wsX6_needPlan := goodIn_ca (goodIn_r _ [7, 8, 9, 10, 44, 45, 46, 47, 48, 49, 50, 51, 52] (by decide +kernel) (by decide +kernel)) (goodIn_sub (fun _ h => List.mem_cons_of_mem _ (List.mem_append_left _ (List.mem_append_right _ h))) (by decide +kernel))
set_option maxRecDepth 20000 in
theorem gX6_run_X6_needPlan : GoodIn wsX6_run (wsV RX6 169 RX6 yX6_needPlan wsX6_needPlan) := goodIn_app (goodIn_of _ (by decide +kernel)) ggX6_run_X6_needPlan
set_option maxRecDepth 20000 in
theorem ggX6_run_X0_work : GoodIn wsX6_run wsX0_work := goodIn_ca (goodIn_r _ [15, 16, 17, 18, 19, 20, 21, 22, 23, 24, 25, 26, 27, 28, 29, 14, 30, 31, 32, 33, 34, 35, 36, 37, 38, 39, 40, 41, 42, 43, 53, 54, 55, 56, 57, 58, 59, 60, 61, 62, 63, 64, 65, 66, 67, 68, 69, 70, 71, 72, 73, 74, 75, 76, 77, 78, 79] (by decide +kernel) (by decide +kernel)) (goodIn_sub (fun _ h => List.mem_cons_of_mem _ (List.mem_append_right _ h)) (by decide +kernel))
set_option maxRecDepth 20000 in
theorem gX6_run_X0_work : GoodIn wsX6_run (wsV RX6 203 RX0 yX0_work wsX0_work) := goodIn_app (goodIn_of _ (by decide +kernel)) ggX6_run_X0_work
theorem dX6_run_0 : decode cX6_run 0 = .ok (.aload_n 0, 1) := by decide +kernel
theorem dX6_run_1 : decode cX6_run 1 = .ok (.invokevirtual 169, 3) := by decide +kernel
theorem dX6_run_4 : decode cX6_run 4 = .ok (.aload_n 0, 1) := by decide +kernel
theorem dX6_run_5 : decode cX6_run 5 = .ok (.iconst 1, 1) := by decide +kernel
theorem dX6_run_6 : decode cX6_run 6 = .ok (.putfield 160, 3) := by decide +kernel
theorem dX6_run_9 : decode cX6_run 9 = .ok (.aload_n 0, 1) := by decide +kernel
theorem dX6_run_10 : decode cX6_run 10 = .ok (.getfield 46, 3) := by decide +kernel
theorem dX6_run_13 : decode cX6_run 13 = .ok (.invokevirtual 203, 3) := by decide +kernel
theorem dX6_run_16 : decode cX6_run 16 = .ok (.ireturn, 1) := by decide +kernel
set_option maxRecDepth 20000 in
theorem ggX6_cell_X6_needRun : GoodIn wsX6_cell wsX6_needRun := goodIn_ca (goodIn_r _ [9, 10, 11, 12, 13, 14, 15, 8, 16, 17, 26, 27, 28, 29, 30, 31, 32, 33, 34] (by decide +kernel) (by decide +kernel)) (goodIn_sub (fun _ h => List.mem_cons_of_mem _ (List.mem_append_left _ (List.mem_append_right _ h))) (by decide +kernel))
set_option maxRecDepth 20000 in
theorem gX6_cell_X6_needRun : GoodIn wsX6_cell (wsV RX6 206 RX6 yX6_needRun wsX6_needRun) := goodIn_app (goodIn_of _ (by decide +kernel)) ggX6_cell_X6_needRun
set_option maxRecDepth 20000 in
theorem ggX6_cell_X6_needWithin : GoodIn wsX6_cell wsX6_needWithin := goodIn_ca (goodIn_r _ [20, 21, 22, 23, 24, 8, 25] (by decide +kernel) (by decide +kernel)) (goodIn_sub (fun _ h => List.mem_cons_of_mem _ (List.mem_append_right _ h)) (by decide +kernel))
set_option maxRecDepth 20000 in
theorem gX6_cell_X6_needWithin : GoodIn wsX6_cell (va_wsS RX6 172 yX6_needWithin wsX6_needWithin) := goodIn_app (goodIn_of _ (by decide +kernel)) ggX6_cell_X6_needWithin
theorem dX6_cell_0 : decode cX6_cell 0 = .ok (.aload_n 0, 1) := by decide +kernel
theorem dX6_cell_1 : decode cX6_cell 1 = .ok (.invokevirtual 206, 3) := by decide +kernel
theorem dX6_cell_4 : decode cX6_cell 4 = .ok (.iload_n 1, 1) := by decide +kernel
theorem dX6_cell_5 : decode cX6_cell 5 = .ok (.aload_n 0, 1) := by decide +kernel
theorem dX6_cell_6 : decode cX6_cell 6 = .ok (.getfield 37, 3) := by decide +kernel
theorem dX6_cell_9 : decode cX6_cell 9 = .ok (.getfield 166, 3) := by decide +kernel
theorem dX6_cell_12 : decode cX6_cell 12 = .ok (.invokestatic 172, 3) := by decide +kernel
theorem dX6_cell_15 : decode cX6_cell 15 = .ok (.aload_n 0, 1) := by decide +kernel
theorem dX6_cell_16 : decode cX6_cell 16 = .ok (.getfield 46, 3) := by decide +kernel
theorem dX6_cell_19 : decode cX6_cell 19 = .ok (.getfield 209, 3) := by decide +kernel
theorem dX6_cell_22 : decode cX6_cell 22 = .ok (.iload_n 1, 1) := by decide +kernel
theorem dX6_cell_23 : decode cX6_cell 23 = .ok (.iaload, 1) := by decide +kernel
theorem dX6_cell_24 : decode cX6_cell 24 = .ok (.ireturn, 1) := by decide +kernel
set_option maxRecDepth 20000 in
theorem ggX6_result_X6_needRun : GoodIn wsX6_result wsX6_needRun := goodIn_ca (goodIn_r _ [15, 16, 17, 18, 19, 20, 21, 14, 22, 23, 38, 39, 40, 41, 42, 43, 44, 45, 46] (by decide +kernel) (by decide +kernel)) (goodIn_sub (fun _ h => List.mem_cons_of_mem _ (List.mem_append_left _ (List.mem_append_right _ h))) (by decide +kernel))
set_option maxRecDepth 20000 in
theorem gX6_result_X6_needRun : GoodIn wsX6_result (wsV RX6 206 RX6 yX6_needRun wsX6_needRun) := goodIn_app (goodIn_of _ (by decide +kernel)) ggX6_result_X6_needRun
set_option maxRecDepth 20000 in
theorem ggX6_result_X1_has : GoodIn wsX6_result wsX1_has := goodIn_r _ [28, 29, 30, 14, 31, 47, 48, 49, 50, 51, 52, 53] (by decide +kernel) (by decide +kernel)
set_option maxRecDepth 20000 in
theorem gX6_result_X1_has : GoodIn wsX6_result (wsV RX6 84 RX1 yX1_has wsX1_has) := goodIn_app (goodIn_of _ (by decide +kernel)) ggX6_result_X1_has
set_option maxRecDepth 20000 in
theorem ggX6_result_X6_needWithin : GoodIn wsX6_result wsX6_needWithin := goodIn_ca (goodIn_r _ [34, 35, 36, 37, 30, 14, 31] (by decide +kernel) (by decide +kernel)) (goodIn_sub (fun _ h => List.mem_cons_of_mem _ (List.mem_append_right _ h)) (by decide +kernel))
set_option maxRecDepth 20000 in
theorem gX6_result_X6_needWithin : GoodIn wsX6_result (va_wsS RX6 172 yX6_needWithin wsX6_needWithin) := goodIn_app (goodIn_of _ (by decide +kernel)) ggX6_result_X6_needWithin
theorem dX6_result_0 : decode cX6_result 0 = .ok (.aload_n 0, 1) := by decide +kernel
theorem dX6_result_1 : decode cX6_result 1 = .ok (.invokevirtual 206, 3) := by decide +kernel
theorem dX6_result_4 : decode cX6_result 4 = .ok (.aload_n 0, 1) := by decide +kernel
theorem dX6_result_5 : decode cX6_result 5 = .ok (.getfield 10, 3) := by decide +kernel
theorem dX6_result_8 : decode cX6_result 8 = .ok (.iload_n 1, 1) := by decide +kernel
theorem dX6_result_9 : decode cX6_result 9 = .ok (.invokevirtual 84, 3) := by decide +kernel
theorem dX6_result_12 : decode cX6_result 12 = .ok (.ifCond .eq 15, 3) := by decide +kernel
theorem dX6_result_15 : decode cX6_result 15 = .ok (.aload_n 0, 1) := by decide +kernel
theorem dX6_result_16 : decode cX6_result 16 = .ok (.getfield 10, 3) := by decide +kernel
theorem dX6_result_19 : decode cX6_result 19 = .ok (.getfield 110, 3) := by decide +kernel
theorem dX6_result_22 : decode cX6_result 22 = .ok (.iload_n 1, 1) := by decide +kernel
theorem dX6_result_23 : decode cX6_result 23 = .ok (.baload, 1) := by decide +kernel
theorem dX6_result_24 : decode cX6_result 24 = .ok (.ifCond .ne 13, 3) := by decide +kernel
theorem dX6_result_27 : decode cX6_result 27 = .ok (.new 120, 3) := by decide +kernel
theorem dX6_result_30 : decode cX6_result 30 = .ok (.dup, 1) := by decide +kernel
theorem dX6_result_31 : decode cX6_result 31 = .ok (.ldc 212, 2) := by decide +kernel
theorem dX6_result_33 : decode cX6_result 33 = .ok (.invokespecial 124, 3) := by decide +kernel
theorem dX6_result_36 : decode cX6_result 36 = .ok (.athrow, 1) := by decide +kernel
theorem dX6_result_37 : decode cX6_result 37 = .ok (.iload_n 2, 1) := by decide +kernel
theorem dX6_result_38 : decode cX6_result 38 = .ok (.aload_n 0, 1) := by decide +kernel
theorem dX6_result_39 : decode cX6_result 39 = .ok (.getfield 28, 3) := by decide +kernel
theorem dX6_result_42 : decode cX6_result 42 = .ok (.getfield 179, 3) := by decide +kernel
theorem dX6_result_45 : decode cX6_result 45 = .ok (.iload_n 1, 1) := by decide +kernel
theorem dX6_result_46 : decode cX6_result 46 = .ok (.iaload, 1) := by decide +kernel
theorem dX6_result_47 : decode cX6_result 47 = .ok (.invokestatic 172, 3) := by decide +kernel
theorem dX6_result_50 : decode cX6_result 50 = .ok (.aload_n 0, 1) := by decide +kernel
theorem dX6_result_51 : decode cX6_result 51 = .ok (.getfield 46, 3) := by decide +kernel
theorem dX6_result_54 : decode cX6_result 54 = .ok (.getfield 209, 3) := by decide +kernel
theorem dX6_result_57 : decode cX6_result 57 = .ok (.aload_n 0, 1) := by decide +kernel
theorem dX6_result_58 : decode cX6_result 58 = .ok (.getfield 37, 3) := by decide +kernel
theorem dX6_result_61 : decode cX6_result 61 = .ok (.getfield 188, 3) := by decide +kernel
theorem dX6_result_64 : decode cX6_result 64 = .ok (.iload_n 1, 1) := by decide +kernel
theorem dX6_result_65 : decode cX6_result 65 = .ok (.iaload, 1) := by decide +kernel
theorem dX6_result_66 : decode cX6_result 66 = .ok (.iload_n 2, 1) := by decide +kernel
theorem dX6_result_67 : decode cX6_result 67 = .ok (.iadd, 1) := by decide +kernel
theorem dX6_result_68 : decode cX6_result 68 = .ok (.iaload, 1) := by decide +kernel
theorem dX6_result_69 : decode cX6_result 69 = .ok (.ireturn, 1) := by decide +kernel
theorem dX6_forgetPlan_0 : decode cX6_forgetPlan 0 = .ok (.aload_n 0, 1) := by decide +kernel
theorem dX6_forgetPlan_1 : decode cX6_forgetPlan 1 = .ok (.iconst 0, 1) := by decide +kernel
theorem dX6_forgetPlan_2 : decode cX6_forgetPlan 2 = .ok (.putfield 156, 3) := by decide +kernel
theorem dX6_forgetPlan_5 : decode cX6_forgetPlan 5 = .ok (.return_, 1) := by decide +kernel
theorem dX6_needPlan_0 : decode cX6_needPlan 0 = .ok (.aload_n 0, 1) := by decide +kernel
theorem dX6_needPlan_1 : decode cX6_needPlan 1 = .ok (.getfield 156, 3) := by decide +kernel
theorem dX6_needPlan_4 : decode cX6_needPlan 4 = .ok (.ifCond .ne 13, 3) := by decide +kernel
theorem dX6_needPlan_7 : decode cX6_needPlan 7 = .ok (.new 136, 3) := by decide +kernel
theorem dX6_needPlan_10 : decode cX6_needPlan 10 = .ok (.dup, 1) := by decide +kernel
theorem dX6_needPlan_11 : decode cX6_needPlan 11 = .ok (.ldc 214, 2) := by decide +kernel
theorem dX6_needPlan_13 : decode cX6_needPlan 13 = .ok (.invokespecial 140, 3) := by decide +kernel
theorem dX6_needPlan_16 : decode cX6_needPlan 16 = .ok (.athrow, 1) := by decide +kernel
theorem dX6_needPlan_17 : decode cX6_needPlan 17 = .ok (.return_, 1) := by decide +kernel
set_option maxRecDepth 20000 in
theorem ggX6_needRun_X6_needPlan : GoodIn wsX6_needRun wsX6_needPlan := goodIn_ca (goodIn_r _ [8, 1, 2, 9, 10, 11, 12, 13, 14, 15, 16, 17, 18] (by decide +kernel) (by decide +kernel)) (goodIn_sub (fun _ h => List.mem_cons_of_mem _ (List.mem_append_right _ h)) (by decide +kernel))
set_option maxRecDepth 20000 in
theorem gX6_needRun_X6_needPlan : GoodIn wsX6_needRun (wsV RX6 169 RX6 yX6_needPlan wsX6_needPlan) := goodIn_app (goodIn_of _ (by decide +kernel)) ggX6_needRun_X6_needPlan
theorem dX6_needRun_0 : decode cX6_needRun 0 = .ok (.aload_n 0, 1) := by decide +kernel
theorem dX6_needRun_1 : decode cX6_needRun 1 = .ok (.invokevirtual 169, 3) := by decide +kernel
theorem dX6_needRun_4 : decode cX6_needRun 4 = .ok (.aload_n 0, 1) := by decide +kernel
theorem dX6_needRun_5 : decode cX6_needRun 5 = .ok (.getfield 160, 3) := by decide +kernel
theorem dX6_needRun_8 : decode cX6_needRun 8 = .ok (.ifCond .ne 13, 3) := by decide +kernel
theorem dX6_needRun_11 : decode cX6_needRun 11 = .ok (.new 136, 3) := by decide +kernel
theorem dX6_needRun_14 : decode cX6_needRun 14 = .ok (.dup, 1) := by decide +kernel
theorem dX6_needRun_15 : decode cX6_needRun 15 = .ok (.ldc 216, 2) := by decide +kernel
theorem dX6_needRun_17 : decode cX6_needRun 17 = .ok (.invokespecial 140, 3) := by decide +kernel
theorem dX6_needRun_20 : decode cX6_needRun 20 = .ok (.athrow, 1) := by decide +kernel
theorem dX6_needRun_21 : decode cX6_needRun 21 = .ok (.return_, 1) := by decide +kernel
set_option maxRecDepth 20000 in
theorem ggX6_needWithin_X6_isWithin : GoodIn wsX6_needWithin wsX6_isWithin := goodIn_r _ [6] (by decide +kernel) (by decide +kernel)
set_option maxRecDepth 20000 in
theorem gX6_needWithin_X6_isWithin : GoodIn wsX6_needWithin (va_wsS RX6 95 yX6_isWithin wsX6_isWithin) := goodIn_app (goodIn_of _ (by decide +kernel)) ggX6_needWithin_X6_isWithin
theorem dX6_needWithin_0 : decode cX6_needWithin 0 = .ok (.iload_n 0, 1) := by decide +kernel
theorem dX6_needWithin_1 : decode cX6_needWithin 1 = .ok (.iload_n 1, 1) := by decide +kernel
theorem dX6_needWithin_2 : decode cX6_needWithin 2 = .ok (.invokestatic 95, 3) := by decide +kernel
theorem dX6_needWithin_5 : decode cX6_needWithin 5 = .ok (.ifCond .ne 13, 3) := by decide +kernel
theorem dX6_needWithin_8 : decode cX6_needWithin 8 = .ok (.new 218, 3) := by decide +kernel
theorem dX6_needWithin_11 : decode cX6_needWithin 11 = .ok (.dup, 1) := by decide +kernel
theorem dX6_needWithin_12 : decode cX6_needWithin 12 = .ok (.ldc 220, 2) := by decide +kernel
theorem dX6_needWithin_14 : decode cX6_needWithin 14 = .ok (.invokespecial 222, 3) := by decide +kernel
theorem dX6_needWithin_17 : decode cX6_needWithin 17 = .ok (.athrow, 1) := by decide +kernel
theorem dX6_needWithin_18 : decode cX6_needWithin 18 = .ok (.return_, 1) := by decide +kernel
theorem dX6_isWithin_0 : decode cX6_isWithin 0 = .ok (.iload_n 0, 1) := by decide +kernel
theorem dX6_isWithin_1 : decode cX6_isWithin 1 = .ok (.ifCond .lt 12, 3) := by decide +kernel
theorem dX6_isWithin_4 : decode cX6_isWithin 4 = .ok (.iload_n 0, 1) := by decide +kernel
theorem dX6_isWithin_5 : decode cX6_isWithin 5 = .ok (.iload_n 1, 1) := by decide +kernel
theorem dX6_isWithin_6 : decode cX6_isWithin 6 = .ok (.if_icmp .ge 7, 3) := by decide +kernel
theorem dX6_isWithin_9 : decode cX6_isWithin 9 = .ok (.iconst 1, 1) := by decide +kernel
theorem dX6_isWithin_10 : decode cX6_isWithin 10 = .ok (.goto 4, 3) := by decide +kernel
theorem dX6_isWithin_13 : decode cX6_isWithin 13 = .ok (.iconst 0, 1) := by decide +kernel
theorem dX6_isWithin_14 : decode cX6_isWithin 14 = .ok (.ireturn, 1) := by decide +kernel
set_option maxRecDepth 20000 in
theorem ggX6_canBeMade_X6_isWithin : GoodIn wsX6_canBeMade wsX6_isWithin := goodIn_r _ [5] (by decide +kernel) (by decide +kernel)
set_option maxRecDepth 20000 in
theorem gX6_canBeMade_X6_isWithin : GoodIn wsX6_canBeMade (va_wsS RX6 95 yX6_isWithin wsX6_isWithin) := goodIn_app (goodIn_of _ (by decide +kernel)) ggX6_canBeMade_X6_isWithin
theorem dX6_canBeMade_0 : decode cX6_canBeMade 0 = .ok (.iload_n 0, 1) := by decide +kernel
theorem dX6_canBeMade_1 : decode cX6_canBeMade 1 = .ok (.lookupswitch 78 #[(0, 35), (5, 52), (7, 35)], 35) := by decide +kernel
theorem dX6_canBeMade_36 : decode cX6_canBeMade 36 = .ok (.iload_n 1, 1) := by decide +kernel
theorem dX6_canBeMade_37 : decode cX6_canBeMade 37 = .ok (.iconst 1, 1) := by decide +kernel
theorem dX6_canBeMade_38 : decode cX6_canBeMade 38 = .ok (.if_icmp .lt 13, 3) := by decide +kernel
theorem dX6_canBeMade_41 : decode cX6_canBeMade 41 = .ok (.iload_n 1, 1) := by decide +kernel
theorem dX6_canBeMade_42 : decode cX6_canBeMade 42 = .ok (.bipush 16, 2) := by decide +kernel
theorem dX6_canBeMade_44 : decode cX6_canBeMade 44 = .ok (.if_icmp .gt 7, 3) := by decide +kernel
theorem dX6_canBeMade_47 : decode cX6_canBeMade 47 = .ok (.iconst 1, 1) := by decide +kernel
theorem dX6_canBeMade_48 : decode cX6_canBeMade 48 = .ok (.goto 4, 3) := by decide +kernel
theorem dX6_canBeMade_51 : decode cX6_canBeMade 51 = .ok (.iconst 0, 1) := by decide +kernel
theorem dX6_canBeMade_52 : decode cX6_canBeMade 52 = .ok (.ireturn, 1) := by decide +kernel
theorem dX6_canBeMade_53 : decode cX6_canBeMade 53 = .ok (.iload_n 1, 1) := by decide +kernel
theorem dX6_canBeMade_54 : decode cX6_canBeMade 54 = .ok (.bipush 40, 2) := by decide +kernel
theorem dX6_canBeMade_56 : decode cX6_canBeMade 56 = .ok (.invokestatic 95, 3) := by decide +kernel
theorem dX6_canBeMade_59 : decode cX6_canBeMade 59 = .ok (.ifCond .eq 18, 3) := by decide +kernel
theorem dX6_canBeMade_62 : decode cX6_canBeMade 62 = .ok (.iload_n 2, 1) := by decide +kernel
theorem dX6_canBeMade_63 : decode cX6_canBeMade 63 = .ok (.iconst 1, 1) := by decide +kernel
theorem dX6_canBeMade_64 : decode cX6_canBeMade 64 = .ok (.if_icmp .lt 13, 3) := by decide +kernel
theorem dX6_canBeMade_67 : decode cX6_canBeMade 67 = .ok (.iload_n 2, 1) := by decide +kernel
theorem dX6_canBeMade_68 : decode cX6_canBeMade 68 = .ok (.bipush 16, 2) := by decide +kernel
theorem dX6_canBeMade_70 : decode cX6_canBeMade 70 = .ok (.if_icmp .gt 7, 3) := by decide +kernel
theorem dX6_canBeMade_73 : decode cX6_canBeMade 73 = .ok (.iconst 1, 1) := by decide +kernel
theorem dX6_canBeMade_74 : decode cX6_canBeMade 74 = .ok (.goto 4, 3) := by decide +kernel
theorem dX6_canBeMade_77 : decode cX6_canBeMade 77 = .ok (.iconst 0, 1) := by decide +kernel
theorem dX6_canBeMade_78 : decode cX6_canBeMade 78 = .ok (.ireturn, 1) := by decide +kernel
theorem dX6_canBeMade_79 : decode cX6_canBeMade 79 = .ok (.iload_n 0, 1) := by decide +kernel
theorem dX6_canBeMade_80 : decode cX6_canBeMade 80 = .ok (.getstatic 223, 3) := by decide +kernel
theorem dX6_canBeMade_83 : decode cX6_canBeMade 83 = .ok (.arraylength, 1) := by decide +kernel
theorem dX6_canBeMade_84 : decode cX6_canBeMade 84 = .ok (.invokestatic 95, 3) := by decide +kernel
theorem dX6_canBeMade_87 : decode cX6_canBeMade 87 = .ok (.ireturn, 1) := by decide +kernel
theorem dX6_setOf_0 : decode cX6_setOf 0 = .ok (.iload_n 0, 1) := by decide +kernel
theorem dX6_setOf_1 : decode cX6_setOf 1 = .ok (.iconst (-1), 1) := by decide +kernel
theorem dX6_setOf_2 : decode cX6_setOf 2 = .ok (.if_icmp .ne 7, 3) := by decide +kernel
theorem dX6_setOf_5 : decode cX6_setOf 5 = .ok (.iconst 0, 1) := by decide +kernel
theorem dX6_setOf_6 : decode cX6_setOf 6 = .ok (.goto 6, 3) := by decide +kernel
theorem dX6_setOf_9 : decode cX6_setOf 9 = .ok (.iconst 1, 1) := by decide +kernel
theorem dX6_setOf_10 : decode cX6_setOf 10 = .ok (.iload_n 0, 1) := by decide +kernel
theorem dX6_setOf_11 : decode cX6_setOf 11 = .ok (.ishl, 1) := by decide +kernel
theorem dX6_setOf_12 : decode cX6_setOf 12 = .ok (.ireturn, 1) := by decide +kernel
theorem dX6_contains_0 : decode cX6_contains 0 = .ok (.iload_n 0, 1) := by decide +kernel
theorem dX6_contains_1 : decode cX6_contains 1 = .ok (.iload_n 1, 1) := by decide +kernel
theorem dX6_contains_2 : decode cX6_contains 2 = .ok (.ishr, 1) := by decide +kernel
theorem dX6_contains_3 : decode cX6_contains 3 = .ok (.iconst 1, 1) := by decide +kernel
theorem dX6_contains_4 : decode cX6_contains 4 = .ok (.iand, 1) := by decide +kernel
theorem dX6_contains_5 : decode cX6_contains 5 = .ok (.ifCond .eq 7, 3) := by decide +kernel
theorem dX6_contains_8 : decode cX6_contains 8 = .ok (.iconst 1, 1) := by decide +kernel
theorem dX6_contains_9 : decode cX6_contains 9 = .ok (.goto 4, 3) := by decide +kernel
theorem dX6_contains_12 : decode cX6_contains 12 = .ok (.iconst 0, 1) := by decide +kernel
theorem dX6_contains_13 : decode cX6_contains 13 = .ok (.ireturn, 1) := by decide +kernel
theorem dX6_isPartOf_0 : decode cX6_isPartOf 0 = .ok (.iload_n 0, 1) := by decide +kernel
theorem dX6_isPartOf_1 : decode cX6_isPartOf 1 = .ok (.iload_n 1, 1) := by decide +kernel
theorem dX6_isPartOf_2 : decode cX6_isPartOf 2 = .ok (.iconst (-1), 1) := by decide +kernel
theorem dX6_isPartOf_3 : decode cX6_isPartOf 3 = .ok (.ixor, 1) := by decide +kernel
theorem dX6_isPartOf_4 : decode cX6_isPartOf 4 = .ok (.iand, 1) := by decide +kernel
theorem dX6_isPartOf_5 : decode cX6_isPartOf 5 = .ok (.ifCond .ne 7, 3) := by decide +kernel
theorem dX6_isPartOf_8 : decode cX6_isPartOf 8 = .ok (.iconst 1, 1) := by decide +kernel
theorem dX6_isPartOf_9 : decode cX6_isPartOf 9 = .ok (.goto 4, 3) := by decide +kernel
theorem dX6_isPartOf_12 : decode cX6_isPartOf 12 = .ok (.iconst 0, 1) := by decide +kernel
theorem dX6_isPartOf_13 : decode cX6_isPartOf 13 = .ok (.ireturn, 1) := by decide +kernel
end
section
theorem dX7_init_0 : decode cX7_init 0 = .ok (.aload_n 0, 1) := by decide +kernel
theorem dX7_init_1 : decode cX7_init 1 = .ok (.invokespecial 1, 3) := by decide +kernel
theorem dX7_init_4 : decode cX7_init 4 = .ok (.aload_n 0, 1) := by decide +kernel
theorem dX7_init_5 : decode cX7_init 5 = .ok (.bipush 12, 2) := by decide +kernel
theorem dX7_init_7 : decode cX7_init 7 = .ok (.newarray .int, 2) := by decide +kernel
theorem dX7_init_9 : decode cX7_init 9 = .ok (.putfield 7, 3) := by decide +kernel
theorem dX7_init_12 : decode cX7_init 12 = .ok (.aload_n 0, 1) := by decide +kernel
theorem dX7_init_13 : decode cX7_init 13 = .ok (.bipush 12, 2) := by decide +kernel
theorem dX7_init_15 : decode cX7_init 15 = .ok (.newarray .int, 2) := by decide +kernel
theorem dX7_init_17 : decode cX7_init 17 = .ok (.putfield 13, 3) := by decide +kernel
theorem dX7_init_20 : decode cX7_init 20 = .ok (.aload_n 0, 1) := by decide +kernel
theorem dX7_init_21 : decode cX7_init 21 = .ok (.bipush 12, 2) := by decide +kernel
theorem dX7_init_23 : decode cX7_init 23 = .ok (.newarray .int, 2) := by decide +kernel
theorem dX7_init_25 : decode cX7_init 25 = .ok (.putfield 16, 3) := by decide +kernel
theorem dX7_init_28 : decode cX7_init 28 = .ok (.aload_n 0, 1) := by decide +kernel
theorem dX7_init_29 : decode cX7_init 29 = .ok (.bipush 24, 2) := by decide +kernel
theorem dX7_init_31 : decode cX7_init 31 = .ok (.newarray .int, 2) := by decide +kernel
theorem dX7_init_33 : decode cX7_init 33 = .ok (.putfield 19, 3) := by decide +kernel
theorem dX7_init_36 : decode cX7_init 36 = .ok (.aload_n 0, 1) := by decide +kernel
theorem dX7_init_37 : decode cX7_init 37 = .ok (.bipush 12, 2) := by decide +kernel
theorem dX7_init_39 : decode cX7_init 39 = .ok (.newarray .boolean, 2) := by decide +kernel
theorem dX7_init_41 : decode cX7_init 41 = .ok (.putfield 22, 3) := by decide +kernel
theorem dX7_init_44 : decode cX7_init 44 = .ok (.aload_n 0, 1) := by decide +kernel
theorem dX7_init_45 : decode cX7_init 45 = .ok (.sipush 192, 3) := by decide +kernel
theorem dX7_init_48 : decode cX7_init 48 = .ok (.newarray .int, 2) := by decide +kernel
theorem dX7_init_50 : decode cX7_init 50 = .ok (.putfield 26, 3) := by decide +kernel
theorem dX7_init_53 : decode cX7_init 53 = .ok (.aload_n 0, 1) := by decide +kernel
theorem dX7_init_54 : decode cX7_init 54 = .ok (.bipush 12, 2) := by decide +kernel
theorem dX7_init_56 : decode cX7_init 56 = .ok (.newarray .int, 2) := by decide +kernel
theorem dX7_init_58 : decode cX7_init 58 = .ok (.putfield 29, 3) := by decide +kernel
theorem dX7_init_61 : decode cX7_init 61 = .ok (.aload_n 0, 1) := by decide +kernel
theorem dX7_init_62 : decode cX7_init 62 = .ok (.bipush 12, 2) := by decide +kernel
theorem dX7_init_64 : decode cX7_init 64 = .ok (.newarray .int, 2) := by decide +kernel
theorem dX7_init_66 : decode cX7_init 66 = .ok (.putfield 32, 3) := by decide +kernel
theorem dX7_init_69 : decode cX7_init 69 = .ok (.aload_n 0, 1) := by decide +kernel
theorem dX7_init_70 : decode cX7_init 70 = .ok (.bipush 12, 2) := by decide +kernel
theorem dX7_init_72 : decode cX7_init 72 = .ok (.newarray .int, 2) := by decide +kernel
theorem dX7_init_74 : decode cX7_init 74 = .ok (.putfield 35, 3) := by decide +kernel
theorem dX7_init_77 : decode cX7_init 77 = .ok (.aload_n 0, 1) := by decide +kernel
theorem dX7_init_78 : decode cX7_init 78 = .ok (.bipush 12, 2) := by decide +kernel
theorem dX7_init_80 : decode cX7_init 80 = .ok (.newarray .int, 2) := by decide +kernel
theorem dX7_init_82 : decode cX7_init 82 = .ok (.putfield 38, 3) := by decide +kernel
theorem dX7_init_85 : decode cX7_init 85 = .ok (.aload_n 0, 1) := by decide +kernel
theorem dX7_init_86 : decode cX7_init 86 = .ok (.bipush 12, 2) := by decide +kernel
theorem dX7_init_88 : decode cX7_init 88 = .ok (.newarray .int, 2) := by decide +kernel
theorem dX7_init_90 : decode cX7_init 90 = .ok (.putfield 41, 3) := by decide +kernel
theorem dX7_init_93 : decode cX7_init 93 = .ok (.aload_n 0, 1) := by decide +kernel
theorem dX7_init_94 : decode cX7_init 94 = .ok (.bipush 12, 2) := by decide +kernel
theorem dX7_init_96 : decode cX7_init 96 = .ok (.newarray .int, 2) := by decide +kernel
theorem dX7_init_98 : decode cX7_init 98 = .ok (.putfield 44, 3) := by decide +kernel
theorem dX7_init_101 : decode cX7_init 101 = .ok (.aload_n 0, 1) := by decide +kernel
theorem dX7_init_102 : decode cX7_init 102 = .ok (.bipush 12, 2) := by decide +kernel
theorem dX7_init_104 : decode cX7_init 104 = .ok (.newarray .int, 2) := by decide +kernel
theorem dX7_init_106 : decode cX7_init 106 = .ok (.putfield 47, 3) := by decide +kernel
theorem dX7_init_109 : decode cX7_init 109 = .ok (.aload_n 0, 1) := by decide +kernel
theorem dX7_init_110 : decode cX7_init 110 = .ok (.bipush 12, 2) := by decide +kernel
theorem dX7_init_112 : decode cX7_init 112 = .ok (.newarray .int, 2) := by decide +kernel
theorem dX7_init_114 : decode cX7_init 114 = .ok (.putfield 50, 3) := by decide +kernel
theorem dX7_init_117 : decode cX7_init 117 = .ok (.aload_n 0, 1) := by decide +kernel
theorem dX7_init_118 : decode cX7_init 118 = .ok (.bipush 12, 2) := by decide +kernel
theorem dX7_init_120 : decode cX7_init 120 = .ok (.newarray .int, 2) := by decide +kernel
theorem dX7_init_122 : decode cX7_init 122 = .ok (.putfield 53, 3) := by decide +kernel
theorem dX7_init_125 : decode cX7_init 125 = .ok (.aload_n 0, 1) := by decide +kernel
theorem dX7_init_126 : decode cX7_init 126 = .ok (.bipush 12, 2) := by decide +kernel
theorem dX7_init_128 : decode cX7_init 128 = .ok (.newarray .boolean, 2) := by decide +kernel
theorem dX7_init_130 : decode cX7_init 130 = .ok (.putfield 56, 3) := by decide +kernel
theorem dX7_init_133 : decode cX7_init 133 = .ok (.aload_n 0, 1) := by decide +kernel
theorem dX7_init_134 : decode cX7_init 134 = .ok (.bipush 24, 2) := by decide +kernel
theorem dX7_init_136 : decode cX7_init 136 = .ok (.newarray .int, 2) := by decide +kernel
theorem dX7_init_138 : decode cX7_init 138 = .ok (.putfield 59, 3) := by decide +kernel
theorem dX7_init_141 : decode cX7_init 141 = .ok (.aload_n 0, 1) := by decide +kernel
theorem dX7_init_142 : decode cX7_init 142 = .ok (.sipush 4096, 3) := by decide +kernel
theorem dX7_init_145 : decode cX7_init 145 = .ok (.newarray .int, 2) := by decide +kernel
theorem dX7_init_147 : decode cX7_init 147 = .ok (.putfield 62, 3) := by decide +kernel
theorem dX7_init_150 : decode cX7_init 150 = .ok (.aload_n 0, 1) := by decide +kernel
theorem dX7_init_151 : decode cX7_init 151 = .ok (.sipush 480, 3) := by decide +kernel
theorem dX7_init_154 : decode cX7_init 154 = .ok (.newarray .int, 2) := by decide +kernel
theorem dX7_init_156 : decode cX7_init 156 = .ok (.putfield 65, 3) := by decide +kernel
theorem dX7_init_159 : decode cX7_init 159 = .ok (.aload_n 0, 1) := by decide +kernel
theorem dX7_init_160 : decode cX7_init 160 = .ok (.sipush 480, 3) := by decide +kernel
theorem dX7_init_163 : decode cX7_init 163 = .ok (.newarray .int, 2) := by decide +kernel
theorem dX7_init_165 : decode cX7_init 165 = .ok (.putfield 68, 3) := by decide +kernel
theorem dX7_init_168 : decode cX7_init 168 = .ok (.return_, 1) := by decide +kernel
theorem dX7_thrown_0 : decode cX7_thrown 0 = .ok (.aload_n 0, 1) := by decide +kernel
theorem dX7_thrown_1 : decode cX7_thrown 1 = .ok (.getfield 71, 3) := by decide +kernel
theorem dX7_thrown_4 : decode cX7_thrown 4 = .ok (.ireturn, 1) := by decide +kernel
theorem dX7_fail_0 : decode cX7_fail 0 = .ok (.aload_n 0, 1) := by decide +kernel
theorem dX7_fail_1 : decode cX7_fail 1 = .ok (.iload_n 1, 1) := by decide +kernel
theorem dX7_fail_2 : decode cX7_fail 2 = .ok (.putfield 71, 3) := by decide +kernel
theorem dX7_fail_5 : decode cX7_fail 5 = .ok (.iconst 0, 1) := by decide +kernel
theorem dX7_fail_6 : decode cX7_fail 6 = .ok (.ireturn, 1) := by decide +kernel
theorem dX7_inputs_0 : decode cX7_inputs 0 = .ok (.iload_n 0, 1) := by decide +kernel
theorem dX7_inputs_1 : decode cX7_inputs 1 = .ok (.ifCond .ne 7, 3) := by decide +kernel
theorem dX7_inputs_4 : decode cX7_inputs 4 = .ok (.iconst 0, 1) := by decide +kernel
theorem dX7_inputs_5 : decode cX7_inputs 5 = .ok (.goto 23, 3) := by decide +kernel
theorem dX7_inputs_8 : decode cX7_inputs 8 = .ok (.iload_n 0, 1) := by decide +kernel
theorem dX7_inputs_9 : decode cX7_inputs 9 = .ok (.iconst 2, 1) := by decide +kernel
theorem dX7_inputs_10 : decode cX7_inputs 10 = .ok (.if_icmp .eq 13, 3) := by decide +kernel
theorem dX7_inputs_13 : decode cX7_inputs 13 = .ok (.iload_n 0, 1) := by decide +kernel
theorem dX7_inputs_14 : decode cX7_inputs 14 = .ok (.iconst 3, 1) := by decide +kernel
theorem dX7_inputs_15 : decode cX7_inputs 15 = .ok (.if_icmp .eq 8, 3) := by decide +kernel
theorem dX7_inputs_18 : decode cX7_inputs 18 = .ok (.iload_n 0, 1) := by decide +kernel
theorem dX7_inputs_19 : decode cX7_inputs 19 = .ok (.iconst 4, 1) := by decide +kernel
theorem dX7_inputs_20 : decode cX7_inputs 20 = .ok (.if_icmp .ne 7, 3) := by decide +kernel
theorem dX7_inputs_23 : decode cX7_inputs 23 = .ok (.iconst 2, 1) := by decide +kernel
theorem dX7_inputs_24 : decode cX7_inputs 24 = .ok (.goto 4, 3) := by decide +kernel
theorem dX7_inputs_27 : decode cX7_inputs 27 = .ok (.iconst 1, 1) := by decide +kernel
theorem dX7_inputs_28 : decode cX7_inputs 28 = .ok (.ireturn, 1) := by decide +kernel
theorem dX7_isNode_0 : decode cX7_isNode 0 = .ok (.iload_n 1, 1) := by decide +kernel
theorem dX7_isNode_1 : decode cX7_isNode 1 = .ok (.ifCond .lt 15, 3) := by decide +kernel
theorem dX7_isNode_4 : decode cX7_isNode 4 = .ok (.iload_n 1, 1) := by decide +kernel
theorem dX7_isNode_5 : decode cX7_isNode 5 = .ok (.aload_n 0, 1) := by decide +kernel
theorem dX7_isNode_6 : decode cX7_isNode 6 = .ok (.getfield 75, 3) := by decide +kernel
theorem dX7_isNode_9 : decode cX7_isNode 9 = .ok (.if_icmp .ge 7, 3) := by decide +kernel
theorem dX7_isNode_12 : decode cX7_isNode 12 = .ok (.iconst 1, 1) := by decide +kernel
theorem dX7_isNode_13 : decode cX7_isNode 13 = .ok (.goto 4, 3) := by decide +kernel
theorem dX7_isNode_16 : decode cX7_isNode 16 = .ok (.iconst 0, 1) := by decide +kernel
theorem dX7_isNode_17 : decode cX7_isNode 17 = .ok (.ireturn, 1) := by decide +kernel
theorem dX7_within_0 : decode cX7_within 0 = .ok (.iload_n 0, 1) := by decide +kernel
theorem dX7_within_1 : decode cX7_within 1 = .ok (.iload_n 1, 1) := by decide +kernel
theorem dX7_within_2 : decode cX7_within 2 = .ok (.if_icmp .lt 12, 3) := by decide +kernel
theorem dX7_within_5 : decode cX7_within 5 = .ok (.iload_n 0, 1) := by decide +kernel
theorem dX7_within_6 : decode cX7_within 6 = .ok (.iload_n 2, 1) := by decide +kernel
theorem dX7_within_7 : decode cX7_within 7 = .ok (.if_icmp .gt 7, 3) := by decide +kernel
theorem dX7_within_10 : decode cX7_within 10 = .ok (.iconst 1, 1) := by decide +kernel
theorem dX7_within_11 : decode cX7_within 11 = .ok (.goto 4, 3) := by decide +kernel
theorem dX7_within_14 : decode cX7_within 14 = .ok (.iconst 0, 1) := by decide +kernel
theorem dX7_within_15 : decode cX7_within 15 = .ok (.ireturn, 1) := by decide +kernel
set_option maxRecDepth 20000 in
theorem ggX7_make_X7_within : GoodIn wsX7_make wsX7_within := goodIn_r _ [13] (by decide +kernel) (by decide +kernel)
set_option maxRecDepth 20000 in
theorem gX7_make_X7_within : GoodIn wsX7_make (va_wsS RX7 78 yX7_within wsX7_within) := goodIn_app (goodIn_of _ (by decide +kernel)) ggX7_make_X7_within
set_option maxRecDepth 20000 in
theorem ggX7_make_X7_fail : GoodIn wsX7_make wsX7_fail := goodIn_r _ [17, 1, 18, 19, 20, 21, 22, 23, 24, 25, 26, 27, 28, 29, 30, 31, 32, 33, 34, 35, 36, 37, 38, 39, 40, 41, 42, 43, 44, 45, 46, 47] (by decide +kernel) (by decide +kernel)
set_option maxRecDepth 20000 in
theorem gX7_make_X7_fail : GoodIn wsX7_make (wsV RX7 82 RX7 yX7_fail wsX7_fail) := goodIn_app (goodIn_of _ (by decide +kernel)) ggX7_make_X7_fail
theorem dX7_make_0 : decode cX7_make 0 = .ok (.aload_n 0, 1) := by decide +kernel
theorem dX7_make_1 : decode cX7_make 1 = .ok (.iconst 0, 1) := by decide +kernel
theorem dX7_make_2 : decode cX7_make 2 = .ok (.putfield 71, 3) := by decide +kernel
theorem dX7_make_5 : decode cX7_make 5 = .ok (.iload_n 1, 1) := by decide +kernel
theorem dX7_make_6 : decode cX7_make 6 = .ok (.iconst 0, 1) := by decide +kernel
theorem dX7_make_7 : decode cX7_make 7 = .ok (.bipush 7, 2) := by decide +kernel
theorem dX7_make_9 : decode cX7_make 9 = .ok (.invokestatic 78, 3) := by decide +kernel
theorem dX7_make_12 : decode cX7_make 12 = .ok (.ifCond .eq 52, 3) := by decide +kernel
theorem dX7_make_15 : decode cX7_make 15 = .ok (.iload_n 1, 1) := by decide +kernel
theorem dX7_make_16 : decode cX7_make 16 = .ok (.ifCond .eq 9, 3) := by decide +kernel
theorem dX7_make_19 : decode cX7_make 19 = .ok (.iload_n 1, 1) := by decide +kernel
theorem dX7_make_20 : decode cX7_make 20 = .ok (.bipush 7, 2) := by decide +kernel
theorem dX7_make_22 : decode cX7_make 22 = .ok (.if_icmp .ne 13, 3) := by decide +kernel
theorem dX7_make_25 : decode cX7_make 25 = .ok (.iload_n 2, 1) := by decide +kernel
theorem dX7_make_26 : decode cX7_make 26 = .ok (.iconst 1, 1) := by decide +kernel
theorem dX7_make_27 : decode cX7_make 27 = .ok (.bipush 16, 2) := by decide +kernel
theorem dX7_make_29 : decode cX7_make 29 = .ok (.invokestatic 78, 3) := by decide +kernel
theorem dX7_make_32 : decode cX7_make 32 = .ok (.ifCond .eq 32, 3) := by decide +kernel
theorem dX7_make_35 : decode cX7_make 35 = .ok (.iload_n 1, 1) := by decide +kernel
theorem dX7_make_36 : decode cX7_make 36 = .ok (.iconst 5, 1) := by decide +kernel
theorem dX7_make_37 : decode cX7_make 37 = .ok (.if_icmp .ne 23, 3) := by decide +kernel
theorem dX7_make_40 : decode cX7_make 40 = .ok (.iload_n 2, 1) := by decide +kernel
theorem dX7_make_41 : decode cX7_make 41 = .ok (.iconst 0, 1) := by decide +kernel
theorem dX7_make_42 : decode cX7_make 42 = .ok (.bipush 39, 2) := by decide +kernel
theorem dX7_make_44 : decode cX7_make 44 = .ok (.invokestatic 78, 3) := by decide +kernel
theorem dX7_make_47 : decode cX7_make 47 = .ok (.ifCond .eq 17, 3) := by decide +kernel
theorem dX7_make_50 : decode cX7_make 50 = .ok (.iload_n 3, 1) := by decide +kernel
theorem dX7_make_51 : decode cX7_make 51 = .ok (.iconst 1, 1) := by decide +kernel
theorem dX7_make_52 : decode cX7_make 52 = .ok (.bipush 16, 2) := by decide +kernel
theorem dX7_make_54 : decode cX7_make 54 = .ok (.invokestatic 78, 3) := by decide +kernel
theorem dX7_make_57 : decode cX7_make 57 = .ok (.ifCond .eq 7, 3) := by decide +kernel
theorem dX7_make_60 : decode cX7_make 60 = .ok (.iconst 1, 1) := by decide +kernel
theorem dX7_make_61 : decode cX7_make 61 = .ok (.goto 4, 3) := by decide +kernel
theorem dX7_make_64 : decode cX7_make 64 = .ok (.iconst 0, 1) := by decide +kernel
theorem dX7_make_65 : decode cX7_make 65 = .ok (.istore 4, 2) := by decide +kernel
theorem dX7_make_67 : decode cX7_make 67 = .ok (.iload 4, 2) := by decide +kernel
theorem dX7_make_69 : decode cX7_make 69 = .ok (.ifCond .eq 12, 3) := by decide +kernel
theorem dX7_make_72 : decode cX7_make 72 = .ok (.aload_n 0, 1) := by decide +kernel
theorem dX7_make_73 : decode cX7_make 73 = .ok (.getfield 75, 3) := by decide +kernel
theorem dX7_make_76 : decode cX7_make 76 = .ok (.bipush 12, 2) := by decide +kernel
theorem dX7_make_78 : decode cX7_make 78 = .ok (.if_icmp .ne 18, 3) := by decide +kernel
theorem dX7_make_81 : decode cX7_make 81 = .ok (.aload_n 0, 1) := by decide +kernel
theorem dX7_make_82 : decode cX7_make 82 = .ok (.iload 4, 2) := by decide +kernel
theorem dX7_make_84 : decode cX7_make 84 = .ok (.ifCond .eq 7, 3) := by decide +kernel
theorem dX7_make_87 : decode cX7_make 87 = .ok (.iconst 2, 1) := by decide +kernel
theorem dX7_make_88 : decode cX7_make 88 = .ok (.goto 4, 3) := by decide +kernel
theorem dX7_make_91 : decode cX7_make 91 = .ok (.iconst 1, 1) := by decide +kernel
theorem dX7_make_92 : decode cX7_make 92 = .ok (.invokevirtual 82, 3) := by decide +kernel
theorem dX7_make_95 : decode cX7_make 95 = .ok (.ireturn, 1) := by decide +kernel
theorem dX7_make_96 : decode cX7_make 96 = .ok (.aload_n 0, 1) := by decide +kernel
theorem dX7_make_97 : decode cX7_make 97 = .ok (.getfield 7, 3) := by decide +kernel
theorem dX7_make_100 : decode cX7_make 100 = .ok (.aload_n 0, 1) := by decide +kernel
theorem dX7_make_101 : decode cX7_make 101 = .ok (.getfield 75, 3) := by decide +kernel
theorem dX7_make_104 : decode cX7_make 104 = .ok (.iload_n 1, 1) := by decide +kernel
theorem dX7_make_105 : decode cX7_make 105 = .ok (.iastore, 1) := by decide +kernel
theorem dX7_make_106 : decode cX7_make 106 = .ok (.aload_n 0, 1) := by decide +kernel
theorem dX7_make_107 : decode cX7_make 107 = .ok (.getfield 13, 3) := by decide +kernel
theorem dX7_make_110 : decode cX7_make 110 = .ok (.aload_n 0, 1) := by decide +kernel
theorem dX7_make_111 : decode cX7_make 111 = .ok (.getfield 75, 3) := by decide +kernel
theorem dX7_make_114 : decode cX7_make 114 = .ok (.iload_n 2, 1) := by decide +kernel
theorem dX7_make_115 : decode cX7_make 115 = .ok (.iastore, 1) := by decide +kernel
theorem dX7_make_116 : decode cX7_make 116 = .ok (.aload_n 0, 1) := by decide +kernel
theorem dX7_make_117 : decode cX7_make 117 = .ok (.getfield 16, 3) := by decide +kernel
theorem dX7_make_120 : decode cX7_make 120 = .ok (.aload_n 0, 1) := by decide +kernel
theorem dX7_make_121 : decode cX7_make 121 = .ok (.getfield 75, 3) := by decide +kernel
theorem dX7_make_124 : decode cX7_make 124 = .ok (.iload_n 3, 1) := by decide +kernel
theorem dX7_make_125 : decode cX7_make 125 = .ok (.iastore, 1) := by decide +kernel
theorem dX7_make_126 : decode cX7_make 126 = .ok (.aload_n 0, 1) := by decide +kernel
theorem dX7_make_127 : decode cX7_make 127 = .ok (.getfield 19, 3) := by decide +kernel
theorem dX7_make_130 : decode cX7_make 130 = .ok (.iconst 2, 1) := by decide +kernel
theorem dX7_make_131 : decode cX7_make 131 = .ok (.aload_n 0, 1) := by decide +kernel
theorem dX7_make_132 : decode cX7_make 132 = .ok (.getfield 75, 3) := by decide +kernel
theorem dX7_make_135 : decode cX7_make 135 = .ok (.imul, 1) := by decide +kernel
theorem dX7_make_136 : decode cX7_make 136 = .ok (.iconst (-1), 1) := by decide +kernel
theorem dX7_make_137 : decode cX7_make 137 = .ok (.iastore, 1) := by decide +kernel
theorem dX7_make_138 : decode cX7_make 138 = .ok (.aload_n 0, 1) := by decide +kernel
theorem dX7_make_139 : decode cX7_make 139 = .ok (.getfield 19, 3) := by decide +kernel
theorem dX7_make_142 : decode cX7_make 142 = .ok (.iconst 2, 1) := by decide +kernel
theorem dX7_make_143 : decode cX7_make 143 = .ok (.aload_n 0, 1) := by decide +kernel
theorem dX7_make_144 : decode cX7_make 144 = .ok (.getfield 75, 3) := by decide +kernel
theorem dX7_make_147 : decode cX7_make 147 = .ok (.imul, 1) := by decide +kernel
theorem dX7_make_148 : decode cX7_make 148 = .ok (.iconst 1, 1) := by decide +kernel
theorem dX7_make_149 : decode cX7_make 149 = .ok (.iadd, 1) := by decide +kernel
theorem dX7_make_150 : decode cX7_make 150 = .ok (.iconst (-1), 1) := by decide +kernel
theorem dX7_make_151 : decode cX7_make 151 = .ok (.iastore, 1) := by decide +kernel
theorem dX7_make_152 : decode cX7_make 152 = .ok (.aload_n 0, 1) := by decide +kernel
theorem dX7_make_153 : decode cX7_make 153 = .ok (.getfield 22, 3) := by decide +kernel
theorem dX7_make_156 : decode cX7_make 156 = .ok (.aload_n 0, 1) := by decide +kernel
theorem dX7_make_157 : decode cX7_make 157 = .ok (.getfield 75, 3) := by decide +kernel
theorem dX7_make_160 : decode cX7_make 160 = .ok (.iconst 0, 1) := by decide +kernel
theorem dX7_make_161 : decode cX7_make 161 = .ok (.bastore, 1) := by decide +kernel
theorem dX7_make_162 : decode cX7_make 162 = .ok (.iconst 0, 1) := by decide +kernel
theorem dX7_make_163 : decode cX7_make 163 = .ok (.istore 5, 2) := by decide +kernel
theorem dX7_make_165 : decode cX7_make 165 = .ok (.iload 5, 2) := by decide +kernel
theorem dX7_make_167 : decode cX7_make 167 = .ok (.bipush 16, 2) := by decide +kernel
theorem dX7_make_169 : decode cX7_make 169 = .ok (.if_icmp .ge 25, 3) := by decide +kernel
theorem dX7_make_172 : decode cX7_make 172 = .ok (.aload_n 0, 1) := by decide +kernel
theorem dX7_make_173 : decode cX7_make 173 = .ok (.getfield 26, 3) := by decide +kernel
theorem dX7_make_176 : decode cX7_make 176 = .ok (.bipush 16, 2) := by decide +kernel
theorem dX7_make_178 : decode cX7_make 178 = .ok (.aload_n 0, 1) := by decide +kernel
theorem dX7_make_179 : decode cX7_make 179 = .ok (.getfield 75, 3) := by decide +kernel
theorem dX7_make_182 : decode cX7_make 182 = .ok (.imul, 1) := by decide +kernel
theorem dX7_make_183 : decode cX7_make 183 = .ok (.iload 5, 2) := by decide +kernel
theorem dX7_make_185 : decode cX7_make 185 = .ok (.iadd, 1) := by decide +kernel
theorem dX7_make_186 : decode cX7_make 186 = .ok (.iconst 0, 1) := by decide +kernel
theorem dX7_make_187 : decode cX7_make 187 = .ok (.iastore, 1) := by decide +kernel
theorem dX7_make_188 : decode cX7_make 188 = .ok (.iinc 5 1, 3) := by decide +kernel
theorem dX7_make_191 : decode cX7_make 191 = .ok (.goto (-26), 3) := by decide +kernel
theorem dX7_make_194 : decode cX7_make 194 = .ok (.aload_n 0, 1) := by decide +kernel
theorem dX7_make_195 : decode cX7_make 195 = .ok (.dup, 1) := by decide +kernel
theorem dX7_make_196 : decode cX7_make 196 = .ok (.getfield 75, 3) := by decide +kernel
theorem dX7_make_199 : decode cX7_make 199 = .ok (.iconst 1, 1) := by decide +kernel
theorem dX7_make_200 : decode cX7_make 200 = .ok (.iadd, 1) := by decide +kernel
theorem dX7_make_201 : decode cX7_make 201 = .ok (.putfield 75, 3) := by decide +kernel
theorem dX7_make_204 : decode cX7_make 204 = .ok (.aload_n 0, 1) := by decide +kernel
theorem dX7_make_205 : decode cX7_make 205 = .ok (.iconst 0, 1) := by decide +kernel
theorem dX7_make_206 : decode cX7_make 206 = .ok (.putfield 86, 3) := by decide +kernel
theorem dX7_make_209 : decode cX7_make 209 = .ok (.aload_n 0, 1) := by decide +kernel
theorem dX7_make_210 : decode cX7_make 210 = .ok (.getfield 75, 3) := by decide +kernel
theorem dX7_make_213 : decode cX7_make 213 = .ok (.iconst 1, 1) := by decide +kernel
theorem dX7_make_214 : decode cX7_make 214 = .ok (.isub, 1) := by decide +kernel
theorem dX7_make_215 : decode cX7_make 215 = .ok (.ireturn, 1) := by decide +kernel
set_option maxRecDepth 20000 in
theorem ggX7_give_X7_isNode : GoodIn wsX7_give wsX7_isNode := goodIn_r _ [9, 10, 11, 12, 13, 14, 15, 16, 17, 18, 19, 20, 21, 22, 23, 24, 25, 26, 27, 28, 29, 30, 31, 32, 33, 34, 35, 36, 37, 38, 39, 40] (by decide +kernel) (by decide +kernel)
set_option maxRecDepth 20000 in
theorem gX7_give_X7_isNode : GoodIn wsX7_give (wsV RX7 90 RX7 yX7_isNode wsX7_isNode) := goodIn_app (goodIn_of _ (by decide +kernel)) ggX7_give_X7_isNode
theorem dX7_give_0 : decode cX7_give 0 = .ok (.aload_n 0, 1) := by decide +kernel
theorem dX7_give_1 : decode cX7_give 1 = .ok (.iconst 0, 1) := by decide +kernel
theorem dX7_give_2 : decode cX7_give 2 = .ok (.putfield 71, 3) := by decide +kernel
theorem dX7_give_5 : decode cX7_give 5 = .ok (.aload_n 0, 1) := by decide +kernel
theorem dX7_give_6 : decode cX7_give 6 = .ok (.iload_n 1, 1) := by decide +kernel
theorem dX7_give_7 : decode cX7_give 7 = .ok (.invokevirtual 90, 3) := by decide +kernel
theorem dX7_give_10 : decode cX7_give 10 = .ok (.ifCond .eq 26, 3) := by decide +kernel
theorem dX7_give_13 : decode cX7_give 13 = .ok (.aload_n 0, 1) := by decide +kernel
theorem dX7_give_14 : decode cX7_give 14 = .ok (.getfield 7, 3) := by decide +kernel
theorem dX7_give_17 : decode cX7_give 17 = .ok (.iload_n 1, 1) := by decide +kernel
theorem dX7_give_18 : decode cX7_give 18 = .ok (.iaload, 1) := by decide +kernel
theorem dX7_give_19 : decode cX7_give 19 = .ok (.ifCond .ne 17, 3) := by decide +kernel
theorem dX7_give_22 : decode cX7_give 22 = .ok (.iload_n 2, 1) := by decide +kernel
theorem dX7_give_23 : decode cX7_give 23 = .ok (.ifCond .lt 13, 3) := by decide +kernel
theorem dX7_give_26 : decode cX7_give 26 = .ok (.iload_n 2, 1) := by decide +kernel
theorem dX7_give_27 : decode cX7_give 27 = .ok (.aload_n 0, 1) := by decide +kernel
theorem dX7_give_28 : decode cX7_give 28 = .ok (.getfield 13, 3) := by decide +kernel
theorem dX7_give_31 : decode cX7_give 31 = .ok (.iload_n 1, 1) := by decide +kernel
theorem dX7_give_32 : decode cX7_give 32 = .ok (.iaload, 1) := by decide +kernel
theorem dX7_give_33 : decode cX7_give 33 = .ok (.if_icmp .lt 5, 3) := by decide +kernel
theorem dX7_give_36 : decode cX7_give 36 = .ok (.iconst 0, 1) := by decide +kernel
theorem dX7_give_37 : decode cX7_give 37 = .ok (.ireturn, 1) := by decide +kernel
theorem dX7_give_38 : decode cX7_give 38 = .ok (.aload_n 0, 1) := by decide +kernel
theorem dX7_give_39 : decode cX7_give 39 = .ok (.getfield 26, 3) := by decide +kernel
theorem dX7_give_42 : decode cX7_give 42 = .ok (.bipush 16, 2) := by decide +kernel
theorem dX7_give_44 : decode cX7_give 44 = .ok (.iload_n 1, 1) := by decide +kernel
theorem dX7_give_45 : decode cX7_give 45 = .ok (.imul, 1) := by decide +kernel
theorem dX7_give_46 : decode cX7_give 46 = .ok (.iload_n 2, 1) := by decide +kernel
theorem dX7_give_47 : decode cX7_give 47 = .ok (.iadd, 1) := by decide +kernel
theorem dX7_give_48 : decode cX7_give 48 = .ok (.iload_n 3, 1) := by decide +kernel
theorem dX7_give_49 : decode cX7_give 49 = .ok (.iastore, 1) := by decide +kernel
theorem dX7_give_50 : decode cX7_give 50 = .ok (.iconst 1, 1) := by decide +kernel
theorem dX7_give_51 : decode cX7_give 51 = .ok (.ireturn, 1) := by decide +kernel
set_option maxRecDepth 20000 in
theorem ggX7_wire_X7_isNode : GoodIn wsX7_wire wsX7_isNode := goodIn_r _ [10, 3, 14, 15, 16, 17, 18, 19, 20, 21, 22, 23, 24, 25, 26, 27, 28, 29, 30, 31, 32, 33, 34, 35, 36, 37, 38, 39, 40, 41, 42, 43] (by decide +kernel) (by decide +kernel)
set_option maxRecDepth 20000 in
theorem gX7_wire_X7_isNode : GoodIn wsX7_wire (wsV RX7 90 RX7 yX7_isNode wsX7_isNode) := goodIn_app (goodIn_of _ (by decide +kernel)) ggX7_wire_X7_isNode
set_option maxRecDepth 20000 in
theorem ggX7_wire_X7_inputs : GoodIn wsX7_wire wsX7_inputs := goodIn_r _ [13] (by decide +kernel) (by decide +kernel)
set_option maxRecDepth 20000 in
theorem gX7_wire_X7_inputs : GoodIn wsX7_wire (va_wsS RX7 94 yX7_inputs wsX7_inputs) := goodIn_app (goodIn_of _ (by decide +kernel)) ggX7_wire_X7_inputs
theorem dX7_wire_0 : decode cX7_wire 0 = .ok (.aload_n 0, 1) := by decide +kernel
theorem dX7_wire_1 : decode cX7_wire 1 = .ok (.iconst 0, 1) := by decide +kernel
theorem dX7_wire_2 : decode cX7_wire 2 = .ok (.putfield 71, 3) := by decide +kernel
theorem dX7_wire_5 : decode cX7_wire 5 = .ok (.aload_n 0, 1) := by decide +kernel
theorem dX7_wire_6 : decode cX7_wire 6 = .ok (.iload_n 1, 1) := by decide +kernel
theorem dX7_wire_7 : decode cX7_wire 7 = .ok (.invokevirtual 90, 3) := by decide +kernel
theorem dX7_wire_10 : decode cX7_wire 10 = .ok (.ifCond .eq 33, 3) := by decide +kernel
theorem dX7_wire_13 : decode cX7_wire 13 = .ok (.iload_n 2, 1) := by decide +kernel
theorem dX7_wire_14 : decode cX7_wire 14 = .ok (.ifCond .lt 29, 3) := by decide +kernel
theorem dX7_wire_17 : decode cX7_wire 17 = .ok (.iload_n 2, 1) := by decide +kernel
theorem dX7_wire_18 : decode cX7_wire 18 = .ok (.aload_n 0, 1) := by decide +kernel
theorem dX7_wire_19 : decode cX7_wire 19 = .ok (.getfield 7, 3) := by decide +kernel
theorem dX7_wire_22 : decode cX7_wire 22 = .ok (.iload_n 1, 1) := by decide +kernel
theorem dX7_wire_23 : decode cX7_wire 23 = .ok (.iaload, 1) := by decide +kernel
theorem dX7_wire_24 : decode cX7_wire 24 = .ok (.invokestatic 94, 3) := by decide +kernel
theorem dX7_wire_27 : decode cX7_wire 27 = .ok (.if_icmp .ge 16, 3) := by decide +kernel
theorem dX7_wire_30 : decode cX7_wire 30 = .ok (.iload_n 3, 1) := by decide +kernel
theorem dX7_wire_31 : decode cX7_wire 31 = .ok (.iconst (-1), 1) := by decide +kernel
theorem dX7_wire_32 : decode cX7_wire 32 = .ok (.if_icmp .lt 11, 3) := by decide +kernel
theorem dX7_wire_35 : decode cX7_wire 35 = .ok (.iload_n 3, 1) := by decide +kernel
theorem dX7_wire_36 : decode cX7_wire 36 = .ok (.aload_n 0, 1) := by decide +kernel
theorem dX7_wire_37 : decode cX7_wire 37 = .ok (.getfield 75, 3) := by decide +kernel
theorem dX7_wire_40 : decode cX7_wire 40 = .ok (.if_icmp .lt 5, 3) := by decide +kernel
theorem dX7_wire_43 : decode cX7_wire 43 = .ok (.iconst 0, 1) := by decide +kernel
theorem dX7_wire_44 : decode cX7_wire 44 = .ok (.ireturn, 1) := by decide +kernel
theorem dX7_wire_45 : decode cX7_wire 45 = .ok (.aload_n 0, 1) := by decide +kernel
theorem dX7_wire_46 : decode cX7_wire 46 = .ok (.getfield 19, 3) := by decide +kernel
theorem dX7_wire_49 : decode cX7_wire 49 = .ok (.iconst 2, 1) := by decide +kernel
theorem dX7_wire_50 : decode cX7_wire 50 = .ok (.iload_n 1, 1) := by decide +kernel
theorem dX7_wire_51 : decode cX7_wire 51 = .ok (.imul, 1) := by decide +kernel
theorem dX7_wire_52 : decode cX7_wire 52 = .ok (.iload_n 2, 1) := by decide +kernel
theorem dX7_wire_53 : decode cX7_wire 53 = .ok (.iadd, 1) := by decide +kernel
theorem dX7_wire_54 : decode cX7_wire 54 = .ok (.iload_n 3, 1) := by decide +kernel
theorem dX7_wire_55 : decode cX7_wire 55 = .ok (.iastore, 1) := by decide +kernel
theorem dX7_wire_56 : decode cX7_wire 56 = .ok (.aload_n 0, 1) := by decide +kernel
theorem dX7_wire_57 : decode cX7_wire 57 = .ok (.iconst 0, 1) := by decide +kernel
theorem dX7_wire_58 : decode cX7_wire 58 = .ok (.putfield 86, 3) := by decide +kernel
theorem dX7_wire_61 : decode cX7_wire 61 = .ok (.iconst 1, 1) := by decide +kernel
theorem dX7_wire_62 : decode cX7_wire 62 = .ok (.ireturn, 1) := by decide +kernel
set_option maxRecDepth 20000 in
theorem ggX7_keep_X7_isNode : GoodIn wsX7_keep wsX7_isNode := goodIn_r _ [8, 9, 10, 11, 12, 13, 14, 15, 16, 17, 18, 19, 20, 21, 22, 23, 24, 25, 26, 27, 28, 29, 30, 31, 32, 33, 34, 35, 36, 37, 38, 39] (by decide +kernel) (by decide +kernel)
set_option maxRecDepth 20000 in
theorem gX7_keep_X7_isNode : GoodIn wsX7_keep (wsV RX7 90 RX7 yX7_isNode wsX7_isNode) := goodIn_app (goodIn_of _ (by decide +kernel)) ggX7_keep_X7_isNode
theorem dX7_keep_0 : decode cX7_keep 0 = .ok (.aload_n 0, 1) := by decide +kernel
theorem dX7_keep_1 : decode cX7_keep 1 = .ok (.iconst 0, 1) := by decide +kernel
theorem dX7_keep_2 : decode cX7_keep 2 = .ok (.putfield 71, 3) := by decide +kernel
theorem dX7_keep_5 : decode cX7_keep 5 = .ok (.aload_n 0, 1) := by decide +kernel
theorem dX7_keep_6 : decode cX7_keep 6 = .ok (.iload_n 1, 1) := by decide +kernel
theorem dX7_keep_7 : decode cX7_keep 7 = .ok (.invokevirtual 90, 3) := by decide +kernel
theorem dX7_keep_10 : decode cX7_keep 10 = .ok (.ifCond .eq 13, 3) := by decide +kernel
theorem dX7_keep_13 : decode cX7_keep 13 = .ok (.aload_n 0, 1) := by decide +kernel
theorem dX7_keep_14 : decode cX7_keep 14 = .ok (.getfield 22, 3) := by decide +kernel
theorem dX7_keep_17 : decode cX7_keep 17 = .ok (.iload_n 1, 1) := by decide +kernel
theorem dX7_keep_18 : decode cX7_keep 18 = .ok (.baload, 1) := by decide +kernel
theorem dX7_keep_19 : decode cX7_keep 19 = .ok (.iload_n 2, 1) := by decide +kernel
theorem dX7_keep_20 : decode cX7_keep 20 = .ok (.if_icmp .ne 5, 3) := by decide +kernel
theorem dX7_keep_23 : decode cX7_keep 23 = .ok (.iconst 0, 1) := by decide +kernel
theorem dX7_keep_24 : decode cX7_keep 24 = .ok (.ireturn, 1) := by decide +kernel
theorem dX7_keep_25 : decode cX7_keep 25 = .ok (.aload_n 0, 1) := by decide +kernel
theorem dX7_keep_26 : decode cX7_keep 26 = .ok (.getfield 22, 3) := by decide +kernel
theorem dX7_keep_29 : decode cX7_keep 29 = .ok (.iload_n 1, 1) := by decide +kernel
theorem dX7_keep_30 : decode cX7_keep 30 = .ok (.iload_n 2, 1) := by decide +kernel
theorem dX7_keep_31 : decode cX7_keep 31 = .ok (.bastore, 1) := by decide +kernel
theorem dX7_keep_32 : decode cX7_keep 32 = .ok (.aload_n 0, 1) := by decide +kernel
theorem dX7_keep_33 : decode cX7_keep 33 = .ok (.iconst 0, 1) := by decide +kernel
theorem dX7_keep_34 : decode cX7_keep 34 = .ok (.putfield 86, 3) := by decide +kernel
theorem dX7_keep_37 : decode cX7_keep 37 = .ok (.iconst 1, 1) := by decide +kernel
theorem dX7_keep_38 : decode cX7_keep 38 = .ok (.ireturn, 1) := by decide +kernel
theorem dX7_nodes_0 : decode cX7_nodes 0 = .ok (.aload_n 0, 1) := by decide +kernel
theorem dX7_nodes_1 : decode cX7_nodes 1 = .ok (.iconst 0, 1) := by decide +kernel
theorem dX7_nodes_2 : decode cX7_nodes 2 = .ok (.putfield 71, 3) := by decide +kernel
theorem dX7_nodes_5 : decode cX7_nodes 5 = .ok (.aload_n 0, 1) := by decide +kernel
theorem dX7_nodes_6 : decode cX7_nodes 6 = .ok (.getfield 75, 3) := by decide +kernel
theorem dX7_nodes_9 : decode cX7_nodes 9 = .ok (.ireturn, 1) := by decide +kernel
theorem dX7_far_0 : decode cX7_far 0 = .ok (.iload_n 1, 1) := by decide +kernel
theorem dX7_far_1 : decode cX7_far 1 = .ok (.ifCond .ge 9, 3) := by decide +kernel
theorem dX7_far_4 : decode cX7_far 4 = .ok (.sipush 1000, 3) := by decide +kernel
theorem dX7_far_7 : decode cX7_far 7 = .ok (.goto 9, 3) := by decide +kernel
theorem dX7_far_10 : decode cX7_far 10 = .ok (.aload_n 0, 1) := by decide +kernel
theorem dX7_far_11 : decode cX7_far 11 = .ok (.getfield 29, 3) := by decide +kernel
theorem dX7_far_14 : decode cX7_far 14 = .ok (.iload_n 1, 1) := by decide +kernel
theorem dX7_far_15 : decode cX7_far 15 = .ok (.iaload, 1) := by decide +kernel
theorem dX7_far_16 : decode cX7_far 16 = .ok (.ireturn, 1) := by decide +kernel
set_option maxRecDepth 20000 in
theorem ggX7_measure_X7_far : GoodIn wsX7_measure wsX7_far := goodIn_ca (goodIn_r _ [8, 2, 9, 10, 11, 12, 13, 14, 15, 16, 17, 18, 19, 20, 21, 22, 23, 24, 25, 26, 27, 28, 29, 30, 31, 32, 33, 34, 35, 36, 37, 38] (by decide +kernel) (by decide +kernel)) (goodIn_sub (fun _ h => List.mem_cons_of_mem _ (List.mem_append_right _ h)) (by decide +kernel))
set_option maxRecDepth 20000 in
theorem gX7_measure_X7_far : GoodIn wsX7_measure (wsV RX7 97 RX7 yX7_far wsX7_far) := goodIn_app (goodIn_of _ (by decide +kernel)) ggX7_measure_X7_far
theorem dX7_measure_0 : decode cX7_measure 0 = .ok (.iconst 0, 1) := by decide +kernel
theorem dX7_measure_1 : decode cX7_measure 1 = .ok (.istore_n 2, 1) := by decide +kernel
theorem dX7_measure_2 : decode cX7_measure 2 = .ok (.iload_n 2, 1) := by decide +kernel
theorem dX7_measure_3 : decode cX7_measure 3 = .ok (.aload_n 0, 1) := by decide +kernel
theorem dX7_measure_4 : decode cX7_measure 4 = .ok (.getfield 75, 3) := by decide +kernel
theorem dX7_measure_7 : decode cX7_measure 7 = .ok (.if_icmp .ge 27, 3) := by decide +kernel
theorem dX7_measure_10 : decode cX7_measure 10 = .ok (.aload_n 0, 1) := by decide +kernel
theorem dX7_measure_11 : decode cX7_measure 11 = .ok (.getfield 29, 3) := by decide +kernel
theorem dX7_measure_14 : decode cX7_measure 14 = .ok (.iload_n 2, 1) := by decide +kernel
theorem dX7_measure_15 : decode cX7_measure 15 = .ok (.iload_n 2, 1) := by decide +kernel
theorem dX7_measure_16 : decode cX7_measure 16 = .ok (.iload_n 1, 1) := by decide +kernel
theorem dX7_measure_17 : decode cX7_measure 17 = .ok (.if_icmp .ne 7, 3) := by decide +kernel
theorem dX7_measure_20 : decode cX7_measure 20 = .ok (.iconst 0, 1) := by decide +kernel
theorem dX7_measure_21 : decode cX7_measure 21 = .ok (.goto 6, 3) := by decide +kernel
theorem dX7_measure_24 : decode cX7_measure 24 = .ok (.sipush 1000, 3) := by decide +kernel
theorem dX7_measure_27 : decode cX7_measure 27 = .ok (.iastore, 1) := by decide +kernel
theorem dX7_measure_28 : decode cX7_measure 28 = .ok (.iinc 2 1, 3) := by decide +kernel
theorem dX7_measure_31 : decode cX7_measure 31 = .ok (.goto (-29), 3) := by decide +kernel
theorem dX7_measure_34 : decode cX7_measure 34 = .ok (.iconst 0, 1) := by decide +kernel
theorem dX7_measure_35 : decode cX7_measure 35 = .ok (.istore_n 2, 1) := by decide +kernel
theorem dX7_measure_36 : decode cX7_measure 36 = .ok (.iload_n 2, 1) := by decide +kernel
theorem dX7_measure_37 : decode cX7_measure 37 = .ok (.aload_n 0, 1) := by decide +kernel
theorem dX7_measure_38 : decode cX7_measure 38 = .ok (.getfield 75, 3) := by decide +kernel
theorem dX7_measure_41 : decode cX7_measure 41 = .ok (.if_icmp .ge 117, 3) := by decide +kernel
theorem dX7_measure_44 : decode cX7_measure 44 = .ok (.iconst 0, 1) := by decide +kernel
theorem dX7_measure_45 : decode cX7_measure 45 = .ok (.istore_n 3, 1) := by decide +kernel
theorem dX7_measure_46 : decode cX7_measure 46 = .ok (.iload_n 3, 1) := by decide +kernel
theorem dX7_measure_47 : decode cX7_measure 47 = .ok (.aload_n 0, 1) := by decide +kernel
theorem dX7_measure_48 : decode cX7_measure 48 = .ok (.getfield 75, 3) := by decide +kernel
theorem dX7_measure_51 : decode cX7_measure 51 = .ok (.if_icmp .ge 101, 3) := by decide +kernel
theorem dX7_measure_54 : decode cX7_measure 54 = .ok (.aload_n 0, 1) := by decide +kernel
theorem dX7_measure_55 : decode cX7_measure 55 = .ok (.aload_n 0, 1) := by decide +kernel
theorem dX7_measure_56 : decode cX7_measure 56 = .ok (.getfield 19, 3) := by decide +kernel
theorem dX7_measure_59 : decode cX7_measure 59 = .ok (.iconst 2, 1) := by decide +kernel
theorem dX7_measure_60 : decode cX7_measure 60 = .ok (.iload_n 3, 1) := by decide +kernel
theorem dX7_measure_61 : decode cX7_measure 61 = .ok (.imul, 1) := by decide +kernel
theorem dX7_measure_62 : decode cX7_measure 62 = .ok (.iaload, 1) := by decide +kernel
theorem dX7_measure_63 : decode cX7_measure 63 = .ok (.invokevirtual 97, 3) := by decide +kernel
theorem dX7_measure_66 : decode cX7_measure 66 = .ok (.aload_n 0, 1) := by decide +kernel
theorem dX7_measure_67 : decode cX7_measure 67 = .ok (.aload_n 0, 1) := by decide +kernel
theorem dX7_measure_68 : decode cX7_measure 68 = .ok (.getfield 19, 3) := by decide +kernel
theorem dX7_measure_71 : decode cX7_measure 71 = .ok (.iconst 2, 1) := by decide +kernel
theorem dX7_measure_72 : decode cX7_measure 72 = .ok (.iload_n 3, 1) := by decide +kernel
theorem dX7_measure_73 : decode cX7_measure 73 = .ok (.imul, 1) := by decide +kernel
theorem dX7_measure_74 : decode cX7_measure 74 = .ok (.iconst 1, 1) := by decide +kernel
theorem dX7_measure_75 : decode cX7_measure 75 = .ok (.iadd, 1) := by decide +kernel
theorem dX7_measure_76 : decode cX7_measure 76 = .ok (.iaload, 1) := by decide +kernel
theorem dX7_measure_77 : decode cX7_measure 77 = .ok (.invokevirtual 97, 3) := by decide +kernel
theorem dX7_measure_80 : decode cX7_measure 80 = .ok (.if_icmp .ge 18, 3) := by decide +kernel
theorem dX7_measure_83 : decode cX7_measure 83 = .ok (.aload_n 0, 1) := by decide +kernel
theorem dX7_measure_84 : decode cX7_measure 84 = .ok (.aload_n 0, 1) := by decide +kernel
theorem dX7_measure_85 : decode cX7_measure 85 = .ok (.getfield 19, 3) := by decide +kernel
theorem dX7_measure_88 : decode cX7_measure 88 = .ok (.iconst 2, 1) := by decide +kernel
theorem dX7_measure_89 : decode cX7_measure 89 = .ok (.iload_n 3, 1) := by decide +kernel
theorem dX7_measure_90 : decode cX7_measure 90 = .ok (.imul, 1) := by decide +kernel
theorem dX7_measure_91 : decode cX7_measure 91 = .ok (.iaload, 1) := by decide +kernel
theorem dX7_measure_92 : decode cX7_measure 92 = .ok (.invokevirtual 97, 3) := by decide +kernel
theorem dX7_measure_95 : decode cX7_measure 95 = .ok (.goto 17, 3) := by decide +kernel
theorem dX7_measure_98 : decode cX7_measure 98 = .ok (.aload_n 0, 1) := by decide +kernel
theorem dX7_measure_99 : decode cX7_measure 99 = .ok (.aload_n 0, 1) := by decide +kernel
theorem dX7_measure_100 : decode cX7_measure 100 = .ok (.getfield 19, 3) := by decide +kernel
theorem dX7_measure_103 : decode cX7_measure 103 = .ok (.iconst 2, 1) := by decide +kernel
theorem dX7_measure_104 : decode cX7_measure 104 = .ok (.iload_n 3, 1) := by decide +kernel
theorem dX7_measure_105 : decode cX7_measure 105 = .ok (.imul, 1) := by decide +kernel
theorem dX7_measure_106 : decode cX7_measure 106 = .ok (.iconst 1, 1) := by decide +kernel
theorem dX7_measure_107 : decode cX7_measure 107 = .ok (.iadd, 1) := by decide +kernel
theorem dX7_measure_108 : decode cX7_measure 108 = .ok (.iaload, 1) := by decide +kernel
theorem dX7_measure_109 : decode cX7_measure 109 = .ok (.invokevirtual 97, 3) := by decide +kernel
theorem dX7_measure_112 : decode cX7_measure 112 = .ok (.istore 4, 2) := by decide +kernel
theorem dX7_measure_114 : decode cX7_measure 114 = .ok (.aload_n 0, 1) := by decide +kernel
theorem dX7_measure_115 : decode cX7_measure 115 = .ok (.getfield 29, 3) := by decide +kernel
theorem dX7_measure_118 : decode cX7_measure 118 = .ok (.iload_n 3, 1) := by decide +kernel
theorem dX7_measure_119 : decode cX7_measure 119 = .ok (.iload 4, 2) := by decide +kernel
theorem dX7_measure_121 : decode cX7_measure 121 = .ok (.iconst 1, 1) := by decide +kernel
theorem dX7_measure_122 : decode cX7_measure 122 = .ok (.iadd, 1) := by decide +kernel
theorem dX7_measure_123 : decode cX7_measure 123 = .ok (.aload_n 0, 1) := by decide +kernel
theorem dX7_measure_124 : decode cX7_measure 124 = .ok (.getfield 29, 3) := by decide +kernel
theorem dX7_measure_127 : decode cX7_measure 127 = .ok (.iload_n 3, 1) := by decide +kernel
theorem dX7_measure_128 : decode cX7_measure 128 = .ok (.iaload, 1) := by decide +kernel
theorem dX7_measure_129 : decode cX7_measure 129 = .ok (.if_icmp .ge 10, 3) := by decide +kernel
theorem dX7_measure_132 : decode cX7_measure 132 = .ok (.iload 4, 2) := by decide +kernel
theorem dX7_measure_134 : decode cX7_measure 134 = .ok (.iconst 1, 1) := by decide +kernel
theorem dX7_measure_135 : decode cX7_measure 135 = .ok (.iadd, 1) := by decide +kernel
theorem dX7_measure_136 : decode cX7_measure 136 = .ok (.goto 9, 3) := by decide +kernel
theorem dX7_measure_139 : decode cX7_measure 139 = .ok (.aload_n 0, 1) := by decide +kernel
theorem dX7_measure_140 : decode cX7_measure 140 = .ok (.getfield 29, 3) := by decide +kernel
theorem dX7_measure_143 : decode cX7_measure 143 = .ok (.iload_n 3, 1) := by decide +kernel
theorem dX7_measure_144 : decode cX7_measure 144 = .ok (.iaload, 1) := by decide +kernel
theorem dX7_measure_145 : decode cX7_measure 145 = .ok (.iastore, 1) := by decide +kernel
theorem dX7_measure_146 : decode cX7_measure 146 = .ok (.iinc 3 1, 3) := by decide +kernel
theorem dX7_measure_149 : decode cX7_measure 149 = .ok (.goto (-103), 3) := by decide +kernel
theorem dX7_measure_152 : decode cX7_measure 152 = .ok (.iinc 2 1, 3) := by decide +kernel
theorem dX7_measure_155 : decode cX7_measure 155 = .ok (.goto (-119), 3) := by decide +kernel
theorem dX7_measure_158 : decode cX7_measure 158 = .ok (.return_, 1) := by decide +kernel
set_option maxRecDepth 20000 in
theorem ggX7_nearest_X7_far : GoodIn wsX7_nearest wsX7_far := goodIn_ca (goodIn_r _ [6, 7, 8, 9, 10, 11, 12, 13, 14, 15, 16, 17, 18, 19, 20, 21, 22, 23, 24, 25, 26, 27, 28, 29, 30, 31, 32, 33, 34, 35, 36, 37] (by decide +kernel) (by decide +kernel)) (goodIn_sub (fun _ h => List.mem_cons_of_mem _ (List.mem_append_right _ h)) (by decide +kernel))
set_option maxRecDepth 20000 in
theorem gX7_nearest_X7_far : GoodIn wsX7_nearest (wsV RX7 97 RX7 yX7_far wsX7_far) := goodIn_app (goodIn_of _ (by decide +kernel)) ggX7_nearest_X7_far
theorem dX7_nearest_0 : decode cX7_nearest 0 = .ok (.aload_n 0, 1) := by decide +kernel
theorem dX7_nearest_1 : decode cX7_nearest 1 = .ok (.getfield 19, 3) := by decide +kernel
theorem dX7_nearest_4 : decode cX7_nearest 4 = .ok (.iconst 2, 1) := by decide +kernel
theorem dX7_nearest_5 : decode cX7_nearest 5 = .ok (.iload_n 1, 1) := by decide +kernel
theorem dX7_nearest_6 : decode cX7_nearest 6 = .ok (.imul, 1) := by decide +kernel
theorem dX7_nearest_7 : decode cX7_nearest 7 = .ok (.iaload, 1) := by decide +kernel
theorem dX7_nearest_8 : decode cX7_nearest 8 = .ok (.istore_n 2, 1) := by decide +kernel
theorem dX7_nearest_9 : decode cX7_nearest 9 = .ok (.aload_n 0, 1) := by decide +kernel
theorem dX7_nearest_10 : decode cX7_nearest 10 = .ok (.getfield 19, 3) := by decide +kernel
theorem dX7_nearest_13 : decode cX7_nearest 13 = .ok (.iconst 2, 1) := by decide +kernel
theorem dX7_nearest_14 : decode cX7_nearest 14 = .ok (.iload_n 1, 1) := by decide +kernel
theorem dX7_nearest_15 : decode cX7_nearest 15 = .ok (.imul, 1) := by decide +kernel
theorem dX7_nearest_16 : decode cX7_nearest 16 = .ok (.iconst 1, 1) := by decide +kernel
theorem dX7_nearest_17 : decode cX7_nearest 17 = .ok (.iadd, 1) := by decide +kernel
theorem dX7_nearest_18 : decode cX7_nearest 18 = .ok (.iaload, 1) := by decide +kernel
theorem dX7_nearest_19 : decode cX7_nearest 19 = .ok (.istore_n 3, 1) := by decide +kernel
theorem dX7_nearest_20 : decode cX7_nearest 20 = .ok (.aload_n 0, 1) := by decide +kernel
theorem dX7_nearest_21 : decode cX7_nearest 21 = .ok (.iload_n 3, 1) := by decide +kernel
theorem dX7_nearest_22 : decode cX7_nearest 22 = .ok (.invokevirtual 97, 3) := by decide +kernel
theorem dX7_nearest_25 : decode cX7_nearest 25 = .ok (.aload_n 0, 1) := by decide +kernel
theorem dX7_nearest_26 : decode cX7_nearest 26 = .ok (.iload_n 2, 1) := by decide +kernel
theorem dX7_nearest_27 : decode cX7_nearest 27 = .ok (.invokevirtual 97, 3) := by decide +kernel
theorem dX7_nearest_30 : decode cX7_nearest 30 = .ok (.if_icmp .ge 7, 3) := by decide +kernel
theorem dX7_nearest_33 : decode cX7_nearest 33 = .ok (.iload_n 3, 1) := by decide +kernel
theorem dX7_nearest_34 : decode cX7_nearest 34 = .ok (.goto 4, 3) := by decide +kernel
theorem dX7_nearest_37 : decode cX7_nearest 37 = .ok (.iload_n 2, 1) := by decide +kernel
theorem dX7_nearest_38 : decode cX7_nearest 38 = .ok (.istore 4, 2) := by decide +kernel
theorem dX7_nearest_40 : decode cX7_nearest 40 = .ok (.aload_n 0, 1) := by decide +kernel
theorem dX7_nearest_41 : decode cX7_nearest 41 = .ok (.iload 4, 2) := by decide +kernel
theorem dX7_nearest_43 : decode cX7_nearest 43 = .ok (.invokevirtual 97, 3) := by decide +kernel
theorem dX7_nearest_46 : decode cX7_nearest 46 = .ok (.sipush 1000, 3) := by decide +kernel
theorem dX7_nearest_49 : decode cX7_nearest 49 = .ok (.if_icmp .ge 8, 3) := by decide +kernel
theorem dX7_nearest_52 : decode cX7_nearest 52 = .ok (.iload 4, 2) := by decide +kernel
theorem dX7_nearest_54 : decode cX7_nearest 54 = .ok (.goto 4, 3) := by decide +kernel
theorem dX7_nearest_57 : decode cX7_nearest 57 = .ok (.iconst (-1), 1) := by decide +kernel
theorem dX7_nearest_58 : decode cX7_nearest 58 = .ok (.ireturn, 1) := by decide +kernel
set_option maxRecDepth 20000 in
theorem ggX7_findRing_X7_measure : GoodIn wsX7_findRing wsX7_measure := goodIn_ca (goodIn_r _ [8, 2, 9, 10, 11, 12, 13, 7, 14, 19, 20, 21, 22, 23, 24, 25, 26, 27, 28, 29, 30, 31, 32, 33, 34, 35, 36, 37, 38, 39, 40, 41, 42, 43, 44, 45, 46, 47, 48] (by decide +kernel) (by decide +kernel)) (goodIn_sub (fun _ h => List.mem_cons_of_mem _ (List.mem_append_right _ h)) (by decide +kernel))
set_option maxRecDepth 20000 in
theorem gX7_findRing_X7_measure : GoodIn wsX7_findRing (wsV RX7 103 RX7 yX7_measure wsX7_measure) := goodIn_app (goodIn_of _ (by decide +kernel)) ggX7_findRing_X7_measure
set_option maxRecDepth 20000 in
theorem ggX7_findRing_X7_nearest : GoodIn wsX7_findRing wsX7_nearest := goodIn_ca (goodIn_r _ [18, 10, 11, 12, 13, 7, 14, 9, 19, 20, 21, 22, 23, 24, 25, 26, 27, 28, 29, 30, 31, 32, 33, 34, 35, 36, 37, 38, 39, 40, 41, 42, 43, 44, 45, 46, 47, 48] (by decide +kernel) (by decide +kernel)) (goodIn_sub (fun _ h => List.mem_cons_of_mem _ (List.mem_append_right _ h)) (by decide +kernel))
set_option maxRecDepth 20000 in
theorem gX7_findRing_X7_nearest : GoodIn wsX7_findRing (wsV RX7 107 RX7 yX7_nearest wsX7_nearest) := goodIn_app (goodIn_of _ (by decide +kernel)) ggX7_findRing_X7_nearest
theorem dX7_findRing_0 : decode cX7_findRing 0 = .ok (.aload_n 0, 1) := by decide +kernel
theorem dX7_findRing_1 : decode cX7_findRing 1 = .ok (.iconst 0, 1) := by decide +kernel
theorem dX7_findRing_2 : decode cX7_findRing 2 = .ok (.putfield 100, 3) := by decide +kernel
theorem dX7_findRing_5 : decode cX7_findRing 5 = .ok (.iconst 0, 1) := by decide +kernel
theorem dX7_findRing_6 : decode cX7_findRing 6 = .ok (.istore_n 1, 1) := by decide +kernel
theorem dX7_findRing_7 : decode cX7_findRing 7 = .ok (.iload_n 1, 1) := by decide +kernel
theorem dX7_findRing_8 : decode cX7_findRing 8 = .ok (.aload_n 0, 1) := by decide +kernel
theorem dX7_findRing_9 : decode cX7_findRing 9 = .ok (.getfield 75, 3) := by decide +kernel
theorem dX7_findRing_12 : decode cX7_findRing 12 = .ok (.if_icmp .ge 77, 3) := by decide +kernel
theorem dX7_findRing_15 : decode cX7_findRing 15 = .ok (.aload_n 0, 1) := by decide +kernel
theorem dX7_findRing_16 : decode cX7_findRing 16 = .ok (.getfield 100, 3) := by decide +kernel
theorem dX7_findRing_19 : decode cX7_findRing 19 = .ok (.ifCond .ne 70, 3) := by decide +kernel
theorem dX7_findRing_22 : decode cX7_findRing 22 = .ok (.aload_n 0, 1) := by decide +kernel
theorem dX7_findRing_23 : decode cX7_findRing 23 = .ok (.iload_n 1, 1) := by decide +kernel
theorem dX7_findRing_24 : decode cX7_findRing 24 = .ok (.invokevirtual 103, 3) := by decide +kernel
theorem dX7_findRing_27 : decode cX7_findRing 27 = .ok (.aload_n 0, 1) := by decide +kernel
theorem dX7_findRing_28 : decode cX7_findRing 28 = .ok (.iload_n 1, 1) := by decide +kernel
theorem dX7_findRing_29 : decode cX7_findRing 29 = .ok (.invokevirtual 107, 3) := by decide +kernel
theorem dX7_findRing_32 : decode cX7_findRing 32 = .ok (.istore_n 2, 1) := by decide +kernel
theorem dX7_findRing_33 : decode cX7_findRing 33 = .ok (.iload_n 2, 1) := by decide +kernel
theorem dX7_findRing_34 : decode cX7_findRing 34 = .ok (.ifCond .lt 49, 3) := by decide +kernel
theorem dX7_findRing_37 : decode cX7_findRing 37 = .ok (.aload_n 0, 1) := by decide +kernel
theorem dX7_findRing_38 : decode cX7_findRing 38 = .ok (.getfield 32, 3) := by decide +kernel
theorem dX7_findRing_41 : decode cX7_findRing 41 = .ok (.iconst 0, 1) := by decide +kernel
theorem dX7_findRing_42 : decode cX7_findRing 42 = .ok (.iload_n 1, 1) := by decide +kernel
theorem dX7_findRing_43 : decode cX7_findRing 43 = .ok (.iastore, 1) := by decide +kernel
theorem dX7_findRing_44 : decode cX7_findRing 44 = .ok (.aload_n 0, 1) := by decide +kernel
theorem dX7_findRing_45 : decode cX7_findRing 45 = .ok (.iconst 1, 1) := by decide +kernel
theorem dX7_findRing_46 : decode cX7_findRing 46 = .ok (.putfield 100, 3) := by decide +kernel
theorem dX7_findRing_49 : decode cX7_findRing 49 = .ok (.iload_n 2, 1) := by decide +kernel
theorem dX7_findRing_50 : decode cX7_findRing 50 = .ok (.iload_n 1, 1) := by decide +kernel
theorem dX7_findRing_51 : decode cX7_findRing 51 = .ok (.if_icmp .eq 32, 3) := by decide +kernel
theorem dX7_findRing_54 : decode cX7_findRing 54 = .ok (.aload_n 0, 1) := by decide +kernel
theorem dX7_findRing_55 : decode cX7_findRing 55 = .ok (.getfield 32, 3) := by decide +kernel
theorem dX7_findRing_58 : decode cX7_findRing 58 = .ok (.aload_n 0, 1) := by decide +kernel
theorem dX7_findRing_59 : decode cX7_findRing 59 = .ok (.getfield 100, 3) := by decide +kernel
theorem dX7_findRing_62 : decode cX7_findRing 62 = .ok (.iload_n 2, 1) := by decide +kernel
theorem dX7_findRing_63 : decode cX7_findRing 63 = .ok (.iastore, 1) := by decide +kernel
theorem dX7_findRing_64 : decode cX7_findRing 64 = .ok (.aload_n 0, 1) := by decide +kernel
theorem dX7_findRing_65 : decode cX7_findRing 65 = .ok (.dup, 1) := by decide +kernel
theorem dX7_findRing_66 : decode cX7_findRing 66 = .ok (.getfield 100, 3) := by decide +kernel
theorem dX7_findRing_69 : decode cX7_findRing 69 = .ok (.iconst 1, 1) := by decide +kernel
theorem dX7_findRing_70 : decode cX7_findRing 70 = .ok (.iadd, 1) := by decide +kernel
theorem dX7_findRing_71 : decode cX7_findRing 71 = .ok (.putfield 100, 3) := by decide +kernel
theorem dX7_findRing_74 : decode cX7_findRing 74 = .ok (.aload_n 0, 1) := by decide +kernel
theorem dX7_findRing_75 : decode cX7_findRing 75 = .ok (.iload_n 2, 1) := by decide +kernel
theorem dX7_findRing_76 : decode cX7_findRing 76 = .ok (.invokevirtual 107, 3) := by decide +kernel
theorem dX7_findRing_79 : decode cX7_findRing 79 = .ok (.istore_n 2, 1) := by decide +kernel
theorem dX7_findRing_80 : decode cX7_findRing 80 = .ok (.goto (-31), 3) := by decide +kernel
theorem dX7_findRing_83 : decode cX7_findRing 83 = .ok (.iinc 1 1, 3) := by decide +kernel
theorem dX7_findRing_86 : decode cX7_findRing 86 = .ok (.goto (-79), 3) := by decide +kernel
theorem dX7_findRing_89 : decode cX7_findRing 89 = .ok (.return_, 1) := by decide +kernel
set_option maxRecDepth 20000 in
theorem ggX7_ring_X7_findRing : GoodIn wsX7_ring wsX7_findRing := goodIn_ca (goodIn_r _ [8, 2, 9, 3, 10, 11, 12, 7, 13, 14, 15, 16, 17, 18, 19, 20, 21, 22, 23, 28, 29, 30, 31, 32, 33, 34, 35, 36, 37, 38, 39, 40, 41, 42, 43, 44, 45, 46, 47, 48, 49, 50, 51, 52, 53, 54, 55, 56, 57] (by decide +kernel) (by decide +kernel)) (goodIn_sub (fun _ h => List.mem_cons_of_mem _ (List.mem_append_right _ h)) (by decide +kernel))
set_option maxRecDepth 20000 in
theorem gX7_ring_X7_findRing : GoodIn wsX7_ring (wsV RX7 110 RX7 yX7_findRing wsX7_findRing) := goodIn_app (goodIn_of _ (by decide +kernel)) ggX7_ring_X7_findRing
set_option maxRecDepth 20000 in
theorem ggX7_ring_X7_fail : GoodIn wsX7_ring wsX7_fail := goodIn_r _ [27, 1, 28, 29, 30, 31, 32, 33, 34, 35, 36, 37, 38, 39, 40, 41, 42, 43, 44, 45, 46, 47, 48, 49, 50, 51, 52, 53, 54, 55, 56, 57] (by decide +kernel) (by decide +kernel)
set_option maxRecDepth 20000 in
theorem gX7_ring_X7_fail : GoodIn wsX7_ring (wsV RX7 82 RX7 yX7_fail wsX7_fail) := goodIn_app (goodIn_of _ (by decide +kernel)) ggX7_ring_X7_fail
theorem dX7_ring_0 : decode cX7_ring 0 = .ok (.aload_n 0, 1) := by decide +kernel
theorem dX7_ring_1 : decode cX7_ring 1 = .ok (.iconst 0, 1) := by decide +kernel
theorem dX7_ring_2 : decode cX7_ring 2 = .ok (.putfield 71, 3) := by decide +kernel
theorem dX7_ring_5 : decode cX7_ring 5 = .ok (.aload_n 0, 1) := by decide +kernel
theorem dX7_ring_6 : decode cX7_ring 6 = .ok (.invokevirtual 110, 3) := by decide +kernel
theorem dX7_ring_9 : decode cX7_ring 9 = .ok (.iload_n 1, 1) := by decide +kernel
theorem dX7_ring_10 : decode cX7_ring 10 = .ok (.ifCond .lt 11, 3) := by decide +kernel
theorem dX7_ring_13 : decode cX7_ring 13 = .ok (.iload_n 1, 1) := by decide +kernel
theorem dX7_ring_14 : decode cX7_ring 14 = .ok (.aload_n 0, 1) := by decide +kernel
theorem dX7_ring_15 : decode cX7_ring 15 = .ok (.getfield 100, 3) := by decide +kernel
theorem dX7_ring_18 : decode cX7_ring 18 = .ok (.if_icmp .lt 11, 3) := by decide +kernel
theorem dX7_ring_21 : decode cX7_ring 21 = .ok (.aload_n 0, 1) := by decide +kernel
theorem dX7_ring_22 : decode cX7_ring 22 = .ok (.iconst 1, 1) := by decide +kernel
theorem dX7_ring_23 : decode cX7_ring 23 = .ok (.invokevirtual 82, 3) := by decide +kernel
theorem dX7_ring_26 : decode cX7_ring 26 = .ok (.goto 9, 3) := by decide +kernel
theorem dX7_ring_29 : decode cX7_ring 29 = .ok (.aload_n 0, 1) := by decide +kernel
theorem dX7_ring_30 : decode cX7_ring 30 = .ok (.getfield 32, 3) := by decide +kernel
theorem dX7_ring_33 : decode cX7_ring 33 = .ok (.iload_n 1, 1) := by decide +kernel
theorem dX7_ring_34 : decode cX7_ring 34 = .ok (.iaload, 1) := by decide +kernel
theorem dX7_ring_35 : decode cX7_ring 35 = .ok (.ireturn, 1) := by decide +kernel
set_option maxRecDepth 20000 in
theorem ggX7_isWired_X7_inputs : GoodIn wsX7_isWired wsX7_inputs := goodIn_r _ [7] (by decide +kernel) (by decide +kernel)
set_option maxRecDepth 20000 in
theorem gX7_isWired_X7_inputs : GoodIn wsX7_isWired (va_wsS RX7 94 yX7_inputs wsX7_inputs) := goodIn_app (goodIn_of _ (by decide +kernel)) ggX7_isWired_X7_inputs
theorem dX7_isWired_0 : decode cX7_isWired 0 = .ok (.aload_n 0, 1) := by decide +kernel
theorem dX7_isWired_1 : decode cX7_isWired 1 = .ok (.getfield 75, 3) := by decide +kernel
theorem dX7_isWired_4 : decode cX7_isWired 4 = .ok (.ifCond .le 7, 3) := by decide +kernel
theorem dX7_isWired_7 : decode cX7_isWired 7 = .ok (.iconst 1, 1) := by decide +kernel
theorem dX7_isWired_8 : decode cX7_isWired 8 = .ok (.goto 4, 3) := by decide +kernel
theorem dX7_isWired_11 : decode cX7_isWired 11 = .ok (.iconst 0, 1) := by decide +kernel
theorem dX7_isWired_12 : decode cX7_isWired 12 = .ok (.istore_n 1, 1) := by decide +kernel
theorem dX7_isWired_13 : decode cX7_isWired 13 = .ok (.iconst 0, 1) := by decide +kernel
theorem dX7_isWired_14 : decode cX7_isWired 14 = .ok (.istore_n 2, 1) := by decide +kernel
theorem dX7_isWired_15 : decode cX7_isWired 15 = .ok (.iload_n 2, 1) := by decide +kernel
theorem dX7_isWired_16 : decode cX7_isWired 16 = .ok (.aload_n 0, 1) := by decide +kernel
theorem dX7_isWired_17 : decode cX7_isWired 17 = .ok (.getfield 75, 3) := by decide +kernel
theorem dX7_isWired_20 : decode cX7_isWired 20 = .ok (.if_icmp .ge 53, 3) := by decide +kernel
theorem dX7_isWired_23 : decode cX7_isWired 23 = .ok (.iconst 0, 1) := by decide +kernel
theorem dX7_isWired_24 : decode cX7_isWired 24 = .ok (.istore_n 3, 1) := by decide +kernel
theorem dX7_isWired_25 : decode cX7_isWired 25 = .ok (.iload_n 3, 1) := by decide +kernel
theorem dX7_isWired_26 : decode cX7_isWired 26 = .ok (.aload_n 0, 1) := by decide +kernel
theorem dX7_isWired_27 : decode cX7_isWired 27 = .ok (.getfield 7, 3) := by decide +kernel
theorem dX7_isWired_30 : decode cX7_isWired 30 = .ok (.iload_n 2, 1) := by decide +kernel
theorem dX7_isWired_31 : decode cX7_isWired 31 = .ok (.iaload, 1) := by decide +kernel
theorem dX7_isWired_32 : decode cX7_isWired 32 = .ok (.invokestatic 94, 3) := by decide +kernel
theorem dX7_isWired_35 : decode cX7_isWired 35 = .ok (.if_icmp .ge 32, 3) := by decide +kernel
theorem dX7_isWired_38 : decode cX7_isWired 38 = .ok (.iload_n 1, 1) := by decide +kernel
theorem dX7_isWired_39 : decode cX7_isWired 39 = .ok (.ifCond .eq 20, 3) := by decide +kernel
theorem dX7_isWired_42 : decode cX7_isWired 42 = .ok (.aload_n 0, 1) := by decide +kernel
theorem dX7_isWired_43 : decode cX7_isWired 43 = .ok (.getfield 19, 3) := by decide +kernel
theorem dX7_isWired_46 : decode cX7_isWired 46 = .ok (.iconst 2, 1) := by decide +kernel
theorem dX7_isWired_47 : decode cX7_isWired 47 = .ok (.iload_n 2, 1) := by decide +kernel
theorem dX7_isWired_48 : decode cX7_isWired 48 = .ok (.imul, 1) := by decide +kernel
theorem dX7_isWired_49 : decode cX7_isWired 49 = .ok (.iload_n 3, 1) := by decide +kernel
theorem dX7_isWired_50 : decode cX7_isWired 50 = .ok (.iadd, 1) := by decide +kernel
theorem dX7_isWired_51 : decode cX7_isWired 51 = .ok (.iaload, 1) := by decide +kernel
theorem dX7_isWired_52 : decode cX7_isWired 52 = .ok (.ifCond .lt 7, 3) := by decide +kernel
theorem dX7_isWired_55 : decode cX7_isWired 55 = .ok (.iconst 1, 1) := by decide +kernel
theorem dX7_isWired_56 : decode cX7_isWired 56 = .ok (.goto 4, 3) := by decide +kernel
theorem dX7_isWired_59 : decode cX7_isWired 59 = .ok (.iconst 0, 1) := by decide +kernel
theorem dX7_isWired_60 : decode cX7_isWired 60 = .ok (.istore_n 1, 1) := by decide +kernel
theorem dX7_isWired_61 : decode cX7_isWired 61 = .ok (.iinc 3 1, 3) := by decide +kernel
theorem dX7_isWired_64 : decode cX7_isWired 64 = .ok (.goto (-39), 3) := by decide +kernel
theorem dX7_isWired_67 : decode cX7_isWired 67 = .ok (.iinc 2 1, 3) := by decide +kernel
theorem dX7_isWired_70 : decode cX7_isWired 70 = .ok (.goto (-55), 3) := by decide +kernel
theorem dX7_isWired_73 : decode cX7_isWired 73 = .ok (.iload_n 1, 1) := by decide +kernel
theorem dX7_isWired_74 : decode cX7_isWired 74 = .ok (.ireturn, 1) := by decide +kernel
set_option maxRecDepth 20000 in
theorem ggX7_sizeOf_X7_inputs : GoodIn wsX7_sizeOf wsX7_inputs := goodIn_r _ [9] (by decide +kernel) (by decide +kernel)
set_option maxRecDepth 20000 in
theorem gX7_sizeOf_X7_inputs : GoodIn wsX7_sizeOf (va_wsS RX7 94 yX7_inputs wsX7_inputs) := goodIn_app (goodIn_of _ (by decide +kernel)) ggX7_sizeOf_X7_inputs
theorem dX7_sizeOf_0 : decode cX7_sizeOf 0 = .ok (.aload_n 0, 1) := by decide +kernel
theorem dX7_sizeOf_1 : decode cX7_sizeOf 1 = .ok (.getfield 7, 3) := by decide +kernel
theorem dX7_sizeOf_4 : decode cX7_sizeOf 4 = .ok (.iload_n 1, 1) := by decide +kernel
theorem dX7_sizeOf_5 : decode cX7_sizeOf 5 = .ok (.iaload, 1) := by decide +kernel
theorem dX7_sizeOf_6 : decode cX7_sizeOf 6 = .ok (.istore_n 2, 1) := by decide +kernel
theorem dX7_sizeOf_7 : decode cX7_sizeOf 7 = .ok (.iload_n 2, 1) := by decide +kernel
theorem dX7_sizeOf_8 : decode cX7_sizeOf 8 = .ok (.invokestatic 94, 3) := by decide +kernel
theorem dX7_sizeOf_11 : decode cX7_sizeOf 11 = .ok (.ifCond .le 19, 3) := by decide +kernel
theorem dX7_sizeOf_14 : decode cX7_sizeOf 14 = .ok (.aload_n 0, 1) := by decide +kernel
theorem dX7_sizeOf_15 : decode cX7_sizeOf 15 = .ok (.getfield 53, 3) := by decide +kernel
theorem dX7_sizeOf_18 : decode cX7_sizeOf 18 = .ok (.aload_n 0, 1) := by decide +kernel
theorem dX7_sizeOf_19 : decode cX7_sizeOf 19 = .ok (.getfield 19, 3) := by decide +kernel
theorem dX7_sizeOf_22 : decode cX7_sizeOf 22 = .ok (.iconst 2, 1) := by decide +kernel
theorem dX7_sizeOf_23 : decode cX7_sizeOf 23 = .ok (.iload_n 1, 1) := by decide +kernel
theorem dX7_sizeOf_24 : decode cX7_sizeOf 24 = .ok (.imul, 1) := by decide +kernel
theorem dX7_sizeOf_25 : decode cX7_sizeOf 25 = .ok (.iaload, 1) := by decide +kernel
theorem dX7_sizeOf_26 : decode cX7_sizeOf 26 = .ok (.iaload, 1) := by decide +kernel
theorem dX7_sizeOf_27 : decode cX7_sizeOf 27 = .ok (.goto 4, 3) := by decide +kernel
theorem dX7_sizeOf_30 : decode cX7_sizeOf 30 = .ok (.iconst 0, 1) := by decide +kernel
theorem dX7_sizeOf_31 : decode cX7_sizeOf 31 = .ok (.istore_n 3, 1) := by decide +kernel
theorem dX7_sizeOf_32 : decode cX7_sizeOf 32 = .ok (.iload_n 2, 1) := by decide +kernel
theorem dX7_sizeOf_33 : decode cX7_sizeOf 33 = .ok (.invokestatic 94, 3) := by decide +kernel
theorem dX7_sizeOf_36 : decode cX7_sizeOf 36 = .ok (.iconst 1, 1) := by decide +kernel
theorem dX7_sizeOf_37 : decode cX7_sizeOf 37 = .ok (.if_icmp .le 21, 3) := by decide +kernel
theorem dX7_sizeOf_40 : decode cX7_sizeOf 40 = .ok (.aload_n 0, 1) := by decide +kernel
theorem dX7_sizeOf_41 : decode cX7_sizeOf 41 = .ok (.getfield 53, 3) := by decide +kernel
theorem dX7_sizeOf_44 : decode cX7_sizeOf 44 = .ok (.aload_n 0, 1) := by decide +kernel
theorem dX7_sizeOf_45 : decode cX7_sizeOf 45 = .ok (.getfield 19, 3) := by decide +kernel
theorem dX7_sizeOf_48 : decode cX7_sizeOf 48 = .ok (.iconst 2, 1) := by decide +kernel
theorem dX7_sizeOf_49 : decode cX7_sizeOf 49 = .ok (.iload_n 1, 1) := by decide +kernel
theorem dX7_sizeOf_50 : decode cX7_sizeOf 50 = .ok (.imul, 1) := by decide +kernel
theorem dX7_sizeOf_51 : decode cX7_sizeOf 51 = .ok (.iconst 1, 1) := by decide +kernel
theorem dX7_sizeOf_52 : decode cX7_sizeOf 52 = .ok (.iadd, 1) := by decide +kernel
theorem dX7_sizeOf_53 : decode cX7_sizeOf 53 = .ok (.iaload, 1) := by decide +kernel
theorem dX7_sizeOf_54 : decode cX7_sizeOf 54 = .ok (.iaload, 1) := by decide +kernel
theorem dX7_sizeOf_55 : decode cX7_sizeOf 55 = .ok (.goto 4, 3) := by decide +kernel
theorem dX7_sizeOf_58 : decode cX7_sizeOf 58 = .ok (.iconst 0, 1) := by decide +kernel
theorem dX7_sizeOf_59 : decode cX7_sizeOf 59 = .ok (.istore 4, 2) := by decide +kernel
theorem dX7_sizeOf_61 : decode cX7_sizeOf 61 = .ok (.iload_n 2, 1) := by decide +kernel
theorem dX7_sizeOf_62 : decode cX7_sizeOf 62 = .ok (.tableswitch 111 0 6 #[42, 49, 51, 51, 63, 81, 109], 42) := by decide +kernel
theorem dX7_sizeOf_104 : decode cX7_sizeOf 104 = .ok (.aload_n 0, 1) := by decide +kernel
theorem dX7_sizeOf_105 : decode cX7_sizeOf 105 = .ok (.getfield 13, 3) := by decide +kernel
theorem dX7_sizeOf_108 : decode cX7_sizeOf 108 = .ok (.iload_n 1, 1) := by decide +kernel
theorem dX7_sizeOf_109 : decode cX7_sizeOf 109 = .ok (.iaload, 1) := by decide +kernel
theorem dX7_sizeOf_110 : decode cX7_sizeOf 110 = .ok (.ireturn, 1) := by decide +kernel
theorem dX7_sizeOf_111 : decode cX7_sizeOf 111 = .ok (.iload_n 3, 1) := by decide +kernel
theorem dX7_sizeOf_112 : decode cX7_sizeOf 112 = .ok (.ireturn, 1) := by decide +kernel
theorem dX7_sizeOf_113 : decode cX7_sizeOf 113 = .ok (.iload_n 3, 1) := by decide +kernel
theorem dX7_sizeOf_114 : decode cX7_sizeOf 114 = .ok (.iload 4, 2) := by decide +kernel
theorem dX7_sizeOf_116 : decode cX7_sizeOf 116 = .ok (.if_icmp .ne 7, 3) := by decide +kernel
theorem dX7_sizeOf_119 : decode cX7_sizeOf 119 = .ok (.iload_n 3, 1) := by decide +kernel
theorem dX7_sizeOf_120 : decode cX7_sizeOf 120 = .ok (.goto 4, 3) := by decide +kernel
theorem dX7_sizeOf_123 : decode cX7_sizeOf 123 = .ok (.iconst (-1), 1) := by decide +kernel
theorem dX7_sizeOf_124 : decode cX7_sizeOf 124 = .ok (.ireturn, 1) := by decide +kernel
theorem dX7_sizeOf_125 : decode cX7_sizeOf 125 = .ok (.iload_n 3, 1) := by decide +kernel
theorem dX7_sizeOf_126 : decode cX7_sizeOf 126 = .ok (.iload 4, 2) := by decide +kernel
theorem dX7_sizeOf_128 : decode cX7_sizeOf 128 = .ok (.iadd, 1) := by decide +kernel
theorem dX7_sizeOf_129 : decode cX7_sizeOf 129 = .ok (.bipush 40, 2) := by decide +kernel
theorem dX7_sizeOf_131 : decode cX7_sizeOf 131 = .ok (.if_icmp .le 7, 3) := by decide +kernel
theorem dX7_sizeOf_134 : decode cX7_sizeOf 134 = .ok (.iconst (-1), 1) := by decide +kernel
theorem dX7_sizeOf_135 : decode cX7_sizeOf 135 = .ok (.goto 7, 3) := by decide +kernel
theorem dX7_sizeOf_138 : decode cX7_sizeOf 138 = .ok (.iload_n 3, 1) := by decide +kernel
theorem dX7_sizeOf_139 : decode cX7_sizeOf 139 = .ok (.iload 4, 2) := by decide +kernel
theorem dX7_sizeOf_141 : decode cX7_sizeOf 141 = .ok (.iadd, 1) := by decide +kernel
theorem dX7_sizeOf_142 : decode cX7_sizeOf 142 = .ok (.ireturn, 1) := by decide +kernel
theorem dX7_sizeOf_143 : decode cX7_sizeOf 143 = .ok (.aload_n 0, 1) := by decide +kernel
theorem dX7_sizeOf_144 : decode cX7_sizeOf 144 = .ok (.getfield 13, 3) := by decide +kernel
theorem dX7_sizeOf_147 : decode cX7_sizeOf 147 = .ok (.iload_n 1, 1) := by decide +kernel
theorem dX7_sizeOf_148 : decode cX7_sizeOf 148 = .ok (.iaload, 1) := by decide +kernel
theorem dX7_sizeOf_149 : decode cX7_sizeOf 149 = .ok (.aload_n 0, 1) := by decide +kernel
theorem dX7_sizeOf_150 : decode cX7_sizeOf 150 = .ok (.getfield 16, 3) := by decide +kernel
theorem dX7_sizeOf_153 : decode cX7_sizeOf 153 = .ok (.iload_n 1, 1) := by decide +kernel
theorem dX7_sizeOf_154 : decode cX7_sizeOf 154 = .ok (.iaload, 1) := by decide +kernel
theorem dX7_sizeOf_155 : decode cX7_sizeOf 155 = .ok (.iadd, 1) := by decide +kernel
theorem dX7_sizeOf_156 : decode cX7_sizeOf 156 = .ok (.iload_n 3, 1) := by decide +kernel
theorem dX7_sizeOf_157 : decode cX7_sizeOf 157 = .ok (.if_icmp .le 7, 3) := by decide +kernel
theorem dX7_sizeOf_160 : decode cX7_sizeOf 160 = .ok (.iconst (-1), 1) := by decide +kernel
theorem dX7_sizeOf_161 : decode cX7_sizeOf 161 = .ok (.goto 9, 3) := by decide +kernel
theorem dX7_sizeOf_164 : decode cX7_sizeOf 164 = .ok (.aload_n 0, 1) := by decide +kernel
theorem dX7_sizeOf_165 : decode cX7_sizeOf 165 = .ok (.getfield 16, 3) := by decide +kernel
theorem dX7_sizeOf_168 : decode cX7_sizeOf 168 = .ok (.iload_n 1, 1) := by decide +kernel
theorem dX7_sizeOf_169 : decode cX7_sizeOf 169 = .ok (.iaload, 1) := by decide +kernel
theorem dX7_sizeOf_170 : decode cX7_sizeOf 170 = .ok (.ireturn, 1) := by decide +kernel
theorem dX7_sizeOf_171 : decode cX7_sizeOf 171 = .ok (.iconst 1, 1) := by decide +kernel
theorem dX7_sizeOf_172 : decode cX7_sizeOf 172 = .ok (.ireturn, 1) := by decide +kernel
theorem dX7_sizeOf_173 : decode cX7_sizeOf 173 = .ok (.iload_n 3, 1) := by decide +kernel
theorem dX7_sizeOf_174 : decode cX7_sizeOf 174 = .ok (.iconst 1, 1) := by decide +kernel
theorem dX7_sizeOf_175 : decode cX7_sizeOf 175 = .ok (.if_icmp .ne 12, 3) := by decide +kernel
theorem dX7_sizeOf_178 : decode cX7_sizeOf 178 = .ok (.aload_n 0, 1) := by decide +kernel
theorem dX7_sizeOf_179 : decode cX7_sizeOf 179 = .ok (.getfield 13, 3) := by decide +kernel
theorem dX7_sizeOf_182 : decode cX7_sizeOf 182 = .ok (.iload_n 1, 1) := by decide +kernel
theorem dX7_sizeOf_183 : decode cX7_sizeOf 183 = .ok (.iaload, 1) := by decide +kernel
theorem dX7_sizeOf_184 : decode cX7_sizeOf 184 = .ok (.goto 4, 3) := by decide +kernel
theorem dX7_sizeOf_187 : decode cX7_sizeOf 187 = .ok (.iconst (-1), 1) := by decide +kernel
theorem dX7_sizeOf_188 : decode cX7_sizeOf 188 = .ok (.ireturn, 1) := by decide +kernel
set_option maxRecDepth 20000 in
theorem ggX7_isReady_X7_inputs : GoodIn wsX7_isReady wsX7_inputs := goodIn_r _ [7] (by decide +kernel) (by decide +kernel)
set_option maxRecDepth 20000 in
theorem gX7_isReady_X7_inputs : GoodIn wsX7_isReady (va_wsS RX7 94 yX7_inputs wsX7_inputs) := goodIn_app (goodIn_of _ (by decide +kernel)) ggX7_isReady_X7_inputs
theorem dX7_isReady_0 : decode cX7_isReady 0 = .ok (.iconst 1, 1) := by decide +kernel
theorem dX7_isReady_1 : decode cX7_isReady 1 = .ok (.istore_n 2, 1) := by decide +kernel
theorem dX7_isReady_2 : decode cX7_isReady 2 = .ok (.iconst 0, 1) := by decide +kernel
theorem dX7_isReady_3 : decode cX7_isReady 3 = .ok (.istore_n 3, 1) := by decide +kernel
theorem dX7_isReady_4 : decode cX7_isReady 4 = .ok (.iload_n 3, 1) := by decide +kernel
theorem dX7_isReady_5 : decode cX7_isReady 5 = .ok (.aload_n 0, 1) := by decide +kernel
theorem dX7_isReady_6 : decode cX7_isReady 6 = .ok (.getfield 7, 3) := by decide +kernel
theorem dX7_isReady_9 : decode cX7_isReady 9 = .ok (.iload_n 1, 1) := by decide +kernel
theorem dX7_isReady_10 : decode cX7_isReady 10 = .ok (.iaload, 1) := by decide +kernel
theorem dX7_isReady_11 : decode cX7_isReady 11 = .ok (.invokestatic 94, 3) := by decide +kernel
theorem dX7_isReady_14 : decode cX7_isReady 14 = .ok (.if_icmp .ge 37, 3) := by decide +kernel
theorem dX7_isReady_17 : decode cX7_isReady 17 = .ok (.iload_n 2, 1) := by decide +kernel
theorem dX7_isReady_18 : decode cX7_isReady 18 = .ok (.ifCond .eq 25, 3) := by decide +kernel
theorem dX7_isReady_21 : decode cX7_isReady 21 = .ok (.aload_n 0, 1) := by decide +kernel
theorem dX7_isReady_22 : decode cX7_isReady 22 = .ok (.getfield 56, 3) := by decide +kernel
theorem dX7_isReady_25 : decode cX7_isReady 25 = .ok (.aload_n 0, 1) := by decide +kernel
theorem dX7_isReady_26 : decode cX7_isReady 26 = .ok (.getfield 19, 3) := by decide +kernel
theorem dX7_isReady_29 : decode cX7_isReady 29 = .ok (.iconst 2, 1) := by decide +kernel
theorem dX7_isReady_30 : decode cX7_isReady 30 = .ok (.iload_n 1, 1) := by decide +kernel
theorem dX7_isReady_31 : decode cX7_isReady 31 = .ok (.imul, 1) := by decide +kernel
theorem dX7_isReady_32 : decode cX7_isReady 32 = .ok (.iload_n 3, 1) := by decide +kernel
theorem dX7_isReady_33 : decode cX7_isReady 33 = .ok (.iadd, 1) := by decide +kernel
theorem dX7_isReady_34 : decode cX7_isReady 34 = .ok (.iaload, 1) := by decide +kernel
theorem dX7_isReady_35 : decode cX7_isReady 35 = .ok (.baload, 1) := by decide +kernel
theorem dX7_isReady_36 : decode cX7_isReady 36 = .ok (.ifCond .eq 7, 3) := by decide +kernel
theorem dX7_isReady_39 : decode cX7_isReady 39 = .ok (.iconst 1, 1) := by decide +kernel
theorem dX7_isReady_40 : decode cX7_isReady 40 = .ok (.goto 4, 3) := by decide +kernel
theorem dX7_isReady_43 : decode cX7_isReady 43 = .ok (.iconst 0, 1) := by decide +kernel
theorem dX7_isReady_44 : decode cX7_isReady 44 = .ok (.istore_n 2, 1) := by decide +kernel
theorem dX7_isReady_45 : decode cX7_isReady 45 = .ok (.iinc 3 1, 3) := by decide +kernel
theorem dX7_isReady_48 : decode cX7_isReady 48 = .ok (.goto (-44), 3) := by decide +kernel
theorem dX7_isReady_51 : decode cX7_isReady 51 = .ok (.iload_n 2, 1) := by decide +kernel
theorem dX7_isReady_52 : decode cX7_isReady 52 = .ok (.ireturn, 1) := by decide +kernel
set_option maxRecDepth 20000 in
theorem ggX7_labelOf_X7_inputs : GoodIn wsX7_labelOf wsX7_inputs := goodIn_r _ [7] (by decide +kernel) (by decide +kernel)
set_option maxRecDepth 20000 in
theorem gX7_labelOf_X7_inputs : GoodIn wsX7_labelOf (va_wsS RX7 94 yX7_inputs wsX7_inputs) := goodIn_app (goodIn_of _ (by decide +kernel)) ggX7_labelOf_X7_inputs
theorem dX7_labelOf_0 : decode cX7_labelOf 0 = .ok (.aload_n 0, 1) := by decide +kernel
theorem dX7_labelOf_1 : decode cX7_labelOf 1 = .ok (.getfield 7, 3) := by decide +kernel
theorem dX7_labelOf_4 : decode cX7_labelOf 4 = .ok (.iload_n 1, 1) := by decide +kernel
theorem dX7_labelOf_5 : decode cX7_labelOf 5 = .ok (.iaload, 1) := by decide +kernel
theorem dX7_labelOf_6 : decode cX7_labelOf 6 = .ok (.invokestatic 94, 3) := by decide +kernel
theorem dX7_labelOf_9 : decode cX7_labelOf 9 = .ok (.istore_n 2, 1) := by decide +kernel
theorem dX7_labelOf_10 : decode cX7_labelOf 10 = .ok (.iload_n 2, 1) := by decide +kernel
theorem dX7_labelOf_11 : decode cX7_labelOf 11 = .ok (.ifCond .le 19, 3) := by decide +kernel
theorem dX7_labelOf_14 : decode cX7_labelOf 14 = .ok (.aload_n 0, 1) := by decide +kernel
theorem dX7_labelOf_15 : decode cX7_labelOf 15 = .ok (.getfield 38, 3) := by decide +kernel
theorem dX7_labelOf_18 : decode cX7_labelOf 18 = .ok (.aload_n 0, 1) := by decide +kernel
theorem dX7_labelOf_19 : decode cX7_labelOf 19 = .ok (.getfield 19, 3) := by decide +kernel
theorem dX7_labelOf_22 : decode cX7_labelOf 22 = .ok (.iconst 2, 1) := by decide +kernel
theorem dX7_labelOf_23 : decode cX7_labelOf 23 = .ok (.iload_n 1, 1) := by decide +kernel
theorem dX7_labelOf_24 : decode cX7_labelOf 24 = .ok (.imul, 1) := by decide +kernel
theorem dX7_labelOf_25 : decode cX7_labelOf 25 = .ok (.iaload, 1) := by decide +kernel
theorem dX7_labelOf_26 : decode cX7_labelOf 26 = .ok (.iaload, 1) := by decide +kernel
theorem dX7_labelOf_27 : decode cX7_labelOf 27 = .ok (.goto 4, 3) := by decide +kernel
theorem dX7_labelOf_30 : decode cX7_labelOf 30 = .ok (.iconst 0, 1) := by decide +kernel
theorem dX7_labelOf_31 : decode cX7_labelOf 31 = .ok (.istore_n 3, 1) := by decide +kernel
theorem dX7_labelOf_32 : decode cX7_labelOf 32 = .ok (.iload_n 2, 1) := by decide +kernel
theorem dX7_labelOf_33 : decode cX7_labelOf 33 = .ok (.iconst 1, 1) := by decide +kernel
theorem dX7_labelOf_34 : decode cX7_labelOf 34 = .ok (.if_icmp .le 21, 3) := by decide +kernel
theorem dX7_labelOf_37 : decode cX7_labelOf 37 = .ok (.aload_n 0, 1) := by decide +kernel
theorem dX7_labelOf_38 : decode cX7_labelOf 38 = .ok (.getfield 38, 3) := by decide +kernel
theorem dX7_labelOf_41 : decode cX7_labelOf 41 = .ok (.aload_n 0, 1) := by decide +kernel
theorem dX7_labelOf_42 : decode cX7_labelOf 42 = .ok (.getfield 19, 3) := by decide +kernel
theorem dX7_labelOf_45 : decode cX7_labelOf 45 = .ok (.iconst 2, 1) := by decide +kernel
theorem dX7_labelOf_46 : decode cX7_labelOf 46 = .ok (.iload_n 1, 1) := by decide +kernel
theorem dX7_labelOf_47 : decode cX7_labelOf 47 = .ok (.imul, 1) := by decide +kernel
theorem dX7_labelOf_48 : decode cX7_labelOf 48 = .ok (.iconst 1, 1) := by decide +kernel
theorem dX7_labelOf_49 : decode cX7_labelOf 49 = .ok (.iadd, 1) := by decide +kernel
theorem dX7_labelOf_50 : decode cX7_labelOf 50 = .ok (.iaload, 1) := by decide +kernel
theorem dX7_labelOf_51 : decode cX7_labelOf 51 = .ok (.iaload, 1) := by decide +kernel
theorem dX7_labelOf_52 : decode cX7_labelOf 52 = .ok (.goto 4, 3) := by decide +kernel
theorem dX7_labelOf_55 : decode cX7_labelOf 55 = .ok (.iconst 0, 1) := by decide +kernel
theorem dX7_labelOf_56 : decode cX7_labelOf 56 = .ok (.istore 4, 2) := by decide +kernel
theorem dX7_labelOf_58 : decode cX7_labelOf 58 = .ok (.iload_n 3, 1) := by decide +kernel
theorem dX7_labelOf_59 : decode cX7_labelOf 59 = .ok (.iload 4, 2) := by decide +kernel
theorem dX7_labelOf_61 : decode cX7_labelOf 61 = .ok (.if_icmp .ge 8, 3) := by decide +kernel
theorem dX7_labelOf_64 : decode cX7_labelOf 64 = .ok (.iload 4, 2) := by decide +kernel
theorem dX7_labelOf_66 : decode cX7_labelOf 66 = .ok (.goto 4, 3) := by decide +kernel
theorem dX7_labelOf_69 : decode cX7_labelOf 69 = .ok (.iload_n 3, 1) := by decide +kernel
theorem dX7_labelOf_70 : decode cX7_labelOf 70 = .ok (.istore 5, 2) := by decide +kernel
theorem dX7_labelOf_72 : decode cX7_labelOf 72 = .ok (.iload_n 3, 1) := by decide +kernel
theorem dX7_labelOf_73 : decode cX7_labelOf 73 = .ok (.iload 4, 2) := by decide +kernel
theorem dX7_labelOf_75 : decode cX7_labelOf 75 = .ok (.if_icmp .ge 7, 3) := by decide +kernel
theorem dX7_labelOf_78 : decode cX7_labelOf 78 = .ok (.iload_n 3, 1) := by decide +kernel
theorem dX7_labelOf_79 : decode cX7_labelOf 79 = .ok (.goto 5, 3) := by decide +kernel
theorem dX7_labelOf_82 : decode cX7_labelOf 82 = .ok (.iload 4, 2) := by decide +kernel
theorem dX7_labelOf_84 : decode cX7_labelOf 84 = .ok (.istore 6, 2) := by decide +kernel
theorem dX7_labelOf_86 : decode cX7_labelOf 86 = .ok (.iload 6, 2) := by decide +kernel
theorem dX7_labelOf_88 : decode cX7_labelOf 88 = .ok (.iconst 1, 1) := by decide +kernel
theorem dX7_labelOf_89 : decode cX7_labelOf 89 = .ok (.iadd, 1) := by decide +kernel
theorem dX7_labelOf_90 : decode cX7_labelOf 90 = .ok (.iconst 3, 1) := by decide +kernel
theorem dX7_labelOf_91 : decode cX7_labelOf 91 = .ok (.if_icmp .le 10, 3) := by decide +kernel
theorem dX7_labelOf_94 : decode cX7_labelOf 94 = .ok (.iload 6, 2) := by decide +kernel
theorem dX7_labelOf_96 : decode cX7_labelOf 96 = .ok (.iconst 1, 1) := by decide +kernel
theorem dX7_labelOf_97 : decode cX7_labelOf 97 = .ok (.iadd, 1) := by decide +kernel
theorem dX7_labelOf_98 : decode cX7_labelOf 98 = .ok (.goto 4, 3) := by decide +kernel
theorem dX7_labelOf_101 : decode cX7_labelOf 101 = .ok (.iconst 3, 1) := by decide +kernel
theorem dX7_labelOf_102 : decode cX7_labelOf 102 = .ok (.istore 7, 2) := by decide +kernel
theorem dX7_labelOf_104 : decode cX7_labelOf 104 = .ok (.aload_n 0, 1) := by decide +kernel
theorem dX7_labelOf_105 : decode cX7_labelOf 105 = .ok (.getfield 38, 3) := by decide +kernel
theorem dX7_labelOf_108 : decode cX7_labelOf 108 = .ok (.iload_n 1, 1) := by decide +kernel
theorem dX7_labelOf_109 : decode cX7_labelOf 109 = .ok (.iload_n 2, 1) := by decide +kernel
theorem dX7_labelOf_110 : decode cX7_labelOf 110 = .ok (.ifCond .ne 7, 3) := by decide +kernel
theorem dX7_labelOf_113 : decode cX7_labelOf 113 = .ok (.iconst 1, 1) := by decide +kernel
theorem dX7_labelOf_114 : decode cX7_labelOf 114 = .ok (.goto 35, 3) := by decide +kernel
theorem dX7_labelOf_117 : decode cX7_labelOf 117 = .ok (.iload_n 2, 1) := by decide +kernel
theorem dX7_labelOf_118 : decode cX7_labelOf 118 = .ok (.iconst 1, 1) := by decide +kernel
theorem dX7_labelOf_119 : decode cX7_labelOf 119 = .ok (.if_icmp .ne 16, 3) := by decide +kernel
theorem dX7_labelOf_122 : decode cX7_labelOf 122 = .ok (.iload_n 3, 1) := by decide +kernel
theorem dX7_labelOf_123 : decode cX7_labelOf 123 = .ok (.iconst 2, 1) := by decide +kernel
theorem dX7_labelOf_124 : decode cX7_labelOf 124 = .ok (.if_icmp .ge 7, 3) := by decide +kernel
theorem dX7_labelOf_127 : decode cX7_labelOf 127 = .ok (.iconst 2, 1) := by decide +kernel
theorem dX7_labelOf_128 : decode cX7_labelOf 128 = .ok (.goto 21, 3) := by decide +kernel
theorem dX7_labelOf_131 : decode cX7_labelOf 131 = .ok (.iload_n 3, 1) := by decide +kernel
theorem dX7_labelOf_132 : decode cX7_labelOf 132 = .ok (.goto 17, 3) := by decide +kernel
theorem dX7_labelOf_135 : decode cX7_labelOf 135 = .ok (.iload 5, 2) := by decide +kernel
theorem dX7_labelOf_137 : decode cX7_labelOf 137 = .ok (.iload 7, 2) := by decide +kernel
theorem dX7_labelOf_139 : decode cX7_labelOf 139 = .ok (.if_icmp .le 8, 3) := by decide +kernel
theorem dX7_labelOf_142 : decode cX7_labelOf 142 = .ok (.iload 5, 2) := by decide +kernel
theorem dX7_labelOf_144 : decode cX7_labelOf 144 = .ok (.goto 5, 3) := by decide +kernel
theorem dX7_labelOf_147 : decode cX7_labelOf 147 = .ok (.iload 7, 2) := by decide +kernel
theorem dX7_labelOf_149 : decode cX7_labelOf 149 = .ok (.iastore, 1) := by decide +kernel
theorem dX7_labelOf_150 : decode cX7_labelOf 150 = .ok (.return_, 1) := by decide +kernel
set_option maxRecDepth 20000 in
theorem ggX7_findSizes_X7_isReady : GoodIn wsX7_findSizes wsX7_isReady := goodIn_ca (goodIn_r _ [8, 9, 2, 10, 11, 12, 7, 13, 20, 21, 22, 23, 24, 25, 26, 27, 28, 29, 30, 31, 32, 33, 34, 35, 36, 37, 38, 39, 40, 41, 42, 43, 44, 45, 46, 47, 48, 49] (by decide +kernel) (by decide +kernel)) (goodIn_sub (fun _ h => List.mem_cons_of_mem _ (List.mem_append_right _ h)) (by decide +kernel))
set_option maxRecDepth 20000 in
theorem gX7_findSizes_X7_isReady : GoodIn wsX7_findSizes (wsV RX7 113 RX7 yX7_isReady wsX7_isReady) := goodIn_app (goodIn_of _ (by decide +kernel)) ggX7_findSizes_X7_isReady
set_option maxRecDepth 20000 in
theorem ggX7_findSizes_X7_sizeOf : GoodIn wsX7_findSizes wsX7_sizeOf := goodIn_ca (goodIn_r _ [17, 9, 3, 10, 18, 19, 11, 12, 7, 13, 20, 21, 22, 23, 24, 25, 26, 27, 28, 29, 30, 31, 32, 33, 34, 35, 36, 37, 38, 39, 40, 41, 42, 43, 44, 45, 46, 47, 48, 49] (by decide +kernel) (by decide +kernel)) (goodIn_sub (fun _ h => List.mem_cons_of_mem _ (List.mem_append_right _ h)) (by decide +kernel))
set_option maxRecDepth 20000 in
theorem gX7_findSizes_X7_sizeOf : GoodIn wsX7_findSizes (wsV RX7 116 RX7 yX7_sizeOf wsX7_sizeOf) := goodIn_app (goodIn_of _ (by decide +kernel)) ggX7_findSizes_X7_sizeOf
theorem dX7_findSizes_0 : decode cX7_findSizes 0 = .ok (.iconst 0, 1) := by decide +kernel
theorem dX7_findSizes_1 : decode cX7_findSizes 1 = .ok (.istore_n 1, 1) := by decide +kernel
theorem dX7_findSizes_2 : decode cX7_findSizes 2 = .ok (.iload_n 1, 1) := by decide +kernel
theorem dX7_findSizes_3 : decode cX7_findSizes 3 = .ok (.aload_n 0, 1) := by decide +kernel
theorem dX7_findSizes_4 : decode cX7_findSizes 4 = .ok (.getfield 75, 3) := by decide +kernel
theorem dX7_findSizes_7 : decode cX7_findSizes 7 = .ok (.if_icmp .ge 16, 3) := by decide +kernel
theorem dX7_findSizes_10 : decode cX7_findSizes 10 = .ok (.aload_n 0, 1) := by decide +kernel
theorem dX7_findSizes_11 : decode cX7_findSizes 11 = .ok (.getfield 56, 3) := by decide +kernel
theorem dX7_findSizes_14 : decode cX7_findSizes 14 = .ok (.iload_n 1, 1) := by decide +kernel
theorem dX7_findSizes_15 : decode cX7_findSizes 15 = .ok (.iconst 0, 1) := by decide +kernel
theorem dX7_findSizes_16 : decode cX7_findSizes 16 = .ok (.bastore, 1) := by decide +kernel
theorem dX7_findSizes_17 : decode cX7_findSizes 17 = .ok (.iinc 1 1, 3) := by decide +kernel
theorem dX7_findSizes_20 : decode cX7_findSizes 20 = .ok (.goto (-18), 3) := by decide +kernel
theorem dX7_findSizes_23 : decode cX7_findSizes 23 = .ok (.iconst 0, 1) := by decide +kernel
theorem dX7_findSizes_24 : decode cX7_findSizes 24 = .ok (.istore_n 1, 1) := by decide +kernel
theorem dX7_findSizes_25 : decode cX7_findSizes 25 = .ok (.iload_n 1, 1) := by decide +kernel
theorem dX7_findSizes_26 : decode cX7_findSizes 26 = .ok (.aload_n 0, 1) := by decide +kernel
theorem dX7_findSizes_27 : decode cX7_findSizes 27 = .ok (.getfield 75, 3) := by decide +kernel
theorem dX7_findSizes_30 : decode cX7_findSizes 30 = .ok (.if_icmp .ge 71, 3) := by decide +kernel
theorem dX7_findSizes_33 : decode cX7_findSizes 33 = .ok (.iconst 0, 1) := by decide +kernel
theorem dX7_findSizes_34 : decode cX7_findSizes 34 = .ok (.istore_n 2, 1) := by decide +kernel
theorem dX7_findSizes_35 : decode cX7_findSizes 35 = .ok (.iload_n 2, 1) := by decide +kernel
theorem dX7_findSizes_36 : decode cX7_findSizes 36 = .ok (.aload_n 0, 1) := by decide +kernel
theorem dX7_findSizes_37 : decode cX7_findSizes 37 = .ok (.getfield 75, 3) := by decide +kernel
theorem dX7_findSizes_40 : decode cX7_findSizes 40 = .ok (.if_icmp .ge 55, 3) := by decide +kernel
theorem dX7_findSizes_43 : decode cX7_findSizes 43 = .ok (.aload_n 0, 1) := by decide +kernel
theorem dX7_findSizes_44 : decode cX7_findSizes 44 = .ok (.getfield 56, 3) := by decide +kernel
theorem dX7_findSizes_47 : decode cX7_findSizes 47 = .ok (.iload_n 2, 1) := by decide +kernel
theorem dX7_findSizes_48 : decode cX7_findSizes 48 = .ok (.baload, 1) := by decide +kernel
theorem dX7_findSizes_49 : decode cX7_findSizes 49 = .ok (.ifCond .ne 40, 3) := by decide +kernel
theorem dX7_findSizes_52 : decode cX7_findSizes 52 = .ok (.aload_n 0, 1) := by decide +kernel
theorem dX7_findSizes_53 : decode cX7_findSizes 53 = .ok (.iload_n 2, 1) := by decide +kernel
theorem dX7_findSizes_54 : decode cX7_findSizes 54 = .ok (.invokevirtual 113, 3) := by decide +kernel
theorem dX7_findSizes_57 : decode cX7_findSizes 57 = .ok (.ifCond .eq 32, 3) := by decide +kernel
theorem dX7_findSizes_60 : decode cX7_findSizes 60 = .ok (.aload_n 0, 1) := by decide +kernel
theorem dX7_findSizes_61 : decode cX7_findSizes 61 = .ok (.getfield 53, 3) := by decide +kernel
theorem dX7_findSizes_64 : decode cX7_findSizes 64 = .ok (.iload_n 2, 1) := by decide +kernel
theorem dX7_findSizes_65 : decode cX7_findSizes 65 = .ok (.aload_n 0, 1) := by decide +kernel
theorem dX7_findSizes_66 : decode cX7_findSizes 66 = .ok (.iload_n 2, 1) := by decide +kernel
theorem dX7_findSizes_67 : decode cX7_findSizes 67 = .ok (.invokevirtual 116, 3) := by decide +kernel
theorem dX7_findSizes_70 : decode cX7_findSizes 70 = .ok (.iastore, 1) := by decide +kernel
theorem dX7_findSizes_71 : decode cX7_findSizes 71 = .ok (.aload_n 0, 1) := by decide +kernel
theorem dX7_findSizes_72 : decode cX7_findSizes 72 = .ok (.getfield 53, 3) := by decide +kernel
theorem dX7_findSizes_75 : decode cX7_findSizes 75 = .ok (.iload_n 2, 1) := by decide +kernel
theorem dX7_findSizes_76 : decode cX7_findSizes 76 = .ok (.iaload, 1) := by decide +kernel
theorem dX7_findSizes_77 : decode cX7_findSizes 77 = .ok (.ifCond .ge 5, 3) := by decide +kernel
theorem dX7_findSizes_80 : decode cX7_findSizes 80 = .ok (.iconst 0, 1) := by decide +kernel
theorem dX7_findSizes_81 : decode cX7_findSizes 81 = .ok (.ireturn, 1) := by decide +kernel
theorem dX7_findSizes_82 : decode cX7_findSizes 82 = .ok (.aload_n 0, 1) := by decide +kernel
theorem dX7_findSizes_83 : decode cX7_findSizes 83 = .ok (.getfield 56, 3) := by decide +kernel
theorem dX7_findSizes_86 : decode cX7_findSizes 86 = .ok (.iload_n 2, 1) := by decide +kernel
theorem dX7_findSizes_87 : decode cX7_findSizes 87 = .ok (.iconst 1, 1) := by decide +kernel
theorem dX7_findSizes_88 : decode cX7_findSizes 88 = .ok (.bastore, 1) := by decide +kernel
theorem dX7_findSizes_89 : decode cX7_findSizes 89 = .ok (.iinc 2 1, 3) := by decide +kernel
theorem dX7_findSizes_92 : decode cX7_findSizes 92 = .ok (.goto (-57), 3) := by decide +kernel
theorem dX7_findSizes_95 : decode cX7_findSizes 95 = .ok (.iinc 1 1, 3) := by decide +kernel
theorem dX7_findSizes_98 : decode cX7_findSizes 98 = .ok (.goto (-73), 3) := by decide +kernel
theorem dX7_findSizes_101 : decode cX7_findSizes 101 = .ok (.iconst 1, 1) := by decide +kernel
theorem dX7_findSizes_102 : decode cX7_findSizes 102 = .ok (.ireturn, 1) := by decide +kernel
theorem dX7_come_0 : decode cX7_come 0 = .ok (.aload_n 0, 1) := by decide +kernel
theorem dX7_come_1 : decode cX7_come 1 = .ok (.getfield 44, 3) := by decide +kernel
theorem dX7_come_4 : decode cX7_come 4 = .ok (.iload_n 1, 1) := by decide +kernel
theorem dX7_come_5 : decode cX7_come 5 = .ok (.aload_n 0, 1) := by decide +kernel
theorem dX7_come_6 : decode cX7_come 6 = .ok (.getfield 119, 3) := by decide +kernel
theorem dX7_come_9 : decode cX7_come 9 = .ok (.iastore, 1) := by decide +kernel
theorem dX7_come_10 : decode cX7_come 10 = .ok (.aload_n 0, 1) := by decide +kernel
theorem dX7_come_11 : decode cX7_come 11 = .ok (.getfield 41, 3) := by decide +kernel
theorem dX7_come_14 : decode cX7_come 14 = .ok (.aload_n 0, 1) := by decide +kernel
theorem dX7_come_15 : decode cX7_come 15 = .ok (.getfield 119, 3) := by decide +kernel
theorem dX7_come_18 : decode cX7_come 18 = .ok (.iload_n 1, 1) := by decide +kernel
theorem dX7_come_19 : decode cX7_come 19 = .ok (.iastore, 1) := by decide +kernel
theorem dX7_come_20 : decode cX7_come 20 = .ok (.aload_n 0, 1) := by decide +kernel
theorem dX7_come_21 : decode cX7_come 21 = .ok (.dup, 1) := by decide +kernel
theorem dX7_come_22 : decode cX7_come 22 = .ok (.getfield 119, 3) := by decide +kernel
theorem dX7_come_25 : decode cX7_come 25 = .ok (.iconst 1, 1) := by decide +kernel
theorem dX7_come_26 : decode cX7_come 26 = .ok (.iadd, 1) := by decide +kernel
theorem dX7_come_27 : decode cX7_come 27 = .ok (.putfield 119, 3) := by decide +kernel
theorem dX7_come_30 : decode cX7_come 30 = .ok (.return_, 1) := by decide +kernel
theorem dX7_isThere_0 : decode cX7_isThere 0 = .ok (.aload_n 0, 1) := by decide +kernel
theorem dX7_isThere_1 : decode cX7_isThere 1 = .ok (.getfield 44, 3) := by decide +kernel
theorem dX7_isThere_4 : decode cX7_isThere 4 = .ok (.iload_n 1, 1) := by decide +kernel
theorem dX7_isThere_5 : decode cX7_isThere 5 = .ok (.iaload, 1) := by decide +kernel
theorem dX7_isThere_6 : decode cX7_isThere 6 = .ok (.ifCond .lt 7, 3) := by decide +kernel
theorem dX7_isThere_9 : decode cX7_isThere 9 = .ok (.iconst 1, 1) := by decide +kernel
theorem dX7_isThere_10 : decode cX7_isThere 10 = .ok (.goto 4, 3) := by decide +kernel
theorem dX7_isThere_13 : decode cX7_isThere 13 = .ok (.iconst 0, 1) := by decide +kernel
theorem dX7_isThere_14 : decode cX7_isThere 14 = .ok (.ireturn, 1) := by decide +kernel
set_option maxRecDepth 20000 in
theorem ggX7_isFree_X7_inputs : GoodIn wsX7_isFree wsX7_inputs := goodIn_r _ [6] (by decide +kernel) (by decide +kernel)
set_option maxRecDepth 20000 in
theorem gX7_isFree_X7_inputs : GoodIn wsX7_isFree (va_wsS RX7 94 yX7_inputs wsX7_inputs) := goodIn_app (goodIn_of _ (by decide +kernel)) ggX7_isFree_X7_inputs
set_option maxRecDepth 20000 in
theorem ggX7_isFree_X7_isThere : GoodIn wsX7_isFree wsX7_isThere := goodIn_ca (goodIn_r _ [10, 11, 12, 13, 14, 15, 16, 17, 18, 19, 20, 21, 22, 23, 24, 25, 26, 27, 28, 29, 30, 31, 32, 33, 34, 35, 36, 37, 38, 39, 40, 41] (by decide +kernel) (by decide +kernel)) (goodIn_sub (fun _ h => List.mem_cons_of_mem _ (List.mem_append_right _ h)) (by decide +kernel))
set_option maxRecDepth 20000 in
theorem gX7_isFree_X7_isThere : GoodIn wsX7_isFree (wsV RX7 122 RX7 yX7_isThere wsX7_isThere) := goodIn_app (goodIn_of _ (by decide +kernel)) ggX7_isFree_X7_isThere
theorem dX7_isFree_0 : decode cX7_isFree 0 = .ok (.iconst 1, 1) := by decide +kernel
theorem dX7_isFree_1 : decode cX7_isFree 1 = .ok (.istore_n 2, 1) := by decide +kernel
theorem dX7_isFree_2 : decode cX7_isFree 2 = .ok (.iconst 0, 1) := by decide +kernel
theorem dX7_isFree_3 : decode cX7_isFree 3 = .ok (.istore_n 3, 1) := by decide +kernel
theorem dX7_isFree_4 : decode cX7_isFree 4 = .ok (.iload_n 3, 1) := by decide +kernel
theorem dX7_isFree_5 : decode cX7_isFree 5 = .ok (.aload_n 0, 1) := by decide +kernel
theorem dX7_isFree_6 : decode cX7_isFree 6 = .ok (.getfield 7, 3) := by decide +kernel
theorem dX7_isFree_9 : decode cX7_isFree 9 = .ok (.iload_n 1, 1) := by decide +kernel
theorem dX7_isFree_10 : decode cX7_isFree 10 = .ok (.iaload, 1) := by decide +kernel
theorem dX7_isFree_11 : decode cX7_isFree 11 = .ok (.invokestatic 94, 3) := by decide +kernel
theorem dX7_isFree_14 : decode cX7_isFree 14 = .ok (.if_icmp .ge 36, 3) := by decide +kernel
theorem dX7_isFree_17 : decode cX7_isFree 17 = .ok (.iload_n 2, 1) := by decide +kernel
theorem dX7_isFree_18 : decode cX7_isFree 18 = .ok (.ifCond .eq 24, 3) := by decide +kernel
theorem dX7_isFree_21 : decode cX7_isFree 21 = .ok (.aload_n 0, 1) := by decide +kernel
theorem dX7_isFree_22 : decode cX7_isFree 22 = .ok (.aload_n 0, 1) := by decide +kernel
theorem dX7_isFree_23 : decode cX7_isFree 23 = .ok (.getfield 19, 3) := by decide +kernel
theorem dX7_isFree_26 : decode cX7_isFree 26 = .ok (.iconst 2, 1) := by decide +kernel
theorem dX7_isFree_27 : decode cX7_isFree 27 = .ok (.iload_n 1, 1) := by decide +kernel
theorem dX7_isFree_28 : decode cX7_isFree 28 = .ok (.imul, 1) := by decide +kernel
theorem dX7_isFree_29 : decode cX7_isFree 29 = .ok (.iload_n 3, 1) := by decide +kernel
theorem dX7_isFree_30 : decode cX7_isFree 30 = .ok (.iadd, 1) := by decide +kernel
theorem dX7_isFree_31 : decode cX7_isFree 31 = .ok (.iaload, 1) := by decide +kernel
theorem dX7_isFree_32 : decode cX7_isFree 32 = .ok (.invokevirtual 122, 3) := by decide +kernel
theorem dX7_isFree_35 : decode cX7_isFree 35 = .ok (.ifCond .eq 7, 3) := by decide +kernel
theorem dX7_isFree_38 : decode cX7_isFree 38 = .ok (.iconst 1, 1) := by decide +kernel
theorem dX7_isFree_39 : decode cX7_isFree 39 = .ok (.goto 4, 3) := by decide +kernel
theorem dX7_isFree_42 : decode cX7_isFree 42 = .ok (.iconst 0, 1) := by decide +kernel
theorem dX7_isFree_43 : decode cX7_isFree 43 = .ok (.istore_n 2, 1) := by decide +kernel
theorem dX7_isFree_44 : decode cX7_isFree 44 = .ok (.iinc 3 1, 3) := by decide +kernel
theorem dX7_isFree_47 : decode cX7_isFree 47 = .ok (.goto (-43), 3) := by decide +kernel
theorem dX7_isFree_50 : decode cX7_isFree 50 = .ok (.iload_n 2, 1) := by decide +kernel
theorem dX7_isFree_51 : decode cX7_isFree 51 = .ok (.ireturn, 1) := by decide +kernel
set_option maxRecDepth 20000 in
theorem ggX7_orderByNumbers_X7_isThere : GoodIn wsX7_orderByNumbers wsX7_isThere := goodIn_ca (goodIn_r _ [7, 8, 23, 24, 25, 26, 27, 28, 29, 30, 31, 32, 33, 34, 35, 36, 37, 38, 39, 40, 41, 42, 43, 44, 45, 46, 47, 48, 49, 50, 51, 52] (by decide +kernel) (by decide +kernel)) (goodIn_sub (fun _ h => List.mem_cons_of_mem _ (List.mem_append_right _ h)) (by decide +kernel))
set_option maxRecDepth 20000 in
theorem gX7_orderByNumbers_X7_isThere : GoodIn wsX7_orderByNumbers (wsV RX7 122 RX7 yX7_isThere wsX7_isThere) := goodIn_app (goodIn_of _ (by decide +kernel)) ggX7_orderByNumbers_X7_isThere
set_option maxRecDepth 20000 in
theorem ggX7_orderByNumbers_X7_isFree : GoodIn wsX7_orderByNumbers wsX7_isFree := goodIn_ca (goodIn_r _ [12, 13, 14, 15, 16, 6, 17, 3, 4, 5, 7, 8, 23, 24, 25, 26, 27, 28, 29, 30, 31, 32, 33, 34, 35, 36, 37, 38, 39, 40, 41, 42, 43, 44, 45, 46, 47, 48, 49, 50, 51, 52] (by decide +kernel) (by decide +kernel)) (goodIn_sub (fun _ h => List.mem_cons_of_mem _ (List.mem_append_right _ h)) (by decide +kernel))
set_option maxRecDepth 20000 in
theorem gX7_orderByNumbers_X7_isFree : GoodIn wsX7_orderByNumbers (wsV RX7 125 RX7 yX7_isFree wsX7_isFree) := goodIn_app (goodIn_of _ (by decide +kernel)) ggX7_orderByNumbers_X7_isFree
set_option maxRecDepth 20000 in
theorem ggX7_orderByNumbers_X7_come : GoodIn wsX7_orderByNumbers wsX7_come := goodIn_ca (goodIn_r _ [21, 8, 1, 22, 23, 24, 25, 26, 27, 28, 29, 30, 31, 32, 33, 34, 35, 36, 37, 38, 39, 40, 41, 42, 43, 44, 45, 46, 47, 48, 49, 50, 51, 52] (by decide +kernel) (by decide +kernel)) (goodIn_sub (fun _ h => List.mem_cons_of_mem _ (List.mem_append_right _ h)) (by decide +kernel))
set_option maxRecDepth 20000 in
theorem gX7_orderByNumbers_X7_come : GoodIn wsX7_orderByNumbers (wsV RX7 128 RX7 yX7_come wsX7_come) := goodIn_app (goodIn_of _ (by decide +kernel)) ggX7_orderByNumbers_X7_come
theorem dX7_orderByNumbers_0 : decode cX7_orderByNumbers 0 = .ok (.aload_n 0, 1) := by decide +kernel
theorem dX7_orderByNumbers_1 : decode cX7_orderByNumbers 1 = .ok (.getfield 119, 3) := by decide +kernel
theorem dX7_orderByNumbers_4 : decode cX7_orderByNumbers 4 = .ok (.aload_n 0, 1) := by decide +kernel
theorem dX7_orderByNumbers_5 : decode cX7_orderByNumbers 5 = .ok (.getfield 75, 3) := by decide +kernel
theorem dX7_orderByNumbers_8 : decode cX7_orderByNumbers 8 = .ok (.if_icmp .ge 35, 3) := by decide +kernel
theorem dX7_orderByNumbers_11 : decode cX7_orderByNumbers 11 = .ok (.iconst 0, 1) := by decide +kernel
theorem dX7_orderByNumbers_12 : decode cX7_orderByNumbers 12 = .ok (.istore_n 1, 1) := by decide +kernel
theorem dX7_orderByNumbers_13 : decode cX7_orderByNumbers 13 = .ok (.aload_n 0, 1) := by decide +kernel
theorem dX7_orderByNumbers_14 : decode cX7_orderByNumbers 14 = .ok (.iload_n 1, 1) := by decide +kernel
theorem dX7_orderByNumbers_15 : decode cX7_orderByNumbers 15 = .ok (.invokevirtual 122, 3) := by decide +kernel
theorem dX7_orderByNumbers_18 : decode cX7_orderByNumbers 18 = .ok (.ifCond .ne 11, 3) := by decide +kernel
theorem dX7_orderByNumbers_21 : decode cX7_orderByNumbers 21 = .ok (.aload_n 0, 1) := by decide +kernel
theorem dX7_orderByNumbers_22 : decode cX7_orderByNumbers 22 = .ok (.iload_n 1, 1) := by decide +kernel
theorem dX7_orderByNumbers_23 : decode cX7_orderByNumbers 23 = .ok (.invokevirtual 125, 3) := by decide +kernel
theorem dX7_orderByNumbers_26 : decode cX7_orderByNumbers 26 = .ok (.ifCond .ne 9, 3) := by decide +kernel
theorem dX7_orderByNumbers_29 : decode cX7_orderByNumbers 29 = .ok (.iinc 1 1, 3) := by decide +kernel
theorem dX7_orderByNumbers_32 : decode cX7_orderByNumbers 32 = .ok (.goto (-19), 3) := by decide +kernel
theorem dX7_orderByNumbers_35 : decode cX7_orderByNumbers 35 = .ok (.aload_n 0, 1) := by decide +kernel
theorem dX7_orderByNumbers_36 : decode cX7_orderByNumbers 36 = .ok (.iload_n 1, 1) := by decide +kernel
theorem dX7_orderByNumbers_37 : decode cX7_orderByNumbers 37 = .ok (.invokevirtual 128, 3) := by decide +kernel
theorem dX7_orderByNumbers_40 : decode cX7_orderByNumbers 40 = .ok (.goto (-40), 3) := by decide +kernel
theorem dX7_orderByNumbers_43 : decode cX7_orderByNumbers 43 = .ok (.return_, 1) := by decide +kernel
theorem dX7_isUsed_0 : decode cX7_isUsed 0 = .ok (.iconst 0, 1) := by decide +kernel
theorem dX7_isUsed_1 : decode cX7_isUsed 1 = .ok (.istore_n 2, 1) := by decide +kernel
theorem dX7_isUsed_2 : decode cX7_isUsed 2 = .ok (.iconst 0, 1) := by decide +kernel
theorem dX7_isUsed_3 : decode cX7_isUsed 3 = .ok (.istore_n 3, 1) := by decide +kernel
theorem dX7_isUsed_4 : decode cX7_isUsed 4 = .ok (.iload_n 3, 1) := by decide +kernel
theorem dX7_isUsed_5 : decode cX7_isUsed 5 = .ok (.iconst 2, 1) := by decide +kernel
theorem dX7_isUsed_6 : decode cX7_isUsed 6 = .ok (.aload_n 0, 1) := by decide +kernel
theorem dX7_isUsed_7 : decode cX7_isUsed 7 = .ok (.getfield 75, 3) := by decide +kernel
theorem dX7_isUsed_10 : decode cX7_isUsed 10 = .ok (.imul, 1) := by decide +kernel
theorem dX7_isUsed_11 : decode cX7_isUsed 11 = .ok (.if_icmp .ge 29, 3) := by decide +kernel
theorem dX7_isUsed_14 : decode cX7_isUsed 14 = .ok (.iload_n 2, 1) := by decide +kernel
theorem dX7_isUsed_15 : decode cX7_isUsed 15 = .ok (.ifCond .ne 13, 3) := by decide +kernel
theorem dX7_isUsed_18 : decode cX7_isUsed 18 = .ok (.aload_n 0, 1) := by decide +kernel
theorem dX7_isUsed_19 : decode cX7_isUsed 19 = .ok (.getfield 19, 3) := by decide +kernel
theorem dX7_isUsed_22 : decode cX7_isUsed 22 = .ok (.iload_n 3, 1) := by decide +kernel
theorem dX7_isUsed_23 : decode cX7_isUsed 23 = .ok (.iaload, 1) := by decide +kernel
theorem dX7_isUsed_24 : decode cX7_isUsed 24 = .ok (.iload_n 1, 1) := by decide +kernel
theorem dX7_isUsed_25 : decode cX7_isUsed 25 = .ok (.if_icmp .ne 7, 3) := by decide +kernel
theorem dX7_isUsed_28 : decode cX7_isUsed 28 = .ok (.iconst 1, 1) := by decide +kernel
theorem dX7_isUsed_29 : decode cX7_isUsed 29 = .ok (.goto 4, 3) := by decide +kernel
theorem dX7_isUsed_32 : decode cX7_isUsed 32 = .ok (.iconst 0, 1) := by decide +kernel
theorem dX7_isUsed_33 : decode cX7_isUsed 33 = .ok (.istore_n 2, 1) := by decide +kernel
theorem dX7_isUsed_34 : decode cX7_isUsed 34 = .ok (.iinc 3 1, 3) := by decide +kernel
theorem dX7_isUsed_37 : decode cX7_isUsed 37 = .ok (.goto (-33), 3) := by decide +kernel
theorem dX7_isUsed_40 : decode cX7_isUsed 40 = .ok (.iload_n 2, 1) := by decide +kernel
theorem dX7_isUsed_41 : decode cX7_isUsed 41 = .ok (.ireturn, 1) := by decide +kernel
set_option maxRecDepth 20000 in
theorem ggX7_due_X7_inputs : GoodIn wsX7_due wsX7_inputs := goodIn_r _ [7] (by decide +kernel) (by decide +kernel)
set_option maxRecDepth 20000 in
theorem gX7_due_X7_inputs : GoodIn wsX7_due (va_wsS RX7 94 yX7_inputs wsX7_inputs) := goodIn_app (goodIn_of _ (by decide +kernel)) ggX7_due_X7_inputs
set_option maxRecDepth 20000 in
theorem ggX7_due_X7_isThere : GoodIn wsX7_due wsX7_isThere := goodIn_ca (goodIn_r _ [11, 12, 13, 14, 15, 16, 17, 18, 19, 20, 21, 22, 23, 24, 25, 26, 27, 28, 29, 30, 31, 32, 33, 34, 35, 36, 37, 38, 39, 40, 41, 42] (by decide +kernel) (by decide +kernel)) (goodIn_sub (fun _ h => List.mem_cons_of_mem _ (List.mem_append_right _ h)) (by decide +kernel))
set_option maxRecDepth 20000 in
theorem gX7_due_X7_isThere : GoodIn wsX7_due (wsV RX7 122 RX7 yX7_isThere wsX7_isThere) := goodIn_app (goodIn_of _ (by decide +kernel)) ggX7_due_X7_isThere
theorem dX7_due_0 : decode cX7_due 0 = .ok (.aload_n 0, 1) := by decide +kernel
theorem dX7_due_1 : decode cX7_due 1 = .ok (.getfield 19, 3) := by decide +kernel
theorem dX7_due_4 : decode cX7_due 4 = .ok (.iconst 2, 1) := by decide +kernel
theorem dX7_due_5 : decode cX7_due 5 = .ok (.iload_n 1, 1) := by decide +kernel
theorem dX7_due_6 : decode cX7_due 6 = .ok (.imul, 1) := by decide +kernel
theorem dX7_due_7 : decode cX7_due 7 = .ok (.iaload, 1) := by decide +kernel
theorem dX7_due_8 : decode cX7_due 8 = .ok (.istore_n 2, 1) := by decide +kernel
theorem dX7_due_9 : decode cX7_due 9 = .ok (.aload_n 0, 1) := by decide +kernel
theorem dX7_due_10 : decode cX7_due 10 = .ok (.getfield 7, 3) := by decide +kernel
theorem dX7_due_13 : decode cX7_due 13 = .ok (.iload_n 1, 1) := by decide +kernel
theorem dX7_due_14 : decode cX7_due 14 = .ok (.iaload, 1) := by decide +kernel
theorem dX7_due_15 : decode cX7_due 15 = .ok (.invokestatic 94, 3) := by decide +kernel
theorem dX7_due_18 : decode cX7_due 18 = .ok (.iconst 1, 1) := by decide +kernel
theorem dX7_due_19 : decode cX7_due 19 = .ok (.if_icmp .le 16, 3) := by decide +kernel
theorem dX7_due_22 : decode cX7_due 22 = .ok (.aload_n 0, 1) := by decide +kernel
theorem dX7_due_23 : decode cX7_due 23 = .ok (.getfield 19, 3) := by decide +kernel
theorem dX7_due_26 : decode cX7_due 26 = .ok (.iconst 2, 1) := by decide +kernel
theorem dX7_due_27 : decode cX7_due 27 = .ok (.iload_n 1, 1) := by decide +kernel
theorem dX7_due_28 : decode cX7_due 28 = .ok (.imul, 1) := by decide +kernel
theorem dX7_due_29 : decode cX7_due 29 = .ok (.iconst 1, 1) := by decide +kernel
theorem dX7_due_30 : decode cX7_due 30 = .ok (.iadd, 1) := by decide +kernel
theorem dX7_due_31 : decode cX7_due 31 = .ok (.iaload, 1) := by decide +kernel
theorem dX7_due_32 : decode cX7_due 32 = .ok (.goto 4, 3) := by decide +kernel
theorem dX7_due_35 : decode cX7_due 35 = .ok (.iload_n 2, 1) := by decide +kernel
theorem dX7_due_36 : decode cX7_due 36 = .ok (.istore_n 3, 1) := by decide +kernel
theorem dX7_due_37 : decode cX7_due 37 = .ok (.aload_n 0, 1) := by decide +kernel
theorem dX7_due_38 : decode cX7_due 38 = .ok (.getfield 38, 3) := by decide +kernel
theorem dX7_due_41 : decode cX7_due 41 = .ok (.iload_n 3, 1) := by decide +kernel
theorem dX7_due_42 : decode cX7_due 42 = .ok (.iaload, 1) := by decide +kernel
theorem dX7_due_43 : decode cX7_due 43 = .ok (.aload_n 0, 1) := by decide +kernel
theorem dX7_due_44 : decode cX7_due 44 = .ok (.getfield 38, 3) := by decide +kernel
theorem dX7_due_47 : decode cX7_due 47 = .ok (.iload_n 2, 1) := by decide +kernel
theorem dX7_due_48 : decode cX7_due 48 = .ok (.iaload, 1) := by decide +kernel
theorem dX7_due_49 : decode cX7_due 49 = .ok (.if_icmp .le 7, 3) := by decide +kernel
theorem dX7_due_52 : decode cX7_due 52 = .ok (.iconst 1, 1) := by decide +kernel
theorem dX7_due_53 : decode cX7_due 53 = .ok (.goto 4, 3) := by decide +kernel
theorem dX7_due_56 : decode cX7_due 56 = .ok (.iconst 0, 1) := by decide +kernel
theorem dX7_due_57 : decode cX7_due 57 = .ok (.istore 4, 2) := by decide +kernel
theorem dX7_due_59 : decode cX7_due 59 = .ok (.iload 4, 2) := by decide +kernel
theorem dX7_due_61 : decode cX7_due 61 = .ok (.ifCond .eq 7, 3) := by decide +kernel
theorem dX7_due_64 : decode cX7_due 64 = .ok (.iload_n 3, 1) := by decide +kernel
theorem dX7_due_65 : decode cX7_due 65 = .ok (.goto 4, 3) := by decide +kernel
theorem dX7_due_68 : decode cX7_due 68 = .ok (.iload_n 2, 1) := by decide +kernel
theorem dX7_due_69 : decode cX7_due 69 = .ok (.istore 5, 2) := by decide +kernel
theorem dX7_due_71 : decode cX7_due 71 = .ok (.iload 4, 2) := by decide +kernel
theorem dX7_due_73 : decode cX7_due 73 = .ok (.ifCond .eq 7, 3) := by decide +kernel
theorem dX7_due_76 : decode cX7_due 76 = .ok (.iload_n 2, 1) := by decide +kernel
theorem dX7_due_77 : decode cX7_due 77 = .ok (.goto 4, 3) := by decide +kernel
theorem dX7_due_80 : decode cX7_due 80 = .ok (.iload_n 3, 1) := by decide +kernel
theorem dX7_due_81 : decode cX7_due 81 = .ok (.istore 6, 2) := by decide +kernel
theorem dX7_due_83 : decode cX7_due 83 = .ok (.aload_n 0, 1) := by decide +kernel
theorem dX7_due_84 : decode cX7_due 84 = .ok (.iload 5, 2) := by decide +kernel
theorem dX7_due_86 : decode cX7_due 86 = .ok (.invokevirtual 122, 3) := by decide +kernel
theorem dX7_due_89 : decode cX7_due 89 = .ok (.ifCond .eq 8, 3) := by decide +kernel
theorem dX7_due_92 : decode cX7_due 92 = .ok (.iload 6, 2) := by decide +kernel
theorem dX7_due_94 : decode cX7_due 94 = .ok (.goto 5, 3) := by decide +kernel
theorem dX7_due_97 : decode cX7_due 97 = .ok (.iload 5, 2) := by decide +kernel
theorem dX7_due_99 : decode cX7_due 99 = .ok (.ireturn, 1) := by decide +kernel
set_option maxRecDepth 20000 in
theorem ggX7_visit_X7_isThere : GoodIn wsX7_visit wsX7_isThere := goodIn_ca (goodIn_r _ [7, 8, 29, 30, 31, 32, 33, 34, 35, 36, 37, 38, 39, 40, 41, 42, 43, 44, 45, 46, 47, 48, 49, 50, 51, 52, 53, 54, 55, 56, 57, 58] (by decide +kernel) (by decide +kernel)) (goodIn_sub (fun _ h => List.mem_cons_of_mem _ (List.mem_append_right _ h)) (by decide +kernel))
set_option maxRecDepth 20000 in
theorem gX7_visit_X7_isThere : GoodIn wsX7_visit (wsV RX7 122 RX7 yX7_isThere wsX7_isThere) := goodIn_app (goodIn_of _ (by decide +kernel)) ggX7_visit_X7_isThere
set_option maxRecDepth 20000 in
theorem ggX7_visit_X7_isFree : GoodIn wsX7_visit wsX7_isFree := goodIn_ca (goodIn_r _ [12, 13, 14, 15, 16, 6, 17, 3, 4, 5, 7, 8, 29, 30, 31, 32, 33, 34, 35, 36, 37, 38, 39, 40, 41, 42, 43, 44, 45, 46, 47, 48, 49, 50, 51, 52, 53, 54, 55, 56, 57, 58] (by decide +kernel) (by decide +kernel)) (goodIn_sub (fun _ h => List.mem_cons_of_mem _ (List.mem_append_right _ h)) (by decide +kernel))
set_option maxRecDepth 20000 in
theorem gX7_visit_X7_isFree : GoodIn wsX7_visit (wsV RX7 125 RX7 yX7_isFree wsX7_isFree) := goodIn_app (goodIn_of _ (by decide +kernel)) ggX7_visit_X7_isFree
set_option maxRecDepth 20000 in
theorem ggX7_visit_X7_come : GoodIn wsX7_visit wsX7_come := goodIn_ca (goodIn_r _ [21, 8, 22, 23, 29, 30, 31, 32, 33, 34, 35, 36, 37, 38, 39, 40, 41, 42, 43, 44, 45, 46, 47, 48, 49, 50, 51, 52, 53, 54, 55, 56, 57, 58] (by decide +kernel) (by decide +kernel)) (goodIn_sub (fun _ h => List.mem_cons_of_mem _ (List.mem_append_right _ h)) (by decide +kernel))
set_option maxRecDepth 20000 in
theorem gX7_visit_X7_come : GoodIn wsX7_visit (wsV RX7 128 RX7 yX7_come wsX7_come) := goodIn_app (goodIn_of _ (by decide +kernel)) ggX7_visit_X7_come
set_option maxRecDepth 20000 in
theorem ggX7_visit_X7_due : GoodIn wsX7_visit wsX7_due := goodIn_ca (goodIn_r _ [27, 14, 13, 28, 15, 16, 6, 17, 3, 4, 5, 7, 8, 29, 30, 31, 32, 33, 34, 35, 36, 37, 38, 39, 40, 41, 42, 43, 44, 45, 46, 47, 48, 49, 50, 51, 52, 53, 54, 55, 56, 57, 58] (by decide +kernel) (by decide +kernel)) (goodIn_sub (fun _ h => List.mem_cons_of_mem _ (List.mem_append_right _ h)) (by decide +kernel))
set_option maxRecDepth 20000 in
theorem gX7_visit_X7_due : GoodIn wsX7_visit (wsV RX7 134 RX7 yX7_due wsX7_due) := goodIn_app (goodIn_of _ (by decide +kernel)) ggX7_visit_X7_due
theorem dX7_visit_0 : decode cX7_visit 0 = .ok (.aload_n 0, 1) := by decide +kernel
theorem dX7_visit_1 : decode cX7_visit 1 = .ok (.getfield 59, 3) := by decide +kernel
theorem dX7_visit_4 : decode cX7_visit 4 = .ok (.iconst 0, 1) := by decide +kernel
theorem dX7_visit_5 : decode cX7_visit 5 = .ok (.iload_n 1, 1) := by decide +kernel
theorem dX7_visit_6 : decode cX7_visit 6 = .ok (.iastore, 1) := by decide +kernel
theorem dX7_visit_7 : decode cX7_visit 7 = .ok (.aload_n 0, 1) := by decide +kernel
theorem dX7_visit_8 : decode cX7_visit 8 = .ok (.iconst 1, 1) := by decide +kernel
theorem dX7_visit_9 : decode cX7_visit 9 = .ok (.putfield 131, 3) := by decide +kernel
theorem dX7_visit_12 : decode cX7_visit 12 = .ok (.aload_n 0, 1) := by decide +kernel
theorem dX7_visit_13 : decode cX7_visit 13 = .ok (.getfield 131, 3) := by decide +kernel
theorem dX7_visit_16 : decode cX7_visit 16 = .ok (.ifCond .le 89, 3) := by decide +kernel
theorem dX7_visit_19 : decode cX7_visit 19 = .ok (.aload_n 0, 1) := by decide +kernel
theorem dX7_visit_20 : decode cX7_visit 20 = .ok (.getfield 59, 3) := by decide +kernel
theorem dX7_visit_23 : decode cX7_visit 23 = .ok (.aload_n 0, 1) := by decide +kernel
theorem dX7_visit_24 : decode cX7_visit 24 = .ok (.getfield 131, 3) := by decide +kernel
theorem dX7_visit_27 : decode cX7_visit 27 = .ok (.iconst 1, 1) := by decide +kernel
theorem dX7_visit_28 : decode cX7_visit 28 = .ok (.isub, 1) := by decide +kernel
theorem dX7_visit_29 : decode cX7_visit 29 = .ok (.iaload, 1) := by decide +kernel
theorem dX7_visit_30 : decode cX7_visit 30 = .ok (.istore_n 2, 1) := by decide +kernel
theorem dX7_visit_31 : decode cX7_visit 31 = .ok (.aload_n 0, 1) := by decide +kernel
theorem dX7_visit_32 : decode cX7_visit 32 = .ok (.iload_n 2, 1) := by decide +kernel
theorem dX7_visit_33 : decode cX7_visit 33 = .ok (.invokevirtual 122, 3) := by decide +kernel
theorem dX7_visit_36 : decode cX7_visit 36 = .ok (.ifCond .eq 16, 3) := by decide +kernel
theorem dX7_visit_39 : decode cX7_visit 39 = .ok (.aload_n 0, 1) := by decide +kernel
theorem dX7_visit_40 : decode cX7_visit 40 = .ok (.dup, 1) := by decide +kernel
theorem dX7_visit_41 : decode cX7_visit 41 = .ok (.getfield 131, 3) := by decide +kernel
theorem dX7_visit_44 : decode cX7_visit 44 = .ok (.iconst 1, 1) := by decide +kernel
theorem dX7_visit_45 : decode cX7_visit 45 = .ok (.isub, 1) := by decide +kernel
theorem dX7_visit_46 : decode cX7_visit 46 = .ok (.putfield 131, 3) := by decide +kernel
theorem dX7_visit_49 : decode cX7_visit 49 = .ok (.goto 53, 3) := by decide +kernel
theorem dX7_visit_52 : decode cX7_visit 52 = .ok (.aload_n 0, 1) := by decide +kernel
theorem dX7_visit_53 : decode cX7_visit 53 = .ok (.iload_n 2, 1) := by decide +kernel
theorem dX7_visit_54 : decode cX7_visit 54 = .ok (.invokevirtual 125, 3) := by decide +kernel
theorem dX7_visit_57 : decode cX7_visit 57 = .ok (.ifCond .eq 21, 3) := by decide +kernel
theorem dX7_visit_60 : decode cX7_visit 60 = .ok (.aload_n 0, 1) := by decide +kernel
theorem dX7_visit_61 : decode cX7_visit 61 = .ok (.iload_n 2, 1) := by decide +kernel
theorem dX7_visit_62 : decode cX7_visit 62 = .ok (.invokevirtual 128, 3) := by decide +kernel
theorem dX7_visit_65 : decode cX7_visit 65 = .ok (.aload_n 0, 1) := by decide +kernel
theorem dX7_visit_66 : decode cX7_visit 66 = .ok (.dup, 1) := by decide +kernel
theorem dX7_visit_67 : decode cX7_visit 67 = .ok (.getfield 131, 3) := by decide +kernel
theorem dX7_visit_70 : decode cX7_visit 70 = .ok (.iconst 1, 1) := by decide +kernel
theorem dX7_visit_71 : decode cX7_visit 71 = .ok (.isub, 1) := by decide +kernel
theorem dX7_visit_72 : decode cX7_visit 72 = .ok (.putfield 131, 3) := by decide +kernel
theorem dX7_visit_75 : decode cX7_visit 75 = .ok (.goto 27, 3) := by decide +kernel
theorem dX7_visit_78 : decode cX7_visit 78 = .ok (.aload_n 0, 1) := by decide +kernel
theorem dX7_visit_79 : decode cX7_visit 79 = .ok (.getfield 59, 3) := by decide +kernel
theorem dX7_visit_82 : decode cX7_visit 82 = .ok (.aload_n 0, 1) := by decide +kernel
theorem dX7_visit_83 : decode cX7_visit 83 = .ok (.getfield 131, 3) := by decide +kernel
theorem dX7_visit_86 : decode cX7_visit 86 = .ok (.aload_n 0, 1) := by decide +kernel
theorem dX7_visit_87 : decode cX7_visit 87 = .ok (.iload_n 2, 1) := by decide +kernel
theorem dX7_visit_88 : decode cX7_visit 88 = .ok (.invokevirtual 134, 3) := by decide +kernel
theorem dX7_visit_91 : decode cX7_visit 91 = .ok (.iastore, 1) := by decide +kernel
theorem dX7_visit_92 : decode cX7_visit 92 = .ok (.aload_n 0, 1) := by decide +kernel
theorem dX7_visit_93 : decode cX7_visit 93 = .ok (.dup, 1) := by decide +kernel
theorem dX7_visit_94 : decode cX7_visit 94 = .ok (.getfield 131, 3) := by decide +kernel
theorem dX7_visit_97 : decode cX7_visit 97 = .ok (.iconst 1, 1) := by decide +kernel
theorem dX7_visit_98 : decode cX7_visit 98 = .ok (.iadd, 1) := by decide +kernel
theorem dX7_visit_99 : decode cX7_visit 99 = .ok (.putfield 131, 3) := by decide +kernel
theorem dX7_visit_102 : decode cX7_visit 102 = .ok (.goto (-90), 3) := by decide +kernel
theorem dX7_visit_105 : decode cX7_visit 105 = .ok (.return_, 1) := by decide +kernel
set_option maxRecDepth 20000 in
theorem ggX7_orderByLabels_X7_isUsed : GoodIn wsX7_orderByLabels wsX7_isUsed := goodIn_ca (goodIn_r _ [6, 1, 7, 38, 39, 40, 41, 42, 43, 44, 45, 46, 47, 48, 49, 50, 51, 52, 53, 54, 55, 56, 57, 58, 59, 60, 61, 62, 63, 64, 65, 66, 67] (by decide +kernel) (by decide +kernel)) (goodIn_sub (fun _ h => List.mem_cons_of_mem _ (List.mem_append_right _ h)) (by decide +kernel))
set_option maxRecDepth 20000 in
theorem gX7_orderByLabels_X7_isUsed : GoodIn wsX7_orderByLabels (wsV RX7 137 RX7 yX7_isUsed wsX7_isUsed) := goodIn_app (goodIn_of _ (by decide +kernel)) ggX7_orderByLabels_X7_isUsed
set_option maxRecDepth 20000 in
theorem ggX7_orderByLabels_X7_visit : GoodIn wsX7_orderByLabels wsX7_visit := goodIn_ca (goodIn_r _ [11, 12, 13, 14, 15, 16, 5, 17, 18, 19, 20, 21, 22, 23, 7, 24, 25, 26, 27, 28, 29, 30, 31, 32, 33, 34, 35, 36, 37, 38, 39, 40, 41, 42, 43, 44, 45, 46, 47, 48, 49, 50, 51, 52, 53, 54, 55, 56, 57, 58, 59, 60, 61, 62, 63, 64, 65, 66, 67] (by decide +kernel) (by decide +kernel)) (goodIn_sub (fun _ h => List.mem_cons_of_mem _ (List.mem_append_right _ h)) (by decide +kernel))
set_option maxRecDepth 20000 in
theorem gX7_orderByLabels_X7_visit : GoodIn wsX7_orderByLabels (wsV RX7 140 RX7 yX7_visit wsX7_visit) := goodIn_app (goodIn_of _ (by decide +kernel)) ggX7_orderByLabels_X7_visit
theorem dX7_orderByLabels_0 : decode cX7_orderByLabels 0 = .ok (.iconst 0, 1) := by decide +kernel
theorem dX7_orderByLabels_1 : decode cX7_orderByLabels 1 = .ok (.istore_n 1, 1) := by decide +kernel
theorem dX7_orderByLabels_2 : decode cX7_orderByLabels 2 = .ok (.iload_n 1, 1) := by decide +kernel
theorem dX7_orderByLabels_3 : decode cX7_orderByLabels 3 = .ok (.aload_n 0, 1) := by decide +kernel
theorem dX7_orderByLabels_4 : decode cX7_orderByLabels 4 = .ok (.getfield 75, 3) := by decide +kernel
theorem dX7_orderByLabels_7 : decode cX7_orderByLabels 7 = .ok (.if_icmp .ge 22, 3) := by decide +kernel
theorem dX7_orderByLabels_10 : decode cX7_orderByLabels 10 = .ok (.aload_n 0, 1) := by decide +kernel
theorem dX7_orderByLabels_11 : decode cX7_orderByLabels 11 = .ok (.iload_n 1, 1) := by decide +kernel
theorem dX7_orderByLabels_12 : decode cX7_orderByLabels 12 = .ok (.invokevirtual 137, 3) := by decide +kernel
theorem dX7_orderByLabels_15 : decode cX7_orderByLabels 15 = .ok (.ifCond .ne 8, 3) := by decide +kernel
theorem dX7_orderByLabels_18 : decode cX7_orderByLabels 18 = .ok (.aload_n 0, 1) := by decide +kernel
theorem dX7_orderByLabels_19 : decode cX7_orderByLabels 19 = .ok (.iload_n 1, 1) := by decide +kernel
theorem dX7_orderByLabels_20 : decode cX7_orderByLabels 20 = .ok (.invokevirtual 140, 3) := by decide +kernel
theorem dX7_orderByLabels_23 : decode cX7_orderByLabels 23 = .ok (.iinc 1 1, 3) := by decide +kernel
theorem dX7_orderByLabels_26 : decode cX7_orderByLabels 26 = .ok (.goto (-24), 3) := by decide +kernel
theorem dX7_orderByLabels_29 : decode cX7_orderByLabels 29 = .ok (.return_, 1) := by decide +kernel
theorem dX7_findLives_0 : decode cX7_findLives 0 = .ok (.iconst 0, 1) := by decide +kernel
theorem dX7_findLives_1 : decode cX7_findLives 1 = .ok (.istore_n 1, 1) := by decide +kernel
theorem dX7_findLives_2 : decode cX7_findLives 2 = .ok (.iload_n 1, 1) := by decide +kernel
theorem dX7_findLives_3 : decode cX7_findLives 3 = .ok (.aload_n 0, 1) := by decide +kernel
theorem dX7_findLives_4 : decode cX7_findLives 4 = .ok (.getfield 75, 3) := by decide +kernel
theorem dX7_findLives_7 : decode cX7_findLives 7 = .ok (.if_icmp .ge 98, 3) := by decide +kernel
theorem dX7_findLives_10 : decode cX7_findLives 10 = .ok (.aload_n 0, 1) := by decide +kernel
theorem dX7_findLives_11 : decode cX7_findLives 11 = .ok (.getfield 47, 3) := by decide +kernel
theorem dX7_findLives_14 : decode cX7_findLives 14 = .ok (.iload_n 1, 1) := by decide +kernel
theorem dX7_findLives_15 : decode cX7_findLives 15 = .ok (.aload_n 0, 1) := by decide +kernel
theorem dX7_findLives_16 : decode cX7_findLives 16 = .ok (.getfield 22, 3) := by decide +kernel
theorem dX7_findLives_19 : decode cX7_findLives 19 = .ok (.iload_n 1, 1) := by decide +kernel
theorem dX7_findLives_20 : decode cX7_findLives 20 = .ok (.baload, 1) := by decide +kernel
theorem dX7_findLives_21 : decode cX7_findLives 21 = .ok (.ifCond .eq 12, 3) := by decide +kernel
theorem dX7_findLives_24 : decode cX7_findLives 24 = .ok (.aload_n 0, 1) := by decide +kernel
theorem dX7_findLives_25 : decode cX7_findLives 25 = .ok (.getfield 75, 3) := by decide +kernel
theorem dX7_findLives_28 : decode cX7_findLives 28 = .ok (.iconst 1, 1) := by decide +kernel
theorem dX7_findLives_29 : decode cX7_findLives 29 = .ok (.isub, 1) := by decide +kernel
theorem dX7_findLives_30 : decode cX7_findLives 30 = .ok (.goto 9, 3) := by decide +kernel
theorem dX7_findLives_33 : decode cX7_findLives 33 = .ok (.aload_n 0, 1) := by decide +kernel
theorem dX7_findLives_34 : decode cX7_findLives 34 = .ok (.getfield 44, 3) := by decide +kernel
theorem dX7_findLives_37 : decode cX7_findLives 37 = .ok (.iload_n 1, 1) := by decide +kernel
theorem dX7_findLives_38 : decode cX7_findLives 38 = .ok (.iaload, 1) := by decide +kernel
theorem dX7_findLives_39 : decode cX7_findLives 39 = .ok (.iastore, 1) := by decide +kernel
theorem dX7_findLives_40 : decode cX7_findLives 40 = .ok (.iconst 0, 1) := by decide +kernel
theorem dX7_findLives_41 : decode cX7_findLives 41 = .ok (.istore_n 2, 1) := by decide +kernel
theorem dX7_findLives_42 : decode cX7_findLives 42 = .ok (.iload_n 2, 1) := by decide +kernel
theorem dX7_findLives_43 : decode cX7_findLives 43 = .ok (.iconst 2, 1) := by decide +kernel
theorem dX7_findLives_44 : decode cX7_findLives 44 = .ok (.aload_n 0, 1) := by decide +kernel
theorem dX7_findLives_45 : decode cX7_findLives 45 = .ok (.getfield 75, 3) := by decide +kernel
theorem dX7_findLives_48 : decode cX7_findLives 48 = .ok (.imul, 1) := by decide +kernel
theorem dX7_findLives_49 : decode cX7_findLives 49 = .ok (.if_icmp .ge 50, 3) := by decide +kernel
theorem dX7_findLives_52 : decode cX7_findLives 52 = .ok (.aload_n 0, 1) := by decide +kernel
theorem dX7_findLives_53 : decode cX7_findLives 53 = .ok (.getfield 19, 3) := by decide +kernel
theorem dX7_findLives_56 : decode cX7_findLives 56 = .ok (.iload_n 2, 1) := by decide +kernel
theorem dX7_findLives_57 : decode cX7_findLives 57 = .ok (.iaload, 1) := by decide +kernel
theorem dX7_findLives_58 : decode cX7_findLives 58 = .ok (.iload_n 1, 1) := by decide +kernel
theorem dX7_findLives_59 : decode cX7_findLives 59 = .ok (.if_icmp .ne 34, 3) := by decide +kernel
theorem dX7_findLives_62 : decode cX7_findLives 62 = .ok (.aload_n 0, 1) := by decide +kernel
theorem dX7_findLives_63 : decode cX7_findLives 63 = .ok (.getfield 44, 3) := by decide +kernel
theorem dX7_findLives_66 : decode cX7_findLives 66 = .ok (.iload_n 2, 1) := by decide +kernel
theorem dX7_findLives_67 : decode cX7_findLives 67 = .ok (.iconst 2, 1) := by decide +kernel
theorem dX7_findLives_68 : decode cX7_findLives 68 = .ok (.idiv, 1) := by decide +kernel
theorem dX7_findLives_69 : decode cX7_findLives 69 = .ok (.iaload, 1) := by decide +kernel
theorem dX7_findLives_70 : decode cX7_findLives 70 = .ok (.aload_n 0, 1) := by decide +kernel
theorem dX7_findLives_71 : decode cX7_findLives 71 = .ok (.getfield 47, 3) := by decide +kernel
theorem dX7_findLives_74 : decode cX7_findLives 74 = .ok (.iload_n 1, 1) := by decide +kernel
theorem dX7_findLives_75 : decode cX7_findLives 75 = .ok (.iaload, 1) := by decide +kernel
theorem dX7_findLives_76 : decode cX7_findLives 76 = .ok (.if_icmp .le 17, 3) := by decide +kernel
theorem dX7_findLives_79 : decode cX7_findLives 79 = .ok (.aload_n 0, 1) := by decide +kernel
theorem dX7_findLives_80 : decode cX7_findLives 80 = .ok (.getfield 47, 3) := by decide +kernel
theorem dX7_findLives_83 : decode cX7_findLives 83 = .ok (.iload_n 1, 1) := by decide +kernel
theorem dX7_findLives_84 : decode cX7_findLives 84 = .ok (.aload_n 0, 1) := by decide +kernel
theorem dX7_findLives_85 : decode cX7_findLives 85 = .ok (.getfield 44, 3) := by decide +kernel
theorem dX7_findLives_88 : decode cX7_findLives 88 = .ok (.iload_n 2, 1) := by decide +kernel
theorem dX7_findLives_89 : decode cX7_findLives 89 = .ok (.iconst 2, 1) := by decide +kernel
theorem dX7_findLives_90 : decode cX7_findLives 90 = .ok (.idiv, 1) := by decide +kernel
theorem dX7_findLives_91 : decode cX7_findLives 91 = .ok (.iaload, 1) := by decide +kernel
theorem dX7_findLives_92 : decode cX7_findLives 92 = .ok (.iastore, 1) := by decide +kernel
theorem dX7_findLives_93 : decode cX7_findLives 93 = .ok (.iinc 2 1, 3) := by decide +kernel
theorem dX7_findLives_96 : decode cX7_findLives 96 = .ok (.goto (-54), 3) := by decide +kernel
theorem dX7_findLives_99 : decode cX7_findLives 99 = .ok (.iinc 1 1, 3) := by decide +kernel
theorem dX7_findLives_102 : decode cX7_findLives 102 = .ok (.goto (-100), 3) := by decide +kernel
theorem dX7_findLives_105 : decode cX7_findLives 105 = .ok (.return_, 1) := by decide +kernel
theorem dX7_fits_0 : decode cX7_fits 0 = .ok (.iconst 1, 1) := by decide +kernel
theorem dX7_fits_1 : decode cX7_fits 1 = .ok (.istore_n 3, 1) := by decide +kernel
theorem dX7_fits_2 : decode cX7_fits 2 = .ok (.iconst 0, 1) := by decide +kernel
theorem dX7_fits_3 : decode cX7_fits 3 = .ok (.istore 4, 2) := by decide +kernel
theorem dX7_fits_5 : decode cX7_fits 5 = .ok (.iload 4, 2) := by decide +kernel
theorem dX7_fits_7 : decode cX7_fits 7 = .ok (.aload_n 0, 1) := by decide +kernel
theorem dX7_fits_8 : decode cX7_fits 8 = .ok (.getfield 75, 3) := by decide +kernel
theorem dX7_fits_11 : decode cX7_fits 11 = .ok (.if_icmp .ge 110, 3) := by decide +kernel
theorem dX7_fits_14 : decode cX7_fits 14 = .ok (.aload_n 0, 1) := by decide +kernel
theorem dX7_fits_15 : decode cX7_fits 15 = .ok (.getfield 50, 3) := by decide +kernel
theorem dX7_fits_18 : decode cX7_fits 18 = .ok (.iload 4, 2) := by decide +kernel
theorem dX7_fits_20 : decode cX7_fits 20 = .ok (.iaload, 1) := by decide +kernel
theorem dX7_fits_21 : decode cX7_fits 21 = .ok (.ifCond .lt 39, 3) := by decide +kernel
theorem dX7_fits_24 : decode cX7_fits 24 = .ok (.aload_n 0, 1) := by decide +kernel
theorem dX7_fits_25 : decode cX7_fits 25 = .ok (.getfield 44, 3) := by decide +kernel
theorem dX7_fits_28 : decode cX7_fits 28 = .ok (.iload 4, 2) := by decide +kernel
theorem dX7_fits_30 : decode cX7_fits 30 = .ok (.iaload, 1) := by decide +kernel
theorem dX7_fits_31 : decode cX7_fits 31 = .ok (.aload_n 0, 1) := by decide +kernel
theorem dX7_fits_32 : decode cX7_fits 32 = .ok (.getfield 47, 3) := by decide +kernel
theorem dX7_fits_35 : decode cX7_fits 35 = .ok (.iload_n 1, 1) := by decide +kernel
theorem dX7_fits_36 : decode cX7_fits 36 = .ok (.iaload, 1) := by decide +kernel
theorem dX7_fits_37 : decode cX7_fits 37 = .ok (.if_icmp .gt 23, 3) := by decide +kernel
theorem dX7_fits_40 : decode cX7_fits 40 = .ok (.aload_n 0, 1) := by decide +kernel
theorem dX7_fits_41 : decode cX7_fits 41 = .ok (.getfield 44, 3) := by decide +kernel
theorem dX7_fits_44 : decode cX7_fits 44 = .ok (.iload_n 1, 1) := by decide +kernel
theorem dX7_fits_45 : decode cX7_fits 45 = .ok (.iaload, 1) := by decide +kernel
theorem dX7_fits_46 : decode cX7_fits 46 = .ok (.aload_n 0, 1) := by decide +kernel
theorem dX7_fits_47 : decode cX7_fits 47 = .ok (.getfield 47, 3) := by decide +kernel
theorem dX7_fits_50 : decode cX7_fits 50 = .ok (.iload 4, 2) := by decide +kernel
theorem dX7_fits_52 : decode cX7_fits 52 = .ok (.iaload, 1) := by decide +kernel
theorem dX7_fits_53 : decode cX7_fits 53 = .ok (.if_icmp .gt 7, 3) := by decide +kernel
theorem dX7_fits_56 : decode cX7_fits 56 = .ok (.iconst 1, 1) := by decide +kernel
theorem dX7_fits_57 : decode cX7_fits 57 = .ok (.goto 4, 3) := by decide +kernel
theorem dX7_fits_60 : decode cX7_fits 60 = .ok (.iconst 0, 1) := by decide +kernel
theorem dX7_fits_61 : decode cX7_fits 61 = .ok (.istore 5, 2) := by decide +kernel
theorem dX7_fits_63 : decode cX7_fits 63 = .ok (.iload_n 3, 1) := by decide +kernel
theorem dX7_fits_64 : decode cX7_fits 64 = .ok (.ifCond .eq 49, 3) := by decide +kernel
theorem dX7_fits_67 : decode cX7_fits 67 = .ok (.iload 5, 2) := by decide +kernel
theorem dX7_fits_69 : decode cX7_fits 69 = .ok (.ifCond .eq 40, 3) := by decide +kernel
theorem dX7_fits_72 : decode cX7_fits 72 = .ok (.iload_n 2, 1) := by decide +kernel
theorem dX7_fits_73 : decode cX7_fits 73 = .ok (.aload_n 0, 1) := by decide +kernel
theorem dX7_fits_74 : decode cX7_fits 74 = .ok (.getfield 35, 3) := by decide +kernel
theorem dX7_fits_77 : decode cX7_fits 77 = .ok (.iload_n 1, 1) := by decide +kernel
theorem dX7_fits_78 : decode cX7_fits 78 = .ok (.iaload, 1) := by decide +kernel
theorem dX7_fits_79 : decode cX7_fits 79 = .ok (.iadd, 1) := by decide +kernel
theorem dX7_fits_80 : decode cX7_fits 80 = .ok (.aload_n 0, 1) := by decide +kernel
theorem dX7_fits_81 : decode cX7_fits 81 = .ok (.getfield 50, 3) := by decide +kernel
theorem dX7_fits_84 : decode cX7_fits 84 = .ok (.iload 4, 2) := by decide +kernel
theorem dX7_fits_86 : decode cX7_fits 86 = .ok (.iaload, 1) := by decide +kernel
theorem dX7_fits_87 : decode cX7_fits 87 = .ok (.if_icmp .le 22, 3) := by decide +kernel
theorem dX7_fits_90 : decode cX7_fits 90 = .ok (.aload_n 0, 1) := by decide +kernel
theorem dX7_fits_91 : decode cX7_fits 91 = .ok (.getfield 50, 3) := by decide +kernel
theorem dX7_fits_94 : decode cX7_fits 94 = .ok (.iload 4, 2) := by decide +kernel
theorem dX7_fits_96 : decode cX7_fits 96 = .ok (.iaload, 1) := by decide +kernel
theorem dX7_fits_97 : decode cX7_fits 97 = .ok (.aload_n 0, 1) := by decide +kernel
theorem dX7_fits_98 : decode cX7_fits 98 = .ok (.getfield 35, 3) := by decide +kernel
theorem dX7_fits_101 : decode cX7_fits 101 = .ok (.iload 4, 2) := by decide +kernel
theorem dX7_fits_103 : decode cX7_fits 103 = .ok (.iaload, 1) := by decide +kernel
theorem dX7_fits_104 : decode cX7_fits 104 = .ok (.iadd, 1) := by decide +kernel
theorem dX7_fits_105 : decode cX7_fits 105 = .ok (.iload_n 2, 1) := by decide +kernel
theorem dX7_fits_106 : decode cX7_fits 106 = .ok (.if_icmp .gt 7, 3) := by decide +kernel
theorem dX7_fits_109 : decode cX7_fits 109 = .ok (.iconst 1, 1) := by decide +kernel
theorem dX7_fits_110 : decode cX7_fits 110 = .ok (.goto 4, 3) := by decide +kernel
theorem dX7_fits_113 : decode cX7_fits 113 = .ok (.iconst 0, 1) := by decide +kernel
theorem dX7_fits_114 : decode cX7_fits 114 = .ok (.istore_n 3, 1) := by decide +kernel
theorem dX7_fits_115 : decode cX7_fits 115 = .ok (.iinc 4 1, 3) := by decide +kernel
theorem dX7_fits_118 : decode cX7_fits 118 = .ok (.goto (-113), 3) := by decide +kernel
theorem dX7_fits_121 : decode cX7_fits 121 = .ok (.iload_n 3, 1) := by decide +kernel
theorem dX7_fits_122 : decode cX7_fits 122 = .ok (.ireturn, 1) := by decide +kernel
set_option maxRecDepth 20000 in
theorem ggX7_findPlaces_X7_fits : GoodIn wsX7_findPlaces wsX7_fits := goodIn_ca (goodIn_r _ [10, 2, 3, 11, 12, 5, 13, 14, 15, 16, 17, 18, 19, 20, 21, 22, 23, 24, 25, 26, 27, 28, 29, 30, 31, 32, 33, 34, 35, 36, 37, 38, 39, 40, 41, 42] (by decide +kernel) (by decide +kernel)) (goodIn_sub (fun _ h => List.mem_cons_of_mem _ (List.mem_append_right _ h)) (by decide +kernel))
set_option maxRecDepth 20000 in
theorem gX7_findPlaces_X7_fits : GoodIn wsX7_findPlaces (wsV RX7 146 RX7 yX7_fits wsX7_fits) := goodIn_app (goodIn_of _ (by decide +kernel)) ggX7_findPlaces_X7_fits
theorem dX7_findPlaces_0 : decode cX7_findPlaces 0 = .ok (.aload_n 0, 1) := by decide +kernel
theorem dX7_findPlaces_1 : decode cX7_findPlaces 1 = .ok (.iconst 0, 1) := by decide +kernel
theorem dX7_findPlaces_2 : decode cX7_findPlaces 2 = .ok (.putfield 143, 3) := by decide +kernel
theorem dX7_findPlaces_5 : decode cX7_findPlaces 5 = .ok (.iconst 0, 1) := by decide +kernel
theorem dX7_findPlaces_6 : decode cX7_findPlaces 6 = .ok (.istore_n 1, 1) := by decide +kernel
theorem dX7_findPlaces_7 : decode cX7_findPlaces 7 = .ok (.iload_n 1, 1) := by decide +kernel
theorem dX7_findPlaces_8 : decode cX7_findPlaces 8 = .ok (.aload_n 0, 1) := by decide +kernel
theorem dX7_findPlaces_9 : decode cX7_findPlaces 9 = .ok (.getfield 75, 3) := by decide +kernel
theorem dX7_findPlaces_12 : decode cX7_findPlaces 12 = .ok (.if_icmp .ge 16, 3) := by decide +kernel
theorem dX7_findPlaces_15 : decode cX7_findPlaces 15 = .ok (.aload_n 0, 1) := by decide +kernel
theorem dX7_findPlaces_16 : decode cX7_findPlaces 16 = .ok (.getfield 50, 3) := by decide +kernel
theorem dX7_findPlaces_19 : decode cX7_findPlaces 19 = .ok (.iload_n 1, 1) := by decide +kernel
theorem dX7_findPlaces_20 : decode cX7_findPlaces 20 = .ok (.iconst (-1), 1) := by decide +kernel
theorem dX7_findPlaces_21 : decode cX7_findPlaces 21 = .ok (.iastore, 1) := by decide +kernel
theorem dX7_findPlaces_22 : decode cX7_findPlaces 22 = .ok (.iinc 1 1, 3) := by decide +kernel
theorem dX7_findPlaces_25 : decode cX7_findPlaces 25 = .ok (.goto (-18), 3) := by decide +kernel
theorem dX7_findPlaces_28 : decode cX7_findPlaces 28 = .ok (.bipush 40, 2) := by decide +kernel
theorem dX7_findPlaces_30 : decode cX7_findPlaces 30 = .ok (.istore_n 1, 1) := by decide +kernel
theorem dX7_findPlaces_31 : decode cX7_findPlaces 31 = .ok (.iload_n 1, 1) := by decide +kernel
theorem dX7_findPlaces_32 : decode cX7_findPlaces 32 = .ok (.ifCond .le 95, 3) := by decide +kernel
theorem dX7_findPlaces_35 : decode cX7_findPlaces 35 = .ok (.iconst 0, 1) := by decide +kernel
theorem dX7_findPlaces_36 : decode cX7_findPlaces 36 = .ok (.istore_n 2, 1) := by decide +kernel
theorem dX7_findPlaces_37 : decode cX7_findPlaces 37 = .ok (.iload_n 2, 1) := by decide +kernel
theorem dX7_findPlaces_38 : decode cX7_findPlaces 38 = .ok (.aload_n 0, 1) := by decide +kernel
theorem dX7_findPlaces_39 : decode cX7_findPlaces 39 = .ok (.getfield 75, 3) := by decide +kernel
theorem dX7_findPlaces_42 : decode cX7_findPlaces 42 = .ok (.if_icmp .ge 79, 3) := by decide +kernel
theorem dX7_findPlaces_45 : decode cX7_findPlaces 45 = .ok (.aload_n 0, 1) := by decide +kernel
theorem dX7_findPlaces_46 : decode cX7_findPlaces 46 = .ok (.getfield 41, 3) := by decide +kernel
theorem dX7_findPlaces_49 : decode cX7_findPlaces 49 = .ok (.iload_n 2, 1) := by decide +kernel
theorem dX7_findPlaces_50 : decode cX7_findPlaces 50 = .ok (.iaload, 1) := by decide +kernel
theorem dX7_findPlaces_51 : decode cX7_findPlaces 51 = .ok (.istore_n 3, 1) := by decide +kernel
theorem dX7_findPlaces_52 : decode cX7_findPlaces 52 = .ok (.aload_n 0, 1) := by decide +kernel
theorem dX7_findPlaces_53 : decode cX7_findPlaces 53 = .ok (.getfield 35, 3) := by decide +kernel
theorem dX7_findPlaces_56 : decode cX7_findPlaces 56 = .ok (.iload_n 3, 1) := by decide +kernel
theorem dX7_findPlaces_57 : decode cX7_findPlaces 57 = .ok (.iaload, 1) := by decide +kernel
theorem dX7_findPlaces_58 : decode cX7_findPlaces 58 = .ok (.iload_n 1, 1) := by decide +kernel
theorem dX7_findPlaces_59 : decode cX7_findPlaces 59 = .ok (.if_icmp .ne 56, 3) := by decide +kernel
theorem dX7_findPlaces_62 : decode cX7_findPlaces 62 = .ok (.iconst 0, 1) := by decide +kernel
theorem dX7_findPlaces_63 : decode cX7_findPlaces 63 = .ok (.istore 4, 2) := by decide +kernel
theorem dX7_findPlaces_65 : decode cX7_findPlaces 65 = .ok (.aload_n 0, 1) := by decide +kernel
theorem dX7_findPlaces_66 : decode cX7_findPlaces 66 = .ok (.iload_n 3, 1) := by decide +kernel
theorem dX7_findPlaces_67 : decode cX7_findPlaces 67 = .ok (.iload 4, 2) := by decide +kernel
theorem dX7_findPlaces_69 : decode cX7_findPlaces 69 = .ok (.invokevirtual 146, 3) := by decide +kernel
theorem dX7_findPlaces_72 : decode cX7_findPlaces 72 = .ok (.ifCond .ne 9, 3) := by decide +kernel
theorem dX7_findPlaces_75 : decode cX7_findPlaces 75 = .ok (.iinc 4 1, 3) := by decide +kernel
theorem dX7_findPlaces_78 : decode cX7_findPlaces 78 = .ok (.goto (-13), 3) := by decide +kernel
theorem dX7_findPlaces_81 : decode cX7_findPlaces 81 = .ok (.aload_n 0, 1) := by decide +kernel
theorem dX7_findPlaces_82 : decode cX7_findPlaces 82 = .ok (.getfield 50, 3) := by decide +kernel
theorem dX7_findPlaces_85 : decode cX7_findPlaces 85 = .ok (.iload_n 3, 1) := by decide +kernel
theorem dX7_findPlaces_86 : decode cX7_findPlaces 86 = .ok (.iload 4, 2) := by decide +kernel
theorem dX7_findPlaces_88 : decode cX7_findPlaces 88 = .ok (.iastore, 1) := by decide +kernel
theorem dX7_findPlaces_89 : decode cX7_findPlaces 89 = .ok (.aload_n 0, 1) := by decide +kernel
theorem dX7_findPlaces_90 : decode cX7_findPlaces 90 = .ok (.iload 4, 2) := by decide +kernel
theorem dX7_findPlaces_92 : decode cX7_findPlaces 92 = .ok (.iload_n 1, 1) := by decide +kernel
theorem dX7_findPlaces_93 : decode cX7_findPlaces 93 = .ok (.iadd, 1) := by decide +kernel
theorem dX7_findPlaces_94 : decode cX7_findPlaces 94 = .ok (.aload_n 0, 1) := by decide +kernel
theorem dX7_findPlaces_95 : decode cX7_findPlaces 95 = .ok (.getfield 143, 3) := by decide +kernel
theorem dX7_findPlaces_98 : decode cX7_findPlaces 98 = .ok (.if_icmp .le 10, 3) := by decide +kernel
theorem dX7_findPlaces_101 : decode cX7_findPlaces 101 = .ok (.iload 4, 2) := by decide +kernel
theorem dX7_findPlaces_103 : decode cX7_findPlaces 103 = .ok (.iload_n 1, 1) := by decide +kernel
theorem dX7_findPlaces_104 : decode cX7_findPlaces 104 = .ok (.iadd, 1) := by decide +kernel
theorem dX7_findPlaces_105 : decode cX7_findPlaces 105 = .ok (.goto 7, 3) := by decide +kernel
theorem dX7_findPlaces_108 : decode cX7_findPlaces 108 = .ok (.aload_n 0, 1) := by decide +kernel
theorem dX7_findPlaces_109 : decode cX7_findPlaces 109 = .ok (.getfield 143, 3) := by decide +kernel
theorem dX7_findPlaces_112 : decode cX7_findPlaces 112 = .ok (.putfield 143, 3) := by decide +kernel
theorem dX7_findPlaces_115 : decode cX7_findPlaces 115 = .ok (.iinc 2 1, 3) := by decide +kernel
theorem dX7_findPlaces_118 : decode cX7_findPlaces 118 = .ok (.goto (-81), 3) := by decide +kernel
theorem dX7_findPlaces_121 : decode cX7_findPlaces 121 = .ok (.iinc 1 (-1), 3) := by decide +kernel
theorem dX7_findPlaces_124 : decode cX7_findPlaces 124 = .ok (.goto (-93), 3) := by decide +kernel
theorem dX7_findPlaces_127 : decode cX7_findPlaces 127 = .ok (.return_, 1) := by decide +kernel
set_option maxRecDepth 20000 in
theorem ggX7_plan_X7_fail : GoodIn wsX7_plan wsX7_fail := goodIn_r _ [18, 1, 115, 116, 117, 118, 119, 120, 121, 122, 123, 124, 125, 126, 127, 128, 129, 130, 131, 132, 133, 134, 135, 136, 137, 138, 139, 140, 141, 142, 143, 144] (by decide +kernel) (by decide +kernel)
set_option maxRecDepth 20000 in
theorem gX7_plan_X7_fail : GoodIn wsX7_plan (wsV RX7 82 RX7 yX7_fail wsX7_fail) := goodIn_app (goodIn_of _ (by decide +kernel)) ggX7_plan_X7_fail
set_option maxRecDepth 20000 in
theorem ggX7_plan_X7_isWired : GoodIn wsX7_plan wsX7_isWired := goodIn_ca (goodIn_r _ [22, 5, 23, 24, 25, 26, 17, 27, 115, 116, 117, 118, 119, 120, 121, 122, 123, 124, 125, 126, 127, 128, 129, 130, 131, 132, 133, 134, 135, 136, 137, 138, 139, 140, 141, 142, 143, 144] (by decide +kernel) (by decide +kernel)) (goodIn_sub (fun _ h => List.mem_cons_of_mem _ (List.mem_append_right _ h)) (by decide +kernel))
set_option maxRecDepth 20000 in
theorem gX7_plan_X7_isWired : GoodIn wsX7_plan (wsV RX7 150 RX7 yX7_isWired wsX7_isWired) := goodIn_app (goodIn_of _ (by decide +kernel)) ggX7_plan_X7_isWired
set_option maxRecDepth 20000 in
theorem ggX7_plan_X7_findRing : GoodIn wsX7_plan wsX7_findRing := goodIn_ca (goodIn_r _ [31, 2, 5, 32, 33, 34, 35, 17, 36, 37, 24, 38, 39, 40, 41, 42, 43, 44, 45, 115, 116, 117, 118, 119, 120, 121, 122, 123, 124, 125, 126, 127, 128, 129, 130, 131, 132, 133, 134, 135, 136, 137, 138, 139, 140, 141, 142, 143, 144] (by decide +kernel) (by decide +kernel)) (goodIn_sub (fun _ h => List.mem_cons_of_mem _ (List.mem_append_right _ h)) (by decide +kernel))
set_option maxRecDepth 20000 in
theorem gX7_plan_X7_findRing : GoodIn wsX7_plan (wsV RX7 110 RX7 yX7_findRing wsX7_findRing) := goodIn_app (goodIn_of _ (by decide +kernel)) ggX7_plan_X7_findRing
set_option maxRecDepth 20000 in
theorem ggX7_plan_X7_findSizes : GoodIn wsX7_plan wsX7_findSizes := goodIn_ca (goodIn_r _ [49, 5, 50, 7, 51, 52, 53, 17, 54, 23, 24, 25, 26, 27, 55, 56, 57, 58, 59, 60, 115, 116, 117, 118, 119, 120, 121, 122, 123, 124, 125, 126, 127, 128, 129, 130, 131, 132, 133, 134, 135, 136, 137, 138, 139, 140, 141, 142, 143, 144] (by decide +kernel) (by decide +kernel)) (goodIn_sub (fun _ h => List.mem_cons_of_mem _ (List.mem_append_right _ h)) (by decide +kernel))
set_option maxRecDepth 20000 in
theorem gX7_plan_X7_findSizes : GoodIn wsX7_plan (wsV RX7 154 RX7 yX7_findSizes wsX7_findSizes) := goodIn_app (goodIn_of _ (by decide +kernel)) ggX7_plan_X7_findSizes
set_option maxRecDepth 20000 in
theorem ggX7_plan_X7_orderByNumbers : GoodIn wsX7_plan wsX7_orderByNumbers := goodIn_ca (goodIn_r _ [64, 4, 5, 65, 66, 67, 17, 68, 8, 69, 70, 71, 72, 23, 24, 25, 26, 27, 73, 74, 75, 76, 9, 115, 116, 117, 118, 119, 120, 121, 122, 123, 124, 125, 126, 127, 128, 129, 130, 131, 132, 133, 134, 135, 136, 137, 138, 139, 140, 141, 142, 143, 144] (by decide +kernel) (by decide +kernel)) (goodIn_sub (fun _ h => List.mem_cons_of_mem _ (List.mem_append_right _ h)) (by decide +kernel))
set_option maxRecDepth 20000 in
theorem gX7_plan_X7_orderByNumbers : GoodIn wsX7_plan (wsV RX7 160 RX7 yX7_orderByNumbers wsX7_orderByNumbers) := goodIn_app (goodIn_of _ (by decide +kernel)) ggX7_plan_X7_orderByNumbers
set_option maxRecDepth 20000 in
theorem ggX7_plan_X7_labelOf : GoodIn wsX7_plan wsX7_labelOf := goodIn_ca (goodIn_r _ [80, 23, 81, 24, 25, 26, 17, 27, 115, 116, 117, 118, 119, 120, 121, 122, 123, 124, 125, 126, 127, 128, 129, 130, 131, 132, 133, 134, 135, 136, 137, 138, 139, 140, 141, 142, 143, 144] (by decide +kernel) (by decide +kernel)) (goodIn_sub (fun _ h => List.mem_cons_of_mem _ (List.mem_append_right _ h)) (by decide +kernel))
set_option maxRecDepth 20000 in
theorem gX7_plan_X7_labelOf : GoodIn wsX7_plan (wsV RX7 163 RX7 yX7_labelOf wsX7_labelOf) := goodIn_app (goodIn_of _ (by decide +kernel)) ggX7_plan_X7_labelOf
set_option maxRecDepth 20000 in
theorem ggX7_plan_X7_orderByLabels : GoodIn wsX7_plan wsX7_orderByLabels := goodIn_ca (goodIn_r _ [85, 5, 86, 87, 88, 17, 89, 24, 90, 91, 92, 93, 94, 95, 65, 66, 67, 68, 8, 69, 70, 71, 72, 23, 25, 26, 27, 73, 74, 75, 76, 4, 9, 96, 97, 98, 99, 81, 115, 116, 117, 118, 119, 120, 121, 122, 123, 124, 125, 126, 127, 128, 129, 130, 131, 132, 133, 134, 135, 136, 137, 138, 139, 140, 141, 142, 143, 144] (by decide +kernel) (by decide +kernel)) (goodIn_sub (fun _ h => List.mem_cons_of_mem _ (List.mem_append_right _ h)) (by decide +kernel))
set_option maxRecDepth 20000 in
theorem gX7_plan_X7_orderByLabels : GoodIn wsX7_plan (wsV RX7 166 RX7 yX7_orderByLabels wsX7_orderByLabels) := goodIn_app (goodIn_of _ (by decide +kernel)) ggX7_plan_X7_orderByLabels
set_option maxRecDepth 20000 in
theorem ggX7_plan_X7_findLives : GoodIn wsX7_plan wsX7_findLives := goodIn_ca (goodIn_r _ [103, 5, 104, 105, 8, 24, 115, 116, 117, 118, 119, 120, 121, 122, 123, 124, 125, 126, 127, 128, 129, 130, 131, 132, 133, 134, 135, 136, 137, 138, 139, 140, 141, 142, 143, 144] (by decide +kernel) (by decide +kernel)) (goodIn_sub (fun _ h => List.mem_cons_of_mem _ (List.mem_append_right _ h)) (by decide +kernel))
set_option maxRecDepth 20000 in
theorem gX7_plan_X7_findLives : GoodIn wsX7_plan (wsV RX7 169 RX7 yX7_findLives wsX7_findLives) := goodIn_app (goodIn_of _ (by decide +kernel)) ggX7_plan_X7_findLives
set_option maxRecDepth 20000 in
theorem ggX7_plan_X7_findPlaces : GoodIn wsX7_plan wsX7_findPlaces := goodIn_ca (goodIn_r _ [109, 13, 5, 110, 9, 6, 111, 112, 113, 17, 114, 8, 104, 115, 116, 117, 118, 119, 120, 121, 122, 123, 124, 125, 126, 127, 128, 129, 130, 131, 132, 133, 134, 135, 136, 137, 138, 139, 140, 141, 142, 143, 144] (by decide +kernel) (by decide +kernel)) (goodIn_sub (fun _ h => List.mem_cons_of_mem _ (List.mem_append_right _ h)) (by decide +kernel))
set_option maxRecDepth 20000 in
theorem gX7_plan_X7_findPlaces : GoodIn wsX7_plan (wsV RX7 172 RX7 yX7_findPlaces wsX7_findPlaces) := goodIn_app (goodIn_of _ (by decide +kernel)) ggX7_plan_X7_findPlaces
theorem dX7_plan_0 : decode cX7_plan 0 = .ok (.aload_n 0, 1) := by decide +kernel
theorem dX7_plan_1 : decode cX7_plan 1 = .ok (.iconst 0, 1) := by decide +kernel
theorem dX7_plan_2 : decode cX7_plan 2 = .ok (.putfield 71, 3) := by decide +kernel
theorem dX7_plan_5 : decode cX7_plan 5 = .ok (.iload_n 1, 1) := by decide +kernel
theorem dX7_plan_6 : decode cX7_plan 6 = .ok (.ifCond .eq 14, 3) := by decide +kernel
theorem dX7_plan_9 : decode cX7_plan 9 = .ok (.iload_n 1, 1) := by decide +kernel
theorem dX7_plan_10 : decode cX7_plan 10 = .ok (.iconst 1, 1) := by decide +kernel
theorem dX7_plan_11 : decode cX7_plan 11 = .ok (.if_icmp .eq 9, 3) := by decide +kernel
theorem dX7_plan_14 : decode cX7_plan 14 = .ok (.aload_n 0, 1) := by decide +kernel
theorem dX7_plan_15 : decode cX7_plan 15 = .ok (.iconst 1, 1) := by decide +kernel
theorem dX7_plan_16 : decode cX7_plan 16 = .ok (.invokevirtual 82, 3) := by decide +kernel
theorem dX7_plan_19 : decode cX7_plan 19 = .ok (.ireturn, 1) := by decide +kernel
theorem dX7_plan_20 : decode cX7_plan 20 = .ok (.aload_n 0, 1) := by decide +kernel
theorem dX7_plan_21 : decode cX7_plan 21 = .ok (.invokevirtual 150, 3) := by decide +kernel
theorem dX7_plan_24 : decode cX7_plan 24 = .ok (.ifCond .ne 9, 3) := by decide +kernel
theorem dX7_plan_27 : decode cX7_plan 27 = .ok (.aload_n 0, 1) := by decide +kernel
theorem dX7_plan_28 : decode cX7_plan 28 = .ok (.iconst 2, 1) := by decide +kernel
theorem dX7_plan_29 : decode cX7_plan 29 = .ok (.invokevirtual 82, 3) := by decide +kernel
theorem dX7_plan_32 : decode cX7_plan 32 = .ok (.ireturn, 1) := by decide +kernel
theorem dX7_plan_33 : decode cX7_plan 33 = .ok (.aload_n 0, 1) := by decide +kernel
theorem dX7_plan_34 : decode cX7_plan 34 = .ok (.invokevirtual 110, 3) := by decide +kernel
theorem dX7_plan_37 : decode cX7_plan 37 = .ok (.aload_n 0, 1) := by decide +kernel
theorem dX7_plan_38 : decode cX7_plan 38 = .ok (.getfield 100, 3) := by decide +kernel
theorem dX7_plan_41 : decode cX7_plan 41 = .ok (.ifCond .le 9, 3) := by decide +kernel
theorem dX7_plan_44 : decode cX7_plan 44 = .ok (.aload_n 0, 1) := by decide +kernel
theorem dX7_plan_45 : decode cX7_plan 45 = .ok (.iconst 3, 1) := by decide +kernel
theorem dX7_plan_46 : decode cX7_plan 46 = .ok (.invokevirtual 82, 3) := by decide +kernel
theorem dX7_plan_49 : decode cX7_plan 49 = .ok (.ireturn, 1) := by decide +kernel
theorem dX7_plan_50 : decode cX7_plan 50 = .ok (.aload_n 0, 1) := by decide +kernel
theorem dX7_plan_51 : decode cX7_plan 51 = .ok (.invokevirtual 154, 3) := by decide +kernel
theorem dX7_plan_54 : decode cX7_plan 54 = .ok (.ifCond .ne 9, 3) := by decide +kernel
theorem dX7_plan_57 : decode cX7_plan 57 = .ok (.aload_n 0, 1) := by decide +kernel
theorem dX7_plan_58 : decode cX7_plan 58 = .ok (.iconst 4, 1) := by decide +kernel
theorem dX7_plan_59 : decode cX7_plan 59 = .ok (.invokevirtual 82, 3) := by decide +kernel
theorem dX7_plan_62 : decode cX7_plan 62 = .ok (.ireturn, 1) := by decide +kernel
theorem dX7_plan_63 : decode cX7_plan 63 = .ok (.aload_n 0, 1) := by decide +kernel
theorem dX7_plan_64 : decode cX7_plan 64 = .ok (.iload_n 1, 1) := by decide +kernel
theorem dX7_plan_65 : decode cX7_plan 65 = .ok (.putfield 157, 3) := by decide +kernel
theorem dX7_plan_68 : decode cX7_plan 68 = .ok (.aload_n 0, 1) := by decide +kernel
theorem dX7_plan_69 : decode cX7_plan 69 = .ok (.iconst 0, 1) := by decide +kernel
theorem dX7_plan_70 : decode cX7_plan 70 = .ok (.putfield 119, 3) := by decide +kernel
theorem dX7_plan_73 : decode cX7_plan 73 = .ok (.iconst 0, 1) := by decide +kernel
theorem dX7_plan_74 : decode cX7_plan 74 = .ok (.istore_n 2, 1) := by decide +kernel
theorem dX7_plan_75 : decode cX7_plan 75 = .ok (.iload_n 2, 1) := by decide +kernel
theorem dX7_plan_76 : decode cX7_plan 76 = .ok (.aload_n 0, 1) := by decide +kernel
theorem dX7_plan_77 : decode cX7_plan 77 = .ok (.getfield 75, 3) := by decide +kernel
theorem dX7_plan_80 : decode cX7_plan 80 = .ok (.if_icmp .ge 28, 3) := by decide +kernel
theorem dX7_plan_83 : decode cX7_plan 83 = .ok (.aload_n 0, 1) := by decide +kernel
theorem dX7_plan_84 : decode cX7_plan 84 = .ok (.getfield 35, 3) := by decide +kernel
theorem dX7_plan_87 : decode cX7_plan 87 = .ok (.iload_n 2, 1) := by decide +kernel
theorem dX7_plan_88 : decode cX7_plan 88 = .ok (.aload_n 0, 1) := by decide +kernel
theorem dX7_plan_89 : decode cX7_plan 89 = .ok (.getfield 53, 3) := by decide +kernel
theorem dX7_plan_92 : decode cX7_plan 92 = .ok (.iload_n 2, 1) := by decide +kernel
theorem dX7_plan_93 : decode cX7_plan 93 = .ok (.iaload, 1) := by decide +kernel
theorem dX7_plan_94 : decode cX7_plan 94 = .ok (.iastore, 1) := by decide +kernel
theorem dX7_plan_95 : decode cX7_plan 95 = .ok (.aload_n 0, 1) := by decide +kernel
theorem dX7_plan_96 : decode cX7_plan 96 = .ok (.getfield 44, 3) := by decide +kernel
theorem dX7_plan_99 : decode cX7_plan 99 = .ok (.iload_n 2, 1) := by decide +kernel
theorem dX7_plan_100 : decode cX7_plan 100 = .ok (.iconst (-1), 1) := by decide +kernel
theorem dX7_plan_101 : decode cX7_plan 101 = .ok (.iastore, 1) := by decide +kernel
theorem dX7_plan_102 : decode cX7_plan 102 = .ok (.iinc 2 1, 3) := by decide +kernel
theorem dX7_plan_105 : decode cX7_plan 105 = .ok (.goto (-30), 3) := by decide +kernel
theorem dX7_plan_108 : decode cX7_plan 108 = .ok (.aload_n 0, 1) := by decide +kernel
theorem dX7_plan_109 : decode cX7_plan 109 = .ok (.invokevirtual 160, 3) := by decide +kernel
theorem dX7_plan_112 : decode cX7_plan 112 = .ok (.iconst 0, 1) := by decide +kernel
theorem dX7_plan_113 : decode cX7_plan 113 = .ok (.istore_n 2, 1) := by decide +kernel
theorem dX7_plan_114 : decode cX7_plan 114 = .ok (.iload_n 2, 1) := by decide +kernel
theorem dX7_plan_115 : decode cX7_plan 115 = .ok (.aload_n 0, 1) := by decide +kernel
theorem dX7_plan_116 : decode cX7_plan 116 = .ok (.getfield 75, 3) := by decide +kernel
theorem dX7_plan_119 : decode cX7_plan 119 = .ok (.if_icmp .ge 19, 3) := by decide +kernel
theorem dX7_plan_122 : decode cX7_plan 122 = .ok (.aload_n 0, 1) := by decide +kernel
theorem dX7_plan_123 : decode cX7_plan 123 = .ok (.aload_n 0, 1) := by decide +kernel
theorem dX7_plan_124 : decode cX7_plan 124 = .ok (.getfield 41, 3) := by decide +kernel
theorem dX7_plan_127 : decode cX7_plan 127 = .ok (.iload_n 2, 1) := by decide +kernel
theorem dX7_plan_128 : decode cX7_plan 128 = .ok (.iaload, 1) := by decide +kernel
theorem dX7_plan_129 : decode cX7_plan 129 = .ok (.invokevirtual 163, 3) := by decide +kernel
theorem dX7_plan_132 : decode cX7_plan 132 = .ok (.iinc 2 1, 3) := by decide +kernel
theorem dX7_plan_135 : decode cX7_plan 135 = .ok (.goto (-21), 3) := by decide +kernel
theorem dX7_plan_138 : decode cX7_plan 138 = .ok (.aload_n 0, 1) := by decide +kernel
theorem dX7_plan_139 : decode cX7_plan 139 = .ok (.getfield 157, 3) := by decide +kernel
theorem dX7_plan_142 : decode cX7_plan 142 = .ok (.iconst 1, 1) := by decide +kernel
theorem dX7_plan_143 : decode cX7_plan 143 = .ok (.if_icmp .ne 35, 3) := by decide +kernel
theorem dX7_plan_146 : decode cX7_plan 146 = .ok (.aload_n 0, 1) := by decide +kernel
theorem dX7_plan_147 : decode cX7_plan 147 = .ok (.iconst 0, 1) := by decide +kernel
theorem dX7_plan_148 : decode cX7_plan 148 = .ok (.putfield 119, 3) := by decide +kernel
theorem dX7_plan_151 : decode cX7_plan 151 = .ok (.iconst 0, 1) := by decide +kernel
theorem dX7_plan_152 : decode cX7_plan 152 = .ok (.istore_n 2, 1) := by decide +kernel
theorem dX7_plan_153 : decode cX7_plan 153 = .ok (.iload_n 2, 1) := by decide +kernel
theorem dX7_plan_154 : decode cX7_plan 154 = .ok (.aload_n 0, 1) := by decide +kernel
theorem dX7_plan_155 : decode cX7_plan 155 = .ok (.getfield 75, 3) := by decide +kernel
theorem dX7_plan_158 : decode cX7_plan 158 = .ok (.if_icmp .ge 16, 3) := by decide +kernel
theorem dX7_plan_161 : decode cX7_plan 161 = .ok (.aload_n 0, 1) := by decide +kernel
theorem dX7_plan_162 : decode cX7_plan 162 = .ok (.getfield 44, 3) := by decide +kernel
theorem dX7_plan_165 : decode cX7_plan 165 = .ok (.iload_n 2, 1) := by decide +kernel
theorem dX7_plan_166 : decode cX7_plan 166 = .ok (.iconst (-1), 1) := by decide +kernel
theorem dX7_plan_167 : decode cX7_plan 167 = .ok (.iastore, 1) := by decide +kernel
theorem dX7_plan_168 : decode cX7_plan 168 = .ok (.iinc 2 1, 3) := by decide +kernel
theorem dX7_plan_171 : decode cX7_plan 171 = .ok (.goto (-18), 3) := by decide +kernel
theorem dX7_plan_174 : decode cX7_plan 174 = .ok (.aload_n 0, 1) := by decide +kernel
theorem dX7_plan_175 : decode cX7_plan 175 = .ok (.invokevirtual 166, 3) := by decide +kernel
theorem dX7_plan_178 : decode cX7_plan 178 = .ok (.aload_n 0, 1) := by decide +kernel
theorem dX7_plan_179 : decode cX7_plan 179 = .ok (.invokevirtual 169, 3) := by decide +kernel
theorem dX7_plan_182 : decode cX7_plan 182 = .ok (.aload_n 0, 1) := by decide +kernel
theorem dX7_plan_183 : decode cX7_plan 183 = .ok (.invokevirtual 172, 3) := by decide +kernel
theorem dX7_plan_186 : decode cX7_plan 186 = .ok (.aload_n 0, 1) := by decide +kernel
theorem dX7_plan_187 : decode cX7_plan 187 = .ok (.iconst 1, 1) := by decide +kernel
theorem dX7_plan_188 : decode cX7_plan 188 = .ok (.putfield 86, 3) := by decide +kernel
theorem dX7_plan_191 : decode cX7_plan 191 = .ok (.aload_n 0, 1) := by decide +kernel
theorem dX7_plan_192 : decode cX7_plan 192 = .ok (.iconst 0, 1) := by decide +kernel
theorem dX7_plan_193 : decode cX7_plan 193 = .ok (.putfield 175, 3) := by decide +kernel
theorem dX7_plan_196 : decode cX7_plan 196 = .ok (.aload_n 0, 1) := by decide +kernel
theorem dX7_plan_197 : decode cX7_plan 197 = .ok (.iconst (-1), 1) := by decide +kernel
theorem dX7_plan_198 : decode cX7_plan 198 = .ok (.putfield 178, 3) := by decide +kernel
theorem dX7_plan_201 : decode cX7_plan 201 = .ok (.aload_n 0, 1) := by decide +kernel
theorem dX7_plan_202 : decode cX7_plan 202 = .ok (.getfield 143, 3) := by decide +kernel
theorem dX7_plan_205 : decode cX7_plan 205 = .ok (.ireturn, 1) := by decide +kernel
theorem dX7_order_0 : decode cX7_order 0 = .ok (.aload_n 0, 1) := by decide +kernel
theorem dX7_order_1 : decode cX7_order 1 = .ok (.aload_n 0, 1) := by decide +kernel
theorem dX7_order_2 : decode cX7_order 2 = .ok (.getfield 86, 3) := by decide +kernel
theorem dX7_order_5 : decode cX7_order 5 = .ok (.ifCond .ne 7, 3) := by decide +kernel
theorem dX7_order_8 : decode cX7_order 8 = .ok (.iconst 1, 1) := by decide +kernel
theorem dX7_order_9 : decode cX7_order 9 = .ok (.goto 20, 3) := by decide +kernel
theorem dX7_order_12 : decode cX7_order 12 = .ok (.iload_n 1, 1) := by decide +kernel
theorem dX7_order_13 : decode cX7_order 13 = .ok (.ifCond .lt 11, 3) := by decide +kernel
theorem dX7_order_16 : decode cX7_order 16 = .ok (.iload_n 1, 1) := by decide +kernel
theorem dX7_order_17 : decode cX7_order 17 = .ok (.aload_n 0, 1) := by decide +kernel
theorem dX7_order_18 : decode cX7_order 18 = .ok (.getfield 75, 3) := by decide +kernel
theorem dX7_order_21 : decode cX7_order 21 = .ok (.if_icmp .lt 7, 3) := by decide +kernel
theorem dX7_order_24 : decode cX7_order 24 = .ok (.iconst 2, 1) := by decide +kernel
theorem dX7_order_25 : decode cX7_order 25 = .ok (.goto 4, 3) := by decide +kernel
theorem dX7_order_28 : decode cX7_order 28 = .ok (.iconst 0, 1) := by decide +kernel
theorem dX7_order_29 : decode cX7_order 29 = .ok (.putfield 71, 3) := by decide +kernel
theorem dX7_order_32 : decode cX7_order 32 = .ok (.aload_n 0, 1) := by decide +kernel
theorem dX7_order_33 : decode cX7_order 33 = .ok (.getfield 71, 3) := by decide +kernel
theorem dX7_order_36 : decode cX7_order 36 = .ok (.ifCond .ne 12, 3) := by decide +kernel
theorem dX7_order_39 : decode cX7_order 39 = .ok (.aload_n 0, 1) := by decide +kernel
theorem dX7_order_40 : decode cX7_order 40 = .ok (.getfield 41, 3) := by decide +kernel
theorem dX7_order_43 : decode cX7_order 43 = .ok (.iload_n 1, 1) := by decide +kernel
theorem dX7_order_44 : decode cX7_order 44 = .ok (.iaload, 1) := by decide +kernel
theorem dX7_order_45 : decode cX7_order 45 = .ok (.goto 4, 3) := by decide +kernel
theorem dX7_order_48 : decode cX7_order 48 = .ok (.iconst 0, 1) := by decide +kernel
theorem dX7_order_49 : decode cX7_order 49 = .ok (.ireturn, 1) := by decide +kernel
set_option maxRecDepth 20000 in
theorem ggX7_about_X7_isNode : GoodIn wsX7_about wsX7_isNode := goodIn_r _ [12, 13, 14, 15, 16, 17, 18, 19, 20, 21, 22, 23, 24, 25, 26, 27, 28, 29, 30, 31, 32, 33, 34, 35, 36, 37, 38, 39, 40, 41, 42, 43] (by decide +kernel) (by decide +kernel)
set_option maxRecDepth 20000 in
theorem gX7_about_X7_isNode : GoodIn wsX7_about (wsV RX7 90 RX7 yX7_isNode wsX7_isNode) := goodIn_app (goodIn_of _ (by decide +kernel)) ggX7_about_X7_isNode
theorem dX7_about_0 : decode cX7_about 0 = .ok (.aload_n 0, 1) := by decide +kernel
theorem dX7_about_1 : decode cX7_about 1 = .ok (.aload_n 0, 1) := by decide +kernel
theorem dX7_about_2 : decode cX7_about 2 = .ok (.getfield 86, 3) := by decide +kernel
theorem dX7_about_5 : decode cX7_about 5 = .ok (.ifCond .ne 7, 3) := by decide +kernel
theorem dX7_about_8 : decode cX7_about 8 = .ok (.iconst 1, 1) := by decide +kernel
theorem dX7_about_9 : decode cX7_about 9 = .ok (.goto 25, 3) := by decide +kernel
theorem dX7_about_12 : decode cX7_about 12 = .ok (.aload_n 0, 1) := by decide +kernel
theorem dX7_about_13 : decode cX7_about 13 = .ok (.iload_n 1, 1) := by decide +kernel
theorem dX7_about_14 : decode cX7_about 14 = .ok (.invokevirtual 90, 3) := by decide +kernel
theorem dX7_about_17 : decode cX7_about 17 = .ok (.ifCond .eq 12, 3) := by decide +kernel
theorem dX7_about_20 : decode cX7_about 20 = .ok (.iload_n 2, 1) := by decide +kernel
theorem dX7_about_21 : decode cX7_about 21 = .ok (.ifCond .lt 8, 3) := by decide +kernel
theorem dX7_about_24 : decode cX7_about 24 = .ok (.iload_n 2, 1) := by decide +kernel
theorem dX7_about_25 : decode cX7_about 25 = .ok (.iconst 4, 1) := by decide +kernel
theorem dX7_about_26 : decode cX7_about 26 = .ok (.if_icmp .le 7, 3) := by decide +kernel
theorem dX7_about_29 : decode cX7_about 29 = .ok (.iconst 2, 1) := by decide +kernel
theorem dX7_about_30 : decode cX7_about 30 = .ok (.goto 4, 3) := by decide +kernel
theorem dX7_about_33 : decode cX7_about 33 = .ok (.iconst 0, 1) := by decide +kernel
theorem dX7_about_34 : decode cX7_about 34 = .ok (.putfield 71, 3) := by decide +kernel
theorem dX7_about_37 : decode cX7_about 37 = .ok (.aload_n 0, 1) := by decide +kernel
theorem dX7_about_38 : decode cX7_about 38 = .ok (.getfield 71, 3) := by decide +kernel
theorem dX7_about_41 : decode cX7_about 41 = .ok (.ifCond .le 5, 3) := by decide +kernel
theorem dX7_about_44 : decode cX7_about 44 = .ok (.iconst 0, 1) := by decide +kernel
theorem dX7_about_45 : decode cX7_about 45 = .ok (.ireturn, 1) := by decide +kernel
theorem dX7_about_46 : decode cX7_about 46 = .ok (.iload_n 2, 1) := by decide +kernel
theorem dX7_about_47 : decode cX7_about 47 = .ok (.ifCond .ne 12, 3) := by decide +kernel
theorem dX7_about_50 : decode cX7_about 50 = .ok (.aload_n 0, 1) := by decide +kernel
theorem dX7_about_51 : decode cX7_about 51 = .ok (.getfield 35, 3) := by decide +kernel
theorem dX7_about_54 : decode cX7_about 54 = .ok (.iload_n 1, 1) := by decide +kernel
theorem dX7_about_55 : decode cX7_about 55 = .ok (.iaload, 1) := by decide +kernel
theorem dX7_about_56 : decode cX7_about 56 = .ok (.goto 51, 3) := by decide +kernel
theorem dX7_about_59 : decode cX7_about 59 = .ok (.iload_n 2, 1) := by decide +kernel
theorem dX7_about_60 : decode cX7_about 60 = .ok (.iconst 1, 1) := by decide +kernel
theorem dX7_about_61 : decode cX7_about 61 = .ok (.if_icmp .ne 12, 3) := by decide +kernel
theorem dX7_about_64 : decode cX7_about 64 = .ok (.aload_n 0, 1) := by decide +kernel
theorem dX7_about_65 : decode cX7_about 65 = .ok (.getfield 44, 3) := by decide +kernel
theorem dX7_about_68 : decode cX7_about 68 = .ok (.iload_n 1, 1) := by decide +kernel
theorem dX7_about_69 : decode cX7_about 69 = .ok (.iaload, 1) := by decide +kernel
theorem dX7_about_70 : decode cX7_about 70 = .ok (.goto 37, 3) := by decide +kernel
theorem dX7_about_73 : decode cX7_about 73 = .ok (.iload_n 2, 1) := by decide +kernel
theorem dX7_about_74 : decode cX7_about 74 = .ok (.iconst 2, 1) := by decide +kernel
theorem dX7_about_75 : decode cX7_about 75 = .ok (.if_icmp .ne 12, 3) := by decide +kernel
theorem dX7_about_78 : decode cX7_about 78 = .ok (.aload_n 0, 1) := by decide +kernel
theorem dX7_about_79 : decode cX7_about 79 = .ok (.getfield 47, 3) := by decide +kernel
theorem dX7_about_82 : decode cX7_about 82 = .ok (.iload_n 1, 1) := by decide +kernel
theorem dX7_about_83 : decode cX7_about 83 = .ok (.iaload, 1) := by decide +kernel
theorem dX7_about_84 : decode cX7_about 84 = .ok (.goto 23, 3) := by decide +kernel
theorem dX7_about_87 : decode cX7_about 87 = .ok (.iload_n 2, 1) := by decide +kernel
theorem dX7_about_88 : decode cX7_about 88 = .ok (.iconst 3, 1) := by decide +kernel
theorem dX7_about_89 : decode cX7_about 89 = .ok (.if_icmp .ne 12, 3) := by decide +kernel
theorem dX7_about_92 : decode cX7_about 92 = .ok (.aload_n 0, 1) := by decide +kernel
theorem dX7_about_93 : decode cX7_about 93 = .ok (.getfield 50, 3) := by decide +kernel
theorem dX7_about_96 : decode cX7_about 96 = .ok (.iload_n 1, 1) := by decide +kernel
theorem dX7_about_97 : decode cX7_about 97 = .ok (.iaload, 1) := by decide +kernel
theorem dX7_about_98 : decode cX7_about 98 = .ok (.goto 9, 3) := by decide +kernel
theorem dX7_about_101 : decode cX7_about 101 = .ok (.aload_n 0, 1) := by decide +kernel
theorem dX7_about_102 : decode cX7_about 102 = .ok (.getfield 38, 3) := by decide +kernel
theorem dX7_about_105 : decode cX7_about 105 = .ok (.iload_n 1, 1) := by decide +kernel
theorem dX7_about_106 : decode cX7_about 106 = .ok (.iaload, 1) := by decide +kernel
theorem dX7_about_107 : decode cX7_about 107 = .ok (.ireturn, 1) := by decide +kernel
theorem dX7_costOf_0 : decode cX7_costOf 0 = .ok (.iconst 0, 1) := by decide +kernel
theorem dX7_costOf_1 : decode cX7_costOf 1 = .ok (.istore_n 2, 1) := by decide +kernel
theorem dX7_costOf_2 : decode cX7_costOf 2 = .ok (.iconst 0, 1) := by decide +kernel
theorem dX7_costOf_3 : decode cX7_costOf 3 = .ok (.istore_n 3, 1) := by decide +kernel
theorem dX7_costOf_4 : decode cX7_costOf 4 = .ok (.iload_n 3, 1) := by decide +kernel
theorem dX7_costOf_5 : decode cX7_costOf 5 = .ok (.aload_n 0, 1) := by decide +kernel
theorem dX7_costOf_6 : decode cX7_costOf 6 = .ok (.getfield 75, 3) := by decide +kernel
theorem dX7_costOf_9 : decode cX7_costOf 9 = .ok (.if_icmp .ge 42, 3) := by decide +kernel
theorem dX7_costOf_12 : decode cX7_costOf 12 = .ok (.aload_n 0, 1) := by decide +kernel
theorem dX7_costOf_13 : decode cX7_costOf 13 = .ok (.getfield 44, 3) := by decide +kernel
theorem dX7_costOf_16 : decode cX7_costOf 16 = .ok (.iload_n 3, 1) := by decide +kernel
theorem dX7_costOf_17 : decode cX7_costOf 17 = .ok (.iaload, 1) := by decide +kernel
theorem dX7_costOf_18 : decode cX7_costOf 18 = .ok (.iload_n 1, 1) := by decide +kernel
theorem dX7_costOf_19 : decode cX7_costOf 19 = .ok (.if_icmp .gt 24, 3) := by decide +kernel
theorem dX7_costOf_22 : decode cX7_costOf 22 = .ok (.iload_n 1, 1) := by decide +kernel
theorem dX7_costOf_23 : decode cX7_costOf 23 = .ok (.aload_n 0, 1) := by decide +kernel
theorem dX7_costOf_24 : decode cX7_costOf 24 = .ok (.getfield 47, 3) := by decide +kernel
theorem dX7_costOf_27 : decode cX7_costOf 27 = .ok (.iload_n 3, 1) := by decide +kernel
theorem dX7_costOf_28 : decode cX7_costOf 28 = .ok (.iaload, 1) := by decide +kernel
theorem dX7_costOf_29 : decode cX7_costOf 29 = .ok (.if_icmp .gt 14, 3) := by decide +kernel
theorem dX7_costOf_32 : decode cX7_costOf 32 = .ok (.iload_n 2, 1) := by decide +kernel
theorem dX7_costOf_33 : decode cX7_costOf 33 = .ok (.aload_n 0, 1) := by decide +kernel
theorem dX7_costOf_34 : decode cX7_costOf 34 = .ok (.getfield 35, 3) := by decide +kernel
theorem dX7_costOf_37 : decode cX7_costOf 37 = .ok (.iload_n 3, 1) := by decide +kernel
theorem dX7_costOf_38 : decode cX7_costOf 38 = .ok (.iaload, 1) := by decide +kernel
theorem dX7_costOf_39 : decode cX7_costOf 39 = .ok (.iadd, 1) := by decide +kernel
theorem dX7_costOf_40 : decode cX7_costOf 40 = .ok (.goto 4, 3) := by decide +kernel
theorem dX7_costOf_43 : decode cX7_costOf 43 = .ok (.iload_n 2, 1) := by decide +kernel
theorem dX7_costOf_44 : decode cX7_costOf 44 = .ok (.istore_n 2, 1) := by decide +kernel
theorem dX7_costOf_45 : decode cX7_costOf 45 = .ok (.iinc 3 1, 3) := by decide +kernel
theorem dX7_costOf_48 : decode cX7_costOf 48 = .ok (.goto (-44), 3) := by decide +kernel
theorem dX7_costOf_51 : decode cX7_costOf 51 = .ok (.iload_n 2, 1) := by decide +kernel
theorem dX7_costOf_52 : decode cX7_costOf 52 = .ok (.ireturn, 1) := by decide +kernel
set_option maxRecDepth 20000 in
theorem ggX7_cost_X7_costOf : GoodIn wsX7_cost wsX7_costOf := goodIn_ca (goodIn_r _ [8, 2, 9, 10, 11, 12, 13, 14, 15, 16, 17, 18, 19, 20, 21, 22, 23, 24, 25, 26, 27, 28, 29, 30, 31, 32, 33, 34, 35, 36, 37, 38, 39, 40, 41] (by decide +kernel) (by decide +kernel)) (goodIn_sub (fun _ h => List.mem_cons_of_mem _ (List.mem_append_right _ h)) (by decide +kernel))
set_option maxRecDepth 20000 in
theorem gX7_cost_X7_costOf : GoodIn wsX7_cost (wsV RX7 181 RX7 yX7_costOf wsX7_costOf) := goodIn_app (goodIn_of _ (by decide +kernel)) ggX7_cost_X7_costOf
theorem dX7_cost_0 : decode cX7_cost 0 = .ok (.aload_n 0, 1) := by decide +kernel
theorem dX7_cost_1 : decode cX7_cost 1 = .ok (.aload_n 0, 1) := by decide +kernel
theorem dX7_cost_2 : decode cX7_cost 2 = .ok (.getfield 86, 3) := by decide +kernel
theorem dX7_cost_5 : decode cX7_cost 5 = .ok (.ifCond .ne 7, 3) := by decide +kernel
theorem dX7_cost_8 : decode cX7_cost 8 = .ok (.iconst 1, 1) := by decide +kernel
theorem dX7_cost_9 : decode cX7_cost 9 = .ok (.goto 20, 3) := by decide +kernel
theorem dX7_cost_12 : decode cX7_cost 12 = .ok (.iload_n 1, 1) := by decide +kernel
theorem dX7_cost_13 : decode cX7_cost 13 = .ok (.ifCond .lt 11, 3) := by decide +kernel
theorem dX7_cost_16 : decode cX7_cost 16 = .ok (.iload_n 1, 1) := by decide +kernel
theorem dX7_cost_17 : decode cX7_cost 17 = .ok (.aload_n 0, 1) := by decide +kernel
theorem dX7_cost_18 : decode cX7_cost 18 = .ok (.getfield 75, 3) := by decide +kernel
theorem dX7_cost_21 : decode cX7_cost 21 = .ok (.if_icmp .lt 7, 3) := by decide +kernel
theorem dX7_cost_24 : decode cX7_cost 24 = .ok (.iconst 2, 1) := by decide +kernel
theorem dX7_cost_25 : decode cX7_cost 25 = .ok (.goto 4, 3) := by decide +kernel
theorem dX7_cost_28 : decode cX7_cost 28 = .ok (.iconst 0, 1) := by decide +kernel
theorem dX7_cost_29 : decode cX7_cost 29 = .ok (.putfield 71, 3) := by decide +kernel
theorem dX7_cost_32 : decode cX7_cost 32 = .ok (.aload_n 0, 1) := by decide +kernel
theorem dX7_cost_33 : decode cX7_cost 33 = .ok (.getfield 71, 3) := by decide +kernel
theorem dX7_cost_36 : decode cX7_cost 36 = .ok (.ifCond .ne 11, 3) := by decide +kernel
theorem dX7_cost_39 : decode cX7_cost 39 = .ok (.aload_n 0, 1) := by decide +kernel
theorem dX7_cost_40 : decode cX7_cost 40 = .ok (.iload_n 1, 1) := by decide +kernel
theorem dX7_cost_41 : decode cX7_cost 41 = .ok (.invokevirtual 181, 3) := by decide +kernel
theorem dX7_cost_44 : decode cX7_cost 44 = .ok (.goto 4, 3) := by decide +kernel
theorem dX7_cost_47 : decode cX7_cost 47 = .ok (.iconst 0, 1) := by decide +kernel
theorem dX7_cost_48 : decode cX7_cost 48 = .ok (.ireturn, 1) := by decide +kernel
set_option maxRecDepth 20000 in
theorem ggX7_peak_X7_costOf : GoodIn wsX7_peak wsX7_costOf := goodIn_ca (goodIn_r _ [8, 3, 9, 10, 11, 12, 13, 14, 15, 16, 17, 18, 19, 20, 21, 22, 23, 24, 25, 26, 27, 28, 29, 30, 31, 32, 33, 34, 35, 36, 37, 38, 39, 40, 41] (by decide +kernel) (by decide +kernel)) (goodIn_sub (fun _ h => List.mem_cons_of_mem _ (List.mem_append_right _ h)) (by decide +kernel))
set_option maxRecDepth 20000 in
theorem gX7_peak_X7_costOf : GoodIn wsX7_peak (wsV RX7 181 RX7 yX7_costOf wsX7_costOf) := goodIn_app (goodIn_of _ (by decide +kernel)) ggX7_peak_X7_costOf
theorem dX7_peak_0 : decode cX7_peak 0 = .ok (.aload_n 0, 1) := by decide +kernel
theorem dX7_peak_1 : decode cX7_peak 1 = .ok (.aload_n 0, 1) := by decide +kernel
theorem dX7_peak_2 : decode cX7_peak 2 = .ok (.getfield 86, 3) := by decide +kernel
theorem dX7_peak_5 : decode cX7_peak 5 = .ok (.ifCond .eq 7, 3) := by decide +kernel
theorem dX7_peak_8 : decode cX7_peak 8 = .ok (.iconst 0, 1) := by decide +kernel
theorem dX7_peak_9 : decode cX7_peak 9 = .ok (.goto 4, 3) := by decide +kernel
theorem dX7_peak_12 : decode cX7_peak 12 = .ok (.iconst 1, 1) := by decide +kernel
theorem dX7_peak_13 : decode cX7_peak 13 = .ok (.putfield 71, 3) := by decide +kernel
theorem dX7_peak_16 : decode cX7_peak 16 = .ok (.iconst 0, 1) := by decide +kernel
theorem dX7_peak_17 : decode cX7_peak 17 = .ok (.istore_n 1, 1) := by decide +kernel
theorem dX7_peak_18 : decode cX7_peak 18 = .ok (.iconst 0, 1) := by decide +kernel
theorem dX7_peak_19 : decode cX7_peak 19 = .ok (.istore_n 2, 1) := by decide +kernel
theorem dX7_peak_20 : decode cX7_peak 20 = .ok (.iload_n 2, 1) := by decide +kernel
theorem dX7_peak_21 : decode cX7_peak 21 = .ok (.aload_n 0, 1) := by decide +kernel
theorem dX7_peak_22 : decode cX7_peak 22 = .ok (.getfield 75, 3) := by decide +kernel
theorem dX7_peak_25 : decode cX7_peak 25 = .ok (.if_icmp .ge 35, 3) := by decide +kernel
theorem dX7_peak_28 : decode cX7_peak 28 = .ok (.aload_n 0, 1) := by decide +kernel
theorem dX7_peak_29 : decode cX7_peak 29 = .ok (.getfield 86, 3) := by decide +kernel
theorem dX7_peak_32 : decode cX7_peak 32 = .ok (.ifCond .eq 28, 3) := by decide +kernel
theorem dX7_peak_35 : decode cX7_peak 35 = .ok (.aload_n 0, 1) := by decide +kernel
theorem dX7_peak_36 : decode cX7_peak 36 = .ok (.iload_n 2, 1) := by decide +kernel
theorem dX7_peak_37 : decode cX7_peak 37 = .ok (.invokevirtual 181, 3) := by decide +kernel
theorem dX7_peak_40 : decode cX7_peak 40 = .ok (.iload_n 1, 1) := by decide +kernel
theorem dX7_peak_41 : decode cX7_peak 41 = .ok (.if_icmp .le 11, 3) := by decide +kernel
theorem dX7_peak_44 : decode cX7_peak 44 = .ok (.aload_n 0, 1) := by decide +kernel
theorem dX7_peak_45 : decode cX7_peak 45 = .ok (.iload_n 2, 1) := by decide +kernel
theorem dX7_peak_46 : decode cX7_peak 46 = .ok (.invokevirtual 181, 3) := by decide +kernel
theorem dX7_peak_49 : decode cX7_peak 49 = .ok (.goto 4, 3) := by decide +kernel
theorem dX7_peak_52 : decode cX7_peak 52 = .ok (.iload_n 1, 1) := by decide +kernel
theorem dX7_peak_53 : decode cX7_peak 53 = .ok (.istore_n 1, 1) := by decide +kernel
theorem dX7_peak_54 : decode cX7_peak 54 = .ok (.iinc 2 1, 3) := by decide +kernel
theorem dX7_peak_57 : decode cX7_peak 57 = .ok (.goto (-37), 3) := by decide +kernel
theorem dX7_peak_60 : decode cX7_peak 60 = .ok (.iload_n 1, 1) := by decide +kernel
theorem dX7_peak_61 : decode cX7_peak 61 = .ok (.ireturn, 1) := by decide +kernel
set_option maxRecDepth 20000 in
theorem ggX7_needed_X7_inputs : GoodIn wsX7_needed wsX7_inputs := goodIn_r _ [6] (by decide +kernel) (by decide +kernel)
set_option maxRecDepth 20000 in
theorem gX7_needed_X7_inputs : GoodIn wsX7_needed (va_wsS RX7 94 yX7_inputs wsX7_inputs) := goodIn_app (goodIn_of _ (by decide +kernel)) ggX7_needed_X7_inputs
theorem dX7_needed_0 : decode cX7_needed 0 = .ok (.iconst 0, 1) := by decide +kernel
theorem dX7_needed_1 : decode cX7_needed 1 = .ok (.istore_n 2, 1) := by decide +kernel
theorem dX7_needed_2 : decode cX7_needed 2 = .ok (.iconst 0, 1) := by decide +kernel
theorem dX7_needed_3 : decode cX7_needed 3 = .ok (.istore_n 3, 1) := by decide +kernel
theorem dX7_needed_4 : decode cX7_needed 4 = .ok (.iload_n 3, 1) := by decide +kernel
theorem dX7_needed_5 : decode cX7_needed 5 = .ok (.aload_n 0, 1) := by decide +kernel
theorem dX7_needed_6 : decode cX7_needed 6 = .ok (.getfield 7, 3) := by decide +kernel
theorem dX7_needed_9 : decode cX7_needed 9 = .ok (.iload_n 1, 1) := by decide +kernel
theorem dX7_needed_10 : decode cX7_needed 10 = .ok (.iaload, 1) := by decide +kernel
theorem dX7_needed_11 : decode cX7_needed 11 = .ok (.invokestatic 94, 3) := by decide +kernel
theorem dX7_needed_14 : decode cX7_needed 14 = .ok (.if_icmp .ge 24, 3) := by decide +kernel
theorem dX7_needed_17 : decode cX7_needed 17 = .ok (.iload_n 2, 1) := by decide +kernel
theorem dX7_needed_18 : decode cX7_needed 18 = .ok (.iconst 1, 1) := by decide +kernel
theorem dX7_needed_19 : decode cX7_needed 19 = .ok (.aload_n 0, 1) := by decide +kernel
theorem dX7_needed_20 : decode cX7_needed 20 = .ok (.getfield 19, 3) := by decide +kernel
theorem dX7_needed_23 : decode cX7_needed 23 = .ok (.iconst 2, 1) := by decide +kernel
theorem dX7_needed_24 : decode cX7_needed 24 = .ok (.iload_n 1, 1) := by decide +kernel
theorem dX7_needed_25 : decode cX7_needed 25 = .ok (.imul, 1) := by decide +kernel
theorem dX7_needed_26 : decode cX7_needed 26 = .ok (.iload_n 3, 1) := by decide +kernel
theorem dX7_needed_27 : decode cX7_needed 27 = .ok (.iadd, 1) := by decide +kernel
theorem dX7_needed_28 : decode cX7_needed 28 = .ok (.iaload, 1) := by decide +kernel
theorem dX7_needed_29 : decode cX7_needed 29 = .ok (.ishl, 1) := by decide +kernel
theorem dX7_needed_30 : decode cX7_needed 30 = .ok (.ior, 1) := by decide +kernel
theorem dX7_needed_31 : decode cX7_needed 31 = .ok (.istore_n 2, 1) := by decide +kernel
theorem dX7_needed_32 : decode cX7_needed 32 = .ok (.iinc 3 1, 3) := by decide +kernel
theorem dX7_needed_35 : decode cX7_needed 35 = .ok (.goto (-31), 3) := by decide +kernel
theorem dX7_needed_38 : decode cX7_needed 38 = .ok (.iload_n 2, 1) := by decide +kernel
theorem dX7_needed_39 : decode cX7_needed 39 = .ok (.ireturn, 1) := by decide +kernel
theorem dX7_users_0 : decode cX7_users 0 = .ok (.iconst 0, 1) := by decide +kernel
theorem dX7_users_1 : decode cX7_users 1 = .ok (.istore_n 2, 1) := by decide +kernel
theorem dX7_users_2 : decode cX7_users 2 = .ok (.iconst 0, 1) := by decide +kernel
theorem dX7_users_3 : decode cX7_users 3 = .ok (.istore_n 3, 1) := by decide +kernel
theorem dX7_users_4 : decode cX7_users 4 = .ok (.iload_n 3, 1) := by decide +kernel
theorem dX7_users_5 : decode cX7_users 5 = .ok (.iconst 2, 1) := by decide +kernel
theorem dX7_users_6 : decode cX7_users 6 = .ok (.aload_n 0, 1) := by decide +kernel
theorem dX7_users_7 : decode cX7_users 7 = .ok (.getfield 75, 3) := by decide +kernel
theorem dX7_users_10 : decode cX7_users 10 = .ok (.imul, 1) := by decide +kernel
theorem dX7_users_11 : decode cX7_users 11 = .ok (.if_icmp .ge 31, 3) := by decide +kernel
theorem dX7_users_14 : decode cX7_users 14 = .ok (.aload_n 0, 1) := by decide +kernel
theorem dX7_users_15 : decode cX7_users 15 = .ok (.getfield 19, 3) := by decide +kernel
theorem dX7_users_18 : decode cX7_users 18 = .ok (.iload_n 3, 1) := by decide +kernel
theorem dX7_users_19 : decode cX7_users 19 = .ok (.iaload, 1) := by decide +kernel
theorem dX7_users_20 : decode cX7_users 20 = .ok (.iload_n 1, 1) := by decide +kernel
theorem dX7_users_21 : decode cX7_users 21 = .ok (.if_icmp .ne 13, 3) := by decide +kernel
theorem dX7_users_24 : decode cX7_users 24 = .ok (.iload_n 2, 1) := by decide +kernel
theorem dX7_users_25 : decode cX7_users 25 = .ok (.iconst 1, 1) := by decide +kernel
theorem dX7_users_26 : decode cX7_users 26 = .ok (.iload_n 3, 1) := by decide +kernel
theorem dX7_users_27 : decode cX7_users 27 = .ok (.iconst 2, 1) := by decide +kernel
theorem dX7_users_28 : decode cX7_users 28 = .ok (.idiv, 1) := by decide +kernel
theorem dX7_users_29 : decode cX7_users 29 = .ok (.ishl, 1) := by decide +kernel
theorem dX7_users_30 : decode cX7_users 30 = .ok (.ior, 1) := by decide +kernel
theorem dX7_users_31 : decode cX7_users 31 = .ok (.goto 4, 3) := by decide +kernel
theorem dX7_users_34 : decode cX7_users 34 = .ok (.iload_n 2, 1) := by decide +kernel
theorem dX7_users_35 : decode cX7_users 35 = .ok (.istore_n 2, 1) := by decide +kernel
theorem dX7_users_36 : decode cX7_users 36 = .ok (.iinc 3 1, 3) := by decide +kernel
theorem dX7_users_39 : decode cX7_users 39 = .ok (.goto (-35), 3) := by decide +kernel
theorem dX7_users_42 : decode cX7_users 42 = .ok (.iload_n 2, 1) := by decide +kernel
theorem dX7_users_43 : decode cX7_users 43 = .ok (.ireturn, 1) := by decide +kernel
set_option maxRecDepth 20000 in
theorem ggX7_stays_X7_users : GoodIn wsX7_stays wsX7_users := goodIn_ca (goodIn_r _ [8, 1, 9, 10, 11, 12, 13, 14, 15, 16, 17, 18, 19, 20, 21, 22, 23, 24, 25, 26, 27, 28, 29, 30, 31, 32, 33, 34, 35, 36, 37, 38, 39] (by decide +kernel) (by decide +kernel)) (goodIn_sub (fun _ h => List.mem_cons_of_mem _ (List.mem_append_right _ h)) (by decide +kernel))
set_option maxRecDepth 20000 in
theorem gX7_stays_X7_users : GoodIn wsX7_stays (wsV RX7 184 RX7 yX7_users wsX7_users) := goodIn_app (goodIn_of _ (by decide +kernel)) ggX7_stays_X7_users
theorem dX7_stays_0 : decode cX7_stays 0 = .ok (.iconst 0, 1) := by decide +kernel
theorem dX7_stays_1 : decode cX7_stays 1 = .ok (.istore_n 2, 1) := by decide +kernel
theorem dX7_stays_2 : decode cX7_stays 2 = .ok (.iconst 0, 1) := by decide +kernel
theorem dX7_stays_3 : decode cX7_stays 3 = .ok (.istore_n 3, 1) := by decide +kernel
theorem dX7_stays_4 : decode cX7_stays 4 = .ok (.iload_n 3, 1) := by decide +kernel
theorem dX7_stays_5 : decode cX7_stays 5 = .ok (.aload_n 0, 1) := by decide +kernel
theorem dX7_stays_6 : decode cX7_stays 6 = .ok (.getfield 75, 3) := by decide +kernel
theorem dX7_stays_9 : decode cX7_stays 9 = .ok (.if_icmp .ge 64, 3) := by decide +kernel
theorem dX7_stays_12 : decode cX7_stays 12 = .ok (.iload_n 1, 1) := by decide +kernel
theorem dX7_stays_13 : decode cX7_stays 13 = .ok (.iload_n 3, 1) := by decide +kernel
theorem dX7_stays_14 : decode cX7_stays 14 = .ok (.ishr, 1) := by decide +kernel
theorem dX7_stays_15 : decode cX7_stays 15 = .ok (.iconst 1, 1) := by decide +kernel
theorem dX7_stays_16 : decode cX7_stays 16 = .ok (.iand, 1) := by decide +kernel
theorem dX7_stays_17 : decode cX7_stays 17 = .ok (.iconst 1, 1) := by decide +kernel
theorem dX7_stays_18 : decode cX7_stays 18 = .ok (.if_icmp .ne 28, 3) := by decide +kernel
theorem dX7_stays_21 : decode cX7_stays 21 = .ok (.aload_n 0, 1) := by decide +kernel
theorem dX7_stays_22 : decode cX7_stays 22 = .ok (.getfield 22, 3) := by decide +kernel
theorem dX7_stays_25 : decode cX7_stays 25 = .ok (.iload_n 3, 1) := by decide +kernel
theorem dX7_stays_26 : decode cX7_stays 26 = .ok (.baload, 1) := by decide +kernel
theorem dX7_stays_27 : decode cX7_stays 27 = .ok (.ifCond .ne 15, 3) := by decide +kernel
theorem dX7_stays_30 : decode cX7_stays 30 = .ok (.aload_n 0, 1) := by decide +kernel
theorem dX7_stays_31 : decode cX7_stays 31 = .ok (.iload_n 3, 1) := by decide +kernel
theorem dX7_stays_32 : decode cX7_stays 32 = .ok (.invokevirtual 184, 3) := by decide +kernel
theorem dX7_stays_35 : decode cX7_stays 35 = .ok (.iload_n 1, 1) := by decide +kernel
theorem dX7_stays_36 : decode cX7_stays 36 = .ok (.iconst (-1), 1) := by decide +kernel
theorem dX7_stays_37 : decode cX7_stays 37 = .ok (.ixor, 1) := by decide +kernel
theorem dX7_stays_38 : decode cX7_stays 38 = .ok (.iand, 1) := by decide +kernel
theorem dX7_stays_39 : decode cX7_stays 39 = .ok (.ifCond .eq 7, 3) := by decide +kernel
theorem dX7_stays_42 : decode cX7_stays 42 = .ok (.iconst 1, 1) := by decide +kernel
theorem dX7_stays_43 : decode cX7_stays 43 = .ok (.goto 4, 3) := by decide +kernel
theorem dX7_stays_46 : decode cX7_stays 46 = .ok (.iconst 0, 1) := by decide +kernel
theorem dX7_stays_47 : decode cX7_stays 47 = .ok (.istore 4, 2) := by decide +kernel
theorem dX7_stays_49 : decode cX7_stays 49 = .ok (.iload 4, 2) := by decide +kernel
theorem dX7_stays_51 : decode cX7_stays 51 = .ok (.ifCond .eq 14, 3) := by decide +kernel
theorem dX7_stays_54 : decode cX7_stays 54 = .ok (.iload_n 2, 1) := by decide +kernel
theorem dX7_stays_55 : decode cX7_stays 55 = .ok (.aload_n 0, 1) := by decide +kernel
theorem dX7_stays_56 : decode cX7_stays 56 = .ok (.getfield 35, 3) := by decide +kernel
theorem dX7_stays_59 : decode cX7_stays 59 = .ok (.iload_n 3, 1) := by decide +kernel
theorem dX7_stays_60 : decode cX7_stays 60 = .ok (.iaload, 1) := by decide +kernel
theorem dX7_stays_61 : decode cX7_stays 61 = .ok (.iadd, 1) := by decide +kernel
theorem dX7_stays_62 : decode cX7_stays 62 = .ok (.goto 4, 3) := by decide +kernel
theorem dX7_stays_65 : decode cX7_stays 65 = .ok (.iload_n 2, 1) := by decide +kernel
theorem dX7_stays_66 : decode cX7_stays 66 = .ok (.istore_n 2, 1) := by decide +kernel
theorem dX7_stays_67 : decode cX7_stays 67 = .ok (.iinc 3 1, 3) := by decide +kernel
theorem dX7_stays_70 : decode cX7_stays 70 = .ok (.goto (-66), 3) := by decide +kernel
theorem dX7_stays_73 : decode cX7_stays 73 = .ok (.iload_n 2, 1) := by decide +kernel
theorem dX7_stays_74 : decode cX7_stays 74 = .ok (.ireturn, 1) := by decide +kernel
set_option maxRecDepth 20000 in
theorem ggX7_findLeast_X7_stays : GoodIn wsX7_findLeast wsX7_stays := goodIn_ca (goodIn_r _ [9, 1, 10, 3, 11, 12, 13, 8, 14, 15, 24, 25, 26, 27, 28, 29, 30, 31, 32, 33, 34, 35, 36, 37, 38, 39, 40, 41, 42, 43, 44, 45, 46, 47, 48, 49, 50, 51, 52, 53] (by decide +kernel) (by decide +kernel)) (goodIn_sub (fun _ h => List.mem_cons_of_mem _ (List.mem_append_right _ h)) (by decide +kernel))
set_option maxRecDepth 20000 in
theorem gX7_findLeast_X7_stays : GoodIn wsX7_findLeast (wsV RX7 187 RX7 yX7_stays wsX7_stays) := goodIn_app (goodIn_of _ (by decide +kernel)) ggX7_findLeast_X7_stays
set_option maxRecDepth 20000 in
theorem ggX7_findLeast_X7_needed : GoodIn wsX7_findLeast wsX7_needed := goodIn_ca (goodIn_r _ [19, 20, 15, 21, 22, 8, 23, 24, 25, 26, 27, 28, 29, 30, 31, 32, 33, 34, 35, 36, 37, 38, 39, 40, 41, 42, 43, 44, 45, 46, 47, 48, 49, 50, 51, 52, 53] (by decide +kernel) (by decide +kernel)) (goodIn_sub (fun _ h => List.mem_cons_of_mem _ (List.mem_append_right _ h)) (by decide +kernel))
set_option maxRecDepth 20000 in
theorem gX7_findLeast_X7_needed : GoodIn wsX7_findLeast (wsV RX7 190 RX7 yX7_needed wsX7_needed) := goodIn_app (goodIn_of _ (by decide +kernel)) ggX7_findLeast_X7_needed
theorem dX7_findLeast_0 : decode cX7_findLeast 0 = .ok (.iconst 1, 1) := by decide +kernel
theorem dX7_findLeast_1 : decode cX7_findLeast 1 = .ok (.aload_n 0, 1) := by decide +kernel
theorem dX7_findLeast_2 : decode cX7_findLeast 2 = .ok (.getfield 75, 3) := by decide +kernel
theorem dX7_findLeast_5 : decode cX7_findLeast 5 = .ok (.ishl, 1) := by decide +kernel
theorem dX7_findLeast_6 : decode cX7_findLeast 6 = .ok (.iconst 1, 1) := by decide +kernel
theorem dX7_findLeast_7 : decode cX7_findLeast 7 = .ok (.isub, 1) := by decide +kernel
theorem dX7_findLeast_8 : decode cX7_findLeast 8 = .ok (.istore_n 1, 1) := by decide +kernel
theorem dX7_findLeast_9 : decode cX7_findLeast 9 = .ok (.iconst 0, 1) := by decide +kernel
theorem dX7_findLeast_10 : decode cX7_findLeast 10 = .ok (.istore_n 2, 1) := by decide +kernel
theorem dX7_findLeast_11 : decode cX7_findLeast 11 = .ok (.iload_n 2, 1) := by decide +kernel
theorem dX7_findLeast_12 : decode cX7_findLeast 12 = .ok (.iload_n 1, 1) := by decide +kernel
theorem dX7_findLeast_13 : decode cX7_findLeast 13 = .ok (.if_icmp .gt 26, 3) := by decide +kernel
theorem dX7_findLeast_16 : decode cX7_findLeast 16 = .ok (.aload_n 0, 1) := by decide +kernel
theorem dX7_findLeast_17 : decode cX7_findLeast 17 = .ok (.getfield 62, 3) := by decide +kernel
theorem dX7_findLeast_20 : decode cX7_findLeast 20 = .ok (.iload_n 2, 1) := by decide +kernel
theorem dX7_findLeast_21 : decode cX7_findLeast 21 = .ok (.iload_n 2, 1) := by decide +kernel
theorem dX7_findLeast_22 : decode cX7_findLeast 22 = .ok (.ifCond .ne 7, 3) := by decide +kernel
theorem dX7_findLeast_25 : decode cX7_findLeast 25 = .ok (.iconst 0, 1) := by decide +kernel
theorem dX7_findLeast_26 : decode cX7_findLeast 26 = .ok (.goto 6, 3) := by decide +kernel
theorem dX7_findLeast_29 : decode cX7_findLeast 29 = .ok (.sipush 1000, 3) := by decide +kernel
theorem dX7_findLeast_32 : decode cX7_findLeast 32 = .ok (.iastore, 1) := by decide +kernel
theorem dX7_findLeast_33 : decode cX7_findLeast 33 = .ok (.iinc 2 1, 3) := by decide +kernel
theorem dX7_findLeast_36 : decode cX7_findLeast 36 = .ok (.goto (-25), 3) := by decide +kernel
theorem dX7_findLeast_39 : decode cX7_findLeast 39 = .ok (.iconst 0, 1) := by decide +kernel
theorem dX7_findLeast_40 : decode cX7_findLeast 40 = .ok (.istore_n 2, 1) := by decide +kernel
theorem dX7_findLeast_41 : decode cX7_findLeast 41 = .ok (.iload_n 2, 1) := by decide +kernel
theorem dX7_findLeast_42 : decode cX7_findLeast 42 = .ok (.iload_n 1, 1) := by decide +kernel
theorem dX7_findLeast_43 : decode cX7_findLeast 43 = .ok (.if_icmp .ge 157, 3) := by decide +kernel
theorem dX7_findLeast_46 : decode cX7_findLeast 46 = .ok (.aload_n 0, 1) := by decide +kernel
theorem dX7_findLeast_47 : decode cX7_findLeast 47 = .ok (.getfield 62, 3) := by decide +kernel
theorem dX7_findLeast_50 : decode cX7_findLeast 50 = .ok (.iload_n 2, 1) := by decide +kernel
theorem dX7_findLeast_51 : decode cX7_findLeast 51 = .ok (.iaload, 1) := by decide +kernel
theorem dX7_findLeast_52 : decode cX7_findLeast 52 = .ok (.sipush 1000, 3) := by decide +kernel
theorem dX7_findLeast_55 : decode cX7_findLeast 55 = .ok (.if_icmp .ge 11, 3) := by decide +kernel
theorem dX7_findLeast_58 : decode cX7_findLeast 58 = .ok (.aload_n 0, 1) := by decide +kernel
theorem dX7_findLeast_59 : decode cX7_findLeast 59 = .ok (.iload_n 2, 1) := by decide +kernel
theorem dX7_findLeast_60 : decode cX7_findLeast 60 = .ok (.invokevirtual 187, 3) := by decide +kernel
theorem dX7_findLeast_63 : decode cX7_findLeast 63 = .ok (.goto 4, 3) := by decide +kernel
theorem dX7_findLeast_66 : decode cX7_findLeast 66 = .ok (.iconst 0, 1) := by decide +kernel
theorem dX7_findLeast_67 : decode cX7_findLeast 67 = .ok (.istore_n 3, 1) := by decide +kernel
theorem dX7_findLeast_68 : decode cX7_findLeast 68 = .ok (.iconst 0, 1) := by decide +kernel
theorem dX7_findLeast_69 : decode cX7_findLeast 69 = .ok (.istore 4, 2) := by decide +kernel
theorem dX7_findLeast_71 : decode cX7_findLeast 71 = .ok (.iload 4, 2) := by decide +kernel
theorem dX7_findLeast_73 : decode cX7_findLeast 73 = .ok (.aload_n 0, 1) := by decide +kernel
theorem dX7_findLeast_74 : decode cX7_findLeast 74 = .ok (.getfield 75, 3) := by decide +kernel
theorem dX7_findLeast_77 : decode cX7_findLeast 77 = .ok (.if_icmp .ge 117, 3) := by decide +kernel
theorem dX7_findLeast_80 : decode cX7_findLeast 80 = .ok (.aload_n 0, 1) := by decide +kernel
theorem dX7_findLeast_81 : decode cX7_findLeast 81 = .ok (.getfield 62, 3) := by decide +kernel
theorem dX7_findLeast_84 : decode cX7_findLeast 84 = .ok (.iload_n 2, 1) := by decide +kernel
theorem dX7_findLeast_85 : decode cX7_findLeast 85 = .ok (.iaload, 1) := by decide +kernel
theorem dX7_findLeast_86 : decode cX7_findLeast 86 = .ok (.sipush 1000, 3) := by decide +kernel
theorem dX7_findLeast_89 : decode cX7_findLeast 89 = .ok (.if_icmp .ge 105, 3) := by decide +kernel
theorem dX7_findLeast_92 : decode cX7_findLeast 92 = .ok (.iload_n 2, 1) := by decide +kernel
theorem dX7_findLeast_93 : decode cX7_findLeast 93 = .ok (.iload 4, 2) := by decide +kernel
theorem dX7_findLeast_95 : decode cX7_findLeast 95 = .ok (.ishr, 1) := by decide +kernel
theorem dX7_findLeast_96 : decode cX7_findLeast 96 = .ok (.iconst 1, 1) := by decide +kernel
theorem dX7_findLeast_97 : decode cX7_findLeast 97 = .ok (.iand, 1) := by decide +kernel
theorem dX7_findLeast_98 : decode cX7_findLeast 98 = .ok (.ifCond .ne 90, 3) := by decide +kernel
theorem dX7_findLeast_101 : decode cX7_findLeast 101 = .ok (.aload_n 0, 1) := by decide +kernel
theorem dX7_findLeast_102 : decode cX7_findLeast 102 = .ok (.iload 4, 2) := by decide +kernel
theorem dX7_findLeast_104 : decode cX7_findLeast 104 = .ok (.invokevirtual 190, 3) := by decide +kernel
theorem dX7_findLeast_107 : decode cX7_findLeast 107 = .ok (.iload_n 2, 1) := by decide +kernel
theorem dX7_findLeast_108 : decode cX7_findLeast 108 = .ok (.iconst (-1), 1) := by decide +kernel
theorem dX7_findLeast_109 : decode cX7_findLeast 109 = .ok (.ixor, 1) := by decide +kernel
theorem dX7_findLeast_110 : decode cX7_findLeast 110 = .ok (.iand, 1) := by decide +kernel
theorem dX7_findLeast_111 : decode cX7_findLeast 111 = .ok (.ifCond .ne 77, 3) := by decide +kernel
theorem dX7_findLeast_114 : decode cX7_findLeast 114 = .ok (.iload_n 3, 1) := by decide +kernel
theorem dX7_findLeast_115 : decode cX7_findLeast 115 = .ok (.aload_n 0, 1) := by decide +kernel
theorem dX7_findLeast_116 : decode cX7_findLeast 116 = .ok (.getfield 35, 3) := by decide +kernel
theorem dX7_findLeast_119 : decode cX7_findLeast 119 = .ok (.iload 4, 2) := by decide +kernel
theorem dX7_findLeast_121 : decode cX7_findLeast 121 = .ok (.iaload, 1) := by decide +kernel
theorem dX7_findLeast_122 : decode cX7_findLeast 122 = .ok (.iadd, 1) := by decide +kernel
theorem dX7_findLeast_123 : decode cX7_findLeast 123 = .ok (.istore 5, 2) := by decide +kernel
theorem dX7_findLeast_125 : decode cX7_findLeast 125 = .ok (.iload 5, 2) := by decide +kernel
theorem dX7_findLeast_127 : decode cX7_findLeast 127 = .ok (.aload_n 0, 1) := by decide +kernel
theorem dX7_findLeast_128 : decode cX7_findLeast 128 = .ok (.getfield 62, 3) := by decide +kernel
theorem dX7_findLeast_131 : decode cX7_findLeast 131 = .ok (.iload_n 2, 1) := by decide +kernel
theorem dX7_findLeast_132 : decode cX7_findLeast 132 = .ok (.iaload, 1) := by decide +kernel
theorem dX7_findLeast_133 : decode cX7_findLeast 133 = .ok (.if_icmp .le 8, 3) := by decide +kernel
theorem dX7_findLeast_136 : decode cX7_findLeast 136 = .ok (.iload 5, 2) := by decide +kernel
theorem dX7_findLeast_138 : decode cX7_findLeast 138 = .ok (.goto 9, 3) := by decide +kernel
theorem dX7_findLeast_141 : decode cX7_findLeast 141 = .ok (.aload_n 0, 1) := by decide +kernel
theorem dX7_findLeast_142 : decode cX7_findLeast 142 = .ok (.getfield 62, 3) := by decide +kernel
theorem dX7_findLeast_145 : decode cX7_findLeast 145 = .ok (.iload_n 2, 1) := by decide +kernel
theorem dX7_findLeast_146 : decode cX7_findLeast 146 = .ok (.iaload, 1) := by decide +kernel
theorem dX7_findLeast_147 : decode cX7_findLeast 147 = .ok (.istore 6, 2) := by decide +kernel
theorem dX7_findLeast_149 : decode cX7_findLeast 149 = .ok (.iload_n 2, 1) := by decide +kernel
theorem dX7_findLeast_150 : decode cX7_findLeast 150 = .ok (.iconst 1, 1) := by decide +kernel
theorem dX7_findLeast_151 : decode cX7_findLeast 151 = .ok (.iload 4, 2) := by decide +kernel
theorem dX7_findLeast_153 : decode cX7_findLeast 153 = .ok (.ishl, 1) := by decide +kernel
theorem dX7_findLeast_154 : decode cX7_findLeast 154 = .ok (.ior, 1) := by decide +kernel
theorem dX7_findLeast_155 : decode cX7_findLeast 155 = .ok (.istore 7, 2) := by decide +kernel
theorem dX7_findLeast_157 : decode cX7_findLeast 157 = .ok (.aload_n 0, 1) := by decide +kernel
theorem dX7_findLeast_158 : decode cX7_findLeast 158 = .ok (.getfield 62, 3) := by decide +kernel
theorem dX7_findLeast_161 : decode cX7_findLeast 161 = .ok (.iload 7, 2) := by decide +kernel
theorem dX7_findLeast_163 : decode cX7_findLeast 163 = .ok (.iload 6, 2) := by decide +kernel
theorem dX7_findLeast_165 : decode cX7_findLeast 165 = .ok (.aload_n 0, 1) := by decide +kernel
theorem dX7_findLeast_166 : decode cX7_findLeast 166 = .ok (.getfield 62, 3) := by decide +kernel
theorem dX7_findLeast_169 : decode cX7_findLeast 169 = .ok (.iload 7, 2) := by decide +kernel
theorem dX7_findLeast_171 : decode cX7_findLeast 171 = .ok (.iaload, 1) := by decide +kernel
theorem dX7_findLeast_172 : decode cX7_findLeast 172 = .ok (.if_icmp .ge 8, 3) := by decide +kernel
theorem dX7_findLeast_175 : decode cX7_findLeast 175 = .ok (.iload 6, 2) := by decide +kernel
theorem dX7_findLeast_177 : decode cX7_findLeast 177 = .ok (.goto 10, 3) := by decide +kernel
theorem dX7_findLeast_180 : decode cX7_findLeast 180 = .ok (.aload_n 0, 1) := by decide +kernel
theorem dX7_findLeast_181 : decode cX7_findLeast 181 = .ok (.getfield 62, 3) := by decide +kernel
theorem dX7_findLeast_184 : decode cX7_findLeast 184 = .ok (.iload 7, 2) := by decide +kernel
theorem dX7_findLeast_186 : decode cX7_findLeast 186 = .ok (.iaload, 1) := by decide +kernel
theorem dX7_findLeast_187 : decode cX7_findLeast 187 = .ok (.iastore, 1) := by decide +kernel
theorem dX7_findLeast_188 : decode cX7_findLeast 188 = .ok (.iinc 4 1, 3) := by decide +kernel
theorem dX7_findLeast_191 : decode cX7_findLeast 191 = .ok (.goto (-120), 3) := by decide +kernel
theorem dX7_findLeast_194 : decode cX7_findLeast 194 = .ok (.iinc 2 1, 3) := by decide +kernel
theorem dX7_findLeast_197 : decode cX7_findLeast 197 = .ok (.goto (-156), 3) := by decide +kernel
theorem dX7_findLeast_200 : decode cX7_findLeast 200 = .ok (.aload_n 0, 1) := by decide +kernel
theorem dX7_findLeast_201 : decode cX7_findLeast 201 = .ok (.aload_n 0, 1) := by decide +kernel
theorem dX7_findLeast_202 : decode cX7_findLeast 202 = .ok (.getfield 62, 3) := by decide +kernel
theorem dX7_findLeast_205 : decode cX7_findLeast 205 = .ok (.iload_n 1, 1) := by decide +kernel
theorem dX7_findLeast_206 : decode cX7_findLeast 206 = .ok (.iaload, 1) := by decide +kernel
theorem dX7_findLeast_207 : decode cX7_findLeast 207 = .ok (.putfield 178, 3) := by decide +kernel
theorem dX7_findLeast_210 : decode cX7_findLeast 210 = .ok (.return_, 1) := by decide +kernel
set_option maxRecDepth 20000 in
theorem ggX7_least_X7_findLeast : GoodIn wsX7_least wsX7_findLeast := goodIn_ca (goodIn_r _ [8, 9, 10, 11, 3, 12, 13, 14, 7, 15, 16, 17, 18, 19, 20, 21, 22, 23, 24, 25, 26, 27, 28, 29, 30, 31, 32, 33, 34, 35, 36, 37, 38, 39, 40, 41, 42, 43, 44, 45, 46, 47, 48, 49, 50, 51, 52, 53, 54, 55, 56, 57, 58, 59] (by decide +kernel) (by decide +kernel)) (goodIn_sub (fun _ h => List.mem_cons_of_mem _ (List.mem_append_right _ h)) (by decide +kernel))
set_option maxRecDepth 20000 in
theorem gX7_least_X7_findLeast : GoodIn wsX7_least (wsV RX7 193 RX7 yX7_findLeast wsX7_findLeast) := goodIn_app (goodIn_of _ (by decide +kernel)) ggX7_least_X7_findLeast
theorem dX7_least_0 : decode cX7_least 0 = .ok (.aload_n 0, 1) := by decide +kernel
theorem dX7_least_1 : decode cX7_least 1 = .ok (.aload_n 0, 1) := by decide +kernel
theorem dX7_least_2 : decode cX7_least 2 = .ok (.getfield 86, 3) := by decide +kernel
theorem dX7_least_5 : decode cX7_least 5 = .ok (.ifCond .eq 7, 3) := by decide +kernel
theorem dX7_least_8 : decode cX7_least 8 = .ok (.iconst 0, 1) := by decide +kernel
theorem dX7_least_9 : decode cX7_least 9 = .ok (.goto 4, 3) := by decide +kernel
theorem dX7_least_12 : decode cX7_least 12 = .ok (.iconst 1, 1) := by decide +kernel
theorem dX7_least_13 : decode cX7_least 13 = .ok (.putfield 71, 3) := by decide +kernel
theorem dX7_least_16 : decode cX7_least 16 = .ok (.aload_n 0, 1) := by decide +kernel
theorem dX7_least_17 : decode cX7_least 17 = .ok (.getfield 86, 3) := by decide +kernel
theorem dX7_least_20 : decode cX7_least 20 = .ok (.ifCond .ne 5, 3) := by decide +kernel
theorem dX7_least_23 : decode cX7_least 23 = .ok (.iconst 0, 1) := by decide +kernel
theorem dX7_least_24 : decode cX7_least 24 = .ok (.ireturn, 1) := by decide +kernel
theorem dX7_least_25 : decode cX7_least 25 = .ok (.aload_n 0, 1) := by decide +kernel
theorem dX7_least_26 : decode cX7_least 26 = .ok (.getfield 178, 3) := by decide +kernel
theorem dX7_least_29 : decode cX7_least 29 = .ok (.ifCond .ge 7, 3) := by decide +kernel
theorem dX7_least_32 : decode cX7_least 32 = .ok (.aload_n 0, 1) := by decide +kernel
theorem dX7_least_33 : decode cX7_least 33 = .ok (.invokevirtual 193, 3) := by decide +kernel
theorem dX7_least_36 : decode cX7_least 36 = .ok (.aload_n 0, 1) := by decide +kernel
theorem dX7_least_37 : decode cX7_least 37 = .ok (.getfield 178, 3) := by decide +kernel
theorem dX7_least_40 : decode cX7_least 40 = .ok (.ireturn, 1) := by decide +kernel
set_option maxRecDepth 20000 in
theorem ggX7_work_X7_inputs : GoodIn wsX7_work wsX7_inputs := goodIn_r _ [10] (by decide +kernel) (by decide +kernel)
set_option maxRecDepth 20000 in
theorem gX7_work_X7_inputs : GoodIn wsX7_work (va_wsS RX7 94 yX7_inputs wsX7_inputs) := goodIn_app (goodIn_of _ (by decide +kernel)) ggX7_work_X7_inputs
theorem dX7_work_0 : decode cX7_work 0 = .ok (.aload_n 0, 1) := by decide +kernel
theorem dX7_work_1 : decode cX7_work 1 = .ok (.getfield 7, 3) := by decide +kernel
theorem dX7_work_4 : decode cX7_work 4 = .ok (.iload_n 1, 1) := by decide +kernel
theorem dX7_work_5 : decode cX7_work 5 = .ok (.iaload, 1) := by decide +kernel
theorem dX7_work_6 : decode cX7_work 6 = .ok (.istore_n 2, 1) := by decide +kernel
theorem dX7_work_7 : decode cX7_work 7 = .ok (.bipush 40, 2) := by decide +kernel
theorem dX7_work_9 : decode cX7_work 9 = .ok (.iload_n 1, 1) := by decide +kernel
theorem dX7_work_10 : decode cX7_work 10 = .ok (.imul, 1) := by decide +kernel
theorem dX7_work_11 : decode cX7_work 11 = .ok (.istore_n 3, 1) := by decide +kernel
theorem dX7_work_12 : decode cX7_work 12 = .ok (.iload_n 2, 1) := by decide +kernel
theorem dX7_work_13 : decode cX7_work 13 = .ok (.invokestatic 94, 3) := by decide +kernel
theorem dX7_work_16 : decode cX7_work 16 = .ok (.ifCond .le 17, 3) := by decide +kernel
theorem dX7_work_19 : decode cX7_work 19 = .ok (.bipush 40, 2) := by decide +kernel
theorem dX7_work_21 : decode cX7_work 21 = .ok (.aload_n 0, 1) := by decide +kernel
theorem dX7_work_22 : decode cX7_work 22 = .ok (.getfield 19, 3) := by decide +kernel
theorem dX7_work_25 : decode cX7_work 25 = .ok (.iconst 2, 1) := by decide +kernel
theorem dX7_work_26 : decode cX7_work 26 = .ok (.iload_n 1, 1) := by decide +kernel
theorem dX7_work_27 : decode cX7_work 27 = .ok (.imul, 1) := by decide +kernel
theorem dX7_work_28 : decode cX7_work 28 = .ok (.iaload, 1) := by decide +kernel
theorem dX7_work_29 : decode cX7_work 29 = .ok (.imul, 1) := by decide +kernel
theorem dX7_work_30 : decode cX7_work 30 = .ok (.goto 4, 3) := by decide +kernel
theorem dX7_work_33 : decode cX7_work 33 = .ok (.iconst 0, 1) := by decide +kernel
theorem dX7_work_34 : decode cX7_work 34 = .ok (.istore 4, 2) := by decide +kernel
theorem dX7_work_36 : decode cX7_work 36 = .ok (.iload_n 2, 1) := by decide +kernel
theorem dX7_work_37 : decode cX7_work 37 = .ok (.invokestatic 94, 3) := by decide +kernel
theorem dX7_work_40 : decode cX7_work 40 = .ok (.iconst 1, 1) := by decide +kernel
theorem dX7_work_41 : decode cX7_work 41 = .ok (.if_icmp .le 19, 3) := by decide +kernel
theorem dX7_work_44 : decode cX7_work 44 = .ok (.bipush 40, 2) := by decide +kernel
theorem dX7_work_46 : decode cX7_work 46 = .ok (.aload_n 0, 1) := by decide +kernel
theorem dX7_work_47 : decode cX7_work 47 = .ok (.getfield 19, 3) := by decide +kernel
theorem dX7_work_50 : decode cX7_work 50 = .ok (.iconst 2, 1) := by decide +kernel
theorem dX7_work_51 : decode cX7_work 51 = .ok (.iload_n 1, 1) := by decide +kernel
theorem dX7_work_52 : decode cX7_work 52 = .ok (.imul, 1) := by decide +kernel
theorem dX7_work_53 : decode cX7_work 53 = .ok (.iconst 1, 1) := by decide +kernel
theorem dX7_work_54 : decode cX7_work 54 = .ok (.iadd, 1) := by decide +kernel
theorem dX7_work_55 : decode cX7_work 55 = .ok (.iaload, 1) := by decide +kernel
theorem dX7_work_56 : decode cX7_work 56 = .ok (.imul, 1) := by decide +kernel
theorem dX7_work_57 : decode cX7_work 57 = .ok (.goto 4, 3) := by decide +kernel
theorem dX7_work_60 : decode cX7_work 60 = .ok (.iconst 0, 1) := by decide +kernel
theorem dX7_work_61 : decode cX7_work 61 = .ok (.istore 5, 2) := by decide +kernel
theorem dX7_work_63 : decode cX7_work 63 = .ok (.iload_n 2, 1) := by decide +kernel
theorem dX7_work_64 : decode cX7_work 64 = .ok (.invokestatic 94, 3) := by decide +kernel
theorem dX7_work_67 : decode cX7_work 67 = .ok (.ifCond .le 19, 3) := by decide +kernel
theorem dX7_work_70 : decode cX7_work 70 = .ok (.aload_n 0, 1) := by decide +kernel
theorem dX7_work_71 : decode cX7_work 71 = .ok (.getfield 35, 3) := by decide +kernel
theorem dX7_work_74 : decode cX7_work 74 = .ok (.aload_n 0, 1) := by decide +kernel
theorem dX7_work_75 : decode cX7_work 75 = .ok (.getfield 19, 3) := by decide +kernel
theorem dX7_work_78 : decode cX7_work 78 = .ok (.iconst 2, 1) := by decide +kernel
theorem dX7_work_79 : decode cX7_work 79 = .ok (.iload_n 1, 1) := by decide +kernel
theorem dX7_work_80 : decode cX7_work 80 = .ok (.imul, 1) := by decide +kernel
theorem dX7_work_81 : decode cX7_work 81 = .ok (.iaload, 1) := by decide +kernel
theorem dX7_work_82 : decode cX7_work 82 = .ok (.iaload, 1) := by decide +kernel
theorem dX7_work_83 : decode cX7_work 83 = .ok (.goto 4, 3) := by decide +kernel
theorem dX7_work_86 : decode cX7_work 86 = .ok (.iconst 0, 1) := by decide +kernel
theorem dX7_work_87 : decode cX7_work 87 = .ok (.istore 6, 2) := by decide +kernel
theorem dX7_work_89 : decode cX7_work 89 = .ok (.iconst 0, 1) := by decide +kernel
theorem dX7_work_90 : decode cX7_work 90 = .ok (.istore 7, 2) := by decide +kernel
theorem dX7_work_92 : decode cX7_work 92 = .ok (.iconst 0, 1) := by decide +kernel
theorem dX7_work_93 : decode cX7_work 93 = .ok (.istore 8, 2) := by decide +kernel
theorem dX7_work_95 : decode cX7_work 95 = .ok (.iload 8, 2) := by decide +kernel
theorem dX7_work_97 : decode cX7_work 97 = .ok (.iload 6, 2) := by decide +kernel
theorem dX7_work_99 : decode cX7_work 99 = .ok (.if_icmp .ge 24, 3) := by decide +kernel
theorem dX7_work_102 : decode cX7_work 102 = .ok (.iload 7, 2) := by decide +kernel
theorem dX7_work_104 : decode cX7_work 104 = .ok (.aload_n 0, 1) := by decide +kernel
theorem dX7_work_105 : decode cX7_work 105 = .ok (.getfield 68, 3) := by decide +kernel
theorem dX7_work_108 : decode cX7_work 108 = .ok (.iload 4, 2) := by decide +kernel
theorem dX7_work_110 : decode cX7_work 110 = .ok (.iload 8, 2) := by decide +kernel
theorem dX7_work_112 : decode cX7_work 112 = .ok (.iadd, 1) := by decide +kernel
theorem dX7_work_113 : decode cX7_work 113 = .ok (.iaload, 1) := by decide +kernel
theorem dX7_work_114 : decode cX7_work 114 = .ok (.iadd, 1) := by decide +kernel
theorem dX7_work_115 : decode cX7_work 115 = .ok (.istore 7, 2) := by decide +kernel
theorem dX7_work_117 : decode cX7_work 117 = .ok (.iinc 8 1, 3) := by decide +kernel
theorem dX7_work_120 : decode cX7_work 120 = .ok (.goto (-25), 3) := by decide +kernel
theorem dX7_work_123 : decode cX7_work 123 = .ok (.iconst 0, 1) := by decide +kernel
theorem dX7_work_124 : decode cX7_work 124 = .ok (.istore 8, 2) := by decide +kernel
theorem dX7_work_126 : decode cX7_work 126 = .ok (.iload 8, 2) := by decide +kernel
theorem dX7_work_128 : decode cX7_work 128 = .ok (.aload_n 0, 1) := by decide +kernel
theorem dX7_work_129 : decode cX7_work 129 = .ok (.getfield 35, 3) := by decide +kernel
theorem dX7_work_132 : decode cX7_work 132 = .ok (.iload_n 1, 1) := by decide +kernel
theorem dX7_work_133 : decode cX7_work 133 = .ok (.iaload, 1) := by decide +kernel
theorem dX7_work_134 : decode cX7_work 134 = .ok (.if_icmp .ge 269, 3) := by decide +kernel
theorem dX7_work_137 : decode cX7_work 137 = .ok (.iload_n 2, 1) := by decide +kernel
theorem dX7_work_138 : decode cX7_work 138 = .ok (.tableswitch 243 0 6 #[42, 66, 89, 122, 155, 200, 229], 42) := by decide +kernel
theorem dX7_work_180 : decode cX7_work 180 = .ok (.aload_n 0, 1) := by decide +kernel
theorem dX7_work_181 : decode cX7_work 181 = .ok (.getfield 68, 3) := by decide +kernel
theorem dX7_work_184 : decode cX7_work 184 = .ok (.iload_n 3, 1) := by decide +kernel
theorem dX7_work_185 : decode cX7_work 185 = .ok (.iload 8, 2) := by decide +kernel
theorem dX7_work_187 : decode cX7_work 187 = .ok (.iadd, 1) := by decide +kernel
theorem dX7_work_188 : decode cX7_work 188 = .ok (.aload_n 0, 1) := by decide +kernel
theorem dX7_work_189 : decode cX7_work 189 = .ok (.getfield 26, 3) := by decide +kernel
theorem dX7_work_192 : decode cX7_work 192 = .ok (.bipush 16, 2) := by decide +kernel
theorem dX7_work_194 : decode cX7_work 194 = .ok (.iload_n 1, 1) := by decide +kernel
theorem dX7_work_195 : decode cX7_work 195 = .ok (.imul, 1) := by decide +kernel
theorem dX7_work_196 : decode cX7_work 196 = .ok (.iload 8, 2) := by decide +kernel
theorem dX7_work_198 : decode cX7_work 198 = .ok (.iadd, 1) := by decide +kernel
theorem dX7_work_199 : decode cX7_work 199 = .ok (.iaload, 1) := by decide +kernel
theorem dX7_work_200 : decode cX7_work 200 = .ok (.iastore, 1) := by decide +kernel
theorem dX7_work_201 : decode cX7_work 201 = .ok (.goto 196, 3) := by decide +kernel
theorem dX7_work_204 : decode cX7_work 204 = .ok (.aload_n 0, 1) := by decide +kernel
theorem dX7_work_205 : decode cX7_work 205 = .ok (.getfield 68, 3) := by decide +kernel
theorem dX7_work_208 : decode cX7_work 208 = .ok (.iload_n 3, 1) := by decide +kernel
theorem dX7_work_209 : decode cX7_work 209 = .ok (.iload 8, 2) := by decide +kernel
theorem dX7_work_211 : decode cX7_work 211 = .ok (.iadd, 1) := by decide +kernel
theorem dX7_work_212 : decode cX7_work 212 = .ok (.aload_n 0, 1) := by decide +kernel
theorem dX7_work_213 : decode cX7_work 213 = .ok (.getfield 68, 3) := by decide +kernel
theorem dX7_work_216 : decode cX7_work 216 = .ok (.iload 4, 2) := by decide +kernel
theorem dX7_work_218 : decode cX7_work 218 = .ok (.iload 8, 2) := by decide +kernel
theorem dX7_work_220 : decode cX7_work 220 = .ok (.iadd, 1) := by decide +kernel
theorem dX7_work_221 : decode cX7_work 221 = .ok (.iaload, 1) := by decide +kernel
theorem dX7_work_222 : decode cX7_work 222 = .ok (.ineg, 1) := by decide +kernel
theorem dX7_work_223 : decode cX7_work 223 = .ok (.iastore, 1) := by decide +kernel
theorem dX7_work_224 : decode cX7_work 224 = .ok (.goto 173, 3) := by decide +kernel
theorem dX7_work_227 : decode cX7_work 227 = .ok (.aload_n 0, 1) := by decide +kernel
theorem dX7_work_228 : decode cX7_work 228 = .ok (.getfield 68, 3) := by decide +kernel
theorem dX7_work_231 : decode cX7_work 231 = .ok (.iload_n 3, 1) := by decide +kernel
theorem dX7_work_232 : decode cX7_work 232 = .ok (.iload 8, 2) := by decide +kernel
theorem dX7_work_234 : decode cX7_work 234 = .ok (.iadd, 1) := by decide +kernel
theorem dX7_work_235 : decode cX7_work 235 = .ok (.aload_n 0, 1) := by decide +kernel
theorem dX7_work_236 : decode cX7_work 236 = .ok (.getfield 68, 3) := by decide +kernel
theorem dX7_work_239 : decode cX7_work 239 = .ok (.iload 4, 2) := by decide +kernel
theorem dX7_work_241 : decode cX7_work 241 = .ok (.iload 8, 2) := by decide +kernel
theorem dX7_work_243 : decode cX7_work 243 = .ok (.iadd, 1) := by decide +kernel
theorem dX7_work_244 : decode cX7_work 244 = .ok (.iaload, 1) := by decide +kernel
theorem dX7_work_245 : decode cX7_work 245 = .ok (.aload_n 0, 1) := by decide +kernel
theorem dX7_work_246 : decode cX7_work 246 = .ok (.getfield 68, 3) := by decide +kernel
theorem dX7_work_249 : decode cX7_work 249 = .ok (.iload 5, 2) := by decide +kernel
theorem dX7_work_251 : decode cX7_work 251 = .ok (.iload 8, 2) := by decide +kernel
theorem dX7_work_253 : decode cX7_work 253 = .ok (.iadd, 1) := by decide +kernel
theorem dX7_work_254 : decode cX7_work 254 = .ok (.iaload, 1) := by decide +kernel
theorem dX7_work_255 : decode cX7_work 255 = .ok (.iadd, 1) := by decide +kernel
theorem dX7_work_256 : decode cX7_work 256 = .ok (.iastore, 1) := by decide +kernel
theorem dX7_work_257 : decode cX7_work 257 = .ok (.goto 140, 3) := by decide +kernel
theorem dX7_work_260 : decode cX7_work 260 = .ok (.aload_n 0, 1) := by decide +kernel
theorem dX7_work_261 : decode cX7_work 261 = .ok (.getfield 68, 3) := by decide +kernel
theorem dX7_work_264 : decode cX7_work 264 = .ok (.iload_n 3, 1) := by decide +kernel
theorem dX7_work_265 : decode cX7_work 265 = .ok (.iload 8, 2) := by decide +kernel
theorem dX7_work_267 : decode cX7_work 267 = .ok (.iadd, 1) := by decide +kernel
theorem dX7_work_268 : decode cX7_work 268 = .ok (.aload_n 0, 1) := by decide +kernel
theorem dX7_work_269 : decode cX7_work 269 = .ok (.getfield 68, 3) := by decide +kernel
theorem dX7_work_272 : decode cX7_work 272 = .ok (.iload 4, 2) := by decide +kernel
theorem dX7_work_274 : decode cX7_work 274 = .ok (.iload 8, 2) := by decide +kernel
theorem dX7_work_276 : decode cX7_work 276 = .ok (.iadd, 1) := by decide +kernel
theorem dX7_work_277 : decode cX7_work 277 = .ok (.iaload, 1) := by decide +kernel
theorem dX7_work_278 : decode cX7_work 278 = .ok (.aload_n 0, 1) := by decide +kernel
theorem dX7_work_279 : decode cX7_work 279 = .ok (.getfield 68, 3) := by decide +kernel
theorem dX7_work_282 : decode cX7_work 282 = .ok (.iload 5, 2) := by decide +kernel
theorem dX7_work_284 : decode cX7_work 284 = .ok (.iload 8, 2) := by decide +kernel
theorem dX7_work_286 : decode cX7_work 286 = .ok (.iadd, 1) := by decide +kernel
theorem dX7_work_287 : decode cX7_work 287 = .ok (.iaload, 1) := by decide +kernel
theorem dX7_work_288 : decode cX7_work 288 = .ok (.imul, 1) := by decide +kernel
theorem dX7_work_289 : decode cX7_work 289 = .ok (.iastore, 1) := by decide +kernel
theorem dX7_work_290 : decode cX7_work 290 = .ok (.goto 107, 3) := by decide +kernel
theorem dX7_work_293 : decode cX7_work 293 = .ok (.aload_n 0, 1) := by decide +kernel
theorem dX7_work_294 : decode cX7_work 294 = .ok (.getfield 68, 3) := by decide +kernel
theorem dX7_work_297 : decode cX7_work 297 = .ok (.iload_n 3, 1) := by decide +kernel
theorem dX7_work_298 : decode cX7_work 298 = .ok (.iload 8, 2) := by decide +kernel
theorem dX7_work_300 : decode cX7_work 300 = .ok (.iadd, 1) := by decide +kernel
theorem dX7_work_301 : decode cX7_work 301 = .ok (.iload 8, 2) := by decide +kernel
theorem dX7_work_303 : decode cX7_work 303 = .ok (.iload 6, 2) := by decide +kernel
theorem dX7_work_305 : decode cX7_work 305 = .ok (.if_icmp .ge 16, 3) := by decide +kernel
theorem dX7_work_308 : decode cX7_work 308 = .ok (.aload_n 0, 1) := by decide +kernel
theorem dX7_work_309 : decode cX7_work 309 = .ok (.getfield 68, 3) := by decide +kernel
theorem dX7_work_312 : decode cX7_work 312 = .ok (.iload 4, 2) := by decide +kernel
theorem dX7_work_314 : decode cX7_work 314 = .ok (.iload 8, 2) := by decide +kernel
theorem dX7_work_316 : decode cX7_work 316 = .ok (.iadd, 1) := by decide +kernel
theorem dX7_work_317 : decode cX7_work 317 = .ok (.iaload, 1) := by decide +kernel
theorem dX7_work_318 : decode cX7_work 318 = .ok (.goto 16, 3) := by decide +kernel
theorem dX7_work_321 : decode cX7_work 321 = .ok (.aload_n 0, 1) := by decide +kernel
theorem dX7_work_322 : decode cX7_work 322 = .ok (.getfield 68, 3) := by decide +kernel
theorem dX7_work_325 : decode cX7_work 325 = .ok (.iload 5, 2) := by decide +kernel
theorem dX7_work_327 : decode cX7_work 327 = .ok (.iload 8, 2) := by decide +kernel
theorem dX7_work_329 : decode cX7_work 329 = .ok (.iadd, 1) := by decide +kernel
theorem dX7_work_330 : decode cX7_work 330 = .ok (.iload 6, 2) := by decide +kernel
theorem dX7_work_332 : decode cX7_work 332 = .ok (.isub, 1) := by decide +kernel
theorem dX7_work_333 : decode cX7_work 333 = .ok (.iaload, 1) := by decide +kernel
theorem dX7_work_334 : decode cX7_work 334 = .ok (.iastore, 1) := by decide +kernel
theorem dX7_work_335 : decode cX7_work 335 = .ok (.goto 62, 3) := by decide +kernel
theorem dX7_work_338 : decode cX7_work 338 = .ok (.aload_n 0, 1) := by decide +kernel
theorem dX7_work_339 : decode cX7_work 339 = .ok (.getfield 68, 3) := by decide +kernel
theorem dX7_work_342 : decode cX7_work 342 = .ok (.iload_n 3, 1) := by decide +kernel
theorem dX7_work_343 : decode cX7_work 343 = .ok (.iload 8, 2) := by decide +kernel
theorem dX7_work_345 : decode cX7_work 345 = .ok (.iadd, 1) := by decide +kernel
theorem dX7_work_346 : decode cX7_work 346 = .ok (.aload_n 0, 1) := by decide +kernel
theorem dX7_work_347 : decode cX7_work 347 = .ok (.getfield 68, 3) := by decide +kernel
theorem dX7_work_350 : decode cX7_work 350 = .ok (.iload 4, 2) := by decide +kernel
theorem dX7_work_352 : decode cX7_work 352 = .ok (.aload_n 0, 1) := by decide +kernel
theorem dX7_work_353 : decode cX7_work 353 = .ok (.getfield 13, 3) := by decide +kernel
theorem dX7_work_356 : decode cX7_work 356 = .ok (.iload_n 1, 1) := by decide +kernel
theorem dX7_work_357 : decode cX7_work 357 = .ok (.iaload, 1) := by decide +kernel
theorem dX7_work_358 : decode cX7_work 358 = .ok (.iadd, 1) := by decide +kernel
theorem dX7_work_359 : decode cX7_work 359 = .ok (.iload 8, 2) := by decide +kernel
theorem dX7_work_361 : decode cX7_work 361 = .ok (.iadd, 1) := by decide +kernel
theorem dX7_work_362 : decode cX7_work 362 = .ok (.iaload, 1) := by decide +kernel
theorem dX7_work_363 : decode cX7_work 363 = .ok (.iastore, 1) := by decide +kernel
theorem dX7_work_364 : decode cX7_work 364 = .ok (.goto 33, 3) := by decide +kernel
theorem dX7_work_367 : decode cX7_work 367 = .ok (.aload_n 0, 1) := by decide +kernel
theorem dX7_work_368 : decode cX7_work 368 = .ok (.getfield 68, 3) := by decide +kernel
theorem dX7_work_371 : decode cX7_work 371 = .ok (.iload_n 3, 1) := by decide +kernel
theorem dX7_work_372 : decode cX7_work 372 = .ok (.iload 8, 2) := by decide +kernel
theorem dX7_work_374 : decode cX7_work 374 = .ok (.iadd, 1) := by decide +kernel
theorem dX7_work_375 : decode cX7_work 375 = .ok (.iload 7, 2) := by decide +kernel
theorem dX7_work_377 : decode cX7_work 377 = .ok (.iastore, 1) := by decide +kernel
theorem dX7_work_378 : decode cX7_work 378 = .ok (.goto 19, 3) := by decide +kernel
theorem dX7_work_381 : decode cX7_work 381 = .ok (.aload_n 0, 1) := by decide +kernel
theorem dX7_work_382 : decode cX7_work 382 = .ok (.getfield 68, 3) := by decide +kernel
theorem dX7_work_385 : decode cX7_work 385 = .ok (.iload_n 3, 1) := by decide +kernel
theorem dX7_work_386 : decode cX7_work 386 = .ok (.iload 8, 2) := by decide +kernel
theorem dX7_work_388 : decode cX7_work 388 = .ok (.iadd, 1) := by decide +kernel
theorem dX7_work_389 : decode cX7_work 389 = .ok (.aload_n 0, 1) := by decide +kernel
theorem dX7_work_390 : decode cX7_work 390 = .ok (.getfield 68, 3) := by decide +kernel
theorem dX7_work_393 : decode cX7_work 393 = .ok (.iload 4, 2) := by decide +kernel
theorem dX7_work_395 : decode cX7_work 395 = .ok (.iaload, 1) := by decide +kernel
theorem dX7_work_396 : decode cX7_work 396 = .ok (.iastore, 1) := by decide +kernel
theorem dX7_work_397 : decode cX7_work 397 = .ok (.iinc 8 1, 3) := by decide +kernel
theorem dX7_work_400 : decode cX7_work 400 = .ok (.goto (-274), 3) := by decide +kernel
theorem dX7_work_403 : decode cX7_work 403 = .ok (.return_, 1) := by decide +kernel
set_option maxRecDepth 20000 in
theorem ggX7_run_X7_work : GoodIn wsX7_run wsX7_work := goodIn_ca (goodIn_r _ [14, 15, 16, 6, 8, 17, 18, 19, 20, 13, 21, 22, 23, 24, 25, 26, 27, 28, 29, 30, 31, 32, 33, 34, 35, 36, 37, 38, 39, 40, 41, 42, 43, 44, 45, 46, 47, 48, 49, 50, 51] (by decide +kernel) (by decide +kernel)) (goodIn_sub (fun _ h => List.mem_cons_of_mem _ (List.mem_append_right _ h)) (by decide +kernel))
set_option maxRecDepth 20000 in
theorem gX7_run_X7_work : GoodIn wsX7_run (wsV RX7 196 RX7 yX7_work wsX7_work) := goodIn_app (goodIn_of _ (by decide +kernel)) ggX7_run_X7_work
theorem dX7_run_0 : decode cX7_run 0 = .ok (.aload_n 0, 1) := by decide +kernel
theorem dX7_run_1 : decode cX7_run 1 = .ok (.aload_n 0, 1) := by decide +kernel
theorem dX7_run_2 : decode cX7_run 2 = .ok (.getfield 86, 3) := by decide +kernel
theorem dX7_run_5 : decode cX7_run 5 = .ok (.ifCond .eq 7, 3) := by decide +kernel
theorem dX7_run_8 : decode cX7_run 8 = .ok (.iconst 0, 1) := by decide +kernel
theorem dX7_run_9 : decode cX7_run 9 = .ok (.goto 4, 3) := by decide +kernel
theorem dX7_run_12 : decode cX7_run 12 = .ok (.iconst 1, 1) := by decide +kernel
theorem dX7_run_13 : decode cX7_run 13 = .ok (.putfield 71, 3) := by decide +kernel
theorem dX7_run_16 : decode cX7_run 16 = .ok (.aload_n 0, 1) := by decide +kernel
theorem dX7_run_17 : decode cX7_run 17 = .ok (.getfield 86, 3) := by decide +kernel
theorem dX7_run_20 : decode cX7_run 20 = .ok (.ifCond .ne 5, 3) := by decide +kernel
theorem dX7_run_23 : decode cX7_run 23 = .ok (.iconst 0, 1) := by decide +kernel
theorem dX7_run_24 : decode cX7_run 24 = .ok (.ireturn, 1) := by decide +kernel
theorem dX7_run_25 : decode cX7_run 25 = .ok (.iconst 0, 1) := by decide +kernel
theorem dX7_run_26 : decode cX7_run 26 = .ok (.istore_n 1, 1) := by decide +kernel
theorem dX7_run_27 : decode cX7_run 27 = .ok (.iload_n 1, 1) := by decide +kernel
theorem dX7_run_28 : decode cX7_run 28 = .ok (.sipush 480, 3) := by decide +kernel
theorem dX7_run_31 : decode cX7_run 31 = .ok (.if_icmp .ge 16, 3) := by decide +kernel
theorem dX7_run_34 : decode cX7_run 34 = .ok (.aload_n 0, 1) := by decide +kernel
theorem dX7_run_35 : decode cX7_run 35 = .ok (.getfield 65, 3) := by decide +kernel
theorem dX7_run_38 : decode cX7_run 38 = .ok (.iload_n 1, 1) := by decide +kernel
theorem dX7_run_39 : decode cX7_run 39 = .ok (.iconst 0, 1) := by decide +kernel
theorem dX7_run_40 : decode cX7_run 40 = .ok (.iastore, 1) := by decide +kernel
theorem dX7_run_41 : decode cX7_run 41 = .ok (.iinc 1 1, 3) := by decide +kernel
theorem dX7_run_44 : decode cX7_run 44 = .ok (.goto (-17), 3) := by decide +kernel
theorem dX7_run_47 : decode cX7_run 47 = .ok (.iconst 0, 1) := by decide +kernel
theorem dX7_run_48 : decode cX7_run 48 = .ok (.istore_n 1, 1) := by decide +kernel
theorem dX7_run_49 : decode cX7_run 49 = .ok (.iconst 0, 1) := by decide +kernel
theorem dX7_run_50 : decode cX7_run 50 = .ok (.istore_n 2, 1) := by decide +kernel
theorem dX7_run_51 : decode cX7_run 51 = .ok (.iload_n 2, 1) := by decide +kernel
theorem dX7_run_52 : decode cX7_run 52 = .ok (.aload_n 0, 1) := by decide +kernel
theorem dX7_run_53 : decode cX7_run 53 = .ok (.getfield 75, 3) := by decide +kernel
theorem dX7_run_56 : decode cX7_run 56 = .ok (.if_icmp .ge 76, 3) := by decide +kernel
theorem dX7_run_59 : decode cX7_run 59 = .ok (.aload_n 0, 1) := by decide +kernel
theorem dX7_run_60 : decode cX7_run 60 = .ok (.getfield 41, 3) := by decide +kernel
theorem dX7_run_63 : decode cX7_run 63 = .ok (.iload_n 2, 1) := by decide +kernel
theorem dX7_run_64 : decode cX7_run 64 = .ok (.iaload, 1) := by decide +kernel
theorem dX7_run_65 : decode cX7_run 65 = .ok (.istore_n 3, 1) := by decide +kernel
theorem dX7_run_66 : decode cX7_run 66 = .ok (.aload_n 0, 1) := by decide +kernel
theorem dX7_run_67 : decode cX7_run 67 = .ok (.iload_n 3, 1) := by decide +kernel
theorem dX7_run_68 : decode cX7_run 68 = .ok (.invokevirtual 196, 3) := by decide +kernel
theorem dX7_run_71 : decode cX7_run 71 = .ok (.iconst 0, 1) := by decide +kernel
theorem dX7_run_72 : decode cX7_run 72 = .ok (.istore 4, 2) := by decide +kernel
theorem dX7_run_74 : decode cX7_run 74 = .ok (.iload 4, 2) := by decide +kernel
theorem dX7_run_76 : decode cX7_run 76 = .ok (.aload_n 0, 1) := by decide +kernel
theorem dX7_run_77 : decode cX7_run 77 = .ok (.getfield 35, 3) := by decide +kernel
theorem dX7_run_80 : decode cX7_run 80 = .ok (.iload_n 3, 1) := by decide +kernel
theorem dX7_run_81 : decode cX7_run 81 = .ok (.iaload, 1) := by decide +kernel
theorem dX7_run_82 : decode cX7_run 82 = .ok (.if_icmp .ge 35, 3) := by decide +kernel
theorem dX7_run_85 : decode cX7_run 85 = .ok (.aload_n 0, 1) := by decide +kernel
theorem dX7_run_86 : decode cX7_run 86 = .ok (.getfield 65, 3) := by decide +kernel
theorem dX7_run_89 : decode cX7_run 89 = .ok (.aload_n 0, 1) := by decide +kernel
theorem dX7_run_90 : decode cX7_run 90 = .ok (.getfield 50, 3) := by decide +kernel
theorem dX7_run_93 : decode cX7_run 93 = .ok (.iload_n 3, 1) := by decide +kernel
theorem dX7_run_94 : decode cX7_run 94 = .ok (.iaload, 1) := by decide +kernel
theorem dX7_run_95 : decode cX7_run 95 = .ok (.iload 4, 2) := by decide +kernel
theorem dX7_run_97 : decode cX7_run 97 = .ok (.iadd, 1) := by decide +kernel
theorem dX7_run_98 : decode cX7_run 98 = .ok (.aload_n 0, 1) := by decide +kernel
theorem dX7_run_99 : decode cX7_run 99 = .ok (.getfield 68, 3) := by decide +kernel
theorem dX7_run_102 : decode cX7_run 102 = .ok (.bipush 40, 2) := by decide +kernel
theorem dX7_run_104 : decode cX7_run 104 = .ok (.iload_n 3, 1) := by decide +kernel
theorem dX7_run_105 : decode cX7_run 105 = .ok (.imul, 1) := by decide +kernel
theorem dX7_run_106 : decode cX7_run 106 = .ok (.iload 4, 2) := by decide +kernel
theorem dX7_run_108 : decode cX7_run 108 = .ok (.iadd, 1) := by decide +kernel
theorem dX7_run_109 : decode cX7_run 109 = .ok (.iaload, 1) := by decide +kernel
theorem dX7_run_110 : decode cX7_run 110 = .ok (.iastore, 1) := by decide +kernel
theorem dX7_run_111 : decode cX7_run 111 = .ok (.iinc 4 1, 3) := by decide +kernel
theorem dX7_run_114 : decode cX7_run 114 = .ok (.goto (-40), 3) := by decide +kernel
theorem dX7_run_117 : decode cX7_run 117 = .ok (.iload_n 1, 1) := by decide +kernel
theorem dX7_run_118 : decode cX7_run 118 = .ok (.aload_n 0, 1) := by decide +kernel
theorem dX7_run_119 : decode cX7_run 119 = .ok (.getfield 35, 3) := by decide +kernel
theorem dX7_run_122 : decode cX7_run 122 = .ok (.iload_n 3, 1) := by decide +kernel
theorem dX7_run_123 : decode cX7_run 123 = .ok (.iaload, 1) := by decide +kernel
theorem dX7_run_124 : decode cX7_run 124 = .ok (.iadd, 1) := by decide +kernel
theorem dX7_run_125 : decode cX7_run 125 = .ok (.istore_n 1, 1) := by decide +kernel
theorem dX7_run_126 : decode cX7_run 126 = .ok (.iinc 2 1, 3) := by decide +kernel
theorem dX7_run_129 : decode cX7_run 129 = .ok (.goto (-78), 3) := by decide +kernel
theorem dX7_run_132 : decode cX7_run 132 = .ok (.aload_n 0, 1) := by decide +kernel
theorem dX7_run_133 : decode cX7_run 133 = .ok (.iconst 1, 1) := by decide +kernel
theorem dX7_run_134 : decode cX7_run 134 = .ok (.putfield 175, 3) := by decide +kernel
theorem dX7_run_137 : decode cX7_run 137 = .ok (.iload_n 1, 1) := by decide +kernel
theorem dX7_run_138 : decode cX7_run 138 = .ok (.ireturn, 1) := by decide +kernel
theorem dX7_cell_0 : decode cX7_cell 0 = .ok (.aload_n 0, 1) := by decide +kernel
theorem dX7_cell_1 : decode cX7_cell 1 = .ok (.aload_n 0, 1) := by decide +kernel
theorem dX7_cell_2 : decode cX7_cell 2 = .ok (.getfield 86, 3) := by decide +kernel
theorem dX7_cell_5 : decode cX7_cell 5 = .ok (.ifCond .eq 10, 3) := by decide +kernel
theorem dX7_cell_8 : decode cX7_cell 8 = .ok (.aload_n 0, 1) := by decide +kernel
theorem dX7_cell_9 : decode cX7_cell 9 = .ok (.getfield 175, 3) := by decide +kernel
theorem dX7_cell_12 : decode cX7_cell 12 = .ok (.ifCond .ne 7, 3) := by decide +kernel
theorem dX7_cell_15 : decode cX7_cell 15 = .ok (.iconst 1, 1) := by decide +kernel
theorem dX7_cell_16 : decode cX7_cell 16 = .ok (.goto 20, 3) := by decide +kernel
theorem dX7_cell_19 : decode cX7_cell 19 = .ok (.iload_n 1, 1) := by decide +kernel
theorem dX7_cell_20 : decode cX7_cell 20 = .ok (.ifCond .lt 11, 3) := by decide +kernel
theorem dX7_cell_23 : decode cX7_cell 23 = .ok (.iload_n 1, 1) := by decide +kernel
theorem dX7_cell_24 : decode cX7_cell 24 = .ok (.aload_n 0, 1) := by decide +kernel
theorem dX7_cell_25 : decode cX7_cell 25 = .ok (.getfield 143, 3) := by decide +kernel
theorem dX7_cell_28 : decode cX7_cell 28 = .ok (.if_icmp .lt 7, 3) := by decide +kernel
theorem dX7_cell_31 : decode cX7_cell 31 = .ok (.iconst 2, 1) := by decide +kernel
theorem dX7_cell_32 : decode cX7_cell 32 = .ok (.goto 4, 3) := by decide +kernel
theorem dX7_cell_35 : decode cX7_cell 35 = .ok (.iconst 0, 1) := by decide +kernel
theorem dX7_cell_36 : decode cX7_cell 36 = .ok (.putfield 71, 3) := by decide +kernel
theorem dX7_cell_39 : decode cX7_cell 39 = .ok (.aload_n 0, 1) := by decide +kernel
theorem dX7_cell_40 : decode cX7_cell 40 = .ok (.getfield 71, 3) := by decide +kernel
theorem dX7_cell_43 : decode cX7_cell 43 = .ok (.ifCond .ne 12, 3) := by decide +kernel
theorem dX7_cell_46 : decode cX7_cell 46 = .ok (.aload_n 0, 1) := by decide +kernel
theorem dX7_cell_47 : decode cX7_cell 47 = .ok (.getfield 65, 3) := by decide +kernel
theorem dX7_cell_50 : decode cX7_cell 50 = .ok (.iload_n 1, 1) := by decide +kernel
theorem dX7_cell_51 : decode cX7_cell 51 = .ok (.iaload, 1) := by decide +kernel
theorem dX7_cell_52 : decode cX7_cell 52 = .ok (.goto 4, 3) := by decide +kernel
theorem dX7_cell_55 : decode cX7_cell 55 = .ok (.iconst 0, 1) := by decide +kernel
theorem dX7_cell_56 : decode cX7_cell 56 = .ok (.ireturn, 1) := by decide +kernel
set_option maxRecDepth 20000 in
theorem ggX7_result_X7_isNode : GoodIn wsX7_result wsX7_isNode := goodIn_r _ [11, 12, 13, 14, 15, 16, 17, 18, 19, 20, 21, 22, 23, 24, 25, 26, 27, 28, 29, 30, 31, 32, 33, 34, 35, 36, 37, 38, 39, 40, 41, 42] (by decide +kernel) (by decide +kernel)
set_option maxRecDepth 20000 in
theorem gX7_result_X7_isNode : GoodIn wsX7_result (wsV RX7 90 RX7 yX7_isNode wsX7_isNode) := goodIn_app (goodIn_of _ (by decide +kernel)) ggX7_result_X7_isNode
theorem dX7_result_0 : decode cX7_result 0 = .ok (.aload_n 0, 1) := by decide +kernel
theorem dX7_result_1 : decode cX7_result 1 = .ok (.aload_n 0, 1) := by decide +kernel
theorem dX7_result_2 : decode cX7_result 2 = .ok (.getfield 86, 3) := by decide +kernel
theorem dX7_result_5 : decode cX7_result 5 = .ok (.ifCond .eq 10, 3) := by decide +kernel
theorem dX7_result_8 : decode cX7_result 8 = .ok (.aload_n 0, 1) := by decide +kernel
theorem dX7_result_9 : decode cX7_result 9 = .ok (.getfield 175, 3) := by decide +kernel
theorem dX7_result_12 : decode cX7_result 12 = .ok (.ifCond .ne 7, 3) := by decide +kernel
theorem dX7_result_15 : decode cX7_result 15 = .ok (.iconst 1, 1) := by decide +kernel
theorem dX7_result_16 : decode cX7_result 16 = .ok (.goto 43, 3) := by decide +kernel
theorem dX7_result_19 : decode cX7_result 19 = .ok (.aload_n 0, 1) := by decide +kernel
theorem dX7_result_20 : decode cX7_result 20 = .ok (.iload_n 1, 1) := by decide +kernel
theorem dX7_result_21 : decode cX7_result 21 = .ok (.invokevirtual 90, 3) := by decide +kernel
theorem dX7_result_24 : decode cX7_result 24 = .ok (.ifCond .eq 12, 3) := by decide +kernel
theorem dX7_result_27 : decode cX7_result 27 = .ok (.aload_n 0, 1) := by decide +kernel
theorem dX7_result_28 : decode cX7_result 28 = .ok (.getfield 22, 3) := by decide +kernel
theorem dX7_result_31 : decode cX7_result 31 = .ok (.iload_n 1, 1) := by decide +kernel
theorem dX7_result_32 : decode cX7_result 32 = .ok (.baload, 1) := by decide +kernel
theorem dX7_result_33 : decode cX7_result 33 = .ok (.ifCond .ne 7, 3) := by decide +kernel
theorem dX7_result_36 : decode cX7_result 36 = .ok (.iconst 2, 1) := by decide +kernel
theorem dX7_result_37 : decode cX7_result 37 = .ok (.goto 22, 3) := by decide +kernel
theorem dX7_result_40 : decode cX7_result 40 = .ok (.iload_n 2, 1) := by decide +kernel
theorem dX7_result_41 : decode cX7_result 41 = .ok (.ifCond .lt 13, 3) := by decide +kernel
theorem dX7_result_44 : decode cX7_result 44 = .ok (.iload_n 2, 1) := by decide +kernel
theorem dX7_result_45 : decode cX7_result 45 = .ok (.aload_n 0, 1) := by decide +kernel
theorem dX7_result_46 : decode cX7_result 46 = .ok (.getfield 35, 3) := by decide +kernel
theorem dX7_result_49 : decode cX7_result 49 = .ok (.iload_n 1, 1) := by decide +kernel
theorem dX7_result_50 : decode cX7_result 50 = .ok (.iaload, 1) := by decide +kernel
theorem dX7_result_51 : decode cX7_result 51 = .ok (.if_icmp .lt 7, 3) := by decide +kernel
theorem dX7_result_54 : decode cX7_result 54 = .ok (.iconst 3, 1) := by decide +kernel
theorem dX7_result_55 : decode cX7_result 55 = .ok (.goto 4, 3) := by decide +kernel
theorem dX7_result_58 : decode cX7_result 58 = .ok (.iconst 0, 1) := by decide +kernel
theorem dX7_result_59 : decode cX7_result 59 = .ok (.putfield 71, 3) := by decide +kernel
theorem dX7_result_62 : decode cX7_result 62 = .ok (.aload_n 0, 1) := by decide +kernel
theorem dX7_result_63 : decode cX7_result 63 = .ok (.getfield 71, 3) := by decide +kernel
theorem dX7_result_66 : decode cX7_result 66 = .ok (.ifCond .ne 17, 3) := by decide +kernel
theorem dX7_result_69 : decode cX7_result 69 = .ok (.aload_n 0, 1) := by decide +kernel
theorem dX7_result_70 : decode cX7_result 70 = .ok (.getfield 68, 3) := by decide +kernel
theorem dX7_result_73 : decode cX7_result 73 = .ok (.bipush 40, 2) := by decide +kernel
theorem dX7_result_75 : decode cX7_result 75 = .ok (.iload_n 1, 1) := by decide +kernel
theorem dX7_result_76 : decode cX7_result 76 = .ok (.imul, 1) := by decide +kernel
theorem dX7_result_77 : decode cX7_result 77 = .ok (.iload_n 2, 1) := by decide +kernel
theorem dX7_result_78 : decode cX7_result 78 = .ok (.iadd, 1) := by decide +kernel
theorem dX7_result_79 : decode cX7_result 79 = .ok (.iaload, 1) := by decide +kernel
theorem dX7_result_80 : decode cX7_result 80 = .ok (.goto 4, 3) := by decide +kernel
theorem dX7_result_83 : decode cX7_result 83 = .ok (.iconst 0, 1) := by decide +kernel
theorem dX7_result_84 : decode cX7_result 84 = .ok (.ireturn, 1) := by decide +kernel
end
section
theorem dJx00060_init_a7421_0 : decode cJx00060_init_a7421 0 = .ok (.aload_n 0, 1) := by decide +kernel
theorem dJx00060_init_a7421_1 : decode cJx00060_init_a7421 1 = .ok (.aload_n 1, 1) := by decide +kernel
theorem dJx00060_init_a7421_2 : decode cJx00060_init_a7421 2 = .ok (.invokespecial 7, 3) := by decide +kernel
theorem dJx00060_init_a7421_5 : decode cJx00060_init_a7421 5 = .ok (.return_, 1) := by decide +kernel
theorem dJ9_max_7cf53_0 : decode cJ9_max_7cf53 0 = .ok (.iload_n 0, 1) := by decide +kernel
theorem dJ9_max_7cf53_1 : decode cJ9_max_7cf53 1 = .ok (.iload_n 1, 1) := by decide +kernel
theorem dJ9_max_7cf53_2 : decode cJ9_max_7cf53 2 = .ok (.if_icmp .lt 7, 3) := by decide +kernel
theorem dJ9_max_7cf53_5 : decode cJ9_max_7cf53 5 = .ok (.iload_n 0, 1) := by decide +kernel
theorem dJ9_max_7cf53_6 : decode cJ9_max_7cf53 6 = .ok (.goto 4, 3) := by decide +kernel
theorem dJ9_max_7cf53_9 : decode cJ9_max_7cf53 9 = .ok (.iload_n 1, 1) := by decide +kernel
theorem dJ9_max_7cf53_10 : decode cJ9_max_7cf53 10 = .ok (.ireturn, 1) := by decide +kernel
theorem dJ9_min_7cf53_0 : decode cJ9_min_7cf53 0 = .ok (.iload_n 0, 1) := by decide +kernel
theorem dJ9_min_7cf53_1 : decode cJ9_min_7cf53 1 = .ok (.iload_n 1, 1) := by decide +kernel
theorem dJ9_min_7cf53_2 : decode cJ9_min_7cf53 2 = .ok (.if_icmp .gt 7, 3) := by decide +kernel
theorem dJ9_min_7cf53_5 : decode cJ9_min_7cf53 5 = .ok (.iload_n 0, 1) := by decide +kernel
theorem dJ9_min_7cf53_6 : decode cJ9_min_7cf53 6 = .ok (.goto 4, 3) := by decide +kernel
theorem dJ9_min_7cf53_9 : decode cJ9_min_7cf53 9 = .ok (.iload_n 1, 1) := by decide +kernel
theorem dJ9_min_7cf53_10 : decode cJ9_min_7cf53 10 = .ok (.ireturn, 1) := by decide +kernel
theorem dJ7_fill_53178_0 : decode cJ7_fill_53178 0 = .ok (.iconst 0, 1) := by decide +kernel
theorem dJ7_fill_53178_1 : decode cJ7_fill_53178 1 = .ok (.istore_n 2, 1) := by decide +kernel
theorem dJ7_fill_53178_2 : decode cJ7_fill_53178 2 = .ok (.aload_n 0, 1) := by decide +kernel
theorem dJ7_fill_53178_3 : decode cJ7_fill_53178 3 = .ok (.arraylength, 1) := by decide +kernel
theorem dJ7_fill_53178_4 : decode cJ7_fill_53178 4 = .ok (.istore_n 3, 1) := by decide +kernel
theorem dJ7_fill_53178_5 : decode cJ7_fill_53178 5 = .ok (.iload_n 2, 1) := by decide +kernel
theorem dJ7_fill_53178_6 : decode cJ7_fill_53178 6 = .ok (.iload_n 3, 1) := by decide +kernel
theorem dJ7_fill_53178_7 : decode cJ7_fill_53178 7 = .ok (.if_icmp .ge 13, 3) := by decide +kernel
theorem dJ7_fill_53178_10 : decode cJ7_fill_53178 10 = .ok (.aload_n 0, 1) := by decide +kernel
theorem dJ7_fill_53178_11 : decode cJ7_fill_53178 11 = .ok (.iload_n 2, 1) := by decide +kernel
theorem dJ7_fill_53178_12 : decode cJ7_fill_53178 12 = .ok (.iload_n 1, 1) := by decide +kernel
theorem dJ7_fill_53178_13 : decode cJ7_fill_53178 13 = .ok (.iastore, 1) := by decide +kernel
theorem dJ7_fill_53178_14 : decode cJ7_fill_53178 14 = .ok (.iinc 2 1, 3) := by decide +kernel
theorem dJ7_fill_53178_17 : decode cJ7_fill_53178 17 = .ok (.goto (-12), 3) := by decide +kernel
theorem dJ7_fill_53178_20 : decode cJ7_fill_53178 20 = .ok (.return_, 1) := by decide +kernel
set_option maxRecDepth 20000 in
theorem ggL_make_X6_make : GoodIn wsL_make wsX6_make := goodIn_ca (goodIn_ca (goodIn_ca (goodIn_r _ [7, 8, 9, 10, 11, 12, 13, 14, 15, 6, 16, 17, 18, 19, 20, 21, 22, 23, 24, 25, 26, 27, 28, 29, 30, 31, 32, 33, 34, 35, 36, 37, 38, 39, 40, 41, 42, 43, 44, 45, 46, 47, 48, 49, 50, 51, 52, 53, 54, 55] (by decide +kernel) (by decide +kernel)) (goodIn_sub (fun _ h => List.mem_cons_of_mem _ (List.mem_append_left _ (List.mem_append_right _ h))) (by decide +kernel))) (goodIn_sub (fun _ h => List.mem_cons_of_mem _ (List.mem_append_right _ h)) (by decide +kernel))) (goodIn_sub (fun _ h => List.mem_cons_of_mem _ (List.mem_append_left _ (List.mem_append_left _ (List.mem_append_right _ h)))) (by decide +kernel))
set_option maxRecDepth 20000 in
theorem gL_make_X6_make : GoodIn wsL_make (wsV RL 7 RX6 yX6_make wsX6_make) := goodIn_app (goodIn_of _ (by decide +kernel)) ggL_make_X6_make
theorem dL_make_0 : decode cL_make 0 = .ok (.aload 4, 2) := by decide +kernel
theorem dL_make_2 : decode cL_make 2 = .ok (.iconst 0, 1) := by decide +kernel
theorem dL_make_3 : decode cL_make 3 = .ok (.aload_n 0, 1) := by decide +kernel
theorem dL_make_4 : decode cL_make 4 = .ok (.iload_n 1, 1) := by decide +kernel
theorem dL_make_5 : decode cL_make 5 = .ok (.iload_n 2, 1) := by decide +kernel
theorem dL_make_6 : decode cL_make 6 = .ok (.iload_n 3, 1) := by decide +kernel
theorem dL_make_7 : decode cL_make 7 = .ok (.invokevirtual 7, 3) := by decide +kernel
theorem dL_make_10 : decode cL_make 10 = .ok (.i2l, 1) := by decide +kernel
theorem dL_make_11 : decode cL_make 11 = .ok (.lastore, 1) := by decide +kernel
theorem dL_make_12 : decode cL_make 12 = .ok (.goto 11, 3) := by decide +kernel
theorem dL_make_15 : decode cL_make 15 = .ok (.astore 5, 2) := by decide +kernel
theorem dL_make_17 : decode cL_make 17 = .ok (.iconst 1, 1) := by decide +kernel
theorem dL_make_18 : decode cL_make 18 = .ok (.ireturn, 1) := by decide +kernel
theorem dL_make_19 : decode cL_make 19 = .ok (.astore 5, 2) := by decide +kernel
theorem dL_make_21 : decode cL_make 21 = .ok (.iconst 2, 1) := by decide +kernel
theorem dL_make_22 : decode cL_make 22 = .ok (.ireturn, 1) := by decide +kernel
theorem dL_make_23 : decode cL_make 23 = .ok (.iconst 0, 1) := by decide +kernel
theorem dL_make_24 : decode cL_make 24 = .ok (.ireturn, 1) := by decide +kernel
set_option maxRecDepth 20000 in
theorem ggL_ring_X6_ring : GoodIn wsL_ring wsX6_ring := goodIn_ca (goodIn_ca (goodIn_r _ [6, 7, 8, 9, 10, 11, 12, 13, 14, 15, 16, 17, 18, 19, 20, 21, 22, 23, 24, 25, 26, 27, 28, 29, 30, 31, 5, 32, 33, 34, 35, 36, 37, 38, 39, 40, 41, 42, 43, 44, 45, 46, 47, 48, 49, 50, 51, 52, 53, 54, 55, 56, 57, 58, 59, 60, 61, 62, 63, 64, 65, 66, 67, 68, 69, 70, 71, 72, 73, 74, 75, 76, 77, 78, 79, 80, 81] (by decide +kernel) (by decide +kernel)) (goodIn_sub (fun _ h => List.mem_cons_of_mem _ (List.mem_append_right _ h)) (by decide +kernel))) (goodIn_sub (fun _ h => List.mem_cons_of_mem _ (List.mem_append_left _ (List.mem_append_right _ h))) (by decide +kernel))
set_option maxRecDepth 20000 in
theorem gL_ring_X6_ring : GoodIn wsL_ring (wsV RL 17 RX6 yX6_ring wsX6_ring) := goodIn_app (goodIn_of _ (by decide +kernel)) ggL_ring_X6_ring
theorem dL_ring_0 : decode cL_ring 0 = .ok (.aload_n 2, 1) := by decide +kernel
theorem dL_ring_1 : decode cL_ring 1 = .ok (.iconst 0, 1) := by decide +kernel
theorem dL_ring_2 : decode cL_ring 2 = .ok (.aload_n 0, 1) := by decide +kernel
theorem dL_ring_3 : decode cL_ring 3 = .ok (.iload_n 1, 1) := by decide +kernel
theorem dL_ring_4 : decode cL_ring 4 = .ok (.invokevirtual 17, 3) := by decide +kernel
theorem dL_ring_7 : decode cL_ring 7 = .ok (.i2l, 1) := by decide +kernel
theorem dL_ring_8 : decode cL_ring 8 = .ok (.lastore, 1) := by decide +kernel
theorem dL_ring_9 : decode cL_ring 9 = .ok (.goto 6, 3) := by decide +kernel
theorem dL_ring_12 : decode cL_ring 12 = .ok (.astore_n 3, 1) := by decide +kernel
theorem dL_ring_13 : decode cL_ring 13 = .ok (.iconst 1, 1) := by decide +kernel
theorem dL_ring_14 : decode cL_ring 14 = .ok (.ireturn, 1) := by decide +kernel
theorem dL_ring_15 : decode cL_ring 15 = .ok (.iconst 0, 1) := by decide +kernel
theorem dL_ring_16 : decode cL_ring 16 = .ok (.ireturn, 1) := by decide +kernel
set_option maxRecDepth 20000 in
theorem ggL_plan_X6_plan : GoodIn wsL_plan wsX6_plan := goodIn_ca (goodIn_ca (goodIn_ca (goodIn_ca (goodIn_ca (goodIn_r _ [9, 10, 11, 12, 13, 14, 15, 16, 17, 18, 19, 20, 21, 22, 23, 24, 25, 26, 27, 28, 29, 30, 31, 32, 33, 34, 35, 36, 37, 38, 39, 40, 41, 42, 43, 44, 45, 46, 47, 48, 49, 50, 51, 52, 53, 54, 55, 56, 57, 8, 58, 59, 60, 61, 62, 63, 64, 65, 66, 67, 68, 69, 70, 71, 72, 73, 74, 75, 76, 77, 78, 79, 80, 81, 82, 83, 84, 85, 86, 87, 88, 89, 90, 91, 92, 93, 94, 95, 96, 97, 98, 99, 100, 101, 102, 103, 104, 105, 106, 107, 108, 109, 110, 111, 112, 113, 114, 115, 116, 117, 118, 119, 120, 121, 122, 123, 124, 125, 126, 127, 128, 129, 130, 131, 132, 133, 134, 135, 136, 137, 138, 139, 140, 141, 142, 143, 144, 145, 146, 147, 148, 149, 150, 151, 152, 153, 154, 155, 156, 157, 158, 159, 160, 161, 162, 163, 164, 165, 166, 167, 168, 169, 170, 171, 172, 173, 174, 175, 176, 177, 178, 179, 180, 181, 182, 183, 184, 185, 186, 187, 188, 189, 190, 191, 192, 193, 194, 195, 196, 197, 198, 199, 200, 201, 202, 203, 204, 205, 206, 207, 208, 209, 210, 211, 212, 213, 214, 215, 216, 217, 218, 219, 220, 221, 222, 223, 224, 225, 226, 227, 228, 229, 230, 231, 232, 233, 234, 235, 236, 237, 238, 239, 240, 241, 242, 243, 244, 245, 246, 247, 248, 249, 250, 251, 252, 253, 254, 255, 256, 257] (by decide +kernel) (by decide +kernel)) (goodIn_sub (fun _ h => List.mem_cons_of_mem _ (List.mem_append_left _ (List.mem_append_left _ (List.mem_append_left _ (List.mem_append_right _ h))))) (by decide +kernel))) (goodIn_sub (fun _ h => List.mem_cons_of_mem _ (List.mem_append_left _ (List.mem_append_left _ (List.mem_append_right _ h)))) (by decide +kernel))) (goodIn_sub (fun _ h => List.mem_cons_of_mem _ (List.mem_append_left _ (List.mem_append_right _ h))) (by decide +kernel))) (goodIn_sub (fun _ h => List.mem_cons_of_mem _ (List.mem_append_right _ h)) (by decide +kernel))) (goodIn_sub (fun _ h => List.mem_cons_of_mem _ (List.mem_append_left _ (List.mem_append_left _ (List.mem_append_left _ (List.mem_append_left _ (List.mem_append_right _ h)))))) (by decide +kernel))
set_option maxRecDepth 20000 in
theorem gL_plan_X6_plan : GoodIn wsL_plan (wsV RL 23 RX6 yX6_plan wsX6_plan) := goodIn_app (goodIn_of _ (by decide +kernel)) ggL_plan_X6_plan
theorem dL_plan_0 : decode cL_plan 0 = .ok (.aload_n 2, 1) := by decide +kernel
theorem dL_plan_1 : decode cL_plan 1 = .ok (.iconst 0, 1) := by decide +kernel
theorem dL_plan_2 : decode cL_plan 2 = .ok (.aload_n 0, 1) := by decide +kernel
theorem dL_plan_3 : decode cL_plan 3 = .ok (.iload_n 1, 1) := by decide +kernel
theorem dL_plan_4 : decode cL_plan 4 = .ok (.invokevirtual 23, 3) := by decide +kernel
theorem dL_plan_7 : decode cL_plan 7 = .ok (.i2l, 1) := by decide +kernel
theorem dL_plan_8 : decode cL_plan 8 = .ok (.lastore, 1) := by decide +kernel
theorem dL_plan_9 : decode cL_plan 9 = .ok (.goto 15, 3) := by decide +kernel
theorem dL_plan_12 : decode cL_plan 12 = .ok (.astore_n 3, 1) := by decide +kernel
theorem dL_plan_13 : decode cL_plan 13 = .ok (.iconst 1, 1) := by decide +kernel
theorem dL_plan_14 : decode cL_plan 14 = .ok (.ireturn, 1) := by decide +kernel
theorem dL_plan_15 : decode cL_plan 15 = .ok (.astore_n 3, 1) := by decide +kernel
theorem dL_plan_16 : decode cL_plan 16 = .ok (.iconst 2, 1) := by decide +kernel
theorem dL_plan_17 : decode cL_plan 17 = .ok (.ireturn, 1) := by decide +kernel
theorem dL_plan_18 : decode cL_plan 18 = .ok (.astore_n 3, 1) := by decide +kernel
theorem dL_plan_19 : decode cL_plan 19 = .ok (.iconst 3, 1) := by decide +kernel
theorem dL_plan_20 : decode cL_plan 20 = .ok (.ireturn, 1) := by decide +kernel
theorem dL_plan_21 : decode cL_plan 21 = .ok (.astore_n 3, 1) := by decide +kernel
theorem dL_plan_22 : decode cL_plan 22 = .ok (.iconst 4, 1) := by decide +kernel
theorem dL_plan_23 : decode cL_plan 23 = .ok (.ireturn, 1) := by decide +kernel
theorem dL_plan_24 : decode cL_plan 24 = .ok (.iconst 0, 1) := by decide +kernel
theorem dL_plan_25 : decode cL_plan 25 = .ok (.ireturn, 1) := by decide +kernel
set_option maxRecDepth 20000 in
theorem ggL_order_X6_order : GoodIn wsL_order wsX6_order := goodIn_ca (goodIn_ca (goodIn_ca (goodIn_r _ [7, 8, 9, 10, 11, 12, 13, 14, 6, 15, 16, 17, 18, 19, 20, 21, 22, 23, 24, 25, 26, 27, 28, 29, 30, 31, 32, 33, 34, 35, 36, 37, 38, 39, 40, 41, 42, 43, 44, 45, 46, 47, 48, 49, 50, 51, 52, 53, 54] (by decide +kernel) (by decide +kernel)) (goodIn_sub (fun _ h => List.mem_cons_of_mem _ (List.mem_append_left _ (List.mem_append_left _ (List.mem_append_right _ h)))) (by decide +kernel))) (goodIn_sub (fun _ h => List.mem_cons_of_mem _ (List.mem_append_left _ (List.mem_append_right _ h))) (by decide +kernel))) (goodIn_sub (fun _ h => List.mem_cons_of_mem _ (List.mem_append_right _ h)) (by decide +kernel))
set_option maxRecDepth 20000 in
theorem gL_order_X6_order : GoodIn wsL_order (wsV RL 30 RX6 yX6_order wsX6_order) := goodIn_app (goodIn_of _ (by decide +kernel)) ggL_order_X6_order
theorem dL_order_0 : decode cL_order 0 = .ok (.aload_n 2, 1) := by decide +kernel
theorem dL_order_1 : decode cL_order 1 = .ok (.iconst 0, 1) := by decide +kernel
theorem dL_order_2 : decode cL_order 2 = .ok (.aload_n 0, 1) := by decide +kernel
theorem dL_order_3 : decode cL_order 3 = .ok (.iload_n 1, 1) := by decide +kernel
theorem dL_order_4 : decode cL_order 4 = .ok (.invokevirtual 30, 3) := by decide +kernel
theorem dL_order_7 : decode cL_order 7 = .ok (.i2l, 1) := by decide +kernel
theorem dL_order_8 : decode cL_order 8 = .ok (.lastore, 1) := by decide +kernel
theorem dL_order_9 : decode cL_order 9 = .ok (.goto 9, 3) := by decide +kernel
theorem dL_order_12 : decode cL_order 12 = .ok (.astore_n 3, 1) := by decide +kernel
theorem dL_order_13 : decode cL_order 13 = .ok (.iconst 1, 1) := by decide +kernel
theorem dL_order_14 : decode cL_order 14 = .ok (.ireturn, 1) := by decide +kernel
theorem dL_order_15 : decode cL_order 15 = .ok (.astore_n 3, 1) := by decide +kernel
theorem dL_order_16 : decode cL_order 16 = .ok (.iconst 2, 1) := by decide +kernel
theorem dL_order_17 : decode cL_order 17 = .ok (.ireturn, 1) := by decide +kernel
theorem dL_order_18 : decode cL_order 18 = .ok (.iconst 0, 1) := by decide +kernel
theorem dL_order_19 : decode cL_order 19 = .ok (.ireturn, 1) := by decide +kernel
set_option maxRecDepth 20000 in
theorem ggL_about_X6_about : GoodIn wsL_about wsX6_about := goodIn_ca (goodIn_ca (goodIn_ca (goodIn_r _ [7, 8, 9, 10, 11, 12, 13, 14, 15, 16, 17, 18, 19, 6, 20, 21, 22, 23, 24, 25, 26, 27, 28, 29, 30, 31, 32, 33, 34, 35, 36, 37, 38, 39, 40, 41, 42, 43, 44, 45, 46, 47, 48, 49, 50, 51, 52, 53, 54, 55, 56, 57, 58, 59, 60, 61, 62, 63] (by decide +kernel) (by decide +kernel)) (goodIn_sub (fun _ h => List.mem_cons_of_mem _ (List.mem_append_left _ (List.mem_append_left _ (List.mem_append_right _ h)))) (by decide +kernel))) (goodIn_sub (fun _ h => List.mem_cons_of_mem _ (List.mem_append_left _ (List.mem_append_right _ h))) (by decide +kernel))) (goodIn_sub (fun _ h => List.mem_cons_of_mem _ (List.mem_append_right _ h)) (by decide +kernel))
set_option maxRecDepth 20000 in
theorem gL_about_X6_about : GoodIn wsL_about (wsV RL 35 RX6 yX6_about wsX6_about) := goodIn_app (goodIn_of _ (by decide +kernel)) ggL_about_X6_about
theorem dL_about_0 : decode cL_about 0 = .ok (.aload_n 3, 1) := by decide +kernel
theorem dL_about_1 : decode cL_about 1 = .ok (.iconst 0, 1) := by decide +kernel
theorem dL_about_2 : decode cL_about 2 = .ok (.aload_n 0, 1) := by decide +kernel
theorem dL_about_3 : decode cL_about 3 = .ok (.iload_n 1, 1) := by decide +kernel
theorem dL_about_4 : decode cL_about 4 = .ok (.iload_n 2, 1) := by decide +kernel
theorem dL_about_5 : decode cL_about 5 = .ok (.invokevirtual 35, 3) := by decide +kernel
theorem dL_about_8 : decode cL_about 8 = .ok (.i2l, 1) := by decide +kernel
theorem dL_about_9 : decode cL_about 9 = .ok (.lastore, 1) := by decide +kernel
theorem dL_about_10 : decode cL_about 10 = .ok (.goto 11, 3) := by decide +kernel
theorem dL_about_13 : decode cL_about 13 = .ok (.astore 4, 2) := by decide +kernel
theorem dL_about_15 : decode cL_about 15 = .ok (.iconst 1, 1) := by decide +kernel
theorem dL_about_16 : decode cL_about 16 = .ok (.ireturn, 1) := by decide +kernel
theorem dL_about_17 : decode cL_about 17 = .ok (.astore 4, 2) := by decide +kernel
theorem dL_about_19 : decode cL_about 19 = .ok (.iconst 2, 1) := by decide +kernel
theorem dL_about_20 : decode cL_about 20 = .ok (.ireturn, 1) := by decide +kernel
theorem dL_about_21 : decode cL_about 21 = .ok (.iconst 0, 1) := by decide +kernel
theorem dL_about_22 : decode cL_about 22 = .ok (.ireturn, 1) := by decide +kernel
set_option maxRecDepth 20000 in
theorem ggL_cost_X6_cost : GoodIn wsL_cost wsX6_cost := goodIn_ca (goodIn_ca (goodIn_ca (goodIn_r _ [7, 8, 9, 10, 11, 12, 13, 14, 6, 15, 16, 17, 18, 19, 20, 21, 22, 23, 24, 25, 26, 27, 28, 29, 30, 31, 32, 33, 34, 35, 36, 37, 38, 39, 40, 41, 42, 43, 44, 45, 46, 47, 48, 49, 50, 51, 52, 53, 54] (by decide +kernel) (by decide +kernel)) (goodIn_sub (fun _ h => List.mem_cons_of_mem _ (List.mem_append_left _ (List.mem_append_left _ (List.mem_append_right _ h)))) (by decide +kernel))) (goodIn_sub (fun _ h => List.mem_cons_of_mem _ (List.mem_append_left _ (List.mem_append_right _ h))) (by decide +kernel))) (goodIn_sub (fun _ h => List.mem_cons_of_mem _ (List.mem_append_right _ h)) (by decide +kernel))
set_option maxRecDepth 20000 in
theorem gL_cost_X6_cost : GoodIn wsL_cost (wsV RL 39 RX6 yX6_cost wsX6_cost) := goodIn_app (goodIn_of _ (by decide +kernel)) ggL_cost_X6_cost
theorem dL_cost_0 : decode cL_cost 0 = .ok (.aload_n 2, 1) := by decide +kernel
theorem dL_cost_1 : decode cL_cost 1 = .ok (.iconst 0, 1) := by decide +kernel
theorem dL_cost_2 : decode cL_cost 2 = .ok (.aload_n 0, 1) := by decide +kernel
theorem dL_cost_3 : decode cL_cost 3 = .ok (.iload_n 1, 1) := by decide +kernel
theorem dL_cost_4 : decode cL_cost 4 = .ok (.invokevirtual 39, 3) := by decide +kernel
theorem dL_cost_7 : decode cL_cost 7 = .ok (.i2l, 1) := by decide +kernel
theorem dL_cost_8 : decode cL_cost 8 = .ok (.lastore, 1) := by decide +kernel
theorem dL_cost_9 : decode cL_cost 9 = .ok (.goto 9, 3) := by decide +kernel
theorem dL_cost_12 : decode cL_cost 12 = .ok (.astore_n 3, 1) := by decide +kernel
theorem dL_cost_13 : decode cL_cost 13 = .ok (.iconst 1, 1) := by decide +kernel
theorem dL_cost_14 : decode cL_cost 14 = .ok (.ireturn, 1) := by decide +kernel
theorem dL_cost_15 : decode cL_cost 15 = .ok (.astore_n 3, 1) := by decide +kernel
theorem dL_cost_16 : decode cL_cost 16 = .ok (.iconst 2, 1) := by decide +kernel
theorem dL_cost_17 : decode cL_cost 17 = .ok (.ireturn, 1) := by decide +kernel
theorem dL_cost_18 : decode cL_cost 18 = .ok (.iconst 0, 1) := by decide +kernel
theorem dL_cost_19 : decode cL_cost 19 = .ok (.ireturn, 1) := by decide +kernel
set_option maxRecDepth 20000 in
theorem ggL_peak_X6_peak : GoodIn wsL_peak wsX6_peak := goodIn_ca (goodIn_r _ [6, 7, 8, 9, 10, 11, 5, 12, 13, 14, 15, 16, 17, 18, 19, 20, 21, 22, 23, 24, 25, 26, 27, 28, 29, 30, 31, 32, 33, 34, 35, 36] (by decide +kernel) (by decide +kernel)) (goodIn_sub (fun _ h => List.mem_cons_of_mem _ (List.mem_append_right _ h)) (by decide +kernel))
set_option maxRecDepth 20000 in
theorem gL_peak_X6_peak : GoodIn wsL_peak (wsV RL 42 RX6 yX6_peak wsX6_peak) := goodIn_app (goodIn_of _ (by decide +kernel)) ggL_peak_X6_peak
theorem dL_peak_0 : decode cL_peak 0 = .ok (.aload_n 1, 1) := by decide +kernel
theorem dL_peak_1 : decode cL_peak 1 = .ok (.iconst 0, 1) := by decide +kernel
theorem dL_peak_2 : decode cL_peak 2 = .ok (.aload_n 0, 1) := by decide +kernel
theorem dL_peak_3 : decode cL_peak 3 = .ok (.invokevirtual 42, 3) := by decide +kernel
theorem dL_peak_6 : decode cL_peak 6 = .ok (.i2l, 1) := by decide +kernel
theorem dL_peak_7 : decode cL_peak 7 = .ok (.lastore, 1) := by decide +kernel
theorem dL_peak_8 : decode cL_peak 8 = .ok (.goto 6, 3) := by decide +kernel
theorem dL_peak_11 : decode cL_peak 11 = .ok (.astore_n 2, 1) := by decide +kernel
theorem dL_peak_12 : decode cL_peak 12 = .ok (.iconst 1, 1) := by decide +kernel
theorem dL_peak_13 : decode cL_peak 13 = .ok (.ireturn, 1) := by decide +kernel
theorem dL_peak_14 : decode cL_peak 14 = .ok (.iconst 0, 1) := by decide +kernel
theorem dL_peak_15 : decode cL_peak 15 = .ok (.ireturn, 1) := by decide +kernel
set_option maxRecDepth 20000 in
theorem ggL_least_X6_least : GoodIn wsL_least wsX6_least := goodIn_ca (goodIn_ca (goodIn_r _ [6, 7, 8, 9, 10, 11, 5, 12, 13, 14, 15, 16, 17, 18, 19, 20, 21, 22, 23, 24, 25, 26, 27, 28, 29, 30, 31, 32, 33, 34, 35, 36, 37, 38, 39, 40, 41, 42, 43, 44, 45, 46, 47, 48, 49, 50, 51, 52, 53, 54, 55, 56, 57, 58, 59, 60, 61, 62, 63, 64, 65, 66, 67, 68, 69, 70, 71, 72, 73, 74, 75, 76, 77, 78, 79, 80, 81, 82, 83, 84] (by decide +kernel) (by decide +kernel)) (goodIn_sub (fun _ h => List.mem_cons_of_mem _ (List.mem_append_right _ h)) (by decide +kernel))) (goodIn_sub (fun _ h => List.mem_cons_of_mem _ (List.mem_append_left _ (List.mem_append_right _ h))) (by decide +kernel))
set_option maxRecDepth 20000 in
theorem gL_least_X6_least : GoodIn wsL_least (wsV RL 46 RX6 yX6_least wsX6_least) := goodIn_app (goodIn_of _ (by decide +kernel)) ggL_least_X6_least
theorem dL_least_0 : decode cL_least 0 = .ok (.aload_n 1, 1) := by decide +kernel
theorem dL_least_1 : decode cL_least 1 = .ok (.iconst 0, 1) := by decide +kernel
theorem dL_least_2 : decode cL_least 2 = .ok (.aload_n 0, 1) := by decide +kernel
theorem dL_least_3 : decode cL_least 3 = .ok (.invokevirtual 46, 3) := by decide +kernel
theorem dL_least_6 : decode cL_least 6 = .ok (.i2l, 1) := by decide +kernel
theorem dL_least_7 : decode cL_least 7 = .ok (.lastore, 1) := by decide +kernel
theorem dL_least_8 : decode cL_least 8 = .ok (.goto 6, 3) := by decide +kernel
theorem dL_least_11 : decode cL_least 11 = .ok (.astore_n 2, 1) := by decide +kernel
theorem dL_least_12 : decode cL_least 12 = .ok (.iconst 1, 1) := by decide +kernel
theorem dL_least_13 : decode cL_least 13 = .ok (.ireturn, 1) := by decide +kernel
theorem dL_least_14 : decode cL_least 14 = .ok (.iconst 0, 1) := by decide +kernel
theorem dL_least_15 : decode cL_least 15 = .ok (.ireturn, 1) := by decide +kernel
set_option maxRecDepth 20000 in
theorem ggL_run_X6_run : GoodIn wsL_run wsX6_run := goodIn_ca (goodIn_ca (goodIn_r _ [6, 7, 8, 9, 10, 11, 5, 12, 13, 14, 15, 16, 17, 18, 19, 20, 21, 22, 23, 24, 25, 26, 27, 28, 29, 30, 31, 32, 33, 34, 35, 36, 37, 38, 39, 40, 41, 42, 43, 44, 45, 46, 47, 48, 49, 50, 51, 52, 53, 54, 55, 56, 57, 58, 59, 60, 61, 62, 63, 64, 65, 66, 67, 68, 69, 70, 71, 72, 73, 74, 75, 76, 77, 78, 79, 80, 81, 82, 83, 84] (by decide +kernel) (by decide +kernel)) (goodIn_sub (fun _ h => List.mem_cons_of_mem _ (List.mem_append_right _ h)) (by decide +kernel))) (goodIn_sub (fun _ h => List.mem_cons_of_mem _ (List.mem_append_left _ (List.mem_append_right _ h))) (by decide +kernel))
set_option maxRecDepth 20000 in
theorem gL_run_X6_run : GoodIn wsL_run (wsV RL 49 RX6 yX6_run wsX6_run) := goodIn_app (goodIn_of _ (by decide +kernel)) ggL_run_X6_run
theorem dL_run_0 : decode cL_run 0 = .ok (.aload_n 1, 1) := by decide +kernel
theorem dL_run_1 : decode cL_run 1 = .ok (.iconst 0, 1) := by decide +kernel
theorem dL_run_2 : decode cL_run 2 = .ok (.aload_n 0, 1) := by decide +kernel
theorem dL_run_3 : decode cL_run 3 = .ok (.invokevirtual 49, 3) := by decide +kernel
theorem dL_run_6 : decode cL_run 6 = .ok (.i2l, 1) := by decide +kernel
theorem dL_run_7 : decode cL_run 7 = .ok (.lastore, 1) := by decide +kernel
theorem dL_run_8 : decode cL_run 8 = .ok (.goto 6, 3) := by decide +kernel
theorem dL_run_11 : decode cL_run 11 = .ok (.astore_n 2, 1) := by decide +kernel
theorem dL_run_12 : decode cL_run 12 = .ok (.iconst 1, 1) := by decide +kernel
theorem dL_run_13 : decode cL_run 13 = .ok (.ireturn, 1) := by decide +kernel
theorem dL_run_14 : decode cL_run 14 = .ok (.iconst 0, 1) := by decide +kernel
theorem dL_run_15 : decode cL_run 15 = .ok (.ireturn, 1) := by decide +kernel
set_option maxRecDepth 20000 in
theorem ggL_cell_X6_cell : GoodIn wsL_cell wsX6_cell := goodIn_ca (goodIn_ca (goodIn_ca (goodIn_r _ [7, 8, 9, 10, 11, 12, 13, 14, 6, 15, 16, 17, 18, 19, 20, 21, 22, 23, 24, 25, 26, 27, 28, 29, 30, 31, 32, 33, 34, 35, 36, 37, 38, 39, 40, 41, 42, 43, 44, 45, 46, 47, 48] (by decide +kernel) (by decide +kernel)) (goodIn_sub (fun _ h => List.mem_cons_of_mem _ (List.mem_append_left _ (List.mem_append_left _ (List.mem_append_right _ h)))) (by decide +kernel))) (goodIn_sub (fun _ h => List.mem_cons_of_mem _ (List.mem_append_left _ (List.mem_append_right _ h))) (by decide +kernel))) (goodIn_sub (fun _ h => List.mem_cons_of_mem _ (List.mem_append_right _ h)) (by decide +kernel))
set_option maxRecDepth 20000 in
theorem gL_cell_X6_cell : GoodIn wsL_cell (wsV RL 52 RX6 yX6_cell wsX6_cell) := goodIn_app (goodIn_of _ (by decide +kernel)) ggL_cell_X6_cell
theorem dL_cell_0 : decode cL_cell 0 = .ok (.aload_n 2, 1) := by decide +kernel
theorem dL_cell_1 : decode cL_cell 1 = .ok (.iconst 0, 1) := by decide +kernel
theorem dL_cell_2 : decode cL_cell 2 = .ok (.aload_n 0, 1) := by decide +kernel
theorem dL_cell_3 : decode cL_cell 3 = .ok (.iload_n 1, 1) := by decide +kernel
theorem dL_cell_4 : decode cL_cell 4 = .ok (.invokevirtual 52, 3) := by decide +kernel
theorem dL_cell_7 : decode cL_cell 7 = .ok (.i2l, 1) := by decide +kernel
theorem dL_cell_8 : decode cL_cell 8 = .ok (.lastore, 1) := by decide +kernel
theorem dL_cell_9 : decode cL_cell 9 = .ok (.goto 9, 3) := by decide +kernel
theorem dL_cell_12 : decode cL_cell 12 = .ok (.astore_n 3, 1) := by decide +kernel
theorem dL_cell_13 : decode cL_cell 13 = .ok (.iconst 1, 1) := by decide +kernel
theorem dL_cell_14 : decode cL_cell 14 = .ok (.ireturn, 1) := by decide +kernel
theorem dL_cell_15 : decode cL_cell 15 = .ok (.astore_n 3, 1) := by decide +kernel
theorem dL_cell_16 : decode cL_cell 16 = .ok (.iconst 2, 1) := by decide +kernel
theorem dL_cell_17 : decode cL_cell 17 = .ok (.ireturn, 1) := by decide +kernel
theorem dL_cell_18 : decode cL_cell 18 = .ok (.iconst 0, 1) := by decide +kernel
theorem dL_cell_19 : decode cL_cell 19 = .ok (.ireturn, 1) := by decide +kernel
set_option maxRecDepth 20000 in
theorem ggL_result_X6_result : GoodIn wsL_result wsX6_result := goodIn_ca (goodIn_ca (goodIn_ca (goodIn_ca (goodIn_r _ [8, 9, 10, 11, 12, 13, 14, 15, 16, 17, 18, 19, 20, 21, 7, 22, 23, 24, 25, 26, 27, 28, 29, 30, 31, 32, 33, 34, 35, 36, 37, 38, 39, 40, 41, 42, 43, 44, 45, 46, 47, 48, 49, 50, 51, 52, 53, 54, 55, 56, 57, 58, 59, 60, 61, 62, 63, 64, 65, 66, 67, 68, 69, 70, 71, 72, 73, 74, 75, 76, 77, 78, 79, 80] (by decide +kernel) (by decide +kernel)) (goodIn_sub (fun _ h => List.mem_cons_of_mem _ (List.mem_append_left _ (List.mem_append_left _ (List.mem_append_left _ (List.mem_append_right _ h))))) (by decide +kernel))) (goodIn_sub (fun _ h => List.mem_cons_of_mem _ (List.mem_append_left _ (List.mem_append_left _ (List.mem_append_right _ h)))) (by decide +kernel))) (goodIn_sub (fun _ h => List.mem_cons_of_mem _ (List.mem_append_left _ (List.mem_append_right _ h))) (by decide +kernel))) (goodIn_sub (fun _ h => List.mem_cons_of_mem _ (List.mem_append_right _ h)) (by decide +kernel))
set_option maxRecDepth 20000 in
theorem gL_result_X6_result : GoodIn wsL_result (wsV RL 55 RX6 yX6_result wsX6_result) := goodIn_app (goodIn_of _ (by decide +kernel)) ggL_result_X6_result
theorem dL_result_0 : decode cL_result 0 = .ok (.aload_n 3, 1) := by decide +kernel
theorem dL_result_1 : decode cL_result 1 = .ok (.iconst 0, 1) := by decide +kernel
theorem dL_result_2 : decode cL_result 2 = .ok (.aload_n 0, 1) := by decide +kernel
theorem dL_result_3 : decode cL_result 3 = .ok (.iload_n 1, 1) := by decide +kernel
theorem dL_result_4 : decode cL_result 4 = .ok (.iload_n 2, 1) := by decide +kernel
theorem dL_result_5 : decode cL_result 5 = .ok (.invokevirtual 55, 3) := by decide +kernel
theorem dL_result_8 : decode cL_result 8 = .ok (.i2l, 1) := by decide +kernel
theorem dL_result_9 : decode cL_result 9 = .ok (.lastore, 1) := by decide +kernel
theorem dL_result_10 : decode cL_result 10 = .ok (.goto 15, 3) := by decide +kernel
theorem dL_result_13 : decode cL_result 13 = .ok (.astore 4, 2) := by decide +kernel
theorem dL_result_15 : decode cL_result 15 = .ok (.iconst 1, 1) := by decide +kernel
theorem dL_result_16 : decode cL_result 16 = .ok (.ireturn, 1) := by decide +kernel
theorem dL_result_17 : decode cL_result 17 = .ok (.astore 4, 2) := by decide +kernel
theorem dL_result_19 : decode cL_result 19 = .ok (.iconst 2, 1) := by decide +kernel
theorem dL_result_20 : decode cL_result 20 = .ok (.ireturn, 1) := by decide +kernel
theorem dL_result_21 : decode cL_result 21 = .ok (.astore 4, 2) := by decide +kernel
theorem dL_result_23 : decode cL_result 23 = .ok (.iconst 3, 1) := by decide +kernel
theorem dL_result_24 : decode cL_result 24 = .ok (.ireturn, 1) := by decide +kernel
theorem dL_result_25 : decode cL_result 25 = .ok (.iconst 0, 1) := by decide +kernel
theorem dL_result_26 : decode cL_result 26 = .ok (.ireturn, 1) := by decide +kernel
set_option maxRecDepth 20000 in
theorem ggL_law_X6_init : GoodIn wsL_law wsX6_init := goodIn_r _ [9, 10, 11, 12, 13, 14, 15, 16, 17, 18, 19, 20, 21, 22, 23, 24, 25, 26, 27, 28, 29, 30, 31, 32, 33, 34, 35, 36, 37, 38, 39, 40, 41, 42, 43, 44, 45, 46, 47, 48, 49, 50, 51, 52, 53, 54, 55, 56, 57, 58, 59, 60, 61, 62, 63, 64, 65, 66, 67, 68, 69, 70, 71, 72, 73, 74, 75, 76, 77, 78, 79, 80, 81, 82, 83, 84, 85, 86, 87, 88, 89, 90, 91, 92, 731, 732, 733, 734, 735, 736, 737, 692, 693, 694, 695, 696, 697, 698, 699, 700, 738, 739, 740, 741, 742, 743, 744, 745, 746, 747, 748, 749, 750, 751, 752, 753, 754, 755, 756, 757, 758, 759, 760, 761, 762, 763, 764] (by decide +kernel) (by decide +kernel)
set_option maxRecDepth 20000 in
theorem gL_law_X6_init : GoodIn wsL_law (wsX6_init) := ggL_law_X6_init
set_option maxRecDepth 20000 in
theorem ggL_law_X7_init : GoodIn wsL_law wsX7_init := goodIn_r _ [95, 96, 11, 12, 40, 97, 98, 99, 100, 47, 101, 102, 103, 104, 105, 106, 107, 108, 109, 110, 111, 112, 113, 114, 115, 116, 701, 702, 703, 704, 705, 706, 707, 708, 709, 710, 711, 712, 713, 714, 715, 716, 717, 718, 719, 720, 721, 722, 723, 724, 725, 726, 727, 728, 729, 730] (by decide +kernel) (by decide +kernel)
set_option maxRecDepth 20000 in
theorem gL_law_X7_init : GoodIn wsL_law (wsX7_init) := ggL_law_X7_init
set_option maxRecDepth 20000 in
theorem ggL_law_L_make : GoodIn wsL_law wsL_make := goodIn_ca (goodIn_ca (goodIn_ca (goodIn_r _ [120, 121, 122, 123, 124, 125, 2, 126, 127, 128, 129, 130, 16, 131, 132, 133, 134, 135, 136, 137, 138, 139, 140, 141, 142, 143, 144, 145, 146, 15, 147, 148, 41, 42, 43, 46, 149, 150, 151, 152, 692, 693, 694, 695, 696, 697, 698, 699, 700, 731, 732, 733, 734, 735, 736, 737] (by decide +kernel) (by decide +kernel)) (goodIn_sub (fun _ h => List.mem_append_left _ (List.mem_append_left _ (List.mem_append_left _ (List.mem_append_left _ (List.mem_append_left _ (List.mem_append_left _ (List.mem_append_right _ h))))))) (by decide +kernel))) (goodIn_sub (fun _ h => List.mem_append_left _ (List.mem_append_left _ (List.mem_append_left _ (List.mem_append_left _ (List.mem_append_left _ (List.mem_append_right _ h)))))) (by decide +kernel))) (goodIn_sub (fun _ h => List.mem_append_left _ (List.mem_append_left _ (List.mem_append_left _ (List.mem_append_left _ (List.mem_append_right _ h))))) (by decide +kernel))
set_option maxRecDepth 20000 in
theorem gL_law_L_make : GoodIn wsL_law (va_wsS RL 62 yL_make wsL_make) := goodIn_app (goodIn_of _ (by decide +kernel)) ggL_law_L_make
set_option maxRecDepth 20000 in
theorem ggL_law_X7_make : GoodIn wsL_law wsX7_make := goodIn_ca (goodIn_r _ [156, 157, 158, 97, 98, 99, 100, 101, 102, 159, 160, 161, 5, 162, 163, 164, 165, 166, 701, 702, 703, 704, 705, 706, 707, 708, 709, 710, 711, 712, 713, 714, 715, 716, 717, 718, 719, 720, 721, 722, 723, 724, 725, 726, 727, 728, 729, 730] (by decide +kernel) (by decide +kernel)) (goodIn_sub (fun _ h => List.mem_append_left _ (List.mem_append_left _ (List.mem_append_left _ (List.mem_append_left _ (List.mem_append_left _ (List.mem_append_left _ (List.mem_append_right _ h))))))) (by decide +kernel))
set_option maxRecDepth 20000 in
theorem gL_law_X7_make : GoodIn wsL_law (wsV RL 67 RX7 yX7_make wsX7_make) := goodIn_app (goodIn_of _ (by decide +kernel)) ggL_law_X7_make
set_option maxRecDepth 20000 in
theorem ggL_law_X7_thrown : GoodIn wsL_law wsX7_thrown := goodIn_r _ [170, 157, 701, 702, 703, 704, 705, 706, 707, 708, 709, 710, 711, 712, 713, 714, 715, 716, 717, 718, 719, 720, 721, 722, 723, 724, 725, 726, 727, 728, 729, 730] (by decide +kernel) (by decide +kernel)
set_option maxRecDepth 20000 in
theorem gL_law_X7_thrown : GoodIn wsL_law (wsV RL 68 RX7 yX7_thrown wsX7_thrown) := goodIn_app (goodIn_of _ (by decide +kernel)) ggL_law_X7_thrown
set_option maxRecDepth 20000 in
theorem ggL_law_X6_give : GoodIn wsL_law wsX6_give := goodIn_ca (goodIn_r _ [174, 16, 175, 176, 177, 178, 179, 180, 15, 181, 148, 137, 2, 138, 136, 692, 693, 694, 695, 696, 697, 698, 699, 700, 731, 732, 733, 734, 735, 736, 737] (by decide +kernel) (by decide +kernel)) (goodIn_sub (fun _ h => List.mem_append_left _ (List.mem_append_left _ (List.mem_append_left _ (List.mem_append_left _ (List.mem_append_left _ (List.mem_append_left _ (List.mem_append_right _ h))))))) (by decide +kernel))
set_option maxRecDepth 20000 in
theorem gL_law_X6_give : GoodIn wsL_law (wsV RL 71 RX6 yX6_give wsX6_give) := goodIn_app (goodIn_of _ (by decide +kernel)) ggL_law_X6_give
set_option maxRecDepth 20000 in
theorem ggL_law_X7_give : GoodIn wsL_law wsX7_give := goodIn_ca (goodIn_r _ [185, 157, 97, 98, 102, 186, 187, 188, 5, 189, 158, 701, 702, 703, 704, 705, 706, 707, 708, 709, 710, 711, 712, 713, 714, 715, 716, 717, 718, 719, 720, 721, 722, 723, 724, 725, 726, 727, 728, 729, 730] (by decide +kernel) (by decide +kernel)) (goodIn_sub (fun _ h => List.mem_append_left _ (List.mem_append_left _ (List.mem_append_left _ (List.mem_append_left _ (List.mem_append_left _ (List.mem_append_left _ (List.mem_append_right _ h))))))) (by decide +kernel))
set_option maxRecDepth 20000 in
theorem gL_law_X7_give : GoodIn wsL_law (wsV RL 75 RX7 yX7_give wsX7_give) := goodIn_app (goodIn_of _ (by decide +kernel)) ggL_law_X7_give
set_option maxRecDepth 20000 in
theorem ggL_law_X6_wire : GoodIn wsL_law wsX6_wire := goodIn_ca (goodIn_r _ [193, 16, 194, 178, 179, 180, 15, 181, 148, 137, 2, 138, 195, 196, 197, 198, 41, 136, 139, 140, 141, 142, 143, 692, 693, 694, 695, 696, 697, 698, 699, 700, 731, 732, 733, 734, 735, 736, 737] (by decide +kernel) (by decide +kernel)) (goodIn_sub (fun _ h => List.mem_append_left _ (List.mem_append_left _ (List.mem_append_left _ (List.mem_append_left _ (List.mem_append_left _ (List.mem_append_left _ (List.mem_append_right _ h))))))) (by decide +kernel))
set_option maxRecDepth 20000 in
theorem gL_law_X6_wire : GoodIn wsL_law (wsV RL 76 RX6 yX6_wire wsX6_wire) := goodIn_app (goodIn_of _ (by decide +kernel)) ggL_law_X6_wire
set_option maxRecDepth 20000 in
theorem ggL_law_X7_wire : GoodIn wsL_law wsX7_wire := goodIn_ca (goodIn_r _ [202, 157, 97, 158, 100, 159, 186, 187, 188, 5, 189, 203, 204, 205, 701, 702, 703, 704, 705, 706, 707, 708, 709, 710, 711, 712, 713, 714, 715, 716, 717, 718, 719, 720, 721, 722, 723, 724, 725, 726, 727, 728, 729, 730] (by decide +kernel) (by decide +kernel)) (goodIn_sub (fun _ h => List.mem_append_left _ (List.mem_append_left _ (List.mem_append_left _ (List.mem_append_left _ (List.mem_append_left _ (List.mem_append_left _ (List.mem_append_right _ h))))))) (by decide +kernel))
set_option maxRecDepth 20000 in
theorem gL_law_X7_wire : GoodIn wsL_law (wsV RL 79 RX7 yX7_wire wsX7_wire) := goodIn_app (goodIn_of _ (by decide +kernel)) ggL_law_X7_wire
set_option maxRecDepth 20000 in
theorem ggL_law_X6_keep : GoodIn wsL_law wsX6_keep := goodIn_ca (goodIn_r _ [209, 16, 210, 178, 179, 180, 15, 181, 148, 137, 2, 138, 139, 140, 141, 142, 143, 692, 693, 694, 695, 696, 697, 698, 699, 700, 731, 732, 733, 734, 735, 736, 737] (by decide +kernel) (by decide +kernel)) (goodIn_sub (fun _ h => List.mem_append_left _ (List.mem_append_left _ (List.mem_append_left _ (List.mem_append_left _ (List.mem_append_left _ (List.mem_append_left _ (List.mem_append_right _ h))))))) (by decide +kernel))
set_option maxRecDepth 20000 in
theorem gL_law_X6_keep : GoodIn wsL_law (wsV RL 80 RX6 yX6_keep wsX6_keep) := goodIn_app (goodIn_of _ (by decide +kernel)) ggL_law_X6_keep
set_option maxRecDepth 20000 in
theorem ggL_law_X7_keep : GoodIn wsL_law wsX7_keep := goodIn_ca (goodIn_r _ [214, 157, 101, 159, 186, 187, 188, 5, 189, 158, 701, 702, 703, 704, 705, 706, 707, 708, 709, 710, 711, 712, 713, 714, 715, 716, 717, 718, 719, 720, 721, 722, 723, 724, 725, 726, 727, 728, 729, 730] (by decide +kernel) (by decide +kernel)) (goodIn_sub (fun _ h => List.mem_append_left _ (List.mem_append_left _ (List.mem_append_left _ (List.mem_append_left _ (List.mem_append_left _ (List.mem_append_left _ (List.mem_append_right _ h))))))) (by decide +kernel))
set_option maxRecDepth 20000 in
theorem gL_law_X7_keep : GoodIn wsL_law (wsV RL 84 RX7 yX7_keep wsX7_keep) := goodIn_app (goodIn_of _ (by decide +kernel)) ggL_law_X7_keep
set_option maxRecDepth 20000 in
theorem ggL_law_X6_nodes : GoodIn wsL_law wsX6_nodes := goodIn_r _ [218, 16, 131, 692, 693, 694, 695, 696, 697, 698, 699, 700, 731, 732, 733, 734, 735, 736, 737] (by decide +kernel) (by decide +kernel)
set_option maxRecDepth 20000 in
theorem gL_law_X6_nodes : GoodIn wsL_law (wsV RL 85 RX6 yX6_nodes wsX6_nodes) := goodIn_app (goodIn_of _ (by decide +kernel)) ggL_law_X6_nodes
set_option maxRecDepth 20000 in
theorem ggL_law_X7_nodes : GoodIn wsL_law wsX7_nodes := goodIn_r _ [222, 157, 158, 701, 702, 703, 704, 705, 706, 707, 708, 709, 710, 711, 712, 713, 714, 715, 716, 717, 718, 719, 720, 721, 722, 723, 724, 725, 726, 727, 728, 729, 730] (by decide +kernel) (by decide +kernel)
set_option maxRecDepth 20000 in
theorem gL_law_X7_nodes : GoodIn wsL_law (wsV RL 88 RX7 yX7_nodes wsX7_nodes) := goodIn_app (goodIn_of _ (by decide +kernel)) ggL_law_X7_nodes
set_option maxRecDepth 20000 in
theorem ggL_law_L_ring : GoodIn wsL_law wsL_ring := goodIn_ca (goodIn_ca (goodIn_r _ [225, 226, 227, 228, 229, 2, 230, 231, 232, 20, 233, 234, 235, 236, 237, 19, 238, 239, 56, 240, 53, 241, 242, 243, 244, 245, 246, 247, 15, 248, 46, 249, 250, 251, 252, 253, 254, 255, 256, 54, 257, 258, 259, 260, 261, 150, 151, 152, 262, 263, 264, 265, 266, 267, 268, 269, 270, 55, 136, 137, 138, 692, 693, 694, 695, 696, 697, 698, 699, 700, 738, 739, 740, 741, 742, 731, 732, 733, 734, 735, 736, 737] (by decide +kernel) (by decide +kernel)) (goodIn_sub (fun _ h => List.mem_append_left _ (List.mem_append_left _ (List.mem_append_left _ (List.mem_append_left _ (List.mem_append_left _ (List.mem_append_left _ (List.mem_append_right _ h))))))) (by decide +kernel))) (goodIn_sub (fun _ h => List.mem_append_left _ (List.mem_append_left _ (List.mem_append_left _ (List.mem_append_right _ h)))) (by decide +kernel))
set_option maxRecDepth 20000 in
theorem gL_law_L_ring : GoodIn wsL_law (va_wsS RL 89 yL_ring wsL_ring) := goodIn_app (goodIn_of _ (by decide +kernel)) ggL_law_L_ring
set_option maxRecDepth 20000 in
theorem ggL_law_X7_ring : GoodIn wsL_law wsX7_ring := goodIn_ca (goodIn_r _ [274, 157, 275, 104, 276, 277, 278, 5, 279, 158, 280, 281, 282, 283, 103, 100, 284, 285, 286, 287, 288, 289, 290, 291, 163, 164, 165, 166, 701, 702, 703, 704, 705, 706, 707, 708, 709, 710, 711, 712, 713, 714, 715, 716, 717, 718, 719, 720, 721, 722, 723, 724, 725, 726, 727, 728, 729, 730] (by decide +kernel) (by decide +kernel)) (goodIn_sub (fun _ h => List.mem_append_left _ (List.mem_append_left _ (List.mem_append_left _ (List.mem_append_left _ (List.mem_append_left _ (List.mem_append_left _ (List.mem_append_right _ h))))))) (by decide +kernel))
set_option maxRecDepth 20000 in
theorem gL_law_X7_ring : GoodIn wsL_law (wsV RL 92 RX7 yX7_ring wsX7_ring) := goodIn_app (goodIn_of _ (by decide +kernel)) ggL_law_X7_ring
set_option maxRecDepth 20000 in
theorem ggL_law_L_plan : GoodIn wsL_law wsL_plan := goodIn_ca (goodIn_ca (goodIn_ca (goodIn_ca (goodIn_ca (goodIn_r _ [294, 121, 226, 295, 296, 297, 298, 299, 2, 300, 127, 128, 231, 232, 301, 302, 303, 304, 16, 131, 20, 233, 24, 28, 143, 305, 306, 307, 308, 309, 310, 15, 311, 148, 46, 312, 196, 197, 198, 41, 235, 236, 237, 19, 238, 239, 56, 240, 53, 241, 242, 243, 244, 245, 246, 247, 248, 249, 250, 251, 252, 253, 254, 255, 256, 54, 257, 258, 259, 260, 261, 150, 151, 152, 262, 263, 264, 265, 266, 267, 268, 269, 270, 55, 313, 314, 315, 23, 316, 317, 65, 63, 64, 318, 319, 320, 321, 62, 69, 322, 61, 323, 324, 325, 326, 327, 328, 329, 330, 331, 332, 66, 333, 334, 335, 336, 337, 338, 339, 340, 341, 342, 343, 344, 345, 346, 347, 348, 349, 350, 351, 352, 353, 354, 355, 356, 357, 358, 359, 360, 361, 362, 363, 364, 365, 366, 367, 368, 369, 370, 371, 372, 373, 374, 375, 376, 377, 378, 379, 380, 67, 381, 382, 383, 384, 385, 386, 387, 388, 389, 390, 391, 392, 393, 394, 395, 396, 397, 398, 399, 400, 401, 402, 403, 404, 405, 406, 68, 407, 408, 409, 27, 410, 411, 76, 412, 74, 75, 413, 414, 415, 416, 417, 418, 419, 420, 421, 422, 423, 424, 425, 426, 427, 428, 429, 430, 431, 432, 433, 434, 435, 692, 693, 694, 695, 696, 697, 698, 699, 700, 731, 732, 733, 734, 735, 736, 737, 738, 739, 740, 741, 742, 755, 756, 757, 758, 743, 744, 745, 746, 747, 748, 749, 750, 751, 752, 753, 754] (by decide +kernel) (by decide +kernel)) (goodIn_sub (fun _ h => List.mem_append_left _ (List.mem_append_left _ (List.mem_append_left _ (List.mem_append_left _ (List.mem_append_left _ (List.mem_append_left _ (List.mem_append_right _ h))))))) (by decide +kernel))) (goodIn_sub (fun _ h => List.mem_append_left _ (List.mem_append_left _ (List.mem_append_left _ (List.mem_append_left _ (List.mem_append_left _ (List.mem_append_right _ h)))))) (by decide +kernel))) (goodIn_sub (fun _ h => List.mem_append_left _ (List.mem_append_left _ (List.mem_append_left _ (List.mem_append_right _ h)))) (by decide +kernel))) (goodIn_sub (fun _ h => List.mem_append_left _ (List.mem_append_left _ (List.mem_append_right _ h))) (by decide +kernel))) (goodIn_sub (fun _ h => List.mem_append_left _ (List.mem_append_right _ h)) (by decide +kernel))
set_option maxRecDepth 20000 in
theorem gL_law_L_plan : GoodIn wsL_law (va_wsS RL 93 yL_plan wsL_plan) := goodIn_app (goodIn_of _ (by decide +kernel)) ggL_law_L_plan
set_option maxRecDepth 20000 in
theorem ggL_law_X7_plan : GoodIn wsL_law wsX7_plan := goodIn_ca (goodIn_r _ [439, 157, 275, 440, 441, 158, 105, 111, 108, 107, 159, 442, 443, 444, 163, 164, 165, 5, 166, 445, 446, 447, 448, 97, 100, 203, 204, 205, 276, 277, 278, 279, 104, 280, 281, 282, 283, 103, 284, 285, 286, 287, 288, 289, 290, 291, 449, 450, 451, 452, 112, 453, 454, 455, 456, 457, 458, 459, 460, 98, 99, 461, 462, 463, 464, 465, 466, 467, 468, 469, 470, 471, 472, 473, 474, 475, 476, 477, 478, 479, 480, 106, 481, 482, 483, 484, 485, 486, 487, 488, 489, 490, 491, 492, 113, 493, 494, 495, 496, 497, 498, 499, 500, 501, 109, 101, 502, 503, 504, 505, 110, 506, 507, 508, 509, 701, 702, 703, 704, 705, 706, 707, 708, 709, 710, 711, 712, 713, 714, 715, 716, 717, 718, 719, 720, 721, 722, 723, 724, 725, 726, 727, 728, 729, 730] (by decide +kernel) (by decide +kernel)) (goodIn_sub (fun _ h => List.mem_append_left _ (List.mem_append_left _ (List.mem_append_left _ (List.mem_append_left _ (List.mem_append_left _ (List.mem_append_left _ (List.mem_append_right _ h))))))) (by decide +kernel))
set_option maxRecDepth 20000 in
theorem gL_law_X7_plan : GoodIn wsL_law (wsV RL 95 RX7 yX7_plan wsX7_plan) := goodIn_app (goodIn_of _ (by decide +kernel)) ggL_law_X7_plan
set_option maxRecDepth 20000 in
theorem ggL_law_L_order : GoodIn wsL_law wsL_order := goodIn_ca (goodIn_ca (goodIn_ca (goodIn_r _ [512, 295, 513, 514, 515, 516, 2, 517, 16, 131, 24, 518, 519, 520, 521, 522, 301, 302, 143, 523, 524, 525, 526, 527, 136, 137, 138, 692, 693, 694, 695, 696, 697, 698, 699, 700, 731, 732, 733, 734, 735, 736, 737, 743, 744, 745, 746, 747, 748, 749, 750, 751, 752, 753, 754] (by decide +kernel) (by decide +kernel)) (goodIn_sub (fun _ h => List.mem_append_left _ (List.mem_append_left _ (List.mem_append_left _ (List.mem_append_left _ (List.mem_append_left _ (List.mem_append_left _ (List.mem_append_right _ h))))))) (by decide +kernel))) (goodIn_sub (fun _ h => List.mem_append_left _ (List.mem_append_left _ (List.mem_append_right _ h))) (by decide +kernel))) (goodIn_sub (fun _ h => List.mem_append_right _ h) (by decide +kernel))
set_option maxRecDepth 20000 in
theorem gL_law_L_order : GoodIn wsL_law (va_wsS RL 96 yL_order wsL_order) := goodIn_app (goodIn_of _ (by decide +kernel)) ggL_law_L_order
set_option maxRecDepth 20000 in
theorem ggL_law_X7_order : GoodIn wsL_law wsX7_order := goodIn_ca (goodIn_r _ [531, 159, 158, 157, 107, 701, 702, 703, 704, 705, 706, 707, 708, 709, 710, 711, 712, 713, 714, 715, 716, 717, 718, 719, 720, 721, 722, 723, 724, 725, 726, 727, 728, 729, 730] (by decide +kernel) (by decide +kernel)) (goodIn_sub (fun _ h => List.mem_append_left _ (List.mem_append_left _ (List.mem_append_left _ (List.mem_append_left _ (List.mem_append_left _ (List.mem_append_left _ (List.mem_append_right _ h))))))) (by decide +kernel))
set_option maxRecDepth 20000 in
theorem gL_law_X7_order : GoodIn wsL_law (wsV RL 98 RX7 yX7_order wsX7_order) := goodIn_app (goodIn_of _ (by decide +kernel)) ggL_law_X7_order
set_option maxRecDepth 20000 in
theorem ggL_law_L_about : GoodIn wsL_law wsL_about := goodIn_ca (goodIn_ca (goodIn_ca (goodIn_r _ [534, 295, 513, 535, 536, 537, 2, 538, 16, 131, 24, 539, 540, 541, 28, 542, 543, 519, 520, 521, 522, 301, 302, 143, 523, 524, 525, 526, 527, 136, 137, 138, 692, 693, 694, 695, 696, 697, 698, 699, 700, 731, 732, 733, 734, 735, 736, 737, 743, 744, 745, 746, 747, 748, 749, 750, 751, 752, 753, 754, 755, 756, 757, 758] (by decide +kernel) (by decide +kernel)) (goodIn_sub (fun _ h => List.mem_append_left _ (List.mem_append_left _ (List.mem_append_left _ (List.mem_append_left _ (List.mem_append_left _ (List.mem_append_left _ (List.mem_append_right _ h))))))) (by decide +kernel))) (goodIn_sub (fun _ h => List.mem_append_left _ (List.mem_append_left _ (List.mem_append_right _ h))) (by decide +kernel))) (goodIn_sub (fun _ h => List.mem_append_right _ h) (by decide +kernel))
set_option maxRecDepth 20000 in
theorem gL_law_L_about : GoodIn wsL_law (va_wsS RL 99 yL_about wsL_about) := goodIn_app (goodIn_of _ (by decide +kernel)) ggL_law_L_about
set_option maxRecDepth 20000 in
theorem ggL_law_X7_about : GoodIn wsL_law wsX7_about := goodIn_ca (goodIn_r _ [547, 159, 157, 105, 108, 109, 110, 106, 186, 187, 188, 5, 189, 158, 701, 702, 703, 704, 705, 706, 707, 708, 709, 710, 711, 712, 713, 714, 715, 716, 717, 718, 719, 720, 721, 722, 723, 724, 725, 726, 727, 728, 729, 730] (by decide +kernel) (by decide +kernel)) (goodIn_sub (fun _ h => List.mem_append_left _ (List.mem_append_left _ (List.mem_append_left _ (List.mem_append_left _ (List.mem_append_left _ (List.mem_append_left _ (List.mem_append_right _ h))))))) (by decide +kernel))
set_option maxRecDepth 20000 in
theorem gL_law_X7_about : GoodIn wsL_law (wsV RL 102 RX7 yX7_about wsX7_about) := goodIn_app (goodIn_of _ (by decide +kernel)) ggL_law_X7_about
set_option maxRecDepth 20000 in
theorem ggL_law_L_cost : GoodIn wsL_law wsL_cost := goodIn_ca (goodIn_ca (goodIn_ca (goodIn_r _ [550, 295, 513, 551, 552, 553, 2, 554, 16, 131, 24, 555, 519, 520, 521, 522, 301, 302, 143, 523, 524, 525, 526, 527, 136, 137, 138, 692, 693, 694, 695, 696, 697, 698, 699, 700, 731, 732, 733, 734, 735, 736, 737, 743, 744, 745, 746, 747, 748, 749, 750, 751, 752, 753, 754] (by decide +kernel) (by decide +kernel)) (goodIn_sub (fun _ h => List.mem_append_left _ (List.mem_append_left _ (List.mem_append_left _ (List.mem_append_left _ (List.mem_append_left _ (List.mem_append_left _ (List.mem_append_right _ h))))))) (by decide +kernel))) (goodIn_sub (fun _ h => List.mem_append_left _ (List.mem_append_left _ (List.mem_append_right _ h))) (by decide +kernel))) (goodIn_sub (fun _ h => List.mem_append_right _ h) (by decide +kernel))
set_option maxRecDepth 20000 in
theorem gL_law_L_cost : GoodIn wsL_law (va_wsS RL 103 yL_cost wsL_cost) := goodIn_app (goodIn_of _ (by decide +kernel)) ggL_law_L_cost
set_option maxRecDepth 20000 in
theorem ggL_law_X7_cost : GoodIn wsL_law wsX7_cost := goodIn_ca (goodIn_r _ [559, 159, 158, 157, 560, 561, 562, 5, 563, 108, 109, 105, 701, 702, 703, 704, 705, 706, 707, 708, 709, 710, 711, 712, 713, 714, 715, 716, 717, 718, 719, 720, 721, 722, 723, 724, 725, 726, 727, 728, 729, 730] (by decide +kernel) (by decide +kernel)) (goodIn_sub (fun _ h => List.mem_append_left _ (List.mem_append_left _ (List.mem_append_left _ (List.mem_append_left _ (List.mem_append_left _ (List.mem_append_left _ (List.mem_append_right _ h))))))) (by decide +kernel))
set_option maxRecDepth 20000 in
theorem gL_law_X7_cost : GoodIn wsL_law (wsV RL 105 RX7 yX7_cost wsX7_cost) := goodIn_app (goodIn_of _ (by decide +kernel)) ggL_law_X7_cost
set_option maxRecDepth 20000 in
theorem ggL_law_L_peak : GoodIn wsL_law wsL_peak := goodIn_ca (goodIn_ca (goodIn_r _ [566, 295, 567, 568, 569, 2, 570, 24, 571, 519, 520, 521, 522, 301, 302, 143, 692, 693, 694, 695, 696, 697, 698, 699, 700, 743, 744, 745, 746, 747, 748, 749, 750, 751, 752, 753, 754] (by decide +kernel) (by decide +kernel)) (goodIn_sub (fun _ h => List.mem_append_left _ (List.mem_append_left _ (List.mem_append_left _ (List.mem_append_left _ (List.mem_append_left _ (List.mem_append_left _ (List.mem_append_right _ h))))))) (by decide +kernel))) (goodIn_sub (fun _ h => List.mem_append_left _ (List.mem_append_left _ (List.mem_append_right _ h))) (by decide +kernel))
set_option maxRecDepth 20000 in
theorem gL_law_L_peak : GoodIn wsL_law (va_wsS RL 106 yL_peak wsL_peak) := goodIn_app (goodIn_of _ (by decide +kernel)) ggL_law_L_peak
set_option maxRecDepth 20000 in
theorem ggL_law_X7_peak : GoodIn wsL_law wsX7_peak := goodIn_ca (goodIn_r _ [575, 159, 157, 158, 560, 561, 562, 5, 563, 108, 109, 105, 701, 702, 703, 704, 705, 706, 707, 708, 709, 710, 711, 712, 713, 714, 715, 716, 717, 718, 719, 720, 721, 722, 723, 724, 725, 726, 727, 728, 729, 730] (by decide +kernel) (by decide +kernel)) (goodIn_sub (fun _ h => List.mem_append_left _ (List.mem_append_left _ (List.mem_append_left _ (List.mem_append_left _ (List.mem_append_left _ (List.mem_append_left _ (List.mem_append_right _ h))))))) (by decide +kernel))
set_option maxRecDepth 20000 in
theorem gL_law_X7_peak : GoodIn wsL_law (wsV RL 109 RX7 yX7_peak wsX7_peak) := goodIn_app (goodIn_of _ (by decide +kernel)) ggL_law_X7_peak
set_option maxRecDepth 20000 in
theorem ggL_law_L_least : GoodIn wsL_law wsL_least := goodIn_ca (goodIn_ca (goodIn_r _ [578, 295, 579, 580, 581, 2, 582, 306, 36, 519, 520, 521, 522, 301, 302, 143, 583, 584, 585, 35, 586, 92, 587, 91, 588, 589, 150, 151, 152, 590, 591, 592, 593, 594, 595, 596, 373, 259, 374, 597, 258, 260, 598, 599, 600, 601, 602, 603, 604, 346, 347, 251, 252, 249, 250, 692, 693, 694, 695, 696, 697, 698, 699, 700, 763, 764, 743, 744, 745, 746, 747, 748, 749, 750, 751, 752, 753, 754, 731, 732, 733, 734, 735, 736, 737] (by decide +kernel) (by decide +kernel)) (goodIn_sub (fun _ h => List.mem_append_left _ (List.mem_append_left _ (List.mem_append_left _ (List.mem_append_left _ (List.mem_append_left _ (List.mem_append_left _ (List.mem_append_right _ h))))))) (by decide +kernel))) (goodIn_sub (fun _ h => List.mem_append_left _ (List.mem_append_left _ (List.mem_append_right _ h))) (by decide +kernel))
set_option maxRecDepth 20000 in
theorem gL_law_L_least : GoodIn wsL_law (va_wsS RL 110 yL_least wsL_least) := goodIn_app (goodIn_of _ (by decide +kernel)) ggL_law_L_least
set_option maxRecDepth 20000 in
theorem ggL_law_X7_least : GoodIn wsL_law wsX7_least := goodIn_ca (goodIn_r _ [608, 159, 157, 443, 609, 610, 611, 5, 612, 158, 114, 105, 613, 614, 615, 616, 101, 617, 618, 619, 620, 100, 621, 622, 623, 624, 97, 203, 204, 205, 701, 702, 703, 704, 705, 706, 707, 708, 709, 710, 711, 712, 713, 714, 715, 716, 717, 718, 719, 720, 721, 722, 723, 724, 725, 726, 727, 728, 729, 730] (by decide +kernel) (by decide +kernel)) (goodIn_sub (fun _ h => List.mem_append_left _ (List.mem_append_left _ (List.mem_append_left _ (List.mem_append_left _ (List.mem_append_left _ (List.mem_append_left _ (List.mem_append_right _ h))))))) (by decide +kernel))
set_option maxRecDepth 20000 in
theorem gL_law_X7_least : GoodIn wsL_law (wsV RL 112 RX7 yX7_least wsX7_least) := goodIn_app (goodIn_of _ (by decide +kernel)) ggL_law_X7_least
set_option maxRecDepth 20000 in
theorem ggL_law_L_run : GoodIn wsL_law wsL_run := goodIn_ca (goodIn_ca (goodIn_r _ [627, 295, 628, 629, 630, 2, 631, 305, 32, 519, 520, 521, 522, 301, 302, 143, 632, 633, 634, 31, 635, 81, 84, 636, 637, 638, 82, 639, 640, 150, 151, 152, 641, 642, 643, 644, 86, 645, 646, 647, 648, 649, 650, 651, 652, 653, 654, 655, 656, 692, 693, 694, 695, 696, 697, 698, 699, 700, 759, 760, 761, 762, 743, 744, 745, 746, 747, 748, 749, 750, 751, 752, 753, 754, 755, 756, 757, 758, 731, 732, 733, 734, 735, 736, 737] (by decide +kernel) (by decide +kernel)) (goodIn_sub (fun _ h => List.mem_append_left _ (List.mem_append_left _ (List.mem_append_left _ (List.mem_append_left _ (List.mem_append_left _ (List.mem_append_left _ (List.mem_append_right _ h))))))) (by decide +kernel))) (goodIn_sub (fun _ h => List.mem_append_left _ (List.mem_append_left _ (List.mem_append_right _ h))) (by decide +kernel))
set_option maxRecDepth 20000 in
theorem gL_law_L_run : GoodIn wsL_law (va_wsS RL 113 yL_run wsL_run) := goodIn_app (goodIn_of _ (by decide +kernel)) ggL_law_L_run
set_option maxRecDepth 20000 in
theorem ggL_law_X7_run : GoodIn wsL_law wsX7_run := goodIn_ca (goodIn_r _ [660, 159, 157, 115, 158, 107, 105, 110, 116, 442, 661, 662, 663, 5, 664, 97, 100, 102, 98, 203, 204, 205, 701, 702, 703, 704, 705, 706, 707, 708, 709, 710, 711, 712, 713, 714, 715, 716, 717, 718, 719, 720, 721, 722, 723, 724, 725, 726, 727, 728, 729, 730] (by decide +kernel) (by decide +kernel)) (goodIn_sub (fun _ h => List.mem_append_left _ (List.mem_append_left _ (List.mem_append_left _ (List.mem_append_left _ (List.mem_append_left _ (List.mem_append_left _ (List.mem_append_right _ h))))))) (by decide +kernel))
set_option maxRecDepth 20000 in
theorem gL_law_X7_run : GoodIn wsL_law (wsV RL 115 RX7 yX7_run wsX7_run) := goodIn_app (goodIn_of _ (by decide +kernel)) ggL_law_X7_run
set_option maxRecDepth 20000 in
theorem ggL_law_L_cell : GoodIn wsL_law wsL_cell := goodIn_ca (goodIn_ca (goodIn_ca (goodIn_r _ [667, 295, 513, 668, 669, 670, 2, 671, 28, 307, 32, 672, 673, 674, 675, 676, 301, 302, 305, 519, 520, 521, 522, 143, 523, 524, 525, 526, 527, 136, 137, 138, 692, 693, 694, 695, 696, 697, 698, 699, 700, 755, 756, 757, 758, 759, 760, 761, 762] (by decide +kernel) (by decide +kernel)) (goodIn_sub (fun _ h => List.mem_append_left _ (List.mem_append_left _ (List.mem_append_left _ (List.mem_append_left _ (List.mem_append_left _ (List.mem_append_left _ (List.mem_append_right _ h))))))) (by decide +kernel))) (goodIn_sub (fun _ h => List.mem_append_left _ (List.mem_append_left _ (List.mem_append_right _ h))) (by decide +kernel))) (goodIn_sub (fun _ h => List.mem_append_right _ h) (by decide +kernel))
set_option maxRecDepth 20000 in
theorem gL_law_L_cell : GoodIn wsL_law (va_wsS RL 116 yL_cell wsL_cell) := goodIn_app (goodIn_of _ (by decide +kernel)) ggL_law_L_cell
set_option maxRecDepth 20000 in
theorem ggL_law_X7_cell : GoodIn wsL_law wsX7_cell := goodIn_ca (goodIn_r _ [680, 159, 442, 444, 157, 115, 701, 702, 703, 704, 705, 706, 707, 708, 709, 710, 711, 712, 713, 714, 715, 716, 717, 718, 719, 720, 721, 722, 723, 724, 725, 726, 727, 728, 729, 730] (by decide +kernel) (by decide +kernel)) (goodIn_sub (fun _ h => List.mem_append_left _ (List.mem_append_left _ (List.mem_append_left _ (List.mem_append_left _ (List.mem_append_left _ (List.mem_append_left _ (List.mem_append_right _ h))))))) (by decide +kernel))
set_option maxRecDepth 20000 in
theorem gL_law_X7_cell : GoodIn wsL_law (wsV RL 118 RX7 yX7_cell wsX7_cell) := goodIn_app (goodIn_of _ (by decide +kernel)) ggL_law_X7_cell
set_option maxRecDepth 20000 in
theorem ggL_law_L_result : GoodIn wsL_law wsL_result := goodIn_ca (goodIn_ca (goodIn_ca (goodIn_ca (goodIn_r _ [683, 295, 226, 513, 684, 685, 686, 2, 687, 231, 232, 16, 210, 24, 539, 32, 672, 28, 542, 673, 674, 675, 676, 301, 302, 305, 519, 520, 521, 522, 143, 178, 179, 180, 15, 181, 148, 137, 138, 523, 524, 525, 526, 527, 136, 692, 693, 694, 695, 696, 697, 698, 699, 700, 731, 732, 733, 734, 735, 736, 737, 743, 744, 745, 746, 747, 748, 749, 750, 751, 752, 753, 754, 759, 760, 761, 762, 755, 756, 757, 758] (by decide +kernel) (by decide +kernel)) (goodIn_sub (fun _ h => List.mem_append_left _ (List.mem_append_left _ (List.mem_append_left _ (List.mem_append_left _ (List.mem_append_left _ (List.mem_append_left _ (List.mem_append_right _ h))))))) (by decide +kernel))) (goodIn_sub (fun _ h => List.mem_append_left _ (List.mem_append_left _ (List.mem_append_left _ (List.mem_append_right _ h)))) (by decide +kernel))) (goodIn_sub (fun _ h => List.mem_append_left _ (List.mem_append_left _ (List.mem_append_right _ h))) (by decide +kernel))) (goodIn_sub (fun _ h => List.mem_append_right _ h) (by decide +kernel))
set_option maxRecDepth 20000 in
theorem gL_law_L_result : GoodIn wsL_law (va_wsS RL 119 yL_result wsL_result) := goodIn_app (goodIn_of _ (by decide +kernel)) ggL_law_L_result
set_option maxRecDepth 20000 in
theorem ggL_law_X7_result : GoodIn wsL_law wsX7_result := goodIn_ca (goodIn_r _ [691, 159, 442, 101, 105, 157, 116, 186, 187, 188, 5, 189, 158, 701, 702, 703, 704, 705, 706, 707, 708, 709, 710, 711, 712, 713, 714, 715, 716, 717, 718, 719, 720, 721, 722, 723, 724, 725, 726, 727, 728, 729, 730] (by decide +kernel) (by decide +kernel)) (goodIn_sub (fun _ h => List.mem_append_left _ (List.mem_append_left _ (List.mem_append_left _ (List.mem_append_left _ (List.mem_append_left _ (List.mem_append_left _ (List.mem_append_right _ h))))))) (by decide +kernel))
set_option maxRecDepth 20000 in
theorem gL_law_X7_result : GoodIn wsL_law (wsV RL 121 RX7 yX7_result wsX7_result) := goodIn_app (goodIn_of _ (by decide +kernel)) ggL_law_X7_result
theorem dL_law_0 : decode cL_law 0 = .ok (.new 8, 3) := by decide +kernel
theorem dL_law_3 : decode cL_law 3 = .ok (.dup, 1) := by decide +kernel
theorem dL_law_4 : decode cL_law 4 = .ok (.invokespecial 58, 3) := by decide +kernel
theorem dL_law_7 : decode cL_law 7 = .ok (.astore_n 1, 1) := by decide +kernel
theorem dL_law_8 : decode cL_law 8 = .ok (.new 59, 3) := by decide +kernel
theorem dL_law_11 : decode cL_law 11 = .ok (.dup, 1) := by decide +kernel
theorem dL_law_12 : decode cL_law 12 = .ok (.invokespecial 61, 3) := by decide +kernel
theorem dL_law_15 : decode cL_law 15 = .ok (.astore_n 2, 1) := by decide +kernel
theorem dL_law_16 : decode cL_law 16 = .ok (.iconst 1, 1) := by decide +kernel
theorem dL_law_17 : decode cL_law 17 = .ok (.newarray .long, 2) := by decide +kernel
theorem dL_law_19 : decode cL_law 19 = .ok (.astore_n 3, 1) := by decide +kernel
theorem dL_law_20 : decode cL_law 20 = .ok (.iconst 0, 1) := by decide +kernel
theorem dL_law_21 : decode cL_law 21 = .ok (.istore 4, 2) := by decide +kernel
theorem dL_law_23 : decode cL_law 23 = .ok (.iload 4, 2) := by decide +kernel
theorem dL_law_25 : decode cL_law 25 = .ok (.aload_n 0, 1) := by decide +kernel
theorem dL_law_26 : decode cL_law 26 = .ok (.arraylength, 1) := by decide +kernel
theorem dL_law_27 : decode cL_law 27 = .ok (.iconst 4, 1) := by decide +kernel
theorem dL_law_28 : decode cL_law 28 = .ok (.isub, 1) := by decide +kernel
theorem dL_law_29 : decode cL_law 29 = .ok (.if_icmp .gt 881, 3) := by decide +kernel
theorem dL_law_32 : decode cL_law 32 = .ok (.aload_n 0, 1) := by decide +kernel
theorem dL_law_33 : decode cL_law 33 = .ok (.iload 4, 2) := by decide +kernel
theorem dL_law_35 : decode cL_law 35 = .ok (.iaload, 1) := by decide +kernel
theorem dL_law_36 : decode cL_law 36 = .ok (.bipush 15, 2) := by decide +kernel
theorem dL_law_38 : decode cL_law 38 = .ok (.iand, 1) := by decide +kernel
theorem dL_law_39 : decode cL_law 39 = .ok (.tableswitch 865 0 14 #[73, 153, 202, 251, 304, 317, 373, 429, 485, 553, 609, 653, 697, 741, 797], 73) := by decide +kernel
theorem dL_law_112 : decode cL_law 112 = .ok (.aload_n 1, 1) := by decide +kernel
theorem dL_law_113 : decode cL_law 113 = .ok (.aload_n 0, 1) := by decide +kernel
theorem dL_law_114 : decode cL_law 114 = .ok (.iload 4, 2) := by decide +kernel
theorem dL_law_116 : decode cL_law 116 = .ok (.iconst 1, 1) := by decide +kernel
theorem dL_law_117 : decode cL_law 117 = .ok (.iadd, 1) := by decide +kernel
theorem dL_law_118 : decode cL_law 118 = .ok (.iaload, 1) := by decide +kernel
theorem dL_law_119 : decode cL_law 119 = .ok (.aload_n 0, 1) := by decide +kernel
theorem dL_law_120 : decode cL_law 120 = .ok (.iload 4, 2) := by decide +kernel
theorem dL_law_122 : decode cL_law 122 = .ok (.iconst 2, 1) := by decide +kernel
theorem dL_law_123 : decode cL_law 123 = .ok (.iadd, 1) := by decide +kernel
theorem dL_law_124 : decode cL_law 124 = .ok (.iaload, 1) := by decide +kernel
theorem dL_law_125 : decode cL_law 125 = .ok (.aload_n 0, 1) := by decide +kernel
theorem dL_law_126 : decode cL_law 126 = .ok (.iload 4, 2) := by decide +kernel
theorem dL_law_128 : decode cL_law 128 = .ok (.iconst 3, 1) := by decide +kernel
theorem dL_law_129 : decode cL_law 129 = .ok (.iadd, 1) := by decide +kernel
theorem dL_law_130 : decode cL_law 130 = .ok (.iaload, 1) := by decide +kernel
theorem dL_law_131 : decode cL_law 131 = .ok (.aload_n 3, 1) := by decide +kernel
theorem dL_law_132 : decode cL_law 132 = .ok (.invokestatic 62, 3) := by decide +kernel
theorem dL_law_135 : decode cL_law 135 = .ok (.istore 5, 2) := by decide +kernel
theorem dL_law_137 : decode cL_law 137 = .ok (.aload_n 2, 1) := by decide +kernel
theorem dL_law_138 : decode cL_law 138 = .ok (.aload_n 0, 1) := by decide +kernel
theorem dL_law_139 : decode cL_law 139 = .ok (.iload 4, 2) := by decide +kernel
theorem dL_law_141 : decode cL_law 141 = .ok (.iconst 1, 1) := by decide +kernel
theorem dL_law_142 : decode cL_law 142 = .ok (.iadd, 1) := by decide +kernel
theorem dL_law_143 : decode cL_law 143 = .ok (.iaload, 1) := by decide +kernel
theorem dL_law_144 : decode cL_law 144 = .ok (.aload_n 0, 1) := by decide +kernel
theorem dL_law_145 : decode cL_law 145 = .ok (.iload 4, 2) := by decide +kernel
theorem dL_law_147 : decode cL_law 147 = .ok (.iconst 2, 1) := by decide +kernel
theorem dL_law_148 : decode cL_law 148 = .ok (.iadd, 1) := by decide +kernel
theorem dL_law_149 : decode cL_law 149 = .ok (.iaload, 1) := by decide +kernel
theorem dL_law_150 : decode cL_law 150 = .ok (.aload_n 0, 1) := by decide +kernel
theorem dL_law_151 : decode cL_law 151 = .ok (.iload 4, 2) := by decide +kernel
theorem dL_law_153 : decode cL_law 153 = .ok (.iconst 3, 1) := by decide +kernel
theorem dL_law_154 : decode cL_law 154 = .ok (.iadd, 1) := by decide +kernel
theorem dL_law_155 : decode cL_law 155 = .ok (.iaload, 1) := by decide +kernel
theorem dL_law_156 : decode cL_law 156 = .ok (.invokevirtual 67, 3) := by decide +kernel
theorem dL_law_159 : decode cL_law 159 = .ok (.istore 6, 2) := by decide +kernel
theorem dL_law_161 : decode cL_law 161 = .ok (.aload_n 2, 1) := by decide +kernel
theorem dL_law_162 : decode cL_law 162 = .ok (.invokevirtual 68, 3) := by decide +kernel
theorem dL_law_165 : decode cL_law 165 = .ok (.iload 5, 2) := by decide +kernel
theorem dL_law_167 : decode cL_law 167 = .ok (.if_icmp .eq 5, 3) := by decide +kernel
theorem dL_law_170 : decode cL_law 170 = .ok (.iconst 0, 1) := by decide +kernel
theorem dL_law_171 : decode cL_law 171 = .ok (.ireturn, 1) := by decide +kernel
theorem dL_law_172 : decode cL_law 172 = .ok (.iload 5, 2) := by decide +kernel
theorem dL_law_174 : decode cL_law 174 = .ok (.ifCond .ne 15, 3) := by decide +kernel
theorem dL_law_177 : decode cL_law 177 = .ok (.aload_n 3, 1) := by decide +kernel
theorem dL_law_178 : decode cL_law 178 = .ok (.iconst 0, 1) := by decide +kernel
theorem dL_law_179 : decode cL_law 179 = .ok (.laload, 1) := by decide +kernel
theorem dL_law_180 : decode cL_law 180 = .ok (.iload 6, 2) := by decide +kernel
theorem dL_law_182 : decode cL_law 182 = .ok (.i2l, 1) := by decide +kernel
theorem dL_law_183 : decode cL_law 183 = .ok (.lcmp, 1) := by decide +kernel
theorem dL_law_184 : decode cL_law 184 = .ok (.ifCond .eq 5, 3) := by decide +kernel
theorem dL_law_187 : decode cL_law 187 = .ok (.iconst 0, 1) := by decide +kernel
theorem dL_law_188 : decode cL_law 188 = .ok (.ireturn, 1) := by decide +kernel
theorem dL_law_189 : decode cL_law 189 = .ok (.goto 715, 3) := by decide +kernel
theorem dL_law_192 : decode cL_law 192 = .ok (.aload_n 1, 1) := by decide +kernel
theorem dL_law_193 : decode cL_law 193 = .ok (.aload_n 0, 1) := by decide +kernel
theorem dL_law_194 : decode cL_law 194 = .ok (.iload 4, 2) := by decide +kernel
theorem dL_law_196 : decode cL_law 196 = .ok (.iconst 1, 1) := by decide +kernel
theorem dL_law_197 : decode cL_law 197 = .ok (.iadd, 1) := by decide +kernel
theorem dL_law_198 : decode cL_law 198 = .ok (.iaload, 1) := by decide +kernel
theorem dL_law_199 : decode cL_law 199 = .ok (.aload_n 0, 1) := by decide +kernel
theorem dL_law_200 : decode cL_law 200 = .ok (.iload 4, 2) := by decide +kernel
theorem dL_law_202 : decode cL_law 202 = .ok (.iconst 2, 1) := by decide +kernel
theorem dL_law_203 : decode cL_law 203 = .ok (.iadd, 1) := by decide +kernel
theorem dL_law_204 : decode cL_law 204 = .ok (.iaload, 1) := by decide +kernel
theorem dL_law_205 : decode cL_law 205 = .ok (.aload_n 0, 1) := by decide +kernel
theorem dL_law_206 : decode cL_law 206 = .ok (.iload 4, 2) := by decide +kernel
theorem dL_law_208 : decode cL_law 208 = .ok (.iconst 3, 1) := by decide +kernel
theorem dL_law_209 : decode cL_law 209 = .ok (.iadd, 1) := by decide +kernel
theorem dL_law_210 : decode cL_law 210 = .ok (.iaload, 1) := by decide +kernel
theorem dL_law_211 : decode cL_law 211 = .ok (.invokevirtual 71, 3) := by decide +kernel
theorem dL_law_214 : decode cL_law 214 = .ok (.aload_n 2, 1) := by decide +kernel
theorem dL_law_215 : decode cL_law 215 = .ok (.aload_n 0, 1) := by decide +kernel
theorem dL_law_216 : decode cL_law 216 = .ok (.iload 4, 2) := by decide +kernel
theorem dL_law_218 : decode cL_law 218 = .ok (.iconst 1, 1) := by decide +kernel
theorem dL_law_219 : decode cL_law 219 = .ok (.iadd, 1) := by decide +kernel
theorem dL_law_220 : decode cL_law 220 = .ok (.iaload, 1) := by decide +kernel
theorem dL_law_221 : decode cL_law 221 = .ok (.aload_n 0, 1) := by decide +kernel
theorem dL_law_222 : decode cL_law 222 = .ok (.iload 4, 2) := by decide +kernel
theorem dL_law_224 : decode cL_law 224 = .ok (.iconst 2, 1) := by decide +kernel
theorem dL_law_225 : decode cL_law 225 = .ok (.iadd, 1) := by decide +kernel
theorem dL_law_226 : decode cL_law 226 = .ok (.iaload, 1) := by decide +kernel
theorem dL_law_227 : decode cL_law 227 = .ok (.aload_n 0, 1) := by decide +kernel
theorem dL_law_228 : decode cL_law 228 = .ok (.iload 4, 2) := by decide +kernel
theorem dL_law_230 : decode cL_law 230 = .ok (.iconst 3, 1) := by decide +kernel
theorem dL_law_231 : decode cL_law 231 = .ok (.iadd, 1) := by decide +kernel
theorem dL_law_232 : decode cL_law 232 = .ok (.iaload, 1) := by decide +kernel
theorem dL_law_233 : decode cL_law 233 = .ok (.invokevirtual 75, 3) := by decide +kernel
theorem dL_law_236 : decode cL_law 236 = .ok (.if_icmp .eq 668, 3) := by decide +kernel
theorem dL_law_239 : decode cL_law 239 = .ok (.iconst 0, 1) := by decide +kernel
theorem dL_law_240 : decode cL_law 240 = .ok (.ireturn, 1) := by decide +kernel
theorem dL_law_241 : decode cL_law 241 = .ok (.aload_n 1, 1) := by decide +kernel
theorem dL_law_242 : decode cL_law 242 = .ok (.aload_n 0, 1) := by decide +kernel
theorem dL_law_243 : decode cL_law 243 = .ok (.iload 4, 2) := by decide +kernel
theorem dL_law_245 : decode cL_law 245 = .ok (.iconst 1, 1) := by decide +kernel
theorem dL_law_246 : decode cL_law 246 = .ok (.iadd, 1) := by decide +kernel
theorem dL_law_247 : decode cL_law 247 = .ok (.iaload, 1) := by decide +kernel
theorem dL_law_248 : decode cL_law 248 = .ok (.aload_n 0, 1) := by decide +kernel
theorem dL_law_249 : decode cL_law 249 = .ok (.iload 4, 2) := by decide +kernel
theorem dL_law_251 : decode cL_law 251 = .ok (.iconst 2, 1) := by decide +kernel
theorem dL_law_252 : decode cL_law 252 = .ok (.iadd, 1) := by decide +kernel
theorem dL_law_253 : decode cL_law 253 = .ok (.iaload, 1) := by decide +kernel
theorem dL_law_254 : decode cL_law 254 = .ok (.aload_n 0, 1) := by decide +kernel
theorem dL_law_255 : decode cL_law 255 = .ok (.iload 4, 2) := by decide +kernel
theorem dL_law_257 : decode cL_law 257 = .ok (.iconst 3, 1) := by decide +kernel
theorem dL_law_258 : decode cL_law 258 = .ok (.iadd, 1) := by decide +kernel
theorem dL_law_259 : decode cL_law 259 = .ok (.iaload, 1) := by decide +kernel
theorem dL_law_260 : decode cL_law 260 = .ok (.invokevirtual 76, 3) := by decide +kernel
theorem dL_law_263 : decode cL_law 263 = .ok (.aload_n 2, 1) := by decide +kernel
theorem dL_law_264 : decode cL_law 264 = .ok (.aload_n 0, 1) := by decide +kernel
theorem dL_law_265 : decode cL_law 265 = .ok (.iload 4, 2) := by decide +kernel
theorem dL_law_267 : decode cL_law 267 = .ok (.iconst 1, 1) := by decide +kernel
theorem dL_law_268 : decode cL_law 268 = .ok (.iadd, 1) := by decide +kernel
theorem dL_law_269 : decode cL_law 269 = .ok (.iaload, 1) := by decide +kernel
theorem dL_law_270 : decode cL_law 270 = .ok (.aload_n 0, 1) := by decide +kernel
theorem dL_law_271 : decode cL_law 271 = .ok (.iload 4, 2) := by decide +kernel
theorem dL_law_273 : decode cL_law 273 = .ok (.iconst 2, 1) := by decide +kernel
theorem dL_law_274 : decode cL_law 274 = .ok (.iadd, 1) := by decide +kernel
theorem dL_law_275 : decode cL_law 275 = .ok (.iaload, 1) := by decide +kernel
theorem dL_law_276 : decode cL_law 276 = .ok (.aload_n 0, 1) := by decide +kernel
theorem dL_law_277 : decode cL_law 277 = .ok (.iload 4, 2) := by decide +kernel
theorem dL_law_279 : decode cL_law 279 = .ok (.iconst 3, 1) := by decide +kernel
theorem dL_law_280 : decode cL_law 280 = .ok (.iadd, 1) := by decide +kernel
theorem dL_law_281 : decode cL_law 281 = .ok (.iaload, 1) := by decide +kernel
theorem dL_law_282 : decode cL_law 282 = .ok (.invokevirtual 79, 3) := by decide +kernel
theorem dL_law_285 : decode cL_law 285 = .ok (.if_icmp .eq 619, 3) := by decide +kernel
theorem dL_law_288 : decode cL_law 288 = .ok (.iconst 0, 1) := by decide +kernel
theorem dL_law_289 : decode cL_law 289 = .ok (.ireturn, 1) := by decide +kernel
theorem dL_law_290 : decode cL_law 290 = .ok (.aload_n 1, 1) := by decide +kernel
theorem dL_law_291 : decode cL_law 291 = .ok (.aload_n 0, 1) := by decide +kernel
theorem dL_law_292 : decode cL_law 292 = .ok (.iload 4, 2) := by decide +kernel
theorem dL_law_294 : decode cL_law 294 = .ok (.iconst 1, 1) := by decide +kernel
theorem dL_law_295 : decode cL_law 295 = .ok (.iadd, 1) := by decide +kernel
theorem dL_law_296 : decode cL_law 296 = .ok (.iaload, 1) := by decide +kernel
theorem dL_law_297 : decode cL_law 297 = .ok (.aload_n 0, 1) := by decide +kernel
theorem dL_law_298 : decode cL_law 298 = .ok (.iload 4, 2) := by decide +kernel
theorem dL_law_300 : decode cL_law 300 = .ok (.iconst 2, 1) := by decide +kernel
theorem dL_law_301 : decode cL_law 301 = .ok (.iadd, 1) := by decide +kernel
theorem dL_law_302 : decode cL_law 302 = .ok (.iaload, 1) := by decide +kernel
theorem dL_law_303 : decode cL_law 303 = .ok (.ifCond .eq 7, 3) := by decide +kernel
theorem dL_law_306 : decode cL_law 306 = .ok (.iconst 1, 1) := by decide +kernel
theorem dL_law_307 : decode cL_law 307 = .ok (.goto 4, 3) := by decide +kernel
theorem dL_law_310 : decode cL_law 310 = .ok (.iconst 0, 1) := by decide +kernel
theorem dL_law_311 : decode cL_law 311 = .ok (.invokevirtual 80, 3) := by decide +kernel
theorem dL_law_314 : decode cL_law 314 = .ok (.aload_n 2, 1) := by decide +kernel
theorem dL_law_315 : decode cL_law 315 = .ok (.aload_n 0, 1) := by decide +kernel
theorem dL_law_316 : decode cL_law 316 = .ok (.iload 4, 2) := by decide +kernel
theorem dL_law_318 : decode cL_law 318 = .ok (.iconst 1, 1) := by decide +kernel
theorem dL_law_319 : decode cL_law 319 = .ok (.iadd, 1) := by decide +kernel
theorem dL_law_320 : decode cL_law 320 = .ok (.iaload, 1) := by decide +kernel
theorem dL_law_321 : decode cL_law 321 = .ok (.aload_n 0, 1) := by decide +kernel
theorem dL_law_322 : decode cL_law 322 = .ok (.iload 4, 2) := by decide +kernel
theorem dL_law_324 : decode cL_law 324 = .ok (.iconst 2, 1) := by decide +kernel
theorem dL_law_325 : decode cL_law 325 = .ok (.iadd, 1) := by decide +kernel
theorem dL_law_326 : decode cL_law 326 = .ok (.iaload, 1) := by decide +kernel
theorem dL_law_327 : decode cL_law 327 = .ok (.ifCond .eq 7, 3) := by decide +kernel
theorem dL_law_330 : decode cL_law 330 = .ok (.iconst 1, 1) := by decide +kernel
theorem dL_law_331 : decode cL_law 331 = .ok (.goto 4, 3) := by decide +kernel
theorem dL_law_334 : decode cL_law 334 = .ok (.iconst 0, 1) := by decide +kernel
theorem dL_law_335 : decode cL_law 335 = .ok (.invokevirtual 84, 3) := by decide +kernel
theorem dL_law_338 : decode cL_law 338 = .ok (.if_icmp .eq 566, 3) := by decide +kernel
theorem dL_law_341 : decode cL_law 341 = .ok (.iconst 0, 1) := by decide +kernel
theorem dL_law_342 : decode cL_law 342 = .ok (.ireturn, 1) := by decide +kernel
theorem dL_law_343 : decode cL_law 343 = .ok (.aload_n 1, 1) := by decide +kernel
theorem dL_law_344 : decode cL_law 344 = .ok (.invokevirtual 85, 3) := by decide +kernel
theorem dL_law_347 : decode cL_law 347 = .ok (.aload_n 2, 1) := by decide +kernel
theorem dL_law_348 : decode cL_law 348 = .ok (.invokevirtual 88, 3) := by decide +kernel
theorem dL_law_351 : decode cL_law 351 = .ok (.if_icmp .eq 553, 3) := by decide +kernel
theorem dL_law_354 : decode cL_law 354 = .ok (.iconst 0, 1) := by decide +kernel
theorem dL_law_355 : decode cL_law 355 = .ok (.ireturn, 1) := by decide +kernel
theorem dL_law_356 : decode cL_law 356 = .ok (.aload_n 1, 1) := by decide +kernel
theorem dL_law_357 : decode cL_law 357 = .ok (.aload_n 0, 1) := by decide +kernel
theorem dL_law_358 : decode cL_law 358 = .ok (.iload 4, 2) := by decide +kernel
theorem dL_law_360 : decode cL_law 360 = .ok (.iconst 1, 1) := by decide +kernel
theorem dL_law_361 : decode cL_law 361 = .ok (.iadd, 1) := by decide +kernel
theorem dL_law_362 : decode cL_law 362 = .ok (.iaload, 1) := by decide +kernel
theorem dL_law_363 : decode cL_law 363 = .ok (.aload_n 3, 1) := by decide +kernel
theorem dL_law_364 : decode cL_law 364 = .ok (.invokestatic 89, 3) := by decide +kernel
theorem dL_law_367 : decode cL_law 367 = .ok (.istore 5, 2) := by decide +kernel
theorem dL_law_369 : decode cL_law 369 = .ok (.aload_n 2, 1) := by decide +kernel
theorem dL_law_370 : decode cL_law 370 = .ok (.aload_n 0, 1) := by decide +kernel
theorem dL_law_371 : decode cL_law 371 = .ok (.iload 4, 2) := by decide +kernel
theorem dL_law_373 : decode cL_law 373 = .ok (.iconst 1, 1) := by decide +kernel
theorem dL_law_374 : decode cL_law 374 = .ok (.iadd, 1) := by decide +kernel
theorem dL_law_375 : decode cL_law 375 = .ok (.iaload, 1) := by decide +kernel
theorem dL_law_376 : decode cL_law 376 = .ok (.invokevirtual 92, 3) := by decide +kernel
theorem dL_law_379 : decode cL_law 379 = .ok (.istore 6, 2) := by decide +kernel
theorem dL_law_381 : decode cL_law 381 = .ok (.aload_n 2, 1) := by decide +kernel
theorem dL_law_382 : decode cL_law 382 = .ok (.invokevirtual 68, 3) := by decide +kernel
theorem dL_law_385 : decode cL_law 385 = .ok (.iload 5, 2) := by decide +kernel
theorem dL_law_387 : decode cL_law 387 = .ok (.if_icmp .eq 5, 3) := by decide +kernel
theorem dL_law_390 : decode cL_law 390 = .ok (.iconst 0, 1) := by decide +kernel
theorem dL_law_391 : decode cL_law 391 = .ok (.ireturn, 1) := by decide +kernel
theorem dL_law_392 : decode cL_law 392 = .ok (.iload 5, 2) := by decide +kernel
theorem dL_law_394 : decode cL_law 394 = .ok (.ifCond .ne 15, 3) := by decide +kernel
theorem dL_law_397 : decode cL_law 397 = .ok (.aload_n 3, 1) := by decide +kernel
theorem dL_law_398 : decode cL_law 398 = .ok (.iconst 0, 1) := by decide +kernel
theorem dL_law_399 : decode cL_law 399 = .ok (.laload, 1) := by decide +kernel
theorem dL_law_400 : decode cL_law 400 = .ok (.iload 6, 2) := by decide +kernel
theorem dL_law_402 : decode cL_law 402 = .ok (.i2l, 1) := by decide +kernel
theorem dL_law_403 : decode cL_law 403 = .ok (.lcmp, 1) := by decide +kernel
theorem dL_law_404 : decode cL_law 404 = .ok (.ifCond .eq 5, 3) := by decide +kernel
theorem dL_law_407 : decode cL_law 407 = .ok (.iconst 0, 1) := by decide +kernel
theorem dL_law_408 : decode cL_law 408 = .ok (.ireturn, 1) := by decide +kernel
theorem dL_law_409 : decode cL_law 409 = .ok (.goto 495, 3) := by decide +kernel
theorem dL_law_412 : decode cL_law 412 = .ok (.aload_n 1, 1) := by decide +kernel
theorem dL_law_413 : decode cL_law 413 = .ok (.aload_n 0, 1) := by decide +kernel
theorem dL_law_414 : decode cL_law 414 = .ok (.iload 4, 2) := by decide +kernel
theorem dL_law_416 : decode cL_law 416 = .ok (.iconst 1, 1) := by decide +kernel
theorem dL_law_417 : decode cL_law 417 = .ok (.iadd, 1) := by decide +kernel
theorem dL_law_418 : decode cL_law 418 = .ok (.iaload, 1) := by decide +kernel
theorem dL_law_419 : decode cL_law 419 = .ok (.aload_n 3, 1) := by decide +kernel
theorem dL_law_420 : decode cL_law 420 = .ok (.invokestatic 93, 3) := by decide +kernel
theorem dL_law_423 : decode cL_law 423 = .ok (.istore 5, 2) := by decide +kernel
theorem dL_law_425 : decode cL_law 425 = .ok (.aload_n 2, 1) := by decide +kernel
theorem dL_law_426 : decode cL_law 426 = .ok (.aload_n 0, 1) := by decide +kernel
theorem dL_law_427 : decode cL_law 427 = .ok (.iload 4, 2) := by decide +kernel
theorem dL_law_429 : decode cL_law 429 = .ok (.iconst 1, 1) := by decide +kernel
theorem dL_law_430 : decode cL_law 430 = .ok (.iadd, 1) := by decide +kernel
theorem dL_law_431 : decode cL_law 431 = .ok (.iaload, 1) := by decide +kernel
theorem dL_law_432 : decode cL_law 432 = .ok (.invokevirtual 95, 3) := by decide +kernel
theorem dL_law_435 : decode cL_law 435 = .ok (.istore 6, 2) := by decide +kernel
theorem dL_law_437 : decode cL_law 437 = .ok (.aload_n 2, 1) := by decide +kernel
theorem dL_law_438 : decode cL_law 438 = .ok (.invokevirtual 68, 3) := by decide +kernel
theorem dL_law_441 : decode cL_law 441 = .ok (.iload 5, 2) := by decide +kernel
theorem dL_law_443 : decode cL_law 443 = .ok (.if_icmp .eq 5, 3) := by decide +kernel
theorem dL_law_446 : decode cL_law 446 = .ok (.iconst 0, 1) := by decide +kernel
theorem dL_law_447 : decode cL_law 447 = .ok (.ireturn, 1) := by decide +kernel
theorem dL_law_448 : decode cL_law 448 = .ok (.iload 5, 2) := by decide +kernel
theorem dL_law_450 : decode cL_law 450 = .ok (.ifCond .ne 15, 3) := by decide +kernel
theorem dL_law_453 : decode cL_law 453 = .ok (.aload_n 3, 1) := by decide +kernel
theorem dL_law_454 : decode cL_law 454 = .ok (.iconst 0, 1) := by decide +kernel
theorem dL_law_455 : decode cL_law 455 = .ok (.laload, 1) := by decide +kernel
theorem dL_law_456 : decode cL_law 456 = .ok (.iload 6, 2) := by decide +kernel
theorem dL_law_458 : decode cL_law 458 = .ok (.i2l, 1) := by decide +kernel
theorem dL_law_459 : decode cL_law 459 = .ok (.lcmp, 1) := by decide +kernel
theorem dL_law_460 : decode cL_law 460 = .ok (.ifCond .eq 5, 3) := by decide +kernel
theorem dL_law_463 : decode cL_law 463 = .ok (.iconst 0, 1) := by decide +kernel
theorem dL_law_464 : decode cL_law 464 = .ok (.ireturn, 1) := by decide +kernel
theorem dL_law_465 : decode cL_law 465 = .ok (.goto 439, 3) := by decide +kernel
theorem dL_law_468 : decode cL_law 468 = .ok (.aload_n 1, 1) := by decide +kernel
theorem dL_law_469 : decode cL_law 469 = .ok (.aload_n 0, 1) := by decide +kernel
theorem dL_law_470 : decode cL_law 470 = .ok (.iload 4, 2) := by decide +kernel
theorem dL_law_472 : decode cL_law 472 = .ok (.iconst 1, 1) := by decide +kernel
theorem dL_law_473 : decode cL_law 473 = .ok (.iadd, 1) := by decide +kernel
theorem dL_law_474 : decode cL_law 474 = .ok (.iaload, 1) := by decide +kernel
theorem dL_law_475 : decode cL_law 475 = .ok (.aload_n 3, 1) := by decide +kernel
theorem dL_law_476 : decode cL_law 476 = .ok (.invokestatic 96, 3) := by decide +kernel
theorem dL_law_479 : decode cL_law 479 = .ok (.istore 5, 2) := by decide +kernel
theorem dL_law_481 : decode cL_law 481 = .ok (.aload_n 2, 1) := by decide +kernel
theorem dL_law_482 : decode cL_law 482 = .ok (.aload_n 0, 1) := by decide +kernel
theorem dL_law_483 : decode cL_law 483 = .ok (.iload 4, 2) := by decide +kernel
theorem dL_law_485 : decode cL_law 485 = .ok (.iconst 1, 1) := by decide +kernel
theorem dL_law_486 : decode cL_law 486 = .ok (.iadd, 1) := by decide +kernel
theorem dL_law_487 : decode cL_law 487 = .ok (.iaload, 1) := by decide +kernel
theorem dL_law_488 : decode cL_law 488 = .ok (.invokevirtual 98, 3) := by decide +kernel
theorem dL_law_491 : decode cL_law 491 = .ok (.istore 6, 2) := by decide +kernel
theorem dL_law_493 : decode cL_law 493 = .ok (.aload_n 2, 1) := by decide +kernel
theorem dL_law_494 : decode cL_law 494 = .ok (.invokevirtual 68, 3) := by decide +kernel
theorem dL_law_497 : decode cL_law 497 = .ok (.iload 5, 2) := by decide +kernel
theorem dL_law_499 : decode cL_law 499 = .ok (.if_icmp .eq 5, 3) := by decide +kernel
theorem dL_law_502 : decode cL_law 502 = .ok (.iconst 0, 1) := by decide +kernel
theorem dL_law_503 : decode cL_law 503 = .ok (.ireturn, 1) := by decide +kernel
theorem dL_law_504 : decode cL_law 504 = .ok (.iload 5, 2) := by decide +kernel
theorem dL_law_506 : decode cL_law 506 = .ok (.ifCond .ne 15, 3) := by decide +kernel
theorem dL_law_509 : decode cL_law 509 = .ok (.aload_n 3, 1) := by decide +kernel
theorem dL_law_510 : decode cL_law 510 = .ok (.iconst 0, 1) := by decide +kernel
theorem dL_law_511 : decode cL_law 511 = .ok (.laload, 1) := by decide +kernel
theorem dL_law_512 : decode cL_law 512 = .ok (.iload 6, 2) := by decide +kernel
theorem dL_law_514 : decode cL_law 514 = .ok (.i2l, 1) := by decide +kernel
theorem dL_law_515 : decode cL_law 515 = .ok (.lcmp, 1) := by decide +kernel
theorem dL_law_516 : decode cL_law 516 = .ok (.ifCond .eq 5, 3) := by decide +kernel
theorem dL_law_519 : decode cL_law 519 = .ok (.iconst 0, 1) := by decide +kernel
theorem dL_law_520 : decode cL_law 520 = .ok (.ireturn, 1) := by decide +kernel
theorem dL_law_521 : decode cL_law 521 = .ok (.goto 383, 3) := by decide +kernel
theorem dL_law_524 : decode cL_law 524 = .ok (.aload_n 1, 1) := by decide +kernel
theorem dL_law_525 : decode cL_law 525 = .ok (.aload_n 0, 1) := by decide +kernel
theorem dL_law_526 : decode cL_law 526 = .ok (.iload 4, 2) := by decide +kernel
theorem dL_law_528 : decode cL_law 528 = .ok (.iconst 1, 1) := by decide +kernel
theorem dL_law_529 : decode cL_law 529 = .ok (.iadd, 1) := by decide +kernel
theorem dL_law_530 : decode cL_law 530 = .ok (.iaload, 1) := by decide +kernel
theorem dL_law_531 : decode cL_law 531 = .ok (.aload_n 0, 1) := by decide +kernel
theorem dL_law_532 : decode cL_law 532 = .ok (.iload 4, 2) := by decide +kernel
theorem dL_law_534 : decode cL_law 534 = .ok (.iconst 2, 1) := by decide +kernel
theorem dL_law_535 : decode cL_law 535 = .ok (.iadd, 1) := by decide +kernel
theorem dL_law_536 : decode cL_law 536 = .ok (.iaload, 1) := by decide +kernel
theorem dL_law_537 : decode cL_law 537 = .ok (.aload_n 3, 1) := by decide +kernel
theorem dL_law_538 : decode cL_law 538 = .ok (.invokestatic 99, 3) := by decide +kernel
theorem dL_law_541 : decode cL_law 541 = .ok (.istore 5, 2) := by decide +kernel
theorem dL_law_543 : decode cL_law 543 = .ok (.aload_n 2, 1) := by decide +kernel
theorem dL_law_544 : decode cL_law 544 = .ok (.aload_n 0, 1) := by decide +kernel
theorem dL_law_545 : decode cL_law 545 = .ok (.iload 4, 2) := by decide +kernel
theorem dL_law_547 : decode cL_law 547 = .ok (.iconst 1, 1) := by decide +kernel
theorem dL_law_548 : decode cL_law 548 = .ok (.iadd, 1) := by decide +kernel
theorem dL_law_549 : decode cL_law 549 = .ok (.iaload, 1) := by decide +kernel
theorem dL_law_550 : decode cL_law 550 = .ok (.aload_n 0, 1) := by decide +kernel
theorem dL_law_551 : decode cL_law 551 = .ok (.iload 4, 2) := by decide +kernel
theorem dL_law_553 : decode cL_law 553 = .ok (.iconst 2, 1) := by decide +kernel
theorem dL_law_554 : decode cL_law 554 = .ok (.iadd, 1) := by decide +kernel
theorem dL_law_555 : decode cL_law 555 = .ok (.iaload, 1) := by decide +kernel
theorem dL_law_556 : decode cL_law 556 = .ok (.invokevirtual 102, 3) := by decide +kernel
theorem dL_law_559 : decode cL_law 559 = .ok (.istore 6, 2) := by decide +kernel
theorem dL_law_561 : decode cL_law 561 = .ok (.aload_n 2, 1) := by decide +kernel
theorem dL_law_562 : decode cL_law 562 = .ok (.invokevirtual 68, 3) := by decide +kernel
theorem dL_law_565 : decode cL_law 565 = .ok (.iload 5, 2) := by decide +kernel
theorem dL_law_567 : decode cL_law 567 = .ok (.if_icmp .eq 5, 3) := by decide +kernel
theorem dL_law_570 : decode cL_law 570 = .ok (.iconst 0, 1) := by decide +kernel
theorem dL_law_571 : decode cL_law 571 = .ok (.ireturn, 1) := by decide +kernel
theorem dL_law_572 : decode cL_law 572 = .ok (.iload 5, 2) := by decide +kernel
theorem dL_law_574 : decode cL_law 574 = .ok (.ifCond .ne 15, 3) := by decide +kernel
theorem dL_law_577 : decode cL_law 577 = .ok (.aload_n 3, 1) := by decide +kernel
theorem dL_law_578 : decode cL_law 578 = .ok (.iconst 0, 1) := by decide +kernel
theorem dL_law_579 : decode cL_law 579 = .ok (.laload, 1) := by decide +kernel
theorem dL_law_580 : decode cL_law 580 = .ok (.iload 6, 2) := by decide +kernel
theorem dL_law_582 : decode cL_law 582 = .ok (.i2l, 1) := by decide +kernel
theorem dL_law_583 : decode cL_law 583 = .ok (.lcmp, 1) := by decide +kernel
theorem dL_law_584 : decode cL_law 584 = .ok (.ifCond .eq 5, 3) := by decide +kernel
theorem dL_law_587 : decode cL_law 587 = .ok (.iconst 0, 1) := by decide +kernel
theorem dL_law_588 : decode cL_law 588 = .ok (.ireturn, 1) := by decide +kernel
theorem dL_law_589 : decode cL_law 589 = .ok (.goto 315, 3) := by decide +kernel
theorem dL_law_592 : decode cL_law 592 = .ok (.aload_n 1, 1) := by decide +kernel
theorem dL_law_593 : decode cL_law 593 = .ok (.aload_n 0, 1) := by decide +kernel
theorem dL_law_594 : decode cL_law 594 = .ok (.iload 4, 2) := by decide +kernel
theorem dL_law_596 : decode cL_law 596 = .ok (.iconst 1, 1) := by decide +kernel
theorem dL_law_597 : decode cL_law 597 = .ok (.iadd, 1) := by decide +kernel
theorem dL_law_598 : decode cL_law 598 = .ok (.iaload, 1) := by decide +kernel
theorem dL_law_599 : decode cL_law 599 = .ok (.aload_n 3, 1) := by decide +kernel
theorem dL_law_600 : decode cL_law 600 = .ok (.invokestatic 103, 3) := by decide +kernel
theorem dL_law_603 : decode cL_law 603 = .ok (.istore 5, 2) := by decide +kernel
theorem dL_law_605 : decode cL_law 605 = .ok (.aload_n 2, 1) := by decide +kernel
theorem dL_law_606 : decode cL_law 606 = .ok (.aload_n 0, 1) := by decide +kernel
theorem dL_law_607 : decode cL_law 607 = .ok (.iload 4, 2) := by decide +kernel
theorem dL_law_609 : decode cL_law 609 = .ok (.iconst 1, 1) := by decide +kernel
theorem dL_law_610 : decode cL_law 610 = .ok (.iadd, 1) := by decide +kernel
theorem dL_law_611 : decode cL_law 611 = .ok (.iaload, 1) := by decide +kernel
theorem dL_law_612 : decode cL_law 612 = .ok (.invokevirtual 105, 3) := by decide +kernel
theorem dL_law_615 : decode cL_law 615 = .ok (.istore 6, 2) := by decide +kernel
theorem dL_law_617 : decode cL_law 617 = .ok (.aload_n 2, 1) := by decide +kernel
theorem dL_law_618 : decode cL_law 618 = .ok (.invokevirtual 68, 3) := by decide +kernel
theorem dL_law_621 : decode cL_law 621 = .ok (.iload 5, 2) := by decide +kernel
theorem dL_law_623 : decode cL_law 623 = .ok (.if_icmp .eq 5, 3) := by decide +kernel
theorem dL_law_626 : decode cL_law 626 = .ok (.iconst 0, 1) := by decide +kernel
theorem dL_law_627 : decode cL_law 627 = .ok (.ireturn, 1) := by decide +kernel
theorem dL_law_628 : decode cL_law 628 = .ok (.iload 5, 2) := by decide +kernel
theorem dL_law_630 : decode cL_law 630 = .ok (.ifCond .ne 15, 3) := by decide +kernel
theorem dL_law_633 : decode cL_law 633 = .ok (.aload_n 3, 1) := by decide +kernel
theorem dL_law_634 : decode cL_law 634 = .ok (.iconst 0, 1) := by decide +kernel
theorem dL_law_635 : decode cL_law 635 = .ok (.laload, 1) := by decide +kernel
theorem dL_law_636 : decode cL_law 636 = .ok (.iload 6, 2) := by decide +kernel
theorem dL_law_638 : decode cL_law 638 = .ok (.i2l, 1) := by decide +kernel
theorem dL_law_639 : decode cL_law 639 = .ok (.lcmp, 1) := by decide +kernel
theorem dL_law_640 : decode cL_law 640 = .ok (.ifCond .eq 5, 3) := by decide +kernel
theorem dL_law_643 : decode cL_law 643 = .ok (.iconst 0, 1) := by decide +kernel
theorem dL_law_644 : decode cL_law 644 = .ok (.ireturn, 1) := by decide +kernel
theorem dL_law_645 : decode cL_law 645 = .ok (.goto 259, 3) := by decide +kernel
theorem dL_law_648 : decode cL_law 648 = .ok (.aload_n 1, 1) := by decide +kernel
theorem dL_law_649 : decode cL_law 649 = .ok (.aload_n 3, 1) := by decide +kernel
theorem dL_law_650 : decode cL_law 650 = .ok (.invokestatic 106, 3) := by decide +kernel
theorem dL_law_653 : decode cL_law 653 = .ok (.istore 5, 2) := by decide +kernel
theorem dL_law_655 : decode cL_law 655 = .ok (.aload_n 2, 1) := by decide +kernel
theorem dL_law_656 : decode cL_law 656 = .ok (.invokevirtual 109, 3) := by decide +kernel
theorem dL_law_659 : decode cL_law 659 = .ok (.istore 6, 2) := by decide +kernel
theorem dL_law_661 : decode cL_law 661 = .ok (.aload_n 2, 1) := by decide +kernel
theorem dL_law_662 : decode cL_law 662 = .ok (.invokevirtual 68, 3) := by decide +kernel
theorem dL_law_665 : decode cL_law 665 = .ok (.iload 5, 2) := by decide +kernel
theorem dL_law_667 : decode cL_law 667 = .ok (.if_icmp .eq 5, 3) := by decide +kernel
theorem dL_law_670 : decode cL_law 670 = .ok (.iconst 0, 1) := by decide +kernel
theorem dL_law_671 : decode cL_law 671 = .ok (.ireturn, 1) := by decide +kernel
theorem dL_law_672 : decode cL_law 672 = .ok (.iload 5, 2) := by decide +kernel
theorem dL_law_674 : decode cL_law 674 = .ok (.ifCond .ne 15, 3) := by decide +kernel
theorem dL_law_677 : decode cL_law 677 = .ok (.aload_n 3, 1) := by decide +kernel
theorem dL_law_678 : decode cL_law 678 = .ok (.iconst 0, 1) := by decide +kernel
theorem dL_law_679 : decode cL_law 679 = .ok (.laload, 1) := by decide +kernel
theorem dL_law_680 : decode cL_law 680 = .ok (.iload 6, 2) := by decide +kernel
theorem dL_law_682 : decode cL_law 682 = .ok (.i2l, 1) := by decide +kernel
theorem dL_law_683 : decode cL_law 683 = .ok (.lcmp, 1) := by decide +kernel
theorem dL_law_684 : decode cL_law 684 = .ok (.ifCond .eq 5, 3) := by decide +kernel
theorem dL_law_687 : decode cL_law 687 = .ok (.iconst 0, 1) := by decide +kernel
theorem dL_law_688 : decode cL_law 688 = .ok (.ireturn, 1) := by decide +kernel
theorem dL_law_689 : decode cL_law 689 = .ok (.goto 215, 3) := by decide +kernel
theorem dL_law_692 : decode cL_law 692 = .ok (.aload_n 1, 1) := by decide +kernel
theorem dL_law_693 : decode cL_law 693 = .ok (.aload_n 3, 1) := by decide +kernel
theorem dL_law_694 : decode cL_law 694 = .ok (.invokestatic 110, 3) := by decide +kernel
theorem dL_law_697 : decode cL_law 697 = .ok (.istore 5, 2) := by decide +kernel
theorem dL_law_699 : decode cL_law 699 = .ok (.aload_n 2, 1) := by decide +kernel
theorem dL_law_700 : decode cL_law 700 = .ok (.invokevirtual 112, 3) := by decide +kernel
theorem dL_law_703 : decode cL_law 703 = .ok (.istore 6, 2) := by decide +kernel
theorem dL_law_705 : decode cL_law 705 = .ok (.aload_n 2, 1) := by decide +kernel
theorem dL_law_706 : decode cL_law 706 = .ok (.invokevirtual 68, 3) := by decide +kernel
theorem dL_law_709 : decode cL_law 709 = .ok (.iload 5, 2) := by decide +kernel
theorem dL_law_711 : decode cL_law 711 = .ok (.if_icmp .eq 5, 3) := by decide +kernel
theorem dL_law_714 : decode cL_law 714 = .ok (.iconst 0, 1) := by decide +kernel
theorem dL_law_715 : decode cL_law 715 = .ok (.ireturn, 1) := by decide +kernel
theorem dL_law_716 : decode cL_law 716 = .ok (.iload 5, 2) := by decide +kernel
theorem dL_law_718 : decode cL_law 718 = .ok (.ifCond .ne 15, 3) := by decide +kernel
theorem dL_law_721 : decode cL_law 721 = .ok (.aload_n 3, 1) := by decide +kernel
theorem dL_law_722 : decode cL_law 722 = .ok (.iconst 0, 1) := by decide +kernel
theorem dL_law_723 : decode cL_law 723 = .ok (.laload, 1) := by decide +kernel
theorem dL_law_724 : decode cL_law 724 = .ok (.iload 6, 2) := by decide +kernel
theorem dL_law_726 : decode cL_law 726 = .ok (.i2l, 1) := by decide +kernel
theorem dL_law_727 : decode cL_law 727 = .ok (.lcmp, 1) := by decide +kernel
theorem dL_law_728 : decode cL_law 728 = .ok (.ifCond .eq 5, 3) := by decide +kernel
theorem dL_law_731 : decode cL_law 731 = .ok (.iconst 0, 1) := by decide +kernel
theorem dL_law_732 : decode cL_law 732 = .ok (.ireturn, 1) := by decide +kernel
theorem dL_law_733 : decode cL_law 733 = .ok (.goto 171, 3) := by decide +kernel
theorem dL_law_736 : decode cL_law 736 = .ok (.aload_n 1, 1) := by decide +kernel
theorem dL_law_737 : decode cL_law 737 = .ok (.aload_n 3, 1) := by decide +kernel
theorem dL_law_738 : decode cL_law 738 = .ok (.invokestatic 113, 3) := by decide +kernel
theorem dL_law_741 : decode cL_law 741 = .ok (.istore 5, 2) := by decide +kernel
theorem dL_law_743 : decode cL_law 743 = .ok (.aload_n 2, 1) := by decide +kernel
theorem dL_law_744 : decode cL_law 744 = .ok (.invokevirtual 115, 3) := by decide +kernel
theorem dL_law_747 : decode cL_law 747 = .ok (.istore 6, 2) := by decide +kernel
theorem dL_law_749 : decode cL_law 749 = .ok (.aload_n 2, 1) := by decide +kernel
theorem dL_law_750 : decode cL_law 750 = .ok (.invokevirtual 68, 3) := by decide +kernel
theorem dL_law_753 : decode cL_law 753 = .ok (.iload 5, 2) := by decide +kernel
theorem dL_law_755 : decode cL_law 755 = .ok (.if_icmp .eq 5, 3) := by decide +kernel
theorem dL_law_758 : decode cL_law 758 = .ok (.iconst 0, 1) := by decide +kernel
theorem dL_law_759 : decode cL_law 759 = .ok (.ireturn, 1) := by decide +kernel
theorem dL_law_760 : decode cL_law 760 = .ok (.iload 5, 2) := by decide +kernel
theorem dL_law_762 : decode cL_law 762 = .ok (.ifCond .ne 15, 3) := by decide +kernel
theorem dL_law_765 : decode cL_law 765 = .ok (.aload_n 3, 1) := by decide +kernel
theorem dL_law_766 : decode cL_law 766 = .ok (.iconst 0, 1) := by decide +kernel
theorem dL_law_767 : decode cL_law 767 = .ok (.laload, 1) := by decide +kernel
theorem dL_law_768 : decode cL_law 768 = .ok (.iload 6, 2) := by decide +kernel
theorem dL_law_770 : decode cL_law 770 = .ok (.i2l, 1) := by decide +kernel
theorem dL_law_771 : decode cL_law 771 = .ok (.lcmp, 1) := by decide +kernel
theorem dL_law_772 : decode cL_law 772 = .ok (.ifCond .eq 5, 3) := by decide +kernel
theorem dL_law_775 : decode cL_law 775 = .ok (.iconst 0, 1) := by decide +kernel
theorem dL_law_776 : decode cL_law 776 = .ok (.ireturn, 1) := by decide +kernel
theorem dL_law_777 : decode cL_law 777 = .ok (.goto 127, 3) := by decide +kernel
theorem dL_law_780 : decode cL_law 780 = .ok (.aload_n 1, 1) := by decide +kernel
theorem dL_law_781 : decode cL_law 781 = .ok (.aload_n 0, 1) := by decide +kernel
theorem dL_law_782 : decode cL_law 782 = .ok (.iload 4, 2) := by decide +kernel
theorem dL_law_784 : decode cL_law 784 = .ok (.iconst 1, 1) := by decide +kernel
theorem dL_law_785 : decode cL_law 785 = .ok (.iadd, 1) := by decide +kernel
theorem dL_law_786 : decode cL_law 786 = .ok (.iaload, 1) := by decide +kernel
theorem dL_law_787 : decode cL_law 787 = .ok (.aload_n 3, 1) := by decide +kernel
theorem dL_law_788 : decode cL_law 788 = .ok (.invokestatic 116, 3) := by decide +kernel
theorem dL_law_791 : decode cL_law 791 = .ok (.istore 5, 2) := by decide +kernel
theorem dL_law_793 : decode cL_law 793 = .ok (.aload_n 2, 1) := by decide +kernel
theorem dL_law_794 : decode cL_law 794 = .ok (.aload_n 0, 1) := by decide +kernel
theorem dL_law_795 : decode cL_law 795 = .ok (.iload 4, 2) := by decide +kernel
theorem dL_law_797 : decode cL_law 797 = .ok (.iconst 1, 1) := by decide +kernel
theorem dL_law_798 : decode cL_law 798 = .ok (.iadd, 1) := by decide +kernel
theorem dL_law_799 : decode cL_law 799 = .ok (.iaload, 1) := by decide +kernel
theorem dL_law_800 : decode cL_law 800 = .ok (.invokevirtual 118, 3) := by decide +kernel
theorem dL_law_803 : decode cL_law 803 = .ok (.istore 6, 2) := by decide +kernel
theorem dL_law_805 : decode cL_law 805 = .ok (.aload_n 2, 1) := by decide +kernel
theorem dL_law_806 : decode cL_law 806 = .ok (.invokevirtual 68, 3) := by decide +kernel
theorem dL_law_809 : decode cL_law 809 = .ok (.iload 5, 2) := by decide +kernel
theorem dL_law_811 : decode cL_law 811 = .ok (.if_icmp .eq 5, 3) := by decide +kernel
theorem dL_law_814 : decode cL_law 814 = .ok (.iconst 0, 1) := by decide +kernel
theorem dL_law_815 : decode cL_law 815 = .ok (.ireturn, 1) := by decide +kernel
theorem dL_law_816 : decode cL_law 816 = .ok (.iload 5, 2) := by decide +kernel
theorem dL_law_818 : decode cL_law 818 = .ok (.ifCond .ne 15, 3) := by decide +kernel
theorem dL_law_821 : decode cL_law 821 = .ok (.aload_n 3, 1) := by decide +kernel
theorem dL_law_822 : decode cL_law 822 = .ok (.iconst 0, 1) := by decide +kernel
theorem dL_law_823 : decode cL_law 823 = .ok (.laload, 1) := by decide +kernel
theorem dL_law_824 : decode cL_law 824 = .ok (.iload 6, 2) := by decide +kernel
theorem dL_law_826 : decode cL_law 826 = .ok (.i2l, 1) := by decide +kernel
theorem dL_law_827 : decode cL_law 827 = .ok (.lcmp, 1) := by decide +kernel
theorem dL_law_828 : decode cL_law 828 = .ok (.ifCond .eq 5, 3) := by decide +kernel
theorem dL_law_831 : decode cL_law 831 = .ok (.iconst 0, 1) := by decide +kernel
theorem dL_law_832 : decode cL_law 832 = .ok (.ireturn, 1) := by decide +kernel
theorem dL_law_833 : decode cL_law 833 = .ok (.goto 71, 3) := by decide +kernel
theorem dL_law_836 : decode cL_law 836 = .ok (.aload_n 1, 1) := by decide +kernel
theorem dL_law_837 : decode cL_law 837 = .ok (.aload_n 0, 1) := by decide +kernel
theorem dL_law_838 : decode cL_law 838 = .ok (.iload 4, 2) := by decide +kernel
theorem dL_law_840 : decode cL_law 840 = .ok (.iconst 1, 1) := by decide +kernel
theorem dL_law_841 : decode cL_law 841 = .ok (.iadd, 1) := by decide +kernel
theorem dL_law_842 : decode cL_law 842 = .ok (.iaload, 1) := by decide +kernel
theorem dL_law_843 : decode cL_law 843 = .ok (.aload_n 0, 1) := by decide +kernel
theorem dL_law_844 : decode cL_law 844 = .ok (.iload 4, 2) := by decide +kernel
theorem dL_law_846 : decode cL_law 846 = .ok (.iconst 2, 1) := by decide +kernel
theorem dL_law_847 : decode cL_law 847 = .ok (.iadd, 1) := by decide +kernel
theorem dL_law_848 : decode cL_law 848 = .ok (.iaload, 1) := by decide +kernel
theorem dL_law_849 : decode cL_law 849 = .ok (.aload_n 3, 1) := by decide +kernel
theorem dL_law_850 : decode cL_law 850 = .ok (.invokestatic 119, 3) := by decide +kernel
theorem dL_law_853 : decode cL_law 853 = .ok (.istore 5, 2) := by decide +kernel
theorem dL_law_855 : decode cL_law 855 = .ok (.aload_n 2, 1) := by decide +kernel
theorem dL_law_856 : decode cL_law 856 = .ok (.aload_n 0, 1) := by decide +kernel
theorem dL_law_857 : decode cL_law 857 = .ok (.iload 4, 2) := by decide +kernel
theorem dL_law_859 : decode cL_law 859 = .ok (.iconst 1, 1) := by decide +kernel
theorem dL_law_860 : decode cL_law 860 = .ok (.iadd, 1) := by decide +kernel
theorem dL_law_861 : decode cL_law 861 = .ok (.iaload, 1) := by decide +kernel
theorem dL_law_862 : decode cL_law 862 = .ok (.aload_n 0, 1) := by decide +kernel
theorem dL_law_863 : decode cL_law 863 = .ok (.iload 4, 2) := by decide +kernel
theorem dL_law_865 : decode cL_law 865 = .ok (.iconst 2, 1) := by decide +kernel
theorem dL_law_866 : decode cL_law 866 = .ok (.iadd, 1) := by decide +kernel
theorem dL_law_867 : decode cL_law 867 = .ok (.iaload, 1) := by decide +kernel
theorem dL_law_868 : decode cL_law 868 = .ok (.invokevirtual 121, 3) := by decide +kernel
theorem dL_law_871 : decode cL_law 871 = .ok (.istore 6, 2) := by decide +kernel
theorem dL_law_873 : decode cL_law 873 = .ok (.aload_n 2, 1) := by decide +kernel
theorem dL_law_874 : decode cL_law 874 = .ok (.invokevirtual 68, 3) := by decide +kernel
theorem dL_law_877 : decode cL_law 877 = .ok (.iload 5, 2) := by decide +kernel
theorem dL_law_879 : decode cL_law 879 = .ok (.if_icmp .eq 5, 3) := by decide +kernel
theorem dL_law_882 : decode cL_law 882 = .ok (.iconst 0, 1) := by decide +kernel
theorem dL_law_883 : decode cL_law 883 = .ok (.ireturn, 1) := by decide +kernel
theorem dL_law_884 : decode cL_law 884 = .ok (.iload 5, 2) := by decide +kernel
theorem dL_law_886 : decode cL_law 886 = .ok (.ifCond .ne 15, 3) := by decide +kernel
theorem dL_law_889 : decode cL_law 889 = .ok (.aload_n 3, 1) := by decide +kernel
theorem dL_law_890 : decode cL_law 890 = .ok (.iconst 0, 1) := by decide +kernel
theorem dL_law_891 : decode cL_law 891 = .ok (.laload, 1) := by decide +kernel
theorem dL_law_892 : decode cL_law 892 = .ok (.iload 6, 2) := by decide +kernel
theorem dL_law_894 : decode cL_law 894 = .ok (.i2l, 1) := by decide +kernel
theorem dL_law_895 : decode cL_law 895 = .ok (.lcmp, 1) := by decide +kernel
theorem dL_law_896 : decode cL_law 896 = .ok (.ifCond .eq 5, 3) := by decide +kernel
theorem dL_law_899 : decode cL_law 899 = .ok (.iconst 0, 1) := by decide +kernel
theorem dL_law_900 : decode cL_law 900 = .ok (.ireturn, 1) := by decide +kernel
theorem dL_law_901 : decode cL_law 901 = .ok (.goto 3, 3) := by decide +kernel
theorem dL_law_904 : decode cL_law 904 = .ok (.iinc 4 4, 3) := by decide +kernel
theorem dL_law_907 : decode cL_law 907 = .ok (.goto (-884), 3) := by decide +kernel
theorem dL_law_910 : decode cL_law 910 = .ok (.iconst 1, 1) := by decide +kernel
theorem dL_law_911 : decode cL_law 911 = .ok (.ireturn, 1) := by decide +kernel
end
section
/-! ===== the cells of the class and of the model; what else is known of a start ===== -/
def layC : List apK := [.inl (8, [some 1, some 2, some 3, some 4, some 5, some 6, none, none, none]), .inl (3, [some 7, some 8, some 9, some 10, some 11, some 12, none]), .inl (7, [some 1, some 13, some 14, some 15, none]), .inl (6, [some 1, some 16, some 17, some 18, some 19, some 20, some 21, some 22, some 23, none, none, none]), .inl (5, [some 3, some 24, some 25, none]), .inl (2, [some 1, some 3, some 4, some 26]), .inl (4, [some 3, some 27]), .inr (.inl (0, 12)), .inr (.inl (0, 12)), .inr (.inl (0, 12)), .inr (.inr (2, 12, 29)), .inr (.inr (2, 12, 41)), .inr (.inl (1, 12)), .inr (.inl (0, 12)), .inr (.inl (0, 12)), .inr (.inl (0, 12)), .inr (.inl (0, 12)), .inr (.inl (0, 12)), .inr (.inl (0, 12)), .inr (.inl (0, 12)), .inr (.inl (0, 12)), .inr (.inl (0, 12)), .inr (.inl (0, 12)), .inr (.inl (0, 12)), .inr (.inl (0, 12)), .inr (.inl (0, 12)), .inr (.inl (0, 480)), .inr (.inl (0, 4096)), .inr (.inl (3, 1)), .inr (.inl (0, 16)), .inr (.inl (0, 16)), .inr (.inl (0, 16)), .inr (.inl (0, 16)), .inr (.inl (0, 16)), .inr (.inl (0, 16)), .inr (.inl (0, 16)), .inr (.inl (0, 16)), .inr (.inl (0, 16)), .inr (.inl (0, 16)), .inr (.inl (0, 16)), .inr (.inl (0, 16)), .inr (.inl (0, 2)), .inr (.inl (0, 2)), .inr (.inl (0, 2)), .inr (.inl (0, 2)), .inr (.inl (0, 2)), .inr (.inl (0, 2)), .inr (.inl (0, 2)), .inr (.inl (0, 2)), .inr (.inl (0, 2)), .inr (.inl (0, 2)), .inr (.inl (0, 2)), .inr (.inl (0, 2))]
def layM : List apK := [.inl (9, [none, none, some 1, some 2, some 3, some 4, some 5, some 6, some 7, none, some 8, none, none, some 9, some 10, some 11, some 12, some 13, some 14, none, none, none, some 15, some 16, some 17, none, some 18, none, some 19, some 20]), .inr (.inl (0, 12)), .inr (.inl (0, 12)), .inr (.inl (0, 12)), .inr (.inl (0, 24)), .inr (.inl (1, 12)), .inr (.inl (0, 192)), .inr (.inl (0, 12)), .inr (.inl (0, 12)), .inr (.inl (0, 12)), .inr (.inl (0, 12)), .inr (.inl (0, 12)), .inr (.inl (0, 12)), .inr (.inl (0, 12)), .inr (.inl (0, 12)), .inr (.inl (0, 12)), .inr (.inl (1, 12)), .inr (.inl (0, 24)), .inr (.inl (0, 4096)), .inr (.inl (0, 480)), .inr (.inl (0, 480))]
theorem layR_29 {j : Nat} {i : Int32} (h : rix 12 i = some j) : layC[29 + j]? = some (.inr (.inl (0, 16))) := by
  obtain ⟨-, -, h⟩ := rix_some h
  have key : ∀ j, j < 12 → layC[29 + j]? = some (.inr (.inl (0, 16))) := by decide +kernel
  exact key j h
theorem layR_41 {j : Nat} {i : Int32} (h : rix 12 i = some j) : layC[41 + j]? = some (.inr (.inl (0, 2))) := by
  obtain ⟨-, -, h⟩ := rix_some h
  have key : ∀ j, j < 12 → layC[41 + j]? = some (.inr (.inl (0, 2))) := by decide +kernel
  exact key j h
def apXM : (Nat → Prop) → State → Prop := fun _ _ => True
theorem apXMok : apXok apXM := ⟨fun _ _ _ _ _ _ => trivial, fun _ _ _ _ _ _ _ _ => trivial⟩
/-- the links to private members of nest mates -/
def apNest : List (String × Nat × MethodName) := [(RX1, 37, yX6_isWithin), (RX1, 54, yX6_setOf), (RX2, 42, yX6_contains), (RX2, 49, yX6_isPartOf), (RX2, 52, yX6_setOf), (RX4, 83, yX6_contains), (RX4, 87, yX6_setOf), (RX4, 138, yX6_isPartOf), (RX5, 37, yX6_contains), (RX6, 9, yX1_init)]
def apStr : List (Nat × String) := [(63, "no such operation, p or q"), (74, "there are twelve nodes"), (122, "the ring has no such node"), (128, "no such way"), (134, "no node, or an input is not wired"), (138, "a node is in a ring"), (146, "sizes do not fit"), (212, "no such node is kept"), (214, "there is no plan"), (216, "the plan was not run"), (220, "no such index")]
def apIn : Nat → Int32 := fun n => match n with | 0 => 0 | 1 => 1 | 2 => 2 | 3 => 2 | 4 => 2 | 5 => 1 | 6 => 1 | _ => 1
def ain (i : Int32) : Option Int32 := if 0 ≤ i ∧ i.toNatClampNeg < 8 then some (apIn i.toNatClampNeg) else none
theorem ain_some {i v : Int32} (h : ain i = some v) : vp_in i 8 ∧ apIn i.toNatClampNeg = v := by
  unfold ain at h
  split at h
  · next c => exact ⟨ix_in c, Option.some.inj h⟩
  · cases h
/-- the static row of inputs -/
def apI (t : Nat) (A : Nat → Prop) (U : State) (H : Heap) : Prop := va_Z "ArenaPlan" "INPUTS" "[I" (.ref t) A U H ∧ va_T .int t 8 (fun j => .int (apIn j)) A U H
def apXC : (Nat → Prop) → State → Prop := fun A U =>
  (∀ z ∈ apNest, va_Nw (.methodLinkNest z.1 z.2.1 z.2.2 "ArenaPlan") U) ∧ va_Nw (.fieldLinkNest RX1 41 "ArenaPlan" "INPUTS" "[I" "ArenaPlan") U ∧ (∃ t, apI t A U U.heap) ∧
  vx_Zq Bundle.tN "UNASSIGNED_STACK" Bundle.steD A U U.heap ∧ vx_Zq Bundle.tN "SUPPRESSED_SENTINEL" Bundle.listD A U U.heap ∧ (∀ z ∈ apStr, ∃ a, vk_R RX6 z.1 z.2 a U)
theorem apXCok : apXok apXC := by
  refine ⟨fun A U g mk a h => ?_, fun A A1 s U h hW hk hA => ?_⟩
  · obtain ⟨h1, h2, ⟨t, h3⟩, h4, h5, h6⟩ := h
    have al : U.vm.Alike (U.calling g mk a).vm := Vm.Alike.refl U.vm
    exact ⟨fun z hz => va_Nw.same rfl rfl (h1 z hz), va_Nw.same rfl rfl h2, ⟨t, va_Z.moved al h3.1, va_T.moved al h3.2⟩, vx_Zq.moved al h4, vx_Zq.moved al h5, fun z hz => (h6 z hz).elim (fun a ha => ⟨a, vk_R.same rfl ha⟩)⟩
  · obtain ⟨h1, h2, ⟨t, h3⟩, h4, h5, h6⟩ := h
    have al := hW.alike
    exact ⟨fun z hz => va_Nw.warmM hW (h1 z hz), va_Nw.warmF hW h2, ⟨t, va_Z.narrow (va_Z.moved al (h3.1.kept hk)) hA, va_T.narrow (va_T.moved al (h3.2.kept hk)) hA⟩, vx_Zq.narrow (vx_Zq.moved al (h4.kept hk)) hA, vx_Zq.narrow (vx_Zq.moved al (h5.kept hk)) hA, fun z hz => (h6 z hz).elim (fun a ha => ⟨a, vk_R.warm hW ha⟩)⟩
section APS
variable {Γ : apC} {cc : ByteArray} {nL : Nat} {own : String} {Ts : List Cond} {rm : Room} {w : va_W} {cn sn pc : Nat} {L : List (Nat × Value)} {st : List Value}
theorem apNest_in (G : apG Γ cc nL own Ts rm apXC) {x : String} {i : Nat} {y : MethodName} (h : (x, i, y) ∈ apNest) : va_Nw (.methodLinkNest x i y "ArenaPlan") (apS Γ) := G.2.2.2.2.2.2.2.2.1.1 _ h
theorem v_sget (G : apG Γ cc nL own Ts rm apXC) {index : Nat} (hl : Cond.fieldLink own index "ArenaPlan" "INPUTS" "[I" ∈ Ts) (hd : decode cc pc = .ok (.getstatic index, 3))
    (kk : ∀ t, apI t (apA Γ) (apS Γ) (apS Γ).heap → apV Γ nL w cn sn (pc + 3) L (.ref t :: st)) : apV Γ nL w cn sn pc L st := fun H locs ls hH hL => by
  obtain ⟨t, ht⟩ := G.2.2.2.2.2.2.2.2.1.2.2.1
  exact va_gets G.1 G.2.1 ht.1 hH.2.2 G.2.2.2.1 (G.2.2.2.2.1 _ hl) (fun x h => h) hd (kk t ht H locs ls hH hL)
theorem v_sgetN (G : apG Γ cc nL RX1 Ts rm apXC) (hd : decode cc pc = .ok (.getstatic 41, 3))
    (kk : ∀ t, apI t (apA Γ) (apS Γ) (apS Γ).heap → apV Γ nL w cn sn (pc + 3) L (.ref t :: st)) : apV Γ nL w cn sn pc L st := fun H locs ls hH hL => by
  obtain ⟨t, ht⟩ := G.2.2.2.2.2.2.2.2.1.2.2.1
  exact va_getsN G.1 G.2.1 ht.1 hH.2.2 G.2.2.2.1 (va_Nw.use rfl G.2.2.2.2.2.2.2.2.1.2.1) (fun x h => h) hd (kk t ht H locs ls hH hL)
theorem v_sild {X : (Nat → Prop) → State → Prop} (G : apG Γ cc nL own Ts rm X) {t : Nat} {i v : Int32} (ht : apI t (apA Γ) (apS Γ) (apS Γ).heap) (hv : ain i = some v) (hd : decode cc pc = .ok (.iaload, 1))
    (kk : apV Γ nL w cn sn (pc + 1) L (.int v :: st)) : apV Γ nL w cn sn pc L (.int i :: .ref t :: st) := fun H locs ls hH hL => by
  obtain ⟨h1, h2⟩ := ain_some hv
  exact va_ti G.1 G.2.1 ht.2 hH.2.2 h1 (by rw [h2]) hd (kk H locs ls hH hL)
theorem v_slen {X : (Nat → Prop) → State → Prop} (G : apG Γ cc nL own Ts rm X) {t : Nat} (ht : apI t (apA Γ) (apS Γ) (apS Γ).heap) (hd : decode cc pc = .ok (.arraylength, 1))
    (kk : apV Γ nL w cn sn (pc + 1) L (.int 8 :: st)) : apV Γ nL w cn sn pc L (.ref t :: st) := fun H locs ls hH hL => va_tlen G.1 G.2.1 ht.2 hH.2.2 rfl hd (kk H locs ls hH hL)
theorem v_tableI {X : (Nat → Prop) → State → Prop} (G : apG Γ cc nL own Ts rm X) {dflt lo hi : Int} {offs : Array Int} {len tgt : Nat} {x c : Int32} {off : Int} (hd : decode cc pc = .ok (.tableswitch dflt lo hi offs, len)) (hx : x = c) (h1 : ¬ c.toInt < lo) (h2 : ¬ hi < c.toInt) (ho : offs[(c.toInt - lo).toNat]? = some off) (ht : (pc : Int) + off = (tgt : Int))
    (kk : apV Γ nL w cn sn tgt L st) : apV Γ nL w cn sn pc L (.int x :: st) := by
  subst hx
  exact v_tableIn G hd h1 h2 ho ht kk
theorem v_lookupI {X : (Nat → Prop) → State → Prop} (G : apG Γ cc nL own Ts rm X) {dflt : Int} {ps : Array (Int × Int)} {len tgt : Nat} {x c : Int32} {off : Int} (hd : decode cc pc = .ok (.lookupswitch dflt ps, len)) (hx : x = c) (hp : (ps.toList.zip (ps.toList.drop 1)).all (fun (a, next) => a.1 < next.1) = true) (ho : Op.lookupswitch.offset ps.toList dflt c.toInt = off) (ht : (pc : Int) + off = (tgt : Int))
    (kk : apV Γ nL w cn sn tgt L st) : apV Γ nL w cn sn pc L (.int x :: st) := by
  subst hx
  exact v_lookup G hd hp ho ht kk
end APS
/-- Arrays.fill -/
theorem w_fill {Γ : apC} {q : Nat → Nat} {lay : List apK} {X : (Nat → Prop) → State → Prop} {k n : Nat} {v : Int32} {s : apM} (G : apG Γ cJ7_fill_53178 4 RJ7 wsJ7_fill_53178 (apRm 0 0) X) (hk : lay[k]? = some (.inr (.inl (0, n)))) (hn : n < 2 ^ 31) (K : apR Γ cJ7_fill_53178 0 0 none (apU lay q (apd Γ) (mfl s k v n))) :
    ∀ (z i : Nat), i + z = n → apV Γ 4 (apU lay q (apd Γ) (mfl s k v i)) 0 0 5 [(0, .ref (q k)), (1, .int v), (2, .int (nI i)), (3, .int (nI n))] [] := by
  intro z
  induction z with
  | zero =>
    intro i hi
    have hi : i = n := by omega
    subst hi
    refine v_iload_n G dJ7_fill_53178_5 rfl 2 rfl ?_
    refine v_iload_n G dJ7_fill_53178_6 rfl 3 rfl ?_
    refine v_icmp_ge (tgt := 20) G dJ7_fill_53178_7 (by decide) (fun c => ?_) (fun c => absurd (nI_le (Nat.le_refl _) hn) c)
    exact v_vret G K (by decide) (by decide) dJ7_fill_53178_20
  | succ z ih =>
    intro i hi
    refine v_iload_n G dJ7_fill_53178_5 rfl 2 rfl ?_
    refine v_iload_n G dJ7_fill_53178_6 rfl 3 rfl ?_
    refine v_icmp_ge (tgt := 20) G dJ7_fill_53178_7 (by decide) (fun c => absurd c (nI_ge (by omega) hn)) (fun c => ?_)
    refine v_aload_n G dJ7_fill_53178_10 rfl 0 rfl ?_
    refine v_iload_n G dJ7_fill_53178_11 rfl 2 rfl ?_
    refine v_iload_n G dJ7_fill_53178_12 rfl 1 rfl ?_
    have hc : (nI i).toNatClampNeg = i := nI_clamp (by omega)
    refine v_iast (lay := lay) (k := k) (n := n) (σ' := mfl s k v (i + 1)) G hk (by
      unfold ast
      rw [if_pos ⟨nI_pos' (by omega), by rw [hc]; omega⟩, hc]
      rfl) dJ7_fill_53178_13 ?_
    refine v_iinc (v := nI (i + 1)) (L' := [(2, .int (nI (i + 1))), (0, .ref (q k)), (1, .int v), (3, .int (nI n))]) G dJ7_fill_53178_14 2 rfl (by rw [nI_succ]; rfl) (by decide) rfl ?_
    refine v_goto (tgt := 5) G dJ7_fill_53178_17 (by decide) ?_
    refine v_locs (L' := [(0, .ref (q k)), (1, .int v), (2, .int (nI (i + 1))), (3, .int (nI n))]) [1, 2, 0, 3] rfl ?_
    exact ih (i + 1) (by omega)
theorem c_fill (l : Launch) {lay : List apK} {X : (Nat → Prop) → State → Prop} {k n : Nat} {v : Int32} {s : apM} (hk : lay[k]? = some (.inr (.inl (0, n)))) (hn : n < 2 ^ 31) : apMv l lay X yJ7_fill_53178 wsJ7_fill_53178 0 (fun q => [.ref (q k), .int v]) s (mfl s k v n) := by
  refine apMv_of (cc := cJ7_fill_53178) (nL := 4) (by decide) rfl (fun _ => Nat.le_of_ble_eq_true rfl) (fun Γ q hl G K => ?_)
  refine v_iconst (v := 0) G dJ7_fill_53178_0 (by decide) ?_
  refine v_istore_n (L' := [(2, .int 0), (0, .ref (q k)), (1, .int v)]) G dJ7_fill_53178_1 rfl (by decide) rfl ?_
  refine v_aload_n G dJ7_fill_53178_2 rfl 1 rfl ?_
  refine v_alen (lay := lay) (k := k) (n := n) (t := 0) (v := nI n) G (by decide) hk rfl dJ7_fill_53178_3 ?_
  refine v_istore_n (L' := [(3, .int (nI n)), (2, .int 0), (0, .ref (q k)), (1, .int v)]) G dJ7_fill_53178_4 rfl (by decide) rfl ?_
  refine v_locs (L' := [(0, .ref (q k)), (1, .int v), (2, .int (nI 0)), (3, .int (nI n))]) [2, 3, 1, 0] rfl ?_
  exact w_fill G hk hn K n 0 (by omega)
end
section
/-! ===== methods that throw ===== -/
/-- the method may end by throwing an E over these cells -/
def apTh (Γ : apC) (mc ms : Nat) (E : String) (w : va_W) : Prop :=
  (∀ x ∈ Γ.2.1.2.2.2.2.exceptionTable.toList, False) ∧ ∃ (Qc : Array Value → State → Outcome → State → Prop) (XC : String → State → State → Prop) (free : Addr → Prop),
    Γ.2.2.1 = vx_MQ Γ.2.1.2.2.1 Qc XC Γ.2.1.2.1 (apS Γ) mc ms free ∧
    (∀ (H : Heap) (locs : List Loc) (t : State), apH Γ w H locs → (apS Γ).vm.Alike t.vm → H.size ≤ t.heap.size → (∀ q : Nat, q < H.size → t.heap[q]? = H[q]?) → XC E (apS Γ) t) ∧ (∀ z, apA Γ z → free z)
def apXv (l : Launch) (lay : List apK) (X : (Nat → Prop) → State → Prop) (y : MethodName) (ws : List Cond) (k n : Nat) (av : (Nat → Nat) → List Value) (σ : apM) (res : (String × apM) ⊕ apM) : Prop :=
  ∀ (D : va_G) (d : Nat → ClassId) (q : Nat → Nat) (sz : Nat), vx_Met l y ws (apRm k n) (apPc lay X D d q sz σ (av q)) (va_Qv (fun σ' : apM => res = .inr σ') (fun σ' => apB lay D d q sz σ σ') (va_A (apU lay q d σ) sz)) (vx_X (fun z : String × apM => res = .inl z) (fun E z t => E = z.1 ∧ apB lay D d q sz σ z.2 t) (va_A (apU lay q d σ) sz)) n (6 * n) (va_A (apU lay q d σ) sz)
def apXi (l : Launch) (lay : List apK) (X : (Nat → Prop) → State → Prop) (y : MethodName) (ws : List Cond) (k n : Nat) (av : (Nat → Nat) → List Value) (σ : apM) (res : (String × apM) ⊕ (Int32 × apM)) : Prop :=
  ∀ (D : va_G) (d : Nat → ClassId) (q : Nat → Nat) (sz : Nat), vx_Met l y ws (apRm k n) (apPc lay X D d q sz σ (av q)) (va_Qi (fun (r : Int32) (σ' : apM) => res = .inr (r, σ')) (fun σ' => apB lay D d q sz σ σ') (va_A (apU lay q d σ) sz)) (vx_X (fun z : String × apM => res = .inl z) (fun E z t => E = z.1 ∧ apB lay D d q sz σ z.2 t) (va_A (apU lay q d σ) sz)) n (6 * n) (va_A (apU lay q d σ) sz)
theorem apXv_of {l : Launch} {lay : List apK} {X : (Nat → Prop) → State → Prop} {y : MethodName} {ws ws' : List Cond} {k n : Nat} {av : (Nat → Nat) → List Value} {σ : apM} {res : (String × apM) ⊕ apM} {cc : ByteArray} {nL : Nat} (hy : plainName y.cls = true) (hw : ws = Cond.code y cc nL none :: ws') (hlen : ∀ q, (lg_sl (av q)).length ≤ nL)
    (body : ∀ (Γ : apC) (q : Nat → Nat), Γ.1.2.1 = l → apG Γ cc nL y.cls ws (apRm k n) X → (match res with | .inl z => apTh Γ n (6 * n) z.1 (apU lay q (apd Γ) z.2) | .inr z => apR Γ cc n (6 * n) none (apU lay q (apd Γ) z)) → apV Γ nL (apU lay q (apd Γ) σ) 0 0 0 (lv_args 0 (av q)) []) : apXv l lay X y ws k n av σ res := by
  intro D d q sz
  refine vx_ofW (cc := cc) (maxL := nL) (ret := none) hy hw ?_
  intro p e s m args below meth c s₁ B hml htab hv
  obtain ⟨rfl, hsz, hP, hK, hD0, hXs⟩ := hv
  subst hsz
  have hD := hD0.self (sz := s.heap.size)
  have hts := atoms_spec (ws := ws) B.pre
  have hb := body ((p, l, e, apRm k n, s), ((m, (av q).toArray, below, meth, c), (vx_MQ below (va_Qv (fun σ' : apM => res = .inr σ') (fun σ' => apB lay D d q s.heap.size σ σ') (va_A (apU lay q d σ) s.heap.size)) (vx_X (fun z : String × apM => res = .inl z) (fun E z t => E = z.1 ∧ apB lay D d q s.heap.size σ z.2 t) (va_A (apU lay q d σ) s.heap.size)) (av q).toArray s n (6 * n) (va_A (apU lay q d σ) s.heap.size), D, d, va_A (apU lay q d σ) s.heap.size))) q rfl
    ⟨B.exec, B.bytes, hml, findClass_of_methodNamed B.named, hts, hK, rfl, fun q h => Or.inr h, hXs, B.notSynchronized⟩
    (by
      rcases res with z | z
      · refine ⟨htab, _, _, _, rfl, ?_, fun _ h => h⟩
        intro H locs t hH hal hs1 hs2
        exact ⟨z, rfl, ⟨rfl, hH.1.kept (fun k9 q9 h9 => hs2 q9.1 (hH.1 k9 q9 h9).lt), hH.2.1⟩, ⟨Nat.le_trans hH.2.2.1 hs1, fun q9 h1 h2 => by rw [hs2 q9 (Nat.lt_of_lt_of_le h1 hH.2.2.1)]; exact hH.2.2.2.1 q9 h1 h2⟩⟩
      · intro pc H locs ls hH hd
        exact vx_ret (W.vret B.exec B.bytes B.returns (fun t ht hW => ⟨⟨z, rfl, rfl, by rw [ht]; exact hH.1, hH.2.1⟩, hH.2.2.F ht⟩) hH.2.2.2.2 hd B.notSynchronized))
  rw [lg_entry_eq]
  exact hb s.heap [] _ ⟨hP, hD, va_S.rf⟩ (lv_entry (av q) (n := nL) (hlen q))
theorem apXi_of {l : Launch} {lay : List apK} {X : (Nat → Prop) → State → Prop} {y : MethodName} {ws ws' : List Cond} {k n : Nat} {av : (Nat → Nat) → List Value} {σ : apM} {res : (String × apM) ⊕ (Int32 × apM)} {cc : ByteArray} {nL : Nat} (hy : plainName y.cls = true) (hw : ws = Cond.code y cc nL (some .int) :: ws') (hlen : ∀ q, (lg_sl (av q)).length ≤ nL)
    (body : ∀ (Γ : apC) (q : Nat → Nat), Γ.1.2.1 = l → apG Γ cc nL y.cls ws (apRm k n) X → (match res with | .inl z => apTh Γ n (6 * n) z.1 (apU lay q (apd Γ) z.2) | .inr z => apR Γ cc n (6 * n) (some z.1) (apU lay q (apd Γ) z.2)) → apV Γ nL (apU lay q (apd Γ) σ) 0 0 0 (lv_args 0 (av q)) []) : apXi l lay X y ws k n av σ res := by
  intro D d q sz
  refine vx_ofW (cc := cc) (maxL := nL) (ret := some .int) hy hw ?_
  intro p e s m args below meth c s₁ B hml htab hv
  obtain ⟨rfl, hsz, hP, hK, hD0, hXs⟩ := hv
  subst hsz
  have hD := hD0.self (sz := s.heap.size)
  have hts := atoms_spec (ws := ws) B.pre
  have hb := body ((p, l, e, apRm k n, s), ((m, (av q).toArray, below, meth, c), (vx_MQ below (va_Qi (fun (r : Int32) (σ' : apM) => res = .inr (r, σ')) (fun σ' => apB lay D d q s.heap.size σ σ') (va_A (apU lay q d σ) s.heap.size)) (vx_X (fun z : String × apM => res = .inl z) (fun E z t => E = z.1 ∧ apB lay D d q s.heap.size σ z.2 t) (va_A (apU lay q d σ) s.heap.size)) (av q).toArray s n (6 * n) (va_A (apU lay q d σ) s.heap.size), D, d, va_A (apU lay q d σ) s.heap.size))) q rfl
    ⟨B.exec, B.bytes, hml, findClass_of_methodNamed B.named, hts, hK, rfl, fun q h => Or.inr h, hXs, B.notSynchronized⟩
    (by
      rcases res with z | z
      · refine ⟨htab, _, _, _, rfl, ?_, fun _ h => h⟩
        intro H locs t hH hal hs1 hs2
        exact ⟨z, rfl, ⟨rfl, hH.1.kept (fun k9 q9 h9 => hs2 q9.1 (hH.1 k9 q9 h9).lt), hH.2.1⟩, ⟨Nat.le_trans hH.2.2.1 hs1, fun q9 h1 h2 => by rw [hs2 q9 (Nat.lt_of_lt_of_le h1 hH.2.2.1)]; exact hH.2.2.2.1 q9 h1 h2⟩⟩
      · intro pc H locs ls hH hd
        exact vx_ret (W.iret B.exec B.bytes B.returns (fun t ht hW => ⟨⟨z.1, z.2, rfl, rfl, by rw [ht]; exact hH.1, hH.2.1⟩, hH.2.2.F ht⟩) hH.2.2.2.2 hd B.notSynchronized))
  rw [lg_entry_eq]
  exact hb s.heap [] _ ⟨hP, hD, va_S.rf⟩ (lv_entry (av q) (n := nL) (hlen q))
section APX
variable {Γ : apC} {cc : ByteArray} {nL : Nat} {own : String} {Ts : List Cond} {rm : Room} {X : (Nat → Prop) → State → Prop} {w : va_W} {cn sn pc : Nat} {L : List (Nat × Value)} {st stk As : List Value}
variable {lay : List apK} {q : Nat → Nat} {σ : apM} {y : MethodName} {ws ws' : List Cond} {k nx : Nat} {av : (Nat → Nat) → List Value} {bytes : ByteArray} {maxL index n k0 ci N : Nat} {C : String} {T : u_T} {fl : List (Option Nat)} {ret : Option FieldType}
/-- throw new E("text") -/
theorem v_throw (G : apG Γ cc nL RX6 Ts rm apXC) (hfl : Γ.1.2.1.stackTraces = false) {mc ms ik is ic : Nat} {cls text : String} {names : List String} (K : apTh Γ mc ms cls w)
    (hcls : Bundle.fit cls = true) (hnames : ∀ n ∈ names, Bundle.fit n = true) (hk : Cond.classLink RX6 ik cls ∈ Ts) (hini : Cond.initialized cls ∈ Ts) (hstr : (is, text) ∈ apStr) (hat : ∀ w ∈ vx_atS RX6 ic cls names, w ∈ Ts)
    (hgood : (Cond.classLink RX6 ik cls :: Cond.initialized cls :: vx_atS RX6 ic cls names).all vx_ot = true)
    (hR : names.length + 3 < rm.frames ∧ 8 + (13 * (names.length + 1) + 43) ≤ rm.locals) (hst : (st.map fun v => v.category).sum ≤ 8) (hcs : cn + 1 ≤ rm.cells ∧ sn + 6 ≤ rm.slots) (hc : cn + 1 ≤ mc) (hs : sn + 6 ≤ ms)
    (d0 : decode cc pc = .ok (.new ik, 3)) (d3 : decode cc (pc + 3) = .ok (.dup, 1)) (d4 : decode cc (pc + 4) = .ok (.ldc is, 2)) (d6 : decode cc (pc + 6) = .ok (.invokespecial ic, 3)) (d9 : decode cc (pc + 9) = .ok (.athrow, 1)) :
    apV Γ nL w cn sn pc L st := fun H locs ls hH hL => by
  obtain ⟨htab, Qc, XC, free, hQ, hx, hf⟩ := K
  obtain ⟨sa, hsa⟩ := G.2.2.2.2.2.2.2.2.1.2.2.2.2.2 _ hstr
  have hrm := G.2.2.2.2.2.2.1
  show W _ _ _ _ _ _ _ _ _ _ _ _ _ _ Γ.2.2.1 _
  rw [hQ]
  exact vx_throwS G.1 G.2.1 hfl G.2.2.2.1 hcls hnames (G.2.2.2.2.1 _ hk) (G.2.2.2.2.1 _ hini) hsa (fun w hw => G.2.2.2.2.1 _ (hat w hw)) (List.all_eq_true.mp hgood) G.2.2.2.2.2.2.2.2.1.2.2.2.1 G.2.2.2.2.2.2.2.2.1.2.2.2.2.1 hH.2.2 (hL.1.trans G.2.2.1.symm) d0 d3 d4 d6 d9 (fun x hx => (htab x hx).elim) (by rw [hrm]; exact hR.1) (by rw [hrm]; have := hR.2; omega) (by rw [hrm]; exact hcs.1) (by rw [hrm]; exact hcs.2) G.2.2.2.2.2.2.2.2.2
    (fun t h1 h2 h3 => hx H locs t hH h1 h2 h3) (fun z hz => hf _ (hH.2.2.2.2 z hz)) hc hs
/-- a callee has thrown: it goes on to the caller -/
theorem ap_out (G : apG Γ cc nL own Ts rm X) {mc ms : Nat} {E : String} (K : apTh Γ mc ms E w) {H : Heap} {locs : List Loc} {ls : Array Slot} {ce : Cell} {q9 : Addr} (hH : apH Γ w H locs) (hcell : H[q9]? = some ce) (hv : ce.vm = .none) (hcl : (apS Γ).vm.findClass E = some ce.cls) (hc : cn ≤ mc) (hs : sn ≤ ms) :
    vx_W Γ.1.1 Γ.1.2.1 Γ.1.2.2.1 Γ.1.2.2.2.1 (apS Γ) Γ.2.1.1 Γ.2.1.2.1 Γ.2.1.2.2.1 Γ.2.1.2.2.2.1 Γ.2.1.2.2.2.2 H locs cn sn Γ.2.2.1 (F0 Γ.2.1.1 pc ls st) q9 := by
  obtain ⟨htab, Qc, XC, free, hQ, hx, hf⟩ := K
  rw [hQ]
  exact vx_out (fun x hx => (htab x hx).elim) G.2.2.2.2.2.2.2.2.2 hcell hv hcl (fun t ht hal => hx H locs t hH hal (by rw [ht]; exact Nat.le_refl _) (fun q _ => by rw [ht])) (fun z hz => hf _ (hH.2.2.2.2 z hz)) hc hs
theorem v_xvV_t (G : apG Γ cc nL own Ts rm X) (hX : apXok X) {z : String × apM} (hM : apXv Γ.1.2.1 lay X y ws k nx av σ (.inl z)) (hG : GoodIn Ts (wsV own index C y ws)) (hw : ws = Cond.code y bytes maxL ret :: ws') (hd0 : y.cls = C ∧ y.cls ≠ "java/lang/invoke/MethodHandle" ∧ y.cls ≠ "java/lang/invoke/VarHandle" ∧ (parseMethodDescriptor y.desc).map (fun d => d.parameters.length) = some n) (hR : k + 1 ≤ rm.frames ∧ 8 + (maxL + 11) + 64 * k ≤ rm.locals) (hk0 : lay[k0]? = some (.inl (ci, fl))) (hc : vwCl[ci]? = some (C, T, N)) (hav : av q = .ref (q k0) :: As) (hn : As.length = n) (hst : (st.map fun v => v.category).sum ≤ 8) (hcs : cn + nx ≤ rm.cells ∧ sn + 6 * nx ≤ rm.slots) (hstk : stk = As.reverse ++ .ref (q k0) :: st) {mc ms : Nat} (hm : cn + nx ≤ mc ∧ sn + 6 * nx ≤ ms) (hd : decode cc pc = .ok (.invokevirtual index, 3))
    (K : apTh Γ mc ms z.1 (apU lay q (apd Γ) z.2)) : apV Γ nL (apU lay q (apd Γ) σ) cn sn pc L stk := fun H locs ls hH hL => by
  subst hstk
  refine vx_callv (vx_runV (As := As) (rest := st) ⟨G.1, G.2.1, G.2.2.1, G.2.2.2.1, G.2.2.2.2.1⟩ (hM (apD Γ) (apd Γ) q H.size) (cwV n G.2.2.2.2.1 hG hw rfl rfl hd0 ⟨by rw [G.2.2.2.2.2.2.1]; exact hR.1, by rw [G.2.2.2.2.2.2.1]; exact hR.2⟩) ⟨apPc_blind hX, va_recv G.2.2.2.2.2.1 hH.1 hc (apU_get hk0), fun U hU hW => by rw [← hav]; exact ap_pre G hX hH U hU hW⟩ rfl hn hL.1 rfl (lv_room hst) hd ⟨by rw [G.2.2.2.2.2.2.1]; exact hcs.1, by rw [G.2.2.2.2.2.2.1]; exact hcs.2⟩) hH.2.2 (fun q _ h => ap_free G hH q h) (ap_free G hH) (fun q _ h => ap_free G hH q h) (fun E ce q9 u t H1 locs1 ht hal hpx hB hz1 hk1 hS hce hcv hcl => ?_) (fun u t H1 locs1 ht hvm hw1 hB hz1 hk1 hS => nomatch hw1)
  cases hpx
  obtain ⟨rfl, hB⟩ := hB
  exact ap_out G K ⟨by rw [← ht]; exact hB.1, hB.2.weaken (fun _ q _ h => ap_free G hH _ h), hS⟩ hce hcv hcl hm.1 hm.2
theorem v_xvV (G : apG Γ cc nL own Ts rm X) (hX : apXok X) {σ' : apM} (hM : apXv Γ.1.2.1 lay X y ws k nx av σ (.inr σ')) (hG : GoodIn Ts (wsV own index C y ws)) (hw : ws = Cond.code y bytes maxL ret :: ws') (hd0 : y.cls = C ∧ y.cls ≠ "java/lang/invoke/MethodHandle" ∧ y.cls ≠ "java/lang/invoke/VarHandle" ∧ (parseMethodDescriptor y.desc).map (fun d => d.parameters.length) = some n) (hR : k + 1 ≤ rm.frames ∧ 8 + (maxL + 11) + 64 * k ≤ rm.locals) (hk0 : lay[k0]? = some (.inl (ci, fl))) (hc : vwCl[ci]? = some (C, T, N)) (hav : av q = .ref (q k0) :: As) (hn : As.length = n) (hst : (st.map fun v => v.category).sum ≤ 8) (hcs : cn + nx ≤ rm.cells ∧ sn + 6 * nx ≤ rm.slots) (hstk : stk = As.reverse ++ .ref (q k0) :: st) (hd : decode cc pc = .ok (.invokevirtual index, 3))
    (kk : apV Γ nL (apU lay q (apd Γ) σ') (cn + nx) (sn + 6 * nx) (pc + 3) L st) : apV Γ nL (apU lay q (apd Γ) σ) cn sn pc L stk := fun H locs ls hH hL => by
  subst hstk
  refine vx_callv (vx_runV (As := As) (rest := st) ⟨G.1, G.2.1, G.2.2.1, G.2.2.2.1, G.2.2.2.2.1⟩ (hM (apD Γ) (apd Γ) q H.size) (cwV n G.2.2.2.2.1 hG hw rfl rfl hd0 ⟨by rw [G.2.2.2.2.2.2.1]; exact hR.1, by rw [G.2.2.2.2.2.2.1]; exact hR.2⟩) ⟨apPc_blind hX, va_recv G.2.2.2.2.2.1 hH.1 hc (apU_get hk0), fun U hU hW => by rw [← hav]; exact ap_pre G hX hH U hU hW⟩ rfl hn hL.1 rfl (lv_room hst) hd ⟨by rw [G.2.2.2.2.2.2.1]; exact hcs.1, by rw [G.2.2.2.2.2.2.1]; exact hcs.2⟩) hH.2.2 (fun q _ h => ap_free G hH q h) (ap_free G hH) (fun q _ h => ap_free G hH q h) (fun E ce q9 u t H1 locs1 ht hal hpx hB hz1 hk1 hS hce hcv hcl => nomatch hpx) (fun u t H1 locs1 ht hvm hw1 hB hz1 hk1 hS => ?_)
  cases hw1
  exact kk H1 locs1 ls ⟨by rw [← ht]; exact hB.1, hB.2.weaken (fun _ q _ h => ap_free G hH _ h), hS⟩ hL
theorem v_xvS_t (G : apG Γ cc nL own Ts rm X) (hX : apXok X) {z : String × apM} (hM : apXv Γ.1.2.1 lay X y ws k nx av σ (.inl z)) (hG : GoodIn Ts (va_wsS own index y ws)) (hw : ws = Cond.code y bytes maxL ret :: ws') (hd0 : y.cls ≠ "java/lang/invoke/MethodHandle" ∧ y.cls ≠ "java/lang/invoke/VarHandle" ∧ (parseMethodDescriptor y.desc).map (fun d => d.parameters.length) = some n) (hR : k + 1 ≤ rm.frames ∧ 8 + (maxL + 11) + 64 * k ≤ rm.locals) (hav : av q = As) (hn : As.length = n) (hst : (st.map fun v => v.category).sum ≤ 8) (hcs : cn + nx ≤ rm.cells ∧ sn + 6 * nx ≤ rm.slots) (hstk : stk = As.reverse ++ st) {mc ms : Nat} (hm : cn + nx ≤ mc ∧ sn + 6 * nx ≤ ms) (hd : decode cc pc = .ok (.invokestatic index, 3))
    (K : apTh Γ mc ms z.1 (apU lay q (apd Γ) z.2)) : apV Γ nL (apU lay q (apd Γ) σ) cn sn pc L stk := fun H locs ls hH hL => by
  subst hstk
  refine vx_callv (vx_runS (As := As) (rest := st) ⟨G.1, G.2.1, G.2.2.1, G.2.2.2.1, G.2.2.2.2.1⟩ (hM (apD Γ) (apd Γ) q H.size) (va_cwS n G.2.2.2.2.1 hG hw rfl rfl hd0 ⟨by rw [G.2.2.2.2.2.2.1]; exact hR.1, by rw [G.2.2.2.2.2.2.1]; exact hR.2⟩) ⟨apPc_blind hX, fun U hU hW => by rw [← hav]; exact ap_pre G hX hH U hU hW⟩ rfl hn hL.1 rfl (lv_room hst) hd ⟨by rw [G.2.2.2.2.2.2.1]; exact hcs.1, by rw [G.2.2.2.2.2.2.1]; exact hcs.2⟩) hH.2.2 (fun q _ h => ap_free G hH q h) (ap_free G hH) (fun q _ h => ap_free G hH q h) (fun E ce q9 u t H1 locs1 ht hal hpx hB hz1 hk1 hS hce hcv hcl => ?_) (fun u t H1 locs1 ht hvm hw1 hB hz1 hk1 hS => nomatch hw1)
  cases hpx
  obtain ⟨rfl, hB⟩ := hB
  exact ap_out G K ⟨by rw [← ht]; exact hB.1, hB.2.weaken (fun _ q _ h => ap_free G hH _ h), hS⟩ hce hcv hcl hm.1 hm.2
theorem v_xvS (G : apG Γ cc nL own Ts rm X) (hX : apXok X) {σ' : apM} (hM : apXv Γ.1.2.1 lay X y ws k nx av σ (.inr σ')) (hG : GoodIn Ts (va_wsS own index y ws)) (hw : ws = Cond.code y bytes maxL ret :: ws') (hd0 : y.cls ≠ "java/lang/invoke/MethodHandle" ∧ y.cls ≠ "java/lang/invoke/VarHandle" ∧ (parseMethodDescriptor y.desc).map (fun d => d.parameters.length) = some n) (hR : k + 1 ≤ rm.frames ∧ 8 + (maxL + 11) + 64 * k ≤ rm.locals) (hav : av q = As) (hn : As.length = n) (hst : (st.map fun v => v.category).sum ≤ 8) (hcs : cn + nx ≤ rm.cells ∧ sn + 6 * nx ≤ rm.slots) (hstk : stk = As.reverse ++ st) (hd : decode cc pc = .ok (.invokestatic index, 3))
    (kk : apV Γ nL (apU lay q (apd Γ) σ') (cn + nx) (sn + 6 * nx) (pc + 3) L st) : apV Γ nL (apU lay q (apd Γ) σ) cn sn pc L stk := fun H locs ls hH hL => by
  subst hstk
  refine vx_callv (vx_runS (As := As) (rest := st) ⟨G.1, G.2.1, G.2.2.1, G.2.2.2.1, G.2.2.2.2.1⟩ (hM (apD Γ) (apd Γ) q H.size) (va_cwS n G.2.2.2.2.1 hG hw rfl rfl hd0 ⟨by rw [G.2.2.2.2.2.2.1]; exact hR.1, by rw [G.2.2.2.2.2.2.1]; exact hR.2⟩) ⟨apPc_blind hX, fun U hU hW => by rw [← hav]; exact ap_pre G hX hH U hU hW⟩ rfl hn hL.1 rfl (lv_room hst) hd ⟨by rw [G.2.2.2.2.2.2.1]; exact hcs.1, by rw [G.2.2.2.2.2.2.1]; exact hcs.2⟩) hH.2.2 (fun q _ h => ap_free G hH q h) (ap_free G hH) (fun q _ h => ap_free G hH q h) (fun E ce q9 u t H1 locs1 ht hal hpx hB hz1 hk1 hS hce hcv hcl => nomatch hpx) (fun u t H1 locs1 ht hvm hw1 hB hz1 hk1 hS => ?_)
  cases hw1
  exact kk H1 locs1 ls ⟨by rw [← ht]; exact hB.1, hB.2.weaken (fun _ q _ h => ap_free G hH _ h), hS⟩ hL
end APX
end
section
/-! ===== 'throw new E("text")' where E's own constructor stands at another pool index (follows the proof of the library's Stand.ctorThrowS, with chainSX in chainS' place) ===== -/
section APZ
variable {p : Program} {l : Launch} {e : Env} {R : Room} {s : State} {m₀ : MethodId} {args : Array Value} {below : List Frame} {meth : Method} {c : Code} {W0 : State} {locs : List Loc} {cells slots : Nat}
set_option maxHeartbeats 4000000 in
theorem ap_ctorThrowSX (X : Stand p l e R s m₀ args below meth c W0 locs cells slots) (hexec : p.tables.exec = Jvm.exec) (htr : e.platform.stackTraces = false) {own cls : String} {names : List String} {ic ix : Nat} {rx : ByteArray}
    (x0 : decode rx 0 = .ok (.aload_n 0, 1)) (x1 : decode rx 1 = .ok (.aload_n 1, 1)) (x2 : decode rx 2 = .ok (.invokespecial ix, 3)) (x5 : decode rx 5 = .ok (.return_, 1))
    (hown : s.vm.findClass own = some m₀.cls) (hcls : Bundle.fit cls = true) (hnames : ∀ n ∈ names, Bundle.fit n = true)
    (h : ∀ a ∈ Bundle.ownAtomsX own ic cls ix rx names, a.before args s = true)
    (hlocs : ∀ x ∈ locs, ∀ cell, s.heap[x.base]? = some cell → cell.vm.isStatics = false)
    {a : Addr} {cX : ClassId} {kX : Class} (hfoundX : s.vm.findClass cls = some cX) (hkX : s.vm.classes[cX]? = some kX) (hcell : W0.heap[a]? = some (freshCell cX kX)) (hnew : s.heap.size ≤ a)
    {msg : Value} (hmsg : msg.isRef = true)
    {g : JFrame} (hg : g.method = m₀) (hsize : g.locals.size = c.maxLocals) (hlocked : g.locked = none) (hentered : g.entered = []) {rest : List Value} (hstack : g.stack = msg :: .ref a :: .ref a :: rest)
    (hd6 : decode c.code g.pc = .ok (.invokespecial ic, 3)) (hd9 : decode c.code (g.pc + 3) = .ok (.athrow, 1)) (hout : ∀ x ∈ c.exceptionTable.toList, covers x (g.pc + 3) = false)
    (hRframes : names.length + 3 < R.frames) (hRlocals : 2 * g.monitorRoom + ((Value.ref a :: rest).map fun v => v.category).sum + (13 * (names.length + 1) + 42) ≤ R.locals) (hlocks : meth.locks = false) :
    ∃ U : State, Steps p.tables e below (W0.setTop g) U ∧ U.status = .running ∧ Ended U below (.threw a) ∧ s.WarmedH U.vm ∧ s.sameButNew ({ U with vm := s.vm } : State) locs cells slots ∧
      ∃ ce, U.heap[a]? = some ce ∧ ce.vm = .none ∧ s.vm.findClass cls = some ce.cls := by
  have howns : e.platform.frameOwnsMonitors = true := by rw [X.admits.platform]
  have hfin : e.platform.finalization = false := by rw [X.admits.platform]
  have hpl : e.platform.magicAccessors = ({} : Platform).magicAccessors := by rw [X.admits.platform]
  have a' : ∀ x, x ∈ Bundle.ownAtomsX own ic cls ix rx names → x.holds args s none s [] = true := fun x hx => h x hx
  obtain ⟨T, Z0, L, -, Y⟩ := ThrowableC.of_atoms (args := args) howns hfin hpl (fun x hx => h x (by simp [Bundle.ownAtomsX, hx]))
  obtain ⟨Z, M, LZ, LM, hnZ⟩ := Init0T.ofS_atoms (args := args) hpl L Y (fun x hx => h x (by simp [Bundle.ownAtomsX, hx]))
  obtain ⟨P1, Ps, hlen, L1, hL, hP1m, hlink1, hlink⟩ := Bundle.chainSX (args := args) hpl hnZ x0 x1 x2 x5 names cls hcls hnames (fun x hx => h x (by simp [Bundle.ownAtomsX, hx]))
  have hfound : s.vm.findClass cls = some P1.m.cls := findClass_of_methodNamed hP1m
  cases Option.some.inj (hfoundX.symm.trans hfound)
  obtain ⟨c1, kX', hc1, hk, hord, -, -, hn6⟩ := Cond.instantiable_spec (a' (.instantiable cls 6) (by simp [Bundle.ownAtomsX]))
  cases Option.some.inj (hc1.symm.trans hfound)
  cases Option.some.inj (hkX.symm.trans hk)
  have hsel0 : selectMethod e.platform s.vm P1.m.cls T.fill0 = .method T.fill0 := by
    obtain ⟨c2, r2, m2, q1, q2, q3, q4, -⟩ := Cond.selects_spec (a' (.selects cls Bundle.tFill0 Bundle.tFill0) (by simp [Bundle.ownAtomsX]))
    cases Option.some.inj (q1.symm.trans hfound)
    cases Option.some.inj (q2.symm.trans (State.methodFound?_of_named Y.fill0 (by decide)))
    cases Option.some.inj (q3.symm.trans Y.fill0)
    rw [Launch.admits_selectMethod X.admits]; exact q4
  have hselF : selectMethod e.platform s.vm P1.m.cls T.fill = .method T.fill := by
    obtain ⟨c2, r2, m2, q1, q2, q3, q4, -⟩ := Cond.selects_spec (a' (.selects cls Bundle.tFill Bundle.tFill) (by simp [Bundle.ownAtomsX]))
    cases Option.some.inj (q1.symm.trans hfound)
    cases Option.some.inj (q2.symm.trans (State.methodFound?_of_named Y.fill (by decide)))
    cases Option.some.inj (q3.symm.trans Y.fill)
    rw [Launch.admits_selectMethod X.admits]; exact q4
  obtain ⟨cellS0, hcS0, hiss⟩ := Y.statics
  obtain ⟨u0, hu0⟩ := Cond.staticRefV Y.unassigned L.unassignedStatic L.statics hcS0 hiss (a' (.isRef (.static Bundle.tN "UNASSIGNED_STACK" Bundle.steD)) (by simp [Bundle.ownAtomsX]))
  obtain ⟨sen, hsen⟩ := Cond.staticRefV Y.sentinel L.sentinelStatic L.statics hcS0 hiss (a' (.isRef (.static Bundle.tN "SUPPRESSED_SENTINEL" Bundle.listD)) (by simp [Bundle.ownAtomsX]))
  obtain ⟨ci198, i198, fB, hk198, hg198, ha198, hsB, -, hnB, htB, hffB⟩ := Cond.ownField (t := .object "java/lang/Object") Y.found L.cls (by decide +kernel) (a' (.fieldLink Bundle.tN 198 Bundle.tN "backtrace" "Ljava/lang/Object;") (by simp [Bundle.ownAtomsX])) (a' (.lays Bundle.tN Bundle.tN "backtrace" "Ljava/lang/Object;") (by simp [Bundle.ownAtomsX])) e.platform hpl
  obtain ⟨cellS, hcS', heS, -, hkeep⟩ := X.same.2.2.2.2.2 T.aS cellS0 hcS0
  have hcellS : W0.heap[T.aS]? = some cellS := hcS'
  have hout' : ∀ i, (⟨T.aS, i⟩ : Loc) ∉ locs := fun i hmem => by
    have := hlocs _ hmem cellS0 hcS0
    rw [hiss] at this; cases this
  have hknownS : cellS.vm ≠ .unknown := by
    rw [heS]; intro hu
    rw [show cellS0.vm = .unknown from hu] at hiss
    cases hiss
  have hneS : T.aS ≠ a := Nat.ne_of_lt (Nat.lt_of_lt_of_le (Array.getElem?_eq_some_iff.mp hcS0).1 hnew)
  obtain ⟨iM, hffM⟩ := Y.msg
  obtain ⟨tyC, dC, hdC, hdnC⟩ := Cond.laysAt hfound hk Y.cause (a' (.lays cls Bundle.tN "cause" "Ljava/lang/Throwable;") (by simp [Bundle.ownAtomsX]))
  obtain ⟨tyS, dS, hdS, hdnS⟩ := Cond.laysAt hfound hk Y.stack (a' (.lays cls Bundle.tN "stackTrace" Bundle.steD) (by simp [Bundle.ownAtomsX]))
  obtain ⟨tyP, dP, hdP, hdnP⟩ := Cond.laysAt hfound hk Y.supp (a' (.lays cls Bundle.tN "suppressedExceptions" Bundle.listD) (by simp [Bundle.ownAtomsX]))
  obtain ⟨tyM, dM, hdM, hdnM⟩ := Cond.laysAt hfound hk hffM (a' (.lays cls Bundle.tN "detailMessage" "Ljava/lang/String;") (by simp [Bundle.ownAtomsX]))
  obtain ⟨tyB, dB, hdB, hdnB⟩ := Cond.laysAt hfound hk hffB (a' (.lays cls Bundle.tN "backtrace" "Ljava/lang/Object;") (by simp [Bundle.ownAtomsX]))
  have bC := Cond.laysApart hdB hdC hdnB hdnC (by rw [hnB, Y.causeName]; decide)
  have bS := Cond.laysApart hdB hdS hdnB hdnS (by rw [hnB, Y.stackName]; decide)
  have bP := Cond.laysApart hdB hdP hdnB hdnP (by rw [hnB, Y.suppName]; decide)
  have hskip : SkipFacts T e.platform s (fun u => u) u0 ((preparedCellV T.toThrowableT (freshCell P1.m.cls kX) a u0 sen).withEntry W0.cur) :=
    ⟨{ ci198 := ci198, i198 := i198, fBack := fB }, ⟨hk198, hg198, ha198, hsB⟩, by
      have := fresh_default (c := P1.m.cls) tyB
      rw [htB] at this
      simpa [preparedCellV, Cell.setSlot, Cell.withEntry, Array.getElem?_setIfInBounds, bC, bS, bP, bC.symm, bS.symm, bP.symm, defaultValue] using this, fun _ _ => rfl⟩
  obtain ⟨tm, methC, cdC, kC, vm₁, hnC, -, -, -, -, -, -, -, hW₁, st1⟩ := Steps.initColdS (tb := p.tables) (e := e) (below := below) (s := s) (U := W0) X.here hexec X.warmed hpl hown (t := Bundle.initS cls) rfl rfl (Bundle.fit_spec hcls).2
    (a' (.methodLink own ic (Bundle.initS cls)) (by simp [Bundle.ownAtomsX])) (h (.instanceMethod (Bundle.initS cls)) (by cases names <;> simp [Bundle.ownAtomsX, Bundle.chainSAtomsX, Bundle.passSAtoms])) (bytes := rx) (maxL := 2) (h (.code (Bundle.initS cls) rx 2 none) (by cases names <;> simp [Bundle.ownAtomsX, Bundle.chainSAtomsX, Bundle.passSAtoms]))
    (f := g) hg (a := a) (msg := msg) (rest := .ref a :: rest) hstack hd6
  cases Option.some.inj (hnC.symm.trans hP1m)
  have X₁ := X.noted hW₁
  obtain ⟨vm₂, X₂, st2⟩ := X₁.ctorMessageOffV hexec (g := { g with stack := .ref a :: rest }) hg hsize T L Z LZ M LM (P1 :: Ps)
    (fun P hP => by rcases List.mem_cons.mp hP with rfl | hP; exact L1; exact hL P hP) ⟨hlink1, hlink⟩ (u0 := u0) (sen := sen) (self := a) hmsg (cell := freshCell P1.m.cls kX) (cellS := cellS)
    hcell (fun _ => by simp) (by simp) rfl rfl hsel0 hselF hcellS hneS hknownS (by rw [hkeep _ (hout' _)]; exact hu0) (by rw [hkeep _ (hout' _)]; exact hsen)
    (Takes.of_laid hk hord tyC (by rw [Y.causeType]; rfl)) (Takes.of_laid hk hord tyS (by rw [Y.stackType]; exact fits_refV_array _ u0)) (Takes.of_laid hk hord tyP (by rw [Y.suppType]; exact fits_refV_object _ sen))
    (Takes.of_laid hk hord tyM (by rw [Y.msgType]; exact fits_refV_object _ ⟨msg, hmsg⟩)) Y.objLocals hskip htr [] hd6
    (by simp only [List.length_cons, hlen]; omega) (by simp only [List.length_cons, hlen]; exact hRlocals)
  obtain ⟨hwalk, hrun, hended, hWU, hsame⟩ := X₂.athrowLeaves hexec (g := { g with stack := .ref a :: rest, pc := g.pc + 3 }) hg hlocked hentered hout (a := a) (rest := rest) rfl hd9 hlocks
  have hlt : a < ((W0.setVm vm₁).setVm vm₂).heap.size := (Array.getElem?_eq_some_iff.mp hcell).1
  have hU := heapAt_setCell_self (s := (W0.setVm vm₁).setVm vm₂) (plainBareV T.toThrowableT (freshCell P1.m.cls kX) a u0 sen msg) hlt
  refine ⟨_, st1 _ (fun acts => ?_), hrun, hended, hWU, hsame.weaken (fun y hy hlt' => ?_) (Nat.le_refl _) (Nat.le_refl _), _, hU, rfl, hfound⟩
  · rw [doInvoke_state]
    exact st2 _ hwalk
  · rcases List.mem_append.mp hy with h1 | h1
    · exact h1
    · exfalso
      have hb : y.base = a := by
        simp only [List.mem_cons, List.not_mem_nil, or_false] at h1
        rcases h1 with rfl | rfl | rfl | rfl | rfl <;> rfl
      rw [hb] at hlt'
      exact Nat.not_lt.mpr hnew hlt'
end APZ
section APY
variable {p : Program} {l : Launch} {e : Env} {R : Room} {s : State} {m : MethodId} {args : Array Value} {below : List Frame} {meth : Method} {c : Code} {H : Heap} {locs : List Loc} {cells slots : Nat} {Q : State → Prop}
variable {mc ms : Nat} {free : Addr → Prop} {ls : Array Slot} {rest : List Value} {Qc : Array Value → State → Outcome → State → Prop} {XC : String → State → State → Prop}
set_option maxHeartbeats 4000000 in
/-- (follows vx_throwS) -/
theorem ap_throwSX {cc : ByteArray} {pc : Nat} (hexec : p.tables.exec = Jvm.exec) (hb : c.code = cc) (hl : l.stackTraces = false) {own cls text : String} {names : List String} {ik is ic mc ms sa ix : Nat} {rx : ByteArray} {A : Nat → Prop}
    (x0 : decode rx 0 = .ok (.aload_n 0, 1)) (x1 : decode rx 1 = .ok (.aload_n 1, 1)) (x2 : decode rx 2 = .ok (.invokespecial ix, 3)) (x5 : decode rx 5 = .ok (.return_, 1))
    (hown : s.vm.findClass own = some m.cls) (hcls : Bundle.fit cls = true) (hnames : ∀ n ∈ names, Bundle.fit n = true)
    (hk : (Cond.classLink own ik cls).before args s = true) (hini : (Cond.initialized cls).before args s = true) (hstr : vk_R own is text sa s) (hat : ∀ w ∈ vx_atSX own ic cls ix rx names, w.before args s = true)
    (hgood : ∀ w ∈ Cond.classLink own ik cls :: Cond.initialized cls :: vx_atSX own ic cls ix rx names, vx_ot w = true)
    (hU : vx_Zq Bundle.tN "UNASSIGNED_STACK" Bundle.steD A s s.heap) (hN : vx_Zq Bundle.tN "SUPPRESSED_SENTINEL" Bundle.listD A s s.heap) (hS : va_S A s.heap H locs) (hsize : ls.size = c.maxLocals)
    (d0 : decode cc pc = .ok (.new ik, 3)) (d3 : decode cc (pc + 3) = .ok (.dup, 1)) (d4 : decode cc (pc + 4) = .ok (.ldc is, 2)) (d6 : decode cc (pc + 6) = .ok (.invokespecial ic, 3)) (d9 : decode cc (pc + 9) = .ok (.athrow, 1))
    (hout : ∀ x ∈ c.exceptionTable.toList, covers x (pc + 9) = false)
    (hRframes : names.length + 3 < R.frames) (hRlocals : (rest.map fun v => v.category).sum + (13 * (names.length + 1) + 43) ≤ R.locals) (hRcells : cells + 1 ≤ R.cells) (hRslots : slots + 6 ≤ R.slots) (hlocks : meth.locks = false)
    (hx : ∀ t : State, s.vm.Alike t.vm → H.size ≤ t.heap.size → (∀ q : Nat, q < H.size → t.heap[q]? = H[q]?) → XC cls s t)
    (hf : ∀ z ∈ locs, free z.base) (hc : cells + 1 ≤ mc) (hs : slots + 6 ≤ ms) :
    W p l e R s m args below meth c H locs cells slots (vx_MQ below Qc XC args s mc ms free) (F0 m pc ls rest) := by
  intro T hT X
  have htr : e.platform.stackTraces = false := (show e.platform.stackTraces = l.stackTraces by rw [X.admits.platform]).trans hl
  have Y := vx_rebase X (R' := { frames := R.frames, locals := R.locals, cells := 1, slots := 6 }) (Nat.le_refl _) (Nat.le_refl _) hRcells hRslots
  obtain ⟨s', hA⟩ : ∃ z, z = (T.setVm s.vm).setFrames (.invoking m args :: below) := ⟨_, rfl⟩
  rw [← hA] at Y
  have hvm : s'.vm = s.vm := by rw [hA]; rfl
  have hhp : s'.heap = H := by rw [hA]; exact hT
  have hW0 : s.WarmedH s'.vm := by rw [hvm]; exact State.WarmedH.refl s
  have hat' : ∀ w ∈ vx_atSX own ic cls ix rx names, w.before args s' = true := fun w hw => vx_ot_at hW0 hvm.symm (hgood w (List.mem_cons_of_mem _ (List.mem_cons_of_mem _ hw))) (hat w hw)
  have hk' : (Cond.classLink own ik cls).before args s' = true := vx_ot_at hW0 hvm.symm (hgood _ List.mem_cons_self) hk
  have hini' : (Cond.initialized cls).before args s' = true := vx_ot_at hW0 hvm.symm (hgood _ (List.mem_cons_of_mem _ List.mem_cons_self)) hini
  have hU' : vx_Zq Bundle.tN "UNASSIGNED_STACK" Bundle.steD A s' s'.heap := by rw [hhp]; exact vx_Zq.moved hW0.alike (hU.kept hS.2.1)
  have hN' : vx_Zq Bundle.tN "SUPPRESSED_SENTINEL" Bundle.listD A s' s'.heap := by rw [hhp]; exact vx_Zq.moved hW0.alike (hN.kept hS.2.1)
  have h : ∀ w ∈ Bundle.ownAtomsX own ic cls ix rx names, w.before args s' = true := vx_own hat' (vx_isRefq hU'.1) (vx_isRefq hN'.1) hU'.2.word hN'.2.word
  have hown' : s'.vm.findClass own = some m.cls := by rw [hvm]; exact hown
  have hins : (Cond.instantiable cls 6).before args s' = true := h _ (by simp [Bundle.ownAtomsX])
  obtain ⟨vm₁, cX, kX, hfX, hkX, -, -, X₁, st1⟩ := Y.newCold hexec (own := own) (C := cls) (index := ik) (n := 6) hown' hk' hins hini'
    (g := F0 m pc ls rest) rfl (by rw [hb]; exact d0) (Nat.le_refl _) (Nat.le_refl _)
  generalize hT1 : (T.setVm vm₁).pushCell { cls := cX, slots := kX.instanceTypes.map defaultValue, vm := .none } = T1 at X₁ st1
  have hcat : (Value.ref T.heap.size).category = 1 := rfl
  have hcellA : T1.heap[T.heap.size]? = some (freshCell cX kX) := by rw [← hT1]; exact State.heap_pushCell_size _ _
  have d3' : decode c.code (pc + 3) = .ok (.dup, 1) := by rw [hb]; exact d3
  have d4' : decode c.code (pc + 4) = .ok (.ldc is, 2) := by rw [hb]; exact d4
  have hstr' : vk_R own is text sa s' := vk_R.warm hW0 hstr
  obtain ⟨U, hsteps, hrun, hend, hW, hsame, ce, hce, hcv, hcc⟩ := ap_ctorThrowSX X₁ hexec htr (own := own) (cls := cls) (names := names) (ic := ic) x0 x1 x2 x5 hown' hcls hnames h (fun x hx => nomatch hx) hfX hkX hcellA (by rw [hhp, hT]; exact Nat.le_refl _) (msg := .ref sa) rfl
    (g := { method := m, pc := pc + 6, locals := ls, stack := .ref sa :: .ref T.heap.size :: .ref T.heap.size :: rest, locked := none }) rfl hsize rfl rfl (rest := rest) rfl
    (by rw [hb]; exact d6) (by rw [hb]; exact d9) hout hRframes (by simp only [List.map_cons, List.sum_cons, hcat]; show 2 * 0 + _ + _ ≤ R.locals; omega) hlocks
  obtain ⟨f1, f2⟩ := vx_frame hsame
  rw [hhp] at f1 f2
  have hWs : s.WarmedH U.vm := State.WarmedH.trans hW0 hW
  have hcl : s.vm.findClass cls = some ce.cls := by
    rw [hvm] at hcc
    exact hcc
  have hall : s.sameButNew ({ U with vm := s.vm } : State) locs mc ms := by
    subst hA
    obtain ⟨e1, e2⟩ := hsame
    rw [State.setFrames_setFrames] at e1
    have h2 : (T.setVm s.vm).sameButNew ({ U with vm := s.vm } : State) [] (0 + 1) (0 + 6) := ⟨e1, e2⟩
    have h3 := X.same.trans h2
    rw [List.append_nil] at h3
    exact h3.mono hc hs
  refine ⟨U, ?_, .threw T.heap.size, hrun, hend, Or.inr ⟨T.heap.size, rfl, cls, ce, locs, hx U hWs.alike f1 (fun q hq => f2 q hq (fun z hz => nomatch hz)), hce, hcv, hcl, hWs, hall, hf⟩⟩
  refine st1 _ ?_
  show Steps p.tables e below (T1.setTop { method := m, pc := pc + 3, locals := ls, stack := .ref T.heap.size :: rest, locked := none }) _
  jvm_step X₁.here [X₁.here.top, hexec, d3', Value.category]
  exact X₁.ldcString hexec (own := own) (text := text) (index := is) (a := sa) hown' hstr'.1 hstr'.2
    (g := { method := m, pc := pc + 4, locals := ls, stack := .ref T.heap.size :: .ref T.heap.size :: rest, locked := none }) rfl d4' _ hsteps
end APY
section APX2
variable {Γ : apC} {cc : ByteArray} {nL : Nat} {Ts : List Cond} {rm : Room} {w : va_W} {cn sn pc : Nat} {L : List (Nat × Value)} {st : List Value}
theorem v_throwX (G : apG Γ cc nL RX6 Ts rm apXC) (hfl : Γ.1.2.1.stackTraces = false) {mc ms ik is ic ix : Nat} {rx : ByteArray} {cls text : String} {names : List String} (K : apTh Γ mc ms cls w)
    (x0 : decode rx 0 = .ok (.aload_n 0, 1)) (x1 : decode rx 1 = .ok (.aload_n 1, 1)) (x2 : decode rx 2 = .ok (.invokespecial ix, 3)) (x5 : decode rx 5 = .ok (.return_, 1))
    (hcls : Bundle.fit cls = true) (hnames : ∀ n ∈ names, Bundle.fit n = true) (hk : Cond.classLink RX6 ik cls ∈ Ts) (hini : Cond.initialized cls ∈ Ts) (hstr : (is, text) ∈ apStr) (hat : ∀ w ∈ vx_atSX RX6 ic cls ix rx names, w ∈ Ts)
    (hgood : (Cond.classLink RX6 ik cls :: Cond.initialized cls :: vx_atSX RX6 ic cls ix rx names).all vx_ot = true)
    (hR : names.length + 3 < rm.frames ∧ 8 + (13 * (names.length + 1) + 43) ≤ rm.locals) (hst : (st.map fun v => v.category).sum ≤ 8) (hcs : cn + 1 ≤ rm.cells ∧ sn + 6 ≤ rm.slots) (hc : cn + 1 ≤ mc) (hs : sn + 6 ≤ ms)
    (d0 : decode cc pc = .ok (.new ik, 3)) (d3 : decode cc (pc + 3) = .ok (.dup, 1)) (d4 : decode cc (pc + 4) = .ok (.ldc is, 2)) (d6 : decode cc (pc + 6) = .ok (.invokespecial ic, 3)) (d9 : decode cc (pc + 9) = .ok (.athrow, 1)) :
    apV Γ nL w cn sn pc L st := fun H locs ls hH hL => by
  obtain ⟨htab, Qc, XC, free, hQ, hx, hf⟩ := K
  obtain ⟨sa, hsa⟩ := G.2.2.2.2.2.2.2.2.1.2.2.2.2.2 _ hstr
  have hrm := G.2.2.2.2.2.2.1
  show W _ _ _ _ _ _ _ _ _ _ _ _ _ _ Γ.2.2.1 _
  rw [hQ]
  exact ap_throwSX G.1 G.2.1 hfl x0 x1 x2 x5 G.2.2.2.1 hcls hnames (G.2.2.2.2.1 _ hk) (G.2.2.2.2.1 _ hini) hsa (fun w hw => G.2.2.2.2.1 _ (hat w hw)) (List.all_eq_true.mp hgood) G.2.2.2.2.2.2.2.2.1.2.2.2.1 G.2.2.2.2.2.2.2.2.1.2.2.2.2.1 hH.2.2 (hL.1.trans G.2.2.1.symm) d0 d3 d4 d6 d9 (fun x hx => (htab x hx).elim) (by rw [hrm]; exact hR.1) (by rw [hrm]; have := hR.2; omega) (by rw [hrm]; exact hcs.1) (by rw [hrm]; exact hcs.2) G.2.2.2.2.2.2.2.2.2
    (fun t h1 h2 h3 => hx H locs t hH h1 h2 h3) (fun z hz => hf _ (hH.2.2.2.2 z hz)) hc hs
end APX2
theorem ns_0 : decode prog_23_method_4_code 0 = .ok (.aload_n 0, 1) := by decide +kernel
theorem ns_1 : decode prog_23_method_4_code 1 = .ok (.aload_n 1, 1) := by decide +kernel
theorem ns_2 : decode prog_23_method_4_code 2 = .ok (.invokespecial 13, 3) := by decide +kernel
theorem ns_5 : decode prog_23_method_4_code 5 = .ok (.return_, 1) := by decide +kernel
end
section
theorem tr_1 : vwCl.length = 10 := rfl
end
