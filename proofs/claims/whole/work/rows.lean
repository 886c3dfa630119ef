section
-- ===== PART A: goes FIRST, ahead of the names: the tables' words, and 'selects' of the private methods out of them =====
/-- a private method of a class that the tables say can be made, by its rows of tables_1 -/
def lw_okq (q : MethodName × Nat) : Prop := (q.1.cls ≠ "java/lang/invoke/MethodHandle" ∧ q.1.cls ≠ "java/lang/invoke/VarHandle") ∧ Cond.instantiable q.1.cls q.2 ∈ tables_1 ∧ Cond.privateMethod q.1 ∈ tables_1 ∧ Cond.instanceMethod q.1 ∈ tables_1
theorem lw_p0 : lw_okq (⟨"ArenaPlan", "forgetPlan", "()V"⟩, 9) := ⟨⟨by decide +kernel, by decide +kernel⟩, List.mem_of_getElem? (i := 23) (by decide +kernel), List.mem_of_getElem? (i := 275) (by decide +kernel), List.mem_of_getElem? (i := 276) (by decide +kernel)⟩
theorem lw_p1 : lw_okq (⟨"java/lang/Throwable", "fillInStackTrace", "(I)Ljava/lang/Throwable;"⟩, 6) := ⟨⟨by decide +kernel, by decide +kernel⟩, List.mem_of_getElem? (i := 342) (by decide +kernel), List.mem_of_getElem? (i := 340) (by decide +kernel), List.mem_of_getElem? (i := 341) (by decide +kernel)⟩
theorem lw_p2 : lw_okq (⟨"ArenaPlan$Rings", "findReach", "()V"⟩, 5) := ⟨⟨by decide +kernel, by decide +kernel⟩, List.mem_of_getElem? (i := 82) (by decide +kernel), List.mem_of_getElem? (i := 407) (by decide +kernel), List.mem_of_getElem? (i := 408) (by decide +kernel)⟩
theorem lw_p3 : lw_okq (⟨"ArenaPlan$Rings", "countSteps", "(I)V"⟩, 5) := ⟨⟨by decide +kernel, by decide +kernel⟩, List.mem_of_getElem? (i := 82) (by decide +kernel), List.mem_of_getElem? (i := 421) (by decide +kernel), List.mem_of_getElem? (i := 422) (by decide +kernel)⟩
theorem lw_p4 : lw_okq (⟨"ArenaPlan$Rings", "nearest", "(I)I"⟩, 5) := ⟨⟨by decide +kernel, by decide +kernel⟩, List.mem_of_getElem? (i := 82) (by decide +kernel), List.mem_of_getElem? (i := 426) (by decide +kernel), List.mem_of_getElem? (i := 427) (by decide +kernel)⟩
theorem lw_p5 : lw_okq (⟨"ArenaPlan$Rings", "follow", "(I)V"⟩, 5) := ⟨⟨by decide +kernel, by decide +kernel⟩, List.mem_of_getElem? (i := 82) (by decide +kernel), List.mem_of_getElem? (i := 433) (by decide +kernel), List.mem_of_getElem? (i := 434) (by decide +kernel)⟩
theorem lw_p6 : lw_okq (⟨"ArenaPlan$Plan", "findNeighbours", "()V"⟩, 12) := ⟨⟨by decide +kernel, by decide +kernel⟩, List.mem_of_getElem? (i := 106) (by decide +kernel), List.mem_of_getElem? (i := 507) (by decide +kernel), List.mem_of_getElem? (i := 508) (by decide +kernel)⟩
theorem lw_p7 : lw_okq (⟨"ArenaPlan$Plan", "orderByNumbers", "()V"⟩, 12) := ⟨⟨by decide +kernel, by decide +kernel⟩, List.mem_of_getElem? (i := 106) (by decide +kernel), List.mem_of_getElem? (i := 515) (by decide +kernel), List.mem_of_getElem? (i := 516) (by decide +kernel)⟩
theorem lw_p8 : lw_okq (⟨"ArenaPlan$Plan", "beginOrder", "()V"⟩, 12) := ⟨⟨by decide +kernel, by decide +kernel⟩, List.mem_of_getElem? (i := 106) (by decide +kernel), List.mem_of_getElem? (i := 519) (by decide +kernel), List.mem_of_getElem? (i := 520) (by decide +kernel)⟩
theorem lw_p9 : lw_okq (⟨"ArenaPlan$Plan", "leastReady", "()I"⟩, 12) := ⟨⟨by decide +kernel, by decide +kernel⟩, List.mem_of_getElem? (i := 106) (by decide +kernel), List.mem_of_getElem? (i := 523) (by decide +kernel), List.mem_of_getElem? (i := 524) (by decide +kernel)⟩
theorem lw_p10 : lw_okq (⟨"ArenaPlan$Plan", "isReady", "(I)Z"⟩, 12) := ⟨⟨by decide +kernel, by decide +kernel⟩, List.mem_of_getElem? (i := 106) (by decide +kernel), List.mem_of_getElem? (i := 527) (by decide +kernel), List.mem_of_getElem? (i := 528) (by decide +kernel)⟩
theorem lw_p11 : lw_okq (⟨"ArenaPlan$Plan", "isMissing", "(I)Z"⟩, 12) := ⟨⟨by decide +kernel, by decide +kernel⟩, List.mem_of_getElem? (i := 106) (by decide +kernel), List.mem_of_getElem? (i := 531) (by decide +kernel), List.mem_of_getElem? (i := 532) (by decide +kernel)⟩
theorem lw_p12 : lw_okq (⟨"ArenaPlan$Plan", "append", "(I)V"⟩, 12) := ⟨⟨by decide +kernel, by decide +kernel⟩, List.mem_of_getElem? (i := 106) (by decide +kernel), List.mem_of_getElem? (i := 538) (by decide +kernel), List.mem_of_getElem? (i := 539) (by decide +kernel)⟩
theorem lw_p13 : lw_okq (⟨"ArenaPlan$Plan", "sizesFit", "(I)Z"⟩, 12) := ⟨⟨by decide +kernel, by decide +kernel⟩, List.mem_of_getElem? (i := 106) (by decide +kernel), List.mem_of_getElem? (i := 542) (by decide +kernel), List.mem_of_getElem? (i := 543) (by decide +kernel)⟩
theorem lw_p14 : lw_okq (⟨"ArenaPlan$Plan", "sizeOfSource", "(II)I"⟩, 12) := ⟨⟨by decide +kernel, by decide +kernel⟩, List.mem_of_getElem? (i := 106) (by decide +kernel), List.mem_of_getElem? (i := 546) (by decide +kernel), List.mem_of_getElem? (i := 547) (by decide +kernel)⟩
theorem lw_p15 : lw_okq (⟨"ArenaPlan$Plan", "sizeOf", "(I)I"⟩, 12) := ⟨⟨by decide +kernel, by decide +kernel⟩, List.mem_of_getElem? (i := 106) (by decide +kernel), List.mem_of_getElem? (i := 550) (by decide +kernel), List.mem_of_getElem? (i := 551) (by decide +kernel)⟩
def lw_privs_1 : List (MethodName × Nat) := [(⟨"ArenaPlan", "forgetPlan", "()V"⟩, 9), (⟨"java/lang/Throwable", "fillInStackTrace", "(I)Ljava/lang/Throwable;"⟩, 6), (⟨"ArenaPlan$Rings", "findReach", "()V"⟩, 5), (⟨"ArenaPlan$Rings", "countSteps", "(I)V"⟩, 5), (⟨"ArenaPlan$Rings", "nearest", "(I)I"⟩, 5), (⟨"ArenaPlan$Rings", "follow", "(I)V"⟩, 5), (⟨"ArenaPlan$Plan", "findNeighbours", "()V"⟩, 12), (⟨"ArenaPlan$Plan", "orderByNumbers", "()V"⟩, 12), (⟨"ArenaPlan$Plan", "beginOrder", "()V"⟩, 12), (⟨"ArenaPlan$Plan", "leastReady", "()I"⟩, 12), (⟨"ArenaPlan$Plan", "isReady", "(I)Z"⟩, 12), (⟨"ArenaPlan$Plan", "isMissing", "(I)Z"⟩, 12), (⟨"ArenaPlan$Plan", "append", "(I)V"⟩, 12), (⟨"ArenaPlan$Plan", "sizesFit", "(I)Z"⟩, 12), (⟨"ArenaPlan$Plan", "sizeOfSource", "(II)I"⟩, 12), (⟨"ArenaPlan$Plan", "sizeOf", "(I)I"⟩, 12)]
theorem lw_r1 : ∀ q ∈ lw_privs_1, lw_okq q := List.forall_mem_cons.mpr ⟨lw_p0, List.forall_mem_cons.mpr ⟨lw_p1, List.forall_mem_cons.mpr ⟨lw_p2, List.forall_mem_cons.mpr ⟨lw_p3, List.forall_mem_cons.mpr ⟨lw_p4, List.forall_mem_cons.mpr ⟨lw_p5, List.forall_mem_cons.mpr ⟨lw_p6, List.forall_mem_cons.mpr ⟨lw_p7, List.forall_mem_cons.mpr ⟨lw_p8, List.forall_mem_cons.mpr ⟨lw_p9, List.forall_mem_cons.mpr ⟨lw_p10, List.forall_mem_cons.mpr ⟨lw_p11, List.forall_mem_cons.mpr ⟨lw_p12, List.forall_mem_cons.mpr ⟨lw_p13, List.forall_mem_cons.mpr ⟨lw_p14, List.forall_mem_cons.mpr ⟨lw_p15, fun _ h => absurd h List.not_mem_nil⟩⟩⟩⟩⟩⟩⟩⟩⟩⟩⟩⟩⟩⟩⟩⟩
theorem lw_p16 : lw_okq (⟨"ArenaPlan$Plan", "labelOf", "(I)I"⟩, 12) := ⟨⟨by decide +kernel, by decide +kernel⟩, List.mem_of_getElem? (i := 106) (by decide +kernel), List.mem_of_getElem? (i := 554) (by decide +kernel), List.mem_of_getElem? (i := 555) (by decide +kernel)⟩
theorem lw_p17 : lw_okq (⟨"ArenaPlan$Plan", "orderByLabels", "()V"⟩, 12) := ⟨⟨by decide +kernel, by decide +kernel⟩, List.mem_of_getElem? (i := 106) (by decide +kernel), List.mem_of_getElem? (i := 570) (by decide +kernel), List.mem_of_getElem? (i := 571) (by decide +kernel)⟩
theorem lw_p18 : lw_okq (⟨"ArenaPlan$Plan", "visit", "(I)V"⟩, 12) := ⟨⟨by decide +kernel, by decide +kernel⟩, List.mem_of_getElem? (i := 106) (by decide +kernel), List.mem_of_getElem? (i := 574) (by decide +kernel), List.mem_of_getElem? (i := 575) (by decide +kernel)⟩
theorem lw_p19 : lw_okq (⟨"ArenaPlan$Plan", "firstDue", "(I)I"⟩, 12) := ⟨⟨by decide +kernel, by decide +kernel⟩, List.mem_of_getElem? (i := 106) (by decide +kernel), List.mem_of_getElem? (i := 578) (by decide +kernel), List.mem_of_getElem? (i := 579) (by decide +kernel)⟩
theorem lw_p20 : lw_okq (⟨"ArenaPlan$Plan", "sourceToVisit", "(I)I"⟩, 12) := ⟨⟨by decide +kernel, by decide +kernel⟩, List.mem_of_getElem? (i := 106) (by decide +kernel), List.mem_of_getElem? (i := 582) (by decide +kernel), List.mem_of_getElem? (i := 583) (by decide +kernel)⟩
theorem lw_p21 : lw_okq (⟨"ArenaPlan$Plan", "lastStepOf", "(I)I"⟩, 12) := ⟨⟨by decide +kernel, by decide +kernel⟩, List.mem_of_getElem? (i := 106) (by decide +kernel), List.mem_of_getElem? (i := 586) (by decide +kernel), List.mem_of_getElem? (i := 587) (by decide +kernel)⟩
theorem lw_p22 : lw_okq (⟨"ArenaPlan$Plan", "addCosts", "()V"⟩, 12) := ⟨⟨by decide +kernel, by decide +kernel⟩, List.mem_of_getElem? (i := 106) (by decide +kernel), List.mem_of_getElem? (i := 590) (by decide +kernel), List.mem_of_getElem? (i := 591) (by decide +kernel)⟩
theorem lw_p23 : lw_okq (⟨"ArenaPlan$Places", "sortBySize", "()V"⟩, 4) := ⟨⟨by decide +kernel, by decide +kernel⟩, List.mem_of_getElem? (i := 169) (by decide +kernel), List.mem_of_getElem? (i := 598) (by decide +kernel), List.mem_of_getElem? (i := 599) (by decide +kernel)⟩
theorem lw_p24 : lw_okq (⟨"ArenaPlan$Places", "lowestStart", "(I)I"⟩, 4) := ⟨⟨by decide +kernel, by decide +kernel⟩, List.mem_of_getElem? (i := 169) (by decide +kernel), List.mem_of_getElem? (i := 602) (by decide +kernel), List.mem_of_getElem? (i := 603) (by decide +kernel)⟩
theorem lw_p25 : lw_okq (⟨"ArenaPlan$Places", "isInTheWay", "(III)Z"⟩, 4) := ⟨⟨by decide +kernel, by decide +kernel⟩, List.mem_of_getElem? (i := 169) (by decide +kernel), List.mem_of_getElem? (i := 606) (by decide +kernel), List.mem_of_getElem? (i := 607) (by decide +kernel)⟩
theorem lw_p26 : lw_okq (⟨"ArenaPlan$Places", "end", "(I)I"⟩, 4) := ⟨⟨by decide +kernel, by decide +kernel⟩, List.mem_of_getElem? (i := 169) (by decide +kernel), List.mem_of_getElem? (i := 614) (by decide +kernel), List.mem_of_getElem? (i := 615) (by decide +kernel)⟩
theorem lw_p27 : lw_okq (⟨"ArenaPlan", "needPlan", "()V"⟩, 9) := ⟨⟨by decide +kernel, by decide +kernel⟩, List.mem_of_getElem? (i := 23) (by decide +kernel), List.mem_of_getElem? (i := 645) (by decide +kernel), List.mem_of_getElem? (i := 646) (by decide +kernel)⟩
theorem lw_p28 : lw_okq (⟨"ArenaPlan$LeastPeak", "goOn", "(I)V"⟩, 2) := ⟨⟨by decide +kernel, by decide +kernel⟩, List.mem_of_getElem? (i := 212) (by decide +kernel), List.mem_of_getElem? (i := 699) (by decide +kernel), List.mem_of_getElem? (i := 700) (by decide +kernel)⟩
theorem lw_p29 : lw_okq (⟨"ArenaPlan$LeastPeak", "heldAfter", "(I)I"⟩, 2) := ⟨⟨by decide +kernel, by decide +kernel⟩, List.mem_of_getElem? (i := 212) (by decide +kernel), List.mem_of_getElem? (i := 703) (by decide +kernel), List.mem_of_getElem? (i := 704) (by decide +kernel)⟩
theorem lw_p30 : lw_okq (⟨"ArenaPlan$Cells", "workOut", "(II)I"⟩, 4) := ⟨⟨by decide +kernel, by decide +kernel⟩, List.mem_of_getElem? (i := 192) (by decide +kernel), List.mem_of_getElem? (i := 724) (by decide +kernel), List.mem_of_getElem? (i := 725) (by decide +kernel)⟩
theorem lw_p31 : lw_okq (⟨"ArenaPlan$Cells", "valueOf", "(II)I"⟩, 4) := ⟨⟨by decide +kernel, by decide +kernel⟩, List.mem_of_getElem? (i := 192) (by decide +kernel), List.mem_of_getElem? (i := 728) (by decide +kernel), List.mem_of_getElem? (i := 729) (by decide +kernel)⟩
def lw_privs_2 : List (MethodName × Nat) := [(⟨"ArenaPlan$Plan", "labelOf", "(I)I"⟩, 12), (⟨"ArenaPlan$Plan", "orderByLabels", "()V"⟩, 12), (⟨"ArenaPlan$Plan", "visit", "(I)V"⟩, 12), (⟨"ArenaPlan$Plan", "firstDue", "(I)I"⟩, 12), (⟨"ArenaPlan$Plan", "sourceToVisit", "(I)I"⟩, 12), (⟨"ArenaPlan$Plan", "lastStepOf", "(I)I"⟩, 12), (⟨"ArenaPlan$Plan", "addCosts", "()V"⟩, 12), (⟨"ArenaPlan$Places", "sortBySize", "()V"⟩, 4), (⟨"ArenaPlan$Places", "lowestStart", "(I)I"⟩, 4), (⟨"ArenaPlan$Places", "isInTheWay", "(III)Z"⟩, 4), (⟨"ArenaPlan$Places", "end", "(I)I"⟩, 4), (⟨"ArenaPlan", "needPlan", "()V"⟩, 9), (⟨"ArenaPlan$LeastPeak", "goOn", "(I)V"⟩, 2), (⟨"ArenaPlan$LeastPeak", "heldAfter", "(I)I"⟩, 2), (⟨"ArenaPlan$Cells", "workOut", "(II)I"⟩, 4), (⟨"ArenaPlan$Cells", "valueOf", "(II)I"⟩, 4)]
theorem lw_r2 : ∀ q ∈ lw_privs_2, lw_okq q := List.forall_mem_cons.mpr ⟨lw_p16, List.forall_mem_cons.mpr ⟨lw_p17, List.forall_mem_cons.mpr ⟨lw_p18, List.forall_mem_cons.mpr ⟨lw_p19, List.forall_mem_cons.mpr ⟨lw_p20, List.forall_mem_cons.mpr ⟨lw_p21, List.forall_mem_cons.mpr ⟨lw_p22, List.forall_mem_cons.mpr ⟨lw_p23, List.forall_mem_cons.mpr ⟨lw_p24, List.forall_mem_cons.mpr ⟨lw_p25, List.forall_mem_cons.mpr ⟨lw_p26, List.forall_mem_cons.mpr ⟨lw_p27, List.forall_mem_cons.mpr ⟨lw_p28, List.forall_mem_cons.mpr ⟨lw_p29, List.forall_mem_cons.mpr ⟨lw_p30, List.forall_mem_cons.mpr ⟨lw_p31, fun _ h => absurd h List.not_mem_nil⟩⟩⟩⟩⟩⟩⟩⟩⟩⟩⟩⟩⟩⟩⟩⟩
theorem lw_p32 : lw_okq (⟨"ArenaPlan$Cells", "totalOf", "(I)I"⟩, 4) := ⟨⟨by decide +kernel, by decide +kernel⟩, List.mem_of_getElem? (i := 192) (by decide +kernel), List.mem_of_getElem? (i := 732) (by decide +kernel), List.mem_of_getElem? (i := 733) (by decide +kernel)⟩
theorem lw_p33 : lw_okq (⟨"ArenaPlan", "needRun", "()V"⟩, 9) := ⟨⟨by decide +kernel, by decide +kernel⟩, List.mem_of_getElem? (i := 23) (by decide +kernel), List.mem_of_getElem? (i := 743) (by decide +kernel), List.mem_of_getElem? (i := 744) (by decide +kernel)⟩
theorem lw_p34 : lw_okq (⟨"ArenaPlanModel", "fail", "(I)I"⟩, 30) := ⟨⟨by decide +kernel, by decide +kernel⟩, List.mem_of_getElem? (i := 756) (by decide +kernel), List.mem_of_getElem? (i := 864) (by decide +kernel), List.mem_of_getElem? (i := 865) (by decide +kernel)⟩
theorem lw_p35 : lw_okq (⟨"ArenaPlanModel", "isNode", "(I)Z"⟩, 30) := ⟨⟨by decide +kernel, by decide +kernel⟩, List.mem_of_getElem? (i := 756) (by decide +kernel), List.mem_of_getElem? (i := 872) (by decide +kernel), List.mem_of_getElem? (i := 873) (by decide +kernel)⟩
theorem lw_p36 : lw_okq (⟨"ArenaPlanModel", "findRing", "()V"⟩, 30) := ⟨⟨by decide +kernel, by decide +kernel⟩, List.mem_of_getElem? (i := 756) (by decide +kernel), List.mem_of_getElem? (i := 895) (by decide +kernel), List.mem_of_getElem? (i := 896) (by decide +kernel)⟩
theorem lw_p37 : lw_okq (⟨"ArenaPlanModel", "measure", "(I)V"⟩, 30) := ⟨⟨by decide +kernel, by decide +kernel⟩, List.mem_of_getElem? (i := 756) (by decide +kernel), List.mem_of_getElem? (i := 899) (by decide +kernel), List.mem_of_getElem? (i := 900) (by decide +kernel)⟩
theorem lw_p38 : lw_okq (⟨"ArenaPlanModel", "far", "(I)I"⟩, 30) := ⟨⟨by decide +kernel, by decide +kernel⟩, List.mem_of_getElem? (i := 756) (by decide +kernel), List.mem_of_getElem? (i := 903) (by decide +kernel), List.mem_of_getElem? (i := 904) (by decide +kernel)⟩
theorem lw_p39 : lw_okq (⟨"ArenaPlanModel", "nearest", "(I)I"⟩, 30) := ⟨⟨by decide +kernel, by decide +kernel⟩, List.mem_of_getElem? (i := 756) (by decide +kernel), List.mem_of_getElem? (i := 907) (by decide +kernel), List.mem_of_getElem? (i := 908) (by decide +kernel)⟩
theorem lw_p40 : lw_okq (⟨"ArenaPlanModel", "isWired", "()Z"⟩, 30) := ⟨⟨by decide +kernel, by decide +kernel⟩, List.mem_of_getElem? (i := 756) (by decide +kernel), List.mem_of_getElem? (i := 915) (by decide +kernel), List.mem_of_getElem? (i := 916) (by decide +kernel)⟩
theorem lw_p41 : lw_okq (⟨"ArenaPlanModel", "findSizes", "()Z"⟩, 30) := ⟨⟨by decide +kernel, by decide +kernel⟩, List.mem_of_getElem? (i := 756) (by decide +kernel), List.mem_of_getElem? (i := 919) (by decide +kernel), List.mem_of_getElem? (i := 920) (by decide +kernel)⟩
theorem lw_p42 : lw_okq (⟨"ArenaPlanModel", "isReady", "(I)Z"⟩, 30) := ⟨⟨by decide +kernel, by decide +kernel⟩, List.mem_of_getElem? (i := 756) (by decide +kernel), List.mem_of_getElem? (i := 923) (by decide +kernel), List.mem_of_getElem? (i := 924) (by decide +kernel)⟩
theorem lw_p43 : lw_okq (⟨"ArenaPlanModel", "sizeOf", "(I)I"⟩, 30) := ⟨⟨by decide +kernel, by decide +kernel⟩, List.mem_of_getElem? (i := 756) (by decide +kernel), List.mem_of_getElem? (i := 927) (by decide +kernel), List.mem_of_getElem? (i := 928) (by decide +kernel)⟩
theorem lw_p44 : lw_okq (⟨"ArenaPlanModel", "orderByNumbers", "()V"⟩, 30) := ⟨⟨by decide +kernel, by decide +kernel⟩, List.mem_of_getElem? (i := 756) (by decide +kernel), List.mem_of_getElem? (i := 931) (by decide +kernel), List.mem_of_getElem? (i := 932) (by decide +kernel)⟩
theorem lw_p45 : lw_okq (⟨"ArenaPlanModel", "isThere", "(I)Z"⟩, 30) := ⟨⟨by decide +kernel, by decide +kernel⟩, List.mem_of_getElem? (i := 756) (by decide +kernel), List.mem_of_getElem? (i := 935) (by decide +kernel), List.mem_of_getElem? (i := 936) (by decide +kernel)⟩
theorem lw_p46 : lw_okq (⟨"ArenaPlanModel", "isFree", "(I)Z"⟩, 30) := ⟨⟨by decide +kernel, by decide +kernel⟩, List.mem_of_getElem? (i := 756) (by decide +kernel), List.mem_of_getElem? (i := 939) (by decide +kernel), List.mem_of_getElem? (i := 940) (by decide +kernel)⟩
theorem lw_p47 : lw_okq (⟨"ArenaPlanModel", "come", "(I)V"⟩, 30) := ⟨⟨by decide +kernel, by decide +kernel⟩, List.mem_of_getElem? (i := 756) (by decide +kernel), List.mem_of_getElem? (i := 943) (by decide +kernel), List.mem_of_getElem? (i := 944) (by decide +kernel)⟩
def lw_privs_3 : List (MethodName × Nat) := [(⟨"ArenaPlan$Cells", "totalOf", "(I)I"⟩, 4), (⟨"ArenaPlan", "needRun", "()V"⟩, 9), (⟨"ArenaPlanModel", "fail", "(I)I"⟩, 30), (⟨"ArenaPlanModel", "isNode", "(I)Z"⟩, 30), (⟨"ArenaPlanModel", "findRing", "()V"⟩, 30), (⟨"ArenaPlanModel", "measure", "(I)V"⟩, 30), (⟨"ArenaPlanModel", "far", "(I)I"⟩, 30), (⟨"ArenaPlanModel", "nearest", "(I)I"⟩, 30), (⟨"ArenaPlanModel", "isWired", "()Z"⟩, 30), (⟨"ArenaPlanModel", "findSizes", "()Z"⟩, 30), (⟨"ArenaPlanModel", "isReady", "(I)Z"⟩, 30), (⟨"ArenaPlanModel", "sizeOf", "(I)I"⟩, 30), (⟨"ArenaPlanModel", "orderByNumbers", "()V"⟩, 30), (⟨"ArenaPlanModel", "isThere", "(I)Z"⟩, 30), (⟨"ArenaPlanModel", "isFree", "(I)Z"⟩, 30), (⟨"ArenaPlanModel", "come", "(I)V"⟩, 30)]
theorem lw_r3 : ∀ q ∈ lw_privs_3, lw_okq q := List.forall_mem_cons.mpr ⟨lw_p32, List.forall_mem_cons.mpr ⟨lw_p33, List.forall_mem_cons.mpr ⟨lw_p34, List.forall_mem_cons.mpr ⟨lw_p35, List.forall_mem_cons.mpr ⟨lw_p36, List.forall_mem_cons.mpr ⟨lw_p37, List.forall_mem_cons.mpr ⟨lw_p38, List.forall_mem_cons.mpr ⟨lw_p39, List.forall_mem_cons.mpr ⟨lw_p40, List.forall_mem_cons.mpr ⟨lw_p41, List.forall_mem_cons.mpr ⟨lw_p42, List.forall_mem_cons.mpr ⟨lw_p43, List.forall_mem_cons.mpr ⟨lw_p44, List.forall_mem_cons.mpr ⟨lw_p45, List.forall_mem_cons.mpr ⟨lw_p46, List.forall_mem_cons.mpr ⟨lw_p47, fun _ h => absurd h List.not_mem_nil⟩⟩⟩⟩⟩⟩⟩⟩⟩⟩⟩⟩⟩⟩⟩⟩
theorem lw_p48 : lw_okq (⟨"ArenaPlanModel", "labelOf", "(I)V"⟩, 30) := ⟨⟨by decide +kernel, by decide +kernel⟩, List.mem_of_getElem? (i := 756) (by decide +kernel), List.mem_of_getElem? (i := 947) (by decide +kernel), List.mem_of_getElem? (i := 948) (by decide +kernel)⟩
theorem lw_p49 : lw_okq (⟨"ArenaPlanModel", "orderByLabels", "()V"⟩, 30) := ⟨⟨by decide +kernel, by decide +kernel⟩, List.mem_of_getElem? (i := 756) (by decide +kernel), List.mem_of_getElem? (i := 951) (by decide +kernel), List.mem_of_getElem? (i := 952) (by decide +kernel)⟩
theorem lw_p50 : lw_okq (⟨"ArenaPlanModel", "isUsed", "(I)Z"⟩, 30) := ⟨⟨by decide +kernel, by decide +kernel⟩, List.mem_of_getElem? (i := 756) (by decide +kernel), List.mem_of_getElem? (i := 955) (by decide +kernel), List.mem_of_getElem? (i := 956) (by decide +kernel)⟩
theorem lw_p51 : lw_okq (⟨"ArenaPlanModel", "visit", "(I)V"⟩, 30) := ⟨⟨by decide +kernel, by decide +kernel⟩, List.mem_of_getElem? (i := 756) (by decide +kernel), List.mem_of_getElem? (i := 959) (by decide +kernel), List.mem_of_getElem? (i := 960) (by decide +kernel)⟩
theorem lw_p52 : lw_okq (⟨"ArenaPlanModel", "due", "(I)I"⟩, 30) := ⟨⟨by decide +kernel, by decide +kernel⟩, List.mem_of_getElem? (i := 756) (by decide +kernel), List.mem_of_getElem? (i := 963) (by decide +kernel), List.mem_of_getElem? (i := 964) (by decide +kernel)⟩
theorem lw_p53 : lw_okq (⟨"ArenaPlanModel", "findLives", "()V"⟩, 30) := ⟨⟨by decide +kernel, by decide +kernel⟩, List.mem_of_getElem? (i := 756) (by decide +kernel), List.mem_of_getElem? (i := 967) (by decide +kernel), List.mem_of_getElem? (i := 968) (by decide +kernel)⟩
theorem lw_p54 : lw_okq (⟨"ArenaPlanModel", "findPlaces", "()V"⟩, 30) := ⟨⟨by decide +kernel, by decide +kernel⟩, List.mem_of_getElem? (i := 756) (by decide +kernel), List.mem_of_getElem? (i := 971) (by decide +kernel), List.mem_of_getElem? (i := 972) (by decide +kernel)⟩
theorem lw_p55 : lw_okq (⟨"ArenaPlanModel", "fits", "(II)Z"⟩, 30) := ⟨⟨by decide +kernel, by decide +kernel⟩, List.mem_of_getElem? (i := 756) (by decide +kernel), List.mem_of_getElem? (i := 975) (by decide +kernel), List.mem_of_getElem? (i := 976) (by decide +kernel)⟩
theorem lw_p56 : lw_okq (⟨"ArenaPlanModel", "costOf", "(I)I"⟩, 30) := ⟨⟨by decide +kernel, by decide +kernel⟩, List.mem_of_getElem? (i := 756) (by decide +kernel), List.mem_of_getElem? (i := 991) (by decide +kernel), List.mem_of_getElem? (i := 992) (by decide +kernel)⟩
theorem lw_p57 : lw_okq (⟨"ArenaPlanModel", "findLeast", "()V"⟩, 30) := ⟨⟨by decide +kernel, by decide +kernel⟩, List.mem_of_getElem? (i := 756) (by decide +kernel), List.mem_of_getElem? (i := 1003) (by decide +kernel), List.mem_of_getElem? (i := 1004) (by decide +kernel)⟩
theorem lw_p58 : lw_okq (⟨"ArenaPlanModel", "stays", "(I)I"⟩, 30) := ⟨⟨by decide +kernel, by decide +kernel⟩, List.mem_of_getElem? (i := 756) (by decide +kernel), List.mem_of_getElem? (i := 1007) (by decide +kernel), List.mem_of_getElem? (i := 1008) (by decide +kernel)⟩
theorem lw_p59 : lw_okq (⟨"ArenaPlanModel", "users", "(I)I"⟩, 30) := ⟨⟨by decide +kernel, by decide +kernel⟩, List.mem_of_getElem? (i := 756) (by decide +kernel), List.mem_of_getElem? (i := 1011) (by decide +kernel), List.mem_of_getElem? (i := 1012) (by decide +kernel)⟩
theorem lw_p60 : lw_okq (⟨"ArenaPlanModel", "needed", "(I)I"⟩, 30) := ⟨⟨by decide +kernel, by decide +kernel⟩, List.mem_of_getElem? (i := 756) (by decide +kernel), List.mem_of_getElem? (i := 1015) (by decide +kernel), List.mem_of_getElem? (i := 1016) (by decide +kernel)⟩
theorem lw_p61 : lw_okq (⟨"ArenaPlanModel", "work", "(I)V"⟩, 30) := ⟨⟨by decide +kernel, by decide +kernel⟩, List.mem_of_getElem? (i := 756) (by decide +kernel), List.mem_of_getElem? (i := 1023) (by decide +kernel), List.mem_of_getElem? (i := 1024) (by decide +kernel)⟩
def lw_privs_4 : List (MethodName × Nat) := [(⟨"ArenaPlanModel", "labelOf", "(I)V"⟩, 30), (⟨"ArenaPlanModel", "orderByLabels", "()V"⟩, 30), (⟨"ArenaPlanModel", "isUsed", "(I)Z"⟩, 30), (⟨"ArenaPlanModel", "visit", "(I)V"⟩, 30), (⟨"ArenaPlanModel", "due", "(I)I"⟩, 30), (⟨"ArenaPlanModel", "findLives", "()V"⟩, 30), (⟨"ArenaPlanModel", "findPlaces", "()V"⟩, 30), (⟨"ArenaPlanModel", "fits", "(II)Z"⟩, 30), (⟨"ArenaPlanModel", "costOf", "(I)I"⟩, 30), (⟨"ArenaPlanModel", "findLeast", "()V"⟩, 30), (⟨"ArenaPlanModel", "stays", "(I)I"⟩, 30), (⟨"ArenaPlanModel", "users", "(I)I"⟩, 30), (⟨"ArenaPlanModel", "needed", "(I)I"⟩, 30), (⟨"ArenaPlanModel", "work", "(I)V"⟩, 30)]
theorem lw_r4 : ∀ q ∈ lw_privs_4, lw_okq q := List.forall_mem_cons.mpr ⟨lw_p48, List.forall_mem_cons.mpr ⟨lw_p49, List.forall_mem_cons.mpr ⟨lw_p50, List.forall_mem_cons.mpr ⟨lw_p51, List.forall_mem_cons.mpr ⟨lw_p52, List.forall_mem_cons.mpr ⟨lw_p53, List.forall_mem_cons.mpr ⟨lw_p54, List.forall_mem_cons.mpr ⟨lw_p55, List.forall_mem_cons.mpr ⟨lw_p56, List.forall_mem_cons.mpr ⟨lw_p57, List.forall_mem_cons.mpr ⟨lw_p58, List.forall_mem_cons.mpr ⟨lw_p59, List.forall_mem_cons.mpr ⟨lw_p60, List.forall_mem_cons.mpr ⟨lw_p61, fun _ h => absurd h List.not_mem_nil⟩⟩⟩⟩⟩⟩⟩⟩⟩⟩⟩⟩⟩⟩
def lw_privs : List (MethodName × Nat) := lw_privs_1 ++ (lw_privs_2 ++ (lw_privs_3 ++ (lw_privs_4)))
def lw_tbl : List Cond := k2_sels lw_privs ++ tables_1
theorem lw_privs_ok : ∀ q ∈ lw_privs, lw_okq q := by
  show ∀ q ∈ lw_privs_1 ++ (lw_privs_2 ++ (lw_privs_3 ++ (lw_privs_4))), lw_okq q
  exact List.forall_mem_append.mpr ⟨lw_r1, List.forall_mem_append.mpr ⟨lw_r2, List.forall_mem_append.mpr ⟨lw_r3, lw_r4⟩⟩⟩
/-! ===== BEGIN words of one list among another's, by their places ===== -/
theorem goodIn_r {big : List Cond} (ws : List Cond) (ps : List Nat) (hp : ws = ps.filterMap (fun i => big[i]?)) (h : ws.all goodWord = true) : GoodIn big ws := by
  intro w hw
  have h1 := List.all_eq_true.mp h w hw
  rw [hp] at hw
  obtain ⟨i, -, hi⟩ := List.mem_filterMap.mp hw
  have hm : w ∈ big := by first | exact List.mem_of_getElem? hi | exact List.getElem?_mem hi
  exact ⟨hm, good_of_word h1⟩
theorem goodIn_app {big a b : List Cond} (ha : GoodIn big a) (hb : GoodIn big b) : GoodIn big (a ++ b) := fun w h => (List.mem_append.mp h).elim (ha w) (hb w)
theorem goodIn_ca {big a b : List Cond} {c : Cond} (ha : GoodIn big (c :: a)) (hb : GoodIn big b) : GoodIn big (c :: (a ++ b)) := fun w h => (List.mem_cons.mp h).elim (fun e => ha w (List.mem_cons.mpr (Or.inl e))) (fun h => (List.mem_append.mp h).elim (fun h => ha w (List.mem_cons.mpr (Or.inr h))) (hb w))
theorem goodIn_sub {big ws : List Cond} (hm : ∀ w ∈ ws, w ∈ big) (h : ws.all goodWord = true) : GoodIn big ws := fun w hw => ⟨hm w hw, good_of_word (List.all_eq_true.mp h w hw)⟩
/-! ===== END ===== -/

/-! ===== BEGIN exceptions that leave a method, and their catching by the caller (launches without stack traces) ===== -/
section VXA
/-! The laws vx_back, vx_callV, vx_callS, vx_callSW, vx_throw0, vx_throwS follow proofs of the library, with one case more: JvmDerived/Free/Laws.lean (Back.of_free), Shelf42/LK1.lean (callV, callS), Shelf/KitTraced.lean (throwNew0V, throwNewS). -/
/-- where a method has thrown q: the class by its name, the cell, what was written, the world -/
def vx_T (XC : String → State → State → Prop) (st : State) (q : Addr) (t : State) (mc ms : Nat) (free : Addr → Prop) : Prop :=
  ∃ (E : String) (ce : Cell) (L : List Loc), XC E st t ∧ t.heap[q]? = some ce ∧ ce.vm = .none ∧ st.vm.findClass E = some ce.cls ∧ st.WarmedH t.vm ∧ st.sameButNew ({ t with vm := st.vm } : State) L mc ms ∧ ∀ z ∈ L, free z.base
def vx_Q (Qc : Array Value → State → Outcome → State → Prop) (XC : String → State → State → Prop) (mc ms : Nat) (free : Addr → Prop) : Array Value → State → Outcome → State → Prop := fun a st o t =>
  (Qc a st o t ∧ ∃ L, FrameEnd st o t L mc ms ∧ ∀ q ∈ L, free q.base) ∨ ∃ q, o = .threw q ∧ vx_T XC st q t mc ms free
/-- a callee that returns or throws -/
def vx_Met (l : Launch) (y : MethodName) (ws : List Cond) (rm : Room) (Pc : Array Value → State → Prop) (Qc : Array Value → State → Outcome → State → Prop) (XC : String → State → State → Prop) (mc ms : Nat) (free : Addr → Prop) : Prop :=
  MetFree l y (headSpec ws rm) Pc (fun _ _ _ _ _ => True) (vx_Q Qc XC mc ms free)
def vx_Post (XC : String → State → State → Prop) (mc ms : Nat) (free : Addr → Prop) : Pt → Array Value → Addr → Pt → Prop := fun A a q B =>
  ∃ (g : JFrame) (mk : MethodId) (t : State) (L : List Loc) (E : String) (ce : Cell), B.U.heap = t.heap ∧ B.U.vm = t.vm ∧ XC E (A.U.calling g mk a) t ∧ t.heap[q]? = some ce ∧ ce.vm = .none ∧ A.U.vm.findClass E = some ce.cls ∧ B.locs = A.locs ++ L ∧ (∀ z ∈ L, free z.base) ∧ B.cells = A.cells + mc ∧ B.slots = A.slots + ms
def vx_Back (l : Launch) (R : Room) (p : Program) (e : Env) (below : List Frame) (s : State) (sargs : Array Value) (y : MethodName) (len W9 : Nat)
    (Pre : Pt → Array Value → Prop) (Post : Pt → Array Value → Option Value → Pt → Prop) (PostX : Pt → Array Value → Addr → Pt → Prop) : Prop :=
  ∀ (m : MethodId) (meth : Method) (c : Code) (A : Pt) (g : JFrame) (ig : Instr) (mk : MethodId) (a : Array Value),
    Stand p l e R s m sargs below meth c A.U A.locs A.cells A.slots → g.method = m → g.locals.size = c.maxLocals → decode c.code g.pc = .ok (ig, len) →
    2 * g.monitorRoom + (g.stack.map fun v => v.category).sum ≤ W9 → A.U.methodNamed? y = some mk → Pre A a →
    (∃ (v : Option Value) (B : Pt), Stand p l e R s m sargs below meth c B.U B.locs B.cells B.slots ∧ Post A a v B ∧
      Steps p.tables e below (doInvoke e (A.U.setTop g) [] mk a).1 (B.U.setTop { g with pc := g.pc + len, stack := v.toList ++ g.stack })) ∨
    (∃ (q : Addr) (B : Pt), Stand p l e R s m sargs below meth c B.U B.locs B.cells B.slots ∧ PostX A a q B ∧
      Steps p.tables e below (doInvoke e (A.U.setTop g) [] mk a).1 ((B.U.setTop g).pushFrame (.throwing q)))
section Payer
variable {l : Launch} {R : Room} {p : Program} {e : Env} {below : List Frame} {s : State} {sargs : Array Value} {y : MethodName} {len W9 : Nat}
theorem vx_back {ws : List Cond} {rm : Room} {Pc : Array Value → State → Prop} {Qc : Array Value → State → Outcome → State → Prop} {XC : String → State → State → Prop} {mc ms : Nat} {free : Addr → Prop} {bytes : ByteArray} {maxL : Nat} {ret : Option FieldType}
    (hM : vx_Met l y ws rm Pc Qc XC mc ms free) (hblind : FrameBlind Pc) (hrc : rm.cells = mc) (hrs : rm.slots = ms)
    (hframes : rm.frames + 1 ≤ R.frames) (hlocals : W9 + (maxL + 11) + rm.locals ≤ R.locals)
    (hws : ∀ w ∈ ws, ∀ a' U, s.WarmedH U.vm → w.before a' U = true) (hcode : Cond.code y bytes maxL ret ∈ ws) (hinit : ∀ a' U, s.WarmedH U.vm → (Cond.initialized y.cls).before a' U = true) :
    vx_Back l R p e below s sargs y len W9 (PreOf R mc ms Pc) (PostOf Qc mc ms free) (vx_Post XC mc ms free) := by
  intro m meth c A g ig mk a X hg hsize hdg hW hn hp
  have h1 : (headSpec ws rm).pre.before a A.U = true := atoms_intro fun w hw => hws w hw _ _ X.warmed
  have h2 : (Cond.code y bytes maxL ret).before a A.U = true := hws _ hcode _ _ X.warmed
  have h3 : (Cond.initialized y.cls).before a A.U = true := hinit _ _ X.warmed
  have h4 : A.cells + (headSpec ws rm).room.cells ≤ R.cells := by rw [show (headSpec ws rm).room.cells = mc from hrc]; exact hp.1
  have h5 : A.slots + (headSpec ws rm).room.slots ≤ R.slots := by rw [show (headSpec ws rm).room.slots = ms from hrs]; exact hp.2.1
  have hPc : Pc a (A.U.calling g mk a) := hblind _ _ _ _ hp.2.2
  obtain ⟨U, Ls, c0, s0⟩ := A
  dsimp only [Pt.U, Pt.locs, Pt.cells, Pt.slots] at h1 h2 h3 h4 h5 X hn hPc ⊢
  obtain ⟨methY, cY, hmY, hcY, -, hlY, -, -, -, -⟩ := Cond.code_spec hn h2
  obtain ⟨kY, hkY, -⟩ := className_of_methodNamed hn
  have hinitY : kY.init = .initialized := Cond.initialized_spec (findClass_of_methodNamed hn) hkY h3
  have h : At U g.method c below := by rw [hg]; exact X.here
  have hlocals9 : W9 + (maxL + 11) + (headSpec ws rm).room.locals ≤ R.locals := hlocals
  have happ : (headSpec ws rm).appliesLoose y e.platform (U.calling g mk a) = true :=
    Spec.appliesLoose_calling (g := g) h hdg hn hkY hinitY
      (X.room_calling (g := g) (R' := (headSpec ws rm).room) hsize hmY hcY hframes (by rw [hlY]; omega) h4 h5) h1
  obtain ⟨mid, hmid⟩ := h.above
  have hfr : (U.setTop g).frames = (.java g :: mid) ++ below := by rw [State.frames_setTop' g h.top, hmid]; rfl
  obtain ⟨o, s₂, hsteps, -, hend, hq⟩ := Steps.callFree hM p X.admits X.cas X.clock (acts := []) hfr happ hPc trivial
  have hq' : vx_Q Qc XC mc ms free a (U.calling g mk a) o s₂ := hq
  rw [State.frames_setTop' g h.top] at hend
  obtain ⟨g₀, hg0⟩ := Option.isSome_iff_exists.mp h.top
  obtain ⟨r, hr⟩ := State.topJava?_eq_some.mp hg0
  have hr' : (({ U with heap := s₂.heap, slotsUsed := s₂.slotsUsed } : State).setVm s₂.vm).frames = .java g₀ :: r := hr
  rcases hq' with ⟨hqc, L, hfe, hL⟩ | ⟨q, rfl, E, ce, L, hx, hce, hcv, hcl, hW₂, hsm, hL⟩
  · obtain ⟨⟨v, rfl⟩, hW₂, e2, q2, q3, q4, q5, q6⟩ := id hfe
    have e3 : s₂ = ({ (U.calling g mk a).setFrames s₂.frames with heap := s₂.heap, slotsUsed := s₂.slotsUsed } : State).setVm s₂.vm := by
      have : s₂ = ({ s₂ with vm := (U.calling g mk a).vm } : State).setVm s₂.vm := rfl
      rw [e2] at this
      exact this
    obtain ⟨c₂, i₂, len₂, hc₂, hd₂, hf₂⟩ := hend
    have hW' : U.WarmedH s₂.vm := hW₂
    have hcc : c₂ = c := by
      have h1 : s₂.code? g.method = U.code? g.method := by
        rw [State.code?_eq, State.code?_eq, hW'.alike.method?]
      exact Option.some.inj (hc₂.symm.trans (h1.trans h.code))
    subst hcc
    have hlen : len₂ = len := by rw [hdg] at hd₂; cases hd₂; rfl
    subst hlen
    have hs₂ : s₂ = (({ U with heap := s₂.heap, slotsUsed := s₂.slotsUsed } : State).setVm s₂.vm).setTop { g with pc := g.pc + len₂, stack := v.toList ++ g.stack } := by
      refine e3.trans ?_
      rw [hf₂, State.calling_eq h.top, State.setFrames_setFrames, State.setTop_of_frames _ hr', hr]
      rfl
    have hsame : U.sameButNew ({ U with heap := s₂.heap, slotsUsed := s₂.slotsUsed } : State) L mc ms := by
      refine ⟨?_, q2, q3, q4, q5, q6⟩
      obtain ⟨t, ht, -⟩ := State.frames_cons hr
      show ({ U with heap := s₂.heap, slotsUsed := s₂.slotsUsed } : State) = { U.setFrames U.frames with heap := s₂.heap, slotsUsed := s₂.slotsUsed }
      rw [State.setFrames_self ht]
    subst hg
    refine Or.inl ⟨v, ⟨(({ U with heap := s₂.heap, slotsUsed := s₂.slotsUsed } : State).setVm s₂.vm), Ls ++ L, c0 + mc, s0 + ms⟩,
      ⟨X.admits, X.cas, X.clock, X.frames, X.room, X.hears, X.method, X.code, (X.here.setHeapUsed s₂.heap s₂.slotsUsed).setVm hW'.alike, X.tail, State.WarmedH.trans X.warmed hW', X.limits, X.bytes, X.same.trans (hsame.setVm s.vm)⟩,
      ⟨g, mk, s₂, L, rfl, rfl, hqc, rfl, hL, rfl, rfl⟩, ?_⟩
    show Steps p.tables e below _ ((({ U with heap := s₂.heap, slotsUsed := s₂.slotsUsed } : State).setVm s₂.vm).setTop { g with pc := g.pc + len₂, stack := v.toList ++ g.stack })
    rw [← hs₂]
    exact hsteps
  · obtain ⟨e2, q2, q3, q4, q5, q6⟩ := id hsm
    have e3 : s₂ = ({ (U.calling g mk a).setFrames s₂.frames with heap := s₂.heap, slotsUsed := s₂.slotsUsed } : State).setVm s₂.vm := by
      have : s₂ = ({ s₂ with vm := (U.calling g mk a).vm } : State).setVm s₂.vm := rfl
      rw [e2] at this
      exact this
    have hf₂ : s₂.frames = .throwing q :: .java g :: U.frames.tail := hend
    have hW' : U.WarmedH s₂.vm := hW₂
    have hs₂ : s₂ = ((({ U with heap := s₂.heap, slotsUsed := s₂.slotsUsed } : State).setVm s₂.vm).setTop g).pushFrame (.throwing q) := by
      refine e3.trans ?_
      rw [hf₂, State.calling_eq h.top, State.setFrames_setFrames, State.pushFrame, State.frames_setTop _ hr', State.setTop_of_frames _ hr', State.setFrames_setFrames, hr]
      rfl
    have hsame : U.sameButNew ({ U with heap := s₂.heap, slotsUsed := s₂.slotsUsed } : State) L mc ms := by
      refine ⟨?_, q2, q3, q4, q5, q6⟩
      obtain ⟨t, ht, -⟩ := State.frames_cons hr
      show ({ U with heap := s₂.heap, slotsUsed := s₂.slotsUsed } : State) = { U.setFrames U.frames with heap := s₂.heap, slotsUsed := s₂.slotsUsed }
      rw [State.setFrames_self ht]
    subst hg
    refine Or.inr ⟨q, ⟨(({ U with heap := s₂.heap, slotsUsed := s₂.slotsUsed } : State).setVm s₂.vm), Ls ++ L, c0 + mc, s0 + ms⟩,
      ⟨X.admits, X.cas, X.clock, X.frames, X.room, X.hears, X.method, X.code, (X.here.setHeapUsed s₂.heap s₂.slotsUsed).setVm hW'.alike, X.tail, State.WarmedH.trans X.warmed hW', X.limits, X.bytes, X.same.trans (hsame.setVm s.vm)⟩,
      ⟨g, mk, s₂, L, E, ce, rfl, rfl, hx, hce, hcv, hcl, rfl, hL, rfl, rfl⟩, ?_⟩
    show Steps p.tables e below _ (((({ U with heap := s₂.heap, slotsUsed := s₂.slotsUsed } : State).setVm s₂.vm).setTop g).pushFrame (.throwing q))
    rw [← hs₂]
    exact hsteps
end Payer
section Calls
variable {p : Program} {l : Launch} {e : Env} {R : Room} {s : State} {m : MethodId} {args : Array Value} {below : List Frame} {meth : Method} {c : Code} {T : State} {locs : List Loc} {cells slots : Nat}
theorem vx_callV (X : Stand p l e R s m args below meth c T locs cells slots) (hexec : p.tables.exec = Jvm.exec) {own C : String} {index : Nat} {y : MethodName} {bytes : ByteArray} {maxL : Nat} {ret : Option FieldType}
    (hown : s.vm.findClass own = some m.cls) (hlink : (Cond.methodLink own index y).before args s = true) (hinst : (Cond.instanceMethod y).before args s = true) (hsel : (Cond.selects C y y).before args s = true)
    (hcode : (Cond.code y bytes maxL ret).before args s = true) (hy : y.cls ≠ "java/lang/invoke/MethodHandle" ∧ y.cls ≠ "java/lang/invoke/VarHandle")
    {W9 : Nat} {Pre : Pt → Array Value → Prop} {Post : Pt → Array Value → Option Value → Pt → Prop} {PostX : Pt → Array Value → Addr → Pt → Prop} (hK : vx_Back l R p e below s args y 3 W9 Pre Post PostX)
    {b : Addr} {cellB : Cell} (hcell : T.heap[b]? = some cellB) (hobj : cellB.vm.isStatics = false) (hcls : s.vm.findClass C = some cellB.cls)
    {g : JFrame} (hg : g.method = m) (hsize : g.locals.size = c.maxLocals) {argsL rest : List Value} (hlen : ∀ sig, parseMethodDescriptor y.desc = some sig → argsL.length = sig.parameters.length)
    (hstack : g.stack = argsL.reverse ++ .ref b :: rest) (hW : 2 * g.monitorRoom + (rest.map fun v => v.category).sum ≤ W9) (hdg : decode c.code g.pc = .ok (.invokevirtual index, 3))
    (hpre : ∀ vm₁, s.WarmedH vm₁ → Pre ⟨T.setVm vm₁, locs, cells, slots⟩ (Value.ref b :: argsL).toArray) :
    (∃ (v : Option Value) (vm₁ : Vm) (B : Pt), s.WarmedH vm₁ ∧ Stand p l e R s m args below meth c B.U B.locs B.cells B.slots ∧ Post ⟨T.setVm vm₁, locs, cells, slots⟩ (Value.ref b :: argsL).toArray v B ∧
      ∀ target, Steps p.tables e below (B.U.setTop { g with pc := g.pc + 3, stack := v.toList ++ rest }) target → Steps p.tables e below (T.setTop g) target) ∨
    (∃ (q : Addr) (vm₁ : Vm) (B : Pt), s.WarmedH vm₁ ∧ Stand p l e R s m args below meth c B.U B.locs B.cells B.slots ∧ PostX ⟨T.setVm vm₁, locs, cells, slots⟩ (Value.ref b :: argsL).toArray q B ∧
      Steps p.tables e below (T.setTop g) ((B.U.setTop { g with stack := rest }).pushFrame (.throwing q))) := by
  obtain ⟨mk, methM, hnamed, hmethM, hstM, habM⟩ := Cond.instanceMethod_spec hinst
  obtain ⟨methM', cM, hmethM', -, -, -, -, -, -, hsigM⟩ := Cond.code_spec hnamed hcode
  cases hmethM.symm.trans hmethM'
  obtain ⟨c2, r2, m2, q1, q2, q3, q4, kP, hkP, hkPi⟩ := Cond.selects_spec hsel
  cases hcls.symm.trans q1
  cases (State.methodFound?_of_named hnamed hy).symm.trans q2
  cases hnamed.symm.trans q3
  have hselP : selectMethod e.platform s.vm cellB.cls mk = .method mk := by rw [Launch.admits_selectMethod X.admits]; exact q4
  obtain ⟨vm₁, X₁, hstep₁⟩ := X.invokevirtual hexec hown hlink hnamed hmethM hstM hkP hkPi hy (a := b) (cell := cellB) hcell
    (fun z h => by rw [h] at hobj; cases hobj) hselP hmethM habM hkP hkPi (g := g) hg (argsL := argsL) (rest := rest) (hlen _ hsigM) hstack hdg
  rcases hK m meth c ⟨T.setVm vm₁, locs, cells, slots⟩ { g with stack := rest } (.invokevirtual index) mk (Value.ref b :: argsL).toArray X₁ hg hsize hdg hW (X₁.named hnamed) (hpre vm₁ X₁.warmed) with ⟨v, B, X', hpost, hsteps⟩ | ⟨q, B, X', hpost, hsteps⟩
  · exact Or.inl ⟨v, vm₁, B, X₁.warmed, X', hpost, fun target h => hstep₁ _ fun acts => by rw [doInvoke_state]; exact hsteps.trans h⟩
  · exact Or.inr ⟨q, vm₁, B, X₁.warmed, X', hpost, hstep₁ _ fun acts => by rw [doInvoke_state]; exact hsteps⟩
theorem vx_callS (X : Stand p l e R s m args below meth c T locs cells slots) (hexec : p.tables.exec = Jvm.exec) {own : String} {index : Nat} {y : MethodName} {bytes : ByteArray} {maxL : Nat} {ret : Option FieldType}
    (hown : s.vm.findClass own = some m.cls) (hlink : (Cond.methodLink own index y).before args s = true) (hstat : (Cond.static y).before args s = true) (hinit : (Cond.initialized y.cls).before args s = true)
    (hcode : (Cond.code y bytes maxL ret).before args s = true) (hy : y.cls ≠ "java/lang/invoke/MethodHandle" ∧ y.cls ≠ "java/lang/invoke/VarHandle")
    {W9 : Nat} {Pre : Pt → Array Value → Prop} {Post : Pt → Array Value → Option Value → Pt → Prop} {PostX : Pt → Array Value → Addr → Pt → Prop} (hK : vx_Back l R p e below s args y 3 W9 Pre Post PostX)
    {g : JFrame} (hg : g.method = m) (hsize : g.locals.size = c.maxLocals) {argsL rest : List Value} (hlen : ∀ sig, parseMethodDescriptor y.desc = some sig → argsL.length = sig.parameters.length)
    (hstack : g.stack = argsL.reverse ++ rest) (hW : 2 * g.monitorRoom + (rest.map fun v => v.category).sum ≤ W9) (hdg : decode c.code g.pc = .ok (.invokestatic index, 3))
    (hpre : ∀ vm₁, s.WarmedH vm₁ → Pre ⟨T.setVm vm₁, locs, cells, slots⟩ argsL.toArray) :
    (∃ (v : Option Value) (vm₁ : Vm) (B : Pt), s.WarmedH vm₁ ∧ Stand p l e R s m args below meth c B.U B.locs B.cells B.slots ∧ Post ⟨T.setVm vm₁, locs, cells, slots⟩ argsL.toArray v B ∧
      ∀ target, Steps p.tables e below (B.U.setTop { g with pc := g.pc + 3, stack := v.toList ++ rest }) target → Steps p.tables e below (T.setTop g) target) ∨
    (∃ (q : Addr) (vm₁ : Vm) (B : Pt), s.WarmedH vm₁ ∧ Stand p l e R s m args below meth c B.U B.locs B.cells B.slots ∧ PostX ⟨T.setVm vm₁, locs, cells, slots⟩ argsL.toArray q B ∧
      Steps p.tables e below (T.setTop g) ((B.U.setTop { g with stack := rest }).pushFrame (.throwing q))) := by
  obtain ⟨mk, hnamed⟩ := Cond.code_named hcode
  obtain ⟨methM, cM, hmethM, -, -, -, -, -, -, hsigM⟩ := Cond.code_spec hnamed hcode
  have hstatic : methM.isStatic = true := Cond.static_spec hnamed hmethM hstat
  obtain ⟨kP, hkP, -⟩ := className_of_methodNamed hnamed
  have hinitP : kP.init = .initialized := Cond.initialized_spec (findClass_of_methodNamed hnamed) hkP hinit
  obtain ⟨vm₁, X₁, hstep₁⟩ := X.invokestatic hexec hown hlink hnamed hmethM hstatic hkP hinitP hy (g := g) hg (argsL := argsL) (rest := rest) (hlen _ hsigM) hstack hdg
  rcases hK m meth c ⟨T.setVm vm₁, locs, cells, slots⟩ { g with stack := rest } (.invokestatic index) mk argsL.toArray X₁ hg hsize hdg hW (X₁.named hnamed) (hpre vm₁ X₁.warmed) with ⟨v, B, X', hpost, hsteps⟩ | ⟨q, B, X', hpost, hsteps⟩
  · exact Or.inl ⟨v, vm₁, B, X₁.warmed, X', hpost, fun target h => hstep₁ _ fun acts => by rw [doInvoke_state]; exact hsteps.trans h⟩
  · exact Or.inr ⟨q, vm₁, B, X₁.warmed, X', hpost, hstep₁ _ fun acts => by rw [doInvoke_state]; exact hsteps⟩
end Calls
theorem vx_cls {s : State} {T : State} {vm₁ : Vm} {E : String} {k : ClassId} (hW : s.WarmedH vm₁) (h : (T.setVm vm₁).vm.findClass E = some k) : s.vm.findClass E = some k := by
  have h1 : vm₁.findClass E = some k := h
  rw [hW.alike.findClass] at h1
  exact h1
/-- the method's frame g, with q thrown over it -/
def vx_W (p : Program) (l : Launch) (e : Env) (R : Room) (s : State) (m : MethodId) (args : Array Value) (below : List Frame) (meth : Method) (c : Code) (H : Heap) (locs : List Loc) (cells slots : Nat) (Q : State → Prop) (g : JFrame) (q : Addr) : Prop :=
  ∀ T : State, T.heap = H → Stand p l e R s m args below meth c T locs cells slots → ∃ t, Steps p.tables e below ((T.setTop g).pushFrame (.throwing q)) t ∧ Q t
def vx_Run (p : Program) (l : Launch) (e : Env) (R : Room) (s : State) (m : MethodId) (args : Array Value) (below : List Frame) (meth : Method) (c : Code) (H : Heap) (locs : List Loc) (cells slots mc ms : Nat) (g : JFrame) (rest : List Value) (Qa : State → Outcome → State → Prop) (XC : String → State → State → Prop) (free : Addr → Prop) : Prop :=
  ∀ T : State, T.heap = H → Stand p l e R s m args below meth c T locs cells slots →
    (∃ (v : Option Value) (st₀ t T' : State) (L : List Loc), st₀.heap = H ∧ Stand p l e R s m args below meth c T' (locs ++ L) (cells + mc) (slots + ms) ∧ (∀ q ∈ L, free q.base) ∧ T'.heap = t.heap ∧ T'.vm = t.vm ∧ Qa st₀ (.returned v) t ∧
      Goes p e below T g T' { g with pc := g.pc + 3, stack := v.toList ++ rest }) ∨
    (∃ (q : Addr) (st₀ t T' : State) (L : List Loc) (E : String) (ce : Cell), st₀.heap = H ∧ Stand p l e R s m args below meth c T' (locs ++ L) (cells + mc) (slots + ms) ∧ (∀ z ∈ L, free z.base) ∧ T'.heap = t.heap ∧ T'.vm = t.vm ∧ XC E st₀ t ∧ t.heap[q]? = some ce ∧ ce.vm = .none ∧ s.vm.findClass E = some ce.cls ∧
      Steps p.tables e below (T.setTop g) ((T'.setTop { g with stack := rest }).pushFrame (.throwing q)))
def vx_X {S : Type} (px : S → Prop) (B : String → S → State → Prop) (A : Nat → Prop) : String → State → State → Prop := fun E st t => ∃ u : S, px u ∧ B E u t ∧ va_F A st t
section Runs
variable {p : Program} {l : Launch} {e : Env} {R : Room} {s : State} {m : MethodId} {args : Array Value} {below : List Frame} {meth : Method} {c : Code} {H : Heap} {locs : List Loc} {cells slots : Nat}
variable {y : MethodName} {bytes cc : ByteArray} {maxL nL mc ms n index : Nat} {ret : Option FieldType} {ws : List Cond} {rm : Room} {Pc : Array Value → State → Prop} {Qc : Array Value → State → Outcome → State → Prop} {XC : String → State → State → Prop} {free : Addr → Prop} {Ts : List Cond} {own C : String} {b : Addr} {As rest : List Value} {g : JFrame}
theorem vx_callBack (cb : CallB R s args own index y bytes maxL ret ws rm mc ms n) (hM : vx_Met l y ws rm Pc Qc XC mc ms free) (hbl : FrameBlind Pc) : vx_Back l R p e below s args y 3 8 (PreOf R mc ms Pc) (PostOf Qc mc ms free) (vx_Post XC mc ms free) := by
  obtain ⟨hrc, hrs, hfr, hlo, hws, hcw, -, hini, -⟩ := cb
  exact vx_back (bytes := bytes) (maxL := maxL) (ret := ret) hM hbl hrc hrs hfr hlo hws hcw (fun a' U hW => word_at hW (Or.inl (by first | rfl | simp [Cond.onTables, Cond.keeps, Cond.steady])) hini)
theorem vx_runV (S : CallFix p m c cc nL s args Ts own) (hM : vx_Met l y ws rm Pc Qc XC mc ms free) (cw : CallW R s args own C index y bytes maxL ret ws rm mc ms n) (hp : PreV s H C b Pc As)
    (hg : g.method = m) (hn : As.length = n) (hsize : g.locals.size = nL) (hstack : g.stack = As.reverse ++ .ref b :: rest) (hW : 2 * g.monitorRoom + (rest.map fun v => v.category).sum ≤ 8) (hdg : decode cc g.pc = .ok (.invokevirtual index, 3)) (hf : cells + mc ≤ R.cells ∧ slots + ms ≤ R.slots) :
    vx_Run p l e R s m args below meth c H locs cells slots mc ms g rest (Qc (Value.ref b :: As).toArray) XC free := by
  have hK : vx_Back l R p e below s args y 3 8 (PreOf R mc ms Pc) (PostOf Qc mc ms free) (vx_Post XC mc ms free) := vx_callBack cw.1 hM hp.1
  obtain ⟨⟨-, -, -, -, -, -, hcode, -, hy, hlen, hl⟩, hin, hse⟩ := cw
  obtain ⟨hx, hb, hml, ho, -⟩ := S
  obtain ⟨-, ⟨cellB, hcB, hoB, hclB⟩, hPc⟩ := hp
  intro T hT X
  rcases vx_callV X hx (C := C) (bytes := bytes) (maxL := maxL) (ret := ret) ho hl hin hse hcode hy hK (by rw [hT]; exact hcB) hoB hclB hg (hsize.trans hml.symm) (argsL := As) (rest := rest) (fun sig h => hn.trans (hlen sig h)) hstack hW (by rw [hb]; exact hdg)
    (fun vm₁ hW₁ => ⟨hf.1, hf.2, hPc (T.setVm vm₁) hT hW₁⟩) with ⟨v, vm₁, ⟨U', l2, c2, s2⟩, hW₁, X', ⟨g', mk, t, L, e1, e2, hq, h1, hL, h2, h3⟩, st⟩ | ⟨q, vm₁, ⟨U', l2, c2, s2⟩, hW₁, X', ⟨g', mk, t, L, E, ce, e1, e2, hq, hce, hcv, hcl, h1, hL, h2, h3⟩, st⟩
  · dsimp only [Pt.U, Pt.locs, Pt.cells, Pt.slots] at X' e1 e2 h1 h2 h3 st
    subst h1; subst h2; subst h3
    exact Or.inl ⟨v, (T.setVm vm₁).calling g' mk (Value.ref b :: As).toArray, t, U', L, hT, X', hL, e1, e2, hq, st⟩
  · dsimp only [Pt.U, Pt.locs, Pt.cells, Pt.slots] at X' e1 e2 h1 h2 h3 st hcl
    subst h1; subst h2; subst h3
    exact Or.inr ⟨q, (T.setVm vm₁).calling g' mk (Value.ref b :: As).toArray, t, U', L, E, ce, hT, X', hL, e1, e2, hq, hce, hcv, vx_cls hW₁ hcl, st⟩
theorem vx_runS (S : CallFix p m c cc nL s args Ts own) (hM : vx_Met l y ws rm Pc Qc XC mc ms free) (cw : CallB R s args own index y bytes maxL ret ws rm mc ms n ∧ (Cond.static y).before args s = true) (hp : PreS s H Pc As)
    (hg : g.method = m) (hn : As.length = n) (hsize : g.locals.size = nL) (hstack : g.stack = As.reverse ++ rest) (hW : 2 * g.monitorRoom + (rest.map fun v => v.category).sum ≤ 8) (hdg : decode cc g.pc = .ok (.invokestatic index, 3)) (hf : cells + mc ≤ R.cells ∧ slots + ms ≤ R.slots) :
    vx_Run p l e R s m args below meth c H locs cells slots mc ms g rest (Qc As.toArray) XC free := by
  have hK : vx_Back l R p e below s args y 3 8 (PreOf R mc ms Pc) (PostOf Qc mc ms free) (vx_Post XC mc ms free) := vx_callBack cw.1 hM hp.1
  obtain ⟨⟨-, -, -, -, -, -, hcode, hini, hy, hlen, hl⟩, hstt⟩ := cw
  obtain ⟨hx, hb, hml, ho, -⟩ := S
  intro T hT X
  rcases vx_callS X hx (bytes := bytes) (maxL := maxL) (ret := ret) ho hl hstt hini hcode hy hK hg (hsize.trans hml.symm) (argsL := As) (rest := rest) (fun sig h => hn.trans (hlen sig h)) hstack hW (by rw [hb]; exact hdg)
    (fun vm₁ hW₁ => ⟨hf.1, hf.2, hp.2 (T.setVm vm₁) hT hW₁⟩) with ⟨v, vm₁, ⟨U', l2, c2, s2⟩, hW₁, X', ⟨g', mk, t, L, e1, e2, hq, h1, hL, h2, h3⟩, st⟩ | ⟨q, vm₁, ⟨U', l2, c2, s2⟩, hW₁, X', ⟨g', mk, t, L, E, ce, e1, e2, hq, hce, hcv, hcl, h1, hL, h2, h3⟩, st⟩
  · dsimp only [Pt.U, Pt.locs, Pt.cells, Pt.slots] at X' e1 e2 h1 h2 h3 st
    subst h1; subst h2; subst h3
    exact Or.inl ⟨v, (T.setVm vm₁).calling g' mk As.toArray, t, U', L, hT, X', hL, e1, e2, hq, st⟩
  · dsimp only [Pt.U, Pt.locs, Pt.cells, Pt.slots] at X' e1 e2 h1 h2 h3 st hcl
    subst h1; subst h2; subst h3
    exact Or.inr ⟨q, (T.setVm vm₁).calling g' mk As.toArray, t, U', L, E, ce, hT, X', hL, e1, e2, hq, hce, hcv, vx_cls hW₁ hcl, st⟩
end Runs
section Rows
variable {p : Program} {l : Launch} {e : Env} {R : Room} {s : State} {m : MethodId} {args : Array Value} {below : List Frame} {meth : Method} {c : Code} {H : Heap} {locs : List Loc} {cells slots : Nat} {Q : State → Prop}
variable {mc ms : Nat} {free : Addr → Prop} {A0 A1 : Nat → Prop} {H0 : Heap} {a : Array Value} {pc : Nat} {ls : Array Slot} {st0 rest : List Value}
theorem vx_keep {st₀ t T' : State} {L : List Loc} (h0 : st₀.heap = H) (e1 : T'.heap = t.heap) (hS : va_S A0 H0 H locs) (hA : ∀ q, q < H.size → A1 q → A0 q) (hf : ∀ q, free q → A0 q) (hL : ∀ q ∈ L, free q.base) (hF : va_F A1 st₀ t) :
    H.size ≤ T'.heap.size ∧ (∀ q : Nat, q < H.size → ¬ A1 q → T'.heap[q]? = H[q]?) ∧ va_S A0 H0 T'.heap (locs ++ L) := by
  obtain ⟨hz, hk⟩ := hF
  rw [h0] at hz hk
  exact ⟨by rw [e1]; exact hz, fun q h1 h2 => by rw [e1]; exact hk q h1 h2,
    ⟨Nat.le_trans hS.1 (by rw [e1]; exact hz), fun q h1 h2 => by rw [e1, hk q (Nat.lt_of_lt_of_le h1 hS.1) (fun z => h2 (hA q (Nat.lt_of_lt_of_le h1 hS.1) z))]; exact hS.2.1 q h1 h2, fun q hq => by
      rcases List.mem_append.mp hq with h | h
      · exact hS.2.2 q h
      · exact hf _ (hL q h)⟩⟩
theorem vx_calli {S SX : Type} {post : Int32 → S → Prop} {px : SX → Prop} {B : S → State → Prop} {BX : String → SX → State → Prop} {AX : Nat → Prop} (hr : vx_Run p l e R s m args below meth c H locs cells slots mc ms (F0 m pc ls st0) rest (va_Qi post B A1 a) (vx_X px BX AX) free) (hS : va_S A0 H0 H locs) (hA : ∀ q, q < H.size → A1 q → A0 q) (hf : ∀ q, free q → A0 q) (hAX : ∀ q, q < H.size → AX q → A0 q)
    (kx : ∀ (E : String) (ce : Cell) (q9 : Addr) (u : SX) (t : State) (H1 : Heap) (locs1 : List Loc), t.heap = H1 → s.vm.Alike t.vm → px u → BX E u t → H.size ≤ H1.size → (∀ q : Nat, q < H.size → ¬ AX q → H1[q]? = H[q]?) → va_S A0 H0 H1 locs1 → H1[q9]? = some ce → ce.vm = .none → s.vm.findClass E = some ce.cls → vx_W p l e R s m args below meth c H1 locs1 (cells + mc) (slots + ms) Q (F0 m pc ls rest) q9)
    (kk : ∀ (r : Int32) (u : S) (t : State) (H1 : Heap) (locs1 : List Loc), t.heap = H1 → s.vm.Alike t.vm → post r u → B u t → H.size ≤ H1.size → (∀ q : Nat, q < H.size → ¬ A1 q → H1[q]? = H[q]?) → va_S A0 H0 H1 locs1 → W p l e R s m args below meth c H1 locs1 (cells + mc) (slots + ms) Q (F0 m (pc + 3) ls (.int r :: rest))) : W p l e R s m args below meth c H locs cells slots Q (F0 m pc ls st0) := by
  intro T hT X
  rcases hr T hT X with ⟨v, st₀, t, T', L, h0, X', hL, e1, e2, ⟨⟨r, u, hv, hp, hb⟩, hF⟩, st⟩ | ⟨q, st₀, t, T', L, E, ce, h0, X', hL, e1, e2, ⟨u, hp, hb, hF⟩, hce, hcv, hcl, st⟩
  · cases hv
    obtain ⟨k1, k2, k3⟩ := vx_keep h0 e1 hS hA hf hL hF
    obtain ⟨t2, a1, b1⟩ := kk r u t T'.heap (locs ++ L) e1.symm (by rw [← e2]; exact X'.warmed.alike) hp hb k1 k2 k3 T' rfl X'
    exact ⟨t2, st t2 a1, b1⟩
  · obtain ⟨k1, k2, k3⟩ := vx_keep h0 e1 hS hAX hf hL hF
    obtain ⟨t2, a1, b1⟩ := kx E ce q u t T'.heap (locs ++ L) e1.symm (by rw [← e2]; exact X'.warmed.alike) hp hb k1 k2 k3 (by rw [e1]; exact hce) hcv hcl T' rfl X'
    exact ⟨t2, st.trans a1, b1⟩
theorem vx_calll {S SX : Type} {post : Int64 → S → Prop} {px : SX → Prop} {B : S → State → Prop} {BX : String → SX → State → Prop} {AX : Nat → Prop} (hr : vx_Run p l e R s m args below meth c H locs cells slots mc ms (F0 m pc ls st0) rest (va_Ql post B A1 a) (vx_X px BX AX) free) (hS : va_S A0 H0 H locs) (hA : ∀ q, q < H.size → A1 q → A0 q) (hf : ∀ q, free q → A0 q) (hAX : ∀ q, q < H.size → AX q → A0 q)
    (kx : ∀ (E : String) (ce : Cell) (q9 : Addr) (u : SX) (t : State) (H1 : Heap) (locs1 : List Loc), t.heap = H1 → s.vm.Alike t.vm → px u → BX E u t → H.size ≤ H1.size → (∀ q : Nat, q < H.size → ¬ AX q → H1[q]? = H[q]?) → va_S A0 H0 H1 locs1 → H1[q9]? = some ce → ce.vm = .none → s.vm.findClass E = some ce.cls → vx_W p l e R s m args below meth c H1 locs1 (cells + mc) (slots + ms) Q (F0 m pc ls rest) q9)
    (kk : ∀ (r : Int64) (u : S) (t : State) (H1 : Heap) (locs1 : List Loc), t.heap = H1 → s.vm.Alike t.vm → post r u → B u t → H.size ≤ H1.size → (∀ q : Nat, q < H.size → ¬ A1 q → H1[q]? = H[q]?) → va_S A0 H0 H1 locs1 → W p l e R s m args below meth c H1 locs1 (cells + mc) (slots + ms) Q (F0 m (pc + 3) ls (.long r :: rest))) : W p l e R s m args below meth c H locs cells slots Q (F0 m pc ls st0) := by
  intro T hT X
  rcases hr T hT X with ⟨v, st₀, t, T', L, h0, X', hL, e1, e2, ⟨⟨r, u, hv, hp, hb⟩, hF⟩, st⟩ | ⟨q, st₀, t, T', L, E, ce, h0, X', hL, e1, e2, ⟨u, hp, hb, hF⟩, hce, hcv, hcl, st⟩
  · cases hv
    obtain ⟨k1, k2, k3⟩ := vx_keep h0 e1 hS hA hf hL hF
    obtain ⟨t2, a1, b1⟩ := kk r u t T'.heap (locs ++ L) e1.symm (by rw [← e2]; exact X'.warmed.alike) hp hb k1 k2 k3 T' rfl X'
    exact ⟨t2, st t2 a1, b1⟩
  · obtain ⟨k1, k2, k3⟩ := vx_keep h0 e1 hS hAX hf hL hF
    obtain ⟨t2, a1, b1⟩ := kx E ce q u t T'.heap (locs ++ L) e1.symm (by rw [← e2]; exact X'.warmed.alike) hp hb k1 k2 k3 (by rw [e1]; exact hce) hcv hcl T' rfl X'
    exact ⟨t2, st.trans a1, b1⟩
theorem vx_callf {S SX : Type} {post : UInt32 → S → Prop} {px : SX → Prop} {B : S → State → Prop} {BX : String → SX → State → Prop} {AX : Nat → Prop} (hr : vx_Run p l e R s m args below meth c H locs cells slots mc ms (F0 m pc ls st0) rest (va_Qf post B A1 a) (vx_X px BX AX) free) (hS : va_S A0 H0 H locs) (hA : ∀ q, q < H.size → A1 q → A0 q) (hf : ∀ q, free q → A0 q) (hAX : ∀ q, q < H.size → AX q → A0 q)
    (kx : ∀ (E : String) (ce : Cell) (q9 : Addr) (u : SX) (t : State) (H1 : Heap) (locs1 : List Loc), t.heap = H1 → s.vm.Alike t.vm → px u → BX E u t → H.size ≤ H1.size → (∀ q : Nat, q < H.size → ¬ AX q → H1[q]? = H[q]?) → va_S A0 H0 H1 locs1 → H1[q9]? = some ce → ce.vm = .none → s.vm.findClass E = some ce.cls → vx_W p l e R s m args below meth c H1 locs1 (cells + mc) (slots + ms) Q (F0 m pc ls rest) q9)
    (kk : ∀ (r : UInt32) (u : S) (t : State) (H1 : Heap) (locs1 : List Loc), t.heap = H1 → s.vm.Alike t.vm → post r u → B u t → H.size ≤ H1.size → (∀ q : Nat, q < H.size → ¬ A1 q → H1[q]? = H[q]?) → va_S A0 H0 H1 locs1 → W p l e R s m args below meth c H1 locs1 (cells + mc) (slots + ms) Q (F0 m (pc + 3) ls (.float r :: rest))) : W p l e R s m args below meth c H locs cells slots Q (F0 m pc ls st0) := by
  intro T hT X
  rcases hr T hT X with ⟨v, st₀, t, T', L, h0, X', hL, e1, e2, ⟨⟨r, u, hv, hp, hb⟩, hF⟩, st⟩ | ⟨q, st₀, t, T', L, E, ce, h0, X', hL, e1, e2, ⟨u, hp, hb, hF⟩, hce, hcv, hcl, st⟩
  · cases hv
    obtain ⟨k1, k2, k3⟩ := vx_keep h0 e1 hS hA hf hL hF
    obtain ⟨t2, a1, b1⟩ := kk r u t T'.heap (locs ++ L) e1.symm (by rw [← e2]; exact X'.warmed.alike) hp hb k1 k2 k3 T' rfl X'
    exact ⟨t2, st t2 a1, b1⟩
  · obtain ⟨k1, k2, k3⟩ := vx_keep h0 e1 hS hAX hf hL hF
    obtain ⟨t2, a1, b1⟩ := kx E ce q u t T'.heap (locs ++ L) e1.symm (by rw [← e2]; exact X'.warmed.alike) hp hb k1 k2 k3 (by rw [e1]; exact hce) hcv hcl T' rfl X'
    exact ⟨t2, st.trans a1, b1⟩
theorem vx_calld {S SX : Type} {post : UInt64 → S → Prop} {px : SX → Prop} {B : S → State → Prop} {BX : String → SX → State → Prop} {AX : Nat → Prop} (hr : vx_Run p l e R s m args below meth c H locs cells slots mc ms (F0 m pc ls st0) rest (va_Qd post B A1 a) (vx_X px BX AX) free) (hS : va_S A0 H0 H locs) (hA : ∀ q, q < H.size → A1 q → A0 q) (hf : ∀ q, free q → A0 q) (hAX : ∀ q, q < H.size → AX q → A0 q)
    (kx : ∀ (E : String) (ce : Cell) (q9 : Addr) (u : SX) (t : State) (H1 : Heap) (locs1 : List Loc), t.heap = H1 → s.vm.Alike t.vm → px u → BX E u t → H.size ≤ H1.size → (∀ q : Nat, q < H.size → ¬ AX q → H1[q]? = H[q]?) → va_S A0 H0 H1 locs1 → H1[q9]? = some ce → ce.vm = .none → s.vm.findClass E = some ce.cls → vx_W p l e R s m args below meth c H1 locs1 (cells + mc) (slots + ms) Q (F0 m pc ls rest) q9)
    (kk : ∀ (r : UInt64) (u : S) (t : State) (H1 : Heap) (locs1 : List Loc), t.heap = H1 → s.vm.Alike t.vm → post r u → B u t → H.size ≤ H1.size → (∀ q : Nat, q < H.size → ¬ A1 q → H1[q]? = H[q]?) → va_S A0 H0 H1 locs1 → W p l e R s m args below meth c H1 locs1 (cells + mc) (slots + ms) Q (F0 m (pc + 3) ls (.double r :: rest))) : W p l e R s m args below meth c H locs cells slots Q (F0 m pc ls st0) := by
  intro T hT X
  rcases hr T hT X with ⟨v, st₀, t, T', L, h0, X', hL, e1, e2, ⟨⟨r, u, hv, hp, hb⟩, hF⟩, st⟩ | ⟨q, st₀, t, T', L, E, ce, h0, X', hL, e1, e2, ⟨u, hp, hb, hF⟩, hce, hcv, hcl, st⟩
  · cases hv
    obtain ⟨k1, k2, k3⟩ := vx_keep h0 e1 hS hA hf hL hF
    obtain ⟨t2, a1, b1⟩ := kk r u t T'.heap (locs ++ L) e1.symm (by rw [← e2]; exact X'.warmed.alike) hp hb k1 k2 k3 T' rfl X'
    exact ⟨t2, st t2 a1, b1⟩
  · obtain ⟨k1, k2, k3⟩ := vx_keep h0 e1 hS hAX hf hL hF
    obtain ⟨t2, a1, b1⟩ := kx E ce q u t T'.heap (locs ++ L) e1.symm (by rw [← e2]; exact X'.warmed.alike) hp hb k1 k2 k3 (by rw [e1]; exact hce) hcv hcl T' rfl X'
    exact ⟨t2, st.trans a1, b1⟩
theorem vx_callv {S SX : Type} {post : S → Prop} {px : SX → Prop} {B : S → State → Prop} {BX : String → SX → State → Prop} {AX : Nat → Prop} (hr : vx_Run p l e R s m args below meth c H locs cells slots mc ms (F0 m pc ls st0) rest (va_Qv post B A1 a) (vx_X px BX AX) free) (hS : va_S A0 H0 H locs) (hA : ∀ q, q < H.size → A1 q → A0 q) (hf : ∀ q, free q → A0 q) (hAX : ∀ q, q < H.size → AX q → A0 q)
    (kx : ∀ (E : String) (ce : Cell) (q9 : Addr) (u : SX) (t : State) (H1 : Heap) (locs1 : List Loc), t.heap = H1 → s.vm.Alike t.vm → px u → BX E u t → H.size ≤ H1.size → (∀ q : Nat, q < H.size → ¬ AX q → H1[q]? = H[q]?) → va_S A0 H0 H1 locs1 → H1[q9]? = some ce → ce.vm = .none → s.vm.findClass E = some ce.cls → vx_W p l e R s m args below meth c H1 locs1 (cells + mc) (slots + ms) Q (F0 m pc ls rest) q9)
    (kk : ∀ (u : S) (t : State) (H1 : Heap) (locs1 : List Loc), t.heap = H1 → s.vm.Alike t.vm → post u → B u t → H.size ≤ H1.size → (∀ q : Nat, q < H.size → ¬ A1 q → H1[q]? = H[q]?) → va_S A0 H0 H1 locs1 → W p l e R s m args below meth c H1 locs1 (cells + mc) (slots + ms) Q (F0 m (pc + 3) ls (rest))) : W p l e R s m args below meth c H locs cells slots Q (F0 m pc ls st0) := by
  intro T hT X
  rcases hr T hT X with ⟨v, st₀, t, T', L, h0, X', hL, e1, e2, ⟨⟨u, hv, hp, hb⟩, hF⟩, st⟩ | ⟨q, st₀, t, T', L, E, ce, h0, X', hL, e1, e2, ⟨u, hp, hb, hF⟩, hce, hcv, hcl, st⟩
  · cases hv
    obtain ⟨k1, k2, k3⟩ := vx_keep h0 e1 hS hA hf hL hF
    obtain ⟨t2, a1, b1⟩ := kk u t T'.heap (locs ++ L) e1.symm (by rw [← e2]; exact X'.warmed.alike) hp hb k1 k2 k3 T' rfl X'
    exact ⟨t2, st t2 a1, b1⟩
  · obtain ⟨k1, k2, k3⟩ := vx_keep h0 e1 hS hAX hf hL hF
    obtain ⟨t2, a1, b1⟩ := kx E ce q u t T'.heap (locs ++ L) e1.symm (by rw [← e2]; exact X'.warmed.alike) hp hb k1 k2 k3 (by rw [e1]; exact hce) hcv hcl T' rfl X'
    exact ⟨t2, st.trans a1, b1⟩
/-- caught by the row x of this method's table; the rows ahead don't take it -/
theorem vx_catch {own name : String} {E : String} {ce : Cell} {q : Addr} (hown : s.vm.findClass own = some m.cls) (pre : List ExceptionTableEntry) (x : ExceptionTableEntry) (suf : List ExceptionTableEntry) (hsplit : c.exceptionTable.toList = pre ++ x :: suf)
    (hpass : ∀ z ∈ pre, covers z pc = false ∨ (z.catchType ≠ 0 ∧ ∃ nm : String, (Cond.classLink own z.catchType nm).before args s = true ∧ va_Nc E nm s)) (hx : covers x pc = true) (h0 : x.catchType ≠ 0)
    (hlink : (Cond.classLink own x.catchType name).before args s = true) (hcast : (Cond.castable E name).before args s = true) (hcell : H[q]? = some ce) (hv : ce.vm = .none) (hcl : s.vm.findClass E = some ce.cls)
    (kk : W p l e R s m args below meth c H locs cells slots Q (F0 m x.handlerPc ls [.ref q])) : vx_W p l e R s m args below meth c H locs cells slots Q (F0 m pc ls rest) q := by
  intro T hT X
  have hpl : e.platform.magicAccessors = ({} : Platform).magicAccessors := by rw [X.admits.platform]
  obtain ⟨c3, c4, hc3, hc4, hasg⟩ := Cond.castable_spec hcast
  cases Option.some.inj (hc3.symm.trans hcl)
  obtain ⟨c5, hc5, hcl5⟩ := Cond.classLink_spec hown hlink e.platform hpl
  cases Option.some.inj (hc4.symm.trans hc5)
  obtain ⟨vm', X', st⟩ := X.thenCaughtThrough q (g := F0 m pc ls rest) rfl (Steps.refl _) (by rw [hT]; exact hcell) (by rw [hv]; rfl) (by obtain ⟨k9, h9, -⟩ := Vm.findClass_spec hcl; exact ⟨k9, h9⟩) pre x suf hsplit
    (fun z hz => by
      rcases hpass z hz with h | ⟨hz0, nm, hl1, hn1⟩
      · exact Or.inl h
      · obtain ⟨c6, hc6, hcl6⟩ := Cond.classLink_spec hown hl1 e.platform hpl
        obtain ⟨a8, b8, h1, h2, h3⟩ := hn1
        cases Option.some.inj (h1.symm.trans hcl)
        cases Option.some.inj (h2.symm.trans hc6)
        exact Or.inr ⟨hz0, _, hcl6, h3⟩) hx (Or.inr ⟨h0, c4, hcl5, hasg⟩)
  obtain ⟨t, a1, b1⟩ := kk (T.setVm vm') hT X'
  exact ⟨t, st.trans a1, b1⟩
end Rows
section Ends
variable {p : Program} {l : Launch} {e : Env} {R : Room} {s : State} {m : MethodId} {args : Array Value} {below : List Frame} {meth : Method} {c : Code} {H : Heap} {locs : List Loc} {cells slots : Nat} {Q : State → Prop}
variable {mc ms : Nat} {free : Addr → Prop} {A0 A1 : Nat → Prop} {H0 : Heap} {a : Array Value} {ls : Array Slot} {st0 rest : List Value}
variable {Qc : Array Value → State → Outcome → State → Prop} {XC : String → State → State → Prop}
/-- what a body that may throw owes at its end -/
def vx_MQ (below : List Frame) (Qc : Array Value → State → Outcome → State → Prop) (XC : String → State → State → Prop) (a : Array Value) (s : State) (mc ms : Nat) (free : Addr → Prop) : State → Prop := fun t =>
  ∃ o, t.status = .running ∧ Ended t below o ∧ vx_Q Qc XC mc ms free a s o t
theorem vx_ret {g : JFrame} {mc ms : Nat} (k : W p l e R s m args below meth c H locs cells slots (MQ below Qc args s mc ms free) g) : W p l e R s m args below meth c H locs cells slots (vx_MQ below Qc XC args s mc ms free) g := by
  intro T hT X
  obtain ⟨t, a1, o, b1, b2, b3, b4⟩ := k T hT X
  exact ⟨t, a1, o, b1, b2, Or.inl ⟨b3, b4⟩⟩
/-- not caught here: it goes on to the caller -/
theorem vx_widen {g : JFrame} {q : Addr} {k n : Nat} (h1 : cells ≤ k) (h2 : slots ≤ n) (kk : vx_W p l e R s m args below meth c H locs k n Q g q) : vx_W p l e R s m args below meth c H locs cells slots Q g q := fun T hT X => kk T hT (stand_widen X h1 h2)
theorem vx_out {pc : Nat} {E : String} {ce : Cell} {q : Addr} {mc ms : Nat} (hout : ∀ x ∈ c.exceptionTable.toList, covers x pc = false) (hlocks : meth.locks = false) (hcell : H[q]? = some ce) (hv : ce.vm = .none) (hcl : s.vm.findClass E = some ce.cls)
    (hx : ∀ t : State, t.heap = H → s.vm.Alike t.vm → XC E s t) (hf : ∀ z ∈ locs, free z.base) (hc : cells ≤ mc) (hs : slots ≤ ms) :
    vx_W p l e R s m args below meth c H locs cells slots (vx_MQ below Qc XC args s mc ms free) (F0 m pc ls rest) q := by
  intro T hT X
  obtain ⟨st1, hrun, hend, hW, hsm⟩ := X.leaveThrown q (g := F0 m pc ls rest) rfl rfl rfl hout hlocks
  have hcell9 : (T.setFrames (.throwing q :: below)).heap[q]? = some ce := by
    show T.heap[q]? = some ce
    rw [hT]; exact hcell
  exact ⟨_, st1, .threw q, hrun, hend, Or.inr ⟨q, rfl, E, ce, locs, hx _ hT hW.alike, hcell9, hv, hcl, hW, hsm.mono hc hs, hf⟩⟩
theorem vx_frame {U : State} {k n : Nat} (h : s.sameButNew ({ U with vm := s.vm } : State) locs k n) : s.heap.size ≤ U.heap.size ∧ ∀ q : Nat, q < s.heap.size → (∀ z ∈ locs, z.base ≠ q) → U.heap[q]? = s.heap[q]? := by
  obtain ⟨-, h2, -, -, -, h6⟩ := h
  refine ⟨h2, fun q hq hz => ?_⟩
  obtain ⟨c9, e1, e2, e3, e4⟩ := h6 q _ (Array.getElem?_eq_getElem hq)
  have hs : c9.slots = (s.heap[q]).slots := Array.ext_getElem? fun i => e4 i fun hm => hz _ hm rfl
  have h9 : c9 = s.heap[q] := by
    rw [hs] at e2
    exact e2
  have e5 : U.heap[q]? = some c9 := e1
  rw [e5, h9, Array.getElem?_eq_getElem hq]
/-- the words of a throw but the four that speak of the heap -/
def vx_no (w : Cond) : Bool := decide (w ≠ .isRef (.static Bundle.tN "UNASSIGNED_STACK" Bundle.steD)) && decide (w ≠ .isRef (.static Bundle.tN "SUPPRESSED_SENTINEL" Bundle.listD)) && decide (w ≠ .laysStatic Bundle.tN "UNASSIGNED_STACK" Bundle.steD) && decide (w ≠ .laysStatic Bundle.tN "SUPPRESSED_SENTINEL" Bundle.listD)
def vx_at0 (own : String) (ic : Nat) (X : String) (names : List String) : List Cond := (Bundle.ownAtoms0 own ic X names).filter vx_no
def vx_atS (own : String) (ic : Nat) (X : String) (names : List String) : List Cond := (Bundle.ownAtoms own ic X names).filter vx_no
/-- a word that the tables alone decide, or a good one -/
def vx_ot (w : Cond) : Bool := w.onTables || goodWord w
theorem vx_ot_at {args a' : Array Value} {s U : State} {w : Cond} (hW : s.WarmedH U.vm) (hvm : s.vm = U.vm) (hg : vx_ot w = true) (h : w.before args s = true) : w.before a' U = true := by
  simp only [vx_ot, Bool.or_eq_true] at hg
  rcases hg with hg | hg
  · exact va_tabs hg hvm h
  · exact word_at hW (good_of_word hg) h
/-- a list's words: the good ones out of the method's own list, the others by premises of their own -/
theorem vx_hat {args : Array Value} {s : State} {L B : List Cond} (h1 : ∀ w ∈ L.filter goodWord, w.before args s = true) (h2 : ∀ w ∈ L.filter (fun w => !goodWord w), w ∈ B) (h3 : ∀ w ∈ B, w.before args s = true) : ∀ w ∈ L, w.before args s = true := by
  intro w hw
  by_cases g : goodWord w = true
  · exact h1 w (List.mem_filter.mpr ⟨hw, g⟩)
  · refine h3 w (h2 w (List.mem_filter.mpr ⟨hw, ?_⟩))
    show (!goodWord w) = true
    cases hgw : goodWord w
    · rfl
    · exact absurd hgw g
theorem vx_c {args : Array Value} {s : State} {w : Cond} {B : List Cond} (h : w.before args s = true) (t : ∀ w ∈ B, w.before args s = true) : ∀ w' ∈ w :: B, w'.before args s = true := fun w' h' => (List.mem_cons.mp h').elim (fun e => by rw [e]; exact h) (t w')
theorem vx_n {args : Array Value} {s : State} : ∀ w ∈ ([] : List Cond), w.before args s = true := fun _ h => nomatch h
theorem vx_own {args : Array Value} {s : State} {L : List Cond} (h1 : ∀ w ∈ L.filter vx_no, w.before args s = true)
    (hU : (Cond.isRef (.static Bundle.tN "UNASSIGNED_STACK" Bundle.steD)).before args s = true) (hN : (Cond.isRef (.static Bundle.tN "SUPPRESSED_SENTINEL" Bundle.listD)).before args s = true)
    (lU : (Cond.laysStatic Bundle.tN "UNASSIGNED_STACK" Bundle.steD).before args s = true) (lN : (Cond.laysStatic Bundle.tN "SUPPRESSED_SENTINEL" Bundle.listD).before args s = true) : ∀ w ∈ L, w.before args s = true := by
  intro w hw
  by_cases e1 : w = .isRef (.static Bundle.tN "UNASSIGNED_STACK" Bundle.steD)
  · rw [e1]; exact hU
  · by_cases e2 : w = .isRef (.static Bundle.tN "SUPPRESSED_SENTINEL" Bundle.listD)
    · rw [e2]; exact hN
    · by_cases e3 : w = .laysStatic Bundle.tN "UNASSIGNED_STACK" Bundle.steD
      · rw [e3]; exact lU
      · by_cases e4 : w = .laysStatic Bundle.tN "SUPPRESSED_SENTINEL" Bundle.listD
        · rw [e4]; exact lN
        · exact h1 w (List.mem_filter.mpr ⟨hw, by unfold vx_no; rw [decide_eq_true e1, decide_eq_true e2, decide_eq_true e3, decide_eq_true e4]; rfl⟩)
/-- where a static field lies, its class's statics cell in H -/
def vx_L (C n d : String) (A : Nat → Prop) (U : State) (H : Heap) : Prop := ∃ (c : ClassId) (k : Class) (i : Nat) (f : Field) (a : Nat) (cell : Cell), U.vm.findClass C = some c ∧ U.fieldFound? C n d = some (c, k, i, f) ∧ f.isStatic = true ∧ k.statics = some a ∧ H[a]? = some cell ∧ cell.vm.isStatics = true ∧ cell.cls = c ∧ f.slot < cell.slots.size ∧ k.staticTypes[f.slot]? = some f.type ∧ ¬ A a
theorem vx_L.moved {C n d : String} {A : Nat → Prop} {u U : State} {H : Heap} (hvm : u.vm.Alike U.vm) (h : vx_L C n d A u H) : vx_L C n d A U H := by
  obtain ⟨c, k, i, f, a, cell, h1, h2, h3, h4, h5, h6, h7, h8, h9, h10⟩ := h
  obtain ⟨k', hi', he⟩ := State.fieldFound?_setVm hvm h2
  exact ⟨c, k', i, f, a, cell, by rw [hvm.findClass]; exact h1, hi', h3, by rw [he]; exact h4, h5, h6, h7, h8, by rw [he]; exact h9, h10⟩
theorem vx_L.kept {C n d : String} {A : Nat → Prop} {U : State} {H H1 : Heap} (h : vx_L C n d A U H) (hq : ∀ a : Nat, a < H.size → ¬ A a → H1[a]? = H[a]?) : vx_L C n d A U H1 := by
  obtain ⟨c, k, i, f, a, cell, h1, h2, h3, h4, h5, h6, h7, h8, h9, h10⟩ := h
  exact ⟨c, k, i, f, a, cell, h1, h2, h3, h4, by rw [hq a (Array.getElem?_eq_some_iff.mp h5).1 h10]; exact h5, h6, h7, h8, h9, h10⟩
theorem vx_L.narrow {C n d : String} {A B : Nat → Prop} {U : State} {H : Heap} (h : vx_L C n d A U H) (hAB : ∀ q, B q → A q) : vx_L C n d B U H := by
  obtain ⟨c, k, i, f, a, cell, h1, h2, h3, h4, h5, h6, h7, h8, h9, h10⟩ := h
  exact ⟨c, k, i, f, a, cell, h1, h2, h3, h4, h5, h6, h7, h8, h9, fun z => h10 (hAB _ z)⟩
theorem vx_L.word {C n d : String} {A : Nat → Prop} {s : State} {args : Array Value} (h : vx_L C n d A s s.heap) : (Cond.laysStatic C n d).before args s = true := by
  obtain ⟨c, k, i, f, a, cell, h1, h2, h3, h4, h5, h6, h7, h8, h9, -⟩ := h
  show (Cond.laysStatic C n d).holds args s none s [] = true
  exact Cond.laysStatic_of h1 h2 h3 h4 h5 h6 h7 h8 h9
/-- .. and what it holds: null or some reference -/
def vx_Zq (C n d : String) (A : Nat → Prop) (U : State) (H : Heap) : Prop := va_Zq C n d A U H ∧ vx_L C n d A U H
theorem vx_Zq.moved {C n d : String} {A : Nat → Prop} {u U : State} {H : Heap} (hvm : u.vm.Alike U.vm) (h : vx_Zq C n d A u H) : vx_Zq C n d A U H := ⟨va_Zq.moved hvm h.1, vx_L.moved hvm h.2⟩
theorem vx_Zq.kept {C n d : String} {A : Nat → Prop} {U : State} {H H1 : Heap} (h : vx_Zq C n d A U H) (hq : ∀ a : Nat, a < H.size → ¬ A a → H1[a]? = H[a]?) : vx_Zq C n d A U H1 := ⟨va_Zq.kept h.1 hq, vx_L.kept h.2 hq⟩
theorem vx_Zq.narrow {C n d : String} {A B : Nat → Prop} {U : State} {H : Heap} (h : vx_Zq C n d A U H) (hAB : ∀ q, B q → A q) : vx_Zq C n d B U H := ⟨va_Zq.narrow h.1 hAB, vx_L.narrow h.2 hAB⟩
theorem vx_Zqof {args : Array Value} {s : State} {C n d : String} {A : Nat → Prop} (hl : (Cond.laysStatic C n d).before args s = true) (hini : (Cond.initialized C).before args s = true) (h : (Cond.isRef (.static C n d)).before args s = true) (hA : ∀ a : Nat, a < s.heap.size → ¬ A a) : vx_Zq C n d A s s.heap := by
  refine ⟨va_Zqof hl hini h hA, ?_⟩
  obtain ⟨c, k, i, f, a, cell, h1, h2, h3, h4, h5, h6, h7, h8, h9⟩ := Cond.laysStatic_spec hl
  exact ⟨c, k, i, f, a, cell, h1, h2, h3, h4, h5, h6, h7, h8, h9, hA a (Array.getElem?_eq_some_iff.mp h5).1⟩
theorem vx_isRef {C n d : String} {v : Value} {A : Nat → Prop} {s : State} {args : Array Value} (h : va_Z C n d v A s s.heap) (hv : v.isRef = true) : (Cond.isRef (.static C n d)).before args s = true := by
  obtain ⟨cf, kf, fi, f, a, cell, h1, h2, h3, h4, h5, h6, h7, -⟩ := h
  have he : (Term.static C n d).eval args s none [] s = some v := by
    simp [Term.eval, State.fieldNamed?, h1, h2, h4, h5, h6, h7]
  simp only [Cond.before, Cond.holds, Cond.value, he]
  cases v <;> simp_all [Value.isRef]
theorem vx_isRefq {C n d : String} {A : Nat → Prop} {s : State} {args : Array Value} (h : va_Zq C n d A s s.heap) : (Cond.isRef (.static C n d)).before args s = true := by
  rcases h with h | ⟨t, h⟩
  · exact vx_isRef h rfl
  · exact vx_isRef h rfl
/-- the same frame, seen from here: as if the method were called anew in this heap -/
theorem vx_rebase {T : State} (X : Stand p l e R s m args below meth c T locs cells slots) {R' : Room} (hf : R'.frames ≤ R.frames) (hl : R'.locals ≤ R.locals) (hc : cells + R'.cells ≤ R.cells) (hs : slots + R'.slots ≤ R.slots) :
    Stand p l e R' ((T.setVm s.vm).setFrames (.invoking m args :: below)) m args below meth c T [] 0 0 := by
  have htop : (T.setVm s.vm).topJava?.isSome := X.here.top
  have hF : ((T.setVm s.vm).setFrames (.invoking m args :: below)).frames = .invoking m args :: below := State.frames_setFrames _ (State.cur_lt_of_top htop)
  obtain ⟨g₀, hg0⟩ := Option.isSome_iff_exists.mp htop
  obtain ⟨r, hr⟩ := State.topJava?_eq_some.mp hg0
  have hl9 : e.platform.stackLimits (T.setVm s.vm).me = e.platform.stackLimits s.me := X.limits
  have hb9 : (T.setVm s.vm).me.stackBytes = s.me.stackBytes := X.bytes
  refine ⟨X.admits, X.cas, X.clock, hF, ?_, X.hears, X.method, X.code, X.here, X.tail, X.warmed, ?_, ?_, ?_⟩
  · have h := X.room
    have hU : ((T.setVm s.vm).setFrames (.invoking m args :: below)).localsInUse = s.localsInUse := by
      rw [State.localsInUse_invoking hF (meth := meth) (c := c) X.method X.code, State.localsInUse_invoking X.frames X.method X.code]
    simp only [State.hasRoom, Bool.and_eq_true, decide_eq_true_eq] at h ⊢
    obtain ⟨⟨⟨⟨h1, h2, h3, h4, h5, h6⟩, h7⟩, h8⟩, h9⟩ := h
    rw [X.frames, List.length_cons] at h2 h3
    have q1 := X.heapSize
    have q2 := X.used
    simp only [hF, hU, List.length_cons, State.stackLimits_setFrames, State.stackBytes_setFrames, hl9, hb9]
    refine ⟨⟨⟨⟨by omega, by omega, by omega, by omega, by omega, h6⟩, ?_⟩, ?_⟩, X.book⟩
    · show T.heap.size + R'.cells ≤ e.platform.maxCells
      omega
    · show T.slotsUsed + R'.slots ≤ e.platform.maxSlots
      omega
  · rw [State.stackLimits_setFrames]; rfl
  · rw [State.stackBytes_setFrames]; rfl
  · refine ⟨?_, Nat.le_refl _, Nat.le_refl _, ?_, ?_, fun a c9 h9 => ⟨c9, h9, rfl, rfl, fun _ _ => rfl⟩⟩
    · obtain ⟨t, ht, -⟩ := State.frames_cons hr
      show T.setVm s.vm = { ((T.setVm s.vm).setFrames (.invoking m args :: below)).setFrames (T.setVm s.vm).frames with heap := T.heap, slotsUsed := T.slotsUsed }
      rw [State.setFrames_setFrames, State.setFrames_self ht]
      rfl
    · show T.slotsUsed = T.slotsUsed + ((T.heap.toList.drop T.heap.size).map (·.slots.size)).sum
      rw [List.drop_eq_nil_of_le (Nat.le_of_eq Array.length_toList)]
      rfl
    · show ((T.heap.toList.drop T.heap.size).map (·.slots.size)).sum ≤ 0
      rw [List.drop_eq_nil_of_le (Nat.le_of_eq Array.length_toList)]
      exact Nat.le_refl _
/-- 'throw new E()': new; dup; invokespecial; athrow -/
theorem vx_throw0 {cc : ByteArray} {pc : Nat} (hexec : p.tables.exec = Jvm.exec) (hb : c.code = cc) (hl : l.stackTraces = false) {own cls : String} {names : List String} {ik ic mc ms : Nat} {A : Nat → Prop}
    (hown : s.vm.findClass own = some m.cls) (hcls : Bundle.fit cls = true) (hnames : ∀ n ∈ names, Bundle.fit n = true)
    (hk : (Cond.classLink own ik cls).before args s = true) (hini : (Cond.initialized cls).before args s = true) (hat : ∀ w ∈ vx_at0 own ic cls names, w.before args s = true)
    (hgood : ∀ w ∈ Cond.classLink own ik cls :: Cond.initialized cls :: vx_at0 own ic cls names, vx_ot w = true)
    (hU : vx_Zq Bundle.tN "UNASSIGNED_STACK" Bundle.steD A s s.heap) (hN : vx_Zq Bundle.tN "SUPPRESSED_SENTINEL" Bundle.listD A s s.heap) (hS : va_S A s.heap H locs) (hsize : ls.size = c.maxLocals)
    (d0 : decode cc pc = .ok (.new ik, 3)) (d3 : decode cc (pc + 3) = .ok (.dup, 1)) (d4 : decode cc (pc + 4) = .ok (.invokespecial ic, 3)) (d7 : decode cc (pc + 7) = .ok (.athrow, 1))
    (hout : ∀ x ∈ c.exceptionTable.toList, covers x (pc + 7) = false)
    (hRframes : names.length + 3 < R.frames) (hRlocals : (rest.map fun v => v.category).sum + (13 * (names.length + 1) + 42) ≤ R.locals) (hRcells : cells + 1 ≤ R.cells) (hRslots : slots + 6 ≤ R.slots) (hlocks : meth.locks = false)
    (hx : ∀ t : State, s.vm.Alike t.vm → H.size ≤ t.heap.size → (∀ q : Nat, q < H.size → t.heap[q]? = H[q]?) → XC cls s t)
    (hf : ∀ z ∈ locs, free z.base) (hc : cells + 1 ≤ mc) (hs : slots + 6 ≤ ms) :
    W p l e R s m args below meth c H locs cells slots (vx_MQ below Qc XC args s mc ms free) (F0 m pc ls rest) := by
  intro T hT X
  have htr : e.platform.stackTraces = false := (show e.platform.stackTraces = l.stackTraces by rw [X.admits.platform]).trans hl
  have Y := vx_rebase X (R' := { frames := R.frames, locals := R.locals, cells := 1, slots := 6 }) (Nat.le_refl _) (Nat.le_refl _) hRcells hRslots
  obtain ⟨s', hA⟩ : ∃ z, z = (T.setVm s.vm).setFrames (.invoking m args :: below) := ⟨_, rfl⟩
  rw [← hA] at Y
  have hvm : s'.vm = s.vm := by rw [hA]; rfl
  have hhp : s'.heap = H := by rw [hA]; exact hT
  have hW0 : s.WarmedH s'.vm := by rw [hvm]; exact State.WarmedH.refl s
  have hat' : ∀ w ∈ vx_at0 own ic cls names, w.before args s' = true := fun w hw => vx_ot_at hW0 hvm.symm (hgood w (List.mem_cons_of_mem _ (List.mem_cons_of_mem _ hw))) (hat w hw)
  have hk' : (Cond.classLink own ik cls).before args s' = true := vx_ot_at hW0 hvm.symm (hgood _ List.mem_cons_self) hk
  have hini' : (Cond.initialized cls).before args s' = true := vx_ot_at hW0 hvm.symm (hgood _ (List.mem_cons_of_mem _ List.mem_cons_self)) hini
  have hU' : vx_Zq Bundle.tN "UNASSIGNED_STACK" Bundle.steD A s' s'.heap := by rw [hhp]; exact vx_Zq.moved hW0.alike (hU.kept hS.2.1)
  have hN' : vx_Zq Bundle.tN "SUPPRESSED_SENTINEL" Bundle.listD A s' s'.heap := by rw [hhp]; exact vx_Zq.moved hW0.alike (hN.kept hS.2.1)
  have h : ∀ w ∈ Bundle.ownAtoms0 own ic cls names, w.before args s' = true := vx_own hat' (vx_isRefq hU'.1) (vx_isRefq hN'.1) hU'.2.word hN'.2.word
  have hown' : s'.vm.findClass own = some m.cls := by rw [hvm]; exact hown
  have hins : (Cond.instantiable cls 6).before args s' = true := h _ (by simp [Bundle.ownAtoms0])
  obtain ⟨vm₁, cX, kX, hfX, hkX, -, -, X₁, st1⟩ := Y.newCold hexec (own := own) (C := cls) (index := ik) (n := 6) hown' hk' hins hini'
    (g := F0 m pc ls rest) rfl (by rw [hb]; exact d0) (Nat.le_refl _) (Nat.le_refl _)
  generalize hT1 : (T.setVm vm₁).pushCell { cls := cX, slots := kX.instanceTypes.map defaultValue, vm := .none } = T1 at X₁ st1
  have hcat : (Value.ref T.heap.size).category = 1 := rfl
  have hcellA : T1.heap[T.heap.size]? = some (freshCell cX kX) := by rw [← hT1]; exact State.heap_pushCell_size _ _
  have d3' : decode c.code (pc + 3) = .ok (.dup, 1) := by rw [hb]; exact d3
  obtain ⟨U, hsteps, hrun, hend, hW, hsame, ce, hce, hO⟩ := X₁.ctorThrow0 hexec htr (own := own) (cls := cls) (names := names) (ic := ic) hown' hcls hnames h (fun x hx => nomatch hx) hfX hkX hcellA (by rw [hhp, hT]; exact Nat.le_refl _)
    (g := { method := m, pc := pc + 4, locals := ls, stack := .ref T.heap.size :: .ref T.heap.size :: rest, locked := none }) rfl hsize rfl rfl (rest := rest) rfl
    (by rw [hb]; exact d4) (by rw [hb]; exact d7) hout hRframes (by simp only [List.map_cons, List.sum_cons, hcat]; omega) hlocks
  obtain ⟨f1, f2⟩ := vx_frame hsame
  rw [hhp] at f1 f2
  have hWs : s.WarmedH U.vm := State.WarmedH.trans hW0 hW
  have hcl : s.vm.findClass cls = some ce.cls := by
    have h9 := hO.cls
    rw [hvm] at h9
    exact h9
  have hall : s.sameButNew ({ U with vm := s.vm } : State) locs mc ms := by
    subst hA
    obtain ⟨e1, e2⟩ := hsame
    rw [State.setFrames_setFrames] at e1
    have h2 : (T.setVm s.vm).sameButNew ({ U with vm := s.vm } : State) [] (0 + 1) (0 + 6) := ⟨e1, e2⟩
    have h3 := X.same.trans h2
    rw [List.append_nil] at h3
    exact h3.mono hc hs
  refine ⟨U, ?_, .threw T.heap.size, hrun, hend, Or.inr ⟨T.heap.size, rfl, cls, ce, locs, hx U hWs.alike f1 (fun q hq => f2 q hq (fun z hz => nomatch hz)), hce, hO.vm, hcl, hWs, hall, hf⟩⟩
  refine st1 _ ?_
  show Steps p.tables e below (T1.setTop { method := m, pc := pc + 3, locals := ls, stack := .ref T.heap.size :: rest, locked := none }) _
  jvm_step X₁.here [X₁.here.top, hexec, d3', Value.category]
  exact hsteps
/-- 'throw new E("text")': new; dup; ldc; invokespecial; athrow -/
theorem vx_throwS {cc : ByteArray} {pc : Nat} (hexec : p.tables.exec = Jvm.exec) (hb : c.code = cc) (hl : l.stackTraces = false) {own cls text : String} {names : List String} {ik is ic mc ms sa : Nat} {A : Nat → Prop}
    (hown : s.vm.findClass own = some m.cls) (hcls : Bundle.fit cls = true) (hnames : ∀ n ∈ names, Bundle.fit n = true)
    (hk : (Cond.classLink own ik cls).before args s = true) (hini : (Cond.initialized cls).before args s = true) (hstr : vk_R own is text sa s) (hat : ∀ w ∈ vx_atS own ic cls names, w.before args s = true)
    (hgood : ∀ w ∈ Cond.classLink own ik cls :: Cond.initialized cls :: vx_atS own ic cls names, vx_ot w = true)
    (hU : vx_Zq Bundle.tN "UNASSIGNED_STACK" Bundle.steD A s s.heap) (hN : vx_Zq Bundle.tN "SUPPRESSED_SENTINEL" Bundle.listD A s s.heap) (hS : va_S A s.heap H locs) (hsize : ls.size = c.maxLocals)
    (d0 : decode cc pc = .ok (.new ik, 3)) (d3 : decode cc (pc + 3) = .ok (.dup, 1)) (d4 : decode cc (pc + 4) = .ok (.ldc is, 2)) (d6 : decode cc (pc + 6) = .ok (.invokespecial ic, 3)) (d9 : decode cc (pc + 9) = .ok (.athrow, 1))
    (hout : ∀ x ∈ c.exceptionTable.toList, covers x (pc + 9) = false)
    (hRframes : names.length + 3 < R.frames) (hRlocals : (rest.map fun v => v.category).sum + (13 * (names.length + 1) + 43) ≤ R.locals) (hRcells : cells + 1 ≤ R.cells) (hRslots : slots + 6 ≤ R.slots) (hlocks : meth.locks = false)
    (hx : ∀ t : State, s.vm.Alike t.vm → H.size ≤ t.heap.size → (∀ q : Nat, q < H.size → t.heap[q]? = H[q]?) → XC cls s t)
    (hf : ∀ z ∈ locs, free z.base) (hc : cells + 1 ≤ mc) (hs : slots + 6 ≤ ms) :
    W p l e R s m args below meth c H locs cells slots (vx_MQ below Qc XC args s mc ms free) (F0 m pc ls rest) := by
  intro T hT X
  have htr : e.platform.stackTraces = false := (show e.platform.stackTraces = l.stackTraces by rw [X.admits.platform]).trans hl
  have Y := vx_rebase X (R' := { frames := R.frames, locals := R.locals, cells := 1, slots := 6 }) (Nat.le_refl _) (Nat.le_refl _) hRcells hRslots
  obtain ⟨s', hA⟩ : ∃ z, z = (T.setVm s.vm).setFrames (.invoking m args :: below) := ⟨_, rfl⟩
  rw [← hA] at Y
  have hvm : s'.vm = s.vm := by rw [hA]; rfl
  have hhp : s'.heap = H := by rw [hA]; exact hT
  have hW0 : s.WarmedH s'.vm := by rw [hvm]; exact State.WarmedH.refl s
  have hat' : ∀ w ∈ vx_atS own ic cls names, w.before args s' = true := fun w hw => vx_ot_at hW0 hvm.symm (hgood w (List.mem_cons_of_mem _ (List.mem_cons_of_mem _ hw))) (hat w hw)
  have hk' : (Cond.classLink own ik cls).before args s' = true := vx_ot_at hW0 hvm.symm (hgood _ List.mem_cons_self) hk
  have hini' : (Cond.initialized cls).before args s' = true := vx_ot_at hW0 hvm.symm (hgood _ (List.mem_cons_of_mem _ List.mem_cons_self)) hini
  have hU' : vx_Zq Bundle.tN "UNASSIGNED_STACK" Bundle.steD A s' s'.heap := by rw [hhp]; exact vx_Zq.moved hW0.alike (hU.kept hS.2.1)
  have hN' : vx_Zq Bundle.tN "SUPPRESSED_SENTINEL" Bundle.listD A s' s'.heap := by rw [hhp]; exact vx_Zq.moved hW0.alike (hN.kept hS.2.1)
  have h : ∀ w ∈ Bundle.ownAtoms own ic cls names, w.before args s' = true := vx_own hat' (vx_isRefq hU'.1) (vx_isRefq hN'.1) hU'.2.word hN'.2.word
  have hown' : s'.vm.findClass own = some m.cls := by rw [hvm]; exact hown
  have hins : (Cond.instantiable cls 6).before args s' = true := h _ (by simp [Bundle.ownAtoms])
  obtain ⟨vm₁, cX, kX, hfX, hkX, -, -, X₁, st1⟩ := Y.newCold hexec (own := own) (C := cls) (index := ik) (n := 6) hown' hk' hins hini'
    (g := F0 m pc ls rest) rfl (by rw [hb]; exact d0) (Nat.le_refl _) (Nat.le_refl _)
  generalize hT1 : (T.setVm vm₁).pushCell { cls := cX, slots := kX.instanceTypes.map defaultValue, vm := .none } = T1 at X₁ st1
  have hcat : (Value.ref T.heap.size).category = 1 := rfl
  have hcellA : T1.heap[T.heap.size]? = some (freshCell cX kX) := by rw [← hT1]; exact State.heap_pushCell_size _ _
  have d3' : decode c.code (pc + 3) = .ok (.dup, 1) := by rw [hb]; exact d3
  have d4' : decode c.code (pc + 4) = .ok (.ldc is, 2) := by rw [hb]; exact d4
  have hstr' : vk_R own is text sa s' := vk_R.warm hW0 hstr
  obtain ⟨U, hsteps, hrun, hend, hW, hsame, ce, hce, hO⟩ := X₁.ctorThrowS hexec htr (own := own) (cls := cls) (names := names) (ic := ic) hown' hcls hnames h (fun x hx => nomatch hx) hfX hkX hcellA (by rw [hhp, hT]; exact Nat.le_refl _) (msg := .ref sa) rfl
    (g := { method := m, pc := pc + 6, locals := ls, stack := .ref sa :: .ref T.heap.size :: .ref T.heap.size :: rest, locked := none }) rfl hsize rfl rfl (rest := rest) rfl
    (by rw [hb]; exact d6) (by rw [hb]; exact d9) hout hRframes (by simp only [List.map_cons, List.sum_cons, hcat]; omega) hlocks
  obtain ⟨f1, f2⟩ := vx_frame hsame
  rw [hhp] at f1 f2
  have hWs : s.WarmedH U.vm := State.WarmedH.trans hW0 hW
  have hcl : s.vm.findClass cls = some ce.cls := by
    have h9 := hO.cls
    rw [hvm] at h9
    exact h9
  have hall : s.sameButNew ({ U with vm := s.vm } : State) locs mc ms := by
    subst hA
    obtain ⟨e1, e2⟩ := hsame
    rw [State.setFrames_setFrames] at e1
    have h2 : (T.setVm s.vm).sameButNew ({ U with vm := s.vm } : State) [] (0 + 1) (0 + 6) := ⟨e1, e2⟩
    have h3 := X.same.trans h2
    rw [List.append_nil] at h3
    exact h3.mono hc hs
  refine ⟨U, ?_, .threw T.heap.size, hrun, hend, Or.inr ⟨T.heap.size, rfl, cls, ce, locs, hx U hWs.alike f1 (fun q hq => f2 q hq (fun z hz => nomatch hz)), hce, hO.vm, hcl, hWs, hall, hf⟩⟩
  refine st1 _ ?_
  show Steps p.tables e below (T1.setTop { method := m, pc := pc + 3, locals := ls, stack := .ref T.heap.size :: rest, locked := none }) _
  jvm_step X₁.here [X₁.here.top, hexec, d3', Value.category]
  exact X₁.ldcString hexec (own := own) (text := text) (index := is) (a := sa) hown' hstr'.1 hstr'.2
    (g := { method := m, pc := pc + 4, locals := ls, stack := .ref T.heap.size :: .ref T.heap.size :: rest, locked := none }) rfl d4' _ hsteps
/-- 'throw new E("text")', the text by a wide index -/
theorem vx_throwSW {cc : ByteArray} {pc : Nat} (hexec : p.tables.exec = Jvm.exec) (hb : c.code = cc) (hl : l.stackTraces = false) {own cls text : String} {names : List String} {ik is ic mc ms sa : Nat} {A : Nat → Prop}
    (hown : s.vm.findClass own = some m.cls) (hcls : Bundle.fit cls = true) (hnames : ∀ n ∈ names, Bundle.fit n = true)
    (hk : (Cond.classLink own ik cls).before args s = true) (hini : (Cond.initialized cls).before args s = true) (hstr : vk_R own is text sa s) (hat : ∀ w ∈ vx_atS own ic cls names, w.before args s = true)
    (hgood : ∀ w ∈ Cond.classLink own ik cls :: Cond.initialized cls :: vx_atS own ic cls names, vx_ot w = true)
    (hU : vx_Zq Bundle.tN "UNASSIGNED_STACK" Bundle.steD A s s.heap) (hN : vx_Zq Bundle.tN "SUPPRESSED_SENTINEL" Bundle.listD A s s.heap) (hS : va_S A s.heap H locs) (hsize : ls.size = c.maxLocals)
    (d0 : decode cc pc = .ok (.new ik, 3)) (d3 : decode cc (pc + 3) = .ok (.dup, 1)) (d4 : decode cc (pc + 4) = .ok (.ldc_w is, 3)) (d7 : decode cc (pc + 7) = .ok (.invokespecial ic, 3)) (d10 : decode cc (pc + 10) = .ok (.athrow, 1))
    (hout : ∀ x ∈ c.exceptionTable.toList, covers x (pc + 10) = false)
    (hRframes : names.length + 3 < R.frames) (hRlocals : (rest.map fun v => v.category).sum + (13 * (names.length + 1) + 43) ≤ R.locals) (hRcells : cells + 1 ≤ R.cells) (hRslots : slots + 6 ≤ R.slots) (hlocks : meth.locks = false)
    (hx : ∀ t : State, s.vm.Alike t.vm → H.size ≤ t.heap.size → (∀ q : Nat, q < H.size → t.heap[q]? = H[q]?) → XC cls s t)
    (hf : ∀ z ∈ locs, free z.base) (hc : cells + 1 ≤ mc) (hs : slots + 6 ≤ ms) :
    W p l e R s m args below meth c H locs cells slots (vx_MQ below Qc XC args s mc ms free) (F0 m pc ls rest) := by
  intro T hT X
  have htr : e.platform.stackTraces = false := (show e.platform.stackTraces = l.stackTraces by rw [X.admits.platform]).trans hl
  have Y := vx_rebase X (R' := { frames := R.frames, locals := R.locals, cells := 1, slots := 6 }) (Nat.le_refl _) (Nat.le_refl _) hRcells hRslots
  obtain ⟨s', hA⟩ : ∃ z, z = (T.setVm s.vm).setFrames (.invoking m args :: below) := ⟨_, rfl⟩
  rw [← hA] at Y
  have hvm : s'.vm = s.vm := by rw [hA]; rfl
  have hhp : s'.heap = H := by rw [hA]; exact hT
  have hW0 : s.WarmedH s'.vm := by rw [hvm]; exact State.WarmedH.refl s
  have hat' : ∀ w ∈ vx_atS own ic cls names, w.before args s' = true := fun w hw => vx_ot_at hW0 hvm.symm (hgood w (List.mem_cons_of_mem _ (List.mem_cons_of_mem _ hw))) (hat w hw)
  have hk' : (Cond.classLink own ik cls).before args s' = true := vx_ot_at hW0 hvm.symm (hgood _ List.mem_cons_self) hk
  have hini' : (Cond.initialized cls).before args s' = true := vx_ot_at hW0 hvm.symm (hgood _ (List.mem_cons_of_mem _ List.mem_cons_self)) hini
  have hU' : vx_Zq Bundle.tN "UNASSIGNED_STACK" Bundle.steD A s' s'.heap := by rw [hhp]; exact vx_Zq.moved hW0.alike (hU.kept hS.2.1)
  have hN' : vx_Zq Bundle.tN "SUPPRESSED_SENTINEL" Bundle.listD A s' s'.heap := by rw [hhp]; exact vx_Zq.moved hW0.alike (hN.kept hS.2.1)
  have h : ∀ w ∈ Bundle.ownAtoms own ic cls names, w.before args s' = true := vx_own hat' (vx_isRefq hU'.1) (vx_isRefq hN'.1) hU'.2.word hN'.2.word
  have hown' : s'.vm.findClass own = some m.cls := by rw [hvm]; exact hown
  have hins : (Cond.instantiable cls 6).before args s' = true := h _ (by simp [Bundle.ownAtoms])
  obtain ⟨vm₁, cX, kX, hfX, hkX, -, -, X₁, st1⟩ := Y.newCold hexec (own := own) (C := cls) (index := ik) (n := 6) hown' hk' hins hini'
    (g := F0 m pc ls rest) rfl (by rw [hb]; exact d0) (Nat.le_refl _) (Nat.le_refl _)
  generalize hT1 : (T.setVm vm₁).pushCell { cls := cX, slots := kX.instanceTypes.map defaultValue, vm := .none } = T1 at X₁ st1
  have hcat : (Value.ref T.heap.size).category = 1 := rfl
  have hcellA : T1.heap[T.heap.size]? = some (freshCell cX kX) := by rw [← hT1]; exact State.heap_pushCell_size _ _
  have d3' : decode c.code (pc + 3) = .ok (.dup, 1) := by rw [hb]; exact d3
  have d4' : decode c.code (pc + 4) = .ok (.ldc_w is, 3) := by rw [hb]; exact d4
  have hstr' : vk_R own is text sa s' := vk_R.warm hW0 hstr
  obtain ⟨U, hsteps, hrun, hend, hW, hsame, ce, hce, hO⟩ := X₁.ctorThrowS hexec htr (own := own) (cls := cls) (names := names) (ic := ic) hown' hcls hnames h (fun x hx => nomatch hx) hfX hkX hcellA (by rw [hhp, hT]; exact Nat.le_refl _) (msg := .ref sa) rfl
    (g := { method := m, pc := pc + 7, locals := ls, stack := .ref sa :: .ref T.heap.size :: .ref T.heap.size :: rest, locked := none }) rfl hsize rfl rfl (rest := rest) rfl
    (by rw [hb]; exact d7) (by rw [hb]; exact d10) hout hRframes (by simp only [List.map_cons, List.sum_cons, hcat]; omega) hlocks
  obtain ⟨f1, f2⟩ := vx_frame hsame
  rw [hhp] at f1 f2
  have hWs : s.WarmedH U.vm := State.WarmedH.trans hW0 hW
  have hcl : s.vm.findClass cls = some ce.cls := by
    have h9 := hO.cls
    rw [hvm] at h9
    exact h9
  have hall : s.sameButNew ({ U with vm := s.vm } : State) locs mc ms := by
    subst hA
    obtain ⟨e1, e2⟩ := hsame
    rw [State.setFrames_setFrames] at e1
    have h2 : (T.setVm s.vm).sameButNew ({ U with vm := s.vm } : State) [] (0 + 1) (0 + 6) := ⟨e1, e2⟩
    have h3 := X.same.trans h2
    rw [List.append_nil] at h3
    exact h3.mono hc hs
  refine ⟨U, ?_, .threw T.heap.size, hrun, hend, Or.inr ⟨T.heap.size, rfl, cls, ce, locs, hx U hWs.alike f1 (fun q hq => f2 q hq (fun z hz => nomatch hz)), hce, hO.vm, hcl, hWs, hall, hf⟩⟩
  refine st1 _ ?_
  show Steps p.tables e below (T1.setTop { method := m, pc := pc + 3, locals := ls, stack := .ref T.heap.size :: rest, locked := none }) _
  jvm_step X₁.here [X₁.here.top, hexec, d3', Value.category]
  exact X₁.ldcStringW hexec (own := own) (text := text) (index := is) (a := sa) hown' hstr'.1 hstr'.2
    (g := { method := m, pc := pc + 4, locals := ls, stack := .ref T.heap.size :: .ref T.heap.size :: rest, locked := none }) rfl d4' _ hsteps
end Ends
section Bodies
variable {l : Launch}
theorem vx_ofW {y : MethodName} {ws ws' : List Cond} {rm : Room} {Pc : Array Value → State → Prop} {Qc : Array Value → State → Outcome → State → Prop} {XC : String → State → State → Prop} {mc ms : Nat} {free : Addr → Prop} {cc : ByteArray} {maxL : Nat} {ret : Option FieldType}
    (hy : plainName y.cls = true) (hw : ws = Cond.code y cc maxL ret :: ws')
    (body : ∀ p e s m args below meth c s₁, BodyLoose p l y (headSpec ws rm) cc maxL ret e s m args below meth c s₁ → c.maxLocals = maxL → (∀ x ∈ c.exceptionTable.toList, False) → Pc args s →
      W p l e (headSpec ws rm).room s m args below meth c s.heap [] 0 0 (vx_MQ below Qc XC args s mc ms free) (entryFrame m args maxL)) : vx_Met l y ws rm Pc Qc XC mc ms free := by
  refine MetFree.of_bodyS (code := cc) (maxLocals := maxL) (ret := ret) hy ?_ ?_
  · intro args s m h hn
    obtain ⟨meth, c, h1, h2, h3, h4, h5, h6, -, -⟩ := Cond.code_spec hn (atoms_spec (ws := ws) h _ (by rw [hw]; exact List.mem_cons_self))
    exact ⟨meth, c, h1, h2, h3, h4, h5, h6⟩
  · intro p e s m args below meth c s₁ B hml hP _
    have hh0 : s₁.heap = s.heap := by rw [B.state]; rfl
    have ht : ∀ x ∈ c.exceptionTable.toList, False := by
      obtain ⟨meth9, c9, h1, h2, -, -, -, -, h7, -⟩ := Cond.code_spec B.named (atoms_spec (ws := ws) B.pre _ (by rw [hw]; exact List.mem_cons_self))
      cases Option.some.inj (h1.symm.trans B.method)
      cases Option.some.inj (h2.symm.trans (Stand.of_body B).code)
      intro x hx
      rw [Array.isEmpty_iff.mp h7] at hx
      cases hx
    obtain ⟨t, a1, o, b1, b2, b3⟩ := body p e s m args below meth c s₁ B hml ht hP s₁ hh0 (Stand.of_body B)
    exact ⟨t, o, a1, b1, b2, b3⟩
/-- the table of a body with handlers -/
theorem vx_table {p : Program} {x y : MethodName} {S : Spec} {cc bytes : ByteArray} {maxL maxL' : Nat} {ret ret' : Option FieldType} {e : Env} {s s₁ : State} {m : MethodId} {args : Array Value} {below : List Frame} {meth : Method} {c : Code} {hh : List (Nat × Nat × Nat × Nat)}
    (B : BodyLoose p l y S cc maxL ret e s m args below meth c s₁) (h : (Cond.codeWith y bytes maxL' ret' hh).before args s = true) : c.exceptionTable.toList = tableOf hh := by
  obtain ⟨m9, meth9, c9, hn9, h1, h2, -, -, h6, -⟩ := Cond.codeWith_spec h
  cases Option.some.inj (hn9.symm.trans B.named)
  cases Option.some.inj (h1.symm.trans B.method)
  cases Option.some.inj (h2.symm.trans (Stand.of_body B).code)
  rw [← h6, table_eq]
end Bodies
end VXA
/-! ===== END ===== -/
/-! ===== BEGIN a static call of a method with an exception table ===== -/
section VXS
variable {p : Program} {l : Launch} {e : Env} {R : Room} {s : State} {m : MethodId} {args : Array Value} {below : List Frame} {meth : Method} {c : Code} {T : State} {H : Heap} {locs : List Loc} {cells slots : Nat}
abbrev vx_CSW (R : Room) (s : State) (args : Array Value) (own : String) (index : Nat) (y : MethodName) (bytes : ByteArray) (maxL : Nat) (ret : Option FieldType) (hh : List (Nat × Nat × Nat × Nat)) (ws : List Cond) (rm : Room) (mc ms n : Nat) : Prop :=
  (rm.cells = mc ∧ rm.slots = ms ∧ rm.frames + 1 ≤ R.frames ∧ 8 + (maxL + 11) + rm.locals ≤ R.locals ∧ (∀ w ∈ ws, ∀ (a' : Array Value) (U : State), s.WarmedH U.vm → w.before a' U = true) ∧ Cond.codeWith y bytes maxL ret hh ∈ ws) ∧
  (Cond.codeWith y bytes maxL ret hh).before args s = true ∧ (Cond.initialized y.cls).before args s = true ∧ (y.cls ≠ "java/lang/invoke/MethodHandle" ∧ y.cls ≠ "java/lang/invoke/VarHandle") ∧
  (∀ sig, parseMethodDescriptor y.desc = some sig → n = sig.parameters.length) ∧ (Cond.methodLink own index y).before args s = true ∧ (Cond.static y).before args s = true
theorem vx_cwSW {own : String} {index maxL mc ms : Nat} {y : MethodName} {bytes : ByteArray} {ret : Option FieldType} {hh : List (Nat × Nat × Nat × Nat)} {Ts ws ws' : List Cond} {rm : Room} (n : Nat) (ht : ∀ w ∈ Ts, w.before args s = true) (hT : GoodIn Ts (va_wsS own index y ws)) (hw : ws = Cond.codeWith y bytes maxL ret hh :: ws') (hrc : rm.cells = mc) (hrs : rm.slots = ms)
    (hd : y.cls ≠ "java/lang/invoke/MethodHandle" ∧ y.cls ≠ "java/lang/invoke/VarHandle" ∧ (parseMethodDescriptor y.desc).map (fun d => d.parameters.length) = some n) (hR : rm.frames + 1 ≤ R.frames ∧ 8 + (maxL + 11) + rm.locals ≤ R.locals) :
    vx_CSW R s args own index y bytes maxL ret hh ws rm mc ms n := by
  have ok : ∀ w ∈ va_wsS own index y ws, w.before args s = true := fun w h => ht w (hT w h).1
  have hG : GoodIn Ts ws := fun w h => hT w (by unfold va_wsS; exact List.mem_append_right _ h)
  have hc : Cond.codeWith y bytes maxL ret hh ∈ ws := by rw [hw]; exact List.mem_cons_self
  refine ⟨⟨hrc, hrs, hR.1, hR.2, pay_in ht hG, hc⟩, ht _ (hG _ hc).1, ok _ (by simp [va_wsS]), ⟨hd.1, hd.2.1⟩, fun sig h => ?_, ok _ (by simp [va_wsS]), ok _ (by simp [va_wsS])⟩
  have h2 := hd.2.2
  rw [h] at h2
  exact (Option.some.inj h2).symm
theorem vx_callSW (X : Stand p l e R s m args below meth c T locs cells slots) (hexec : p.tables.exec = Jvm.exec) {own : String} {index : Nat} {y : MethodName} {bytes : ByteArray} {maxL : Nat} {ret : Option FieldType} {hh : List (Nat × Nat × Nat × Nat)}
    (hown : s.vm.findClass own = some m.cls) (hlink : (Cond.methodLink own index y).before args s = true) (hstat : (Cond.static y).before args s = true) (hinit : (Cond.initialized y.cls).before args s = true)
    (hcode : (Cond.codeWith y bytes maxL ret hh).before args s = true) (hy : y.cls ≠ "java/lang/invoke/MethodHandle" ∧ y.cls ≠ "java/lang/invoke/VarHandle")
    {W9 : Nat} {Pre : Pt → Array Value → Prop} {Post : Pt → Array Value → Option Value → Pt → Prop} (hK : Back l R p e below s args y 3 W9 Pre Post)
    {g : JFrame} (hg : g.method = m) (hsize : g.locals.size = c.maxLocals) {argsL rest : List Value} (hlen : ∀ sig, parseMethodDescriptor y.desc = some sig → argsL.length = sig.parameters.length)
    (hstack : g.stack = argsL.reverse ++ rest) (hW : 2 * g.monitorRoom + (rest.map fun v => v.category).sum ≤ W9) (hdg : decode c.code g.pc = .ok (.invokestatic index, 3))
    (hpre : ∀ vm₁, s.WarmedH vm₁ → Pre ⟨T.setVm vm₁, locs, cells, slots⟩ argsL.toArray) :
    ∃ (v : Option Value) (vm₁ : Vm) (B : Pt), s.WarmedH vm₁ ∧ Stand p l e R s m args below meth c B.U B.locs B.cells B.slots ∧ Post ⟨T.setVm vm₁, locs, cells, slots⟩ argsL.toArray v B ∧
      ∀ target, Steps p.tables e below (B.U.setTop { g with pc := g.pc + 3, stack := v.toList ++ rest }) target → Steps p.tables e below (T.setTop g) target := by
  obtain ⟨mk, methM, cM, hnamed, hmethM, -, -, -, -, -, -, hsigM⟩ := Cond.codeWith_spec hcode
  have hstatic : methM.isStatic = true := Cond.static_spec hnamed hmethM hstat
  obtain ⟨kP, hkP, -⟩ := className_of_methodNamed hnamed
  have hinitP : kP.init = .initialized := Cond.initialized_spec (findClass_of_methodNamed hnamed) hkP hinit
  obtain ⟨vm₁, X₁, hstep₁⟩ := X.invokestatic hexec hown hlink hnamed hmethM hstatic hkP hinitP hy (g := g) hg (argsL := argsL) (rest := rest) (hlen _ hsigM) hstack hdg
  obtain ⟨v, B, X', hpost, hsteps⟩ := hK m meth c ⟨T.setVm vm₁, locs, cells, slots⟩ { g with stack := rest } (.invokestatic index) mk argsL.toArray X₁ hg hsize hdg hW (X₁.named hnamed) (hpre vm₁ X₁.warmed)
  exact ⟨v, vm₁, B, X₁.warmed, X', hpost, fun target h => hstep₁ _ fun acts => by rw [doInvoke_state]; exact hsteps.trans h⟩
theorem vx_runSW {y : MethodName} {bytes cc : ByteArray} {maxL nL mc ms n index : Nat} {ret : Option FieldType} {hh : List (Nat × Nat × Nat × Nat)} {ws : List Cond} {rm : Room} {Pc : Array Value → State → Prop} {Qc : Array Value → State → Outcome → State → Prop} {free : Addr → Prop} {Ts : List Cond} {own : String} {As rest : List Value} {g : JFrame}
    (S : CallFix p m c cc nL s args Ts own) (hM : Met l y ws rm Pc Qc mc ms free) (cw : vx_CSW R s args own index y bytes maxL ret hh ws rm mc ms n) (hp : PreS s H Pc As)
    (hg : g.method = m) (hn : As.length = n) (hsize : g.locals.size = nL) (hstack : g.stack = As.reverse ++ rest) (hW : 2 * g.monitorRoom + (rest.map fun v => v.category).sum ≤ 8) (hdg : decode cc g.pc = .ok (.invokestatic index, 3)) (hf : cells + mc ≤ R.cells ∧ slots + ms ≤ R.slots) :
    va_Run p l e R s m args below meth c H locs cells slots mc ms g rest (Qc As.toArray) (free) := by
  obtain ⟨⟨hrc, hrs, hfr, hlo, hws, hcw⟩, hcode, hini, hy, hlen, hl, hstt⟩ := cw
  have hK : Back l R p e below s args y 3 8 (PreOf R mc ms Pc) (PostOf Qc mc ms free) := va_backW (hh := hh) (bytes := bytes) (maxL := maxL) (ret := ret) hM hp.1 hrc hrs hfr hlo hws hcw (fun a' U hW => word_at hW (Or.inl (by first | rfl | simp [Cond.onTables, Cond.keeps, Cond.steady])) hini)
  obtain ⟨hx, hb, hml, ho, -⟩ := S
  intro T hT X
  obtain ⟨v, vm₁, ⟨U', l2, c2, s2⟩, hW₁, X', ⟨g', mk, t, L, e1, e2, hq, h1, hL, h2, h3⟩, st⟩ := vx_callSW X hx (hh := hh) (bytes := bytes) (maxL := maxL) (ret := ret) ho hl hstt hini hcode hy hK hg (hsize.trans hml.symm) (argsL := As) (rest := rest) (fun sig h => hn.trans (hlen sig h)) hstack hW (by rw [hb]; exact hdg)
    (fun vm₁ hW₁ => ⟨hf.1, hf.2, hp.2 (T.setVm vm₁) hT hW₁⟩)
  dsimp only [Pt.U, Pt.locs, Pt.cells, Pt.slots] at X' e1 e2 h1 h2 h3 st
  subst h1; subst h2; subst h3
  exact ⟨v, (T.setVm vm₁).calling g' mk As.toArray, t, U', L, hT, X', hL, e1, e2, hq, st⟩
/-- not caught here, past rows that name other classes: it goes on to the caller -/
theorem vx_outP {p : Program} {l : Launch} {e : Env} {R : Room} {s : State} {m : MethodId} {args : Array Value} {below : List Frame} {meth : Method} {c : Code} {H : Heap} {locs : List Loc} {cells slots : Nat} {free : Addr → Prop} {ls : Array Slot} {rest : List Value} {Qc : Array Value → State → Outcome → State → Prop} {XC : String → State → State → Prop}
    {pc : Nat} {own E : String} {ce : Cell} {q : Addr} {mc ms : Nat} (hown : s.vm.findClass own = some m.cls) (hlocks : meth.locks = false)
    (hpass : ∀ z ∈ c.exceptionTable.toList, covers z pc = false ∨ (z.catchType ≠ 0 ∧ ∃ nm : String, (Cond.classLink own z.catchType nm).before args s = true ∧ va_Nc E nm s)) (hcell : H[q]? = some ce) (hv : ce.vm = .none) (hcl : s.vm.findClass E = some ce.cls)
    (hx : ∀ t : State, t.heap = H → s.vm.Alike t.vm → XC E s t) (hf : ∀ z ∈ locs, free z.base) (hc : cells ≤ mc) (hs : slots ≤ ms) :
    vx_W p l e R s m args below meth c H locs cells slots (vx_MQ below Qc XC args s mc ms free) (F0 m pc ls rest) q := by
  intro T hT X
  have hpl : e.platform.magicAccessors = ({} : Platform).magicAccessors := by rw [X.admits.platform]
  obtain ⟨vm', hW', X', st⟩ := X.outThrough hlocks q (g := F0 m pc ls rest) rfl rfl rfl (cell := ce) (by rw [hT]; exact hcell) (by rw [hv]; rfl)
    (by obtain ⟨k9, h9, -⟩ := Vm.findClass_spec hcl; exact ⟨k9, h9⟩) (fun z hz => by
      rcases hpass z hz with h | ⟨hz0, nm, hl1, hn1⟩
      · exact Or.inl h
      · obtain ⟨c6, hc6, hcl6⟩ := Cond.classLink_spec hown hl1 e.platform hpl
        obtain ⟨a8, b8, h1, h2, h3⟩ := hn1
        cases Option.some.inj (h1.symm.trans hcl)
        cases Option.some.inj (h2.symm.trans hc6)
        exact Or.inr ⟨hz0, _, hcl6, h3⟩)
  obtain ⟨g₀, hfr⟩ := X'.frames_eq
  have hcell9 : ((T.setVm vm').setFrames (.throwing q :: below)).heap[q]? = some ce := by
    show T.heap[q]? = some ce
    rw [hT]; exact hcell
  have hend : Ended ((T.setVm vm').setFrames (.throwing q :: below)) below (.threw q) := State.frames_setFrames _ (State.cur_lt_of_frames hfr)
  refine ⟨(T.setVm vm').setFrames (.throwing q :: below), ?_, .threw q, X'.here.running, hend, Or.inr ⟨q, rfl, E, ce, locs, hx _ hT (X'.ends _).1.alike, hcell9, hv, hcl, (X'.ends _).1, (X'.ends _).2.mono hc hs, hf⟩⟩
  rw [X.pushThrowing_eq]
  exact st
/-- a thing of a world lies in the heap -/
theorem vx_lt {D : va_G} {cl : List vw_C} {ws : va_W} {H1 : Heap} (h : va_P D cl ws H1) {k : Nat} {q : Nat × va_E} (hk : ws[k]? = some q) : q.1 < H1.size := (h k q hk).lt
end VXS
/-! ===== END ===== -/
def vx_atN (n : Nat) : List Cond := (Bundle.npeArmAtoms n).filter vx_no
def vx_atM (X : String) (names : List String) : List Cond := (Bundle.messageArmAtoms X names).filter vx_no
/-- the words of a throw whose class's constructor stands at another index -/
def vx_atSX (own : String) (ic : Nat) (X : String) (ix : Nat) (rx : ByteArray) (names : List String) : List Cond := (Bundle.ownAtomsX own ic X ix rx names).filter vx_no
/-! ===== BEGIN printed: names, fields, word lists, decode rows ===== -/
def RX0 : String := "ArenaPlan$Cells"
def TX0 : u_T := fun k => match k with
  | 0 => ("ArenaPlan$Cells", "graph", "LArenaPlan$Graph;", true)
  | 1 => ("ArenaPlan$Cells", "plan", "LArenaPlan$Plan;", true)
  | 2 => ("ArenaPlan$Cells", "places", "LArenaPlan$Places;", true)
  | _ => ("ArenaPlan$Cells", "value", "[I", true)
def tyX0 : Nat → FieldType := fun k => match k with
  | 0 => .object "ArenaPlan$Graph"
  | 1 => .object "ArenaPlan$Plan"
  | 2 => .object "ArenaPlan$Places"
  | _ => .array .int
abbrev wsX00 : List Cond := u_ws RX0 TX0 4
theorem nmX0 : ∀ a, a < 4 → ∀ b, b < 4 → a ≠ b → (TX0 a).2.1 ≠ (TX0 b).2.1 := by decide +kernel
theorem tyX0_ok : ∀ k, k < 4 → parseFieldDescriptor (TX0 k).2.2.1 = some (tyX0 k) := by decide +kernel
abbrev cX0_init : ByteArray := prog_2_method_1_code
def yX0_init : MethodName := ⟨RX0, "<init>", "(LArenaPlan$Places;)V"⟩
abbrev cX0_work : ByteArray := prog_2_method_2_code
def yX0_work : MethodName := ⟨RX0, "work", "()I"⟩
abbrev cX0_workOut : ByteArray := prog_2_method_3_code
def yX0_workOut : MethodName := ⟨RX0, "workOut", "(II)I"⟩
abbrev cX0_valueOf : ByteArray := prog_2_method_4_code
def yX0_valueOf : MethodName := ⟨RX0, "valueOf", "(II)I"⟩
abbrev cX0_totalOf : ByteArray := prog_2_method_5_code
def yX0_totalOf : MethodName := ⟨RX0, "totalOf", "(I)I"⟩
def RX1 : String := "ArenaPlan$Graph"
def TX1 : u_T := fun k => match k with
  | 0 => ("ArenaPlan$Graph", "operation", "[I", true)
  | 1 => ("ArenaPlan$Graph", "p", "[I", true)
  | 2 => ("ArenaPlan$Graph", "q", "[I", true)
  | 3 => ("ArenaPlan$Graph", "given", "[[I", true)
  | 4 => ("ArenaPlan$Graph", "source", "[[I", true)
  | 5 => ("ArenaPlan$Graph", "kept", "[Z", true)
  | _ => ("ArenaPlan$Graph", "count", "I", false)
def tyX1 : Nat → FieldType := fun k => match k with
  | 0 => .array .int
  | 1 => .array .int
  | 2 => .array .int
  | 3 => .array (.array .int)
  | 4 => .array (.array .int)
  | 5 => .array .boolean
  | _ => .int
abbrev wsX10 : List Cond := u_ws RX1 TX1 7
theorem nmX1 : ∀ a, a < 7 → ∀ b, b < 7 → a ≠ b → (TX1 a).2.1 ≠ (TX1 b).2.1 := by decide +kernel
theorem tyX1_ok : ∀ k, k < 7 → parseFieldDescriptor (TX1 k).2.2.1 = some (tyX1 k) := by decide +kernel
abbrev cX1_init : ByteArray := prog_3_method_1_code
def yX1_init : MethodName := ⟨RX1, "<init>", "()V"⟩
abbrev cX1_has : ByteArray := prog_3_method_2_code
def yX1_has : MethodName := ⟨RX1, "has", "(I)Z"⟩
abbrev cX1_inputs : ByteArray := prog_3_method_3_code
def yX1_inputs : MethodName := ⟨RX1, "inputs", "(I)I"⟩
abbrev cX1_add : ByteArray := prog_3_method_4_code
def yX1_add : MethodName := ⟨RX1, "add", "(III)I"⟩
abbrev cX1_isWired : ByteArray := prog_3_method_5_code
def yX1_isWired : MethodName := ⟨RX1, "isWired", "()Z"⟩
abbrev cX1_dependencies : ByteArray := prog_3_method_6_code
def yX1_dependencies : MethodName := ⟨RX1, "dependencies", "(I)I"⟩
def RX2 : String := "ArenaPlan$LeastPeak"
def TX2 : u_T := fun k => match k with
  | 0 => ("ArenaPlan$LeastPeak", "plan", "LArenaPlan$Plan;", true)
  | _ => ("ArenaPlan$LeastPeak", "peakOf", "[I", true)
def tyX2 : Nat → FieldType := fun k => match k with
  | 0 => .object "ArenaPlan$Plan"
  | _ => .array .int
abbrev wsX20 : List Cond := u_ws RX2 TX2 2
theorem nmX2 : ∀ a, a < 2 → ∀ b, b < 2 → a ≠ b → (TX2 a).2.1 ≠ (TX2 b).2.1 := by decide +kernel
theorem tyX2_ok : ∀ k, k < 2 → parseFieldDescriptor (TX2 k).2.2.1 = some (tyX2 k) := by decide +kernel
abbrev cX2_init : ByteArray := prog_4_method_1_code
def yX2_init : MethodName := ⟨RX2, "<init>", "(LArenaPlan$Plan;)V"⟩
abbrev cX2_find : ByteArray := prog_4_method_2_code
def yX2_find : MethodName := ⟨RX2, "find", "()I"⟩
abbrev cX2_goOn : ByteArray := prog_4_method_3_code
def yX2_goOn : MethodName := ⟨RX2, "goOn", "(I)V"⟩
abbrev cX2_heldAfter : ByteArray := prog_4_method_4_code
def yX2_heldAfter : MethodName := ⟨RX2, "heldAfter", "(I)I"⟩
def RX3 : String := "ArenaPlan$Places"
def TX3 : u_T := fun k => match k with
  | 0 => ("ArenaPlan$Places", "plan", "LArenaPlan$Plan;", true)
  | 1 => ("ArenaPlan$Places", "bySize", "[I", true)
  | 2 => ("ArenaPlan$Places", "start", "[I", true)
  | _ => ("ArenaPlan$Places", "arena", "I", false)
def tyX3 : Nat → FieldType := fun k => match k with
  | 0 => .object "ArenaPlan$Plan"
  | 1 => .array .int
  | 2 => .array .int
  | _ => .int
abbrev wsX30 : List Cond := u_ws RX3 TX3 4
theorem nmX3 : ∀ a, a < 4 → ∀ b, b < 4 → a ≠ b → (TX3 a).2.1 ≠ (TX3 b).2.1 := by decide +kernel
theorem tyX3_ok : ∀ k, k < 4 → parseFieldDescriptor (TX3 k).2.2.1 = some (tyX3 k) := by decide +kernel
abbrev cX3_init : ByteArray := prog_5_method_1_code
def yX3_init : MethodName := ⟨RX3, "<init>", "(LArenaPlan$Plan;)V"⟩
abbrev cX3_assign : ByteArray := prog_5_method_2_code
def yX3_assign : MethodName := ⟨RX3, "assign", "()V"⟩
abbrev cX3_sortBySize : ByteArray := prog_5_method_3_code
def yX3_sortBySize : MethodName := ⟨RX3, "sortBySize", "()V"⟩
abbrev cX3_lowestStart : ByteArray := prog_5_method_4_code
def yX3_lowestStart : MethodName := ⟨RX3, "lowestStart", "(I)I"⟩
abbrev cX3_isInTheWay : ByteArray := prog_5_method_5_code
def yX3_isInTheWay : MethodName := ⟨RX3, "isInTheWay", "(III)Z"⟩
abbrev cX3_end : ByteArray := prog_5_method_6_code
def yX3_end : MethodName := ⟨RX3, "end", "(I)I"⟩
def RX4 : String := "ArenaPlan$Plan"
def TX4 : u_T := fun k => match k with
  | 0 => ("ArenaPlan$Plan", "graph", "LArenaPlan$Graph;", true)
  | 1 => ("ArenaPlan$Plan", "dependencies", "[I", true)
  | 2 => ("ArenaPlan$Plan", "dependents", "[I", true)
  | 3 => ("ArenaPlan$Plan", "size", "[I", true)
  | 4 => ("ArenaPlan$Plan", "label", "[I", true)
  | 5 => ("ArenaPlan$Plan", "sequence", "[I", true)
  | 6 => ("ArenaPlan$Plan", "step", "[I", true)
  | 7 => ("ArenaPlan$Plan", "last", "[I", true)
  | 8 => ("ArenaPlan$Plan", "costOf", "[I", true)
  | 9 => ("ArenaPlan$Plan", "inOrder", "I", false)
  | 10 => ("ArenaPlan$Plan", "length", "I", false)
  | _ => ("ArenaPlan$Plan", "greatestCost", "I", false)
def tyX4 : Nat → FieldType := fun k => match k with
  | 0 => .object "ArenaPlan$Graph"
  | 1 => .array .int
  | 2 => .array .int
  | 3 => .array .int
  | 4 => .array .int
  | 5 => .array .int
  | 6 => .array .int
  | 7 => .array .int
  | 8 => .array .int
  | 9 => .int
  | 10 => .int
  | _ => .int
abbrev wsX40 : List Cond := u_ws RX4 TX4 12
theorem nmX4 : ∀ a, a < 12 → ∀ b, b < 12 → a ≠ b → (TX4 a).2.1 ≠ (TX4 b).2.1 := by decide +kernel
theorem tyX4_ok : ∀ k, k < 12 → parseFieldDescriptor (TX4 k).2.2.1 = some (tyX4 k) := by decide +kernel
abbrev cX4_init : ByteArray := prog_6_method_1_code
def yX4_init : MethodName := ⟨RX4, "<init>", "(LArenaPlan$Graph;)V"⟩
abbrev cX4_measure : ByteArray := prog_6_method_2_code
def yX4_measure : MethodName := ⟨RX4, "measure", "()Z"⟩
abbrev cX4_arrange : ByteArray := prog_6_method_3_code
def yX4_arrange : MethodName := ⟨RX4, "arrange", "(I)V"⟩
abbrev cX4_liveTogether : ByteArray := prog_6_method_4_code
def yX4_liveTogether : MethodName := ⟨RX4, "liveTogether", "(II)Z"⟩
abbrev cX4_findNeighbours : ByteArray := prog_6_method_5_code
def yX4_findNeighbours : MethodName := ⟨RX4, "findNeighbours", "()V"⟩
abbrev cX4_sizeOfSource : ByteArray := prog_6_method_6_code
def yX4_sizeOfSource : MethodName := ⟨RX4, "sizeOfSource", "(II)I"⟩
abbrev cX4_sizesFit : ByteArray := prog_6_method_7_code
def yX4_sizesFit : MethodName := ⟨RX4, "sizesFit", "(I)Z"⟩
abbrev cX4_sizeOf : ByteArray := prog_6_method_8_code
def yX4_sizeOf : MethodName := ⟨RX4, "sizeOf", "(I)I"⟩
abbrev cX4_labelOf : ByteArray := prog_6_method_9_code
def yX4_labelOf : MethodName := ⟨RX4, "labelOf", "(I)I"⟩
abbrev cX4_beginOrder : ByteArray := prog_6_method_10_code
def yX4_beginOrder : MethodName := ⟨RX4, "beginOrder", "()V"⟩
abbrev cX4_append : ByteArray := prog_6_method_11_code
def yX4_append : MethodName := ⟨RX4, "append", "(I)V"⟩
abbrev cX4_orderByNumbers : ByteArray := prog_6_method_12_code
def yX4_orderByNumbers : MethodName := ⟨RX4, "orderByNumbers", "()V"⟩
abbrev cX4_leastReady : ByteArray := prog_6_method_13_code
def yX4_leastReady : MethodName := ⟨RX4, "leastReady", "()I"⟩
abbrev cX4_isReady : ByteArray := prog_6_method_14_code
def yX4_isReady : MethodName := ⟨RX4, "isReady", "(I)Z"⟩
abbrev cX4_isMissing : ByteArray := prog_6_method_15_code
def yX4_isMissing : MethodName := ⟨RX4, "isMissing", "(I)Z"⟩
abbrev cX4_orderByLabels : ByteArray := prog_6_method_16_code
def yX4_orderByLabels : MethodName := ⟨RX4, "orderByLabels", "()V"⟩
abbrev cX4_visit : ByteArray := prog_6_method_17_code
def yX4_visit : MethodName := ⟨RX4, "visit", "(I)V"⟩
abbrev cX4_firstDue : ByteArray := prog_6_method_18_code
def yX4_firstDue : MethodName := ⟨RX4, "firstDue", "(I)I"⟩
abbrev cX4_sourceToVisit : ByteArray := prog_6_method_19_code
def yX4_sourceToVisit : MethodName := ⟨RX4, "sourceToVisit", "(I)I"⟩
abbrev cX4_lastStepOf : ByteArray := prog_6_method_20_code
def yX4_lastStepOf : MethodName := ⟨RX4, "lastStepOf", "(I)I"⟩
abbrev cX4_addCosts : ByteArray := prog_6_method_21_code
def yX4_addCosts : MethodName := ⟨RX4, "addCosts", "()V"⟩
def RX5 : String := "ArenaPlan$Rings"
def TX5 : u_T := fun k => match k with
  | 0 => ("ArenaPlan$Rings", "graph", "LArenaPlan$Graph;", true)
  | 1 => ("ArenaPlan$Rings", "reach", "[I", true)
  | 2 => ("ArenaPlan$Rings", "stepsLeft", "[I", true)
  | 3 => ("ArenaPlan$Rings", "member", "[I", true)
  | _ => ("ArenaPlan$Rings", "length", "I", false)
def tyX5 : Nat → FieldType := fun k => match k with
  | 0 => .object "ArenaPlan$Graph"
  | 1 => .array .int
  | 2 => .array .int
  | 3 => .array .int
  | _ => .int
abbrev wsX50 : List Cond := u_ws RX5 TX5 5
theorem nmX5 : ∀ a, a < 5 → ∀ b, b < 5 → a ≠ b → (TX5 a).2.1 ≠ (TX5 b).2.1 := by decide +kernel
theorem tyX5_ok : ∀ k, k < 5 → parseFieldDescriptor (TX5 k).2.2.1 = some (tyX5 k) := by decide +kernel
abbrev cX5_init : ByteArray := prog_7_method_1_code
def yX5_init : MethodName := ⟨RX5, "<init>", "(LArenaPlan$Graph;)V"⟩
abbrev cX5_find : ByteArray := prog_7_method_2_code
def yX5_find : MethodName := ⟨RX5, "find", "()V"⟩
abbrev cX5_findReach : ByteArray := prog_7_method_3_code
def yX5_findReach : MethodName := ⟨RX5, "findReach", "()V"⟩
abbrev cX5_countSteps : ByteArray := prog_7_method_4_code
def yX5_countSteps : MethodName := ⟨RX5, "countSteps", "(I)V"⟩
abbrev cX5_follow : ByteArray := prog_7_method_5_code
def yX5_follow : MethodName := ⟨RX5, "follow", "(I)V"⟩
abbrev cX5_nearest : ByteArray := prog_7_method_6_code
def yX5_nearest : MethodName := ⟨RX5, "nearest", "(I)I"⟩
def RX6 : String := "ArenaPlan"
def TX6 : u_T := fun k => match k with
  | 0 => ("ArenaPlan", "graph", "LArenaPlan$Graph;", true)
  | 1 => ("ArenaPlan", "rings", "LArenaPlan$Rings;", true)
  | 2 => ("ArenaPlan", "plan", "LArenaPlan$Plan;", true)
  | 3 => ("ArenaPlan", "places", "LArenaPlan$Places;", true)
  | 4 => ("ArenaPlan", "cells", "LArenaPlan$Cells;", true)
  | 5 => ("ArenaPlan", "search", "LArenaPlan$LeastPeak;", true)
  | 6 => ("ArenaPlan", "planned", "Z", false)
  | 7 => ("ArenaPlan", "ran", "Z", false)
  | _ => ("ArenaPlan", "leastPeak", "I", false)
def tyX6 : Nat → FieldType := fun k => match k with
  | 0 => .object "ArenaPlan$Graph"
  | 1 => .object "ArenaPlan$Rings"
  | 2 => .object "ArenaPlan$Plan"
  | 3 => .object "ArenaPlan$Places"
  | 4 => .object "ArenaPlan$Cells"
  | 5 => .object "ArenaPlan$LeastPeak"
  | 6 => .boolean
  | 7 => .boolean
  | _ => .int
abbrev wsX60 : List Cond := u_ws RX6 TX6 9
theorem nmX6 : ∀ a, a < 9 → ∀ b, b < 9 → a ≠ b → (TX6 a).2.1 ≠ (TX6 b).2.1 := by decide +kernel
theorem tyX6_ok : ∀ k, k < 9 → parseFieldDescriptor (TX6 k).2.2.1 = some (tyX6 k) := by decide +kernel
abbrev cX6_init : ByteArray := prog_1_method_1_code
def yX6_init : MethodName := ⟨RX6, "<init>", "()V"⟩
abbrev cX6_make : ByteArray := prog_1_method_2_code
def yX6_make : MethodName := ⟨RX6, "make", "(III)I"⟩
abbrev cX6_give : ByteArray := prog_1_method_3_code
def yX6_give : MethodName := ⟨RX6, "give", "(III)Z"⟩
abbrev cX6_wire : ByteArray := prog_1_method_4_code
def yX6_wire : MethodName := ⟨RX6, "wire", "(III)Z"⟩
abbrev cX6_keep : ByteArray := prog_1_method_5_code
def yX6_keep : MethodName := ⟨RX6, "keep", "(IZ)Z"⟩
abbrev cX6_nodes : ByteArray := prog_1_method_6_code
def yX6_nodes : MethodName := ⟨RX6, "nodes", "()I"⟩
abbrev cX6_ring : ByteArray := prog_1_method_7_code
def yX6_ring : MethodName := ⟨RX6, "ring", "(I)I"⟩
abbrev cX6_plan : ByteArray := prog_1_method_8_code
def yX6_plan : MethodName := ⟨RX6, "plan", "(I)I"⟩
abbrev cX6_order : ByteArray := prog_1_method_9_code
def yX6_order : MethodName := ⟨RX6, "order", "(I)I"⟩
abbrev cX6_about : ByteArray := prog_1_method_10_code
def yX6_about : MethodName := ⟨RX6, "about", "(II)I"⟩
abbrev cX6_cost : ByteArray := prog_1_method_11_code
def yX6_cost : MethodName := ⟨RX6, "cost", "(I)I"⟩
abbrev cX6_peak : ByteArray := prog_1_method_12_code
def yX6_peak : MethodName := ⟨RX6, "peak", "()I"⟩
abbrev cX6_least : ByteArray := prog_1_method_13_code
def yX6_least : MethodName := ⟨RX6, "least", "()I"⟩
abbrev cX6_run : ByteArray := prog_1_method_14_code
def yX6_run : MethodName := ⟨RX6, "run", "()I"⟩
abbrev cX6_cell : ByteArray := prog_1_method_15_code
def yX6_cell : MethodName := ⟨RX6, "cell", "(I)I"⟩
abbrev cX6_result : ByteArray := prog_1_method_16_code
def yX6_result : MethodName := ⟨RX6, "result", "(II)I"⟩
abbrev cX6_forgetPlan : ByteArray := prog_1_method_17_code
def yX6_forgetPlan : MethodName := ⟨RX6, "forgetPlan", "()V"⟩
abbrev cX6_needPlan : ByteArray := prog_1_method_18_code
def yX6_needPlan : MethodName := ⟨RX6, "needPlan", "()V"⟩
abbrev cX6_needRun : ByteArray := prog_1_method_19_code
def yX6_needRun : MethodName := ⟨RX6, "needRun", "()V"⟩
abbrev cX6_needWithin : ByteArray := prog_1_method_20_code
def yX6_needWithin : MethodName := ⟨RX6, "needWithin", "(II)V"⟩
abbrev cX6_isWithin : ByteArray := prog_1_method_21_code
def yX6_isWithin : MethodName := ⟨RX6, "isWithin", "(II)Z"⟩
abbrev cX6_canBeMade : ByteArray := prog_1_method_22_code
def yX6_canBeMade : MethodName := ⟨RX6, "canBeMade", "(III)Z"⟩
abbrev cX6_setOf : ByteArray := prog_1_method_23_code
def yX6_setOf : MethodName := ⟨RX6, "setOf", "(I)I"⟩
abbrev cX6_contains : ByteArray := prog_1_method_24_code
def yX6_contains : MethodName := ⟨RX6, "contains", "(II)Z"⟩
abbrev cX6_isPartOf : ByteArray := prog_1_method_25_code
def yX6_isPartOf : MethodName := ⟨RX6, "isPartOf", "(II)Z"⟩
def RX7 : String := "ArenaPlanModel"
def TX7 : u_T := fun k => match k with
  | 0 => ("ArenaPlanModel", "thrown", "I", false)
  | 1 => ("ArenaPlanModel", "count", "I", false)
  | 2 => ("ArenaPlanModel", "operation", "[I", true)
  | 3 => ("ArenaPlanModel", "first", "[I", true)
  | 4 => ("ArenaPlanModel", "second", "[I", true)
  | 5 => ("ArenaPlanModel", "source", "[I", true)
  | 6 => ("ArenaPlanModel", "kept", "[Z", true)
  | 7 => ("ArenaPlanModel", "given", "[I", true)
  | 8 => ("ArenaPlanModel", "distance", "[I", true)
  | 9 => ("ArenaPlanModel", "ringSize", "I", false)
  | 10 => ("ArenaPlanModel", "ring", "[I", true)
  | 11 => ("ArenaPlanModel", "planned", "Z", false)
  | 12 => ("ArenaPlanModel", "way", "I", false)
  | 13 => ("ArenaPlanModel", "size", "[I", true)
  | 14 => ("ArenaPlanModel", "label", "[I", true)
  | 15 => ("ArenaPlanModel", "order", "[I", true)
  | 16 => ("ArenaPlanModel", "step", "[I", true)
  | 17 => ("ArenaPlanModel", "until", "[I", true)
  | 18 => ("ArenaPlanModel", "place", "[I", true)
  | 19 => ("ArenaPlanModel", "placed", "I", false)
  | 20 => ("ArenaPlanModel", "arena", "I", false)
  | 21 => ("ArenaPlanModel", "least", "I", false)
  | 22 => ("ArenaPlanModel", "newSize", "[I", true)
  | 23 => ("ArenaPlanModel", "sized", "[Z", true)
  | 24 => ("ArenaPlanModel", "stack", "[I", true)
  | 25 => ("ArenaPlanModel", "top", "I", false)
  | 26 => ("ArenaPlanModel", "best", "[I", true)
  | 27 => ("ArenaPlanModel", "ran", "Z", false)
  | 28 => ("ArenaPlanModel", "cells", "[I", true)
  | _ => ("ArenaPlanModel", "value", "[I", true)
def tyX7 : Nat → FieldType := fun k => match k with
  | 0 => .int
  | 1 => .int
  | 2 => .array .int
  | 3 => .array .int
  | 4 => .array .int
  | 5 => .array .int
  | 6 => .array .boolean
  | 7 => .array .int
  | 8 => .array .int
  | 9 => .int
  | 10 => .array .int
  | 11 => .boolean
  | 12 => .int
  | 13 => .array .int
  | 14 => .array .int
  | 15 => .array .int
  | 16 => .array .int
  | 17 => .array .int
  | 18 => .array .int
  | 19 => .int
  | 20 => .int
  | 21 => .int
  | 22 => .array .int
  | 23 => .array .boolean
  | 24 => .array .int
  | 25 => .int
  | 26 => .array .int
  | 27 => .boolean
  | 28 => .array .int
  | _ => .array .int
abbrev wsX70 : List Cond := u_ws RX7 TX7 30
theorem nmX7 : ∀ a, a < 30 → ∀ b, b < 30 → a ≠ b → (TX7 a).2.1 ≠ (TX7 b).2.1 := by decide +kernel
theorem tyX7_ok : ∀ k, k < 30 → parseFieldDescriptor (TX7 k).2.2.1 = some (tyX7 k) := by decide +kernel
abbrev cX7_init : ByteArray := prog_9_method_1_code
def yX7_init : MethodName := ⟨RX7, "<init>", "()V"⟩
abbrev cX7_thrown : ByteArray := prog_9_method_2_code
def yX7_thrown : MethodName := ⟨RX7, "thrown", "()I"⟩
abbrev cX7_fail : ByteArray := prog_9_method_3_code
def yX7_fail : MethodName := ⟨RX7, "fail", "(I)I"⟩
abbrev cX7_inputs : ByteArray := prog_9_method_4_code
def yX7_inputs : MethodName := ⟨RX7, "inputs", "(I)I"⟩
abbrev cX7_isNode : ByteArray := prog_9_method_5_code
def yX7_isNode : MethodName := ⟨RX7, "isNode", "(I)Z"⟩
abbrev cX7_within : ByteArray := prog_9_method_6_code
def yX7_within : MethodName := ⟨RX7, "within", "(III)Z"⟩
abbrev cX7_make : ByteArray := prog_9_method_7_code
def yX7_make : MethodName := ⟨RX7, "make", "(III)I"⟩
abbrev cX7_give : ByteArray := prog_9_method_8_code
def yX7_give : MethodName := ⟨RX7, "give", "(III)Z"⟩
abbrev cX7_wire : ByteArray := prog_9_method_9_code
def yX7_wire : MethodName := ⟨RX7, "wire", "(III)Z"⟩
abbrev cX7_keep : ByteArray := prog_9_method_10_code
def yX7_keep : MethodName := ⟨RX7, "keep", "(IZ)Z"⟩
abbrev cX7_nodes : ByteArray := prog_9_method_11_code
def yX7_nodes : MethodName := ⟨RX7, "nodes", "()I"⟩
abbrev cX7_far : ByteArray := prog_9_method_12_code
def yX7_far : MethodName := ⟨RX7, "far", "(I)I"⟩
abbrev cX7_measure : ByteArray := prog_9_method_13_code
def yX7_measure : MethodName := ⟨RX7, "measure", "(I)V"⟩
abbrev cX7_nearest : ByteArray := prog_9_method_14_code
def yX7_nearest : MethodName := ⟨RX7, "nearest", "(I)I"⟩
abbrev cX7_findRing : ByteArray := prog_9_method_15_code
def yX7_findRing : MethodName := ⟨RX7, "findRing", "()V"⟩
abbrev cX7_ring : ByteArray := prog_9_method_16_code
def yX7_ring : MethodName := ⟨RX7, "ring", "(I)I"⟩
abbrev cX7_isWired : ByteArray := prog_9_method_17_code
def yX7_isWired : MethodName := ⟨RX7, "isWired", "()Z"⟩
abbrev cX7_sizeOf : ByteArray := prog_9_method_18_code
def yX7_sizeOf : MethodName := ⟨RX7, "sizeOf", "(I)I"⟩
abbrev cX7_isReady : ByteArray := prog_9_method_19_code
def yX7_isReady : MethodName := ⟨RX7, "isReady", "(I)Z"⟩
abbrev cX7_labelOf : ByteArray := prog_9_method_20_code
def yX7_labelOf : MethodName := ⟨RX7, "labelOf", "(I)V"⟩
abbrev cX7_findSizes : ByteArray := prog_9_method_21_code
def yX7_findSizes : MethodName := ⟨RX7, "findSizes", "()Z"⟩
abbrev cX7_come : ByteArray := prog_9_method_22_code
def yX7_come : MethodName := ⟨RX7, "come", "(I)V"⟩
abbrev cX7_isThere : ByteArray := prog_9_method_23_code
def yX7_isThere : MethodName := ⟨RX7, "isThere", "(I)Z"⟩
abbrev cX7_isFree : ByteArray := prog_9_method_24_code
def yX7_isFree : MethodName := ⟨RX7, "isFree", "(I)Z"⟩
abbrev cX7_orderByNumbers : ByteArray := prog_9_method_25_code
def yX7_orderByNumbers : MethodName := ⟨RX7, "orderByNumbers", "()V"⟩
abbrev cX7_isUsed : ByteArray := prog_9_method_26_code
def yX7_isUsed : MethodName := ⟨RX7, "isUsed", "(I)Z"⟩
abbrev cX7_due : ByteArray := prog_9_method_27_code
def yX7_due : MethodName := ⟨RX7, "due", "(I)I"⟩
abbrev cX7_visit : ByteArray := prog_9_method_28_code
def yX7_visit : MethodName := ⟨RX7, "visit", "(I)V"⟩
abbrev cX7_orderByLabels : ByteArray := prog_9_method_29_code
def yX7_orderByLabels : MethodName := ⟨RX7, "orderByLabels", "()V"⟩
abbrev cX7_findLives : ByteArray := prog_9_method_30_code
def yX7_findLives : MethodName := ⟨RX7, "findLives", "()V"⟩
abbrev cX7_fits : ByteArray := prog_9_method_31_code
def yX7_fits : MethodName := ⟨RX7, "fits", "(II)Z"⟩
abbrev cX7_findPlaces : ByteArray := prog_9_method_32_code
def yX7_findPlaces : MethodName := ⟨RX7, "findPlaces", "()V"⟩
abbrev cX7_plan : ByteArray := prog_9_method_33_code
def yX7_plan : MethodName := ⟨RX7, "plan", "(I)I"⟩
abbrev cX7_order : ByteArray := prog_9_method_34_code
def yX7_order : MethodName := ⟨RX7, "order", "(I)I"⟩
abbrev cX7_about : ByteArray := prog_9_method_35_code
def yX7_about : MethodName := ⟨RX7, "about", "(II)I"⟩
abbrev cX7_costOf : ByteArray := prog_9_method_36_code
def yX7_costOf : MethodName := ⟨RX7, "costOf", "(I)I"⟩
abbrev cX7_cost : ByteArray := prog_9_method_37_code
def yX7_cost : MethodName := ⟨RX7, "cost", "(I)I"⟩
abbrev cX7_peak : ByteArray := prog_9_method_38_code
def yX7_peak : MethodName := ⟨RX7, "peak", "()I"⟩
abbrev cX7_needed : ByteArray := prog_9_method_39_code
def yX7_needed : MethodName := ⟨RX7, "needed", "(I)I"⟩
abbrev cX7_users : ByteArray := prog_9_method_40_code
def yX7_users : MethodName := ⟨RX7, "users", "(I)I"⟩
abbrev cX7_stays : ByteArray := prog_9_method_41_code
def yX7_stays : MethodName := ⟨RX7, "stays", "(I)I"⟩
abbrev cX7_findLeast : ByteArray := prog_9_method_42_code
def yX7_findLeast : MethodName := ⟨RX7, "findLeast", "()V"⟩
abbrev cX7_least : ByteArray := prog_9_method_43_code
def yX7_least : MethodName := ⟨RX7, "least", "()I"⟩
abbrev cX7_work : ByteArray := prog_9_method_44_code
def yX7_work : MethodName := ⟨RX7, "work", "(I)V"⟩
abbrev cX7_run : ByteArray := prog_9_method_45_code
def yX7_run : MethodName := ⟨RX7, "run", "()I"⟩
abbrev cX7_cell : ByteArray := prog_9_method_46_code
def yX7_cell : MethodName := ⟨RX7, "cell", "(I)I"⟩
abbrev cX7_result : ByteArray := prog_9_method_47_code
def yX7_result : MethodName := ⟨RX7, "result", "(II)I"⟩
def RJx145de : String := "java/io/Serializable"
def TJx145de : u_T := fun k => match k with
  | _ => ("", "", "", false)
def tyJx145de : Nat → FieldType := fun k => match k with
  | _ => .int
abbrev wsJx145de0 : List Cond := u_ws RJx145de TJx145de 0
theorem nmJx145de : ∀ a, a < 0 → ∀ b, b < 0 → a ≠ b → (TJx145de a).2.1 ≠ (TJx145de b).2.1 := by decide +kernel
theorem tyJx145de_ok : ∀ k, k < 0 → parseFieldDescriptor (TJx145de k).2.2.1 = some (tyJx145de k) := by decide +kernel
def RJx00060 : String := "java/lang/ArrayIndexOutOfBoundsException"
def TJx00060 : u_T := fun k => match k with
  | 0 => ("java/lang/Throwable", "backtrace", "Ljava/lang/Object;", false)
  | 1 => ("java/lang/Throwable", "detailMessage", "Ljava/lang/String;", false)
  | 2 => ("java/lang/Throwable", "cause", "Ljava/lang/Throwable;", false)
  | 3 => ("java/lang/Throwable", "stackTrace", "[Ljava/lang/StackTraceElement;", false)
  | 4 => ("java/lang/Throwable", "depth", "I", false)
  | _ => ("java/lang/Throwable", "suppressedExceptions", "Ljava/util/List;", false)
def tyJx00060 : Nat → FieldType := fun k => match k with
  | 0 => .object "java/lang/Object"
  | 1 => .object "java/lang/String"
  | 2 => .object "java/lang/Throwable"
  | 3 => .array (.object "java/lang/StackTraceElement")
  | 4 => .int
  | _ => .object "java/util/List"
abbrev wsJx000600 : List Cond := u_ws RJx00060 TJx00060 6
theorem nmJx00060 : ∀ a, a < 6 → ∀ b, b < 6 → a ≠ b → (TJx00060 a).2.1 ≠ (TJx00060 b).2.1 := by decide +kernel
theorem tyJx00060_ok : ∀ k, k < 6 → parseFieldDescriptor (TJx00060 k).2.2.1 = some (tyJx00060 k) := by decide +kernel
abbrev cJx00060_init_a7421 : ByteArray := prog_12_method_2_code
def yJx00060_init_a7421 : MethodName := ⟨RJx00060, "<init>", "(Ljava/lang/String;)V"⟩
def RJ9 : String := "java/lang/Math"
def TJ9 : u_T := fun k => match k with
  | _ => ("", "", "", false)
def tyJ9 : Nat → FieldType := fun k => match k with
  | _ => .int
abbrev wsJ90 : List Cond := u_ws RJ9 TJ9 0
theorem nmJ9 : ∀ a, a < 0 → ∀ b, b < 0 → a ≠ b → (TJ9 a).2.1 ≠ (TJ9 b).2.1 := by decide +kernel
theorem tyJ9_ok : ∀ k, k < 0 → parseFieldDescriptor (TJ9 k).2.2.1 = some (tyJ9 k) := by decide +kernel
abbrev cJ9_max_7cf53 : ByteArray := prog_17_method_65_code
def yJ9_max_7cf53 : MethodName := ⟨RJ9, "max", "(II)I"⟩
abbrev cJ9_min_7cf53 : ByteArray := prog_17_method_69_code
def yJ9_min_7cf53 : MethodName := ⟨RJ9, "min", "(II)I"⟩
def RJ0 : String := "java/lang/String"
def TJ0 : u_T := fun k => match k with
  | 0 => ("java/lang/String", "value", "[B", true)
  | _ => ("java/lang/String", "coder", "B", true)
def tyJ0 : Nat → FieldType := fun k => match k with
  | 0 => .array .byte
  | _ => .byte
abbrev wsJ00 : List Cond := u_ws RJ0 TJ0 2
theorem nmJ0 : ∀ a, a < 2 → ∀ b, b < 2 → a ≠ b → (TJ0 a).2.1 ≠ (TJ0 b).2.1 := by decide +kernel
theorem tyJ0_ok : ∀ k, k < 2 → parseFieldDescriptor (TJ0 k).2.2.1 = some (tyJ0 k) := by decide +kernel
def RJ7 : String := "java/util/Arrays"
def TJ7 : u_T := fun k => match k with
  | _ => ("", "", "", false)
def tyJ7 : Nat → FieldType := fun k => match k with
  | _ => .int
abbrev wsJ70 : List Cond := u_ws RJ7 TJ7 0
theorem nmJ7 : ∀ a, a < 0 → ∀ b, b < 0 → a ≠ b → (TJ7 a).2.1 ≠ (TJ7 b).2.1 := by decide +kernel
theorem tyJ7_ok : ∀ k, k < 0 → parseFieldDescriptor (TJ7 k).2.2.1 = some (tyJ7 k) := by decide +kernel
abbrev cJ7_fill_53178 : ByteArray := prog_22_method_103_code
def yJ7_fill_53178 : MethodName := ⟨RJ7, "fill", "([II)V"⟩
def RL : String := "ArenaPlanLaw"
abbrev cL_make : ByteArray := method_3_code
def yL_make : MethodName := ⟨RL, "make", "(LArenaPlan;III[J)I"⟩
abbrev cL_ring : ByteArray := method_4_code
def yL_ring : MethodName := ⟨RL, "ring", "(LArenaPlan;I[J)I"⟩
abbrev cL_plan : ByteArray := method_5_code
def yL_plan : MethodName := ⟨RL, "plan", "(LArenaPlan;I[J)I"⟩
abbrev cL_order : ByteArray := method_6_code
def yL_order : MethodName := ⟨RL, "order", "(LArenaPlan;I[J)I"⟩
abbrev cL_about : ByteArray := method_7_code
def yL_about : MethodName := ⟨RL, "about", "(LArenaPlan;II[J)I"⟩
abbrev cL_cost : ByteArray := method_8_code
def yL_cost : MethodName := ⟨RL, "cost", "(LArenaPlan;I[J)I"⟩
abbrev cL_peak : ByteArray := method_9_code
def yL_peak : MethodName := ⟨RL, "peak", "(LArenaPlan;[J)I"⟩
abbrev cL_least : ByteArray := method_10_code
def yL_least : MethodName := ⟨RL, "least", "(LArenaPlan;[J)I"⟩
abbrev cL_run : ByteArray := method_11_code
def yL_run : MethodName := ⟨RL, "run", "(LArenaPlan;[J)I"⟩
abbrev cL_cell : ByteArray := method_12_code
def yL_cell : MethodName := ⟨RL, "cell", "(LArenaPlan;I[J)I"⟩
abbrev cL_result : ByteArray := method_13_code
def yL_result : MethodName := ⟨RL, "result", "(LArenaPlan;II[J)I"⟩
abbrev cL_law : ByteArray := code
def yL_law : MethodName := ⟨RL, "law", "([I)Z"⟩
def wsX0_init : List Cond := .code yX0_init cX0_init 2 none :: ([.methodLink RX0 3 objectInit, .instanceMethod objectInit, .code objectInit ⟨#[0xb1]⟩ 1 none, .arrayClass .int, .fieldLink RX0 9 "ArenaPlan$Cells" "value" "[I", .fieldLink RX0 15 "ArenaPlan$Cells" "places" "LArenaPlan$Places;", .fieldLink RX0 19 "ArenaPlan$Places" "plan" "LArenaPlan$Plan;", .fieldLink RX0 25 "ArenaPlan$Cells" "plan" "LArenaPlan$Plan;", .fieldLink RX0 26 "ArenaPlan$Plan" "graph" "LArenaPlan$Graph;", .fieldLink RX0 32 "ArenaPlan$Cells" "graph" "LArenaPlan$Graph;"] ++ wsX00 ++ wsX30 ++ wsX40)
def wsJ7_fill_53178 : List Cond := .code yJ7_fill_53178 cJ7_fill_53178 4 none :: ([])
def wsX0_valueOf : List Cond := .code yX0_valueOf cX0_valueOf 3 (some .int) :: ([.fieldLink RX0 9 "ArenaPlan$Cells" "value" "[I", .fieldLink RX0 15 "ArenaPlan$Cells" "places" "LArenaPlan$Places;", .fieldLink RX0 49 "ArenaPlan$Places" "start" "[I"] ++ wsX00 ++ wsX30 ++ (vx_atM "java/lang/ArrayIndexOutOfBoundsException" ["java/lang/IndexOutOfBoundsException", "java/lang/RuntimeException", "java/lang/Exception"]).filter goodWord)
def wsX0_totalOf : List Cond := .code yX0_totalOf cX0_totalOf 4 (some .int) :: ([.fieldLink RX0 25 "ArenaPlan$Cells" "plan" "LArenaPlan$Plan;", .fieldLink RX0 46 "ArenaPlan$Plan" "size" "[I", .methodLink RX0 68 yX0_valueOf, .instanceMethod yX0_valueOf, .selects RX0 yX0_valueOf yX0_valueOf, .initialized RX0, .code yX0_valueOf cX0_valueOf 3 (some .int), .fieldLink RX0 9 "ArenaPlan$Cells" "value" "[I", .fieldLink RX0 15 "ArenaPlan$Cells" "places" "LArenaPlan$Places;", .fieldLink RX0 49 "ArenaPlan$Places" "start" "[I"] ++ wsX00 ++ wsX40 ++ wsX30 ++ (vx_atM "java/lang/ArrayIndexOutOfBoundsException" ["java/lang/IndexOutOfBoundsException", "java/lang/RuntimeException", "java/lang/Exception"]).filter goodWord)
def wsX0_workOut : List Cond := .code yX0_workOut cX0_workOut 6 (some .int) :: ([.fieldLink RX0 32 "ArenaPlan$Cells" "graph" "LArenaPlan$Graph;", .fieldLink RX0 56 "ArenaPlan$Graph" "source" "[[I", .fieldLink RX0 62 "ArenaPlan$Graph" "operation" "[I", .fieldLink RX0 65 "ArenaPlan$Graph" "given" "[[I", .fieldLink RX0 25 "ArenaPlan$Cells" "plan" "LArenaPlan$Plan;", .fieldLink RX0 46 "ArenaPlan$Plan" "size" "[I", .fieldLink RX0 71 "ArenaPlan$Graph" "p" "[I", .methodLink RX0 68 yX0_valueOf, .instanceMethod yX0_valueOf, .selects RX0 yX0_valueOf yX0_valueOf, .initialized RX0, .code yX0_valueOf cX0_valueOf 3 (some .int), .fieldLink RX0 9 "ArenaPlan$Cells" "value" "[I", .fieldLink RX0 15 "ArenaPlan$Cells" "places" "LArenaPlan$Places;", .fieldLink RX0 49 "ArenaPlan$Places" "start" "[I", .methodLink RX0 74 yX0_totalOf, .instanceMethod yX0_totalOf, .selects RX0 yX0_totalOf yX0_totalOf, .code yX0_totalOf cX0_totalOf 4 (some .int)] ++ wsX00 ++ wsX10 ++ wsX40 ++ wsX30 ++ (vx_atM "java/lang/ArrayIndexOutOfBoundsException" ["java/lang/IndexOutOfBoundsException", "java/lang/RuntimeException", "java/lang/Exception"]).filter goodWord)
def wsX0_work_r1 : List Cond := [Cond.fieldLink RX0 9 "ArenaPlan$Cells" "value" "[I", Cond.fieldLink RX0 25 "ArenaPlan$Cells" "plan" "LArenaPlan$Plan;", Cond.fieldLink RX0 39 "ArenaPlan$Plan" "length" "I", Cond.fieldLink RX0 43 "ArenaPlan$Plan" "sequence" "[I", Cond.fieldLink RX0 46 "ArenaPlan$Plan" "size" "[I", Cond.fieldLink RX0 15 "ArenaPlan$Cells" "places" "LArenaPlan$Places;", Cond.fieldLink RX0 49 "ArenaPlan$Places" "start" "[I", Cond.methodLink RX0 33 yJ7_fill_53178, Cond.static yJ7_fill_53178, Cond.initialized RJ7, Cond.code yJ7_fill_53178 cJ7_fill_53178 4 none, Cond.methodLink RX0 52 yX0_workOut, Cond.instanceMethod yX0_workOut, Cond.selects RX0 yX0_workOut yX0_workOut, Cond.initialized RX0, Cond.code yX0_workOut cX0_workOut 6 (some .int), Cond.fieldLink RX0 32 "ArenaPlan$Cells" "graph" "LArenaPlan$Graph;", Cond.fieldLink RX0 56 "ArenaPlan$Graph" "source" "[[I", Cond.fieldLink RX0 62 "ArenaPlan$Graph" "operation" "[I", Cond.fieldLink RX0 65 "ArenaPlan$Graph" "given" "[[I", Cond.fieldLink RX0 71 "ArenaPlan$Graph" "p" "[I", Cond.methodLink RX0 68 yX0_valueOf, Cond.instanceMethod yX0_valueOf, Cond.selects RX0 yX0_valueOf yX0_valueOf]
def wsX0_work_r2 : List Cond := [Cond.code yX0_valueOf cX0_valueOf 3 (some .int), Cond.methodLink RX0 74 yX0_totalOf, Cond.instanceMethod yX0_totalOf, Cond.selects RX0 yX0_totalOf yX0_totalOf, Cond.code yX0_totalOf cX0_totalOf 4 (some .int)]
def wsX0_work : List Cond := .code yX0_work cX0_work 5 (some .int) :: ((wsX0_work_r1 ++ wsX0_work_r2) ++ wsX00 ++ wsX40 ++ wsX30 ++ wsX10 ++ (vx_atM "java/lang/ArrayIndexOutOfBoundsException" ["java/lang/IndexOutOfBoundsException", "java/lang/RuntimeException", "java/lang/Exception"]).filter goodWord)
def wsX1_init : List Cond := .code yX1_init cX1_init 1 none :: ([.methodLink RX1 3 objectInit, .instanceMethod objectInit, .code objectInit ⟨#[0xb1]⟩ 1 none, .arrayClass .int, .fieldLink RX1 9 "ArenaPlan$Graph" "operation" "[I", .fieldLink RX1 15 "ArenaPlan$Graph" "p" "[I", .fieldLink RX1 18 "ArenaPlan$Graph" "q" "[I", .classLink RX1 21 "[[I", .fieldLink RX1 23 "ArenaPlan$Graph" "given" "[[I", .fieldLink RX1 26 "ArenaPlan$Graph" "source" "[[I", .arrayClass .boolean, .fieldLink RX1 29 "ArenaPlan$Graph" "kept" "[Z"] ++ wsX10)
def wsX6_isWithin : List Cond := .code yX6_isWithin cX6_isWithin 2 (some .boolean) :: ([])
def wsX1_has : List Cond := .code yX1_has cX1_has 2 (some .boolean) :: ([.fieldLink RX1 33 "ArenaPlan$Graph" "count" "I", .static yX6_isWithin, .initialized RX6, .code yX6_isWithin cX6_isWithin 2 (some .boolean)] ++ wsX10)
def wsX1_inputs : List Cond := .code yX1_inputs cX1_inputs 2 (some .int) :: ([.fieldLink RX1 9 "ArenaPlan$Graph" "operation" "[I"] ++ wsX10 ++ (vx_atM "java/lang/ArrayIndexOutOfBoundsException" ["java/lang/IndexOutOfBoundsException", "java/lang/RuntimeException", "java/lang/Exception"]).filter goodWord)
def wsX1_add : List Cond := .code yX1_add cX1_add 5 (some .int) :: ([.fieldLink RX1 33 "ArenaPlan$Graph" "count" "I", .fieldLink RX1 9 "ArenaPlan$Graph" "operation" "[I", .fieldLink RX1 15 "ArenaPlan$Graph" "p" "[I", .fieldLink RX1 18 "ArenaPlan$Graph" "q" "[I", .fieldLink RX1 26 "ArenaPlan$Graph" "source" "[[I", .methodLink RX1 44 yJ7_fill_53178, .static yJ7_fill_53178, .initialized RJ7, .code yJ7_fill_53178 cJ7_fill_53178 4 none] ++ wsX10 ++ (vx_atM "java/lang/ArrayIndexOutOfBoundsException" ["java/lang/IndexOutOfBoundsException", "java/lang/RuntimeException", "java/lang/Exception"]).filter goodWord)
def wsX1_isWired : List Cond := .code yX1_isWired cX1_isWired 3 (some .boolean) :: ([.fieldLink RX1 33 "ArenaPlan$Graph" "count" "I", .fieldLink RX1 26 "ArenaPlan$Graph" "source" "[[I", .methodLink RX1 50 yX1_inputs, .instanceMethod yX1_inputs, .selects RX1 yX1_inputs yX1_inputs, .initialized RX1, .code yX1_inputs cX1_inputs 2 (some .int), .fieldLink RX1 9 "ArenaPlan$Graph" "operation" "[I"] ++ wsX10 ++ (vx_atM "java/lang/ArrayIndexOutOfBoundsException" ["java/lang/IndexOutOfBoundsException", "java/lang/RuntimeException", "java/lang/Exception"]).filter goodWord)
def wsX6_setOf : List Cond := .code yX6_setOf cX6_setOf 1 (some .int) :: ([])
def wsX1_dependencies : List Cond := .code yX1_dependencies cX1_dependencies 2 (some .int) :: ([.fieldLink RX1 26 "ArenaPlan$Graph" "source" "[[I", .static yX6_setOf, .initialized RX6, .code yX6_setOf cX6_setOf 1 (some .int)] ++ wsX10 ++ (vx_atM "java/lang/ArrayIndexOutOfBoundsException" ["java/lang/IndexOutOfBoundsException", "java/lang/RuntimeException", "java/lang/Exception"]).filter goodWord)
def wsX2_init : List Cond := .code yX2_init cX2_init 2 none :: ([.methodLink RX2 3 objectInit, .instanceMethod objectInit, .code objectInit ⟨#[0xb1]⟩ 1 none, .arrayClass .int, .fieldLink RX2 9 "ArenaPlan$LeastPeak" "peakOf" "[I", .fieldLink RX2 15 "ArenaPlan$LeastPeak" "plan" "LArenaPlan$Plan;"] ++ wsX20)
def wsX6_isPartOf : List Cond := .code yX6_isPartOf cX6_isPartOf 2 (some .boolean) :: ([])
def wsX6_contains : List Cond := .code yX6_contains cX6_contains 2 (some .boolean) :: ([])
def wsX2_heldAfter : List Cond := .code yX2_heldAfter cX2_heldAfter 5 (some .int) :: ([.fieldLink RX2 15 "ArenaPlan$LeastPeak" "plan" "LArenaPlan$Plan;", .fieldLink RX2 19 "ArenaPlan$Plan" "length" "I", .fieldLink RX2 67 "ArenaPlan$Plan" "graph" "LArenaPlan$Graph;", .fieldLink RX2 71 "ArenaPlan$Graph" "kept" "[Z", .fieldLink RX2 77 "ArenaPlan$Plan" "dependents" "[I", .fieldLink RX2 55 "ArenaPlan$Plan" "size" "[I", .static yX6_isPartOf, .initialized RX6, .code yX6_isPartOf cX6_isPartOf 2 (some .boolean), .static yX6_contains, .code yX6_contains cX6_contains 2 (some .boolean)] ++ wsX20 ++ wsX40 ++ wsX10 ++ (vx_atM "java/lang/ArrayIndexOutOfBoundsException" ["java/lang/IndexOutOfBoundsException", "java/lang/RuntimeException", "java/lang/Exception"]).filter goodWord)
def wsX2_goOn_r1 : List Cond := [Cond.fieldLink RX2 15 "ArenaPlan$LeastPeak" "plan" "LArenaPlan$Plan;", Cond.fieldLink RX2 19 "ArenaPlan$Plan" "length" "I", Cond.fieldLink RX2 46 "ArenaPlan$Plan" "dependencies" "[I", Cond.fieldLink RX2 9 "ArenaPlan$LeastPeak" "peakOf" "[I", Cond.fieldLink RX2 55 "ArenaPlan$Plan" "size" "[I", Cond.methodLink RX2 58 Lib.Math.max.name, Cond.static Lib.Math.max.name, Cond.initialized "java/lang/Math", Cond.code Lib.Math.max.name Lib.Math.max.code 2 (some .int), Cond.methodLink RX2 64 Lib.Math.min.name, Cond.static Lib.Math.min.name, Cond.code Lib.Math.min.name Lib.Math.min.code 2 (some .int), Cond.methodLink RX2 38 yX2_heldAfter, Cond.instanceMethod yX2_heldAfter, Cond.selects RX2 yX2_heldAfter yX2_heldAfter, Cond.initialized RX2, Cond.code yX2_heldAfter cX2_heldAfter 5 (some .int), Cond.fieldLink RX2 67 "ArenaPlan$Plan" "graph" "LArenaPlan$Graph;", Cond.fieldLink RX2 71 "ArenaPlan$Graph" "kept" "[Z", Cond.fieldLink RX2 77 "ArenaPlan$Plan" "dependents" "[I", Cond.static yX6_isPartOf, Cond.initialized RX6, Cond.code yX6_isPartOf cX6_isPartOf 2 (some .boolean), Cond.static yX6_contains]
def wsX2_goOn_r2 : List Cond := [Cond.code yX6_contains cX6_contains 2 (some .boolean), Cond.static yX6_setOf, Cond.code yX6_setOf cX6_setOf 1 (some .int)]
def wsX2_goOn : List Cond := .code yX2_goOn cX2_goOn 6 none :: ((wsX2_goOn_r1 ++ wsX2_goOn_r2) ++ wsX20 ++ wsX40 ++ wsX10 ++ (vx_atM "java/lang/ArrayIndexOutOfBoundsException" ["java/lang/IndexOutOfBoundsException", "java/lang/RuntimeException", "java/lang/Exception"]).filter goodWord)
def wsX2_find_r1 : List Cond := [Cond.fieldLink RX2 15 "ArenaPlan$LeastPeak" "plan" "LArenaPlan$Plan;", Cond.fieldLink RX2 19 "ArenaPlan$Plan" "length" "I", Cond.fieldLink RX2 9 "ArenaPlan$LeastPeak" "peakOf" "[I", Cond.fieldLink RX2 25 "ArenaPlan$Plan" "greatestCost" "I", Cond.methodLink RX2 28 yJ7_fill_53178, Cond.static yJ7_fill_53178, Cond.initialized RJ7, Cond.code yJ7_fill_53178 cJ7_fill_53178 4 none, Cond.methodLink RX2 34 yX2_goOn, Cond.instanceMethod yX2_goOn, Cond.selects RX2 yX2_goOn yX2_goOn, Cond.initialized RX2, Cond.code yX2_goOn cX2_goOn 6 none, Cond.fieldLink RX2 46 "ArenaPlan$Plan" "dependencies" "[I", Cond.fieldLink RX2 55 "ArenaPlan$Plan" "size" "[I", Cond.methodLink RX2 58 Lib.Math.max.name, Cond.static Lib.Math.max.name, Cond.initialized "java/lang/Math", Cond.code Lib.Math.max.name Lib.Math.max.code 2 (some .int), Cond.methodLink RX2 64 Lib.Math.min.name, Cond.static Lib.Math.min.name, Cond.code Lib.Math.min.name Lib.Math.min.code 2 (some .int), Cond.methodLink RX2 38 yX2_heldAfter, Cond.instanceMethod yX2_heldAfter]
def wsX2_find_r2 : List Cond := [Cond.selects RX2 yX2_heldAfter yX2_heldAfter, Cond.code yX2_heldAfter cX2_heldAfter 5 (some .int), Cond.fieldLink RX2 67 "ArenaPlan$Plan" "graph" "LArenaPlan$Graph;", Cond.fieldLink RX2 71 "ArenaPlan$Graph" "kept" "[Z", Cond.fieldLink RX2 77 "ArenaPlan$Plan" "dependents" "[I", Cond.static yX6_isPartOf, Cond.initialized RX6, Cond.code yX6_isPartOf cX6_isPartOf 2 (some .boolean), Cond.static yX6_contains, Cond.code yX6_contains cX6_contains 2 (some .boolean), Cond.static yX6_setOf, Cond.code yX6_setOf cX6_setOf 1 (some .int)]
def wsX2_find : List Cond := .code yX2_find cX2_find 3 (some .int) :: ((wsX2_find_r1 ++ wsX2_find_r2) ++ wsX20 ++ wsX40 ++ wsX10 ++ (vx_atM "java/lang/ArrayIndexOutOfBoundsException" ["java/lang/IndexOutOfBoundsException", "java/lang/RuntimeException", "java/lang/Exception"]).filter goodWord)
def wsX3_init : List Cond := .code yX3_init cX3_init 2 none :: ([.methodLink RX3 3 objectInit, .instanceMethod objectInit, .code objectInit ⟨#[0xb1]⟩ 1 none, .arrayClass .int, .fieldLink RX3 9 "ArenaPlan$Places" "bySize" "[I", .fieldLink RX3 15 "ArenaPlan$Places" "start" "[I", .fieldLink RX3 18 "ArenaPlan$Places" "plan" "LArenaPlan$Plan;"] ++ wsX30)
def wsX3_sortBySize : List Cond := .code yX3_sortBySize cX3_sortBySize 4 none :: ([.fieldLink RX3 18 "ArenaPlan$Places" "plan" "LArenaPlan$Plan;", .fieldLink RX3 29 "ArenaPlan$Plan" "length" "I", .fieldLink RX3 47 "ArenaPlan$Plan" "sequence" "[I", .fieldLink RX3 50 "ArenaPlan$Plan" "size" "[I", .fieldLink RX3 9 "ArenaPlan$Places" "bySize" "[I"] ++ wsX30 ++ wsX40 ++ (vx_atM "java/lang/ArrayIndexOutOfBoundsException" ["java/lang/IndexOutOfBoundsException", "java/lang/RuntimeException", "java/lang/Exception"]).filter goodWord)
def wsX4_liveTogether : List Cond := .code yX4_liveTogether cX4_liveTogether 3 (some .boolean) :: ([.fieldLink RX4 27 "ArenaPlan$Plan" "step" "[I", .fieldLink RX4 30 "ArenaPlan$Plan" "last" "[I"] ++ wsX40 ++ (vx_atM "java/lang/ArrayIndexOutOfBoundsException" ["java/lang/IndexOutOfBoundsException", "java/lang/RuntimeException", "java/lang/Exception"]).filter goodWord)
def wsX3_end : List Cond := .code yX3_end cX3_end 2 (some .int) :: ([.fieldLink RX3 15 "ArenaPlan$Places" "start" "[I", .fieldLink RX3 18 "ArenaPlan$Places" "plan" "LArenaPlan$Plan;", .fieldLink RX3 50 "ArenaPlan$Plan" "size" "[I"] ++ wsX30 ++ wsX40 ++ (vx_atM "java/lang/ArrayIndexOutOfBoundsException" ["java/lang/IndexOutOfBoundsException", "java/lang/RuntimeException", "java/lang/Exception"]).filter goodWord)
def wsX3_isInTheWay : List Cond := .code yX3_isInTheWay cX3_isInTheWay 4 (some .boolean) :: ([.fieldLink RX3 18 "ArenaPlan$Places" "plan" "LArenaPlan$Plan;", .fieldLink RX3 15 "ArenaPlan$Places" "start" "[I", .fieldLink RX3 50 "ArenaPlan$Plan" "size" "[I", .methodLink RX3 57 yX4_liveTogether, .instanceMethod yX4_liveTogether, .selects RX4 yX4_liveTogether yX4_liveTogether, .initialized RX4, .code yX4_liveTogether cX4_liveTogether 3 (some .boolean), .fieldLink RX4 27 "ArenaPlan$Plan" "step" "[I", .fieldLink RX4 30 "ArenaPlan$Plan" "last" "[I", .methodLink RX3 38 yX3_end, .instanceMethod yX3_end, .selects RX3 yX3_end yX3_end, .initialized RX3, .code yX3_end cX3_end 2 (some .int)] ++ wsX30 ++ wsX40 ++ (vx_atM "java/lang/ArrayIndexOutOfBoundsException" ["java/lang/IndexOutOfBoundsException", "java/lang/RuntimeException", "java/lang/Exception"]).filter goodWord)
def wsX3_lowestStart : List Cond := .code yX3_lowestStart cX3_lowestStart 6 (some .int) :: ([.fieldLink RX3 9 "ArenaPlan$Places" "bySize" "[I", .methodLink RX3 53 yX3_isInTheWay, .instanceMethod yX3_isInTheWay, .selects RX3 yX3_isInTheWay yX3_isInTheWay, .initialized RX3, .code yX3_isInTheWay cX3_isInTheWay 4 (some .boolean), .fieldLink RX3 18 "ArenaPlan$Places" "plan" "LArenaPlan$Plan;", .fieldLink RX3 15 "ArenaPlan$Places" "start" "[I", .fieldLink RX3 50 "ArenaPlan$Plan" "size" "[I", .methodLink RX3 57 yX4_liveTogether, .instanceMethod yX4_liveTogether, .selects RX4 yX4_liveTogether yX4_liveTogether, .initialized RX4, .code yX4_liveTogether cX4_liveTogether 3 (some .boolean), .fieldLink RX4 27 "ArenaPlan$Plan" "step" "[I", .fieldLink RX4 30 "ArenaPlan$Plan" "last" "[I", .methodLink RX3 38 yX3_end, .instanceMethod yX3_end, .selects RX3 yX3_end yX3_end, .code yX3_end cX3_end 2 (some .int)] ++ wsX30 ++ wsX40 ++ (vx_atM "java/lang/ArrayIndexOutOfBoundsException" ["java/lang/IndexOutOfBoundsException", "java/lang/RuntimeException", "java/lang/Exception"]).filter goodWord)
def wsX3_assign_r1 : List Cond := [Cond.fieldLink RX3 25 "ArenaPlan$Places" "arena" "I", Cond.fieldLink RX3 18 "ArenaPlan$Places" "plan" "LArenaPlan$Plan;", Cond.fieldLink RX3 29 "ArenaPlan$Plan" "length" "I", Cond.fieldLink RX3 9 "ArenaPlan$Places" "bySize" "[I", Cond.fieldLink RX3 15 "ArenaPlan$Places" "start" "[I", Cond.methodLink RX3 41 Lib.Math.max.name, Cond.static Lib.Math.max.name, Cond.initialized "java/lang/Math", Cond.code Lib.Math.max.name Lib.Math.max.code 2 (some .int), Cond.methodLink RX3 22 yX3_sortBySize, Cond.instanceMethod yX3_sortBySize, Cond.selects RX3 yX3_sortBySize yX3_sortBySize, Cond.initialized RX3, Cond.code yX3_sortBySize cX3_sortBySize 4 none, Cond.fieldLink RX3 47 "ArenaPlan$Plan" "sequence" "[I", Cond.fieldLink RX3 50 "ArenaPlan$Plan" "size" "[I", Cond.methodLink RX3 34 yX3_lowestStart, Cond.instanceMethod yX3_lowestStart, Cond.selects RX3 yX3_lowestStart yX3_lowestStart, Cond.code yX3_lowestStart cX3_lowestStart 6 (some .int), Cond.methodLink RX3 53 yX3_isInTheWay, Cond.instanceMethod yX3_isInTheWay, Cond.selects RX3 yX3_isInTheWay yX3_isInTheWay, Cond.code yX3_isInTheWay cX3_isInTheWay 4 (some .boolean)]
def wsX3_assign_r2 : List Cond := [Cond.methodLink RX3 57 yX4_liveTogether, Cond.instanceMethod yX4_liveTogether, Cond.selects RX4 yX4_liveTogether yX4_liveTogether, Cond.initialized RX4, Cond.code yX4_liveTogether cX4_liveTogether 3 (some .boolean), Cond.fieldLink RX4 27 "ArenaPlan$Plan" "step" "[I", Cond.fieldLink RX4 30 "ArenaPlan$Plan" "last" "[I", Cond.methodLink RX3 38 yX3_end, Cond.instanceMethod yX3_end, Cond.selects RX3 yX3_end yX3_end, Cond.code yX3_end cX3_end 2 (some .int)]
def wsX3_assign : List Cond := .code yX3_assign cX3_assign 3 none :: ((wsX3_assign_r1 ++ wsX3_assign_r2) ++ wsX30 ++ wsX40 ++ (vx_atM "java/lang/ArrayIndexOutOfBoundsException" ["java/lang/IndexOutOfBoundsException", "java/lang/RuntimeException", "java/lang/Exception"]).filter goodWord)
def wsX4_init : List Cond := .code yX4_init cX4_init 2 none :: ([.methodLink RX4 3 objectInit, .instanceMethod objectInit, .code objectInit ⟨#[0xb1]⟩ 1 none, .arrayClass .int, .fieldLink RX4 9 "ArenaPlan$Plan" "dependencies" "[I", .fieldLink RX4 15 "ArenaPlan$Plan" "dependents" "[I", .fieldLink RX4 18 "ArenaPlan$Plan" "size" "[I", .fieldLink RX4 21 "ArenaPlan$Plan" "label" "[I", .fieldLink RX4 24 "ArenaPlan$Plan" "sequence" "[I", .fieldLink RX4 27 "ArenaPlan$Plan" "step" "[I", .fieldLink RX4 30 "ArenaPlan$Plan" "last" "[I", .fieldLink RX4 33 "ArenaPlan$Plan" "costOf" "[I", .fieldLink RX4 36 "ArenaPlan$Plan" "graph" "LArenaPlan$Graph;"] ++ wsX40)
def wsX4_findNeighbours : List Cond := .code yX4_findNeighbours cX4_findNeighbours 3 none :: ([.fieldLink RX4 15 "ArenaPlan$Plan" "dependents" "[I", .fieldLink RX4 36 "ArenaPlan$Plan" "graph" "LArenaPlan$Graph;", .fieldLink RX4 64 "ArenaPlan$Graph" "count" "I", .fieldLink RX4 9 "ArenaPlan$Plan" "dependencies" "[I", .methodLink RX4 75 yJ7_fill_53178, .static yJ7_fill_53178, .initialized RJ7, .code yJ7_fill_53178 cJ7_fill_53178 4 none, .methodLink RX4 81 yX1_dependencies, .instanceMethod yX1_dependencies, .selects RX1 yX1_dependencies yX1_dependencies, .initialized RX1, .code yX1_dependencies cX1_dependencies 2 (some .int), .fieldLink RX1 26 "ArenaPlan$Graph" "source" "[[I", .static yX6_setOf, .initialized RX6, .code yX6_setOf cX6_setOf 1 (some .int), .static yX6_contains, .code yX6_contains cX6_contains 2 (some .boolean)] ++ wsX40 ++ wsX10 ++ (vx_atM "java/lang/ArrayIndexOutOfBoundsException" ["java/lang/IndexOutOfBoundsException", "java/lang/RuntimeException", "java/lang/Exception"]).filter goodWord)
def wsX4_beginOrder : List Cond := .code yX4_beginOrder cX4_beginOrder 1 none :: ([.fieldLink RX4 27 "ArenaPlan$Plan" "step" "[I", .fieldLink RX4 118 "ArenaPlan$Plan" "inOrder" "I", .fieldLink RX4 46 "ArenaPlan$Plan" "length" "I", .methodLink RX4 75 yJ7_fill_53178, .static yJ7_fill_53178, .initialized RJ7, .code yJ7_fill_53178 cJ7_fill_53178 4 none] ++ wsX40)
def wsX4_isMissing : List Cond := .code yX4_isMissing cX4_isMissing 2 (some .boolean) :: ([.fieldLink RX4 27 "ArenaPlan$Plan" "step" "[I"] ++ wsX40 ++ (vx_atM "java/lang/ArrayIndexOutOfBoundsException" ["java/lang/IndexOutOfBoundsException", "java/lang/RuntimeException", "java/lang/Exception"]).filter goodWord)
def wsX4_isReady : List Cond := .code yX4_isReady cX4_isReady 2 (some .boolean) :: ([.fieldLink RX4 9 "ArenaPlan$Plan" "dependencies" "[I", .fieldLink RX4 118 "ArenaPlan$Plan" "inOrder" "I", .methodLink RX4 135 yX4_isMissing, .instanceMethod yX4_isMissing, .selects RX4 yX4_isMissing yX4_isMissing, .initialized RX4, .code yX4_isMissing cX4_isMissing 2 (some .boolean), .fieldLink RX4 27 "ArenaPlan$Plan" "step" "[I", .static yX6_isPartOf, .initialized RX6, .code yX6_isPartOf cX6_isPartOf 2 (some .boolean)] ++ wsX40 ++ (vx_atM "java/lang/ArrayIndexOutOfBoundsException" ["java/lang/IndexOutOfBoundsException", "java/lang/RuntimeException", "java/lang/Exception"]).filter goodWord)
def wsX4_leastReady : List Cond := .code yX4_leastReady cX4_leastReady 2 (some .int) :: ([.fieldLink RX4 36 "ArenaPlan$Plan" "graph" "LArenaPlan$Graph;", .fieldLink RX4 64 "ArenaPlan$Graph" "count" "I", .methodLink RX4 132 yX4_isReady, .instanceMethod yX4_isReady, .selects RX4 yX4_isReady yX4_isReady, .initialized RX4, .code yX4_isReady cX4_isReady 2 (some .boolean), .fieldLink RX4 9 "ArenaPlan$Plan" "dependencies" "[I", .fieldLink RX4 118 "ArenaPlan$Plan" "inOrder" "I", .methodLink RX4 135 yX4_isMissing, .instanceMethod yX4_isMissing, .selects RX4 yX4_isMissing yX4_isMissing, .code yX4_isMissing cX4_isMissing 2 (some .boolean), .fieldLink RX4 27 "ArenaPlan$Plan" "step" "[I", .static yX6_isPartOf, .initialized RX6, .code yX6_isPartOf cX6_isPartOf 2 (some .boolean)] ++ wsX40 ++ wsX10 ++ (vx_atM "java/lang/ArrayIndexOutOfBoundsException" ["java/lang/IndexOutOfBoundsException", "java/lang/RuntimeException", "java/lang/Exception"]).filter goodWord)
def wsX4_append : List Cond := .code yX4_append cX4_append 2 none :: ([.fieldLink RX4 24 "ArenaPlan$Plan" "sequence" "[I", .fieldLink RX4 46 "ArenaPlan$Plan" "length" "I", .fieldLink RX4 27 "ArenaPlan$Plan" "step" "[I", .fieldLink RX4 118 "ArenaPlan$Plan" "inOrder" "I", .static yX6_setOf, .initialized RX6, .code yX6_setOf cX6_setOf 1 (some .int)] ++ wsX40 ++ (vx_atM "java/lang/ArrayIndexOutOfBoundsException" ["java/lang/IndexOutOfBoundsException", "java/lang/RuntimeException", "java/lang/Exception"]).filter goodWord)
def wsX4_orderByNumbers_r1 : List Cond := [Cond.fieldLink RX4 36 "ArenaPlan$Plan" "graph" "LArenaPlan$Graph;", Cond.fieldLink RX4 64 "ArenaPlan$Graph" "count" "I", Cond.methodLink RX4 121 yX4_beginOrder, Cond.instanceMethod yX4_beginOrder, Cond.selects RX4 yX4_beginOrder yX4_beginOrder, Cond.initialized RX4, Cond.code yX4_beginOrder cX4_beginOrder 1 none, Cond.fieldLink RX4 27 "ArenaPlan$Plan" "step" "[I", Cond.fieldLink RX4 118 "ArenaPlan$Plan" "inOrder" "I", Cond.fieldLink RX4 46 "ArenaPlan$Plan" "length" "I", Cond.methodLink RX4 75 yJ7_fill_53178, Cond.static yJ7_fill_53178, Cond.initialized RJ7, Cond.code yJ7_fill_53178 cJ7_fill_53178 4 none, Cond.methodLink RX4 124 yX4_leastReady, Cond.instanceMethod yX4_leastReady, Cond.selects RX4 yX4_leastReady yX4_leastReady, Cond.code yX4_leastReady cX4_leastReady 2 (some .int), Cond.methodLink RX4 132 yX4_isReady, Cond.instanceMethod yX4_isReady, Cond.selects RX4 yX4_isReady yX4_isReady, Cond.code yX4_isReady cX4_isReady 2 (some .boolean), Cond.fieldLink RX4 9 "ArenaPlan$Plan" "dependencies" "[I", Cond.methodLink RX4 135 yX4_isMissing]
def wsX4_orderByNumbers_r2 : List Cond := [Cond.instanceMethod yX4_isMissing, Cond.selects RX4 yX4_isMissing yX4_isMissing, Cond.code yX4_isMissing cX4_isMissing 2 (some .boolean), Cond.static yX6_isPartOf, Cond.initialized RX6, Cond.code yX6_isPartOf cX6_isPartOf 2 (some .boolean), Cond.methodLink RX4 128 yX4_append, Cond.instanceMethod yX4_append, Cond.selects RX4 yX4_append yX4_append, Cond.code yX4_append cX4_append 2 none, Cond.fieldLink RX4 24 "ArenaPlan$Plan" "sequence" "[I", Cond.static yX6_setOf, Cond.code yX6_setOf cX6_setOf 1 (some .int)]
def wsX4_orderByNumbers : List Cond := .code yX4_orderByNumbers cX4_orderByNumbers 2 none :: ((wsX4_orderByNumbers_r1 ++ wsX4_orderByNumbers_r2) ++ wsX40 ++ wsX10 ++ (vx_atM "java/lang/ArrayIndexOutOfBoundsException" ["java/lang/IndexOutOfBoundsException", "java/lang/RuntimeException", "java/lang/Exception"]).filter goodWord)
def wsX4_sizeOfSource : List Cond := .code yX4_sizeOfSource cX4_sizeOfSource 4 (some .int) :: ([.fieldLink RX4 36 "ArenaPlan$Plan" "graph" "LArenaPlan$Graph;", .fieldLink RX4 90 "ArenaPlan$Graph" "source" "[[I", .fieldLink RX4 18 "ArenaPlan$Plan" "size" "[I"] ++ wsX40 ++ wsX10 ++ (vx_atM "java/lang/ArrayIndexOutOfBoundsException" ["java/lang/IndexOutOfBoundsException", "java/lang/RuntimeException", "java/lang/Exception"]).filter goodWord)
def wsX4_sizesFit : List Cond := .code yX4_sizesFit cX4_sizesFit 4 (some .boolean) :: ([.fieldLink RX4 36 "ArenaPlan$Plan" "graph" "LArenaPlan$Graph;", .fieldLink RX4 98 "ArenaPlan$Graph" "operation" "[I", .fieldLink RX4 101 "ArenaPlan$Graph" "p" "[I", .fieldLink RX4 104 "ArenaPlan$Graph" "q" "[I", .methodLink RX4 94 yX4_sizeOfSource, .instanceMethod yX4_sizeOfSource, .selects RX4 yX4_sizeOfSource yX4_sizeOfSource, .initialized RX4, .code yX4_sizeOfSource cX4_sizeOfSource 4 (some .int), .fieldLink RX4 90 "ArenaPlan$Graph" "source" "[[I", .fieldLink RX4 18 "ArenaPlan$Plan" "size" "[I"] ++ wsX40 ++ wsX10 ++ (vx_atM "java/lang/ArrayIndexOutOfBoundsException" ["java/lang/IndexOutOfBoundsException", "java/lang/RuntimeException", "java/lang/Exception"]).filter goodWord)
def wsX4_sizeOf : List Cond := .code yX4_sizeOf cX4_sizeOf 3 (some .int) :: ([.fieldLink RX4 36 "ArenaPlan$Plan" "graph" "LArenaPlan$Graph;", .fieldLink RX4 98 "ArenaPlan$Graph" "operation" "[I", .fieldLink RX4 101 "ArenaPlan$Graph" "p" "[I", .fieldLink RX4 104 "ArenaPlan$Graph" "q" "[I", .methodLink RX4 94 yX4_sizeOfSource, .instanceMethod yX4_sizeOfSource, .selects RX4 yX4_sizeOfSource yX4_sizeOfSource, .initialized RX4, .code yX4_sizeOfSource cX4_sizeOfSource 4 (some .int), .fieldLink RX4 90 "ArenaPlan$Graph" "source" "[[I", .fieldLink RX4 18 "ArenaPlan$Plan" "size" "[I"] ++ wsX40 ++ wsX10 ++ (vx_atM "java/lang/ArrayIndexOutOfBoundsException" ["java/lang/IndexOutOfBoundsException", "java/lang/RuntimeException", "java/lang/Exception"]).filter goodWord)
def wsX4_labelOf : List Cond := .code yX4_labelOf cX4_labelOf 7 (some .int) :: ([.fieldLink RX4 36 "ArenaPlan$Plan" "graph" "LArenaPlan$Graph;", .fieldLink RX4 21 "ArenaPlan$Plan" "label" "[I", .fieldLink RX4 90 "ArenaPlan$Graph" "source" "[[I", .methodLink RX4 110 Lib.Math.max.name, .static Lib.Math.max.name, .initialized "java/lang/Math", .code Lib.Math.max.name Lib.Math.max.code 2 (some .int), .methodLink RX4 115 Lib.Math.min.name, .static Lib.Math.min.name, .code Lib.Math.min.name Lib.Math.min.code 2 (some .int), .methodLink RX4 107 yX1_inputs, .instanceMethod yX1_inputs, .selects RX1 yX1_inputs yX1_inputs, .initialized RX1, .code yX1_inputs cX1_inputs 2 (some .int), .fieldLink RX1 9 "ArenaPlan$Graph" "operation" "[I"] ++ wsX40 ++ wsX10 ++ (vx_atM "java/lang/ArrayIndexOutOfBoundsException" ["java/lang/IndexOutOfBoundsException", "java/lang/RuntimeException", "java/lang/Exception"]).filter goodWord)
def wsX4_measure_r1 : List Cond := [Cond.fieldLink RX4 46 "ArenaPlan$Plan" "length" "I", Cond.fieldLink RX4 24 "ArenaPlan$Plan" "sequence" "[I", Cond.fieldLink RX4 18 "ArenaPlan$Plan" "size" "[I", Cond.fieldLink RX4 21 "ArenaPlan$Plan" "label" "[I", Cond.methodLink RX4 40 yX4_findNeighbours, Cond.instanceMethod yX4_findNeighbours, Cond.selects RX4 yX4_findNeighbours yX4_findNeighbours, Cond.initialized RX4, Cond.code yX4_findNeighbours cX4_findNeighbours 3 none, Cond.fieldLink RX4 15 "ArenaPlan$Plan" "dependents" "[I", Cond.fieldLink RX4 36 "ArenaPlan$Plan" "graph" "LArenaPlan$Graph;", Cond.fieldLink RX4 64 "ArenaPlan$Graph" "count" "I", Cond.fieldLink RX4 9 "ArenaPlan$Plan" "dependencies" "[I", Cond.methodLink RX4 75 yJ7_fill_53178, Cond.static yJ7_fill_53178, Cond.initialized RJ7, Cond.code yJ7_fill_53178 cJ7_fill_53178 4 none, Cond.methodLink RX4 81 yX1_dependencies, Cond.instanceMethod yX1_dependencies, Cond.selects RX1 yX1_dependencies yX1_dependencies, Cond.initialized RX1, Cond.code yX1_dependencies cX1_dependencies 2 (some .int), Cond.fieldLink RX1 26 "ArenaPlan$Graph" "source" "[[I", Cond.static yX6_setOf]
def wsX4_measure_r2 : List Cond := [Cond.initialized RX6, Cond.code yX6_setOf cX6_setOf 1 (some .int), Cond.static yX6_contains, Cond.code yX6_contains cX6_contains 2 (some .boolean), Cond.methodLink RX4 43 yX4_orderByNumbers, Cond.instanceMethod yX4_orderByNumbers, Cond.selects RX4 yX4_orderByNumbers yX4_orderByNumbers, Cond.code yX4_orderByNumbers cX4_orderByNumbers 2 none, Cond.methodLink RX4 121 yX4_beginOrder, Cond.instanceMethod yX4_beginOrder, Cond.selects RX4 yX4_beginOrder yX4_beginOrder, Cond.code yX4_beginOrder cX4_beginOrder 1 none, Cond.fieldLink RX4 27 "ArenaPlan$Plan" "step" "[I", Cond.fieldLink RX4 118 "ArenaPlan$Plan" "inOrder" "I", Cond.methodLink RX4 124 yX4_leastReady, Cond.instanceMethod yX4_leastReady, Cond.selects RX4 yX4_leastReady yX4_leastReady, Cond.code yX4_leastReady cX4_leastReady 2 (some .int), Cond.methodLink RX4 132 yX4_isReady, Cond.instanceMethod yX4_isReady, Cond.selects RX4 yX4_isReady yX4_isReady, Cond.code yX4_isReady cX4_isReady 2 (some .boolean), Cond.methodLink RX4 135 yX4_isMissing, Cond.instanceMethod yX4_isMissing]
def wsX4_measure_r3 : List Cond := [Cond.selects RX4 yX4_isMissing yX4_isMissing, Cond.code yX4_isMissing cX4_isMissing 2 (some .boolean), Cond.static yX6_isPartOf, Cond.code yX6_isPartOf cX6_isPartOf 2 (some .boolean), Cond.methodLink RX4 128 yX4_append, Cond.instanceMethod yX4_append, Cond.selects RX4 yX4_append yX4_append, Cond.code yX4_append cX4_append 2 none, Cond.methodLink RX4 50 yX4_sizesFit, Cond.instanceMethod yX4_sizesFit, Cond.selects RX4 yX4_sizesFit yX4_sizesFit, Cond.code yX4_sizesFit cX4_sizesFit 4 (some .boolean), Cond.fieldLink RX4 98 "ArenaPlan$Graph" "operation" "[I", Cond.fieldLink RX4 101 "ArenaPlan$Graph" "p" "[I", Cond.fieldLink RX4 104 "ArenaPlan$Graph" "q" "[I", Cond.methodLink RX4 94 yX4_sizeOfSource, Cond.instanceMethod yX4_sizeOfSource, Cond.selects RX4 yX4_sizeOfSource yX4_sizeOfSource, Cond.code yX4_sizeOfSource cX4_sizeOfSource 4 (some .int), Cond.fieldLink RX4 90 "ArenaPlan$Graph" "source" "[[I", Cond.methodLink RX4 54 yX4_sizeOf, Cond.instanceMethod yX4_sizeOf, Cond.selects RX4 yX4_sizeOf yX4_sizeOf, Cond.code yX4_sizeOf cX4_sizeOf 3 (some .int)]
def wsX4_measure_r4 : List Cond := [Cond.methodLink RX4 58 yX4_labelOf, Cond.instanceMethod yX4_labelOf, Cond.selects RX4 yX4_labelOf yX4_labelOf, Cond.code yX4_labelOf cX4_labelOf 7 (some .int), Cond.methodLink RX4 110 Lib.Math.max.name, Cond.static Lib.Math.max.name, Cond.initialized "java/lang/Math", Cond.code Lib.Math.max.name Lib.Math.max.code 2 (some .int), Cond.methodLink RX4 115 Lib.Math.min.name, Cond.static Lib.Math.min.name, Cond.code Lib.Math.min.name Lib.Math.min.code 2 (some .int), Cond.methodLink RX4 107 yX1_inputs, Cond.instanceMethod yX1_inputs, Cond.selects RX1 yX1_inputs yX1_inputs, Cond.code yX1_inputs cX1_inputs 2 (some .int), Cond.fieldLink RX1 9 "ArenaPlan$Graph" "operation" "[I"]
def wsX4_measure : List Cond := .code yX4_measure cX4_measure 3 (some .boolean) :: ((wsX4_measure_r1 ++ (wsX4_measure_r2 ++ (wsX4_measure_r3 ++ wsX4_measure_r4))) ++ wsX40 ++ wsX10 ++ (vx_atM "java/lang/ArrayIndexOutOfBoundsException" ["java/lang/IndexOutOfBoundsException", "java/lang/RuntimeException", "java/lang/Exception"]).filter goodWord)
def wsX4_sourceToVisit : List Cond := .code yX4_sourceToVisit cX4_sourceToVisit 7 (some .int) :: ([.fieldLink RX4 36 "ArenaPlan$Plan" "graph" "LArenaPlan$Graph;", .fieldLink RX4 90 "ArenaPlan$Graph" "source" "[[I", .fieldLink RX4 21 "ArenaPlan$Plan" "label" "[I", .methodLink RX4 135 yX4_isMissing, .instanceMethod yX4_isMissing, .selects RX4 yX4_isMissing yX4_isMissing, .initialized RX4, .code yX4_isMissing cX4_isMissing 2 (some .boolean), .fieldLink RX4 27 "ArenaPlan$Plan" "step" "[I"] ++ wsX40 ++ wsX10 ++ (vx_atM "java/lang/ArrayIndexOutOfBoundsException" ["java/lang/IndexOutOfBoundsException", "java/lang/RuntimeException", "java/lang/Exception"]).filter goodWord)
def wsX4_firstDue : List Cond := .code yX4_firstDue cX4_firstDue 5 (some .int) :: ([.fieldLink RX4 36 "ArenaPlan$Plan" "graph" "LArenaPlan$Graph;", .fieldLink RX4 64 "ArenaPlan$Graph" "count" "I", .methodLink RX4 147 yX4_sourceToVisit, .instanceMethod yX4_sourceToVisit, .selects RX4 yX4_sourceToVisit yX4_sourceToVisit, .initialized RX4, .code yX4_sourceToVisit cX4_sourceToVisit 7 (some .int), .fieldLink RX4 90 "ArenaPlan$Graph" "source" "[[I", .fieldLink RX4 21 "ArenaPlan$Plan" "label" "[I", .methodLink RX4 135 yX4_isMissing, .instanceMethod yX4_isMissing, .selects RX4 yX4_isMissing yX4_isMissing, .code yX4_isMissing cX4_isMissing 2 (some .boolean), .fieldLink RX4 27 "ArenaPlan$Plan" "step" "[I"] ++ wsX40 ++ wsX10 ++ (vx_atM "java/lang/ArrayIndexOutOfBoundsException" ["java/lang/IndexOutOfBoundsException", "java/lang/RuntimeException", "java/lang/Exception"]).filter goodWord)
def wsX4_visit_r1 : List Cond := [Cond.fieldLink RX4 36 "ArenaPlan$Plan" "graph" "LArenaPlan$Graph;", Cond.fieldLink RX4 64 "ArenaPlan$Graph" "count" "I", Cond.methodLink RX4 135 yX4_isMissing, Cond.instanceMethod yX4_isMissing, Cond.selects RX4 yX4_isMissing yX4_isMissing, Cond.initialized RX4, Cond.code yX4_isMissing cX4_isMissing 2 (some .boolean), Cond.fieldLink RX4 27 "ArenaPlan$Plan" "step" "[I", Cond.methodLink RX4 144 yX4_firstDue, Cond.instanceMethod yX4_firstDue, Cond.selects RX4 yX4_firstDue yX4_firstDue, Cond.code yX4_firstDue cX4_firstDue 5 (some .int), Cond.methodLink RX4 147 yX4_sourceToVisit, Cond.instanceMethod yX4_sourceToVisit, Cond.selects RX4 yX4_sourceToVisit yX4_sourceToVisit, Cond.code yX4_sourceToVisit cX4_sourceToVisit 7 (some .int), Cond.fieldLink RX4 90 "ArenaPlan$Graph" "source" "[[I", Cond.fieldLink RX4 21 "ArenaPlan$Plan" "label" "[I", Cond.methodLink RX4 128 yX4_append, Cond.instanceMethod yX4_append, Cond.selects RX4 yX4_append yX4_append, Cond.code yX4_append cX4_append 2 none, Cond.fieldLink RX4 24 "ArenaPlan$Plan" "sequence" "[I", Cond.fieldLink RX4 46 "ArenaPlan$Plan" "length" "I"]
def wsX4_visit_r2 : List Cond := [Cond.fieldLink RX4 118 "ArenaPlan$Plan" "inOrder" "I", Cond.static yX6_setOf, Cond.initialized RX6, Cond.code yX6_setOf cX6_setOf 1 (some .int)]
def wsX4_visit : List Cond := .code yX4_visit cX4_visit 3 none :: ((wsX4_visit_r1 ++ wsX4_visit_r2) ++ wsX40 ++ wsX10 ++ (vx_atM "java/lang/ArrayIndexOutOfBoundsException" ["java/lang/IndexOutOfBoundsException", "java/lang/RuntimeException", "java/lang/Exception"]).filter goodWord)
def wsX4_orderByLabels_r1 : List Cond := [Cond.fieldLink RX4 36 "ArenaPlan$Plan" "graph" "LArenaPlan$Graph;", Cond.fieldLink RX4 64 "ArenaPlan$Graph" "count" "I", Cond.fieldLink RX4 15 "ArenaPlan$Plan" "dependents" "[I", Cond.methodLink RX4 121 yX4_beginOrder, Cond.instanceMethod yX4_beginOrder, Cond.selects RX4 yX4_beginOrder yX4_beginOrder, Cond.initialized RX4, Cond.code yX4_beginOrder cX4_beginOrder 1 none, Cond.fieldLink RX4 27 "ArenaPlan$Plan" "step" "[I", Cond.fieldLink RX4 118 "ArenaPlan$Plan" "inOrder" "I", Cond.fieldLink RX4 46 "ArenaPlan$Plan" "length" "I", Cond.methodLink RX4 75 yJ7_fill_53178, Cond.static yJ7_fill_53178, Cond.initialized RJ7, Cond.code yJ7_fill_53178 cJ7_fill_53178 4 none, Cond.methodLink RX4 141 yX4_visit, Cond.instanceMethod yX4_visit, Cond.selects RX4 yX4_visit yX4_visit, Cond.code yX4_visit cX4_visit 3 none, Cond.methodLink RX4 135 yX4_isMissing, Cond.instanceMethod yX4_isMissing, Cond.selects RX4 yX4_isMissing yX4_isMissing, Cond.code yX4_isMissing cX4_isMissing 2 (some .boolean), Cond.methodLink RX4 144 yX4_firstDue]
def wsX4_orderByLabels_r2 : List Cond := [Cond.instanceMethod yX4_firstDue, Cond.selects RX4 yX4_firstDue yX4_firstDue, Cond.code yX4_firstDue cX4_firstDue 5 (some .int), Cond.methodLink RX4 147 yX4_sourceToVisit, Cond.instanceMethod yX4_sourceToVisit, Cond.selects RX4 yX4_sourceToVisit yX4_sourceToVisit, Cond.code yX4_sourceToVisit cX4_sourceToVisit 7 (some .int), Cond.fieldLink RX4 90 "ArenaPlan$Graph" "source" "[[I", Cond.fieldLink RX4 21 "ArenaPlan$Plan" "label" "[I", Cond.methodLink RX4 128 yX4_append, Cond.instanceMethod yX4_append, Cond.selects RX4 yX4_append yX4_append, Cond.code yX4_append cX4_append 2 none, Cond.fieldLink RX4 24 "ArenaPlan$Plan" "sequence" "[I", Cond.static yX6_setOf, Cond.initialized RX6, Cond.code yX6_setOf cX6_setOf 1 (some .int)]
def wsX4_orderByLabels : List Cond := .code yX4_orderByLabels cX4_orderByLabels 2 none :: ((wsX4_orderByLabels_r1 ++ wsX4_orderByLabels_r2) ++ wsX40 ++ wsX10 ++ (vx_atM "java/lang/ArrayIndexOutOfBoundsException" ["java/lang/IndexOutOfBoundsException", "java/lang/RuntimeException", "java/lang/Exception"]).filter goodWord)
def wsX4_lastStepOf : List Cond := .code yX4_lastStepOf cX4_lastStepOf 4 (some .int) :: ([.fieldLink RX4 36 "ArenaPlan$Plan" "graph" "LArenaPlan$Graph;", .fieldLink RX4 150 "ArenaPlan$Graph" "kept" "[Z", .fieldLink RX4 64 "ArenaPlan$Graph" "count" "I", .fieldLink RX4 27 "ArenaPlan$Plan" "step" "[I", .fieldLink RX4 15 "ArenaPlan$Plan" "dependents" "[I", .methodLink RX4 110 Lib.Math.max.name, .static Lib.Math.max.name, .initialized "java/lang/Math", .code Lib.Math.max.name Lib.Math.max.code 2 (some .int), .static yX6_contains, .initialized RX6, .code yX6_contains cX6_contains 2 (some .boolean)] ++ wsX40 ++ wsX10 ++ (vx_atM "java/lang/ArrayIndexOutOfBoundsException" ["java/lang/IndexOutOfBoundsException", "java/lang/RuntimeException", "java/lang/Exception"]).filter goodWord)
def wsX4_addCosts : List Cond := .code yX4_addCosts cX4_addCosts 3 none :: ([.fieldLink RX4 154 "ArenaPlan$Plan" "greatestCost" "I", .fieldLink RX4 33 "ArenaPlan$Plan" "costOf" "[I", .fieldLink RX4 46 "ArenaPlan$Plan" "length" "I", .fieldLink RX4 36 "ArenaPlan$Plan" "graph" "LArenaPlan$Graph;", .fieldLink RX4 64 "ArenaPlan$Graph" "count" "I", .fieldLink RX4 27 "ArenaPlan$Plan" "step" "[I", .fieldLink RX4 30 "ArenaPlan$Plan" "last" "[I", .fieldLink RX4 18 "ArenaPlan$Plan" "size" "[I", .methodLink RX4 110 Lib.Math.max.name, .static Lib.Math.max.name, .initialized "java/lang/Math", .code Lib.Math.max.name Lib.Math.max.code 2 (some .int), .methodLink RX4 75 yJ7_fill_53178, .static yJ7_fill_53178, .initialized RJ7, .code yJ7_fill_53178 cJ7_fill_53178 4 none] ++ wsX40 ++ wsX10 ++ (vx_atM "java/lang/ArrayIndexOutOfBoundsException" ["java/lang/IndexOutOfBoundsException", "java/lang/RuntimeException", "java/lang/Exception"]).filter goodWord)
def wsX4_arrange_r1 : List Cond := [Cond.fieldLink RX4 36 "ArenaPlan$Plan" "graph" "LArenaPlan$Graph;", Cond.fieldLink RX4 64 "ArenaPlan$Graph" "count" "I", Cond.fieldLink RX4 30 "ArenaPlan$Plan" "last" "[I", Cond.methodLink RX4 61 yX4_orderByLabels, Cond.instanceMethod yX4_orderByLabels, Cond.selects RX4 yX4_orderByLabels yX4_orderByLabels, Cond.initialized RX4, Cond.code yX4_orderByLabels cX4_orderByLabels 2 none, Cond.fieldLink RX4 15 "ArenaPlan$Plan" "dependents" "[I", Cond.methodLink RX4 121 yX4_beginOrder, Cond.instanceMethod yX4_beginOrder, Cond.selects RX4 yX4_beginOrder yX4_beginOrder, Cond.code yX4_beginOrder cX4_beginOrder 1 none, Cond.fieldLink RX4 27 "ArenaPlan$Plan" "step" "[I", Cond.fieldLink RX4 118 "ArenaPlan$Plan" "inOrder" "I", Cond.fieldLink RX4 46 "ArenaPlan$Plan" "length" "I", Cond.methodLink RX4 75 yJ7_fill_53178, Cond.static yJ7_fill_53178, Cond.initialized RJ7, Cond.code yJ7_fill_53178 cJ7_fill_53178 4 none, Cond.methodLink RX4 141 yX4_visit, Cond.instanceMethod yX4_visit, Cond.selects RX4 yX4_visit yX4_visit, Cond.code yX4_visit cX4_visit 3 none]
def wsX4_arrange_r2 : List Cond := [Cond.methodLink RX4 135 yX4_isMissing, Cond.instanceMethod yX4_isMissing, Cond.selects RX4 yX4_isMissing yX4_isMissing, Cond.code yX4_isMissing cX4_isMissing 2 (some .boolean), Cond.methodLink RX4 144 yX4_firstDue, Cond.instanceMethod yX4_firstDue, Cond.selects RX4 yX4_firstDue yX4_firstDue, Cond.code yX4_firstDue cX4_firstDue 5 (some .int), Cond.methodLink RX4 147 yX4_sourceToVisit, Cond.instanceMethod yX4_sourceToVisit, Cond.selects RX4 yX4_sourceToVisit yX4_sourceToVisit, Cond.code yX4_sourceToVisit cX4_sourceToVisit 7 (some .int), Cond.fieldLink RX4 90 "ArenaPlan$Graph" "source" "[[I", Cond.fieldLink RX4 21 "ArenaPlan$Plan" "label" "[I", Cond.methodLink RX4 128 yX4_append, Cond.instanceMethod yX4_append, Cond.selects RX4 yX4_append yX4_append, Cond.code yX4_append cX4_append 2 none, Cond.fieldLink RX4 24 "ArenaPlan$Plan" "sequence" "[I", Cond.static yX6_setOf, Cond.initialized RX6, Cond.code yX6_setOf cX6_setOf 1 (some .int), Cond.methodLink RX4 43 yX4_orderByNumbers, Cond.instanceMethod yX4_orderByNumbers]
def wsX4_arrange_r3 : List Cond := [Cond.selects RX4 yX4_orderByNumbers yX4_orderByNumbers, Cond.code yX4_orderByNumbers cX4_orderByNumbers 2 none, Cond.methodLink RX4 124 yX4_leastReady, Cond.instanceMethod yX4_leastReady, Cond.selects RX4 yX4_leastReady yX4_leastReady, Cond.code yX4_leastReady cX4_leastReady 2 (some .int), Cond.methodLink RX4 132 yX4_isReady, Cond.instanceMethod yX4_isReady, Cond.selects RX4 yX4_isReady yX4_isReady, Cond.code yX4_isReady cX4_isReady 2 (some .boolean), Cond.fieldLink RX4 9 "ArenaPlan$Plan" "dependencies" "[I", Cond.static yX6_isPartOf, Cond.code yX6_isPartOf cX6_isPartOf 2 (some .boolean), Cond.methodLink RX4 69 yX4_lastStepOf, Cond.instanceMethod yX4_lastStepOf, Cond.selects RX4 yX4_lastStepOf yX4_lastStepOf, Cond.code yX4_lastStepOf cX4_lastStepOf 4 (some .int), Cond.fieldLink RX4 150 "ArenaPlan$Graph" "kept" "[Z", Cond.methodLink RX4 110 Lib.Math.max.name, Cond.static Lib.Math.max.name, Cond.initialized "java/lang/Math", Cond.code Lib.Math.max.name Lib.Math.max.code 2 (some .int), Cond.static yX6_contains, Cond.code yX6_contains cX6_contains 2 (some .boolean)]
def wsX4_arrange_r4 : List Cond := [Cond.methodLink RX4 72 yX4_addCosts, Cond.instanceMethod yX4_addCosts, Cond.selects RX4 yX4_addCosts yX4_addCosts, Cond.code yX4_addCosts cX4_addCosts 3 none, Cond.fieldLink RX4 154 "ArenaPlan$Plan" "greatestCost" "I", Cond.fieldLink RX4 33 "ArenaPlan$Plan" "costOf" "[I", Cond.fieldLink RX4 18 "ArenaPlan$Plan" "size" "[I"]
def wsX4_arrange : List Cond := .code yX4_arrange cX4_arrange 3 none :: ((wsX4_arrange_r1 ++ (wsX4_arrange_r2 ++ (wsX4_arrange_r3 ++ wsX4_arrange_r4))) ++ wsX40 ++ wsX10 ++ (vx_atM "java/lang/ArrayIndexOutOfBoundsException" ["java/lang/IndexOutOfBoundsException", "java/lang/RuntimeException", "java/lang/Exception"]).filter goodWord)
def wsX5_init : List Cond := .code yX5_init cX5_init 2 none :: ([.methodLink RX5 3 objectInit, .instanceMethod objectInit, .code objectInit ⟨#[0xb1]⟩ 1 none, .arrayClass .int, .fieldLink RX5 9 "ArenaPlan$Rings" "reach" "[I", .fieldLink RX5 15 "ArenaPlan$Rings" "stepsLeft" "[I", .fieldLink RX5 18 "ArenaPlan$Rings" "member" "[I", .fieldLink RX5 21 "ArenaPlan$Rings" "graph" "LArenaPlan$Graph;"] ++ wsX50)
def wsX5_findReach : List Cond := .code yX5_findReach cX5_findReach 3 none :: ([.fieldLink RX5 21 "ArenaPlan$Rings" "graph" "LArenaPlan$Graph;", .fieldLink RX5 32 "ArenaPlan$Graph" "count" "I", .fieldLink RX5 9 "ArenaPlan$Rings" "reach" "[I", .methodLink RX5 48 yX1_dependencies, .instanceMethod yX1_dependencies, .selects RX1 yX1_dependencies yX1_dependencies, .initialized RX1, .code yX1_dependencies cX1_dependencies 2 (some .int), .fieldLink RX1 26 "ArenaPlan$Graph" "source" "[[I", .static yX6_setOf, .initialized RX6, .code yX6_setOf cX6_setOf 1 (some .int), .static yX6_contains, .code yX6_contains cX6_contains 2 (some .boolean)] ++ wsX50 ++ wsX10 ++ (vx_atM "java/lang/ArrayIndexOutOfBoundsException" ["java/lang/IndexOutOfBoundsException", "java/lang/RuntimeException", "java/lang/Exception"]).filter goodWord)
def wsX5_nearest : List Cond := .code yX5_nearest cX5_nearest 4 (some .int) :: ([.fieldLink RX5 21 "ArenaPlan$Rings" "graph" "LArenaPlan$Graph;", .fieldLink RX5 67 "ArenaPlan$Graph" "source" "[[I", .fieldLink RX5 15 "ArenaPlan$Rings" "stepsLeft" "[I"] ++ wsX50 ++ wsX10 ++ (vx_atM "java/lang/ArrayIndexOutOfBoundsException" ["java/lang/IndexOutOfBoundsException", "java/lang/RuntimeException", "java/lang/Exception"]).filter goodWord)
def wsX5_countSteps : List Cond := .code yX5_countSteps cX5_countSteps 5 none :: ([.fieldLink RX5 15 "ArenaPlan$Rings" "stepsLeft" "[I", .fieldLink RX5 21 "ArenaPlan$Rings" "graph" "LArenaPlan$Graph;", .fieldLink RX5 32 "ArenaPlan$Graph" "count" "I", .methodLink RX5 61 Lib.Math.min.name, .static Lib.Math.min.name, .initialized "java/lang/Math", .code Lib.Math.min.name Lib.Math.min.code 2 (some .int), .methodLink RX5 52 yJ7_fill_53178, .static yJ7_fill_53178, .initialized RJ7, .code yJ7_fill_53178 cJ7_fill_53178 4 none, .methodLink RX5 58 yX5_nearest, .instanceMethod yX5_nearest, .selects RX5 yX5_nearest yX5_nearest, .initialized RX5, .code yX5_nearest cX5_nearest 4 (some .int), .fieldLink RX5 67 "ArenaPlan$Graph" "source" "[[I"] ++ wsX50 ++ wsX10 ++ (vx_atM "java/lang/ArrayIndexOutOfBoundsException" ["java/lang/IndexOutOfBoundsException", "java/lang/RuntimeException", "java/lang/Exception"]).filter goodWord)
def wsX5_follow : List Cond := .code yX5_follow cX5_follow 3 none :: ([.fieldLink RX5 18 "ArenaPlan$Rings" "member" "[I", .fieldLink RX5 25 "ArenaPlan$Rings" "length" "I", .fieldLink RX5 21 "ArenaPlan$Rings" "graph" "LArenaPlan$Graph;", .fieldLink RX5 32 "ArenaPlan$Graph" "count" "I", .methodLink RX5 58 yX5_nearest, .instanceMethod yX5_nearest, .selects RX5 yX5_nearest yX5_nearest, .initialized RX5, .code yX5_nearest cX5_nearest 4 (some .int), .fieldLink RX5 67 "ArenaPlan$Graph" "source" "[[I", .fieldLink RX5 15 "ArenaPlan$Rings" "stepsLeft" "[I"] ++ wsX50 ++ wsX10 ++ (vx_atM "java/lang/ArrayIndexOutOfBoundsException" ["java/lang/IndexOutOfBoundsException", "java/lang/RuntimeException", "java/lang/Exception"]).filter goodWord)
def wsX5_find_r1 : List Cond := [Cond.fieldLink RX5 25 "ArenaPlan$Rings" "length" "I", Cond.fieldLink RX5 21 "ArenaPlan$Rings" "graph" "LArenaPlan$Graph;", Cond.fieldLink RX5 32 "ArenaPlan$Graph" "count" "I", Cond.fieldLink RX5 9 "ArenaPlan$Rings" "reach" "[I", Cond.methodLink RX5 29 yX5_findReach, Cond.instanceMethod yX5_findReach, Cond.selects RX5 yX5_findReach yX5_findReach, Cond.initialized RX5, Cond.code yX5_findReach cX5_findReach 3 none, Cond.methodLink RX5 48 yX1_dependencies, Cond.instanceMethod yX1_dependencies, Cond.selects RX1 yX1_dependencies yX1_dependencies, Cond.initialized RX1, Cond.code yX1_dependencies cX1_dependencies 2 (some .int), Cond.fieldLink RX1 26 "ArenaPlan$Graph" "source" "[[I", Cond.static yX6_setOf, Cond.initialized RX6, Cond.code yX6_setOf cX6_setOf 1 (some .int), Cond.static yX6_contains, Cond.code yX6_contains cX6_contains 2 (some .boolean), Cond.methodLink RX5 41 yX5_countSteps, Cond.instanceMethod yX5_countSteps, Cond.selects RX5 yX5_countSteps yX5_countSteps, Cond.code yX5_countSteps cX5_countSteps 5 none]
def wsX5_find_r2 : List Cond := [Cond.fieldLink RX5 15 "ArenaPlan$Rings" "stepsLeft" "[I", Cond.methodLink RX5 61 Lib.Math.min.name, Cond.static Lib.Math.min.name, Cond.initialized "java/lang/Math", Cond.code Lib.Math.min.name Lib.Math.min.code 2 (some .int), Cond.methodLink RX5 52 yJ7_fill_53178, Cond.static yJ7_fill_53178, Cond.initialized RJ7, Cond.code yJ7_fill_53178 cJ7_fill_53178 4 none, Cond.methodLink RX5 58 yX5_nearest, Cond.instanceMethod yX5_nearest, Cond.selects RX5 yX5_nearest yX5_nearest, Cond.code yX5_nearest cX5_nearest 4 (some .int), Cond.fieldLink RX5 67 "ArenaPlan$Graph" "source" "[[I", Cond.methodLink RX5 45 yX5_follow, Cond.instanceMethod yX5_follow, Cond.selects RX5 yX5_follow yX5_follow, Cond.code yX5_follow cX5_follow 3 none, Cond.fieldLink RX5 18 "ArenaPlan$Rings" "member" "[I"]
def wsX5_find : List Cond := .code yX5_find cX5_find 2 none :: ((wsX5_find_r1 ++ wsX5_find_r2) ++ wsX50 ++ wsX10 ++ (vx_atM "java/lang/ArrayIndexOutOfBoundsException" ["java/lang/IndexOutOfBoundsException", "java/lang/RuntimeException", "java/lang/Exception"]).filter goodWord)
def wsX6_init_r1 : List Cond := [Cond.methodLink RX6 1 objectInit, Cond.instanceMethod objectInit, Cond.code objectInit ⟨#[0xb1]⟩ 1 none, Cond.classLink RX6 7 RX1, Cond.instantiable RX1 7, Cond.initialized RX1, Cond.fieldLink RX6 10 "ArenaPlan" "graph" "LArenaPlan$Graph;", Cond.classLink RX6 16 RX5, Cond.instantiable RX5 5, Cond.initialized RX5, Cond.fieldLink RX6 21 "ArenaPlan" "rings" "LArenaPlan$Rings;", Cond.classLink RX6 25 RX4, Cond.instantiable RX4 12, Cond.initialized RX4, Cond.fieldLink RX6 28 "ArenaPlan" "plan" "LArenaPlan$Plan;", Cond.classLink RX6 32 RX3, Cond.instantiable RX3 4, Cond.initialized RX3, Cond.fieldLink RX6 37 "ArenaPlan" "places" "LArenaPlan$Places;", Cond.classLink RX6 41 RX0, Cond.instantiable RX0 4, Cond.initialized RX0, Cond.fieldLink RX6 46 "ArenaPlan" "cells" "LArenaPlan$Cells;", Cond.classLink RX6 50 RX2]
def wsX6_init_r2 : List Cond := [Cond.instantiable RX2 2, Cond.initialized RX2, Cond.fieldLink RX6 53 "ArenaPlan" "search" "LArenaPlan$LeastPeak;", Cond.instanceMethod yX1_init, Cond.code yX1_init cX1_init 1 none, Cond.methodLink RX1 3 objectInit, Cond.arrayClass .int, Cond.fieldLink RX1 9 "ArenaPlan$Graph" "operation" "[I", Cond.fieldLink RX1 15 "ArenaPlan$Graph" "p" "[I", Cond.fieldLink RX1 18 "ArenaPlan$Graph" "q" "[I", Cond.classLink RX1 21 "[[I", Cond.fieldLink RX1 23 "ArenaPlan$Graph" "given" "[[I", Cond.fieldLink RX1 26 "ArenaPlan$Graph" "source" "[[I", Cond.arrayClass .boolean, Cond.fieldLink RX1 29 "ArenaPlan$Graph" "kept" "[Z", Cond.methodLink RX6 18 yX5_init, Cond.instanceMethod yX5_init, Cond.code yX5_init cX5_init 2 none, Cond.methodLink RX5 3 objectInit, Cond.fieldLink RX5 9 "ArenaPlan$Rings" "reach" "[I", Cond.fieldLink RX5 15 "ArenaPlan$Rings" "stepsLeft" "[I", Cond.fieldLink RX5 18 "ArenaPlan$Rings" "member" "[I", Cond.fieldLink RX5 21 "ArenaPlan$Rings" "graph" "LArenaPlan$Graph;", Cond.methodLink RX6 27 yX4_init]
def wsX6_init_r3 : List Cond := [Cond.instanceMethod yX4_init, Cond.code yX4_init cX4_init 2 none, Cond.methodLink RX4 3 objectInit, Cond.fieldLink RX4 9 "ArenaPlan$Plan" "dependencies" "[I", Cond.fieldLink RX4 15 "ArenaPlan$Plan" "dependents" "[I", Cond.fieldLink RX4 18 "ArenaPlan$Plan" "size" "[I", Cond.fieldLink RX4 21 "ArenaPlan$Plan" "label" "[I", Cond.fieldLink RX4 24 "ArenaPlan$Plan" "sequence" "[I", Cond.fieldLink RX4 27 "ArenaPlan$Plan" "step" "[I", Cond.fieldLink RX4 30 "ArenaPlan$Plan" "last" "[I", Cond.fieldLink RX4 33 "ArenaPlan$Plan" "costOf" "[I", Cond.fieldLink RX4 36 "ArenaPlan$Plan" "graph" "LArenaPlan$Graph;", Cond.methodLink RX6 34 yX3_init, Cond.instanceMethod yX3_init, Cond.code yX3_init cX3_init 2 none, Cond.methodLink RX3 3 objectInit, Cond.fieldLink RX3 9 "ArenaPlan$Places" "bySize" "[I", Cond.fieldLink RX3 15 "ArenaPlan$Places" "start" "[I", Cond.fieldLink RX3 18 "ArenaPlan$Places" "plan" "LArenaPlan$Plan;", Cond.methodLink RX6 43 yX0_init, Cond.instanceMethod yX0_init, Cond.code yX0_init cX0_init 2 none, Cond.methodLink RX0 3 objectInit, Cond.fieldLink RX0 9 "ArenaPlan$Cells" "value" "[I"]
def wsX6_init_r4 : List Cond := [Cond.fieldLink RX0 15 "ArenaPlan$Cells" "places" "LArenaPlan$Places;", Cond.fieldLink RX0 19 "ArenaPlan$Places" "plan" "LArenaPlan$Plan;", Cond.fieldLink RX0 25 "ArenaPlan$Cells" "plan" "LArenaPlan$Plan;", Cond.fieldLink RX0 26 "ArenaPlan$Plan" "graph" "LArenaPlan$Graph;", Cond.fieldLink RX0 32 "ArenaPlan$Cells" "graph" "LArenaPlan$Graph;", Cond.methodLink RX6 52 yX2_init, Cond.instanceMethod yX2_init, Cond.code yX2_init cX2_init 2 none, Cond.methodLink RX2 3 objectInit, Cond.fieldLink RX2 9 "ArenaPlan$LeastPeak" "peakOf" "[I", Cond.fieldLink RX2 15 "ArenaPlan$LeastPeak" "plan" "LArenaPlan$Plan;"]
def wsX6_init : List Cond := .code yX6_init cX6_init 1 none :: ((wsX6_init_r1 ++ (wsX6_init_r2 ++ (wsX6_init_r3 ++ wsX6_init_r4))) ++ wsX10 ++ wsX60 ++ wsX50 ++ wsX40 ++ wsX30 ++ wsX00 ++ wsX20)
def wsX6_canBeMade : List Cond := .code yX6_canBeMade cX6_canBeMade 3 (some .boolean) :: ([.fieldLink RX6 223 "ArenaPlan" "INPUTS" "[I", .methodLink RX6 95 yX6_isWithin, .static yX6_isWithin, .initialized RX6, .code yX6_isWithin cX6_isWithin 2 (some .boolean)])
def wsX6_forgetPlan : List Cond := .code yX6_forgetPlan cX6_forgetPlan 1 none :: ([.fieldLink RX6 156 "ArenaPlan" "planned" "Z"] ++ wsX60)
def wsX6_make_r1 : List Cond := [Cond.classLink RX6 61 "java/lang/IllegalArgumentException", Cond.initialized "java/lang/IllegalArgumentException", Cond.classLink RX6 72 "java/lang/UnsupportedOperationException", Cond.initialized "java/lang/UnsupportedOperationException", Cond.fieldLink RX6 10 "ArenaPlan" "graph" "LArenaPlan$Graph;", Cond.fieldLink RX6 68 "ArenaPlan$Graph" "count" "I", Cond.methodLink RX6 57 yX6_canBeMade, Cond.static yX6_canBeMade, Cond.initialized RX6, Cond.code yX6_canBeMade cX6_canBeMade 3 (some .boolean), Cond.fieldLink RX6 223 "ArenaPlan" "INPUTS" "[I", Cond.methodLink RX6 95 yX6_isWithin, Cond.static yX6_isWithin, Cond.code yX6_isWithin cX6_isWithin 2 (some .boolean), Cond.methodLink RX6 77 yX6_forgetPlan, Cond.instanceMethod yX6_forgetPlan, Cond.selects RX6 yX6_forgetPlan yX6_forgetPlan, Cond.code yX6_forgetPlan cX6_forgetPlan 1 none, Cond.fieldLink RX6 156 "ArenaPlan" "planned" "Z", Cond.methodLink RX6 80 yX1_add, Cond.instanceMethod yX1_add, Cond.selects RX1 yX1_add yX1_add, Cond.initialized RX1, Cond.code yX1_add cX1_add 5 (some .int)]
def wsX6_make_r2 : List Cond := [Cond.fieldLink RX1 33 "ArenaPlan$Graph" "count" "I", Cond.fieldLink RX1 9 "ArenaPlan$Graph" "operation" "[I", Cond.fieldLink RX1 15 "ArenaPlan$Graph" "p" "[I", Cond.fieldLink RX1 18 "ArenaPlan$Graph" "q" "[I", Cond.fieldLink RX1 26 "ArenaPlan$Graph" "source" "[[I", Cond.methodLink RX1 44 yJ7_fill_53178, Cond.static yJ7_fill_53178, Cond.initialized RJ7, Cond.code yJ7_fill_53178 cJ7_fill_53178 4 none]
def wsX6_make : List Cond := .code yX6_make cX6_make 4 (some .int) :: ((wsX6_make_r1 ++ wsX6_make_r2) ++ wsX60 ++ wsX10 ++ (vx_atS RX6 65 "java/lang/IllegalArgumentException" ["java/lang/RuntimeException", "java/lang/Exception"]).filter goodWord ++ (vx_atS RX6 76 "java/lang/UnsupportedOperationException" ["java/lang/RuntimeException", "java/lang/Exception"]).filter goodWord ++ (vx_atM "java/lang/ArrayIndexOutOfBoundsException" ["java/lang/IndexOutOfBoundsException", "java/lang/RuntimeException", "java/lang/Exception"]).filter goodWord)
def wsX6_give : List Cond := .code yX6_give cX6_give 4 (some .boolean) :: ([.fieldLink RX6 10 "ArenaPlan" "graph" "LArenaPlan$Graph;", .fieldLink RX6 88 "ArenaPlan$Graph" "operation" "[I", .fieldLink RX6 92 "ArenaPlan$Graph" "p" "[I", .fieldLink RX6 99 "ArenaPlan$Graph" "given" "[[I", .methodLink RX6 84 yX1_has, .instanceMethod yX1_has, .selects RX1 yX1_has yX1_has, .initialized RX1, .code yX1_has cX1_has 2 (some .boolean), .fieldLink RX1 33 "ArenaPlan$Graph" "count" "I", .static yX6_isWithin, .initialized RX6, .code yX6_isWithin cX6_isWithin 2 (some .boolean), .methodLink RX6 95 yX6_isWithin] ++ wsX60 ++ wsX10 ++ (vx_atM "java/lang/ArrayIndexOutOfBoundsException" ["java/lang/IndexOutOfBoundsException", "java/lang/RuntimeException", "java/lang/Exception"]).filter goodWord)
def wsX6_wire : List Cond := .code yX6_wire cX6_wire 4 (some .boolean) :: ([.fieldLink RX6 10 "ArenaPlan" "graph" "LArenaPlan$Graph;", .fieldLink RX6 107 "ArenaPlan$Graph" "source" "[[I", .methodLink RX6 84 yX1_has, .instanceMethod yX1_has, .selects RX1 yX1_has yX1_has, .initialized RX1, .code yX1_has cX1_has 2 (some .boolean), .fieldLink RX1 33 "ArenaPlan$Graph" "count" "I", .static yX6_isWithin, .initialized RX6, .code yX6_isWithin cX6_isWithin 2 (some .boolean), .methodLink RX6 103 yX1_inputs, .instanceMethod yX1_inputs, .selects RX1 yX1_inputs yX1_inputs, .code yX1_inputs cX1_inputs 2 (some .int), .fieldLink RX1 9 "ArenaPlan$Graph" "operation" "[I", .methodLink RX6 95 yX6_isWithin, .methodLink RX6 77 yX6_forgetPlan, .instanceMethod yX6_forgetPlan, .selects RX6 yX6_forgetPlan yX6_forgetPlan, .code yX6_forgetPlan cX6_forgetPlan 1 none, .fieldLink RX6 156 "ArenaPlan" "planned" "Z"] ++ wsX60 ++ wsX10 ++ (vx_atM "java/lang/ArrayIndexOutOfBoundsException" ["java/lang/IndexOutOfBoundsException", "java/lang/RuntimeException", "java/lang/Exception"]).filter goodWord)
def wsX6_keep : List Cond := .code yX6_keep cX6_keep 3 (some .boolean) :: ([.fieldLink RX6 10 "ArenaPlan" "graph" "LArenaPlan$Graph;", .fieldLink RX6 110 "ArenaPlan$Graph" "kept" "[Z", .methodLink RX6 84 yX1_has, .instanceMethod yX1_has, .selects RX1 yX1_has yX1_has, .initialized RX1, .code yX1_has cX1_has 2 (some .boolean), .fieldLink RX1 33 "ArenaPlan$Graph" "count" "I", .static yX6_isWithin, .initialized RX6, .code yX6_isWithin cX6_isWithin 2 (some .boolean), .methodLink RX6 77 yX6_forgetPlan, .instanceMethod yX6_forgetPlan, .selects RX6 yX6_forgetPlan yX6_forgetPlan, .code yX6_forgetPlan cX6_forgetPlan 1 none, .fieldLink RX6 156 "ArenaPlan" "planned" "Z"] ++ wsX60 ++ wsX10 ++ (vx_atM "java/lang/ArrayIndexOutOfBoundsException" ["java/lang/IndexOutOfBoundsException", "java/lang/RuntimeException", "java/lang/Exception"]).filter goodWord)
def wsX6_nodes : List Cond := .code yX6_nodes cX6_nodes 1 (some .int) :: ([.fieldLink RX6 10 "ArenaPlan" "graph" "LArenaPlan$Graph;", .fieldLink RX6 68 "ArenaPlan$Graph" "count" "I"] ++ wsX60 ++ wsX10)
def wsX6_ring_r1 : List Cond := [Cond.classLink RX6 120 "java/util/NoSuchElementException", Cond.initialized "java/util/NoSuchElementException", Cond.fieldLink RX6 21 "ArenaPlan" "rings" "LArenaPlan$Rings;", Cond.fieldLink RX6 117 "ArenaPlan$Rings" "length" "I", Cond.fieldLink RX6 125 "ArenaPlan$Rings" "member" "[I", Cond.methodLink RX6 114 yX5_find, Cond.instanceMethod yX5_find, Cond.selects RX5 yX5_find yX5_find, Cond.initialized RX5, Cond.code yX5_find cX5_find 2 none, Cond.fieldLink RX5 25 "ArenaPlan$Rings" "length" "I", Cond.fieldLink RX5 21 "ArenaPlan$Rings" "graph" "LArenaPlan$Graph;", Cond.fieldLink RX5 32 "ArenaPlan$Graph" "count" "I", Cond.fieldLink RX5 9 "ArenaPlan$Rings" "reach" "[I", Cond.methodLink RX5 29 yX5_findReach, Cond.instanceMethod yX5_findReach, Cond.selects RX5 yX5_findReach yX5_findReach, Cond.code yX5_findReach cX5_findReach 3 none, Cond.methodLink RX5 48 yX1_dependencies, Cond.instanceMethod yX1_dependencies, Cond.selects RX1 yX1_dependencies yX1_dependencies, Cond.initialized RX1, Cond.code yX1_dependencies cX1_dependencies 2 (some .int), Cond.fieldLink RX1 26 "ArenaPlan$Graph" "source" "[[I"]
def wsX6_ring_r2 : List Cond := [Cond.static yX6_setOf, Cond.initialized RX6, Cond.code yX6_setOf cX6_setOf 1 (some .int), Cond.static yX6_contains, Cond.code yX6_contains cX6_contains 2 (some .boolean), Cond.methodLink RX5 41 yX5_countSteps, Cond.instanceMethod yX5_countSteps, Cond.selects RX5 yX5_countSteps yX5_countSteps, Cond.code yX5_countSteps cX5_countSteps 5 none, Cond.fieldLink RX5 15 "ArenaPlan$Rings" "stepsLeft" "[I", Cond.methodLink RX5 61 Lib.Math.min.name, Cond.static Lib.Math.min.name, Cond.initialized "java/lang/Math", Cond.code Lib.Math.min.name Lib.Math.min.code 2 (some .int), Cond.methodLink RX5 52 yJ7_fill_53178, Cond.static yJ7_fill_53178, Cond.initialized RJ7, Cond.code yJ7_fill_53178 cJ7_fill_53178 4 none, Cond.methodLink RX5 58 yX5_nearest, Cond.instanceMethod yX5_nearest, Cond.selects RX5 yX5_nearest yX5_nearest, Cond.code yX5_nearest cX5_nearest 4 (some .int), Cond.fieldLink RX5 67 "ArenaPlan$Graph" "source" "[[I", Cond.methodLink RX5 45 yX5_follow]
def wsX6_ring_r3 : List Cond := [Cond.instanceMethod yX5_follow, Cond.selects RX5 yX5_follow yX5_follow, Cond.code yX5_follow cX5_follow 3 none, Cond.fieldLink RX5 18 "ArenaPlan$Rings" "member" "[I", Cond.methodLink RX6 95 yX6_isWithin, Cond.static yX6_isWithin, Cond.code yX6_isWithin cX6_isWithin 2 (some .boolean)]
def wsX6_ring : List Cond := .code yX6_ring cX6_ring 2 (some .int) :: ((wsX6_ring_r1 ++ (wsX6_ring_r2 ++ wsX6_ring_r3)) ++ wsX60 ++ wsX50 ++ wsX10 ++ (vx_atSX RX6 124 "java/util/NoSuchElementException" 13 prog_23_method_4_code ["java/lang/RuntimeException", "java/lang/Exception"]).filter goodWord ++ (vx_atM "java/lang/ArrayIndexOutOfBoundsException" ["java/lang/IndexOutOfBoundsException", "java/lang/RuntimeException", "java/lang/Exception"]).filter goodWord)
def wsX6_plan_r1 : List Cond := [Cond.classLink RX6 61 "java/lang/IllegalArgumentException", Cond.initialized "java/lang/IllegalArgumentException", Cond.classLink RX6 120 "java/util/NoSuchElementException", Cond.initialized "java/util/NoSuchElementException", Cond.classLink RX6 136 "java/lang/IllegalStateException", Cond.initialized "java/lang/IllegalStateException", Cond.classLink RX6 144 "java/lang/ArithmeticException", Cond.initialized "java/lang/ArithmeticException", Cond.fieldLink RX6 10 "ArenaPlan" "graph" "LArenaPlan$Graph;", Cond.fieldLink RX6 68 "ArenaPlan$Graph" "count" "I", Cond.fieldLink RX6 21 "ArenaPlan" "rings" "LArenaPlan$Rings;", Cond.fieldLink RX6 117 "ArenaPlan$Rings" "length" "I", Cond.fieldLink RX6 28 "ArenaPlan" "plan" "LArenaPlan$Plan;", Cond.fieldLink RX6 37 "ArenaPlan" "places" "LArenaPlan$Places;", Cond.fieldLink RX6 156 "ArenaPlan" "planned" "Z", Cond.fieldLink RX6 160 "ArenaPlan" "ran" "Z", Cond.fieldLink RX6 163 "ArenaPlan" "leastPeak" "I", Cond.fieldLink RX6 166 "ArenaPlan$Places" "arena" "I", Cond.methodLink RX6 130 yX1_isWired, Cond.instanceMethod yX1_isWired, Cond.selects RX1 yX1_isWired yX1_isWired, Cond.initialized RX1, Cond.code yX1_isWired cX1_isWired 3 (some .boolean), Cond.fieldLink RX1 33 "ArenaPlan$Graph" "count" "I"]
def wsX6_plan_r2 : List Cond := [Cond.fieldLink RX1 26 "ArenaPlan$Graph" "source" "[[I", Cond.methodLink RX1 50 yX1_inputs, Cond.instanceMethod yX1_inputs, Cond.selects RX1 yX1_inputs yX1_inputs, Cond.code yX1_inputs cX1_inputs 2 (some .int), Cond.fieldLink RX1 9 "ArenaPlan$Graph" "operation" "[I", Cond.methodLink RX6 114 yX5_find, Cond.instanceMethod yX5_find, Cond.selects RX5 yX5_find yX5_find, Cond.initialized RX5, Cond.code yX5_find cX5_find 2 none, Cond.fieldLink RX5 25 "ArenaPlan$Rings" "length" "I", Cond.fieldLink RX5 21 "ArenaPlan$Rings" "graph" "LArenaPlan$Graph;", Cond.fieldLink RX5 32 "ArenaPlan$Graph" "count" "I", Cond.fieldLink RX5 9 "ArenaPlan$Rings" "reach" "[I", Cond.methodLink RX5 29 yX5_findReach, Cond.instanceMethod yX5_findReach, Cond.selects RX5 yX5_findReach yX5_findReach, Cond.code yX5_findReach cX5_findReach 3 none, Cond.methodLink RX5 48 yX1_dependencies, Cond.instanceMethod yX1_dependencies, Cond.selects RX1 yX1_dependencies yX1_dependencies, Cond.code yX1_dependencies cX1_dependencies 2 (some .int), Cond.static yX6_setOf]
def wsX6_plan_r3 : List Cond := [Cond.initialized RX6, Cond.code yX6_setOf cX6_setOf 1 (some .int), Cond.static yX6_contains, Cond.code yX6_contains cX6_contains 2 (some .boolean), Cond.methodLink RX5 41 yX5_countSteps, Cond.instanceMethod yX5_countSteps, Cond.selects RX5 yX5_countSteps yX5_countSteps, Cond.code yX5_countSteps cX5_countSteps 5 none, Cond.fieldLink RX5 15 "ArenaPlan$Rings" "stepsLeft" "[I", Cond.methodLink RX5 61 Lib.Math.min.name, Cond.static Lib.Math.min.name, Cond.initialized "java/lang/Math", Cond.code Lib.Math.min.name Lib.Math.min.code 2 (some .int), Cond.methodLink RX5 52 yJ7_fill_53178, Cond.static yJ7_fill_53178, Cond.initialized RJ7, Cond.code yJ7_fill_53178 cJ7_fill_53178 4 none, Cond.methodLink RX5 58 yX5_nearest, Cond.instanceMethod yX5_nearest, Cond.selects RX5 yX5_nearest yX5_nearest, Cond.code yX5_nearest cX5_nearest 4 (some .int), Cond.fieldLink RX5 67 "ArenaPlan$Graph" "source" "[[I", Cond.methodLink RX5 45 yX5_follow, Cond.instanceMethod yX5_follow]
def wsX6_plan_r4 : List Cond := [Cond.selects RX5 yX5_follow yX5_follow, Cond.code yX5_follow cX5_follow 3 none, Cond.fieldLink RX5 18 "ArenaPlan$Rings" "member" "[I", Cond.methodLink RX6 141 yX4_measure, Cond.instanceMethod yX4_measure, Cond.selects RX4 yX4_measure yX4_measure, Cond.initialized RX4, Cond.code yX4_measure cX4_measure 3 (some .boolean), Cond.fieldLink RX4 46 "ArenaPlan$Plan" "length" "I", Cond.fieldLink RX4 24 "ArenaPlan$Plan" "sequence" "[I", Cond.fieldLink RX4 18 "ArenaPlan$Plan" "size" "[I", Cond.fieldLink RX4 21 "ArenaPlan$Plan" "label" "[I", Cond.methodLink RX4 40 yX4_findNeighbours, Cond.instanceMethod yX4_findNeighbours, Cond.selects RX4 yX4_findNeighbours yX4_findNeighbours, Cond.code yX4_findNeighbours cX4_findNeighbours 3 none, Cond.fieldLink RX4 15 "ArenaPlan$Plan" "dependents" "[I", Cond.fieldLink RX4 36 "ArenaPlan$Plan" "graph" "LArenaPlan$Graph;", Cond.fieldLink RX4 64 "ArenaPlan$Graph" "count" "I", Cond.fieldLink RX4 9 "ArenaPlan$Plan" "dependencies" "[I", Cond.methodLink RX4 75 yJ7_fill_53178, Cond.methodLink RX4 81 yX1_dependencies, Cond.methodLink RX4 43 yX4_orderByNumbers, Cond.instanceMethod yX4_orderByNumbers]
def wsX6_plan_r5 : List Cond := [Cond.selects RX4 yX4_orderByNumbers yX4_orderByNumbers, Cond.code yX4_orderByNumbers cX4_orderByNumbers 2 none, Cond.methodLink RX4 121 yX4_beginOrder, Cond.instanceMethod yX4_beginOrder, Cond.selects RX4 yX4_beginOrder yX4_beginOrder, Cond.code yX4_beginOrder cX4_beginOrder 1 none, Cond.fieldLink RX4 27 "ArenaPlan$Plan" "step" "[I", Cond.fieldLink RX4 118 "ArenaPlan$Plan" "inOrder" "I", Cond.methodLink RX4 124 yX4_leastReady, Cond.instanceMethod yX4_leastReady, Cond.selects RX4 yX4_leastReady yX4_leastReady, Cond.code yX4_leastReady cX4_leastReady 2 (some .int), Cond.methodLink RX4 132 yX4_isReady, Cond.instanceMethod yX4_isReady, Cond.selects RX4 yX4_isReady yX4_isReady, Cond.code yX4_isReady cX4_isReady 2 (some .boolean), Cond.methodLink RX4 135 yX4_isMissing, Cond.instanceMethod yX4_isMissing, Cond.selects RX4 yX4_isMissing yX4_isMissing, Cond.code yX4_isMissing cX4_isMissing 2 (some .boolean), Cond.static yX6_isPartOf, Cond.code yX6_isPartOf cX6_isPartOf 2 (some .boolean), Cond.methodLink RX4 128 yX4_append, Cond.instanceMethod yX4_append]
def wsX6_plan_r6 : List Cond := [Cond.selects RX4 yX4_append yX4_append, Cond.code yX4_append cX4_append 2 none, Cond.methodLink RX4 50 yX4_sizesFit, Cond.instanceMethod yX4_sizesFit, Cond.selects RX4 yX4_sizesFit yX4_sizesFit, Cond.code yX4_sizesFit cX4_sizesFit 4 (some .boolean), Cond.fieldLink RX4 98 "ArenaPlan$Graph" "operation" "[I", Cond.fieldLink RX4 101 "ArenaPlan$Graph" "p" "[I", Cond.fieldLink RX4 104 "ArenaPlan$Graph" "q" "[I", Cond.methodLink RX4 94 yX4_sizeOfSource, Cond.instanceMethod yX4_sizeOfSource, Cond.selects RX4 yX4_sizeOfSource yX4_sizeOfSource, Cond.code yX4_sizeOfSource cX4_sizeOfSource 4 (some .int), Cond.fieldLink RX4 90 "ArenaPlan$Graph" "source" "[[I", Cond.methodLink RX4 54 yX4_sizeOf, Cond.instanceMethod yX4_sizeOf, Cond.selects RX4 yX4_sizeOf yX4_sizeOf, Cond.code yX4_sizeOf cX4_sizeOf 3 (some .int), Cond.methodLink RX4 58 yX4_labelOf, Cond.instanceMethod yX4_labelOf, Cond.selects RX4 yX4_labelOf yX4_labelOf, Cond.code yX4_labelOf cX4_labelOf 7 (some .int), Cond.methodLink RX4 110 Lib.Math.max.name, Cond.static Lib.Math.max.name]
def wsX6_plan_r7 : List Cond := [Cond.code Lib.Math.max.name Lib.Math.max.code 2 (some .int), Cond.methodLink RX4 115 Lib.Math.min.name, Cond.methodLink RX4 107 yX1_inputs, Cond.methodLink RX6 149 yX4_arrange, Cond.instanceMethod yX4_arrange, Cond.selects RX4 yX4_arrange yX4_arrange, Cond.code yX4_arrange cX4_arrange 3 none, Cond.fieldLink RX4 30 "ArenaPlan$Plan" "last" "[I", Cond.methodLink RX4 61 yX4_orderByLabels, Cond.instanceMethod yX4_orderByLabels, Cond.selects RX4 yX4_orderByLabels yX4_orderByLabels, Cond.code yX4_orderByLabels cX4_orderByLabels 2 none, Cond.methodLink RX4 141 yX4_visit, Cond.instanceMethod yX4_visit, Cond.selects RX4 yX4_visit yX4_visit, Cond.code yX4_visit cX4_visit 3 none, Cond.methodLink RX4 144 yX4_firstDue, Cond.instanceMethod yX4_firstDue, Cond.selects RX4 yX4_firstDue yX4_firstDue, Cond.code yX4_firstDue cX4_firstDue 5 (some .int), Cond.methodLink RX4 147 yX4_sourceToVisit, Cond.instanceMethod yX4_sourceToVisit, Cond.selects RX4 yX4_sourceToVisit yX4_sourceToVisit, Cond.code yX4_sourceToVisit cX4_sourceToVisit 7 (some .int)]
def wsX6_plan_r8 : List Cond := [Cond.methodLink RX4 69 yX4_lastStepOf, Cond.instanceMethod yX4_lastStepOf, Cond.selects RX4 yX4_lastStepOf yX4_lastStepOf, Cond.code yX4_lastStepOf cX4_lastStepOf 4 (some .int), Cond.fieldLink RX4 150 "ArenaPlan$Graph" "kept" "[Z", Cond.methodLink RX4 72 yX4_addCosts, Cond.instanceMethod yX4_addCosts, Cond.selects RX4 yX4_addCosts yX4_addCosts, Cond.code yX4_addCosts cX4_addCosts 3 none, Cond.fieldLink RX4 154 "ArenaPlan$Plan" "greatestCost" "I", Cond.fieldLink RX4 33 "ArenaPlan$Plan" "costOf" "[I", Cond.methodLink RX6 153 yX3_assign, Cond.instanceMethod yX3_assign, Cond.selects RX3 yX3_assign yX3_assign, Cond.initialized RX3, Cond.code yX3_assign cX3_assign 3 none, Cond.fieldLink RX3 25 "ArenaPlan$Places" "arena" "I", Cond.fieldLink RX3 18 "ArenaPlan$Places" "plan" "LArenaPlan$Plan;", Cond.fieldLink RX3 29 "ArenaPlan$Plan" "length" "I", Cond.fieldLink RX3 9 "ArenaPlan$Places" "bySize" "[I", Cond.fieldLink RX3 15 "ArenaPlan$Places" "start" "[I", Cond.methodLink RX3 41 Lib.Math.max.name, Cond.methodLink RX3 22 yX3_sortBySize, Cond.instanceMethod yX3_sortBySize]
def wsX6_plan_r9 : List Cond := [Cond.selects RX3 yX3_sortBySize yX3_sortBySize, Cond.code yX3_sortBySize cX3_sortBySize 4 none, Cond.fieldLink RX3 47 "ArenaPlan$Plan" "sequence" "[I", Cond.fieldLink RX3 50 "ArenaPlan$Plan" "size" "[I", Cond.methodLink RX3 34 yX3_lowestStart, Cond.instanceMethod yX3_lowestStart, Cond.selects RX3 yX3_lowestStart yX3_lowestStart, Cond.code yX3_lowestStart cX3_lowestStart 6 (some .int), Cond.methodLink RX3 53 yX3_isInTheWay, Cond.instanceMethod yX3_isInTheWay, Cond.selects RX3 yX3_isInTheWay yX3_isInTheWay, Cond.code yX3_isInTheWay cX3_isInTheWay 4 (some .boolean), Cond.methodLink RX3 57 yX4_liveTogether, Cond.instanceMethod yX4_liveTogether, Cond.selects RX4 yX4_liveTogether yX4_liveTogether, Cond.code yX4_liveTogether cX4_liveTogether 3 (some .boolean), Cond.methodLink RX3 38 yX3_end, Cond.instanceMethod yX3_end, Cond.selects RX3 yX3_end yX3_end, Cond.code yX3_end cX3_end 2 (some .int)]
def wsX6_plan : List Cond := .code yX6_plan cX6_plan 2 (some .int) :: ((wsX6_plan_r1 ++ (wsX6_plan_r2 ++ (wsX6_plan_r3 ++ (wsX6_plan_r4 ++ (wsX6_plan_r5 ++ (wsX6_plan_r6 ++ (wsX6_plan_r7 ++ (wsX6_plan_r8 ++ wsX6_plan_r9)))))))) ++ wsX60 ++ wsX10 ++ wsX50 ++ wsX30 ++ wsX40 ++ (vx_atS RX6 65 "java/lang/IllegalArgumentException" ["java/lang/RuntimeException", "java/lang/Exception"]).filter goodWord ++ (vx_atSX RX6 124 "java/util/NoSuchElementException" 13 prog_23_method_4_code ["java/lang/RuntimeException", "java/lang/Exception"]).filter goodWord ++ (vx_atS RX6 140 "java/lang/IllegalStateException" ["java/lang/RuntimeException", "java/lang/Exception"]).filter goodWord ++ (vx_atS RX6 148 "java/lang/ArithmeticException" ["java/lang/RuntimeException", "java/lang/Exception"]).filter goodWord ++ (vx_atM "java/lang/ArrayIndexOutOfBoundsException" ["java/lang/IndexOutOfBoundsException", "java/lang/RuntimeException", "java/lang/Exception"]).filter goodWord)
def wsX6_needPlan : List Cond := .code yX6_needPlan cX6_needPlan 1 none :: ([.classLink RX6 136 "java/lang/IllegalStateException", .initialized "java/lang/IllegalStateException", .fieldLink RX6 156 "ArenaPlan" "planned" "Z"] ++ wsX60 ++ (vx_atS RX6 140 "java/lang/IllegalStateException" ["java/lang/RuntimeException", "java/lang/Exception"]).filter goodWord)
def wsX6_needWithin : List Cond := .code yX6_needWithin cX6_needWithin 2 none :: ([.classLink RX6 218 "java/lang/IndexOutOfBoundsException", .initialized "java/lang/IndexOutOfBoundsException", .methodLink RX6 95 yX6_isWithin, .static yX6_isWithin, .initialized RX6, .code yX6_isWithin cX6_isWithin 2 (some .boolean)] ++ (vx_atS RX6 222 "java/lang/IndexOutOfBoundsException" ["java/lang/RuntimeException", "java/lang/Exception"]).filter goodWord)
def wsX6_order : List Cond := .code yX6_order cX6_order 2 (some .int) :: ([.fieldLink RX6 10 "ArenaPlan" "graph" "LArenaPlan$Graph;", .fieldLink RX6 68 "ArenaPlan$Graph" "count" "I", .fieldLink RX6 28 "ArenaPlan" "plan" "LArenaPlan$Plan;", .fieldLink RX6 176 "ArenaPlan$Plan" "sequence" "[I", .methodLink RX6 169 yX6_needPlan, .instanceMethod yX6_needPlan, .selects RX6 yX6_needPlan yX6_needPlan, .initialized RX6, .code yX6_needPlan cX6_needPlan 1 none, .classLink RX6 136 "java/lang/IllegalStateException", .initialized "java/lang/IllegalStateException", .fieldLink RX6 156 "ArenaPlan" "planned" "Z", .methodLink RX6 172 yX6_needWithin, .static yX6_needWithin, .code yX6_needWithin cX6_needWithin 2 none, .classLink RX6 218 "java/lang/IndexOutOfBoundsException", .initialized "java/lang/IndexOutOfBoundsException", .methodLink RX6 95 yX6_isWithin, .static yX6_isWithin, .code yX6_isWithin cX6_isWithin 2 (some .boolean)] ++ wsX60 ++ wsX10 ++ wsX40 ++ (vx_atM "java/lang/ArrayIndexOutOfBoundsException" ["java/lang/IndexOutOfBoundsException", "java/lang/RuntimeException", "java/lang/Exception"]).filter goodWord ++ (vx_atS RX6 140 "java/lang/IllegalStateException" ["java/lang/RuntimeException", "java/lang/Exception"]).filter goodWord ++ (vx_atS RX6 222 "java/lang/IndexOutOfBoundsException" ["java/lang/RuntimeException", "java/lang/Exception"]).filter goodWord)
def wsX6_about_r1 : List Cond := [Cond.fieldLink RX6 10 "ArenaPlan" "graph" "LArenaPlan$Graph;", Cond.fieldLink RX6 68 "ArenaPlan$Graph" "count" "I", Cond.fieldLink RX6 28 "ArenaPlan" "plan" "LArenaPlan$Plan;", Cond.fieldLink RX6 179 "ArenaPlan$Plan" "size" "[I", Cond.fieldLink RX6 182 "ArenaPlan$Plan" "step" "[I", Cond.fieldLink RX6 185 "ArenaPlan$Plan" "last" "[I", Cond.fieldLink RX6 37 "ArenaPlan" "places" "LArenaPlan$Places;", Cond.fieldLink RX6 188 "ArenaPlan$Places" "start" "[I", Cond.fieldLink RX6 191 "ArenaPlan$Plan" "label" "[I", Cond.methodLink RX6 169 yX6_needPlan, Cond.instanceMethod yX6_needPlan, Cond.selects RX6 yX6_needPlan yX6_needPlan, Cond.initialized RX6, Cond.code yX6_needPlan cX6_needPlan 1 none, Cond.classLink RX6 136 "java/lang/IllegalStateException", Cond.initialized "java/lang/IllegalStateException", Cond.fieldLink RX6 156 "ArenaPlan" "planned" "Z", Cond.methodLink RX6 172 yX6_needWithin, Cond.static yX6_needWithin, Cond.code yX6_needWithin cX6_needWithin 2 none, Cond.classLink RX6 218 "java/lang/IndexOutOfBoundsException", Cond.initialized "java/lang/IndexOutOfBoundsException", Cond.methodLink RX6 95 yX6_isWithin, Cond.static yX6_isWithin]
def wsX6_about_r2 : List Cond := [Cond.code yX6_isWithin cX6_isWithin 2 (some .boolean)]
def wsX6_about : List Cond := .code yX6_about cX6_about 3 (some .int) :: ((wsX6_about_r1 ++ wsX6_about_r2) ++ wsX60 ++ wsX10 ++ wsX40 ++ wsX30 ++ (vx_atM "java/lang/ArrayIndexOutOfBoundsException" ["java/lang/IndexOutOfBoundsException", "java/lang/RuntimeException", "java/lang/Exception"]).filter goodWord ++ (vx_atS RX6 140 "java/lang/IllegalStateException" ["java/lang/RuntimeException", "java/lang/Exception"]).filter goodWord ++ (vx_atS RX6 222 "java/lang/IndexOutOfBoundsException" ["java/lang/RuntimeException", "java/lang/Exception"]).filter goodWord)
def wsX6_cost : List Cond := .code yX6_cost cX6_cost 2 (some .int) :: ([.fieldLink RX6 10 "ArenaPlan" "graph" "LArenaPlan$Graph;", .fieldLink RX6 68 "ArenaPlan$Graph" "count" "I", .fieldLink RX6 28 "ArenaPlan" "plan" "LArenaPlan$Plan;", .fieldLink RX6 194 "ArenaPlan$Plan" "costOf" "[I", .methodLink RX6 169 yX6_needPlan, .instanceMethod yX6_needPlan, .selects RX6 yX6_needPlan yX6_needPlan, .initialized RX6, .code yX6_needPlan cX6_needPlan 1 none, .classLink RX6 136 "java/lang/IllegalStateException", .initialized "java/lang/IllegalStateException", .fieldLink RX6 156 "ArenaPlan" "planned" "Z", .methodLink RX6 172 yX6_needWithin, .static yX6_needWithin, .code yX6_needWithin cX6_needWithin 2 none, .classLink RX6 218 "java/lang/IndexOutOfBoundsException", .initialized "java/lang/IndexOutOfBoundsException", .methodLink RX6 95 yX6_isWithin, .static yX6_isWithin, .code yX6_isWithin cX6_isWithin 2 (some .boolean)] ++ wsX60 ++ wsX10 ++ wsX40 ++ (vx_atM "java/lang/ArrayIndexOutOfBoundsException" ["java/lang/IndexOutOfBoundsException", "java/lang/RuntimeException", "java/lang/Exception"]).filter goodWord ++ (vx_atS RX6 140 "java/lang/IllegalStateException" ["java/lang/RuntimeException", "java/lang/Exception"]).filter goodWord ++ (vx_atS RX6 222 "java/lang/IndexOutOfBoundsException" ["java/lang/RuntimeException", "java/lang/Exception"]).filter goodWord)
def wsX6_peak : List Cond := .code yX6_peak cX6_peak 1 (some .int) :: ([.fieldLink RX6 28 "ArenaPlan" "plan" "LArenaPlan$Plan;", .fieldLink RX6 197 "ArenaPlan$Plan" "greatestCost" "I", .methodLink RX6 169 yX6_needPlan, .instanceMethod yX6_needPlan, .selects RX6 yX6_needPlan yX6_needPlan, .initialized RX6, .code yX6_needPlan cX6_needPlan 1 none, .classLink RX6 136 "java/lang/IllegalStateException", .initialized "java/lang/IllegalStateException", .fieldLink RX6 156 "ArenaPlan" "planned" "Z"] ++ wsX60 ++ wsX40 ++ (vx_atS RX6 140 "java/lang/IllegalStateException" ["java/lang/RuntimeException", "java/lang/Exception"]).filter goodWord)
def wsX6_least_r1 : List Cond := [Cond.fieldLink RX6 163 "ArenaPlan" "leastPeak" "I", Cond.fieldLink RX6 53 "ArenaPlan" "search" "LArenaPlan$LeastPeak;", Cond.methodLink RX6 169 yX6_needPlan, Cond.instanceMethod yX6_needPlan, Cond.selects RX6 yX6_needPlan yX6_needPlan, Cond.initialized RX6, Cond.code yX6_needPlan cX6_needPlan 1 none, Cond.classLink RX6 136 "java/lang/IllegalStateException", Cond.initialized "java/lang/IllegalStateException", Cond.fieldLink RX6 156 "ArenaPlan" "planned" "Z", Cond.methodLink RX6 200 yX2_find, Cond.instanceMethod yX2_find, Cond.selects RX2 yX2_find yX2_find, Cond.initialized RX2, Cond.code yX2_find cX2_find 3 (some .int), Cond.fieldLink RX2 15 "ArenaPlan$LeastPeak" "plan" "LArenaPlan$Plan;", Cond.fieldLink RX2 19 "ArenaPlan$Plan" "length" "I", Cond.fieldLink RX2 9 "ArenaPlan$LeastPeak" "peakOf" "[I", Cond.fieldLink RX2 25 "ArenaPlan$Plan" "greatestCost" "I", Cond.methodLink RX2 28 yJ7_fill_53178, Cond.static yJ7_fill_53178, Cond.initialized RJ7, Cond.code yJ7_fill_53178 cJ7_fill_53178 4 none, Cond.methodLink RX2 34 yX2_goOn]
def wsX6_least_r2 : List Cond := [Cond.instanceMethod yX2_goOn, Cond.selects RX2 yX2_goOn yX2_goOn, Cond.code yX2_goOn cX2_goOn 6 none, Cond.fieldLink RX2 46 "ArenaPlan$Plan" "dependencies" "[I", Cond.fieldLink RX2 55 "ArenaPlan$Plan" "size" "[I", Cond.methodLink RX2 58 Lib.Math.max.name, Cond.static Lib.Math.max.name, Cond.initialized "java/lang/Math", Cond.code Lib.Math.max.name Lib.Math.max.code 2 (some .int), Cond.methodLink RX2 64 Lib.Math.min.name, Cond.static Lib.Math.min.name, Cond.code Lib.Math.min.name Lib.Math.min.code 2 (some .int), Cond.methodLink RX2 38 yX2_heldAfter, Cond.instanceMethod yX2_heldAfter, Cond.selects RX2 yX2_heldAfter yX2_heldAfter, Cond.code yX2_heldAfter cX2_heldAfter 5 (some .int), Cond.fieldLink RX2 67 "ArenaPlan$Plan" "graph" "LArenaPlan$Graph;", Cond.fieldLink RX2 71 "ArenaPlan$Graph" "kept" "[Z", Cond.fieldLink RX2 77 "ArenaPlan$Plan" "dependents" "[I", Cond.static yX6_isPartOf, Cond.code yX6_isPartOf cX6_isPartOf 2 (some .boolean), Cond.static yX6_contains, Cond.code yX6_contains cX6_contains 2 (some .boolean), Cond.static yX6_setOf]
def wsX6_least_r3 : List Cond := [Cond.code yX6_setOf cX6_setOf 1 (some .int)]
def wsX6_least : List Cond := .code yX6_least cX6_least 1 (some .int) :: ((wsX6_least_r1 ++ (wsX6_least_r2 ++ wsX6_least_r3)) ++ wsX60 ++ wsX20 ++ wsX40 ++ wsX10 ++ (vx_atS RX6 140 "java/lang/IllegalStateException" ["java/lang/RuntimeException", "java/lang/Exception"]).filter goodWord ++ (vx_atM "java/lang/ArrayIndexOutOfBoundsException" ["java/lang/IndexOutOfBoundsException", "java/lang/RuntimeException", "java/lang/Exception"]).filter goodWord)
def wsX6_run_r1 : List Cond := [Cond.fieldLink RX6 160 "ArenaPlan" "ran" "Z", Cond.fieldLink RX6 46 "ArenaPlan" "cells" "LArenaPlan$Cells;", Cond.methodLink RX6 169 yX6_needPlan, Cond.instanceMethod yX6_needPlan, Cond.selects RX6 yX6_needPlan yX6_needPlan, Cond.initialized RX6, Cond.code yX6_needPlan cX6_needPlan 1 none, Cond.classLink RX6 136 "java/lang/IllegalStateException", Cond.initialized "java/lang/IllegalStateException", Cond.fieldLink RX6 156 "ArenaPlan" "planned" "Z", Cond.methodLink RX6 203 yX0_work, Cond.instanceMethod yX0_work, Cond.selects RX0 yX0_work yX0_work, Cond.initialized RX0, Cond.code yX0_work cX0_work 5 (some .int), Cond.fieldLink RX0 9 "ArenaPlan$Cells" "value" "[I", Cond.fieldLink RX0 25 "ArenaPlan$Cells" "plan" "LArenaPlan$Plan;", Cond.fieldLink RX0 39 "ArenaPlan$Plan" "length" "I", Cond.fieldLink RX0 43 "ArenaPlan$Plan" "sequence" "[I", Cond.fieldLink RX0 46 "ArenaPlan$Plan" "size" "[I", Cond.fieldLink RX0 15 "ArenaPlan$Cells" "places" "LArenaPlan$Places;", Cond.fieldLink RX0 49 "ArenaPlan$Places" "start" "[I", Cond.methodLink RX0 33 yJ7_fill_53178, Cond.static yJ7_fill_53178]
def wsX6_run_r2 : List Cond := [Cond.initialized RJ7, Cond.code yJ7_fill_53178 cJ7_fill_53178 4 none, Cond.methodLink RX0 52 yX0_workOut, Cond.instanceMethod yX0_workOut, Cond.selects RX0 yX0_workOut yX0_workOut, Cond.code yX0_workOut cX0_workOut 6 (some .int), Cond.fieldLink RX0 32 "ArenaPlan$Cells" "graph" "LArenaPlan$Graph;", Cond.fieldLink RX0 56 "ArenaPlan$Graph" "source" "[[I", Cond.fieldLink RX0 62 "ArenaPlan$Graph" "operation" "[I", Cond.fieldLink RX0 65 "ArenaPlan$Graph" "given" "[[I", Cond.fieldLink RX0 71 "ArenaPlan$Graph" "p" "[I", Cond.methodLink RX0 68 yX0_valueOf, Cond.instanceMethod yX0_valueOf, Cond.selects RX0 yX0_valueOf yX0_valueOf, Cond.code yX0_valueOf cX0_valueOf 3 (some .int), Cond.methodLink RX0 74 yX0_totalOf, Cond.instanceMethod yX0_totalOf, Cond.selects RX0 yX0_totalOf yX0_totalOf, Cond.code yX0_totalOf cX0_totalOf 4 (some .int)]
def wsX6_run : List Cond := .code yX6_run cX6_run 1 (some .int) :: ((wsX6_run_r1 ++ wsX6_run_r2) ++ wsX60 ++ wsX00 ++ wsX40 ++ wsX30 ++ wsX10 ++ (vx_atS RX6 140 "java/lang/IllegalStateException" ["java/lang/RuntimeException", "java/lang/Exception"]).filter goodWord ++ (vx_atM "java/lang/ArrayIndexOutOfBoundsException" ["java/lang/IndexOutOfBoundsException", "java/lang/RuntimeException", "java/lang/Exception"]).filter goodWord)
def wsX6_needRun : List Cond := .code yX6_needRun cX6_needRun 1 none :: ([.classLink RX6 136 "java/lang/IllegalStateException", .initialized "java/lang/IllegalStateException", .fieldLink RX6 160 "ArenaPlan" "ran" "Z", .methodLink RX6 169 yX6_needPlan, .instanceMethod yX6_needPlan, .selects RX6 yX6_needPlan yX6_needPlan, .initialized RX6, .code yX6_needPlan cX6_needPlan 1 none, .fieldLink RX6 156 "ArenaPlan" "planned" "Z"] ++ wsX60 ++ (vx_atS RX6 140 "java/lang/IllegalStateException" ["java/lang/RuntimeException", "java/lang/Exception"]).filter goodWord)
def wsX6_cell_r1 : List Cond := [Cond.fieldLink RX6 37 "ArenaPlan" "places" "LArenaPlan$Places;", Cond.fieldLink RX6 166 "ArenaPlan$Places" "arena" "I", Cond.fieldLink RX6 46 "ArenaPlan" "cells" "LArenaPlan$Cells;", Cond.fieldLink RX6 209 "ArenaPlan$Cells" "value" "[I", Cond.methodLink RX6 206 yX6_needRun, Cond.instanceMethod yX6_needRun, Cond.selects RX6 yX6_needRun yX6_needRun, Cond.initialized RX6, Cond.code yX6_needRun cX6_needRun 1 none, Cond.classLink RX6 136 "java/lang/IllegalStateException", Cond.initialized "java/lang/IllegalStateException", Cond.fieldLink RX6 160 "ArenaPlan" "ran" "Z", Cond.methodLink RX6 169 yX6_needPlan, Cond.instanceMethod yX6_needPlan, Cond.selects RX6 yX6_needPlan yX6_needPlan, Cond.code yX6_needPlan cX6_needPlan 1 none, Cond.fieldLink RX6 156 "ArenaPlan" "planned" "Z", Cond.methodLink RX6 172 yX6_needWithin, Cond.static yX6_needWithin, Cond.code yX6_needWithin cX6_needWithin 2 none, Cond.classLink RX6 218 "java/lang/IndexOutOfBoundsException", Cond.initialized "java/lang/IndexOutOfBoundsException", Cond.methodLink RX6 95 yX6_isWithin, Cond.static yX6_isWithin]
def wsX6_cell_r2 : List Cond := [Cond.code yX6_isWithin cX6_isWithin 2 (some .boolean)]
def wsX6_cell : List Cond := .code yX6_cell cX6_cell 2 (some .int) :: ((wsX6_cell_r1 ++ wsX6_cell_r2) ++ wsX60 ++ wsX30 ++ wsX00 ++ (vx_atM "java/lang/ArrayIndexOutOfBoundsException" ["java/lang/IndexOutOfBoundsException", "java/lang/RuntimeException", "java/lang/Exception"]).filter goodWord ++ (vx_atS RX6 140 "java/lang/IllegalStateException" ["java/lang/RuntimeException", "java/lang/Exception"]).filter goodWord ++ (vx_atS RX6 222 "java/lang/IndexOutOfBoundsException" ["java/lang/RuntimeException", "java/lang/Exception"]).filter goodWord)
def wsX6_result_r1 : List Cond := [Cond.classLink RX6 120 "java/util/NoSuchElementException", Cond.initialized "java/util/NoSuchElementException", Cond.fieldLink RX6 10 "ArenaPlan" "graph" "LArenaPlan$Graph;", Cond.fieldLink RX6 110 "ArenaPlan$Graph" "kept" "[Z", Cond.fieldLink RX6 28 "ArenaPlan" "plan" "LArenaPlan$Plan;", Cond.fieldLink RX6 179 "ArenaPlan$Plan" "size" "[I", Cond.fieldLink RX6 46 "ArenaPlan" "cells" "LArenaPlan$Cells;", Cond.fieldLink RX6 209 "ArenaPlan$Cells" "value" "[I", Cond.fieldLink RX6 37 "ArenaPlan" "places" "LArenaPlan$Places;", Cond.fieldLink RX6 188 "ArenaPlan$Places" "start" "[I", Cond.methodLink RX6 206 yX6_needRun, Cond.instanceMethod yX6_needRun, Cond.selects RX6 yX6_needRun yX6_needRun, Cond.initialized RX6, Cond.code yX6_needRun cX6_needRun 1 none, Cond.classLink RX6 136 "java/lang/IllegalStateException", Cond.initialized "java/lang/IllegalStateException", Cond.fieldLink RX6 160 "ArenaPlan" "ran" "Z", Cond.methodLink RX6 169 yX6_needPlan, Cond.instanceMethod yX6_needPlan, Cond.selects RX6 yX6_needPlan yX6_needPlan, Cond.code yX6_needPlan cX6_needPlan 1 none, Cond.fieldLink RX6 156 "ArenaPlan" "planned" "Z", Cond.methodLink RX6 84 yX1_has]
def wsX6_result_r2 : List Cond := [Cond.instanceMethod yX1_has, Cond.selects RX1 yX1_has yX1_has, Cond.initialized RX1, Cond.code yX1_has cX1_has 2 (some .boolean), Cond.fieldLink RX1 33 "ArenaPlan$Graph" "count" "I", Cond.static yX6_isWithin, Cond.code yX6_isWithin cX6_isWithin 2 (some .boolean), Cond.methodLink RX6 172 yX6_needWithin, Cond.static yX6_needWithin, Cond.code yX6_needWithin cX6_needWithin 2 none, Cond.classLink RX6 218 "java/lang/IndexOutOfBoundsException", Cond.initialized "java/lang/IndexOutOfBoundsException", Cond.methodLink RX6 95 yX6_isWithin]
def wsX6_result : List Cond := .code yX6_result cX6_result 3 (some .int) :: ((wsX6_result_r1 ++ wsX6_result_r2) ++ wsX60 ++ wsX10 ++ wsX40 ++ wsX00 ++ wsX30 ++ (vx_atM "java/lang/ArrayIndexOutOfBoundsException" ["java/lang/IndexOutOfBoundsException", "java/lang/RuntimeException", "java/lang/Exception"]).filter goodWord ++ (vx_atSX RX6 124 "java/util/NoSuchElementException" 13 prog_23_method_4_code ["java/lang/RuntimeException", "java/lang/Exception"]).filter goodWord ++ (vx_atS RX6 140 "java/lang/IllegalStateException" ["java/lang/RuntimeException", "java/lang/Exception"]).filter goodWord ++ (vx_atS RX6 222 "java/lang/IndexOutOfBoundsException" ["java/lang/RuntimeException", "java/lang/Exception"]).filter goodWord)
def wsX7_init_r1 : List Cond := [Cond.methodLink RX7 1 objectInit, Cond.instanceMethod objectInit, Cond.code objectInit ⟨#[0xb1]⟩ 1 none, Cond.arrayClass .int, Cond.fieldLink RX7 7 "ArenaPlanModel" "operation" "[I", Cond.fieldLink RX7 13 "ArenaPlanModel" "first" "[I", Cond.fieldLink RX7 16 "ArenaPlanModel" "second" "[I", Cond.fieldLink RX7 19 "ArenaPlanModel" "source" "[I", Cond.arrayClass .boolean, Cond.fieldLink RX7 22 "ArenaPlanModel" "kept" "[Z", Cond.fieldLink RX7 26 "ArenaPlanModel" "given" "[I", Cond.fieldLink RX7 29 "ArenaPlanModel" "distance" "[I", Cond.fieldLink RX7 32 "ArenaPlanModel" "ring" "[I", Cond.fieldLink RX7 35 "ArenaPlanModel" "size" "[I", Cond.fieldLink RX7 38 "ArenaPlanModel" "label" "[I", Cond.fieldLink RX7 41 "ArenaPlanModel" "order" "[I", Cond.fieldLink RX7 44 "ArenaPlanModel" "step" "[I", Cond.fieldLink RX7 47 "ArenaPlanModel" "until" "[I", Cond.fieldLink RX7 50 "ArenaPlanModel" "place" "[I", Cond.fieldLink RX7 53 "ArenaPlanModel" "newSize" "[I", Cond.fieldLink RX7 56 "ArenaPlanModel" "sized" "[Z", Cond.fieldLink RX7 59 "ArenaPlanModel" "stack" "[I", Cond.fieldLink RX7 62 "ArenaPlanModel" "best" "[I", Cond.fieldLink RX7 65 "ArenaPlanModel" "cells" "[I"]
def wsX7_init_r2 : List Cond := [Cond.fieldLink RX7 68 "ArenaPlanModel" "value" "[I"]
def wsX7_init : List Cond := .code yX7_init cX7_init 1 none :: ((wsX7_init_r1 ++ wsX7_init_r2) ++ wsX70)
def wsX7_thrown : List Cond := .code yX7_thrown cX7_thrown 1 (some .int) :: ([.fieldLink RX7 71 "ArenaPlanModel" "thrown" "I"] ++ wsX70)
def wsX7_fail : List Cond := .code yX7_fail cX7_fail 2 (some .int) :: ([.fieldLink RX7 71 "ArenaPlanModel" "thrown" "I"] ++ wsX70)
def wsX7_inputs : List Cond := .code yX7_inputs cX7_inputs 1 (some .int) :: ([])
def wsX7_isNode : List Cond := .code yX7_isNode cX7_isNode 2 (some .boolean) :: ([.fieldLink RX7 75 "ArenaPlanModel" "count" "I"] ++ wsX70)
def wsX7_within : List Cond := .code yX7_within cX7_within 3 (some .boolean) :: ([])
def wsX7_make : List Cond := .code yX7_make cX7_make 6 (some .int) :: ([.fieldLink RX7 71 "ArenaPlanModel" "thrown" "I", .fieldLink RX7 75 "ArenaPlanModel" "count" "I", .fieldLink RX7 7 "ArenaPlanModel" "operation" "[I", .fieldLink RX7 13 "ArenaPlanModel" "first" "[I", .fieldLink RX7 16 "ArenaPlanModel" "second" "[I", .fieldLink RX7 19 "ArenaPlanModel" "source" "[I", .fieldLink RX7 22 "ArenaPlanModel" "kept" "[Z", .fieldLink RX7 26 "ArenaPlanModel" "given" "[I", .fieldLink RX7 86 "ArenaPlanModel" "planned" "Z", .methodLink RX7 78 yX7_within, .static yX7_within, .initialized RX7, .code yX7_within cX7_within 3 (some .boolean), .methodLink RX7 82 yX7_fail, .instanceMethod yX7_fail, .selects RX7 yX7_fail yX7_fail, .code yX7_fail cX7_fail 2 (some .int)] ++ wsX70 ++ (vx_atM "java/lang/ArrayIndexOutOfBoundsException" ["java/lang/IndexOutOfBoundsException", "java/lang/RuntimeException", "java/lang/Exception"]).filter goodWord)
def wsX7_give : List Cond := .code yX7_give cX7_give 4 (some .boolean) :: ([.fieldLink RX7 71 "ArenaPlanModel" "thrown" "I", .fieldLink RX7 7 "ArenaPlanModel" "operation" "[I", .fieldLink RX7 13 "ArenaPlanModel" "first" "[I", .fieldLink RX7 26 "ArenaPlanModel" "given" "[I", .methodLink RX7 90 yX7_isNode, .instanceMethod yX7_isNode, .selects RX7 yX7_isNode yX7_isNode, .initialized RX7, .code yX7_isNode cX7_isNode 2 (some .boolean), .fieldLink RX7 75 "ArenaPlanModel" "count" "I"] ++ wsX70 ++ (vx_atM "java/lang/ArrayIndexOutOfBoundsException" ["java/lang/IndexOutOfBoundsException", "java/lang/RuntimeException", "java/lang/Exception"]).filter goodWord)
def wsX7_wire : List Cond := .code yX7_wire cX7_wire 4 (some .boolean) :: ([.fieldLink RX7 71 "ArenaPlanModel" "thrown" "I", .fieldLink RX7 7 "ArenaPlanModel" "operation" "[I", .fieldLink RX7 75 "ArenaPlanModel" "count" "I", .fieldLink RX7 19 "ArenaPlanModel" "source" "[I", .fieldLink RX7 86 "ArenaPlanModel" "planned" "Z", .methodLink RX7 90 yX7_isNode, .instanceMethod yX7_isNode, .selects RX7 yX7_isNode yX7_isNode, .initialized RX7, .code yX7_isNode cX7_isNode 2 (some .boolean), .methodLink RX7 94 yX7_inputs, .static yX7_inputs, .code yX7_inputs cX7_inputs 1 (some .int)] ++ wsX70 ++ (vx_atM "java/lang/ArrayIndexOutOfBoundsException" ["java/lang/IndexOutOfBoundsException", "java/lang/RuntimeException", "java/lang/Exception"]).filter goodWord)
def wsX7_keep : List Cond := .code yX7_keep cX7_keep 3 (some .boolean) :: ([.fieldLink RX7 71 "ArenaPlanModel" "thrown" "I", .fieldLink RX7 22 "ArenaPlanModel" "kept" "[Z", .fieldLink RX7 86 "ArenaPlanModel" "planned" "Z", .methodLink RX7 90 yX7_isNode, .instanceMethod yX7_isNode, .selects RX7 yX7_isNode yX7_isNode, .initialized RX7, .code yX7_isNode cX7_isNode 2 (some .boolean), .fieldLink RX7 75 "ArenaPlanModel" "count" "I"] ++ wsX70 ++ (vx_atM "java/lang/ArrayIndexOutOfBoundsException" ["java/lang/IndexOutOfBoundsException", "java/lang/RuntimeException", "java/lang/Exception"]).filter goodWord)
def wsX7_nodes : List Cond := .code yX7_nodes cX7_nodes 1 (some .int) :: ([.fieldLink RX7 71 "ArenaPlanModel" "thrown" "I", .fieldLink RX7 75 "ArenaPlanModel" "count" "I"] ++ wsX70)
def wsX7_far : List Cond := .code yX7_far cX7_far 2 (some .int) :: ([.fieldLink RX7 29 "ArenaPlanModel" "distance" "[I"] ++ wsX70 ++ (vx_atM "java/lang/ArrayIndexOutOfBoundsException" ["java/lang/IndexOutOfBoundsException", "java/lang/RuntimeException", "java/lang/Exception"]).filter goodWord)
def wsX7_measure : List Cond := .code yX7_measure cX7_measure 5 none :: ([.fieldLink RX7 75 "ArenaPlanModel" "count" "I", .fieldLink RX7 29 "ArenaPlanModel" "distance" "[I", .fieldLink RX7 19 "ArenaPlanModel" "source" "[I", .methodLink RX7 97 yX7_far, .instanceMethod yX7_far, .selects RX7 yX7_far yX7_far, .initialized RX7, .code yX7_far cX7_far 2 (some .int)] ++ wsX70 ++ (vx_atM "java/lang/ArrayIndexOutOfBoundsException" ["java/lang/IndexOutOfBoundsException", "java/lang/RuntimeException", "java/lang/Exception"]).filter goodWord)
def wsX7_nearest : List Cond := .code yX7_nearest cX7_nearest 5 (some .int) :: ([.fieldLink RX7 19 "ArenaPlanModel" "source" "[I", .methodLink RX7 97 yX7_far, .instanceMethod yX7_far, .selects RX7 yX7_far yX7_far, .initialized RX7, .code yX7_far cX7_far 2 (some .int), .fieldLink RX7 29 "ArenaPlanModel" "distance" "[I"] ++ wsX70 ++ (vx_atM "java/lang/ArrayIndexOutOfBoundsException" ["java/lang/IndexOutOfBoundsException", "java/lang/RuntimeException", "java/lang/Exception"]).filter goodWord)
def wsX7_findRing : List Cond := .code yX7_findRing cX7_findRing 3 none :: ([.fieldLink RX7 100 "ArenaPlanModel" "ringSize" "I", .fieldLink RX7 75 "ArenaPlanModel" "count" "I", .fieldLink RX7 32 "ArenaPlanModel" "ring" "[I", .methodLink RX7 103 yX7_measure, .instanceMethod yX7_measure, .selects RX7 yX7_measure yX7_measure, .initialized RX7, .code yX7_measure cX7_measure 5 none, .fieldLink RX7 29 "ArenaPlanModel" "distance" "[I", .fieldLink RX7 19 "ArenaPlanModel" "source" "[I", .methodLink RX7 97 yX7_far, .instanceMethod yX7_far, .selects RX7 yX7_far yX7_far, .code yX7_far cX7_far 2 (some .int), .methodLink RX7 107 yX7_nearest, .instanceMethod yX7_nearest, .selects RX7 yX7_nearest yX7_nearest, .code yX7_nearest cX7_nearest 5 (some .int)] ++ wsX70 ++ (vx_atM "java/lang/ArrayIndexOutOfBoundsException" ["java/lang/IndexOutOfBoundsException", "java/lang/RuntimeException", "java/lang/Exception"]).filter goodWord)
def wsX7_ring_r1 : List Cond := [Cond.fieldLink RX7 71 "ArenaPlanModel" "thrown" "I", Cond.fieldLink RX7 100 "ArenaPlanModel" "ringSize" "I", Cond.fieldLink RX7 32 "ArenaPlanModel" "ring" "[I", Cond.methodLink RX7 110 yX7_findRing, Cond.instanceMethod yX7_findRing, Cond.selects RX7 yX7_findRing yX7_findRing, Cond.initialized RX7, Cond.code yX7_findRing cX7_findRing 3 none, Cond.fieldLink RX7 75 "ArenaPlanModel" "count" "I", Cond.methodLink RX7 103 yX7_measure, Cond.instanceMethod yX7_measure, Cond.selects RX7 yX7_measure yX7_measure, Cond.code yX7_measure cX7_measure 5 none, Cond.fieldLink RX7 29 "ArenaPlanModel" "distance" "[I", Cond.fieldLink RX7 19 "ArenaPlanModel" "source" "[I", Cond.methodLink RX7 97 yX7_far, Cond.instanceMethod yX7_far, Cond.selects RX7 yX7_far yX7_far, Cond.code yX7_far cX7_far 2 (some .int), Cond.methodLink RX7 107 yX7_nearest, Cond.instanceMethod yX7_nearest, Cond.selects RX7 yX7_nearest yX7_nearest, Cond.code yX7_nearest cX7_nearest 5 (some .int), Cond.methodLink RX7 82 yX7_fail]
def wsX7_ring_r2 : List Cond := [Cond.instanceMethod yX7_fail, Cond.selects RX7 yX7_fail yX7_fail, Cond.code yX7_fail cX7_fail 2 (some .int)]
def wsX7_ring : List Cond := .code yX7_ring cX7_ring 2 (some .int) :: ((wsX7_ring_r1 ++ wsX7_ring_r2) ++ wsX70 ++ (vx_atM "java/lang/ArrayIndexOutOfBoundsException" ["java/lang/IndexOutOfBoundsException", "java/lang/RuntimeException", "java/lang/Exception"]).filter goodWord)
def wsX7_isWired : List Cond := .code yX7_isWired cX7_isWired 4 (some .boolean) :: ([.fieldLink RX7 75 "ArenaPlanModel" "count" "I", .fieldLink RX7 7 "ArenaPlanModel" "operation" "[I", .fieldLink RX7 19 "ArenaPlanModel" "source" "[I", .methodLink RX7 94 yX7_inputs, .static yX7_inputs, .initialized RX7, .code yX7_inputs cX7_inputs 1 (some .int)] ++ wsX70 ++ (vx_atM "java/lang/ArrayIndexOutOfBoundsException" ["java/lang/IndexOutOfBoundsException", "java/lang/RuntimeException", "java/lang/Exception"]).filter goodWord)
def wsX7_sizeOf : List Cond := .code yX7_sizeOf cX7_sizeOf 5 (some .int) :: ([.fieldLink RX7 7 "ArenaPlanModel" "operation" "[I", .fieldLink RX7 53 "ArenaPlanModel" "newSize" "[I", .fieldLink RX7 19 "ArenaPlanModel" "source" "[I", .fieldLink RX7 13 "ArenaPlanModel" "first" "[I", .fieldLink RX7 16 "ArenaPlanModel" "second" "[I", .methodLink RX7 94 yX7_inputs, .static yX7_inputs, .initialized RX7, .code yX7_inputs cX7_inputs 1 (some .int)] ++ wsX70 ++ (vx_atM "java/lang/ArrayIndexOutOfBoundsException" ["java/lang/IndexOutOfBoundsException", "java/lang/RuntimeException", "java/lang/Exception"]).filter goodWord)
def wsX7_isReady : List Cond := .code yX7_isReady cX7_isReady 4 (some .boolean) :: ([.fieldLink RX7 7 "ArenaPlanModel" "operation" "[I", .fieldLink RX7 56 "ArenaPlanModel" "sized" "[Z", .fieldLink RX7 19 "ArenaPlanModel" "source" "[I", .methodLink RX7 94 yX7_inputs, .static yX7_inputs, .initialized RX7, .code yX7_inputs cX7_inputs 1 (some .int)] ++ wsX70 ++ (vx_atM "java/lang/ArrayIndexOutOfBoundsException" ["java/lang/IndexOutOfBoundsException", "java/lang/RuntimeException", "java/lang/Exception"]).filter goodWord)
def wsX7_labelOf : List Cond := .code yX7_labelOf cX7_labelOf 8 none :: ([.fieldLink RX7 7 "ArenaPlanModel" "operation" "[I", .fieldLink RX7 38 "ArenaPlanModel" "label" "[I", .fieldLink RX7 19 "ArenaPlanModel" "source" "[I", .methodLink RX7 94 yX7_inputs, .static yX7_inputs, .initialized RX7, .code yX7_inputs cX7_inputs 1 (some .int)] ++ wsX70 ++ (vx_atM "java/lang/ArrayIndexOutOfBoundsException" ["java/lang/IndexOutOfBoundsException", "java/lang/RuntimeException", "java/lang/Exception"]).filter goodWord)
def wsX7_findSizes : List Cond := .code yX7_findSizes cX7_findSizes 3 (some .boolean) :: ([.fieldLink RX7 75 "ArenaPlanModel" "count" "I", .fieldLink RX7 56 "ArenaPlanModel" "sized" "[Z", .fieldLink RX7 53 "ArenaPlanModel" "newSize" "[I", .methodLink RX7 113 yX7_isReady, .instanceMethod yX7_isReady, .selects RX7 yX7_isReady yX7_isReady, .initialized RX7, .code yX7_isReady cX7_isReady 4 (some .boolean), .fieldLink RX7 7 "ArenaPlanModel" "operation" "[I", .fieldLink RX7 19 "ArenaPlanModel" "source" "[I", .methodLink RX7 94 yX7_inputs, .static yX7_inputs, .code yX7_inputs cX7_inputs 1 (some .int), .methodLink RX7 116 yX7_sizeOf, .instanceMethod yX7_sizeOf, .selects RX7 yX7_sizeOf yX7_sizeOf, .code yX7_sizeOf cX7_sizeOf 5 (some .int), .fieldLink RX7 13 "ArenaPlanModel" "first" "[I", .fieldLink RX7 16 "ArenaPlanModel" "second" "[I"] ++ wsX70 ++ (vx_atM "java/lang/ArrayIndexOutOfBoundsException" ["java/lang/IndexOutOfBoundsException", "java/lang/RuntimeException", "java/lang/Exception"]).filter goodWord)
def wsX7_come : List Cond := .code yX7_come cX7_come 2 none :: ([.fieldLink RX7 44 "ArenaPlanModel" "step" "[I", .fieldLink RX7 119 "ArenaPlanModel" "placed" "I", .fieldLink RX7 41 "ArenaPlanModel" "order" "[I"] ++ wsX70 ++ (vx_atM "java/lang/ArrayIndexOutOfBoundsException" ["java/lang/IndexOutOfBoundsException", "java/lang/RuntimeException", "java/lang/Exception"]).filter goodWord)
def wsX7_isThere : List Cond := .code yX7_isThere cX7_isThere 2 (some .boolean) :: ([.fieldLink RX7 44 "ArenaPlanModel" "step" "[I"] ++ wsX70 ++ (vx_atM "java/lang/ArrayIndexOutOfBoundsException" ["java/lang/IndexOutOfBoundsException", "java/lang/RuntimeException", "java/lang/Exception"]).filter goodWord)
def wsX7_isFree : List Cond := .code yX7_isFree cX7_isFree 4 (some .boolean) :: ([.fieldLink RX7 7 "ArenaPlanModel" "operation" "[I", .fieldLink RX7 19 "ArenaPlanModel" "source" "[I", .methodLink RX7 94 yX7_inputs, .static yX7_inputs, .initialized RX7, .code yX7_inputs cX7_inputs 1 (some .int), .methodLink RX7 122 yX7_isThere, .instanceMethod yX7_isThere, .selects RX7 yX7_isThere yX7_isThere, .code yX7_isThere cX7_isThere 2 (some .boolean), .fieldLink RX7 44 "ArenaPlanModel" "step" "[I"] ++ wsX70 ++ (vx_atM "java/lang/ArrayIndexOutOfBoundsException" ["java/lang/IndexOutOfBoundsException", "java/lang/RuntimeException", "java/lang/Exception"]).filter goodWord)
def wsX7_orderByNumbers : List Cond := .code yX7_orderByNumbers cX7_orderByNumbers 2 none :: ([.fieldLink RX7 119 "ArenaPlanModel" "placed" "I", .fieldLink RX7 75 "ArenaPlanModel" "count" "I", .methodLink RX7 122 yX7_isThere, .instanceMethod yX7_isThere, .selects RX7 yX7_isThere yX7_isThere, .initialized RX7, .code yX7_isThere cX7_isThere 2 (some .boolean), .fieldLink RX7 44 "ArenaPlanModel" "step" "[I", .methodLink RX7 125 yX7_isFree, .instanceMethod yX7_isFree, .selects RX7 yX7_isFree yX7_isFree, .code yX7_isFree cX7_isFree 4 (some .boolean), .fieldLink RX7 7 "ArenaPlanModel" "operation" "[I", .fieldLink RX7 19 "ArenaPlanModel" "source" "[I", .methodLink RX7 94 yX7_inputs, .static yX7_inputs, .code yX7_inputs cX7_inputs 1 (some .int), .methodLink RX7 128 yX7_come, .instanceMethod yX7_come, .selects RX7 yX7_come yX7_come, .code yX7_come cX7_come 2 none, .fieldLink RX7 41 "ArenaPlanModel" "order" "[I"] ++ wsX70 ++ (vx_atM "java/lang/ArrayIndexOutOfBoundsException" ["java/lang/IndexOutOfBoundsException", "java/lang/RuntimeException", "java/lang/Exception"]).filter goodWord)
def wsX7_isUsed : List Cond := .code yX7_isUsed cX7_isUsed 4 (some .boolean) :: ([.fieldLink RX7 75 "ArenaPlanModel" "count" "I", .fieldLink RX7 19 "ArenaPlanModel" "source" "[I"] ++ wsX70 ++ (vx_atM "java/lang/ArrayIndexOutOfBoundsException" ["java/lang/IndexOutOfBoundsException", "java/lang/RuntimeException", "java/lang/Exception"]).filter goodWord)
def wsX7_due : List Cond := .code yX7_due cX7_due 7 (some .int) :: ([.fieldLink RX7 19 "ArenaPlanModel" "source" "[I", .fieldLink RX7 7 "ArenaPlanModel" "operation" "[I", .fieldLink RX7 38 "ArenaPlanModel" "label" "[I", .methodLink RX7 94 yX7_inputs, .static yX7_inputs, .initialized RX7, .code yX7_inputs cX7_inputs 1 (some .int), .methodLink RX7 122 yX7_isThere, .instanceMethod yX7_isThere, .selects RX7 yX7_isThere yX7_isThere, .code yX7_isThere cX7_isThere 2 (some .boolean), .fieldLink RX7 44 "ArenaPlanModel" "step" "[I"] ++ wsX70 ++ (vx_atM "java/lang/ArrayIndexOutOfBoundsException" ["java/lang/IndexOutOfBoundsException", "java/lang/RuntimeException", "java/lang/Exception"]).filter goodWord)
def wsX7_visit_r1 : List Cond := [Cond.fieldLink RX7 59 "ArenaPlanModel" "stack" "[I", Cond.fieldLink RX7 131 "ArenaPlanModel" "top" "I", Cond.methodLink RX7 122 yX7_isThere, Cond.instanceMethod yX7_isThere, Cond.selects RX7 yX7_isThere yX7_isThere, Cond.initialized RX7, Cond.code yX7_isThere cX7_isThere 2 (some .boolean), Cond.fieldLink RX7 44 "ArenaPlanModel" "step" "[I", Cond.methodLink RX7 125 yX7_isFree, Cond.instanceMethod yX7_isFree, Cond.selects RX7 yX7_isFree yX7_isFree, Cond.code yX7_isFree cX7_isFree 4 (some .boolean), Cond.fieldLink RX7 7 "ArenaPlanModel" "operation" "[I", Cond.fieldLink RX7 19 "ArenaPlanModel" "source" "[I", Cond.methodLink RX7 94 yX7_inputs, Cond.static yX7_inputs, Cond.code yX7_inputs cX7_inputs 1 (some .int), Cond.methodLink RX7 128 yX7_come, Cond.instanceMethod yX7_come, Cond.selects RX7 yX7_come yX7_come, Cond.code yX7_come cX7_come 2 none, Cond.fieldLink RX7 119 "ArenaPlanModel" "placed" "I", Cond.fieldLink RX7 41 "ArenaPlanModel" "order" "[I", Cond.methodLink RX7 134 yX7_due]
def wsX7_visit_r2 : List Cond := [Cond.instanceMethod yX7_due, Cond.selects RX7 yX7_due yX7_due, Cond.code yX7_due cX7_due 7 (some .int), Cond.fieldLink RX7 38 "ArenaPlanModel" "label" "[I"]
def wsX7_visit : List Cond := .code yX7_visit cX7_visit 3 none :: ((wsX7_visit_r1 ++ wsX7_visit_r2) ++ wsX70 ++ (vx_atM "java/lang/ArrayIndexOutOfBoundsException" ["java/lang/IndexOutOfBoundsException", "java/lang/RuntimeException", "java/lang/Exception"]).filter goodWord)
def wsX7_orderByLabels_r1 : List Cond := [Cond.fieldLink RX7 75 "ArenaPlanModel" "count" "I", Cond.methodLink RX7 137 yX7_isUsed, Cond.instanceMethod yX7_isUsed, Cond.selects RX7 yX7_isUsed yX7_isUsed, Cond.initialized RX7, Cond.code yX7_isUsed cX7_isUsed 4 (some .boolean), Cond.fieldLink RX7 19 "ArenaPlanModel" "source" "[I", Cond.methodLink RX7 140 yX7_visit, Cond.instanceMethod yX7_visit, Cond.selects RX7 yX7_visit yX7_visit, Cond.code yX7_visit cX7_visit 3 none, Cond.fieldLink RX7 59 "ArenaPlanModel" "stack" "[I", Cond.fieldLink RX7 131 "ArenaPlanModel" "top" "I", Cond.methodLink RX7 122 yX7_isThere, Cond.instanceMethod yX7_isThere, Cond.selects RX7 yX7_isThere yX7_isThere, Cond.code yX7_isThere cX7_isThere 2 (some .boolean), Cond.fieldLink RX7 44 "ArenaPlanModel" "step" "[I", Cond.methodLink RX7 125 yX7_isFree, Cond.instanceMethod yX7_isFree, Cond.selects RX7 yX7_isFree yX7_isFree, Cond.code yX7_isFree cX7_isFree 4 (some .boolean), Cond.fieldLink RX7 7 "ArenaPlanModel" "operation" "[I", Cond.methodLink RX7 94 yX7_inputs]
def wsX7_orderByLabels_r2 : List Cond := [Cond.static yX7_inputs, Cond.code yX7_inputs cX7_inputs 1 (some .int), Cond.methodLink RX7 128 yX7_come, Cond.instanceMethod yX7_come, Cond.selects RX7 yX7_come yX7_come, Cond.code yX7_come cX7_come 2 none, Cond.fieldLink RX7 119 "ArenaPlanModel" "placed" "I", Cond.fieldLink RX7 41 "ArenaPlanModel" "order" "[I", Cond.methodLink RX7 134 yX7_due, Cond.instanceMethod yX7_due, Cond.selects RX7 yX7_due yX7_due, Cond.code yX7_due cX7_due 7 (some .int), Cond.fieldLink RX7 38 "ArenaPlanModel" "label" "[I"]
def wsX7_orderByLabels : List Cond := .code yX7_orderByLabels cX7_orderByLabels 2 none :: ((wsX7_orderByLabels_r1 ++ wsX7_orderByLabels_r2) ++ wsX70 ++ (vx_atM "java/lang/ArrayIndexOutOfBoundsException" ["java/lang/IndexOutOfBoundsException", "java/lang/RuntimeException", "java/lang/Exception"]).filter goodWord)
def wsX7_findLives : List Cond := .code yX7_findLives cX7_findLives 3 none :: ([.fieldLink RX7 75 "ArenaPlanModel" "count" "I", .fieldLink RX7 47 "ArenaPlanModel" "until" "[I", .fieldLink RX7 22 "ArenaPlanModel" "kept" "[Z", .fieldLink RX7 44 "ArenaPlanModel" "step" "[I", .fieldLink RX7 19 "ArenaPlanModel" "source" "[I"] ++ wsX70 ++ (vx_atM "java/lang/ArrayIndexOutOfBoundsException" ["java/lang/IndexOutOfBoundsException", "java/lang/RuntimeException", "java/lang/Exception"]).filter goodWord)
def wsX7_fits : List Cond := .code yX7_fits cX7_fits 6 (some .boolean) :: ([.fieldLink RX7 75 "ArenaPlanModel" "count" "I", .fieldLink RX7 50 "ArenaPlanModel" "place" "[I", .fieldLink RX7 44 "ArenaPlanModel" "step" "[I", .fieldLink RX7 47 "ArenaPlanModel" "until" "[I", .fieldLink RX7 35 "ArenaPlanModel" "size" "[I"] ++ wsX70 ++ (vx_atM "java/lang/ArrayIndexOutOfBoundsException" ["java/lang/IndexOutOfBoundsException", "java/lang/RuntimeException", "java/lang/Exception"]).filter goodWord)
def wsX7_findPlaces : List Cond := .code yX7_findPlaces cX7_findPlaces 5 none :: ([.fieldLink RX7 143 "ArenaPlanModel" "arena" "I", .fieldLink RX7 75 "ArenaPlanModel" "count" "I", .fieldLink RX7 50 "ArenaPlanModel" "place" "[I", .fieldLink RX7 41 "ArenaPlanModel" "order" "[I", .fieldLink RX7 35 "ArenaPlanModel" "size" "[I", .methodLink RX7 146 yX7_fits, .instanceMethod yX7_fits, .selects RX7 yX7_fits yX7_fits, .initialized RX7, .code yX7_fits cX7_fits 6 (some .boolean), .fieldLink RX7 44 "ArenaPlanModel" "step" "[I", .fieldLink RX7 47 "ArenaPlanModel" "until" "[I"] ++ wsX70 ++ (vx_atM "java/lang/ArrayIndexOutOfBoundsException" ["java/lang/IndexOutOfBoundsException", "java/lang/RuntimeException", "java/lang/Exception"]).filter goodWord)
def wsX7_plan_r1 : List Cond := [Cond.fieldLink RX7 71 "ArenaPlanModel" "thrown" "I", Cond.fieldLink RX7 100 "ArenaPlanModel" "ringSize" "I", Cond.fieldLink RX7 157 "ArenaPlanModel" "way" "I", Cond.fieldLink RX7 119 "ArenaPlanModel" "placed" "I", Cond.fieldLink RX7 75 "ArenaPlanModel" "count" "I", Cond.fieldLink RX7 35 "ArenaPlanModel" "size" "[I", Cond.fieldLink RX7 53 "ArenaPlanModel" "newSize" "[I", Cond.fieldLink RX7 44 "ArenaPlanModel" "step" "[I", Cond.fieldLink RX7 41 "ArenaPlanModel" "order" "[I", Cond.fieldLink RX7 86 "ArenaPlanModel" "planned" "Z", Cond.fieldLink RX7 175 "ArenaPlanModel" "ran" "Z", Cond.fieldLink RX7 178 "ArenaPlanModel" "least" "I", Cond.fieldLink RX7 143 "ArenaPlanModel" "arena" "I", Cond.methodLink RX7 82 yX7_fail, Cond.instanceMethod yX7_fail, Cond.selects RX7 yX7_fail yX7_fail, Cond.initialized RX7, Cond.code yX7_fail cX7_fail 2 (some .int), Cond.methodLink RX7 150 yX7_isWired, Cond.instanceMethod yX7_isWired, Cond.selects RX7 yX7_isWired yX7_isWired, Cond.code yX7_isWired cX7_isWired 4 (some .boolean), Cond.fieldLink RX7 7 "ArenaPlanModel" "operation" "[I", Cond.fieldLink RX7 19 "ArenaPlanModel" "source" "[I"]
def wsX7_plan_r2 : List Cond := [Cond.methodLink RX7 94 yX7_inputs, Cond.static yX7_inputs, Cond.code yX7_inputs cX7_inputs 1 (some .int), Cond.methodLink RX7 110 yX7_findRing, Cond.instanceMethod yX7_findRing, Cond.selects RX7 yX7_findRing yX7_findRing, Cond.code yX7_findRing cX7_findRing 3 none, Cond.fieldLink RX7 32 "ArenaPlanModel" "ring" "[I", Cond.methodLink RX7 103 yX7_measure, Cond.instanceMethod yX7_measure, Cond.selects RX7 yX7_measure yX7_measure, Cond.code yX7_measure cX7_measure 5 none, Cond.fieldLink RX7 29 "ArenaPlanModel" "distance" "[I", Cond.methodLink RX7 97 yX7_far, Cond.instanceMethod yX7_far, Cond.selects RX7 yX7_far yX7_far, Cond.code yX7_far cX7_far 2 (some .int), Cond.methodLink RX7 107 yX7_nearest, Cond.instanceMethod yX7_nearest, Cond.selects RX7 yX7_nearest yX7_nearest, Cond.code yX7_nearest cX7_nearest 5 (some .int), Cond.methodLink RX7 154 yX7_findSizes, Cond.instanceMethod yX7_findSizes, Cond.selects RX7 yX7_findSizes yX7_findSizes]
def wsX7_plan_r3 : List Cond := [Cond.code yX7_findSizes cX7_findSizes 3 (some .boolean), Cond.fieldLink RX7 56 "ArenaPlanModel" "sized" "[Z", Cond.methodLink RX7 113 yX7_isReady, Cond.instanceMethod yX7_isReady, Cond.selects RX7 yX7_isReady yX7_isReady, Cond.code yX7_isReady cX7_isReady 4 (some .boolean), Cond.methodLink RX7 116 yX7_sizeOf, Cond.instanceMethod yX7_sizeOf, Cond.selects RX7 yX7_sizeOf yX7_sizeOf, Cond.code yX7_sizeOf cX7_sizeOf 5 (some .int), Cond.fieldLink RX7 13 "ArenaPlanModel" "first" "[I", Cond.fieldLink RX7 16 "ArenaPlanModel" "second" "[I", Cond.methodLink RX7 160 yX7_orderByNumbers, Cond.instanceMethod yX7_orderByNumbers, Cond.selects RX7 yX7_orderByNumbers yX7_orderByNumbers, Cond.code yX7_orderByNumbers cX7_orderByNumbers 2 none, Cond.methodLink RX7 122 yX7_isThere, Cond.instanceMethod yX7_isThere, Cond.selects RX7 yX7_isThere yX7_isThere, Cond.code yX7_isThere cX7_isThere 2 (some .boolean), Cond.methodLink RX7 125 yX7_isFree, Cond.instanceMethod yX7_isFree, Cond.selects RX7 yX7_isFree yX7_isFree, Cond.code yX7_isFree cX7_isFree 4 (some .boolean)]
def wsX7_plan_r4 : List Cond := [Cond.methodLink RX7 128 yX7_come, Cond.instanceMethod yX7_come, Cond.selects RX7 yX7_come yX7_come, Cond.code yX7_come cX7_come 2 none, Cond.methodLink RX7 163 yX7_labelOf, Cond.instanceMethod yX7_labelOf, Cond.selects RX7 yX7_labelOf yX7_labelOf, Cond.code yX7_labelOf cX7_labelOf 8 none, Cond.fieldLink RX7 38 "ArenaPlanModel" "label" "[I", Cond.methodLink RX7 166 yX7_orderByLabels, Cond.instanceMethod yX7_orderByLabels, Cond.selects RX7 yX7_orderByLabels yX7_orderByLabels, Cond.code yX7_orderByLabels cX7_orderByLabels 2 none, Cond.methodLink RX7 137 yX7_isUsed, Cond.instanceMethod yX7_isUsed, Cond.selects RX7 yX7_isUsed yX7_isUsed, Cond.code yX7_isUsed cX7_isUsed 4 (some .boolean), Cond.methodLink RX7 140 yX7_visit, Cond.instanceMethod yX7_visit, Cond.selects RX7 yX7_visit yX7_visit, Cond.code yX7_visit cX7_visit 3 none, Cond.fieldLink RX7 59 "ArenaPlanModel" "stack" "[I", Cond.fieldLink RX7 131 "ArenaPlanModel" "top" "I", Cond.methodLink RX7 134 yX7_due]
def wsX7_plan_r5 : List Cond := [Cond.instanceMethod yX7_due, Cond.selects RX7 yX7_due yX7_due, Cond.code yX7_due cX7_due 7 (some .int), Cond.methodLink RX7 169 yX7_findLives, Cond.instanceMethod yX7_findLives, Cond.selects RX7 yX7_findLives yX7_findLives, Cond.code yX7_findLives cX7_findLives 3 none, Cond.fieldLink RX7 47 "ArenaPlanModel" "until" "[I", Cond.fieldLink RX7 22 "ArenaPlanModel" "kept" "[Z", Cond.methodLink RX7 172 yX7_findPlaces, Cond.instanceMethod yX7_findPlaces, Cond.selects RX7 yX7_findPlaces yX7_findPlaces, Cond.code yX7_findPlaces cX7_findPlaces 5 none, Cond.fieldLink RX7 50 "ArenaPlanModel" "place" "[I", Cond.methodLink RX7 146 yX7_fits, Cond.instanceMethod yX7_fits, Cond.selects RX7 yX7_fits yX7_fits, Cond.code yX7_fits cX7_fits 6 (some .boolean)]
def wsX7_plan : List Cond := .code yX7_plan cX7_plan 3 (some .int) :: ((wsX7_plan_r1 ++ (wsX7_plan_r2 ++ (wsX7_plan_r3 ++ (wsX7_plan_r4 ++ wsX7_plan_r5)))) ++ wsX70 ++ (vx_atM "java/lang/ArrayIndexOutOfBoundsException" ["java/lang/IndexOutOfBoundsException", "java/lang/RuntimeException", "java/lang/Exception"]).filter goodWord)
def wsX7_order : List Cond := .code yX7_order cX7_order 2 (some .int) :: ([.fieldLink RX7 86 "ArenaPlanModel" "planned" "Z", .fieldLink RX7 75 "ArenaPlanModel" "count" "I", .fieldLink RX7 71 "ArenaPlanModel" "thrown" "I", .fieldLink RX7 41 "ArenaPlanModel" "order" "[I"] ++ wsX70 ++ (vx_atM "java/lang/ArrayIndexOutOfBoundsException" ["java/lang/IndexOutOfBoundsException", "java/lang/RuntimeException", "java/lang/Exception"]).filter goodWord)
def wsX7_about : List Cond := .code yX7_about cX7_about 3 (some .int) :: ([.fieldLink RX7 86 "ArenaPlanModel" "planned" "Z", .fieldLink RX7 71 "ArenaPlanModel" "thrown" "I", .fieldLink RX7 35 "ArenaPlanModel" "size" "[I", .fieldLink RX7 44 "ArenaPlanModel" "step" "[I", .fieldLink RX7 47 "ArenaPlanModel" "until" "[I", .fieldLink RX7 50 "ArenaPlanModel" "place" "[I", .fieldLink RX7 38 "ArenaPlanModel" "label" "[I", .methodLink RX7 90 yX7_isNode, .instanceMethod yX7_isNode, .selects RX7 yX7_isNode yX7_isNode, .initialized RX7, .code yX7_isNode cX7_isNode 2 (some .boolean), .fieldLink RX7 75 "ArenaPlanModel" "count" "I"] ++ wsX70 ++ (vx_atM "java/lang/ArrayIndexOutOfBoundsException" ["java/lang/IndexOutOfBoundsException", "java/lang/RuntimeException", "java/lang/Exception"]).filter goodWord)
def wsX7_costOf : List Cond := .code yX7_costOf cX7_costOf 4 (some .int) :: ([.fieldLink RX7 75 "ArenaPlanModel" "count" "I", .fieldLink RX7 44 "ArenaPlanModel" "step" "[I", .fieldLink RX7 47 "ArenaPlanModel" "until" "[I", .fieldLink RX7 35 "ArenaPlanModel" "size" "[I"] ++ wsX70 ++ (vx_atM "java/lang/ArrayIndexOutOfBoundsException" ["java/lang/IndexOutOfBoundsException", "java/lang/RuntimeException", "java/lang/Exception"]).filter goodWord)
def wsX7_cost : List Cond := .code yX7_cost cX7_cost 2 (some .int) :: ([.fieldLink RX7 86 "ArenaPlanModel" "planned" "Z", .fieldLink RX7 75 "ArenaPlanModel" "count" "I", .fieldLink RX7 71 "ArenaPlanModel" "thrown" "I", .methodLink RX7 181 yX7_costOf, .instanceMethod yX7_costOf, .selects RX7 yX7_costOf yX7_costOf, .initialized RX7, .code yX7_costOf cX7_costOf 4 (some .int), .fieldLink RX7 44 "ArenaPlanModel" "step" "[I", .fieldLink RX7 47 "ArenaPlanModel" "until" "[I", .fieldLink RX7 35 "ArenaPlanModel" "size" "[I"] ++ wsX70 ++ (vx_atM "java/lang/ArrayIndexOutOfBoundsException" ["java/lang/IndexOutOfBoundsException", "java/lang/RuntimeException", "java/lang/Exception"]).filter goodWord)
def wsX7_peak : List Cond := .code yX7_peak cX7_peak 3 (some .int) :: ([.fieldLink RX7 86 "ArenaPlanModel" "planned" "Z", .fieldLink RX7 71 "ArenaPlanModel" "thrown" "I", .fieldLink RX7 75 "ArenaPlanModel" "count" "I", .methodLink RX7 181 yX7_costOf, .instanceMethod yX7_costOf, .selects RX7 yX7_costOf yX7_costOf, .initialized RX7, .code yX7_costOf cX7_costOf 4 (some .int), .fieldLink RX7 44 "ArenaPlanModel" "step" "[I", .fieldLink RX7 47 "ArenaPlanModel" "until" "[I", .fieldLink RX7 35 "ArenaPlanModel" "size" "[I"] ++ wsX70 ++ (vx_atM "java/lang/ArrayIndexOutOfBoundsException" ["java/lang/IndexOutOfBoundsException", "java/lang/RuntimeException", "java/lang/Exception"]).filter goodWord)
def wsX7_needed : List Cond := .code yX7_needed cX7_needed 4 (some .int) :: ([.fieldLink RX7 7 "ArenaPlanModel" "operation" "[I", .fieldLink RX7 19 "ArenaPlanModel" "source" "[I", .methodLink RX7 94 yX7_inputs, .static yX7_inputs, .initialized RX7, .code yX7_inputs cX7_inputs 1 (some .int)] ++ wsX70 ++ (vx_atM "java/lang/ArrayIndexOutOfBoundsException" ["java/lang/IndexOutOfBoundsException", "java/lang/RuntimeException", "java/lang/Exception"]).filter goodWord)
def wsX7_users : List Cond := .code yX7_users cX7_users 4 (some .int) :: ([.fieldLink RX7 75 "ArenaPlanModel" "count" "I", .fieldLink RX7 19 "ArenaPlanModel" "source" "[I"] ++ wsX70 ++ (vx_atM "java/lang/ArrayIndexOutOfBoundsException" ["java/lang/IndexOutOfBoundsException", "java/lang/RuntimeException", "java/lang/Exception"]).filter goodWord)
def wsX7_stays : List Cond := .code yX7_stays cX7_stays 5 (some .int) :: ([.fieldLink RX7 75 "ArenaPlanModel" "count" "I", .fieldLink RX7 22 "ArenaPlanModel" "kept" "[Z", .fieldLink RX7 35 "ArenaPlanModel" "size" "[I", .methodLink RX7 184 yX7_users, .instanceMethod yX7_users, .selects RX7 yX7_users yX7_users, .initialized RX7, .code yX7_users cX7_users 4 (some .int), .fieldLink RX7 19 "ArenaPlanModel" "source" "[I"] ++ wsX70 ++ (vx_atM "java/lang/ArrayIndexOutOfBoundsException" ["java/lang/IndexOutOfBoundsException", "java/lang/RuntimeException", "java/lang/Exception"]).filter goodWord)
def wsX7_findLeast : List Cond := .code yX7_findLeast cX7_findLeast 8 none :: ([.fieldLink RX7 75 "ArenaPlanModel" "count" "I", .fieldLink RX7 62 "ArenaPlanModel" "best" "[I", .fieldLink RX7 35 "ArenaPlanModel" "size" "[I", .fieldLink RX7 178 "ArenaPlanModel" "least" "I", .methodLink RX7 187 yX7_stays, .instanceMethod yX7_stays, .selects RX7 yX7_stays yX7_stays, .initialized RX7, .code yX7_stays cX7_stays 5 (some .int), .fieldLink RX7 22 "ArenaPlanModel" "kept" "[Z", .methodLink RX7 184 yX7_users, .instanceMethod yX7_users, .selects RX7 yX7_users yX7_users, .code yX7_users cX7_users 4 (some .int), .fieldLink RX7 19 "ArenaPlanModel" "source" "[I", .methodLink RX7 190 yX7_needed, .instanceMethod yX7_needed, .selects RX7 yX7_needed yX7_needed, .code yX7_needed cX7_needed 4 (some .int), .fieldLink RX7 7 "ArenaPlanModel" "operation" "[I", .methodLink RX7 94 yX7_inputs, .static yX7_inputs, .code yX7_inputs cX7_inputs 1 (some .int)] ++ wsX70 ++ (vx_atM "java/lang/ArrayIndexOutOfBoundsException" ["java/lang/IndexOutOfBoundsException", "java/lang/RuntimeException", "java/lang/Exception"]).filter goodWord)
def wsX7_least_r1 : List Cond := [Cond.fieldLink RX7 86 "ArenaPlanModel" "planned" "Z", Cond.fieldLink RX7 71 "ArenaPlanModel" "thrown" "I", Cond.fieldLink RX7 178 "ArenaPlanModel" "least" "I", Cond.methodLink RX7 193 yX7_findLeast, Cond.instanceMethod yX7_findLeast, Cond.selects RX7 yX7_findLeast yX7_findLeast, Cond.initialized RX7, Cond.code yX7_findLeast cX7_findLeast 8 none, Cond.fieldLink RX7 75 "ArenaPlanModel" "count" "I", Cond.fieldLink RX7 62 "ArenaPlanModel" "best" "[I", Cond.fieldLink RX7 35 "ArenaPlanModel" "size" "[I", Cond.methodLink RX7 187 yX7_stays, Cond.instanceMethod yX7_stays, Cond.selects RX7 yX7_stays yX7_stays, Cond.code yX7_stays cX7_stays 5 (some .int), Cond.fieldLink RX7 22 "ArenaPlanModel" "kept" "[Z", Cond.methodLink RX7 184 yX7_users, Cond.instanceMethod yX7_users, Cond.selects RX7 yX7_users yX7_users, Cond.code yX7_users cX7_users 4 (some .int), Cond.fieldLink RX7 19 "ArenaPlanModel" "source" "[I", Cond.methodLink RX7 190 yX7_needed, Cond.instanceMethod yX7_needed, Cond.selects RX7 yX7_needed yX7_needed]
def wsX7_least_r2 : List Cond := [Cond.code yX7_needed cX7_needed 4 (some .int), Cond.fieldLink RX7 7 "ArenaPlanModel" "operation" "[I", Cond.methodLink RX7 94 yX7_inputs, Cond.static yX7_inputs, Cond.code yX7_inputs cX7_inputs 1 (some .int)]
def wsX7_least : List Cond := .code yX7_least cX7_least 1 (some .int) :: ((wsX7_least_r1 ++ wsX7_least_r2) ++ wsX70 ++ (vx_atM "java/lang/ArrayIndexOutOfBoundsException" ["java/lang/IndexOutOfBoundsException", "java/lang/RuntimeException", "java/lang/Exception"]).filter goodWord)
def wsX7_work : List Cond := .code yX7_work cX7_work 9 none :: ([.fieldLink RX7 7 "ArenaPlanModel" "operation" "[I", .fieldLink RX7 19 "ArenaPlanModel" "source" "[I", .fieldLink RX7 35 "ArenaPlanModel" "size" "[I", .fieldLink RX7 68 "ArenaPlanModel" "value" "[I", .fieldLink RX7 26 "ArenaPlanModel" "given" "[I", .fieldLink RX7 13 "ArenaPlanModel" "first" "[I", .methodLink RX7 94 yX7_inputs, .static yX7_inputs, .initialized RX7, .code yX7_inputs cX7_inputs 1 (some .int)] ++ wsX70 ++ (vx_atM "java/lang/ArrayIndexOutOfBoundsException" ["java/lang/IndexOutOfBoundsException", "java/lang/RuntimeException", "java/lang/Exception"]).filter goodWord)
def wsX7_run : List Cond := .code yX7_run cX7_run 5 (some .int) :: ([.fieldLink RX7 86 "ArenaPlanModel" "planned" "Z", .fieldLink RX7 71 "ArenaPlanModel" "thrown" "I", .fieldLink RX7 65 "ArenaPlanModel" "cells" "[I", .fieldLink RX7 75 "ArenaPlanModel" "count" "I", .fieldLink RX7 41 "ArenaPlanModel" "order" "[I", .fieldLink RX7 35 "ArenaPlanModel" "size" "[I", .fieldLink RX7 50 "ArenaPlanModel" "place" "[I", .fieldLink RX7 68 "ArenaPlanModel" "value" "[I", .fieldLink RX7 175 "ArenaPlanModel" "ran" "Z", .methodLink RX7 196 yX7_work, .instanceMethod yX7_work, .selects RX7 yX7_work yX7_work, .initialized RX7, .code yX7_work cX7_work 9 none, .fieldLink RX7 7 "ArenaPlanModel" "operation" "[I", .fieldLink RX7 19 "ArenaPlanModel" "source" "[I", .fieldLink RX7 26 "ArenaPlanModel" "given" "[I", .fieldLink RX7 13 "ArenaPlanModel" "first" "[I", .methodLink RX7 94 yX7_inputs, .static yX7_inputs, .code yX7_inputs cX7_inputs 1 (some .int)] ++ wsX70 ++ (vx_atM "java/lang/ArrayIndexOutOfBoundsException" ["java/lang/IndexOutOfBoundsException", "java/lang/RuntimeException", "java/lang/Exception"]).filter goodWord)
def wsX7_cell : List Cond := .code yX7_cell cX7_cell 2 (some .int) :: ([.fieldLink RX7 86 "ArenaPlanModel" "planned" "Z", .fieldLink RX7 175 "ArenaPlanModel" "ran" "Z", .fieldLink RX7 143 "ArenaPlanModel" "arena" "I", .fieldLink RX7 71 "ArenaPlanModel" "thrown" "I", .fieldLink RX7 65 "ArenaPlanModel" "cells" "[I"] ++ wsX70 ++ (vx_atM "java/lang/ArrayIndexOutOfBoundsException" ["java/lang/IndexOutOfBoundsException", "java/lang/RuntimeException", "java/lang/Exception"]).filter goodWord)
def wsX7_result : List Cond := .code yX7_result cX7_result 3 (some .int) :: ([.fieldLink RX7 86 "ArenaPlanModel" "planned" "Z", .fieldLink RX7 175 "ArenaPlanModel" "ran" "Z", .fieldLink RX7 22 "ArenaPlanModel" "kept" "[Z", .fieldLink RX7 35 "ArenaPlanModel" "size" "[I", .fieldLink RX7 71 "ArenaPlanModel" "thrown" "I", .fieldLink RX7 68 "ArenaPlanModel" "value" "[I", .methodLink RX7 90 yX7_isNode, .instanceMethod yX7_isNode, .selects RX7 yX7_isNode yX7_isNode, .initialized RX7, .code yX7_isNode cX7_isNode 2 (some .boolean), .fieldLink RX7 75 "ArenaPlanModel" "count" "I"] ++ wsX70 ++ (vx_atM "java/lang/ArrayIndexOutOfBoundsException" ["java/lang/IndexOutOfBoundsException", "java/lang/RuntimeException", "java/lang/Exception"]).filter goodWord)
def wsJx00060_init_a7421 : List Cond := .code yJx00060_init_a7421 cJx00060_init_a7421 2 none :: ([])
def wsJ9_max_7cf53 : List Cond := .code yJ9_max_7cf53 cJ9_max_7cf53 2 (some .int) :: ([])
def wsJ9_min_7cf53 : List Cond := .code yJ9_min_7cf53 cJ9_min_7cf53 2 (some .int) :: ([])
def wsL_make_r1 : List Cond := [Cond.classLink RL 13 "java/lang/IllegalArgumentException", Cond.classLink RL 15 "java/lang/UnsupportedOperationException", Cond.methodLink RL 7 yX6_make, Cond.instanceMethod yX6_make, Cond.selects RX6 yX6_make yX6_make, Cond.initialized RX6, Cond.code yX6_make cX6_make 4 (some .int), Cond.classLink RX6 61 "java/lang/IllegalArgumentException", Cond.initialized "java/lang/IllegalArgumentException", Cond.classLink RX6 72 "java/lang/UnsupportedOperationException", Cond.initialized "java/lang/UnsupportedOperationException", Cond.fieldLink RX6 10 "ArenaPlan" "graph" "LArenaPlan$Graph;", Cond.fieldLink RX6 68 "ArenaPlan$Graph" "count" "I", Cond.methodLink RX6 57 yX6_canBeMade, Cond.static yX6_canBeMade, Cond.code yX6_canBeMade cX6_canBeMade 3 (some .boolean), Cond.fieldLink RX6 223 "ArenaPlan" "INPUTS" "[I", Cond.methodLink RX6 95 yX6_isWithin, Cond.static yX6_isWithin, Cond.code yX6_isWithin cX6_isWithin 2 (some .boolean), Cond.methodLink RX6 77 yX6_forgetPlan, Cond.instanceMethod yX6_forgetPlan, Cond.selects RX6 yX6_forgetPlan yX6_forgetPlan, Cond.code yX6_forgetPlan cX6_forgetPlan 1 none]
def wsL_make_r2 : List Cond := [Cond.fieldLink RX6 156 "ArenaPlan" "planned" "Z", Cond.methodLink RX6 80 yX1_add, Cond.instanceMethod yX1_add, Cond.selects RX1 yX1_add yX1_add, Cond.initialized RX1, Cond.code yX1_add cX1_add 5 (some .int), Cond.fieldLink RX1 33 "ArenaPlan$Graph" "count" "I", Cond.fieldLink RX1 9 "ArenaPlan$Graph" "operation" "[I", Cond.fieldLink RX1 15 "ArenaPlan$Graph" "p" "[I", Cond.fieldLink RX1 18 "ArenaPlan$Graph" "q" "[I", Cond.fieldLink RX1 26 "ArenaPlan$Graph" "source" "[[I", Cond.methodLink RX1 44 yJ7_fill_53178, Cond.static yJ7_fill_53178, Cond.initialized RJ7, Cond.code yJ7_fill_53178 cJ7_fill_53178 4 none]
def wsL_make : List Cond := .codeWith yL_make cL_make 6 (some .int) [(0, 12, 15, 13), (0, 12, 19, 15)] :: ((wsL_make_r1 ++ wsL_make_r2) ++ wsX60 ++ wsX10 ++ (vx_atM "java/lang/ArrayIndexOutOfBoundsException" ["java/lang/IndexOutOfBoundsException", "java/lang/RuntimeException", "java/lang/Exception"]).filter goodWord ++ (vx_atS RX6 65 "java/lang/IllegalArgumentException" ["java/lang/RuntimeException", "java/lang/Exception"]).filter goodWord ++ (vx_atS RX6 76 "java/lang/UnsupportedOperationException" ["java/lang/RuntimeException", "java/lang/Exception"]).filter goodWord)
def wsL_ring_r1 : List Cond := [Cond.classLink RL 21 "java/util/NoSuchElementException", Cond.methodLink RL 17 yX6_ring, Cond.instanceMethod yX6_ring, Cond.selects RX6 yX6_ring yX6_ring, Cond.initialized RX6, Cond.code yX6_ring cX6_ring 2 (some .int), Cond.classLink RX6 120 "java/util/NoSuchElementException", Cond.initialized "java/util/NoSuchElementException", Cond.fieldLink RX6 21 "ArenaPlan" "rings" "LArenaPlan$Rings;", Cond.fieldLink RX6 117 "ArenaPlan$Rings" "length" "I", Cond.fieldLink RX6 125 "ArenaPlan$Rings" "member" "[I", Cond.methodLink RX6 114 yX5_find, Cond.instanceMethod yX5_find, Cond.selects RX5 yX5_find yX5_find, Cond.initialized RX5, Cond.code yX5_find cX5_find 2 none, Cond.fieldLink RX5 25 "ArenaPlan$Rings" "length" "I", Cond.fieldLink RX5 21 "ArenaPlan$Rings" "graph" "LArenaPlan$Graph;", Cond.fieldLink RX5 32 "ArenaPlan$Graph" "count" "I", Cond.fieldLink RX5 9 "ArenaPlan$Rings" "reach" "[I", Cond.methodLink RX5 29 yX5_findReach, Cond.instanceMethod yX5_findReach, Cond.selects RX5 yX5_findReach yX5_findReach, Cond.code yX5_findReach cX5_findReach 3 none]
def wsL_ring_r2 : List Cond := [Cond.methodLink RX5 48 yX1_dependencies, Cond.instanceMethod yX1_dependencies, Cond.selects RX1 yX1_dependencies yX1_dependencies, Cond.initialized RX1, Cond.code yX1_dependencies cX1_dependencies 2 (some .int), Cond.fieldLink RX1 26 "ArenaPlan$Graph" "source" "[[I", Cond.static yX6_setOf, Cond.code yX6_setOf cX6_setOf 1 (some .int), Cond.static yX6_contains, Cond.code yX6_contains cX6_contains 2 (some .boolean), Cond.methodLink RX5 41 yX5_countSteps, Cond.instanceMethod yX5_countSteps, Cond.selects RX5 yX5_countSteps yX5_countSteps, Cond.code yX5_countSteps cX5_countSteps 5 none, Cond.fieldLink RX5 15 "ArenaPlan$Rings" "stepsLeft" "[I", Cond.methodLink RX5 61 Lib.Math.min.name, Cond.static Lib.Math.min.name, Cond.initialized "java/lang/Math", Cond.code Lib.Math.min.name Lib.Math.min.code 2 (some .int), Cond.methodLink RX5 52 yJ7_fill_53178, Cond.static yJ7_fill_53178, Cond.initialized RJ7, Cond.code yJ7_fill_53178 cJ7_fill_53178 4 none, Cond.methodLink RX5 58 yX5_nearest]
def wsL_ring_r3 : List Cond := [Cond.instanceMethod yX5_nearest, Cond.selects RX5 yX5_nearest yX5_nearest, Cond.code yX5_nearest cX5_nearest 4 (some .int), Cond.fieldLink RX5 67 "ArenaPlan$Graph" "source" "[[I", Cond.methodLink RX5 45 yX5_follow, Cond.instanceMethod yX5_follow, Cond.selects RX5 yX5_follow yX5_follow, Cond.code yX5_follow cX5_follow 3 none, Cond.fieldLink RX5 18 "ArenaPlan$Rings" "member" "[I", Cond.methodLink RX6 95 yX6_isWithin, Cond.static yX6_isWithin, Cond.code yX6_isWithin cX6_isWithin 2 (some .boolean)]
def wsL_ring : List Cond := .codeWith yL_ring cL_ring 4 (some .int) [(0, 9, 12, 21)] :: ((wsL_ring_r1 ++ (wsL_ring_r2 ++ wsL_ring_r3)) ++ wsX60 ++ wsX50 ++ wsX10 ++ (vx_atM "java/lang/ArrayIndexOutOfBoundsException" ["java/lang/IndexOutOfBoundsException", "java/lang/RuntimeException", "java/lang/Exception"]).filter goodWord ++ (vx_atSX RX6 124 "java/util/NoSuchElementException" 13 prog_23_method_4_code ["java/lang/RuntimeException", "java/lang/Exception"]).filter goodWord)
def wsL_plan_r1 : List Cond := [Cond.classLink RL 13 "java/lang/IllegalArgumentException", Cond.classLink RL 21 "java/util/NoSuchElementException", Cond.classLink RL 26 "java/lang/IllegalStateException", Cond.classLink RL 28 "java/lang/ArithmeticException", Cond.methodLink RL 23 yX6_plan, Cond.instanceMethod yX6_plan, Cond.selects RX6 yX6_plan yX6_plan, Cond.initialized RX6, Cond.code yX6_plan cX6_plan 2 (some .int), Cond.classLink RX6 61 "java/lang/IllegalArgumentException", Cond.initialized "java/lang/IllegalArgumentException", Cond.classLink RX6 120 "java/util/NoSuchElementException", Cond.initialized "java/util/NoSuchElementException", Cond.classLink RX6 136 "java/lang/IllegalStateException", Cond.initialized "java/lang/IllegalStateException", Cond.classLink RX6 144 "java/lang/ArithmeticException", Cond.initialized "java/lang/ArithmeticException", Cond.fieldLink RX6 10 "ArenaPlan" "graph" "LArenaPlan$Graph;", Cond.fieldLink RX6 68 "ArenaPlan$Graph" "count" "I", Cond.fieldLink RX6 21 "ArenaPlan" "rings" "LArenaPlan$Rings;", Cond.fieldLink RX6 117 "ArenaPlan$Rings" "length" "I", Cond.fieldLink RX6 28 "ArenaPlan" "plan" "LArenaPlan$Plan;", Cond.fieldLink RX6 37 "ArenaPlan" "places" "LArenaPlan$Places;", Cond.fieldLink RX6 156 "ArenaPlan" "planned" "Z"]
def wsL_plan_r2 : List Cond := [Cond.fieldLink RX6 160 "ArenaPlan" "ran" "Z", Cond.fieldLink RX6 163 "ArenaPlan" "leastPeak" "I", Cond.fieldLink RX6 166 "ArenaPlan$Places" "arena" "I", Cond.methodLink RX6 130 yX1_isWired, Cond.instanceMethod yX1_isWired, Cond.selects RX1 yX1_isWired yX1_isWired, Cond.initialized RX1, Cond.code yX1_isWired cX1_isWired 3 (some .boolean), Cond.fieldLink RX1 33 "ArenaPlan$Graph" "count" "I", Cond.fieldLink RX1 26 "ArenaPlan$Graph" "source" "[[I", Cond.methodLink RX1 50 yX1_inputs, Cond.instanceMethod yX1_inputs, Cond.selects RX1 yX1_inputs yX1_inputs, Cond.code yX1_inputs cX1_inputs 2 (some .int), Cond.fieldLink RX1 9 "ArenaPlan$Graph" "operation" "[I", Cond.methodLink RX6 114 yX5_find, Cond.instanceMethod yX5_find, Cond.selects RX5 yX5_find yX5_find, Cond.initialized RX5, Cond.code yX5_find cX5_find 2 none, Cond.fieldLink RX5 25 "ArenaPlan$Rings" "length" "I", Cond.fieldLink RX5 21 "ArenaPlan$Rings" "graph" "LArenaPlan$Graph;", Cond.fieldLink RX5 32 "ArenaPlan$Graph" "count" "I", Cond.fieldLink RX5 9 "ArenaPlan$Rings" "reach" "[I"]
def wsL_plan_r3 : List Cond := [Cond.methodLink RX5 29 yX5_findReach, Cond.instanceMethod yX5_findReach, Cond.selects RX5 yX5_findReach yX5_findReach, Cond.code yX5_findReach cX5_findReach 3 none, Cond.methodLink RX5 48 yX1_dependencies, Cond.instanceMethod yX1_dependencies, Cond.selects RX1 yX1_dependencies yX1_dependencies, Cond.code yX1_dependencies cX1_dependencies 2 (some .int), Cond.static yX6_setOf, Cond.code yX6_setOf cX6_setOf 1 (some .int), Cond.static yX6_contains, Cond.code yX6_contains cX6_contains 2 (some .boolean), Cond.methodLink RX5 41 yX5_countSteps, Cond.instanceMethod yX5_countSteps, Cond.selects RX5 yX5_countSteps yX5_countSteps, Cond.code yX5_countSteps cX5_countSteps 5 none, Cond.fieldLink RX5 15 "ArenaPlan$Rings" "stepsLeft" "[I", Cond.methodLink RX5 61 Lib.Math.min.name, Cond.static Lib.Math.min.name, Cond.initialized "java/lang/Math", Cond.code Lib.Math.min.name Lib.Math.min.code 2 (some .int), Cond.methodLink RX5 52 yJ7_fill_53178, Cond.static yJ7_fill_53178, Cond.initialized RJ7]
def wsL_plan_r4 : List Cond := [Cond.code yJ7_fill_53178 cJ7_fill_53178 4 none, Cond.methodLink RX5 58 yX5_nearest, Cond.instanceMethod yX5_nearest, Cond.selects RX5 yX5_nearest yX5_nearest, Cond.code yX5_nearest cX5_nearest 4 (some .int), Cond.fieldLink RX5 67 "ArenaPlan$Graph" "source" "[[I", Cond.methodLink RX5 45 yX5_follow, Cond.instanceMethod yX5_follow, Cond.selects RX5 yX5_follow yX5_follow, Cond.code yX5_follow cX5_follow 3 none, Cond.fieldLink RX5 18 "ArenaPlan$Rings" "member" "[I", Cond.methodLink RX6 141 yX4_measure, Cond.instanceMethod yX4_measure, Cond.selects RX4 yX4_measure yX4_measure, Cond.initialized RX4, Cond.code yX4_measure cX4_measure 3 (some .boolean), Cond.fieldLink RX4 46 "ArenaPlan$Plan" "length" "I", Cond.fieldLink RX4 24 "ArenaPlan$Plan" "sequence" "[I", Cond.fieldLink RX4 18 "ArenaPlan$Plan" "size" "[I", Cond.fieldLink RX4 21 "ArenaPlan$Plan" "label" "[I", Cond.methodLink RX4 40 yX4_findNeighbours, Cond.instanceMethod yX4_findNeighbours, Cond.selects RX4 yX4_findNeighbours yX4_findNeighbours, Cond.code yX4_findNeighbours cX4_findNeighbours 3 none]
def wsL_plan_r5 : List Cond := [Cond.fieldLink RX4 15 "ArenaPlan$Plan" "dependents" "[I", Cond.fieldLink RX4 36 "ArenaPlan$Plan" "graph" "LArenaPlan$Graph;", Cond.fieldLink RX4 64 "ArenaPlan$Graph" "count" "I", Cond.fieldLink RX4 9 "ArenaPlan$Plan" "dependencies" "[I", Cond.methodLink RX4 75 yJ7_fill_53178, Cond.methodLink RX4 81 yX1_dependencies, Cond.methodLink RX4 43 yX4_orderByNumbers, Cond.instanceMethod yX4_orderByNumbers, Cond.selects RX4 yX4_orderByNumbers yX4_orderByNumbers, Cond.code yX4_orderByNumbers cX4_orderByNumbers 2 none, Cond.methodLink RX4 121 yX4_beginOrder, Cond.instanceMethod yX4_beginOrder, Cond.selects RX4 yX4_beginOrder yX4_beginOrder, Cond.code yX4_beginOrder cX4_beginOrder 1 none, Cond.fieldLink RX4 27 "ArenaPlan$Plan" "step" "[I", Cond.fieldLink RX4 118 "ArenaPlan$Plan" "inOrder" "I", Cond.methodLink RX4 124 yX4_leastReady, Cond.instanceMethod yX4_leastReady, Cond.selects RX4 yX4_leastReady yX4_leastReady, Cond.code yX4_leastReady cX4_leastReady 2 (some .int), Cond.methodLink RX4 132 yX4_isReady, Cond.instanceMethod yX4_isReady, Cond.selects RX4 yX4_isReady yX4_isReady, Cond.code yX4_isReady cX4_isReady 2 (some .boolean)]
def wsL_plan_r6 : List Cond := [Cond.methodLink RX4 135 yX4_isMissing, Cond.instanceMethod yX4_isMissing, Cond.selects RX4 yX4_isMissing yX4_isMissing, Cond.code yX4_isMissing cX4_isMissing 2 (some .boolean), Cond.static yX6_isPartOf, Cond.code yX6_isPartOf cX6_isPartOf 2 (some .boolean), Cond.methodLink RX4 128 yX4_append, Cond.instanceMethod yX4_append, Cond.selects RX4 yX4_append yX4_append, Cond.code yX4_append cX4_append 2 none, Cond.methodLink RX4 50 yX4_sizesFit, Cond.instanceMethod yX4_sizesFit, Cond.selects RX4 yX4_sizesFit yX4_sizesFit, Cond.code yX4_sizesFit cX4_sizesFit 4 (some .boolean), Cond.fieldLink RX4 98 "ArenaPlan$Graph" "operation" "[I", Cond.fieldLink RX4 101 "ArenaPlan$Graph" "p" "[I", Cond.fieldLink RX4 104 "ArenaPlan$Graph" "q" "[I", Cond.methodLink RX4 94 yX4_sizeOfSource, Cond.instanceMethod yX4_sizeOfSource, Cond.selects RX4 yX4_sizeOfSource yX4_sizeOfSource, Cond.code yX4_sizeOfSource cX4_sizeOfSource 4 (some .int), Cond.fieldLink RX4 90 "ArenaPlan$Graph" "source" "[[I", Cond.methodLink RX4 54 yX4_sizeOf, Cond.instanceMethod yX4_sizeOf]
def wsL_plan_r7 : List Cond := [Cond.selects RX4 yX4_sizeOf yX4_sizeOf, Cond.code yX4_sizeOf cX4_sizeOf 3 (some .int), Cond.methodLink RX4 58 yX4_labelOf, Cond.instanceMethod yX4_labelOf, Cond.selects RX4 yX4_labelOf yX4_labelOf, Cond.code yX4_labelOf cX4_labelOf 7 (some .int), Cond.methodLink RX4 110 Lib.Math.max.name, Cond.static Lib.Math.max.name, Cond.code Lib.Math.max.name Lib.Math.max.code 2 (some .int), Cond.methodLink RX4 115 Lib.Math.min.name, Cond.methodLink RX4 107 yX1_inputs, Cond.methodLink RX6 149 yX4_arrange, Cond.instanceMethod yX4_arrange, Cond.selects RX4 yX4_arrange yX4_arrange, Cond.code yX4_arrange cX4_arrange 3 none, Cond.fieldLink RX4 30 "ArenaPlan$Plan" "last" "[I", Cond.methodLink RX4 61 yX4_orderByLabels, Cond.instanceMethod yX4_orderByLabels, Cond.selects RX4 yX4_orderByLabels yX4_orderByLabels, Cond.code yX4_orderByLabels cX4_orderByLabels 2 none, Cond.methodLink RX4 141 yX4_visit, Cond.instanceMethod yX4_visit, Cond.selects RX4 yX4_visit yX4_visit, Cond.code yX4_visit cX4_visit 3 none]
def wsL_plan_r8 : List Cond := [Cond.methodLink RX4 144 yX4_firstDue, Cond.instanceMethod yX4_firstDue, Cond.selects RX4 yX4_firstDue yX4_firstDue, Cond.code yX4_firstDue cX4_firstDue 5 (some .int), Cond.methodLink RX4 147 yX4_sourceToVisit, Cond.instanceMethod yX4_sourceToVisit, Cond.selects RX4 yX4_sourceToVisit yX4_sourceToVisit, Cond.code yX4_sourceToVisit cX4_sourceToVisit 7 (some .int), Cond.methodLink RX4 69 yX4_lastStepOf, Cond.instanceMethod yX4_lastStepOf, Cond.selects RX4 yX4_lastStepOf yX4_lastStepOf, Cond.code yX4_lastStepOf cX4_lastStepOf 4 (some .int), Cond.fieldLink RX4 150 "ArenaPlan$Graph" "kept" "[Z", Cond.methodLink RX4 72 yX4_addCosts, Cond.instanceMethod yX4_addCosts, Cond.selects RX4 yX4_addCosts yX4_addCosts, Cond.code yX4_addCosts cX4_addCosts 3 none, Cond.fieldLink RX4 154 "ArenaPlan$Plan" "greatestCost" "I", Cond.fieldLink RX4 33 "ArenaPlan$Plan" "costOf" "[I", Cond.methodLink RX6 153 yX3_assign, Cond.instanceMethod yX3_assign, Cond.selects RX3 yX3_assign yX3_assign, Cond.initialized RX3, Cond.code yX3_assign cX3_assign 3 none]
def wsL_plan_r9 : List Cond := [Cond.fieldLink RX3 25 "ArenaPlan$Places" "arena" "I", Cond.fieldLink RX3 18 "ArenaPlan$Places" "plan" "LArenaPlan$Plan;", Cond.fieldLink RX3 29 "ArenaPlan$Plan" "length" "I", Cond.fieldLink RX3 9 "ArenaPlan$Places" "bySize" "[I", Cond.fieldLink RX3 15 "ArenaPlan$Places" "start" "[I", Cond.methodLink RX3 41 Lib.Math.max.name, Cond.methodLink RX3 22 yX3_sortBySize, Cond.instanceMethod yX3_sortBySize, Cond.selects RX3 yX3_sortBySize yX3_sortBySize, Cond.code yX3_sortBySize cX3_sortBySize 4 none, Cond.fieldLink RX3 47 "ArenaPlan$Plan" "sequence" "[I", Cond.fieldLink RX3 50 "ArenaPlan$Plan" "size" "[I", Cond.methodLink RX3 34 yX3_lowestStart, Cond.instanceMethod yX3_lowestStart, Cond.selects RX3 yX3_lowestStart yX3_lowestStart, Cond.code yX3_lowestStart cX3_lowestStart 6 (some .int), Cond.methodLink RX3 53 yX3_isInTheWay, Cond.instanceMethod yX3_isInTheWay, Cond.selects RX3 yX3_isInTheWay yX3_isInTheWay, Cond.code yX3_isInTheWay cX3_isInTheWay 4 (some .boolean), Cond.methodLink RX3 57 yX4_liveTogether, Cond.instanceMethod yX4_liveTogether, Cond.selects RX4 yX4_liveTogether yX4_liveTogether, Cond.code yX4_liveTogether cX4_liveTogether 3 (some .boolean)]
def wsL_plan_r10 : List Cond := [Cond.methodLink RX3 38 yX3_end, Cond.instanceMethod yX3_end, Cond.selects RX3 yX3_end yX3_end, Cond.code yX3_end cX3_end 2 (some .int)]
def wsL_plan : List Cond := .codeWith yL_plan cL_plan 4 (some .int) [(0, 9, 12, 13), (0, 9, 15, 21), (0, 9, 18, 26), (0, 9, 21, 28)] :: ((wsL_plan_r1 ++ (wsL_plan_r2 ++ (wsL_plan_r3 ++ (wsL_plan_r4 ++ (wsL_plan_r5 ++ (wsL_plan_r6 ++ (wsL_plan_r7 ++ (wsL_plan_r8 ++ (wsL_plan_r9 ++ wsL_plan_r10))))))))) ++ wsX60 ++ wsX10 ++ wsX50 ++ wsX30 ++ wsX40 ++ (vx_atM "java/lang/ArrayIndexOutOfBoundsException" ["java/lang/IndexOutOfBoundsException", "java/lang/RuntimeException", "java/lang/Exception"]).filter goodWord ++ (vx_atS RX6 65 "java/lang/IllegalArgumentException" ["java/lang/RuntimeException", "java/lang/Exception"]).filter goodWord ++ (vx_atSX RX6 124 "java/util/NoSuchElementException" 13 prog_23_method_4_code ["java/lang/RuntimeException", "java/lang/Exception"]).filter goodWord ++ (vx_atS RX6 140 "java/lang/IllegalStateException" ["java/lang/RuntimeException", "java/lang/Exception"]).filter goodWord ++ (vx_atS RX6 148 "java/lang/ArithmeticException" ["java/lang/RuntimeException", "java/lang/Exception"]).filter goodWord)
def wsL_order_r1 : List Cond := [Cond.classLink RL 26 "java/lang/IllegalStateException", Cond.classLink RL 33 "java/lang/IndexOutOfBoundsException", Cond.methodLink RL 30 yX6_order, Cond.instanceMethod yX6_order, Cond.selects RX6 yX6_order yX6_order, Cond.initialized RX6, Cond.code yX6_order cX6_order 2 (some .int), Cond.fieldLink RX6 10 "ArenaPlan" "graph" "LArenaPlan$Graph;", Cond.fieldLink RX6 68 "ArenaPlan$Graph" "count" "I", Cond.fieldLink RX6 28 "ArenaPlan" "plan" "LArenaPlan$Plan;", Cond.fieldLink RX6 176 "ArenaPlan$Plan" "sequence" "[I", Cond.methodLink RX6 169 yX6_needPlan, Cond.instanceMethod yX6_needPlan, Cond.selects RX6 yX6_needPlan yX6_needPlan, Cond.code yX6_needPlan cX6_needPlan 1 none, Cond.classLink RX6 136 "java/lang/IllegalStateException", Cond.initialized "java/lang/IllegalStateException", Cond.fieldLink RX6 156 "ArenaPlan" "planned" "Z", Cond.methodLink RX6 172 yX6_needWithin, Cond.static yX6_needWithin, Cond.code yX6_needWithin cX6_needWithin 2 none, Cond.classLink RX6 218 "java/lang/IndexOutOfBoundsException", Cond.initialized "java/lang/IndexOutOfBoundsException", Cond.methodLink RX6 95 yX6_isWithin]
def wsL_order_r2 : List Cond := [Cond.static yX6_isWithin, Cond.code yX6_isWithin cX6_isWithin 2 (some .boolean)]
def wsL_order : List Cond := .codeWith yL_order cL_order 4 (some .int) [(0, 9, 12, 26), (0, 9, 15, 33)] :: ((wsL_order_r1 ++ wsL_order_r2) ++ wsX60 ++ wsX10 ++ wsX40 ++ (vx_atM "java/lang/ArrayIndexOutOfBoundsException" ["java/lang/IndexOutOfBoundsException", "java/lang/RuntimeException", "java/lang/Exception"]).filter goodWord ++ (vx_atS RX6 140 "java/lang/IllegalStateException" ["java/lang/RuntimeException", "java/lang/Exception"]).filter goodWord ++ (vx_atS RX6 222 "java/lang/IndexOutOfBoundsException" ["java/lang/RuntimeException", "java/lang/Exception"]).filter goodWord)
def wsL_about_r1 : List Cond := [Cond.classLink RL 26 "java/lang/IllegalStateException", Cond.classLink RL 33 "java/lang/IndexOutOfBoundsException", Cond.methodLink RL 35 yX6_about, Cond.instanceMethod yX6_about, Cond.selects RX6 yX6_about yX6_about, Cond.initialized RX6, Cond.code yX6_about cX6_about 3 (some .int), Cond.fieldLink RX6 10 "ArenaPlan" "graph" "LArenaPlan$Graph;", Cond.fieldLink RX6 68 "ArenaPlan$Graph" "count" "I", Cond.fieldLink RX6 28 "ArenaPlan" "plan" "LArenaPlan$Plan;", Cond.fieldLink RX6 179 "ArenaPlan$Plan" "size" "[I", Cond.fieldLink RX6 182 "ArenaPlan$Plan" "step" "[I", Cond.fieldLink RX6 185 "ArenaPlan$Plan" "last" "[I", Cond.fieldLink RX6 37 "ArenaPlan" "places" "LArenaPlan$Places;", Cond.fieldLink RX6 188 "ArenaPlan$Places" "start" "[I", Cond.fieldLink RX6 191 "ArenaPlan$Plan" "label" "[I", Cond.methodLink RX6 169 yX6_needPlan, Cond.instanceMethod yX6_needPlan, Cond.selects RX6 yX6_needPlan yX6_needPlan, Cond.code yX6_needPlan cX6_needPlan 1 none, Cond.classLink RX6 136 "java/lang/IllegalStateException", Cond.initialized "java/lang/IllegalStateException", Cond.fieldLink RX6 156 "ArenaPlan" "planned" "Z", Cond.methodLink RX6 172 yX6_needWithin]
def wsL_about_r2 : List Cond := [Cond.static yX6_needWithin, Cond.code yX6_needWithin cX6_needWithin 2 none, Cond.classLink RX6 218 "java/lang/IndexOutOfBoundsException", Cond.initialized "java/lang/IndexOutOfBoundsException", Cond.methodLink RX6 95 yX6_isWithin, Cond.static yX6_isWithin, Cond.code yX6_isWithin cX6_isWithin 2 (some .boolean)]
def wsL_about : List Cond := .codeWith yL_about cL_about 5 (some .int) [(0, 10, 13, 26), (0, 10, 17, 33)] :: ((wsL_about_r1 ++ wsL_about_r2) ++ wsX60 ++ wsX10 ++ wsX40 ++ wsX30 ++ (vx_atM "java/lang/ArrayIndexOutOfBoundsException" ["java/lang/IndexOutOfBoundsException", "java/lang/RuntimeException", "java/lang/Exception"]).filter goodWord ++ (vx_atS RX6 140 "java/lang/IllegalStateException" ["java/lang/RuntimeException", "java/lang/Exception"]).filter goodWord ++ (vx_atS RX6 222 "java/lang/IndexOutOfBoundsException" ["java/lang/RuntimeException", "java/lang/Exception"]).filter goodWord)
def wsL_cost_r1 : List Cond := [Cond.classLink RL 26 "java/lang/IllegalStateException", Cond.classLink RL 33 "java/lang/IndexOutOfBoundsException", Cond.methodLink RL 39 yX6_cost, Cond.instanceMethod yX6_cost, Cond.selects RX6 yX6_cost yX6_cost, Cond.initialized RX6, Cond.code yX6_cost cX6_cost 2 (some .int), Cond.fieldLink RX6 10 "ArenaPlan" "graph" "LArenaPlan$Graph;", Cond.fieldLink RX6 68 "ArenaPlan$Graph" "count" "I", Cond.fieldLink RX6 28 "ArenaPlan" "plan" "LArenaPlan$Plan;", Cond.fieldLink RX6 194 "ArenaPlan$Plan" "costOf" "[I", Cond.methodLink RX6 169 yX6_needPlan, Cond.instanceMethod yX6_needPlan, Cond.selects RX6 yX6_needPlan yX6_needPlan, Cond.code yX6_needPlan cX6_needPlan 1 none, Cond.classLink RX6 136 "java/lang/IllegalStateException", Cond.initialized "java/lang/IllegalStateException", Cond.fieldLink RX6 156 "ArenaPlan" "planned" "Z", Cond.methodLink RX6 172 yX6_needWithin, Cond.static yX6_needWithin, Cond.code yX6_needWithin cX6_needWithin 2 none, Cond.classLink RX6 218 "java/lang/IndexOutOfBoundsException", Cond.initialized "java/lang/IndexOutOfBoundsException", Cond.methodLink RX6 95 yX6_isWithin]
def wsL_cost_r2 : List Cond := [Cond.static yX6_isWithin, Cond.code yX6_isWithin cX6_isWithin 2 (some .boolean)]
def wsL_cost : List Cond := .codeWith yL_cost cL_cost 4 (some .int) [(0, 9, 12, 26), (0, 9, 15, 33)] :: ((wsL_cost_r1 ++ wsL_cost_r2) ++ wsX60 ++ wsX10 ++ wsX40 ++ (vx_atM "java/lang/ArrayIndexOutOfBoundsException" ["java/lang/IndexOutOfBoundsException", "java/lang/RuntimeException", "java/lang/Exception"]).filter goodWord ++ (vx_atS RX6 140 "java/lang/IllegalStateException" ["java/lang/RuntimeException", "java/lang/Exception"]).filter goodWord ++ (vx_atS RX6 222 "java/lang/IndexOutOfBoundsException" ["java/lang/RuntimeException", "java/lang/Exception"]).filter goodWord)
def wsL_peak : List Cond := .codeWith yL_peak cL_peak 3 (some .int) [(0, 8, 11, 26)] :: ([.classLink RL 26 "java/lang/IllegalStateException", .methodLink RL 42 yX6_peak, .instanceMethod yX6_peak, .selects RX6 yX6_peak yX6_peak, .initialized RX6, .code yX6_peak cX6_peak 1 (some .int), .fieldLink RX6 28 "ArenaPlan" "plan" "LArenaPlan$Plan;", .fieldLink RX6 197 "ArenaPlan$Plan" "greatestCost" "I", .methodLink RX6 169 yX6_needPlan, .instanceMethod yX6_needPlan, .selects RX6 yX6_needPlan yX6_needPlan, .code yX6_needPlan cX6_needPlan 1 none, .classLink RX6 136 "java/lang/IllegalStateException", .initialized "java/lang/IllegalStateException", .fieldLink RX6 156 "ArenaPlan" "planned" "Z"] ++ wsX60 ++ wsX40 ++ (vx_atM "java/lang/ArrayIndexOutOfBoundsException" ["java/lang/IndexOutOfBoundsException", "java/lang/RuntimeException", "java/lang/Exception"]).filter goodWord ++ (vx_atS RX6 140 "java/lang/IllegalStateException" ["java/lang/RuntimeException", "java/lang/Exception"]).filter goodWord)
def wsL_least_r1 : List Cond := [Cond.classLink RL 26 "java/lang/IllegalStateException", Cond.methodLink RL 46 yX6_least, Cond.instanceMethod yX6_least, Cond.selects RX6 yX6_least yX6_least, Cond.initialized RX6, Cond.code yX6_least cX6_least 1 (some .int), Cond.fieldLink RX6 163 "ArenaPlan" "leastPeak" "I", Cond.fieldLink RX6 53 "ArenaPlan" "search" "LArenaPlan$LeastPeak;", Cond.methodLink RX6 169 yX6_needPlan, Cond.instanceMethod yX6_needPlan, Cond.selects RX6 yX6_needPlan yX6_needPlan, Cond.code yX6_needPlan cX6_needPlan 1 none, Cond.classLink RX6 136 "java/lang/IllegalStateException", Cond.initialized "java/lang/IllegalStateException", Cond.fieldLink RX6 156 "ArenaPlan" "planned" "Z", Cond.methodLink RX6 200 yX2_find, Cond.instanceMethod yX2_find, Cond.selects RX2 yX2_find yX2_find, Cond.initialized RX2, Cond.code yX2_find cX2_find 3 (some .int), Cond.fieldLink RX2 15 "ArenaPlan$LeastPeak" "plan" "LArenaPlan$Plan;", Cond.fieldLink RX2 19 "ArenaPlan$Plan" "length" "I", Cond.fieldLink RX2 9 "ArenaPlan$LeastPeak" "peakOf" "[I", Cond.fieldLink RX2 25 "ArenaPlan$Plan" "greatestCost" "I"]
def wsL_least_r2 : List Cond := [Cond.methodLink RX2 28 yJ7_fill_53178, Cond.static yJ7_fill_53178, Cond.initialized RJ7, Cond.code yJ7_fill_53178 cJ7_fill_53178 4 none, Cond.methodLink RX2 34 yX2_goOn, Cond.instanceMethod yX2_goOn, Cond.selects RX2 yX2_goOn yX2_goOn, Cond.code yX2_goOn cX2_goOn 6 none, Cond.fieldLink RX2 46 "ArenaPlan$Plan" "dependencies" "[I", Cond.fieldLink RX2 55 "ArenaPlan$Plan" "size" "[I", Cond.methodLink RX2 58 Lib.Math.max.name, Cond.static Lib.Math.max.name, Cond.initialized "java/lang/Math", Cond.code Lib.Math.max.name Lib.Math.max.code 2 (some .int), Cond.methodLink RX2 64 Lib.Math.min.name, Cond.static Lib.Math.min.name, Cond.code Lib.Math.min.name Lib.Math.min.code 2 (some .int), Cond.methodLink RX2 38 yX2_heldAfter, Cond.instanceMethod yX2_heldAfter, Cond.selects RX2 yX2_heldAfter yX2_heldAfter, Cond.code yX2_heldAfter cX2_heldAfter 5 (some .int), Cond.fieldLink RX2 67 "ArenaPlan$Plan" "graph" "LArenaPlan$Graph;", Cond.fieldLink RX2 71 "ArenaPlan$Graph" "kept" "[Z", Cond.fieldLink RX2 77 "ArenaPlan$Plan" "dependents" "[I"]
def wsL_least_r3 : List Cond := [Cond.static yX6_isPartOf, Cond.code yX6_isPartOf cX6_isPartOf 2 (some .boolean), Cond.static yX6_contains, Cond.code yX6_contains cX6_contains 2 (some .boolean), Cond.static yX6_setOf, Cond.code yX6_setOf cX6_setOf 1 (some .int)]
def wsL_least : List Cond := .codeWith yL_least cL_least 3 (some .int) [(0, 8, 11, 26)] :: ((wsL_least_r1 ++ (wsL_least_r2 ++ wsL_least_r3)) ++ wsX60 ++ wsX20 ++ wsX40 ++ wsX10 ++ (vx_atM "java/lang/ArrayIndexOutOfBoundsException" ["java/lang/IndexOutOfBoundsException", "java/lang/RuntimeException", "java/lang/Exception"]).filter goodWord ++ (vx_atS RX6 140 "java/lang/IllegalStateException" ["java/lang/RuntimeException", "java/lang/Exception"]).filter goodWord)
def wsL_run_r1 : List Cond := [Cond.classLink RL 26 "java/lang/IllegalStateException", Cond.methodLink RL 49 yX6_run, Cond.instanceMethod yX6_run, Cond.selects RX6 yX6_run yX6_run, Cond.initialized RX6, Cond.code yX6_run cX6_run 1 (some .int), Cond.fieldLink RX6 160 "ArenaPlan" "ran" "Z", Cond.fieldLink RX6 46 "ArenaPlan" "cells" "LArenaPlan$Cells;", Cond.methodLink RX6 169 yX6_needPlan, Cond.instanceMethod yX6_needPlan, Cond.selects RX6 yX6_needPlan yX6_needPlan, Cond.code yX6_needPlan cX6_needPlan 1 none, Cond.classLink RX6 136 "java/lang/IllegalStateException", Cond.initialized "java/lang/IllegalStateException", Cond.fieldLink RX6 156 "ArenaPlan" "planned" "Z", Cond.methodLink RX6 203 yX0_work, Cond.instanceMethod yX0_work, Cond.selects RX0 yX0_work yX0_work, Cond.initialized RX0, Cond.code yX0_work cX0_work 5 (some .int), Cond.fieldLink RX0 9 "ArenaPlan$Cells" "value" "[I", Cond.fieldLink RX0 25 "ArenaPlan$Cells" "plan" "LArenaPlan$Plan;", Cond.fieldLink RX0 39 "ArenaPlan$Plan" "length" "I", Cond.fieldLink RX0 43 "ArenaPlan$Plan" "sequence" "[I"]
def wsL_run_r2 : List Cond := [Cond.fieldLink RX0 46 "ArenaPlan$Plan" "size" "[I", Cond.fieldLink RX0 15 "ArenaPlan$Cells" "places" "LArenaPlan$Places;", Cond.fieldLink RX0 49 "ArenaPlan$Places" "start" "[I", Cond.methodLink RX0 33 yJ7_fill_53178, Cond.static yJ7_fill_53178, Cond.initialized RJ7, Cond.code yJ7_fill_53178 cJ7_fill_53178 4 none, Cond.methodLink RX0 52 yX0_workOut, Cond.instanceMethod yX0_workOut, Cond.selects RX0 yX0_workOut yX0_workOut, Cond.code yX0_workOut cX0_workOut 6 (some .int), Cond.fieldLink RX0 32 "ArenaPlan$Cells" "graph" "LArenaPlan$Graph;", Cond.fieldLink RX0 56 "ArenaPlan$Graph" "source" "[[I", Cond.fieldLink RX0 62 "ArenaPlan$Graph" "operation" "[I", Cond.fieldLink RX0 65 "ArenaPlan$Graph" "given" "[[I", Cond.fieldLink RX0 71 "ArenaPlan$Graph" "p" "[I", Cond.methodLink RX0 68 yX0_valueOf, Cond.instanceMethod yX0_valueOf, Cond.selects RX0 yX0_valueOf yX0_valueOf, Cond.code yX0_valueOf cX0_valueOf 3 (some .int), Cond.methodLink RX0 74 yX0_totalOf, Cond.instanceMethod yX0_totalOf, Cond.selects RX0 yX0_totalOf yX0_totalOf, Cond.code yX0_totalOf cX0_totalOf 4 (some .int)]
def wsL_run : List Cond := .codeWith yL_run cL_run 3 (some .int) [(0, 8, 11, 26)] :: ((wsL_run_r1 ++ wsL_run_r2) ++ wsX60 ++ wsX00 ++ wsX40 ++ wsX30 ++ wsX10 ++ (vx_atM "java/lang/ArrayIndexOutOfBoundsException" ["java/lang/IndexOutOfBoundsException", "java/lang/RuntimeException", "java/lang/Exception"]).filter goodWord ++ (vx_atS RX6 140 "java/lang/IllegalStateException" ["java/lang/RuntimeException", "java/lang/Exception"]).filter goodWord)
def wsL_cell_r1 : List Cond := [Cond.classLink RL 26 "java/lang/IllegalStateException", Cond.classLink RL 33 "java/lang/IndexOutOfBoundsException", Cond.methodLink RL 52 yX6_cell, Cond.instanceMethod yX6_cell, Cond.selects RX6 yX6_cell yX6_cell, Cond.initialized RX6, Cond.code yX6_cell cX6_cell 2 (some .int), Cond.fieldLink RX6 37 "ArenaPlan" "places" "LArenaPlan$Places;", Cond.fieldLink RX6 166 "ArenaPlan$Places" "arena" "I", Cond.fieldLink RX6 46 "ArenaPlan" "cells" "LArenaPlan$Cells;", Cond.fieldLink RX6 209 "ArenaPlan$Cells" "value" "[I", Cond.methodLink RX6 206 yX6_needRun, Cond.instanceMethod yX6_needRun, Cond.selects RX6 yX6_needRun yX6_needRun, Cond.code yX6_needRun cX6_needRun 1 none, Cond.classLink RX6 136 "java/lang/IllegalStateException", Cond.initialized "java/lang/IllegalStateException", Cond.fieldLink RX6 160 "ArenaPlan" "ran" "Z", Cond.methodLink RX6 169 yX6_needPlan, Cond.instanceMethod yX6_needPlan, Cond.selects RX6 yX6_needPlan yX6_needPlan, Cond.code yX6_needPlan cX6_needPlan 1 none, Cond.fieldLink RX6 156 "ArenaPlan" "planned" "Z", Cond.methodLink RX6 172 yX6_needWithin]
def wsL_cell_r2 : List Cond := [Cond.static yX6_needWithin, Cond.code yX6_needWithin cX6_needWithin 2 none, Cond.classLink RX6 218 "java/lang/IndexOutOfBoundsException", Cond.initialized "java/lang/IndexOutOfBoundsException", Cond.methodLink RX6 95 yX6_isWithin, Cond.static yX6_isWithin, Cond.code yX6_isWithin cX6_isWithin 2 (some .boolean)]
def wsL_cell : List Cond := .codeWith yL_cell cL_cell 4 (some .int) [(0, 9, 12, 26), (0, 9, 15, 33)] :: ((wsL_cell_r1 ++ wsL_cell_r2) ++ wsX60 ++ wsX30 ++ wsX00 ++ (vx_atM "java/lang/ArrayIndexOutOfBoundsException" ["java/lang/IndexOutOfBoundsException", "java/lang/RuntimeException", "java/lang/Exception"]).filter goodWord ++ (vx_atS RX6 140 "java/lang/IllegalStateException" ["java/lang/RuntimeException", "java/lang/Exception"]).filter goodWord ++ (vx_atS RX6 222 "java/lang/IndexOutOfBoundsException" ["java/lang/RuntimeException", "java/lang/Exception"]).filter goodWord)
def wsL_result_r1 : List Cond := [Cond.classLink RL 26 "java/lang/IllegalStateException", Cond.classLink RL 21 "java/util/NoSuchElementException", Cond.classLink RL 33 "java/lang/IndexOutOfBoundsException", Cond.methodLink RL 55 yX6_result, Cond.instanceMethod yX6_result, Cond.selects RX6 yX6_result yX6_result, Cond.initialized RX6, Cond.code yX6_result cX6_result 3 (some .int), Cond.classLink RX6 120 "java/util/NoSuchElementException", Cond.initialized "java/util/NoSuchElementException", Cond.fieldLink RX6 10 "ArenaPlan" "graph" "LArenaPlan$Graph;", Cond.fieldLink RX6 110 "ArenaPlan$Graph" "kept" "[Z", Cond.fieldLink RX6 28 "ArenaPlan" "plan" "LArenaPlan$Plan;", Cond.fieldLink RX6 179 "ArenaPlan$Plan" "size" "[I", Cond.fieldLink RX6 46 "ArenaPlan" "cells" "LArenaPlan$Cells;", Cond.fieldLink RX6 209 "ArenaPlan$Cells" "value" "[I", Cond.fieldLink RX6 37 "ArenaPlan" "places" "LArenaPlan$Places;", Cond.fieldLink RX6 188 "ArenaPlan$Places" "start" "[I", Cond.methodLink RX6 206 yX6_needRun, Cond.instanceMethod yX6_needRun, Cond.selects RX6 yX6_needRun yX6_needRun, Cond.code yX6_needRun cX6_needRun 1 none, Cond.classLink RX6 136 "java/lang/IllegalStateException", Cond.initialized "java/lang/IllegalStateException"]
def wsL_result_r2 : List Cond := [Cond.fieldLink RX6 160 "ArenaPlan" "ran" "Z", Cond.methodLink RX6 169 yX6_needPlan, Cond.instanceMethod yX6_needPlan, Cond.selects RX6 yX6_needPlan yX6_needPlan, Cond.code yX6_needPlan cX6_needPlan 1 none, Cond.fieldLink RX6 156 "ArenaPlan" "planned" "Z", Cond.methodLink RX6 84 yX1_has, Cond.instanceMethod yX1_has, Cond.selects RX1 yX1_has yX1_has, Cond.initialized RX1, Cond.code yX1_has cX1_has 2 (some .boolean), Cond.fieldLink RX1 33 "ArenaPlan$Graph" "count" "I", Cond.static yX6_isWithin, Cond.code yX6_isWithin cX6_isWithin 2 (some .boolean), Cond.methodLink RX6 172 yX6_needWithin, Cond.static yX6_needWithin, Cond.code yX6_needWithin cX6_needWithin 2 none, Cond.classLink RX6 218 "java/lang/IndexOutOfBoundsException", Cond.initialized "java/lang/IndexOutOfBoundsException", Cond.methodLink RX6 95 yX6_isWithin]
def wsL_result : List Cond := .codeWith yL_result cL_result 5 (some .int) [(0, 10, 13, 26), (0, 10, 17, 21), (0, 10, 21, 33)] :: ((wsL_result_r1 ++ wsL_result_r2) ++ wsX60 ++ wsX10 ++ wsX40 ++ wsX00 ++ wsX30 ++ (vx_atM "java/lang/ArrayIndexOutOfBoundsException" ["java/lang/IndexOutOfBoundsException", "java/lang/RuntimeException", "java/lang/Exception"]).filter goodWord ++ (vx_atSX RX6 124 "java/util/NoSuchElementException" 13 prog_23_method_4_code ["java/lang/RuntimeException", "java/lang/Exception"]).filter goodWord ++ (vx_atS RX6 140 "java/lang/IllegalStateException" ["java/lang/RuntimeException", "java/lang/Exception"]).filter goodWord ++ (vx_atS RX6 222 "java/lang/IndexOutOfBoundsException" ["java/lang/RuntimeException", "java/lang/Exception"]).filter goodWord)
def wsL_law0_r1 : List Cond := [Cond.classLink RL 8 RX6, Cond.instantiable RX6 9, Cond.initialized RX6, Cond.classLink RL 59 RX7, Cond.instantiable RX7 30, Cond.initialized RX7, Cond.arrayClass .long, Cond.methodLink RL 58 yX6_init, Cond.instanceMethod yX6_init, Cond.code yX6_init cX6_init 1 none, Cond.methodLink RX6 1 objectInit, Cond.instanceMethod objectInit, Cond.code objectInit ⟨#[0xb1]⟩ 1 none, Cond.classLink RX6 7 RX1, Cond.instantiable RX1 7, Cond.initialized RX1, Cond.fieldLink RX6 10 "ArenaPlan" "graph" "LArenaPlan$Graph;", Cond.classLink RX6 16 RX5, Cond.instantiable RX5 5, Cond.initialized RX5, Cond.fieldLink RX6 21 "ArenaPlan" "rings" "LArenaPlan$Rings;", Cond.classLink RX6 25 RX4, Cond.instantiable RX4 12, Cond.initialized RX4]
def wsL_law0_r2 : List Cond := [Cond.fieldLink RX6 28 "ArenaPlan" "plan" "LArenaPlan$Plan;", Cond.classLink RX6 32 RX3, Cond.instantiable RX3 4, Cond.initialized RX3, Cond.fieldLink RX6 37 "ArenaPlan" "places" "LArenaPlan$Places;", Cond.classLink RX6 41 RX0, Cond.instantiable RX0 4, Cond.initialized RX0, Cond.fieldLink RX6 46 "ArenaPlan" "cells" "LArenaPlan$Cells;", Cond.classLink RX6 50 RX2, Cond.instantiable RX2 2, Cond.initialized RX2, Cond.fieldLink RX6 53 "ArenaPlan" "search" "LArenaPlan$LeastPeak;", Cond.instanceMethod yX1_init, Cond.code yX1_init cX1_init 1 none, Cond.methodLink RX1 3 objectInit, Cond.arrayClass .int, Cond.fieldLink RX1 9 "ArenaPlan$Graph" "operation" "[I", Cond.fieldLink RX1 15 "ArenaPlan$Graph" "p" "[I", Cond.fieldLink RX1 18 "ArenaPlan$Graph" "q" "[I", Cond.classLink RX1 21 "[[I", Cond.fieldLink RX1 23 "ArenaPlan$Graph" "given" "[[I", Cond.fieldLink RX1 26 "ArenaPlan$Graph" "source" "[[I", Cond.arrayClass .boolean]
def wsL_law0_r3 : List Cond := [Cond.fieldLink RX1 29 "ArenaPlan$Graph" "kept" "[Z", Cond.methodLink RX6 18 yX5_init, Cond.instanceMethod yX5_init, Cond.code yX5_init cX5_init 2 none, Cond.methodLink RX5 3 objectInit, Cond.fieldLink RX5 9 "ArenaPlan$Rings" "reach" "[I", Cond.fieldLink RX5 15 "ArenaPlan$Rings" "stepsLeft" "[I", Cond.fieldLink RX5 18 "ArenaPlan$Rings" "member" "[I", Cond.fieldLink RX5 21 "ArenaPlan$Rings" "graph" "LArenaPlan$Graph;", Cond.methodLink RX6 27 yX4_init, Cond.instanceMethod yX4_init, Cond.code yX4_init cX4_init 2 none, Cond.methodLink RX4 3 objectInit, Cond.fieldLink RX4 9 "ArenaPlan$Plan" "dependencies" "[I", Cond.fieldLink RX4 15 "ArenaPlan$Plan" "dependents" "[I", Cond.fieldLink RX4 18 "ArenaPlan$Plan" "size" "[I", Cond.fieldLink RX4 21 "ArenaPlan$Plan" "label" "[I", Cond.fieldLink RX4 24 "ArenaPlan$Plan" "sequence" "[I", Cond.fieldLink RX4 27 "ArenaPlan$Plan" "step" "[I", Cond.fieldLink RX4 30 "ArenaPlan$Plan" "last" "[I", Cond.fieldLink RX4 33 "ArenaPlan$Plan" "costOf" "[I", Cond.fieldLink RX4 36 "ArenaPlan$Plan" "graph" "LArenaPlan$Graph;", Cond.methodLink RX6 34 yX3_init, Cond.instanceMethod yX3_init]
def wsL_law0_r4 : List Cond := [Cond.code yX3_init cX3_init 2 none, Cond.methodLink RX3 3 objectInit, Cond.fieldLink RX3 9 "ArenaPlan$Places" "bySize" "[I", Cond.fieldLink RX3 15 "ArenaPlan$Places" "start" "[I", Cond.fieldLink RX3 18 "ArenaPlan$Places" "plan" "LArenaPlan$Plan;", Cond.methodLink RX6 43 yX0_init, Cond.instanceMethod yX0_init, Cond.code yX0_init cX0_init 2 none, Cond.methodLink RX0 3 objectInit, Cond.fieldLink RX0 9 "ArenaPlan$Cells" "value" "[I", Cond.fieldLink RX0 15 "ArenaPlan$Cells" "places" "LArenaPlan$Places;", Cond.fieldLink RX0 19 "ArenaPlan$Places" "plan" "LArenaPlan$Plan;", Cond.fieldLink RX0 25 "ArenaPlan$Cells" "plan" "LArenaPlan$Plan;", Cond.fieldLink RX0 26 "ArenaPlan$Plan" "graph" "LArenaPlan$Graph;", Cond.fieldLink RX0 32 "ArenaPlan$Cells" "graph" "LArenaPlan$Graph;", Cond.methodLink RX6 52 yX2_init, Cond.instanceMethod yX2_init, Cond.code yX2_init cX2_init 2 none, Cond.methodLink RX2 3 objectInit, Cond.fieldLink RX2 9 "ArenaPlan$LeastPeak" "peakOf" "[I", Cond.fieldLink RX2 15 "ArenaPlan$LeastPeak" "plan" "LArenaPlan$Plan;", Cond.methodLink RL 61 yX7_init, Cond.instanceMethod yX7_init, Cond.code yX7_init cX7_init 1 none]
def wsL_law0_r5 : List Cond := [Cond.methodLink RX7 1 objectInit, Cond.fieldLink RX7 7 "ArenaPlanModel" "operation" "[I", Cond.fieldLink RX7 13 "ArenaPlanModel" "first" "[I", Cond.fieldLink RX7 16 "ArenaPlanModel" "second" "[I", Cond.fieldLink RX7 19 "ArenaPlanModel" "source" "[I", Cond.fieldLink RX7 22 "ArenaPlanModel" "kept" "[Z", Cond.fieldLink RX7 26 "ArenaPlanModel" "given" "[I", Cond.fieldLink RX7 29 "ArenaPlanModel" "distance" "[I", Cond.fieldLink RX7 32 "ArenaPlanModel" "ring" "[I", Cond.fieldLink RX7 35 "ArenaPlanModel" "size" "[I", Cond.fieldLink RX7 38 "ArenaPlanModel" "label" "[I", Cond.fieldLink RX7 41 "ArenaPlanModel" "order" "[I", Cond.fieldLink RX7 44 "ArenaPlanModel" "step" "[I", Cond.fieldLink RX7 47 "ArenaPlanModel" "until" "[I", Cond.fieldLink RX7 50 "ArenaPlanModel" "place" "[I", Cond.fieldLink RX7 53 "ArenaPlanModel" "newSize" "[I", Cond.fieldLink RX7 56 "ArenaPlanModel" "sized" "[Z", Cond.fieldLink RX7 59 "ArenaPlanModel" "stack" "[I", Cond.fieldLink RX7 62 "ArenaPlanModel" "best" "[I", Cond.fieldLink RX7 65 "ArenaPlanModel" "cells" "[I", Cond.fieldLink RX7 68 "ArenaPlanModel" "value" "[I", Cond.methodLink RL 62 yL_make, Cond.static yL_make, Cond.initialized RL]
def wsL_law0_r6 : List Cond := [Cond.codeWith yL_make cL_make 6 (some .int) [(0, 12, 15, 13), (0, 12, 19, 15)], Cond.classLink RL 13 "java/lang/IllegalArgumentException", Cond.classLink RL 15 "java/lang/UnsupportedOperationException", Cond.methodLink RL 7 yX6_make, Cond.instanceMethod yX6_make, Cond.selects RX6 yX6_make yX6_make, Cond.code yX6_make cX6_make 4 (some .int), Cond.classLink RX6 61 "java/lang/IllegalArgumentException", Cond.initialized "java/lang/IllegalArgumentException", Cond.classLink RX6 72 "java/lang/UnsupportedOperationException", Cond.initialized "java/lang/UnsupportedOperationException", Cond.fieldLink RX6 68 "ArenaPlan$Graph" "count" "I", Cond.methodLink RX6 57 yX6_canBeMade, Cond.static yX6_canBeMade, Cond.code yX6_canBeMade cX6_canBeMade 3 (some .boolean), Cond.fieldLink RX6 223 "ArenaPlan" "INPUTS" "[I", Cond.methodLink RX6 95 yX6_isWithin, Cond.static yX6_isWithin, Cond.code yX6_isWithin cX6_isWithin 2 (some .boolean), Cond.methodLink RX6 77 yX6_forgetPlan, Cond.instanceMethod yX6_forgetPlan, Cond.selects RX6 yX6_forgetPlan yX6_forgetPlan, Cond.code yX6_forgetPlan cX6_forgetPlan 1 none, Cond.fieldLink RX6 156 "ArenaPlan" "planned" "Z"]
def wsL_law0_r7 : List Cond := [Cond.methodLink RX6 80 yX1_add, Cond.instanceMethod yX1_add, Cond.selects RX1 yX1_add yX1_add, Cond.code yX1_add cX1_add 5 (some .int), Cond.fieldLink RX1 33 "ArenaPlan$Graph" "count" "I", Cond.methodLink RX1 44 yJ7_fill_53178, Cond.static yJ7_fill_53178, Cond.initialized RJ7, Cond.code yJ7_fill_53178 cJ7_fill_53178 4 none, Cond.methodLink RL 67 yX7_make, Cond.instanceMethod yX7_make, Cond.selects RX7 yX7_make yX7_make, Cond.code yX7_make cX7_make 6 (some .int), Cond.fieldLink RX7 71 "ArenaPlanModel" "thrown" "I", Cond.fieldLink RX7 75 "ArenaPlanModel" "count" "I", Cond.fieldLink RX7 86 "ArenaPlanModel" "planned" "Z", Cond.methodLink RX7 78 yX7_within, Cond.static yX7_within, Cond.code yX7_within cX7_within 3 (some .boolean), Cond.methodLink RX7 82 yX7_fail, Cond.instanceMethod yX7_fail, Cond.selects RX7 yX7_fail yX7_fail, Cond.code yX7_fail cX7_fail 2 (some .int), Cond.methodLink RL 68 yX7_thrown]
def wsL_law0_r8 : List Cond := [Cond.instanceMethod yX7_thrown, Cond.selects RX7 yX7_thrown yX7_thrown, Cond.code yX7_thrown cX7_thrown 1 (some .int), Cond.methodLink RL 71 yX6_give, Cond.instanceMethod yX6_give, Cond.selects RX6 yX6_give yX6_give, Cond.code yX6_give cX6_give 4 (some .boolean), Cond.fieldLink RX6 88 "ArenaPlan$Graph" "operation" "[I", Cond.fieldLink RX6 92 "ArenaPlan$Graph" "p" "[I", Cond.fieldLink RX6 99 "ArenaPlan$Graph" "given" "[[I", Cond.methodLink RX6 84 yX1_has, Cond.instanceMethod yX1_has, Cond.selects RX1 yX1_has yX1_has, Cond.code yX1_has cX1_has 2 (some .boolean), Cond.methodLink RL 75 yX7_give, Cond.instanceMethod yX7_give, Cond.selects RX7 yX7_give yX7_give, Cond.code yX7_give cX7_give 4 (some .boolean), Cond.methodLink RX7 90 yX7_isNode, Cond.instanceMethod yX7_isNode, Cond.selects RX7 yX7_isNode yX7_isNode, Cond.code yX7_isNode cX7_isNode 2 (some .boolean), Cond.methodLink RL 76 yX6_wire, Cond.instanceMethod yX6_wire]
def wsL_law0_r9 : List Cond := [Cond.selects RX6 yX6_wire yX6_wire, Cond.code yX6_wire cX6_wire 4 (some .boolean), Cond.fieldLink RX6 107 "ArenaPlan$Graph" "source" "[[I", Cond.methodLink RX6 103 yX1_inputs, Cond.instanceMethod yX1_inputs, Cond.selects RX1 yX1_inputs yX1_inputs, Cond.code yX1_inputs cX1_inputs 2 (some .int), Cond.methodLink RL 79 yX7_wire, Cond.instanceMethod yX7_wire, Cond.selects RX7 yX7_wire yX7_wire, Cond.code yX7_wire cX7_wire 4 (some .boolean), Cond.methodLink RX7 94 yX7_inputs, Cond.static yX7_inputs, Cond.code yX7_inputs cX7_inputs 1 (some .int), Cond.methodLink RL 80 yX6_keep, Cond.instanceMethod yX6_keep, Cond.selects RX6 yX6_keep yX6_keep, Cond.code yX6_keep cX6_keep 3 (some .boolean), Cond.fieldLink RX6 110 "ArenaPlan$Graph" "kept" "[Z", Cond.methodLink RL 84 yX7_keep, Cond.instanceMethod yX7_keep, Cond.selects RX7 yX7_keep yX7_keep, Cond.code yX7_keep cX7_keep 3 (some .boolean), Cond.methodLink RL 85 yX6_nodes]
def wsL_law0_r10 : List Cond := [Cond.instanceMethod yX6_nodes, Cond.selects RX6 yX6_nodes yX6_nodes, Cond.code yX6_nodes cX6_nodes 1 (some .int), Cond.methodLink RL 88 yX7_nodes, Cond.instanceMethod yX7_nodes, Cond.selects RX7 yX7_nodes yX7_nodes, Cond.code yX7_nodes cX7_nodes 1 (some .int), Cond.methodLink RL 89 yL_ring, Cond.static yL_ring, Cond.codeWith yL_ring cL_ring 4 (some .int) [(0, 9, 12, 21)], Cond.classLink RL 21 "java/util/NoSuchElementException", Cond.methodLink RL 17 yX6_ring, Cond.instanceMethod yX6_ring, Cond.selects RX6 yX6_ring yX6_ring, Cond.code yX6_ring cX6_ring 2 (some .int), Cond.classLink RX6 120 "java/util/NoSuchElementException", Cond.initialized "java/util/NoSuchElementException", Cond.fieldLink RX6 117 "ArenaPlan$Rings" "length" "I", Cond.fieldLink RX6 125 "ArenaPlan$Rings" "member" "[I", Cond.methodLink RX6 114 yX5_find, Cond.instanceMethod yX5_find, Cond.selects RX5 yX5_find yX5_find, Cond.code yX5_find cX5_find 2 none, Cond.fieldLink RX5 25 "ArenaPlan$Rings" "length" "I"]
def wsL_law0_r11 : List Cond := [Cond.fieldLink RX5 32 "ArenaPlan$Graph" "count" "I", Cond.methodLink RX5 29 yX5_findReach, Cond.instanceMethod yX5_findReach, Cond.selects RX5 yX5_findReach yX5_findReach, Cond.code yX5_findReach cX5_findReach 3 none, Cond.methodLink RX5 48 yX1_dependencies, Cond.instanceMethod yX1_dependencies, Cond.selects RX1 yX1_dependencies yX1_dependencies, Cond.code yX1_dependencies cX1_dependencies 2 (some .int), Cond.static yX6_setOf, Cond.code yX6_setOf cX6_setOf 1 (some .int), Cond.static yX6_contains, Cond.code yX6_contains cX6_contains 2 (some .boolean), Cond.methodLink RX5 41 yX5_countSteps, Cond.instanceMethod yX5_countSteps, Cond.selects RX5 yX5_countSteps yX5_countSteps, Cond.code yX5_countSteps cX5_countSteps 5 none, Cond.methodLink RX5 61 Lib.Math.min.name, Cond.static Lib.Math.min.name, Cond.initialized "java/lang/Math", Cond.code Lib.Math.min.name Lib.Math.min.code 2 (some .int), Cond.methodLink RX5 52 yJ7_fill_53178, Cond.methodLink RX5 58 yX5_nearest, Cond.instanceMethod yX5_nearest]
def wsL_law0_r12 : List Cond := [Cond.selects RX5 yX5_nearest yX5_nearest, Cond.code yX5_nearest cX5_nearest 4 (some .int), Cond.fieldLink RX5 67 "ArenaPlan$Graph" "source" "[[I", Cond.methodLink RX5 45 yX5_follow, Cond.instanceMethod yX5_follow, Cond.selects RX5 yX5_follow yX5_follow, Cond.code yX5_follow cX5_follow 3 none, Cond.methodLink RL 92 yX7_ring, Cond.instanceMethod yX7_ring, Cond.selects RX7 yX7_ring yX7_ring, Cond.code yX7_ring cX7_ring 2 (some .int), Cond.fieldLink RX7 100 "ArenaPlanModel" "ringSize" "I", Cond.methodLink RX7 110 yX7_findRing, Cond.instanceMethod yX7_findRing, Cond.selects RX7 yX7_findRing yX7_findRing, Cond.code yX7_findRing cX7_findRing 3 none, Cond.methodLink RX7 103 yX7_measure, Cond.instanceMethod yX7_measure, Cond.selects RX7 yX7_measure yX7_measure, Cond.code yX7_measure cX7_measure 5 none, Cond.methodLink RX7 97 yX7_far, Cond.instanceMethod yX7_far, Cond.selects RX7 yX7_far yX7_far, Cond.code yX7_far cX7_far 2 (some .int)]
def wsL_law0_r13 : List Cond := [Cond.methodLink RX7 107 yX7_nearest, Cond.instanceMethod yX7_nearest, Cond.selects RX7 yX7_nearest yX7_nearest, Cond.code yX7_nearest cX7_nearest 5 (some .int), Cond.methodLink RL 93 yL_plan, Cond.static yL_plan, Cond.codeWith yL_plan cL_plan 4 (some .int) [(0, 9, 12, 13), (0, 9, 15, 21), (0, 9, 18, 26), (0, 9, 21, 28)], Cond.classLink RL 26 "java/lang/IllegalStateException", Cond.classLink RL 28 "java/lang/ArithmeticException", Cond.methodLink RL 23 yX6_plan, Cond.instanceMethod yX6_plan, Cond.selects RX6 yX6_plan yX6_plan, Cond.code yX6_plan cX6_plan 2 (some .int), Cond.classLink RX6 136 "java/lang/IllegalStateException", Cond.initialized "java/lang/IllegalStateException", Cond.classLink RX6 144 "java/lang/ArithmeticException", Cond.initialized "java/lang/ArithmeticException", Cond.fieldLink RX6 160 "ArenaPlan" "ran" "Z", Cond.fieldLink RX6 163 "ArenaPlan" "leastPeak" "I", Cond.fieldLink RX6 166 "ArenaPlan$Places" "arena" "I", Cond.methodLink RX6 130 yX1_isWired, Cond.instanceMethod yX1_isWired, Cond.selects RX1 yX1_isWired yX1_isWired, Cond.code yX1_isWired cX1_isWired 3 (some .boolean)]
def wsL_law0_r14 : List Cond := [Cond.methodLink RX1 50 yX1_inputs, Cond.methodLink RX6 141 yX4_measure, Cond.instanceMethod yX4_measure, Cond.selects RX4 yX4_measure yX4_measure, Cond.code yX4_measure cX4_measure 3 (some .boolean), Cond.fieldLink RX4 46 "ArenaPlan$Plan" "length" "I", Cond.methodLink RX4 40 yX4_findNeighbours, Cond.instanceMethod yX4_findNeighbours, Cond.selects RX4 yX4_findNeighbours yX4_findNeighbours, Cond.code yX4_findNeighbours cX4_findNeighbours 3 none, Cond.fieldLink RX4 64 "ArenaPlan$Graph" "count" "I", Cond.methodLink RX4 75 yJ7_fill_53178, Cond.methodLink RX4 81 yX1_dependencies, Cond.methodLink RX4 43 yX4_orderByNumbers, Cond.instanceMethod yX4_orderByNumbers, Cond.selects RX4 yX4_orderByNumbers yX4_orderByNumbers, Cond.code yX4_orderByNumbers cX4_orderByNumbers 2 none, Cond.methodLink RX4 121 yX4_beginOrder, Cond.instanceMethod yX4_beginOrder, Cond.selects RX4 yX4_beginOrder yX4_beginOrder, Cond.code yX4_beginOrder cX4_beginOrder 1 none, Cond.fieldLink RX4 118 "ArenaPlan$Plan" "inOrder" "I", Cond.methodLink RX4 124 yX4_leastReady, Cond.instanceMethod yX4_leastReady]
def wsL_law0_r15 : List Cond := [Cond.selects RX4 yX4_leastReady yX4_leastReady, Cond.code yX4_leastReady cX4_leastReady 2 (some .int), Cond.methodLink RX4 132 yX4_isReady, Cond.instanceMethod yX4_isReady, Cond.selects RX4 yX4_isReady yX4_isReady, Cond.code yX4_isReady cX4_isReady 2 (some .boolean), Cond.methodLink RX4 135 yX4_isMissing, Cond.instanceMethod yX4_isMissing, Cond.selects RX4 yX4_isMissing yX4_isMissing, Cond.code yX4_isMissing cX4_isMissing 2 (some .boolean), Cond.static yX6_isPartOf, Cond.code yX6_isPartOf cX6_isPartOf 2 (some .boolean), Cond.methodLink RX4 128 yX4_append, Cond.instanceMethod yX4_append, Cond.selects RX4 yX4_append yX4_append, Cond.code yX4_append cX4_append 2 none, Cond.methodLink RX4 50 yX4_sizesFit, Cond.instanceMethod yX4_sizesFit, Cond.selects RX4 yX4_sizesFit yX4_sizesFit, Cond.code yX4_sizesFit cX4_sizesFit 4 (some .boolean), Cond.fieldLink RX4 98 "ArenaPlan$Graph" "operation" "[I", Cond.fieldLink RX4 101 "ArenaPlan$Graph" "p" "[I", Cond.fieldLink RX4 104 "ArenaPlan$Graph" "q" "[I", Cond.methodLink RX4 94 yX4_sizeOfSource]
def wsL_law0_r16 : List Cond := [Cond.instanceMethod yX4_sizeOfSource, Cond.selects RX4 yX4_sizeOfSource yX4_sizeOfSource, Cond.code yX4_sizeOfSource cX4_sizeOfSource 4 (some .int), Cond.fieldLink RX4 90 "ArenaPlan$Graph" "source" "[[I", Cond.methodLink RX4 54 yX4_sizeOf, Cond.instanceMethod yX4_sizeOf, Cond.selects RX4 yX4_sizeOf yX4_sizeOf, Cond.code yX4_sizeOf cX4_sizeOf 3 (some .int), Cond.methodLink RX4 58 yX4_labelOf, Cond.instanceMethod yX4_labelOf, Cond.selects RX4 yX4_labelOf yX4_labelOf, Cond.code yX4_labelOf cX4_labelOf 7 (some .int), Cond.methodLink RX4 110 Lib.Math.max.name, Cond.static Lib.Math.max.name, Cond.code Lib.Math.max.name Lib.Math.max.code 2 (some .int), Cond.methodLink RX4 115 Lib.Math.min.name, Cond.methodLink RX4 107 yX1_inputs, Cond.methodLink RX6 149 yX4_arrange, Cond.instanceMethod yX4_arrange, Cond.selects RX4 yX4_arrange yX4_arrange, Cond.code yX4_arrange cX4_arrange 3 none, Cond.methodLink RX4 61 yX4_orderByLabels, Cond.instanceMethod yX4_orderByLabels, Cond.selects RX4 yX4_orderByLabels yX4_orderByLabels]
def wsL_law0_r17 : List Cond := [Cond.code yX4_orderByLabels cX4_orderByLabels 2 none, Cond.methodLink RX4 141 yX4_visit, Cond.instanceMethod yX4_visit, Cond.selects RX4 yX4_visit yX4_visit, Cond.code yX4_visit cX4_visit 3 none, Cond.methodLink RX4 144 yX4_firstDue, Cond.instanceMethod yX4_firstDue, Cond.selects RX4 yX4_firstDue yX4_firstDue, Cond.code yX4_firstDue cX4_firstDue 5 (some .int), Cond.methodLink RX4 147 yX4_sourceToVisit, Cond.instanceMethod yX4_sourceToVisit, Cond.selects RX4 yX4_sourceToVisit yX4_sourceToVisit, Cond.code yX4_sourceToVisit cX4_sourceToVisit 7 (some .int), Cond.methodLink RX4 69 yX4_lastStepOf, Cond.instanceMethod yX4_lastStepOf, Cond.selects RX4 yX4_lastStepOf yX4_lastStepOf, Cond.code yX4_lastStepOf cX4_lastStepOf 4 (some .int), Cond.fieldLink RX4 150 "ArenaPlan$Graph" "kept" "[Z", Cond.methodLink RX4 72 yX4_addCosts, Cond.instanceMethod yX4_addCosts, Cond.selects RX4 yX4_addCosts yX4_addCosts, Cond.code yX4_addCosts cX4_addCosts 3 none, Cond.fieldLink RX4 154 "ArenaPlan$Plan" "greatestCost" "I", Cond.methodLink RX6 153 yX3_assign]
def wsL_law0_r18 : List Cond := [Cond.instanceMethod yX3_assign, Cond.selects RX3 yX3_assign yX3_assign, Cond.code yX3_assign cX3_assign 3 none, Cond.fieldLink RX3 25 "ArenaPlan$Places" "arena" "I", Cond.fieldLink RX3 29 "ArenaPlan$Plan" "length" "I", Cond.methodLink RX3 41 Lib.Math.max.name, Cond.methodLink RX3 22 yX3_sortBySize, Cond.instanceMethod yX3_sortBySize, Cond.selects RX3 yX3_sortBySize yX3_sortBySize, Cond.code yX3_sortBySize cX3_sortBySize 4 none, Cond.fieldLink RX3 47 "ArenaPlan$Plan" "sequence" "[I", Cond.fieldLink RX3 50 "ArenaPlan$Plan" "size" "[I", Cond.methodLink RX3 34 yX3_lowestStart, Cond.instanceMethod yX3_lowestStart, Cond.selects RX3 yX3_lowestStart yX3_lowestStart, Cond.code yX3_lowestStart cX3_lowestStart 6 (some .int), Cond.methodLink RX3 53 yX3_isInTheWay, Cond.instanceMethod yX3_isInTheWay, Cond.selects RX3 yX3_isInTheWay yX3_isInTheWay, Cond.code yX3_isInTheWay cX3_isInTheWay 4 (some .boolean), Cond.methodLink RX3 57 yX4_liveTogether, Cond.instanceMethod yX4_liveTogether, Cond.selects RX4 yX4_liveTogether yX4_liveTogether, Cond.code yX4_liveTogether cX4_liveTogether 3 (some .boolean)]
def wsL_law0_r19 : List Cond := [Cond.methodLink RX3 38 yX3_end, Cond.instanceMethod yX3_end, Cond.selects RX3 yX3_end yX3_end, Cond.code yX3_end cX3_end 2 (some .int), Cond.methodLink RL 95 yX7_plan, Cond.instanceMethod yX7_plan, Cond.selects RX7 yX7_plan yX7_plan, Cond.code yX7_plan cX7_plan 3 (some .int), Cond.fieldLink RX7 157 "ArenaPlanModel" "way" "I", Cond.fieldLink RX7 119 "ArenaPlanModel" "placed" "I", Cond.fieldLink RX7 175 "ArenaPlanModel" "ran" "Z", Cond.fieldLink RX7 178 "ArenaPlanModel" "least" "I", Cond.fieldLink RX7 143 "ArenaPlanModel" "arena" "I", Cond.methodLink RX7 150 yX7_isWired, Cond.instanceMethod yX7_isWired, Cond.selects RX7 yX7_isWired yX7_isWired, Cond.code yX7_isWired cX7_isWired 4 (some .boolean), Cond.methodLink RX7 154 yX7_findSizes, Cond.instanceMethod yX7_findSizes, Cond.selects RX7 yX7_findSizes yX7_findSizes, Cond.code yX7_findSizes cX7_findSizes 3 (some .boolean), Cond.methodLink RX7 113 yX7_isReady, Cond.instanceMethod yX7_isReady, Cond.selects RX7 yX7_isReady yX7_isReady]
def wsL_law0_r20 : List Cond := [Cond.code yX7_isReady cX7_isReady 4 (some .boolean), Cond.methodLink RX7 116 yX7_sizeOf, Cond.instanceMethod yX7_sizeOf, Cond.selects RX7 yX7_sizeOf yX7_sizeOf, Cond.code yX7_sizeOf cX7_sizeOf 5 (some .int), Cond.methodLink RX7 160 yX7_orderByNumbers, Cond.instanceMethod yX7_orderByNumbers, Cond.selects RX7 yX7_orderByNumbers yX7_orderByNumbers, Cond.code yX7_orderByNumbers cX7_orderByNumbers 2 none, Cond.methodLink RX7 122 yX7_isThere, Cond.instanceMethod yX7_isThere, Cond.selects RX7 yX7_isThere yX7_isThere, Cond.code yX7_isThere cX7_isThere 2 (some .boolean), Cond.methodLink RX7 125 yX7_isFree, Cond.instanceMethod yX7_isFree, Cond.selects RX7 yX7_isFree yX7_isFree, Cond.code yX7_isFree cX7_isFree 4 (some .boolean), Cond.methodLink RX7 128 yX7_come, Cond.instanceMethod yX7_come, Cond.selects RX7 yX7_come yX7_come, Cond.code yX7_come cX7_come 2 none, Cond.methodLink RX7 163 yX7_labelOf, Cond.instanceMethod yX7_labelOf, Cond.selects RX7 yX7_labelOf yX7_labelOf]
def wsL_law0_r21 : List Cond := [Cond.code yX7_labelOf cX7_labelOf 8 none, Cond.methodLink RX7 166 yX7_orderByLabels, Cond.instanceMethod yX7_orderByLabels, Cond.selects RX7 yX7_orderByLabels yX7_orderByLabels, Cond.code yX7_orderByLabels cX7_orderByLabels 2 none, Cond.methodLink RX7 137 yX7_isUsed, Cond.instanceMethod yX7_isUsed, Cond.selects RX7 yX7_isUsed yX7_isUsed, Cond.code yX7_isUsed cX7_isUsed 4 (some .boolean), Cond.methodLink RX7 140 yX7_visit, Cond.instanceMethod yX7_visit, Cond.selects RX7 yX7_visit yX7_visit, Cond.code yX7_visit cX7_visit 3 none, Cond.fieldLink RX7 131 "ArenaPlanModel" "top" "I", Cond.methodLink RX7 134 yX7_due, Cond.instanceMethod yX7_due, Cond.selects RX7 yX7_due yX7_due, Cond.code yX7_due cX7_due 7 (some .int), Cond.methodLink RX7 169 yX7_findLives, Cond.instanceMethod yX7_findLives, Cond.selects RX7 yX7_findLives yX7_findLives, Cond.code yX7_findLives cX7_findLives 3 none, Cond.methodLink RX7 172 yX7_findPlaces, Cond.instanceMethod yX7_findPlaces]
def wsL_law0_r22 : List Cond := [Cond.selects RX7 yX7_findPlaces yX7_findPlaces, Cond.code yX7_findPlaces cX7_findPlaces 5 none, Cond.methodLink RX7 146 yX7_fits, Cond.instanceMethod yX7_fits, Cond.selects RX7 yX7_fits yX7_fits, Cond.code yX7_fits cX7_fits 6 (some .boolean), Cond.methodLink RL 96 yL_order, Cond.static yL_order, Cond.codeWith yL_order cL_order 4 (some .int) [(0, 9, 12, 26), (0, 9, 15, 33)], Cond.classLink RL 33 "java/lang/IndexOutOfBoundsException", Cond.methodLink RL 30 yX6_order, Cond.instanceMethod yX6_order, Cond.selects RX6 yX6_order yX6_order, Cond.code yX6_order cX6_order 2 (some .int), Cond.fieldLink RX6 176 "ArenaPlan$Plan" "sequence" "[I", Cond.methodLink RX6 169 yX6_needPlan, Cond.instanceMethod yX6_needPlan, Cond.selects RX6 yX6_needPlan yX6_needPlan, Cond.code yX6_needPlan cX6_needPlan 1 none, Cond.methodLink RX6 172 yX6_needWithin, Cond.static yX6_needWithin, Cond.code yX6_needWithin cX6_needWithin 2 none, Cond.classLink RX6 218 "java/lang/IndexOutOfBoundsException", Cond.initialized "java/lang/IndexOutOfBoundsException"]
def wsL_law0_r23 : List Cond := [Cond.methodLink RL 98 yX7_order, Cond.instanceMethod yX7_order, Cond.selects RX7 yX7_order yX7_order, Cond.code yX7_order cX7_order 2 (some .int), Cond.methodLink RL 99 yL_about, Cond.static yL_about, Cond.codeWith yL_about cL_about 5 (some .int) [(0, 10, 13, 26), (0, 10, 17, 33)], Cond.methodLink RL 35 yX6_about, Cond.instanceMethod yX6_about, Cond.selects RX6 yX6_about yX6_about, Cond.code yX6_about cX6_about 3 (some .int), Cond.fieldLink RX6 179 "ArenaPlan$Plan" "size" "[I", Cond.fieldLink RX6 182 "ArenaPlan$Plan" "step" "[I", Cond.fieldLink RX6 185 "ArenaPlan$Plan" "last" "[I", Cond.fieldLink RX6 188 "ArenaPlan$Places" "start" "[I", Cond.fieldLink RX6 191 "ArenaPlan$Plan" "label" "[I", Cond.methodLink RL 102 yX7_about, Cond.instanceMethod yX7_about, Cond.selects RX7 yX7_about yX7_about, Cond.code yX7_about cX7_about 3 (some .int), Cond.methodLink RL 103 yL_cost, Cond.static yL_cost, Cond.codeWith yL_cost cL_cost 4 (some .int) [(0, 9, 12, 26), (0, 9, 15, 33)], Cond.methodLink RL 39 yX6_cost]
def wsL_law0_r24 : List Cond := [Cond.instanceMethod yX6_cost, Cond.selects RX6 yX6_cost yX6_cost, Cond.code yX6_cost cX6_cost 2 (some .int), Cond.fieldLink RX6 194 "ArenaPlan$Plan" "costOf" "[I", Cond.methodLink RL 105 yX7_cost, Cond.instanceMethod yX7_cost, Cond.selects RX7 yX7_cost yX7_cost, Cond.code yX7_cost cX7_cost 2 (some .int), Cond.methodLink RX7 181 yX7_costOf, Cond.instanceMethod yX7_costOf, Cond.selects RX7 yX7_costOf yX7_costOf, Cond.code yX7_costOf cX7_costOf 4 (some .int), Cond.methodLink RL 106 yL_peak, Cond.static yL_peak, Cond.codeWith yL_peak cL_peak 3 (some .int) [(0, 8, 11, 26)], Cond.methodLink RL 42 yX6_peak, Cond.instanceMethod yX6_peak, Cond.selects RX6 yX6_peak yX6_peak, Cond.code yX6_peak cX6_peak 1 (some .int), Cond.fieldLink RX6 197 "ArenaPlan$Plan" "greatestCost" "I", Cond.methodLink RL 109 yX7_peak, Cond.instanceMethod yX7_peak, Cond.selects RX7 yX7_peak yX7_peak, Cond.code yX7_peak cX7_peak 3 (some .int)]
def wsL_law0_r25 : List Cond := [Cond.methodLink RL 110 yL_least, Cond.static yL_least, Cond.codeWith yL_least cL_least 3 (some .int) [(0, 8, 11, 26)], Cond.methodLink RL 46 yX6_least, Cond.instanceMethod yX6_least, Cond.selects RX6 yX6_least yX6_least, Cond.code yX6_least cX6_least 1 (some .int), Cond.methodLink RX6 200 yX2_find, Cond.instanceMethod yX2_find, Cond.selects RX2 yX2_find yX2_find, Cond.code yX2_find cX2_find 3 (some .int), Cond.fieldLink RX2 19 "ArenaPlan$Plan" "length" "I", Cond.fieldLink RX2 25 "ArenaPlan$Plan" "greatestCost" "I", Cond.methodLink RX2 28 yJ7_fill_53178, Cond.methodLink RX2 34 yX2_goOn, Cond.instanceMethod yX2_goOn, Cond.selects RX2 yX2_goOn yX2_goOn, Cond.code yX2_goOn cX2_goOn 6 none, Cond.fieldLink RX2 46 "ArenaPlan$Plan" "dependencies" "[I", Cond.fieldLink RX2 55 "ArenaPlan$Plan" "size" "[I", Cond.methodLink RX2 58 Lib.Math.max.name, Cond.methodLink RX2 64 Lib.Math.min.name, Cond.methodLink RX2 38 yX2_heldAfter, Cond.instanceMethod yX2_heldAfter]
def wsL_law0_r26 : List Cond := [Cond.selects RX2 yX2_heldAfter yX2_heldAfter, Cond.code yX2_heldAfter cX2_heldAfter 5 (some .int), Cond.fieldLink RX2 67 "ArenaPlan$Plan" "graph" "LArenaPlan$Graph;", Cond.fieldLink RX2 71 "ArenaPlan$Graph" "kept" "[Z", Cond.fieldLink RX2 77 "ArenaPlan$Plan" "dependents" "[I", Cond.methodLink RL 112 yX7_least, Cond.instanceMethod yX7_least, Cond.selects RX7 yX7_least yX7_least, Cond.code yX7_least cX7_least 1 (some .int), Cond.methodLink RX7 193 yX7_findLeast, Cond.instanceMethod yX7_findLeast, Cond.selects RX7 yX7_findLeast yX7_findLeast, Cond.code yX7_findLeast cX7_findLeast 8 none, Cond.methodLink RX7 187 yX7_stays, Cond.instanceMethod yX7_stays, Cond.selects RX7 yX7_stays yX7_stays, Cond.code yX7_stays cX7_stays 5 (some .int), Cond.methodLink RX7 184 yX7_users, Cond.instanceMethod yX7_users, Cond.selects RX7 yX7_users yX7_users, Cond.code yX7_users cX7_users 4 (some .int), Cond.methodLink RX7 190 yX7_needed, Cond.instanceMethod yX7_needed, Cond.selects RX7 yX7_needed yX7_needed]
def wsL_law0_r27 : List Cond := [Cond.code yX7_needed cX7_needed 4 (some .int), Cond.methodLink RL 113 yL_run, Cond.static yL_run, Cond.codeWith yL_run cL_run 3 (some .int) [(0, 8, 11, 26)], Cond.methodLink RL 49 yX6_run, Cond.instanceMethod yX6_run, Cond.selects RX6 yX6_run yX6_run, Cond.code yX6_run cX6_run 1 (some .int), Cond.methodLink RX6 203 yX0_work, Cond.instanceMethod yX0_work, Cond.selects RX0 yX0_work yX0_work, Cond.code yX0_work cX0_work 5 (some .int), Cond.fieldLink RX0 39 "ArenaPlan$Plan" "length" "I", Cond.fieldLink RX0 43 "ArenaPlan$Plan" "sequence" "[I", Cond.fieldLink RX0 46 "ArenaPlan$Plan" "size" "[I", Cond.fieldLink RX0 49 "ArenaPlan$Places" "start" "[I", Cond.methodLink RX0 33 yJ7_fill_53178, Cond.methodLink RX0 52 yX0_workOut, Cond.instanceMethod yX0_workOut, Cond.selects RX0 yX0_workOut yX0_workOut, Cond.code yX0_workOut cX0_workOut 6 (some .int), Cond.fieldLink RX0 56 "ArenaPlan$Graph" "source" "[[I", Cond.fieldLink RX0 62 "ArenaPlan$Graph" "operation" "[I", Cond.fieldLink RX0 65 "ArenaPlan$Graph" "given" "[[I"]
def wsL_law0_r28 : List Cond := [Cond.fieldLink RX0 71 "ArenaPlan$Graph" "p" "[I", Cond.methodLink RX0 68 yX0_valueOf, Cond.instanceMethod yX0_valueOf, Cond.selects RX0 yX0_valueOf yX0_valueOf, Cond.code yX0_valueOf cX0_valueOf 3 (some .int), Cond.methodLink RX0 74 yX0_totalOf, Cond.instanceMethod yX0_totalOf, Cond.selects RX0 yX0_totalOf yX0_totalOf, Cond.code yX0_totalOf cX0_totalOf 4 (some .int), Cond.methodLink RL 115 yX7_run, Cond.instanceMethod yX7_run, Cond.selects RX7 yX7_run yX7_run, Cond.code yX7_run cX7_run 5 (some .int), Cond.methodLink RX7 196 yX7_work, Cond.instanceMethod yX7_work, Cond.selects RX7 yX7_work yX7_work, Cond.code yX7_work cX7_work 9 none, Cond.methodLink RL 116 yL_cell, Cond.static yL_cell, Cond.codeWith yL_cell cL_cell 4 (some .int) [(0, 9, 12, 26), (0, 9, 15, 33)], Cond.methodLink RL 52 yX6_cell, Cond.instanceMethod yX6_cell, Cond.selects RX6 yX6_cell yX6_cell, Cond.code yX6_cell cX6_cell 2 (some .int)]
def wsL_law0_r29 : List Cond := [Cond.fieldLink RX6 209 "ArenaPlan$Cells" "value" "[I", Cond.methodLink RX6 206 yX6_needRun, Cond.instanceMethod yX6_needRun, Cond.selects RX6 yX6_needRun yX6_needRun, Cond.code yX6_needRun cX6_needRun 1 none, Cond.methodLink RL 118 yX7_cell, Cond.instanceMethod yX7_cell, Cond.selects RX7 yX7_cell yX7_cell, Cond.code yX7_cell cX7_cell 2 (some .int), Cond.methodLink RL 119 yL_result, Cond.static yL_result, Cond.codeWith yL_result cL_result 5 (some .int) [(0, 10, 13, 26), (0, 10, 17, 21), (0, 10, 21, 33)], Cond.methodLink RL 55 yX6_result, Cond.instanceMethod yX6_result, Cond.selects RX6 yX6_result yX6_result, Cond.code yX6_result cX6_result 3 (some .int), Cond.methodLink RL 121 yX7_result, Cond.instanceMethod yX7_result, Cond.selects RX7 yX7_result yX7_result, Cond.code yX7_result cX7_result 3 (some .int)]
def wsL_law0 : List Cond := (wsL_law0_r1 ++ (wsL_law0_r2 ++ (wsL_law0_r3 ++ (wsL_law0_r4 ++ (wsL_law0_r5 ++ (wsL_law0_r6 ++ (wsL_law0_r7 ++ (wsL_law0_r8 ++ (wsL_law0_r9 ++ (wsL_law0_r10 ++ (wsL_law0_r11 ++ (wsL_law0_r12 ++ (wsL_law0_r13 ++ (wsL_law0_r14 ++ (wsL_law0_r15 ++ (wsL_law0_r16 ++ (wsL_law0_r17 ++ (wsL_law0_r18 ++ (wsL_law0_r19 ++ (wsL_law0_r20 ++ (wsL_law0_r21 ++ (wsL_law0_r22 ++ (wsL_law0_r23 ++ (wsL_law0_r24 ++ (wsL_law0_r25 ++ (wsL_law0_r26 ++ (wsL_law0_r27 ++ (wsL_law0_r28 ++ wsL_law0_r29)))))))))))))))))))))))))))) ++ wsX60 ++ wsX70 ++ wsX10 ++ wsX50 ++ wsX40 ++ wsX30 ++ wsX00 ++ wsX20 ++ ([] : List Cond)
def wsL_law : List Cond := wsL_law0 ++ (vx_atM "java/lang/ArrayIndexOutOfBoundsException" ["java/lang/IndexOutOfBoundsException", "java/lang/RuntimeException", "java/lang/Exception"]).filter goodWord ++ (vx_atS RX6 65 "java/lang/IllegalArgumentException" ["java/lang/RuntimeException", "java/lang/Exception"]).filter goodWord ++ (vx_atS RX6 76 "java/lang/UnsupportedOperationException" ["java/lang/RuntimeException", "java/lang/Exception"]).filter goodWord ++ (vx_atSX RX6 124 "java/util/NoSuchElementException" 13 prog_23_method_4_code ["java/lang/RuntimeException", "java/lang/Exception"]).filter goodWord ++ (vx_atS RX6 140 "java/lang/IllegalStateException" ["java/lang/RuntimeException", "java/lang/Exception"]).filter goodWord ++ (vx_atS RX6 148 "java/lang/ArithmeticException" ["java/lang/RuntimeException", "java/lang/Exception"]).filter goodWord ++ (vx_atS RX6 222 "java/lang/IndexOutOfBoundsException" ["java/lang/RuntimeException", "java/lang/Exception"]).filter goodWord
abbrev vwCl : List vw_C := [(RJ0, TJ0, 2), (RJx00060, TJx00060, 6), (RX0, TX0, 4), (RX1, TX1, 7), (RX2, TX2, 2), (RX3, TX3, 4), (RX4, TX4, 12), (RX5, TX5, 5), (RX6, TX6, 9), (RX7, TX7, 30)]
end
section
/-! ===== the ground: a memory of ints by cell and place; what cells lie in the heap; the judgement apV ===== -/
/-- the ints of all cells: cell, place -/
abbrev apM : Type := Nat → Nat → Int32
def mst (σ : apM) (k i : Nat) (v : Int32) : apM := fun k' => if k' = k then upd (σ k) i v else σ k'
theorem mst_k {σ : apM} {k i k' : Nat} {v : Int32} (h : ¬ k' = k) : mst σ k i v k' = σ k' := by unfold mst; rw [if_neg h]
theorem mst_e {σ : apM} {k i : Nat} {v : Int32} : mst σ k i v k = upd (σ k) i v := by unfold mst; rw [if_pos rfl]
/-- a cell's kind: an object (class, fields: a cell's number, or none for an int), an array of ints (type, length), a row of references (type, length, first cell) -/
abbrev apK : Type := (Nat × List (Option Nat)) ⊕ ((Nat × Nat) ⊕ (Nat × Nat × Nat))
def apF (q : Nat → Nat) (f : Nat → Int32) : Nat → List (Option Nat) → List Value
  | _, [] => []
  | j, none :: r => .int (f j) :: apF q f (j + 1) r
  | j, some k :: r => .ref (q k) :: apF q f (j + 1) r
def apE (q : Nat → Nat) (d : Nat → ClassId) (f : Nat → Int32) : apK → va_E
  | .inl (c, fl) => .inr (c, apF q f 0 fl)
  | .inr (.inl (t, n)) => if t = 3 then .inl (d t, (n, .inr (.inl (fun i => (f i).toInt64)))) else .inl (d t, (n, .inl f))
  | .inr (.inr (t, n, b)) => .inl (d t, (n, .inr (.inr (.inr (.inr (fun i => some (q (b + i))))))))
def apL (q : Nat → Nat) (d : Nat → ClassId) (σ : apM) : Nat → List apK → va_W
  | _, [] => []
  | k, x :: r => (q k, apE q d (σ k) x) :: apL q d σ (k + 1) r
/-- the cells of a layout -/
def apU (lay : List apK) (q : Nat → Nat) (d : Nat → ClassId) (σ : apM) : va_W := apL q d σ 0 lay
abbrev apT (d : Nat → ClassId) : List (ClassId × FieldType) := [(d 0, .int), (d 1, .boolean), (d 2, .array .int), (d 3, .long)]
theorem apF_get {q : Nat → Nat} {f : Nat → Int32} : ∀ {fl : List (Option Nat)} {j b : Nat} {x : Option Nat}, fl[j]? = some x → (apF q f b fl)[j]? = some (match x with | none => .int (f (b + j)) | some k => .ref (q k)) := by
  intro fl
  induction fl with
  | nil => intro j b x h; simp at h
  | cons y r ih =>
    intro j b x h
    cases j with
    | zero =>
      rw [List.getElem?_cons_zero] at h
      cases h
      cases y <;> rfl
    | succ j =>
      rw [List.getElem?_cons_succ] at h
      have h2 := ih (b := b + 1) h
      cases y <;> (unfold apF; rw [List.getElem?_cons_succ, h2, show b + 1 + j = b + (j + 1) by omega])
theorem apF_set {q : Nat → Nat} {f : Nat → Int32} {v : Int32} : ∀ {fl : List (Option Nat)} {j b : Nat}, fl[j]? = some none → (apF q f b fl).set j (.int v) = apF q (upd f (b + j) v) b fl := by
  have keep : ∀ (fl : List (Option Nat)) (b j : Nat), j < b → apF q (upd f j v) b fl = apF q f b fl := by
    intro fl
    induction fl with
    | nil => intro b j h; rfl
    | cons y r ih =>
      intro b j h
      cases y with
      | none =>
        unfold apF
        rw [ih (b + 1) j (by omega)]
        simp [upd, show ¬ b = j by omega]
      | some k =>
        unfold apF
        rw [ih (b + 1) j (by omega)]
  intro fl
  induction fl with
  | nil => intro j b h; simp at h
  | cons y r ih =>
    intro j b h
    cases j with
    | zero =>
      rw [List.getElem?_cons_zero] at h
      cases h
      unfold apF
      rw [List.set_cons_zero, keep r (b + 1) (b + 0) (by omega)]
      simp [upd]
    | succ j =>
      rw [List.getElem?_cons_succ] at h
      have h2 := ih (b := b + 1) h
      cases y with
      | none =>
        unfold apF
        rw [List.set_cons_succ, h2, show b + 1 + j = b + (j + 1) by omega]
        simp [upd, show ¬ b = b + (j + 1) by omega]
      | some k =>
        unfold apF
        rw [List.set_cons_succ, h2, show b + 1 + j = b + (j + 1) by omega]
theorem apL_get {q : Nat → Nat} {d : Nat → ClassId} {σ : apM} : ∀ {lay : List apK} {k b : Nat} {x : apK}, lay[k]? = some x → (apL q d σ b lay)[k]? = some (q (b + k), apE q d (σ (b + k)) x) := by
  intro lay
  induction lay with
  | nil => intro k b x h; simp at h
  | cons y r ih =>
    intro k b x h
    cases k with
    | zero =>
      rw [List.getElem?_cons_zero] at h
      cases h
      rfl
    | succ k =>
      rw [List.getElem?_cons_succ] at h
      unfold apL
      rw [List.getElem?_cons_succ, ih (b := b + 1) h, show b + 1 + k = b + (k + 1) by omega]
theorem apU_get {lay : List apK} {q : Nat → Nat} {d : Nat → ClassId} {σ : apM} {k : Nat} {x : apK} (h : lay[k]? = some x) : (apU lay q d σ)[k]? = some (q k, apE q d (σ k) x) := by
  have := apL_get (q := q) (d := d) (σ := σ) (b := 0) h
  rw [Nat.zero_add] at this
  exact this
theorem apL_set {q : Nat → Nat} {d : Nat → ClassId} {σ σ' : apM} : ∀ {lay : List apK} {k b : Nat} {x : apK}, lay[k]? = some x → (∀ k', k' ≠ b + k → σ' k' = σ k') → (apL q d σ b lay).set k (q (b + k), apE q d (σ' (b + k)) x) = apL q d σ' b lay := by
  have keep : ∀ (lay : List apK) (b k : Nat), k < b → (∀ k', k' ≠ k → σ' k' = σ k') → apL q d σ' b lay = apL q d σ b lay := by
    intro lay
    induction lay with
    | nil => intro b k h hs; rfl
    | cons y r ih =>
      intro b k h hs
      unfold apL
      rw [ih (b + 1) k (by omega) hs, hs b (by omega)]
  intro lay
  induction lay with
  | nil => intro k b x h; simp at h
  | cons y r ih =>
    intro k b x h hs
    cases k with
    | zero =>
      rw [List.getElem?_cons_zero] at h
      cases h
      unfold apL
      rw [List.set_cons_zero, keep r (b + 1) (b + 0) (by omega) hs]
      rfl
    | succ k =>
      rw [List.getElem?_cons_succ] at h
      have h2 := ih (b := b + 1) h (fun k' hk => hs k' (by omega))
      unfold apL
      rw [List.set_cons_succ, ← h2, show b + 1 + k = b + (k + 1) by omega, hs b (by omega)]
theorem apU_set {lay : List apK} {q : Nat → Nat} {d : Nat → ClassId} {σ σ' : apM} {k : Nat} {x : apK} (h : lay[k]? = some x) (hs : ∀ k', k' ≠ k → σ' k' = σ k') : (apU lay q d σ).set k (q k, apE q d (σ' k) x) = apU lay q d σ' := by
  have := apL_set (q := q) (d := d) (σ := σ) (σ' := σ') (b := 0) h (by rw [Nat.zero_add]; exact hs)
  rw [Nat.zero_add] at this
  exact this
/-- an array's int; a store; none where the index is outside -/
def ald (σ : apM) (k n : Nat) (i : Int32) : Option Int32 := if 0 ≤ i ∧ i.toNatClampNeg < n then some (σ k i.toNatClampNeg) else none
def ast (σ : apM) (k n : Nat) (i : Int32) (v : Int32) : Option apM := if 0 ≤ i ∧ i.toNatClampNeg < n then some (mst σ k i.toNatClampNeg v) else none
def rix (n : Nat) (i : Int32) : Option Nat := if 0 ≤ i ∧ i.toNatClampNeg < n then some i.toNatClampNeg else none
def bz (v : Int32) : Option Int32 := if v = 0 ∨ v = 1 then some v else none
theorem ix_in {i : Int32} {n : Nat} (h : 0 ≤ i ∧ i.toNatClampNeg < n) : vp_in i n := by
  intro g
  rcases g with g | g
  · exact absurd g (by have := h.1; rw [Int32.lt_iff_toInt_lt]; rw [Int32.le_iff_toInt_le] at this; omega)
  · omega
theorem ald_some {σ : apM} {k n : Nat} {i v : Int32} (h : ald σ k n i = some v) : vp_in i n ∧ σ k i.toNatClampNeg = v := by
  unfold ald at h
  split at h
  · next c => exact ⟨ix_in c, Option.some.inj h⟩
  · cases h
theorem ast_some {σ σ' : apM} {k n : Nat} {i v : Int32} (h : ast σ k n i v = some σ') : vp_in i n ∧ mst σ k i.toNatClampNeg v = σ' := by
  unfold ast at h
  split at h
  · next c => exact ⟨ix_in c, Option.some.inj h⟩
  · cases h
theorem rix_some {n j : Nat} {i : Int32} (h : rix n i = some j) : vp_in i n ∧ i.toNatClampNeg = j ∧ j < n := by
  unfold rix at h
  split at h
  · next c => cases h; exact ⟨ix_in c, rfl, c.2⟩
  · cases h
theorem bz_some {v w : Int32} (h : bz v = some w) : v = w ∧ (v = 0 ∨ v = 1) := by
  unfold bz at h
  split at h
  · next c => exact ⟨Option.some.inj h, c⟩
  · cases h
/-- a loop: the body gives the next state or the end -/
def lp {S E : Type} : Nat → (S → Option (S ⊕ E)) → S → Option E
  | 0, _, _ => none
  | n + 1, b, s => match b s with
    | none => none
    | some (.inl s') => lp n b s'
    | some (.inr e) => some e
def FU : Nat := 5000
/-- the whole array filled, from the place i on, with v -/
def mfl (σ : apM) (k : Nat) (v : Int32) : Nat → apM
  | 0 => σ
  | n + 1 => mst (mfl σ k v n) k n v
/-! the frame of a method in which a judgement stands -/
abbrev apC : Type := (Program × Launch × Env × Room × State) × ((MethodId × Array Value × List Frame × Method × Code) × ((State → Prop) × va_G × (Nat → ClassId) × (Nat → Prop)))
abbrev apW (Γ : apC) (H : Heap) (locs : List Loc) (cn sn : Nat) (g : JFrame) : Prop := W Γ.1.1 Γ.1.2.1 Γ.1.2.2.1 Γ.1.2.2.2.1 Γ.1.2.2.2.2 Γ.2.1.1 Γ.2.1.2.1 Γ.2.1.2.2.1 Γ.2.1.2.2.2.1 Γ.2.1.2.2.2.2 H locs cn sn Γ.2.2.1 g
abbrev apS (Γ : apC) : State := Γ.1.2.2.2.2
abbrev apA (Γ : apC) : Nat → Prop := Γ.2.2.2.2.2
abbrev apD (Γ : apC) : va_G := Γ.2.2.2.1
abbrev apd (Γ : apC) : Nat → ClassId := Γ.2.2.2.2.1
/-- the heap H holds the cells w; since the start nothing else has changed -/
def apH (Γ : apC) (w : va_W) (H : Heap) (locs : List Loc) : Prop := va_P (apD Γ) vwCl w H ∧ va_D (apA Γ) w ∧ va_S (apA Γ) (apS Γ).heap H locs
/-- from pc, with these locals, this stack and these cells, the machine comes to the method's due end -/
def apV (Γ : apC) (nL : Nat) (w : va_W) (cn sn : Nat) (pc : Nat) (L : List (Nat × Value)) (st : List Value) : Prop :=
  ∀ (H : Heap) (locs : List Loc) (ls : Array Slot), apH Γ w H locs → lv_has ls nL L → apW Γ H locs cn sn (F0 Γ.2.1.1 pc ls st)
/-- what a method's body may use: code, names, tables, room, what it may change, what else is known of the start -/
def apG (Γ : apC) (cc : ByteArray) (nL : Nat) (own : String) (Ts : List Cond) (rm : Room) (X : (Nat → Prop) → State → Prop) : Prop :=
  Γ.1.1.tables.exec = Jvm.exec ∧ Γ.2.1.2.2.2.2.code = cc ∧ Γ.2.1.2.2.2.2.maxLocals = nL ∧ (apS Γ).vm.findClass own = some Γ.2.1.1.cls ∧ (∀ w ∈ Ts, w.before Γ.2.1.2.1 (apS Γ) = true) ∧
  va_K (apD Γ) vwCl (apT (apd Γ)) (apS Γ) ∧ Γ.1.2.2.2.1 = rm ∧ (∀ q : Nat, (apS Γ).heap.size ≤ q → apA Γ q) ∧ X (apA Γ) (apS Γ) ∧ Γ.2.1.2.2.2.1.locks = false
/-- the method may end with this answer over these cells -/
def apR (Γ : apC) (cc : ByteArray) (mc ms : Nat) (r : Option Int32) (w : va_W) : Prop :=
  match r with
  | some v => ∀ (pc : Nat) (H : Heap) (locs : List Loc) (ls : Array Slot), apH Γ w H locs → decode cc pc = .ok (.ireturn, 1) → apW Γ H locs mc ms (F0 Γ.2.1.1 pc ls [.int v])
  | none => ∀ (pc : Nat) (H : Heap) (locs : List Loc) (ls : Array Slot), apH Γ w H locs → decode cc pc = .ok (.return_, 1) → apW Γ H locs mc ms (F0 Γ.2.1.1 pc ls [])
end
section
/-! ===== the rows of apV, an instruction a row ===== -/
section APR
variable {Γ : apC} {cc : ByteArray} {nL : Nat} {own : String} {Ts : List Cond} {rm : Room} {X : (Nat → Prop) → State → Prop} {w : va_W} {cn sn pc : Nat} {L L' : List (Nat × Value)} {st : List Value}
theorem v_iconst (G : apG Γ cc nL own Ts rm X) {n : Int} {v : Int32} (hd : decode cc pc = .ok (.iconst n, 1)) (hv : Int32.ofInt n = v) (kk : apV Γ nL w cn sn (pc + 1) L (.int v :: st)) : apV Γ nL w cn sn pc L st := fun H locs ls hH hL => lv_iconst G.1 G.2.1 hd hv (kk H locs ls hH hL)
theorem v_bipush (G : apG Γ cc nL own Ts rm X) {n : Int} {v : Int32} (hd : decode cc pc = .ok (.bipush n, 2)) (hv : (Int8.ofInt n).toInt32 = v) (kk : apV Γ nL w cn sn (pc + 2) L (.int v :: st)) : apV Γ nL w cn sn pc L st := fun H locs ls hH hL => lv_bipush G.1 G.2.1 hd hv (kk H locs ls hH hL)
theorem v_sipush (G : apG Γ cc nL own Ts rm X) {n : Int} {v : Int32} (hd : decode cc pc = .ok (.sipush n, 3)) (hv : (Int16.ofInt n).toInt32 = v) (kk : apV Γ nL w cn sn (pc + 3) L (.int v :: st)) : apV Γ nL w cn sn pc L st := fun H locs ls hH hL => lv_sipush G.1 G.2.1 hd hv (kk H locs ls hH hL)
theorem v_iload_n (G : apG Γ cc nL own Ts rm X) {k : Fin 4} {i : Nat} {x : Int32} (hd : decode cc pc = .ok (.iload_n k, 1)) (hi : (k : Nat) = i) (j : Nat) (hl : L[j]? = some (i, .int x)) (kk : apV Γ nL w cn sn (pc + 1) L (.int x :: st)) : apV Γ nL w cn sn pc L st := fun H locs ls hH hL => lv_iload_n G.1 G.2.1 hd hi (lv_at hL j hl) (kk H locs ls hH hL)
theorem v_iload (G : apG Γ cc nL own Ts rm X) {i : Nat} {x : Int32} (hd : decode cc pc = .ok (.iload i, 2)) (j : Nat) (hl : L[j]? = some (i, .int x)) (kk : apV Γ nL w cn sn (pc + 2) L (.int x :: st)) : apV Γ nL w cn sn pc L st := fun H locs ls hH hL => lv_iload G.1 G.2.1 hd (lv_at hL j hl) (kk H locs ls hH hL)
theorem v_aload_n (G : apG Γ cc nL own Ts rm X) {k : Fin 4} {i x : Nat} (hd : decode cc pc = .ok (.aload_n k, 1)) (hi : (k : Nat) = i) (j : Nat) (hl : L[j]? = some (i, .ref x)) (kk : apV Γ nL w cn sn (pc + 1) L (.ref x :: st)) : apV Γ nL w cn sn pc L st := fun H locs ls hH hL => lv_aload_n G.1 G.2.1 hd hi (lv_at hL j hl) (kk H locs ls hH hL)
theorem v_aload (G : apG Γ cc nL own Ts rm X) {i x : Nat} (hd : decode cc pc = .ok (.aload i, 2)) (j : Nat) (hl : L[j]? = some (i, .ref x)) (kk : apV Γ nL w cn sn (pc + 2) L (.ref x :: st)) : apV Γ nL w cn sn pc L st := fun H locs ls hH hL => lv_aload G.1 G.2.1 hd (lv_at hL j hl) (kk H locs ls hH hL)
theorem v_istore_n (G : apG Γ cc nL own Ts rm X) {k : Fin 4} {i : Nat} {x : Int32} (hd : decode cc pc = .ok (.istore_n k, 1)) (hi : (k : Nat) = i) (hn : i < nL) (hl : (i, Value.int x) :: L.filter (fun q => !(q.1 == i) && !(q.1 + 1 == i && q.2.category == 2)) = L') (kk : apV Γ nL w cn sn (pc + 1) L' st) : apV Γ nL w cn sn pc L (.int x :: st) := fun H locs ls hH hL => lv_istore_n G.1 G.2.1 hd hi hL hn hl (fun ls' hL' => kk H locs ls' hH hL')
theorem v_istore (G : apG Γ cc nL own Ts rm X) {i : Nat} {x : Int32} (hd : decode cc pc = .ok (.istore i, 2)) (hn : i < nL) (hl : (i, Value.int x) :: L.filter (fun q => !(q.1 == i) && !(q.1 + 1 == i && q.2.category == 2)) = L') (kk : apV Γ nL w cn sn (pc + 2) L' st) : apV Γ nL w cn sn pc L (.int x :: st) := fun H locs ls hH hL => lv_istore G.1 G.2.1 hd hL hn hl (fun ls' hL' => kk H locs ls' hH hL')
theorem v_astore_n (G : apG Γ cc nL own Ts rm X) {k : Fin 4} {i x : Nat} (hd : decode cc pc = .ok (.astore_n k, 1)) (hi : (k : Nat) = i) (hn : i < nL) (hl : (i, Value.ref x) :: L.filter (fun q => !(q.1 == i) && !(q.1 + 1 == i && q.2.category == 2)) = L') (kk : apV Γ nL w cn sn (pc + 1) L' st) : apV Γ nL w cn sn pc L (.ref x :: st) := fun H locs ls hH hL => lv_astore_n G.1 G.2.1 hd hi hL hn hl (fun ls' hL' => kk H locs ls' hH hL')
theorem v_astore (G : apG Γ cc nL own Ts rm X) {i x : Nat} (hd : decode cc pc = .ok (.astore i, 2)) (hn : i < nL) (hl : (i, Value.ref x) :: L.filter (fun q => !(q.1 == i) && !(q.1 + 1 == i && q.2.category == 2)) = L') (kk : apV Γ nL w cn sn (pc + 2) L' st) : apV Γ nL w cn sn pc L (.ref x :: st) := fun H locs ls hH hL => lv_astore G.1 G.2.1 hd hL hn hl (fun ls' hL' => kk H locs ls' hH hL')
theorem v_iinc (G : apG Γ cc nL own Ts rm X) {i : Nat} {n : Int} {x v : Int32} (hd : decode cc pc = .ok (.iinc i n, 3)) (j : Nat) (hj : L[j]? = some (i, .int x)) (hv : x + Int32.ofInt n = v) (hn : i < nL) (hl : (i, Value.int v) :: L.filter (fun q => !(q.1 == i) && !(q.1 + 1 == i && q.2.category == 2)) = L') (kk : apV Γ nL w cn sn (pc + 3) L' st) : apV Γ nL w cn sn pc L st := fun H locs ls hH hL => lv_iinc G.1 G.2.1 hd hL hj hv hn hl (fun ls' hL' => kk H locs ls' hH hL')
theorem v_iadd (G : apG Γ cc nL own Ts rm X) {x y : Int32} (hd : decode cc pc = .ok (.iadd, 1)) (kk : apV Γ nL w cn sn (pc + 1) L (.int (x + y) :: st)) : apV Γ nL w cn sn pc L (.int y :: .int x :: st) := fun H locs ls hH hL => lv_iadd G.1 G.2.1 hd (kk H locs ls hH hL)
theorem v_isub (G : apG Γ cc nL own Ts rm X) {x y : Int32} (hd : decode cc pc = .ok (.isub, 1)) (kk : apV Γ nL w cn sn (pc + 1) L (.int (x - y) :: st)) : apV Γ nL w cn sn pc L (.int y :: .int x :: st) := fun H locs ls hH hL => lv_isub G.1 G.2.1 hd (kk H locs ls hH hL)
theorem v_imul (G : apG Γ cc nL own Ts rm X) {x y : Int32} (hd : decode cc pc = .ok (.imul, 1)) (kk : apV Γ nL w cn sn (pc + 1) L (.int (x * y) :: st)) : apV Γ nL w cn sn pc L (.int y :: .int x :: st) := fun H locs ls hH hL => lv_imul G.1 G.2.1 hd (kk H locs ls hH hL)
theorem v_iand (G : apG Γ cc nL own Ts rm X) {x y : Int32} (hd : decode cc pc = .ok (.iand, 1)) (kk : apV Γ nL w cn sn (pc + 1) L (.int (x &&& y) :: st)) : apV Γ nL w cn sn pc L (.int y :: .int x :: st) := fun H locs ls hH hL => lv_iand G.1 G.2.1 hd (kk H locs ls hH hL)
theorem v_ior (G : apG Γ cc nL own Ts rm X) {x y : Int32} (hd : decode cc pc = .ok (.ior, 1)) (kk : apV Γ nL w cn sn (pc + 1) L (.int (x ||| y) :: st)) : apV Γ nL w cn sn pc L (.int y :: .int x :: st) := fun H locs ls hH hL => lv_ior G.1 G.2.1 hd (kk H locs ls hH hL)
theorem v_ixor (G : apG Γ cc nL own Ts rm X) {x y : Int32} (hd : decode cc pc = .ok (.ixor, 1)) (kk : apV Γ nL w cn sn (pc + 1) L (.int (x ^^^ y) :: st)) : apV Γ nL w cn sn pc L (.int y :: .int x :: st) := fun H locs ls hH hL => lv_ixor G.1 G.2.1 hd (kk H locs ls hH hL)
theorem v_ishl (G : apG Γ cc nL own Ts rm X) {x y : Int32} (hd : decode cc pc = .ok (.ishl, 1)) (kk : apV Γ nL w cn sn (pc + 1) L (.int (x <<< (y &&& 31)) :: st)) : apV Γ nL w cn sn pc L (.int y :: .int x :: st) := fun H locs ls hH hL => lv_ishl G.1 G.2.1 hd (kk H locs ls hH hL)
theorem v_ishr (G : apG Γ cc nL own Ts rm X) {x y : Int32} (hd : decode cc pc = .ok (.ishr, 1)) (kk : apV Γ nL w cn sn (pc + 1) L (.int (x >>> (y &&& 31)) :: st)) : apV Γ nL w cn sn pc L (.int y :: .int x :: st) := fun H locs ls hH hL => lv_ishr G.1 G.2.1 hd (kk H locs ls hH hL)
theorem v_idiv (G : apG Γ cc nL own Ts rm X) {x y : Int32} (hd : decode cc pc = .ok (.idiv, 1)) (hne : ¬ y = 0) (kk : apV Γ nL w cn sn (pc + 1) L (.int (x / y) :: st)) : apV Γ nL w cn sn pc L (.int y :: .int x :: st) := fun H locs ls hH hL => lv_idiv G.1 G.2.1 hd hne (kk H locs ls hH hL)
theorem v_ineg (G : apG Γ cc nL own Ts rm X) {x : Int32} (hd : decode cc pc = .ok (.ineg, 1)) (kk : apV Γ nL w cn sn (pc + 1) L (.int (-x) :: st)) : apV Γ nL w cn sn pc L (.int x :: st) := fun H locs ls hH hL => lv_ineg G.1 G.2.1 hd (kk H locs ls hH hL)
theorem v_dup (G : apG Γ cc nL own Ts rm X) {a : Value} (hd : decode cc pc = .ok (.dup, 1)) (ha : a.category = 1) (kk : apV Γ nL w cn sn (pc + 1) L (a :: a :: st)) : apV Γ nL w cn sn pc L (a :: st) := fun H locs ls hH hL => lv_dup G.1 G.2.1 hd ha (kk H locs ls hH hL)
theorem v_dup2 (G : apG Γ cc nL own Ts rm X) {a b : Value} (hd : decode cc pc = .ok (.dup2, 1)) (ha : a.category = 1) (hb : b.category = 1) (kk : apV Γ nL w cn sn (pc + 1) L (a :: b :: a :: b :: st)) : apV Γ nL w cn sn pc L (a :: b :: st) := fun H locs ls hH hL => lv_dup2_11 G.1 G.2.1 hd ha hb (kk H locs ls hH hL)
theorem v_pop (G : apG Γ cc nL own Ts rm X) {a : Value} (hd : decode cc pc = .ok (.pop, 1)) (ha : a.category = 1) (kk : apV Γ nL w cn sn (pc + 1) L st) : apV Γ nL w cn sn pc L (a :: st) := fun H locs ls hH hL => lv_pop G.1 G.2.1 hd ha (kk H locs ls hH hL)
theorem v_goto (G : apG Γ cc nL own Ts rm X) {off : Int} {tgt : Nat} (hd : decode cc pc = .ok (.goto off, 3)) (ht : (pc : Int) + off = (tgt : Int)) (kk : apV Γ nL w cn sn tgt L st) : apV Γ nL w cn sn pc L st := fun H locs ls hH hL => lv_goto G.1 G.2.1 hd ht (kk H locs ls hH hL)
theorem v_if_eq (G : apG Γ cc nL own Ts rm X) {x : Int32} {off : Int} {tgt : Nat} (hd : decode cc pc = .ok (.ifCond .eq off, 3)) (ht : (pc : Int) + off = (tgt : Int)) (kt : x = 0 → apV Γ nL w cn sn tgt L st) (kf : ¬ x = 0 → apV Γ nL w cn sn (pc + 3) L st) : apV Γ nL w cn sn pc L (.int x :: st) := fun H locs ls hH hL => lv_if_eq G.1 G.2.1 hd ht (fun c9 => kt c9 H locs ls hH hL) (fun c9 => kf c9 H locs ls hH hL)
theorem v_icmp_eq (G : apG Γ cc nL own Ts rm X) {x y : Int32} {off : Int} {tgt : Nat} (hd : decode cc pc = .ok (.if_icmp .eq off, 3)) (ht : (pc : Int) + off = (tgt : Int)) (kt : x = y → apV Γ nL w cn sn tgt L st) (kf : ¬ x = y → apV Γ nL w cn sn (pc + 3) L st) : apV Γ nL w cn sn pc L (.int y :: .int x :: st) := fun H locs ls hH hL => lv_icmp_eq G.1 G.2.1 hd ht (fun c9 => kt c9 H locs ls hH hL) (fun c9 => kf c9 H locs ls hH hL)
theorem v_if_ne (G : apG Γ cc nL own Ts rm X) {x : Int32} {off : Int} {tgt : Nat} (hd : decode cc pc = .ok (.ifCond .ne off, 3)) (ht : (pc : Int) + off = (tgt : Int)) (kt : ¬ x = 0 → apV Γ nL w cn sn tgt L st) (kf : x = 0 → apV Γ nL w cn sn (pc + 3) L st) : apV Γ nL w cn sn pc L (.int x :: st) := fun H locs ls hH hL => lv_if_ne G.1 G.2.1 hd ht (fun c9 => kt c9 H locs ls hH hL) (fun c9 => kf c9 H locs ls hH hL)
theorem v_icmp_ne (G : apG Γ cc nL own Ts rm X) {x y : Int32} {off : Int} {tgt : Nat} (hd : decode cc pc = .ok (.if_icmp .ne off, 3)) (ht : (pc : Int) + off = (tgt : Int)) (kt : ¬ x = y → apV Γ nL w cn sn tgt L st) (kf : x = y → apV Γ nL w cn sn (pc + 3) L st) : apV Γ nL w cn sn pc L (.int y :: .int x :: st) := fun H locs ls hH hL => lv_icmp_ne G.1 G.2.1 hd ht (fun c9 => kt c9 H locs ls hH hL) (fun c9 => kf c9 H locs ls hH hL)
theorem v_if_lt (G : apG Γ cc nL own Ts rm X) {x : Int32} {off : Int} {tgt : Nat} (hd : decode cc pc = .ok (.ifCond .lt off, 3)) (ht : (pc : Int) + off = (tgt : Int)) (kt : x < 0 → apV Γ nL w cn sn tgt L st) (kf : ¬ x < 0 → apV Γ nL w cn sn (pc + 3) L st) : apV Γ nL w cn sn pc L (.int x :: st) := fun H locs ls hH hL => lv_if_lt G.1 G.2.1 hd ht (fun c9 => kt c9 H locs ls hH hL) (fun c9 => kf c9 H locs ls hH hL)
theorem v_icmp_lt (G : apG Γ cc nL own Ts rm X) {x y : Int32} {off : Int} {tgt : Nat} (hd : decode cc pc = .ok (.if_icmp .lt off, 3)) (ht : (pc : Int) + off = (tgt : Int)) (kt : x < y → apV Γ nL w cn sn tgt L st) (kf : ¬ x < y → apV Γ nL w cn sn (pc + 3) L st) : apV Γ nL w cn sn pc L (.int y :: .int x :: st) := fun H locs ls hH hL => lv_icmp_lt G.1 G.2.1 hd ht (fun c9 => kt c9 H locs ls hH hL) (fun c9 => kf c9 H locs ls hH hL)
theorem v_if_ge (G : apG Γ cc nL own Ts rm X) {x : Int32} {off : Int} {tgt : Nat} (hd : decode cc pc = .ok (.ifCond .ge off, 3)) (ht : (pc : Int) + off = (tgt : Int)) (kt : 0 ≤ x → apV Γ nL w cn sn tgt L st) (kf : ¬ 0 ≤ x → apV Γ nL w cn sn (pc + 3) L st) : apV Γ nL w cn sn pc L (.int x :: st) := fun H locs ls hH hL => lv_if_ge G.1 G.2.1 hd ht (fun c9 => kt c9 H locs ls hH hL) (fun c9 => kf c9 H locs ls hH hL)
theorem v_icmp_ge (G : apG Γ cc nL own Ts rm X) {x y : Int32} {off : Int} {tgt : Nat} (hd : decode cc pc = .ok (.if_icmp .ge off, 3)) (ht : (pc : Int) + off = (tgt : Int)) (kt : y ≤ x → apV Γ nL w cn sn tgt L st) (kf : ¬ y ≤ x → apV Γ nL w cn sn (pc + 3) L st) : apV Γ nL w cn sn pc L (.int y :: .int x :: st) := fun H locs ls hH hL => lv_icmp_ge G.1 G.2.1 hd ht (fun c9 => kt c9 H locs ls hH hL) (fun c9 => kf c9 H locs ls hH hL)
theorem v_if_gt (G : apG Γ cc nL own Ts rm X) {x : Int32} {off : Int} {tgt : Nat} (hd : decode cc pc = .ok (.ifCond .gt off, 3)) (ht : (pc : Int) + off = (tgt : Int)) (kt : 0 < x → apV Γ nL w cn sn tgt L st) (kf : ¬ 0 < x → apV Γ nL w cn sn (pc + 3) L st) : apV Γ nL w cn sn pc L (.int x :: st) := fun H locs ls hH hL => lv_if_gt G.1 G.2.1 hd ht (fun c9 => kt c9 H locs ls hH hL) (fun c9 => kf c9 H locs ls hH hL)
theorem v_icmp_gt (G : apG Γ cc nL own Ts rm X) {x y : Int32} {off : Int} {tgt : Nat} (hd : decode cc pc = .ok (.if_icmp .gt off, 3)) (ht : (pc : Int) + off = (tgt : Int)) (kt : y < x → apV Γ nL w cn sn tgt L st) (kf : ¬ y < x → apV Γ nL w cn sn (pc + 3) L st) : apV Γ nL w cn sn pc L (.int y :: .int x :: st) := fun H locs ls hH hL => lv_icmp_gt G.1 G.2.1 hd ht (fun c9 => kt c9 H locs ls hH hL) (fun c9 => kf c9 H locs ls hH hL)
theorem v_if_le (G : apG Γ cc nL own Ts rm X) {x : Int32} {off : Int} {tgt : Nat} (hd : decode cc pc = .ok (.ifCond .le off, 3)) (ht : (pc : Int) + off = (tgt : Int)) (kt : x ≤ 0 → apV Γ nL w cn sn tgt L st) (kf : ¬ x ≤ 0 → apV Γ nL w cn sn (pc + 3) L st) : apV Γ nL w cn sn pc L (.int x :: st) := fun H locs ls hH hL => lv_if_le G.1 G.2.1 hd ht (fun c9 => kt c9 H locs ls hH hL) (fun c9 => kf c9 H locs ls hH hL)
theorem v_icmp_le (G : apG Γ cc nL own Ts rm X) {x y : Int32} {off : Int} {tgt : Nat} (hd : decode cc pc = .ok (.if_icmp .le off, 3)) (ht : (pc : Int) + off = (tgt : Int)) (kt : x ≤ y → apV Γ nL w cn sn tgt L st) (kf : ¬ x ≤ y → apV Γ nL w cn sn (pc + 3) L st) : apV Γ nL w cn sn pc L (.int y :: .int x :: st) := fun H locs ls hH hL => lv_icmp_le G.1 G.2.1 hd ht (fun c9 => kt c9 H locs ls hH hL) (fun c9 => kf c9 H locs ls hH hL)
theorem v_tableOut (G : apG Γ cc nL own Ts rm X) {dflt lo hi : Int} {offs : Array Int} {len tgt : Nat} {x : Int32} (hd : decode cc pc = .ok (.tableswitch dflt lo hi offs, len)) (h : x.toInt < lo ∨ hi < x.toInt) (ht : (pc : Int) + dflt = (tgt : Int)) (kk : apV Γ nL w cn sn tgt L st) : apV Γ nL w cn sn pc L (.int x :: st) := fun H locs ls hH hL => lv_tableOut G.1 G.2.1 hd h ht (kk H locs ls hH hL)
theorem v_tableIn (G : apG Γ cc nL own Ts rm X) {dflt lo hi : Int} {offs : Array Int} {len tgt : Nat} {x : Int32} {off : Int} (hd : decode cc pc = .ok (.tableswitch dflt lo hi offs, len)) (h1 : ¬ x.toInt < lo) (h2 : ¬ hi < x.toInt) (ho : offs[(x.toInt - lo).toNat]? = some off) (ht : (pc : Int) + off = (tgt : Int)) (kk : apV Γ nL w cn sn tgt L st) : apV Γ nL w cn sn pc L (.int x :: st) := fun H locs ls hH hL => lv_tableIn G.1 G.2.1 hd h1 h2 ho ht (kk H locs ls hH hL)
theorem v_lookup (G : apG Γ cc nL own Ts rm X) {dflt : Int} {ps : Array (Int × Int)} {len tgt : Nat} {x : Int32} {off : Int} (hd : decode cc pc = .ok (.lookupswitch dflt ps, len)) (hp : (ps.toList.zip (ps.toList.drop 1)).all (fun (a, next) => a.1 < next.1) = true) (ho : Op.lookupswitch.offset ps.toList dflt x.toInt = off) (ht : (pc : Int) + off = (tgt : Int)) (kk : apV Γ nL w cn sn tgt L st) : apV Γ nL w cn sn pc L (.int x :: st) := fun H locs ls hH hL => lv_lookup G.1 G.2.1 hd hp ho ht (kk H locs ls hH hL)
theorem v_locs (ks : List Nat) (hl : lv_pick L ks = L') (kk : apV Γ nL w cn sn pc L' st) : apV Γ nL w cn sn pc L st := fun H locs ls hH hL => kk H locs ls hH (lv_sub hL ks hl)
theorem v_w {w' : va_W} (h : w = w') (kk : apV Γ nL w' cn sn pc L st) : apV Γ nL w cn sn pc L st := h ▸ kk
section FLD
variable {lay : List apK} {q : Nat → Nat} {σ : apM}
theorem v_getr (G : apG Γ cc nL own Ts rm X) {ref C : String} {T : u_T} {N ci index k k' : Nat} {fl : List (Option Nat)} (hin : ∀ w ∈ u_ws C T N, w ∈ Ts) (hk : lay[k]? = some (.inl (ci, fl))) (hc : vwCl[ci]? = some (C, T, N)) (j : Nat) (hj : j < N) (hlink : Cond.fieldLink own index ref (T j).2.1 (T j).2.2.1 ∈ Ts) (href : (T j).1 = ref) (hv : fl[j]? = some (some k')) (hd : decode cc pc = .ok (.getfield index, 3))
    (kk : apV Γ nL (apU lay q (apd Γ) σ) cn sn (pc + 3) L (.ref (q k') :: st)) : apV Γ nL (apU lay q (apd Γ) σ) cn sn pc L (.ref (q k) :: st) := fun H locs ls hH hL =>
  va_get G.1 G.2.1 G.2.2.2.2.1 hin G.2.2.2.1 G.2.2.2.2.2.1 hH.1 k (apU_get hk) hc j hj (G.2.2.2.2.1 _ hlink) (fun x h => by rw [← href]; exact h) (apF_get (q := q) (f := σ k) (b := 0) hv) hd (kk H locs ls hH hL)
theorem v_geti (G : apG Γ cc nL own Ts rm X) {ref C : String} {T : u_T} {N ci index k : Nat} {fl : List (Option Nat)} (hin : ∀ w ∈ u_ws C T N, w ∈ Ts) (hk : lay[k]? = some (.inl (ci, fl))) (hc : vwCl[ci]? = some (C, T, N)) (j : Nat) (hj : j < N) (hlink : Cond.fieldLink own index ref (T j).2.1 (T j).2.2.1 ∈ Ts) (href : (T j).1 = ref) (hv : fl[j]? = some none) (hd : decode cc pc = .ok (.getfield index, 3))
    (kk : apV Γ nL (apU lay q (apd Γ) σ) cn sn (pc + 3) L (.int (σ k j) :: st)) : apV Γ nL (apU lay q (apd Γ) σ) cn sn pc L (.ref (q k) :: st) := fun H locs ls hH hL => by
  have h9 := apF_get (q := q) (f := σ k) (b := 0) hv
  rw [Nat.zero_add] at h9
  exact va_get G.1 G.2.1 G.2.2.2.2.1 hin G.2.2.2.1 G.2.2.2.2.2.1 hH.1 k (apU_get hk) hc j hj (G.2.2.2.2.1 _ hlink) (fun x h => by rw [← href]; exact h) h9 hd (kk H locs ls hH hL)
theorem v_put (G : apG Γ cc nL own Ts rm X) {ref C : String} {T : u_T} {N ci index k : Nat} {fl : List (Option Nat)} (hin : ∀ w ∈ u_ws C T N, w ∈ Ts) (ty0 : Nat → FieldType) (hty : ∀ k, k < N → parseFieldDescriptor (T k).2.2.1 = some (ty0 k)) (hnm : ∀ a, a < N → ∀ b, b < N → a ≠ b → (T a).2.1 ≠ (T b).2.1) (hk : lay[k]? = some (.inl (ci, fl))) (hc : vwCl[ci]? = some (C, T, N)) (j : Nat) (hj : j < N) (hlink : Cond.fieldLink own index ref (T j).2.1 (T j).2.2.1 ∈ Ts) (href : (T j).1 = ref) (hfin : (T j).2.2.2 = false) {v : Int32} (hn : narrow (ty0 j) (.int v) = .int v) (hfit : fits (ty0 j) (.int v) = true) (hv : fl[j]? = some none) (hd : decode cc pc = .ok (.putfield index, 3))
    (kk : apV Γ nL (apU lay q (apd Γ) (mst σ k j v)) cn sn (pc + 3) L st) : apV Γ nL (apU lay q (apd Γ) σ) cn sn pc L (.int v :: .ref (q k) :: st) := fun H locs ls hH hL => by
  have hl : j < (apF q (σ k) 0 fl).length := (List.getElem?_eq_some_iff.mp (apF_get (q := q) (f := σ k) (b := 0) hv)).1
  have he := apF_set (q := q) (f := σ k) (b := 0) (v := v) hv
  rw [Nat.zero_add] at he
  have hs := apU_set (q := q) (d := apd Γ) (σ := σ) (σ' := mst σ k j v) hk (fun k' h => mst_k h)
  rw [mst_e] at hs
  refine va_put G.1 G.2.1 G.2.2.2.2.1 hin ty0 hty hnm G.2.2.2.1 G.2.2.2.2.2.1 hH.1 hH.2.1 hH.2.2 k (apU_get hk) hc j hj (G.2.2.2.2.1 _ hlink) (fun x h => by rw [← href]; exact h) hfin (hty j hj) hn hfit hl hd (fun H1 locs1 h1 h2 h3 => kk H1 locs1 ls ⟨?_, ?_, h3⟩ hL)
  · rw [he] at h1
    rw [← hs]
    exact h1
  · rw [he] at h2
    rw [← hs]
    exact h2
theorem apE_int {q : Nat → Nat} {d : Nat → ClassId} {f : Nat → Int32} {t n : Nat} (ht : t < 3) : apE q d f (.inr (.inl (t, n))) = .inl (d t, (n, .inl f)) := by
  show (if t = 3 then _ else _) = _
  rw [if_neg (by omega)]
theorem v_iald (G : apG Γ cc nL own Ts rm X) {k n : Nat} {i v : Int32} (hk : lay[k]? = some (.inr (.inl (0, n)))) (hv : ald σ k n i = some v) (hd : decode cc pc = .ok (.iaload, 1))
    (kk : apV Γ nL (apU lay q (apd Γ) σ) cn sn (pc + 1) L (.int v :: st)) : apV Γ nL (apU lay q (apd Γ) σ) cn sn pc L (.int i :: .ref (q k) :: st) := fun H locs ls hH hL => by
  obtain ⟨h1, h2⟩ := ald_some hv
  subst h2
  have hg := apU_get (q := q) (d := apd Γ) (σ := σ) hk
  rw [apE_int (by omega)] at hg
  exact va_iald G.1 G.2.1 G.2.2.2.2.2.1 hH.1 k 0 hg rfl h1 hd (kk H locs ls hH hL)
theorem v_zald (G : apG Γ cc nL own Ts rm X) {k n : Nat} {i v : Int32} (hk : lay[k]? = some (.inr (.inl (1, n)))) (hv : ald σ k n i = some v) (hd : decode cc pc = .ok (.baload, 1))
    (kk : apV Γ nL (apU lay q (apd Γ) σ) cn sn (pc + 1) L (.int v :: st)) : apV Γ nL (apU lay q (apd Γ) σ) cn sn pc L (.int i :: .ref (q k) :: st) := fun H locs ls hH hL => by
  obtain ⟨h1, h2⟩ := ald_some hv
  subst h2
  have hg := apU_get (q := q) (d := apd Γ) (σ := σ) hk
  rw [apE_int (by omega)] at hg
  exact va_zald G.1 G.2.1 G.2.2.2.2.2.1 hH.1 k 1 hg rfl h1 hd (kk H locs ls hH hL)
theorem v_iast (G : apG Γ cc nL own Ts rm X) {k n : Nat} {i v : Int32} {σ' : apM} (hk : lay[k]? = some (.inr (.inl (0, n)))) (hv : ast σ k n i v = some σ') (hd : decode cc pc = .ok (.iastore, 1))
    (kk : apV Γ nL (apU lay q (apd Γ) σ') cn sn (pc + 1) L st) : apV Γ nL (apU lay q (apd Γ) σ) cn sn pc L (.int v :: .int i :: .ref (q k) :: st) := fun H locs ls hH hL => by
  obtain ⟨h1, h2⟩ := ast_some hv
  subst h2
  have hg := apU_get (q := q) (d := apd Γ) (σ := σ) hk
  rw [apE_int (by omega)] at hg
  have hs := apU_set (q := q) (d := apd Γ) (σ := σ) (σ' := mst σ k i.toNatClampNeg v) hk (fun k' h => mst_k h)
  rw [apE_int (by omega), mst_e] at hs
  refine va_iast G.1 G.2.1 G.2.2.2.2.2.1 hH.1 hH.2.1 hH.2.2 k 0 hg rfl h1 hd (fun H1 locs1 h1 h2 h3 => kk H1 locs1 ls ⟨?_, ?_, h3⟩ hL)
  · rw [← hs]; exact h1
  · rw [← hs]; exact h2
theorem v_zast (G : apG Γ cc nL own Ts rm X) {k n : Nat} {i v : Int32} {σ' : apM} (hk : lay[k]? = some (.inr (.inl (1, n)))) (hv : ast σ k n i (vp_nar .boolean v) = some σ') (hd : decode cc pc = .ok (.bastore, 1))
    (kk : apV Γ nL (apU lay q (apd Γ) σ') cn sn (pc + 1) L st) : apV Γ nL (apU lay q (apd Γ) σ) cn sn pc L (.int v :: .int i :: .ref (q k) :: st) := fun H locs ls hH hL => by
  obtain ⟨h1, h2⟩ := ast_some hv
  subst h2
  have hg := apU_get (q := q) (d := apd Γ) (σ := σ) hk
  rw [apE_int (by omega)] at hg
  have hs := apU_set (q := q) (d := apd Γ) (σ := σ) (σ' := mst σ k i.toNatClampNeg (vp_nar .boolean v)) hk (fun k' h => mst_k h)
  rw [apE_int (by omega), mst_e] at hs
  refine va_zast G.1 G.2.1 G.2.2.2.2.2.1 hH.1 hH.2.1 hH.2.2 k 1 hg rfl h1 hd (fun H1 locs1 h1 h2 h3 => kk H1 locs1 ls ⟨?_, ?_, h3⟩ hL)
  · rw [← hs]; exact h1
  · rw [← hs]; exact h2
theorem v_aald (G : apG Γ cc nL own Ts rm X) {k n b j : Nat} {i : Int32} (hk : lay[k]? = some (.inr (.inr (2, n, b)))) (hv : rix n i = some j) (hd : decode cc pc = .ok (.aaload, 1))
    (kk : apV Γ nL (apU lay q (apd Γ) σ) cn sn (pc + 1) L (.ref (q (b + j)) :: st)) : apV Γ nL (apU lay q (apd Γ) σ) cn sn pc L (.int i :: .ref (q k) :: st) := fun H locs ls hH hL => by
  obtain ⟨h1, h2, h3⟩ := rix_some hv
  subst h2
  have hg : (apU lay q (apd Γ) σ)[k]? = some (q k, .inl (apd Γ 2, (n, .inr (.inr (.inr (.inr (fun i => some (q (b + i)))))))))  := apU_get (q := q) (d := apd Γ) (σ := σ) hk
  exact W.aald (v := .ref (q (b + i.toNatClampNeg))) (ty := .array .int) G.1 G.2.1 (hH.1 k _ hg) ((G.2.2.2.2.2.1.2 2 (apd Γ 2, .array .int) rfl).1 n (fun j => va_rf (some (q (b + j))))) rfl (fun q => by cases q) (by show ¬ (i < 0 ∨ (arrV _ _ _).slots.size ≤ _); rw [arrV_size]; exact h1) (by show (arrV _ _ _).slots[_]? = _; rw [arrV_read _ _ h3]; rfl) rfl rfl hd (kk H locs ls hH hL)
theorem v_alen (G : apG Γ cc nL own Ts rm X) {k n t : Nat} {v : Int32} (ht : t < 3) (hk : lay[k]? = some (.inr (.inl (t, n)))) (hv : Int32.ofNat n = v) (hd : decode cc pc = .ok (.arraylength, 1))
    (kk : apV Γ nL (apU lay q (apd Γ) σ) cn sn (pc + 1) L (.int v :: st)) : apV Γ nL (apU lay q (apd Γ) σ) cn sn pc L (.ref (q k) :: st) := fun H locs ls hH hL => by
  have hg := apU_get (q := q) (d := apd Γ) (σ := σ) hk
  rw [apE_int ht] at hg
  have hty : ∃ ty, (apT (apd Γ))[t]? = some (apd Γ t, ty) := by
    rcases (show t = 0 ∨ t = 1 ∨ t = 2 by omega) with rfl | rfl | rfl
    · exact ⟨_, rfl⟩
    · exact ⟨_, rfl⟩
    · exact ⟨_, rfl⟩
  obtain ⟨ty, hty⟩ := hty
  exact va_alen G.1 G.2.1 G.2.2.2.2.2.1 hH.1 k t hg hty hv hd (kk H locs ls hH hL)
end FLD
theorem v_iret (G : apG Γ cc nL own Ts rm X) {v : Int32} {mc ms : Nat} (hr : apR Γ cc mc ms (some v) w) (hc : cn ≤ mc) (hs : sn ≤ ms) (hd : decode cc pc = .ok (.ireturn, 1)) : apV Γ nL w cn sn pc L [.int v] := fun H locs ls hH _ => W.widen hc hs (hr pc H locs ls hH hd)
theorem v_vret (G : apG Γ cc nL own Ts rm X) {mc ms : Nat} (hr : apR Γ cc mc ms none w) (hc : cn ≤ mc) (hs : sn ≤ ms) (hd : decode cc pc = .ok (.return_, 1)) : apV Γ nL w cn sn pc L [] := fun H locs ls hH _ => W.widen hc hs (hr pc H locs ls hH hd)
/-- a loop -/
theorem v_lp {S E : Type} {b : S → Option (S ⊕ E)} {I : S → Prop} {O : E → Prop} (hb : ∀ s r, b s = some r → (match r with | .inl s' => I s' | .inr e => O e) → I s) : ∀ (n : Nat) (s : S) (e : E), lp n b s = some e → O e → I s := by
  intro n
  induction n with
  | zero => intro s e h; cases h
  | succ n ih =>
    intro s e h ho
    unfold lp at h
    split at h
    · cases h
    · next s' hs => exact hb s _ hs (ih s' e h ho)
    · next e' hs =>
      cases h
      exact hb s _ hs ho
end APR
end
section
/-! ===== contracts of methods over a layout's cells, and their calls ===== -/
def apRm (k n : Nat) : Room := { frames := k, cells := n, slots := 6 * n, locals := 64 * k }
/-- what else is known of the start stays known in a callee -/
def apXok (X : (Nat → Prop) → State → Prop) : Prop :=
  (∀ (A : Nat → Prop) (U : State) (g : JFrame) (mk : MethodId) (a : Array Value), X A U → X A (U.calling g mk a)) ∧
  ∀ (A A1 : Nat → Prop) (s U : State), X A s → s.WarmedH U.vm → (∀ q : Nat, q < s.heap.size → ¬ A q → U.heap[q]? = s.heap[q]?) → (∀ q : Nat, A1 q → A q) → X A1 U
def apPc (lay : List apK) (X : (Nat → Prop) → State → Prop) (D : va_G) (d : Nat → ClassId) (q : Nat → Nat) (sz : Nat) (σ : apM) (av : List Value) : Array Value → State → Prop :=
  va_Pc av (fun U => U.heap.size = sz ∧ va_P D vwCl (apU lay q d σ) U.heap ∧ va_K D vwCl (apT d) U ∧ va_D (fun _ => True) (apU lay q d σ) ∧ X (va_A (apU lay q d σ) sz) U)
def apB (lay : List apK) (D : va_G) (d : Nat → ClassId) (q : Nat → Nat) (sz : Nat) (σ σ' : apM) : State → Prop := fun t => va_P D vwCl (apU lay q d σ') t.heap ∧ va_D (va_A (apU lay q d σ) sz) (apU lay q d σ')
/-- called with av over σ the method answers r, over σ' -/
def apMi (l : Launch) (lay : List apK) (X : (Nat → Prop) → State → Prop) (y : MethodName) (ws : List Cond) (k : Nat) (av : (Nat → Nat) → List Value) (σ : apM) (r : Int32) (σ' : apM) : Prop :=
  ∀ (D : va_G) (d : Nat → ClassId) (q : Nat → Nat) (sz : Nat), Met l y ws (apRm k 0) (apPc lay X D d q sz σ (av q)) (va_Qi (fun r' (_ : Unit) => r' = r) (fun _ => apB lay D d q sz σ σ') (va_A (apU lay q d σ) sz)) 0 0 (va_A (apU lay q d σ) sz)
def apMv (l : Launch) (lay : List apK) (X : (Nat → Prop) → State → Prop) (y : MethodName) (ws : List Cond) (k : Nat) (av : (Nat → Nat) → List Value) (σ σ' : apM) : Prop :=
  ∀ (D : va_G) (d : Nat → ClassId) (q : Nat → Nat) (sz : Nat), Met l y ws (apRm k 0) (apPc lay X D d q sz σ (av q)) (va_Qv (fun (_ : Unit) => True) (fun _ => apB lay D d q sz σ σ') (va_A (apU lay q d σ) sz)) 0 0 (va_A (apU lay q d σ) sz)
theorem apPc_blind {lay : List apK} {X : (Nat → Prop) → State → Prop} (hX : apXok X) {D : va_G} {d : Nat → ClassId} {q : Nat → Nat} {sz : Nat} {σ : apM} {av : List Value} : FrameBlind (apPc lay X D d q sz σ av) := fun a U g mk h => by
  obtain ⟨h1, h2, h3, h4, h5, h6⟩ := h
  exact ⟨h1, h2, h3, va_K.moved (u := U) (U := U.calling g mk a) (Vm.Alike.refl U.vm) h4, h5, hX.1 _ _ _ _ _ h6⟩
theorem apMi_of {l : Launch} {lay : List apK} {X : (Nat → Prop) → State → Prop} {y : MethodName} {ws ws' : List Cond} {k : Nat} {av : (Nat → Nat) → List Value} {σ σ' : apM} {cc : ByteArray} {nL : Nat} {ty : FieldType} {r : Int32} (hy : plainName y.cls = true) (hw : ws = Cond.code y cc nL (some ty) :: ws') (hnar : narrow ty (.int r) = .int r) (hlen : ∀ q, (lg_sl (av q)).length ≤ nL)
    (body : ∀ (Γ : apC) (q : Nat → Nat), Γ.1.2.1 = l → apG Γ cc nL y.cls ws (apRm k 0) X → apR Γ cc 0 0 (some r) (apU lay q (apd Γ) σ') → apV Γ nL (apU lay q (apd Γ) σ) 0 0 0 (lv_args 0 (av q)) []) : apMi l lay X y ws k av σ r σ' := by
  intro D d q sz
  refine Met.ofW (cc := cc) (maxL := nL) (ret := some ty) hy hw ?_
  intro p e s m args below meth c s₁ B hml hv
  obtain ⟨rfl, hsz, hP, hK, hD0, hXs⟩ := hv
  subst hsz
  have hD := hD0.self (sz := s.heap.size)
  have hts := atoms_spec (ws := ws) B.pre
  have hb := body ((p, l, e, apRm k 0, s), ((m, (av q).toArray, below, meth, c), (MQ below (va_Qi (fun r' (_ : Unit) => r' = r) (fun _ => apB lay D d q s.heap.size σ σ') (va_A (apU lay q d σ) s.heap.size)) (av q).toArray s 0 0 (va_A (apU lay q d σ) s.heap.size), D, d, va_A (apU lay q d σ) s.heap.size))) q rfl
    ⟨B.exec, B.bytes, hml, findClass_of_methodNamed B.named, hts, hK, rfl, fun q h => Or.inr h, hXs, B.notSynchronized⟩
    (fun pc H locs ls hH hd => by exact W.zret B.exec B.bytes B.returns hnar (fun t ht hW => ⟨⟨r, (), rfl, rfl, by rw [ht]; exact hH.1, hH.2.1⟩, hH.2.2.F ht⟩) hH.2.2.2.2 hd B.notSynchronized)
  rw [lg_entry_eq]
  exact hb s.heap [] _ ⟨hP, hD, va_S.rf⟩ (lv_entry (av q) (n := nL) (hlen q))
theorem apMv_of {l : Launch} {lay : List apK} {X : (Nat → Prop) → State → Prop} {y : MethodName} {ws ws' : List Cond} {k : Nat} {av : (Nat → Nat) → List Value} {σ σ' : apM} {cc : ByteArray} {nL : Nat} (hy : plainName y.cls = true) (hw : ws = Cond.code y cc nL none :: ws') (hlen : ∀ q, (lg_sl (av q)).length ≤ nL)
    (body : ∀ (Γ : apC) (q : Nat → Nat), Γ.1.2.1 = l → apG Γ cc nL y.cls ws (apRm k 0) X → apR Γ cc 0 0 none (apU lay q (apd Γ) σ') → apV Γ nL (apU lay q (apd Γ) σ) 0 0 0 (lv_args 0 (av q)) []) : apMv l lay X y ws k av σ σ' := by
  intro D d q sz
  refine Met.ofW (cc := cc) (maxL := nL) (ret := none) hy hw ?_
  intro p e s m args below meth c s₁ B hml hv
  obtain ⟨rfl, hsz, hP, hK, hD0, hXs⟩ := hv
  subst hsz
  have hD := hD0.self (sz := s.heap.size)
  have hts := atoms_spec (ws := ws) B.pre
  have hb := body ((p, l, e, apRm k 0, s), ((m, (av q).toArray, below, meth, c), (MQ below (va_Qv (fun (_ : Unit) => True) (fun _ => apB lay D d q s.heap.size σ σ') (va_A (apU lay q d σ) s.heap.size)) (av q).toArray s 0 0 (va_A (apU lay q d σ) s.heap.size), D, d, va_A (apU lay q d σ) s.heap.size))) q rfl
    ⟨B.exec, B.bytes, hml, findClass_of_methodNamed B.named, hts, hK, rfl, fun q h => Or.inr h, hXs, B.notSynchronized⟩
    (fun pc H locs ls hH hd => by exact W.vret B.exec B.bytes B.returns (fun t ht hW => ⟨⟨(), rfl, trivial, by rw [ht]; exact hH.1, hH.2.1⟩, hH.2.2.F ht⟩) hH.2.2.2.2 hd B.notSynchronized)
  rw [lg_entry_eq]
  exact hb s.heap [] _ ⟨hP, hD, va_S.rf⟩ (lv_entry (av q) (n := nL) (hlen q))
section APC
variable {Γ : apC} {cc : ByteArray} {nL : Nat} {own : String} {Ts : List Cond} {rm : Room} {X : (Nat → Prop) → State → Prop} {cn sn pc : Nat} {L : List (Nat × Value)} {st stk As : List Value}
variable {lay : List apK} {q : Nat → Nat} {σ σ' : apM} {y : MethodName} {ws ws' : List Cond} {k : Nat} {av : (Nat → Nat) → List Value} {r : Int32} {bytes : ByteArray} {maxL index n k0 ci N : Nat} {C host : String} {T : u_T} {fl : List (Option Nat)} {ret : Option FieldType}
theorem ap_free (G : apG Γ cc nL own Ts rm X) {w : va_W} {H : Heap} {locs : List Loc} (hH : apH Γ w H locs) : ∀ q, va_A w H.size q → apA Γ q := by
  intro q h
  rcases h with ⟨k, e, h⟩ | h
  · exact hH.2.1.2 k (q, e) h
  · exact G.2.2.2.2.2.2.2.1 q (Nat.le_trans hH.2.2.1 h)
theorem ap_pre (G : apG Γ cc nL own Ts rm X) (hX : apXok X) {H : Heap} {locs : List Loc} (hH : apH Γ (apU lay q (apd Γ) σ) H locs) : ∀ U : State, U.heap = H → (apS Γ).WarmedH U.vm → apPc lay X (apD Γ) (apd Γ) q H.size σ (av q) (av q).toArray U := by
  intro U hU hW
  exact ⟨rfl, by rw [hU], by rw [hU]; exact hH.1, va_K.moved hW.alike G.2.2.2.2.2.1, hH.2.1.weaken (fun _ _ _ _ => trivial), hX.2 _ _ _ _ G.2.2.2.2.2.2.2.2.1 hW (fun q h1 h2 => by rw [hU]; exact hH.2.2.2.1 q h1 h2) (ap_free G hH)⟩
theorem v_calliV (G : apG Γ cc nL own Ts rm X) (hX : apXok X) (hM : apMi Γ.1.2.1 lay X y ws k av σ r σ') (hG : GoodIn Ts (wsV own index C y ws)) (hw : ws = Cond.code y bytes maxL ret :: ws') (hd0 : y.cls = C ∧ y.cls ≠ "java/lang/invoke/MethodHandle" ∧ y.cls ≠ "java/lang/invoke/VarHandle" ∧ (parseMethodDescriptor y.desc).map (fun d => d.parameters.length) = some n) (hR : k + 1 ≤ rm.frames ∧ 8 + (maxL + 11) + 64 * k ≤ rm.locals) (hk0 : lay[k0]? = some (.inl (ci, fl))) (hc : vwCl[ci]? = some (C, T, N)) (hav : av q = .ref (q k0) :: As) (hn : As.length = n) (hst : (st.map fun v => v.category).sum ≤ 8) (hcs : cn ≤ rm.cells ∧ sn ≤ rm.slots) (hstk : stk = As.reverse ++ .ref (q k0) :: st) (hd : decode cc pc = .ok (.invokevirtual index, 3))
    (kk : apV Γ nL (apU lay q (apd Γ) σ') cn sn (pc + 3) L (.int r :: st)) : apV Γ nL (apU lay q (apd Γ) σ) cn sn pc L stk := fun H locs ls hH hL => by
  subst hstk
  refine va_calli (va_runV (As := As) (rest := st) ⟨G.1, G.2.1, G.2.2.1, G.2.2.2.1, G.2.2.2.2.1⟩ (hM (apD Γ) (apd Γ) q H.size) (cwV n G.2.2.2.2.1 hG hw rfl rfl hd0 ⟨by rw [G.2.2.2.2.2.2.1]; exact hR.1, by rw [G.2.2.2.2.2.2.1]; exact hR.2⟩) ⟨apPc_blind hX, va_recv G.2.2.2.2.2.1 hH.1 hc (apU_get hk0), fun U hU hW => by rw [← hav]; exact ap_pre G hX hH U hU hW⟩ rfl hn hL.1 rfl (lv_room hst) hd ⟨by rw [G.2.2.2.2.2.2.1]; exact hcs.1, by rw [G.2.2.2.2.2.2.1]; exact hcs.2⟩) hH.2.2 (fun q _ h => ap_free G hH q h) (ap_free G hH) (fun r1 u t H1 locs1 ht hvm hw1 hB hz1 hk1 hS => ?_)
  subst hw1
  exact kk H1 locs1 ls ⟨by rw [← ht]; exact hB.1, hB.2.weaken (fun _ q _ h => ap_free G hH _ h), hS⟩ hL
theorem v_calliS (G : apG Γ cc nL own Ts rm X) (hX : apXok X) (hM : apMi Γ.1.2.1 lay X y ws k av σ r σ') (hG : GoodIn Ts (va_wsS own index y ws)) (hw : ws = Cond.code y bytes maxL ret :: ws') (hd0 : y.cls ≠ "java/lang/invoke/MethodHandle" ∧ y.cls ≠ "java/lang/invoke/VarHandle" ∧ (parseMethodDescriptor y.desc).map (fun d => d.parameters.length) = some n) (hR : k + 1 ≤ rm.frames ∧ 8 + (maxL + 11) + 64 * k ≤ rm.locals) (hav : av q = As) (hn : As.length = n) (hst : (st.map fun v => v.category).sum ≤ 8) (hcs : cn ≤ rm.cells ∧ sn ≤ rm.slots) (hstk : stk = As.reverse ++ st) (hd : decode cc pc = .ok (.invokestatic index, 3))
    (kk : apV Γ nL (apU lay q (apd Γ) σ') cn sn (pc + 3) L (.int r :: st)) : apV Γ nL (apU lay q (apd Γ) σ) cn sn pc L stk := fun H locs ls hH hL => by
  subst hstk
  refine va_calli (va_runS (As := As) (rest := st) ⟨G.1, G.2.1, G.2.2.1, G.2.2.2.1, G.2.2.2.2.1⟩ (hM (apD Γ) (apd Γ) q H.size) (va_cwS n G.2.2.2.2.1 hG hw rfl rfl hd0 ⟨by rw [G.2.2.2.2.2.2.1]; exact hR.1, by rw [G.2.2.2.2.2.2.1]; exact hR.2⟩) ⟨apPc_blind hX, fun U hU hW => by rw [← hav]; exact ap_pre G hX hH U hU hW⟩ rfl hn hL.1 rfl (lv_room hst) hd ⟨by rw [G.2.2.2.2.2.2.1]; exact hcs.1, by rw [G.2.2.2.2.2.2.1]; exact hcs.2⟩) hH.2.2 (fun q _ h => ap_free G hH q h) (ap_free G hH) (fun r1 u t H1 locs1 ht hvm hw1 hB hz1 hk1 hS => ?_)
  subst hw1
  exact kk H1 locs1 ls ⟨by rw [← ht]; exact hB.1, hB.2.weaken (fun _ q _ h => ap_free G hH _ h), hS⟩ hL
theorem v_calliN (G : apG Γ cc nL own Ts rm X) (hX : apXok X) (hM : apMi Γ.1.2.1 lay X y ws k av σ r σ') (hG : GoodIn Ts ws) (hw : ws = Cond.code y bytes maxL ret :: ws') (hl : va_Nw (.methodLinkNest own index y host) (apS Γ)) (hini : Cond.initialized y.cls ∈ Ts) (hsta : Cond.static y ∈ Ts) (hd0 : y.cls ≠ "java/lang/invoke/MethodHandle" ∧ y.cls ≠ "java/lang/invoke/VarHandle" ∧ (parseMethodDescriptor y.desc).map (fun d => d.parameters.length) = some n) (hR : k + 1 ≤ rm.frames ∧ 8 + (maxL + 11) + 64 * k ≤ rm.locals) (hav : av q = As) (hn : As.length = n) (hst : (st.map fun v => v.category).sum ≤ 8) (hcs : cn ≤ rm.cells ∧ sn ≤ rm.slots) (hstk : stk = As.reverse ++ st) (hd : decode cc pc = .ok (.invokestatic index, 3))
    (kk : apV Γ nL (apU lay q (apd Γ) σ') cn sn (pc + 3) L (.int r :: st)) : apV Γ nL (apU lay q (apd Γ) σ) cn sn pc L stk := fun H locs ls hH hL => by
  subst hstk
  refine va_calli (va_runSN (As := As) (rest := st) ⟨G.1, G.2.1, G.2.2.1, G.2.2.2.1, G.2.2.2.2.1⟩ (hM (apD Γ) (apd Γ) q H.size) ⟨va_cnB n G.2.2.2.2.1 hG hw rfl rfl hl (G.2.2.2.2.1 _ hini) hd0 ⟨by rw [G.2.2.2.2.2.2.1]; exact hR.1, by rw [G.2.2.2.2.2.2.1]; exact hR.2⟩, G.2.2.2.2.1 _ hsta, trivial⟩ ⟨apPc_blind hX, fun U hU hW => by rw [← hav]; exact ap_pre G hX hH U hU hW⟩ rfl hn hL.1 rfl (lv_room hst) hd ⟨by rw [G.2.2.2.2.2.2.1]; exact hcs.1, by rw [G.2.2.2.2.2.2.1]; exact hcs.2⟩) hH.2.2 (fun q _ h => ap_free G hH q h) (ap_free G hH) (fun r1 u t H1 locs1 ht hvm hw1 hB hz1 hk1 hS => ?_)
  subst hw1
  exact kk H1 locs1 ls ⟨by rw [← ht]; exact hB.1, hB.2.weaken (fun _ q _ h => ap_free G hH _ h), hS⟩ hL
theorem v_callvV (G : apG Γ cc nL own Ts rm X) (hX : apXok X) (hM : apMv Γ.1.2.1 lay X y ws k av σ σ') (hG : GoodIn Ts (wsV own index C y ws)) (hw : ws = Cond.code y bytes maxL ret :: ws') (hd0 : y.cls = C ∧ y.cls ≠ "java/lang/invoke/MethodHandle" ∧ y.cls ≠ "java/lang/invoke/VarHandle" ∧ (parseMethodDescriptor y.desc).map (fun d => d.parameters.length) = some n) (hR : k + 1 ≤ rm.frames ∧ 8 + (maxL + 11) + 64 * k ≤ rm.locals) (hk0 : lay[k0]? = some (.inl (ci, fl))) (hc : vwCl[ci]? = some (C, T, N)) (hav : av q = .ref (q k0) :: As) (hn : As.length = n) (hst : (st.map fun v => v.category).sum ≤ 8) (hcs : cn ≤ rm.cells ∧ sn ≤ rm.slots) (hstk : stk = As.reverse ++ .ref (q k0) :: st) (hd : decode cc pc = .ok (.invokevirtual index, 3))
    (kk : apV Γ nL (apU lay q (apd Γ) σ') cn sn (pc + 3) L st) : apV Γ nL (apU lay q (apd Γ) σ) cn sn pc L stk := fun H locs ls hH hL => by
  subst hstk
  refine va_callv (va_runV (As := As) (rest := st) ⟨G.1, G.2.1, G.2.2.1, G.2.2.2.1, G.2.2.2.2.1⟩ (hM (apD Γ) (apd Γ) q H.size) (cwV n G.2.2.2.2.1 hG hw rfl rfl hd0 ⟨by rw [G.2.2.2.2.2.2.1]; exact hR.1, by rw [G.2.2.2.2.2.2.1]; exact hR.2⟩) ⟨apPc_blind hX, va_recv G.2.2.2.2.2.1 hH.1 hc (apU_get hk0), fun U hU hW => by rw [← hav]; exact ap_pre G hX hH U hU hW⟩ rfl hn hL.1 rfl (lv_room hst) hd ⟨by rw [G.2.2.2.2.2.2.1]; exact hcs.1, by rw [G.2.2.2.2.2.2.1]; exact hcs.2⟩) hH.2.2 (fun q _ h => ap_free G hH q h) (ap_free G hH) (fun u t H1 locs1 ht hvm hw1 hB hz1 hk1 hS => ?_)
  exact kk H1 locs1 ls ⟨by rw [← ht]; exact hB.1, hB.2.weaken (fun _ q _ h => ap_free G hH _ h), hS⟩ hL
theorem v_callvS (G : apG Γ cc nL own Ts rm X) (hX : apXok X) (hM : apMv Γ.1.2.1 lay X y ws k av σ σ') (hG : GoodIn Ts (va_wsS own index y ws)) (hw : ws = Cond.code y bytes maxL ret :: ws') (hd0 : y.cls ≠ "java/lang/invoke/MethodHandle" ∧ y.cls ≠ "java/lang/invoke/VarHandle" ∧ (parseMethodDescriptor y.desc).map (fun d => d.parameters.length) = some n) (hR : k + 1 ≤ rm.frames ∧ 8 + (maxL + 11) + 64 * k ≤ rm.locals) (hav : av q = As) (hn : As.length = n) (hst : (st.map fun v => v.category).sum ≤ 8) (hcs : cn ≤ rm.cells ∧ sn ≤ rm.slots) (hstk : stk = As.reverse ++ st) (hd : decode cc pc = .ok (.invokestatic index, 3))
    (kk : apV Γ nL (apU lay q (apd Γ) σ') cn sn (pc + 3) L st) : apV Γ nL (apU lay q (apd Γ) σ) cn sn pc L stk := fun H locs ls hH hL => by
  subst hstk
  refine va_callv (va_runS (As := As) (rest := st) ⟨G.1, G.2.1, G.2.2.1, G.2.2.2.1, G.2.2.2.2.1⟩ (hM (apD Γ) (apd Γ) q H.size) (va_cwS n G.2.2.2.2.1 hG hw rfl rfl hd0 ⟨by rw [G.2.2.2.2.2.2.1]; exact hR.1, by rw [G.2.2.2.2.2.2.1]; exact hR.2⟩) ⟨apPc_blind hX, fun U hU hW => by rw [← hav]; exact ap_pre G hX hH U hU hW⟩ rfl hn hL.1 rfl (lv_room hst) hd ⟨by rw [G.2.2.2.2.2.2.1]; exact hcs.1, by rw [G.2.2.2.2.2.2.1]; exact hcs.2⟩) hH.2.2 (fun q _ h => ap_free G hH q h) (ap_free G hH) (fun u t H1 locs1 ht hvm hw1 hB hz1 hk1 hS => ?_)
  exact kk H1 locs1 ls ⟨by rw [← ht]; exact hB.1, hB.2.weaken (fun _ q _ h => ap_free G hH _ h), hS⟩ hL
theorem v_callvN (G : apG Γ cc nL own Ts rm X) (hX : apXok X) (hM : apMv Γ.1.2.1 lay X y ws k av σ σ') (hG : GoodIn Ts ws) (hw : ws = Cond.code y bytes maxL ret :: ws') (hl : va_Nw (.methodLinkNest own index y host) (apS Γ)) (hini : Cond.initialized y.cls ∈ Ts) (hsta : Cond.static y ∈ Ts) (hd0 : y.cls ≠ "java/lang/invoke/MethodHandle" ∧ y.cls ≠ "java/lang/invoke/VarHandle" ∧ (parseMethodDescriptor y.desc).map (fun d => d.parameters.length) = some n) (hR : k + 1 ≤ rm.frames ∧ 8 + (maxL + 11) + 64 * k ≤ rm.locals) (hav : av q = As) (hn : As.length = n) (hst : (st.map fun v => v.category).sum ≤ 8) (hcs : cn ≤ rm.cells ∧ sn ≤ rm.slots) (hstk : stk = As.reverse ++ st) (hd : decode cc pc = .ok (.invokestatic index, 3))
    (kk : apV Γ nL (apU lay q (apd Γ) σ') cn sn (pc + 3) L st) : apV Γ nL (apU lay q (apd Γ) σ) cn sn pc L stk := fun H locs ls hH hL => by
  subst hstk
  refine va_callv (va_runSN (As := As) (rest := st) ⟨G.1, G.2.1, G.2.2.1, G.2.2.2.1, G.2.2.2.2.1⟩ (hM (apD Γ) (apd Γ) q H.size) ⟨va_cnB n G.2.2.2.2.1 hG hw rfl rfl hl (G.2.2.2.2.1 _ hini) hd0 ⟨by rw [G.2.2.2.2.2.2.1]; exact hR.1, by rw [G.2.2.2.2.2.2.1]; exact hR.2⟩, G.2.2.2.2.1 _ hsta, trivial⟩ ⟨apPc_blind hX, fun U hU hW => by rw [← hav]; exact ap_pre G hX hH U hU hW⟩ rfl hn hL.1 rfl (lv_room hst) hd ⟨by rw [G.2.2.2.2.2.2.1]; exact hcs.1, by rw [G.2.2.2.2.2.2.1]; exact hcs.2⟩) hH.2.2 (fun q _ h => ap_free G hH q h) (ap_free G hH) (fun u t H1 locs1 ht hvm hw1 hB hz1 hk1 hS => ?_)
  exact kk H1 locs1 ls ⟨by rw [← ht]; exact hB.1, hB.2.weaken (fun _ q _ h => ap_free G hH _ h), hS⟩ hL
theorem v_mmax (G : apG Γ cc nL own Ts rm X) {w : va_W} {x y : Int32} (hl : Cond.methodLink own index Lib.Math.max.name ∈ Ts) (h2 : Cond.static Lib.Math.max.name ∈ Ts) (h3 : Cond.initialized "java/lang/Math" ∈ Ts) (h4 : Cond.code Lib.Math.max.name Lib.Math.max.code 2 (some .int) ∈ Ts) (hR : 1 ≤ rm.frames ∧ 21 ≤ rm.locals) (hst : (st.map fun v => v.category).sum ≤ 8) (hcs : cn ≤ rm.cells ∧ sn ≤ rm.slots) (hd : decode cc pc = .ok (.invokestatic index, 3))
    (kk : apV Γ nL w cn sn (pc + 3) L (.int (if x < y then y else x) :: st)) : apV Γ nL w cn sn pc L (.int y :: .int x :: st) := fun H locs ls hH hL => by
  have T1 := G.2.2.2.2.1
  have hr := G.2.2.2.2.2.2.1
  exact va_mmax G.1 G.2.1 (G.2.2.1.trans hL.1.symm) G.2.2.2.1 (T1 _ hl) (T1 _ h2) (T1 _ h3) (T1 _ h4) (by rw [hr]; exact hR.1) (by rw [hr]; have := hR.2; omega) (by rw [hr]; exact hcs.1) (by rw [hr]; exact hcs.2) hd (kk H locs ls hH hL)
theorem v_mmin (G : apG Γ cc nL own Ts rm X) {w : va_W} {x y : Int32} (hl : Cond.methodLink own index Lib.Math.min.name ∈ Ts) (h2 : Cond.static Lib.Math.min.name ∈ Ts) (h3 : Cond.initialized "java/lang/Math" ∈ Ts) (h4 : Cond.code Lib.Math.min.name Lib.Math.min.code 2 (some .int) ∈ Ts) (hR : 1 ≤ rm.frames ∧ 21 ≤ rm.locals) (hst : (st.map fun v => v.category).sum ≤ 8) (hcs : cn ≤ rm.cells ∧ sn ≤ rm.slots) (hd : decode cc pc = .ok (.invokestatic index, 3))
    (kk : apV Γ nL w cn sn (pc + 3) L (.int (if y < x then y else x) :: st)) : apV Γ nL w cn sn pc L (.int y :: .int x :: st) := fun H locs ls hH hL => by
  have T1 := G.2.2.2.2.1
  have hr := G.2.2.2.2.2.2.1
  exact va_mmin G.1 G.2.1 (G.2.2.1.trans hL.1.symm) G.2.2.2.1 (T1 _ hl) (T1 _ h2) (T1 _ h3) (T1 _ h4) (by rw [hr]; exact hR.1) (by rw [hr]; have := hR.2; omega) (by rw [hr]; exact hcs.1) (by rw [hr]; exact hcs.2) hd (kk H locs ls hH hL)
end APC
end
section
theorem tr_1 : vwCl.length = 10 := rfl
end
