set_option maxRecDepth 20000 in
theorem ggX6_init_X1_init : GoodIn wsX6_init wsX1_init := goodIn_r _ [29, 30, 2, 3, 31, 32, 33, 34, 35, 36, 37, 38, 39, 84, 85, 86, 87, 88, 89, 90] (by decide +kernel) (by decide +kernel)
set_option maxRecDepth 20000 in
theorem gX6_init_X1_init_n9 : GoodIn wsX6_init (wsX1_init) := ggX6_init_X1_init
set_option maxRecDepth 20000 in
theorem ggX6_init_X5_init : GoodIn wsX6_init wsX5_init := goodIn_r _ [42, 43, 2, 3, 31, 44, 45, 46, 47, 100, 101, 102, 103, 104] (by decide +kernel) (by decide +kernel)
set_option maxRecDepth 20000 in
theorem gX6_init_X5_init : GoodIn wsX6_init (wsX5_init) := ggX6_init_X5_init
set_option maxRecDepth 20000 in
theorem ggX6_init_X4_init : GoodIn wsX6_init wsX4_init := goodIn_r _ [50, 51, 2, 3, 31, 52, 53, 54, 55, 56, 57, 58, 59, 60, 105, 106, 107, 108, 109, 110, 111, 112, 113, 114, 115, 116] (by decide +kernel) (by decide +kernel)
set_option maxRecDepth 20000 in
theorem gX6_init_X4_init : GoodIn wsX6_init (wsX4_init) := ggX6_init_X4_init
set_option maxRecDepth 20000 in
theorem ggX6_init_X3_init : GoodIn wsX6_init wsX3_init := goodIn_r _ [63, 64, 2, 3, 31, 65, 66, 67, 117, 118, 119, 120] (by decide +kernel) (by decide +kernel)
set_option maxRecDepth 20000 in
theorem gX6_init_X3_init : GoodIn wsX6_init (wsX3_init) := ggX6_init_X3_init
set_option maxRecDepth 20000 in
theorem ggX6_init_X0_init : GoodIn wsX6_init wsX0_init := goodIn_r _ [70, 71, 2, 3, 31, 72, 73, 74, 75, 76, 77, 121, 122, 123, 124, 117, 118, 119, 120, 105, 106, 107, 108, 109, 110, 111, 112, 113, 114, 115, 116] (by decide +kernel) (by decide +kernel)
set_option maxRecDepth 20000 in
theorem gX6_init_X0_init : GoodIn wsX6_init (wsX0_init) := ggX6_init_X0_init
set_option maxRecDepth 20000 in
theorem ggX6_init_X2_init : GoodIn wsX6_init wsX2_init := goodIn_r _ [80, 81, 2, 3, 31, 82, 83, 125, 126] (by decide +kernel) (by decide +kernel)
set_option maxRecDepth 20000 in
theorem gX6_init_X2_init : GoodIn wsX6_init (wsX2_init) := ggX6_init_X2_init
theorem dX6_init_0 : decode cX6_init 0 = .ok (.aload_n 0, 1) := by decide +kernel
theorem dX6_init_1 : decode cX6_init 1 = .ok (.invokespecial 1, 3) := by decide +kernel
theorem dX6_init_4 : decode cX6_init 4 = .ok (.aload_n 0, 1) := by decide +kernel
theorem dX6_init_5 : decode cX6_init 5 = .ok (.new 7, 3) := by decide +kernel
theorem dX6_init_8 : decode cX6_init 8 = .ok (.dup, 1) := by decide +kernel
theorem dX6_init_9 : decode cX6_init 9 = .ok (.invokespecial 9, 3) := by decide +kernel
theorem dX6_init_12 : decode cX6_init 12 = .ok (.putfield 10, 3) := by decide +kernel
theorem dX6_init_15 : decode cX6_init 15 = .ok (.aload_n 0, 1) := by decide +kernel
theorem dX6_init_16 : decode cX6_init 16 = .ok (.new 16, 3) := by decide +kernel
theorem dX6_init_19 : decode cX6_init 19 = .ok (.dup, 1) := by decide +kernel
theorem dX6_init_20 : decode cX6_init 20 = .ok (.aload_n 0, 1) := by decide +kernel
theorem dX6_init_21 : decode cX6_init 21 = .ok (.getfield 10, 3) := by decide +kernel
theorem dX6_init_24 : decode cX6_init 24 = .ok (.invokespecial 18, 3) := by decide +kernel
theorem dX6_init_27 : decode cX6_init 27 = .ok (.putfield 21, 3) := by decide +kernel
theorem dX6_init_30 : decode cX6_init 30 = .ok (.aload_n 0, 1) := by decide +kernel
theorem dX6_init_31 : decode cX6_init 31 = .ok (.new 25, 3) := by decide +kernel
theorem dX6_init_34 : decode cX6_init 34 = .ok (.dup, 1) := by decide +kernel
theorem dX6_init_35 : decode cX6_init 35 = .ok (.aload_n 0, 1) := by decide +kernel
theorem dX6_init_36 : decode cX6_init 36 = .ok (.getfield 10, 3) := by decide +kernel
theorem dX6_init_39 : decode cX6_init 39 = .ok (.invokespecial 27, 3) := by decide +kernel
theorem dX6_init_42 : decode cX6_init 42 = .ok (.putfield 28, 3) := by decide +kernel
theorem dX6_init_45 : decode cX6_init 45 = .ok (.aload_n 0, 1) := by decide +kernel
theorem dX6_init_46 : decode cX6_init 46 = .ok (.new 32, 3) := by decide +kernel
theorem dX6_init_49 : decode cX6_init 49 = .ok (.dup, 1) := by decide +kernel
theorem dX6_init_50 : decode cX6_init 50 = .ok (.aload_n 0, 1) := by decide +kernel
theorem dX6_init_51 : decode cX6_init 51 = .ok (.getfield 28, 3) := by decide +kernel
theorem dX6_init_54 : decode cX6_init 54 = .ok (.invokespecial 34, 3) := by decide +kernel
theorem dX6_init_57 : decode cX6_init 57 = .ok (.putfield 37, 3) := by decide +kernel
theorem dX6_init_60 : decode cX6_init 60 = .ok (.aload_n 0, 1) := by decide +kernel
theorem dX6_init_61 : decode cX6_init 61 = .ok (.new 41, 3) := by decide +kernel
theorem dX6_init_64 : decode cX6_init 64 = .ok (.dup, 1) := by decide +kernel
theorem dX6_init_65 : decode cX6_init 65 = .ok (.aload_n 0, 1) := by decide +kernel
theorem dX6_init_66 : decode cX6_init 66 = .ok (.getfield 37, 3) := by decide +kernel
theorem dX6_init_69 : decode cX6_init 69 = .ok (.invokespecial 43, 3) := by decide +kernel
theorem dX6_init_72 : decode cX6_init 72 = .ok (.putfield 46, 3) := by decide +kernel
theorem dX6_init_75 : decode cX6_init 75 = .ok (.aload_n 0, 1) := by decide +kernel
theorem dX6_init_76 : decode cX6_init 76 = .ok (.new 50, 3) := by decide +kernel
theorem dX6_init_79 : decode cX6_init 79 = .ok (.dup, 1) := by decide +kernel
theorem dX6_init_80 : decode cX6_init 80 = .ok (.aload_n 0, 1) := by decide +kernel
theorem dX6_init_81 : decode cX6_init 81 = .ok (.getfield 28, 3) := by decide +kernel
theorem dX6_init_84 : decode cX6_init 84 = .ok (.invokespecial 52, 3) := by decide +kernel
theorem dX6_init_87 : decode cX6_init 87 = .ok (.putfield 53, 3) := by decide +kernel
theorem dX6_init_90 : decode cX6_init 90 = .ok (.return_, 1) := by decide +kernel
set_option maxRecDepth 20000 in
theorem ggX6_make_X6_canBeMade : GoodIn wsX6_make wsX6_canBeMade := goodIn_r _ [10, 11, 12, 13, 9, 14] (by decide +kernel) (by decide +kernel)
set_option maxRecDepth 20000 in
theorem gX6_make_X6_canBeMade : GoodIn wsX6_make (va_wsS RX6 57 yX6_canBeMade wsX6_canBeMade) := goodIn_app (goodIn_of _ (by decide +kernel)) ggX6_make_X6_canBeMade
set_option maxRecDepth 20000 in
theorem ggX6_make_X6_forgetPlan : GoodIn wsX6_make wsX6_forgetPlan := goodIn_r _ [18, 19, 34, 35, 36, 37, 38, 39, 40, 41, 42] (by decide +kernel) (by decide +kernel)
set_option maxRecDepth 20000 in
theorem gX6_make_X6_forgetPlan : GoodIn wsX6_make (wsV RX6 77 RX6 yX6_forgetPlan wsX6_forgetPlan) := goodIn_app (goodIn_of _ (by decide +kernel)) ggX6_make_X6_forgetPlan
set_option maxRecDepth 20000 in
theorem ggX6_make_X1_add : GoodIn wsX6_make wsX1_add := goodIn_ca (goodIn_r _ [24, 25, 26, 27, 28, 29, 30, 31, 32, 33, 43, 44, 45, 46, 47, 48, 49] (by decide +kernel) (by decide +kernel)) (goodIn_sub (fun _ h => List.mem_cons_of_mem _ (List.mem_append_right _ h)) (by decide +kernel))
set_option maxRecDepth 20000 in
theorem gX6_make_X1_add : GoodIn wsX6_make (wsV RX6 80 RX1 yX1_add wsX1_add) := goodIn_app (goodIn_of _ (by decide +kernel)) ggX6_make_X1_add
theorem dX6_make_0 : decode cX6_make 0 = .ok (.iload_n 1, 1) := by decide +kernel
theorem dX6_make_1 : decode cX6_make 1 = .ok (.iload_n 2, 1) := by decide +kernel
theorem dX6_make_2 : decode cX6_make 2 = .ok (.iload_n 3, 1) := by decide +kernel
theorem dX6_make_3 : decode cX6_make 3 = .ok (.invokestatic 57, 3) := by decide +kernel
theorem dX6_make_6 : decode cX6_make 6 = .ok (.ifCond .ne 13, 3) := by decide +kernel
theorem dX6_make_9 : decode cX6_make 9 = .ok (.new 61, 3) := by decide +kernel
theorem dX6_make_12 : decode cX6_make 12 = .ok (.dup, 1) := by decide +kernel
theorem dX6_make_13 : decode cX6_make 13 = .ok (.ldc 63, 2) := by decide +kernel
theorem dX6_make_15 : decode cX6_make 15 = .ok (.invokespecial 65, 3) := by decide +kernel
theorem dX6_make_18 : decode cX6_make 18 = .ok (.athrow, 1) := by decide +kernel
theorem dX6_make_19 : decode cX6_make 19 = .ok (.aload_n 0, 1) := by decide +kernel
theorem dX6_make_20 : decode cX6_make 20 = .ok (.getfield 10, 3) := by decide +kernel
theorem dX6_make_23 : decode cX6_make 23 = .ok (.getfield 68, 3) := by decide +kernel
theorem dX6_make_26 : decode cX6_make 26 = .ok (.bipush 12, 2) := by decide +kernel
theorem dX6_make_28 : decode cX6_make 28 = .ok (.if_icmp .ne 13, 3) := by decide +kernel
theorem dX6_make_31 : decode cX6_make 31 = .ok (.new 72, 3) := by decide +kernel
theorem dX6_make_34 : decode cX6_make 34 = .ok (.dup, 1) := by decide +kernel
theorem dX6_make_35 : decode cX6_make 35 = .ok (.ldc 74, 2) := by decide +kernel
theorem dX6_make_37 : decode cX6_make 37 = .ok (.invokespecial 76, 3) := by decide +kernel
theorem dX6_make_40 : decode cX6_make 40 = .ok (.athrow, 1) := by decide +kernel
theorem dX6_make_41 : decode cX6_make 41 = .ok (.aload_n 0, 1) := by decide +kernel
theorem dX6_make_42 : decode cX6_make 42 = .ok (.invokevirtual 77, 3) := by decide +kernel
theorem dX6_make_45 : decode cX6_make 45 = .ok (.aload_n 0, 1) := by decide +kernel
theorem dX6_make_46 : decode cX6_make 46 = .ok (.getfield 10, 3) := by decide +kernel
theorem dX6_make_49 : decode cX6_make 49 = .ok (.iload_n 1, 1) := by decide +kernel
theorem dX6_make_50 : decode cX6_make 50 = .ok (.iload_n 2, 1) := by decide +kernel
theorem dX6_make_51 : decode cX6_make 51 = .ok (.iload_n 3, 1) := by decide +kernel
theorem dX6_make_52 : decode cX6_make 52 = .ok (.invokevirtual 80, 3) := by decide +kernel
theorem dX6_make_55 : decode cX6_make 55 = .ok (.ireturn, 1) := by decide +kernel
set_option maxRecDepth 20000 in
theorem ggX6_give_X1_has : GoodIn wsX6_give wsX1_has := goodIn_r _ [9, 10, 11, 12, 13, 24, 25, 26, 27, 28, 29, 30] (by decide +kernel) (by decide +kernel)
set_option maxRecDepth 20000 in
theorem gX6_give_X1_has : GoodIn wsX6_give (wsV RX6 84 RX1 yX1_has wsX1_has) := goodIn_app (goodIn_of _ (by decide +kernel)) ggX6_give_X1_has
set_option maxRecDepth 20000 in
theorem ggX6_give_X6_isWithin : GoodIn wsX6_give wsX6_isWithin := goodIn_r _ [13] (by decide +kernel) (by decide +kernel)
set_option maxRecDepth 20000 in
theorem gX6_give_X6_isWithin : GoodIn wsX6_give (va_wsS RX6 95 yX6_isWithin wsX6_isWithin) := goodIn_app (goodIn_of _ (by decide +kernel)) ggX6_give_X6_isWithin
theorem dX6_give_0 : decode cX6_give 0 = .ok (.aload_n 0, 1) := by decide +kernel
theorem dX6_give_1 : decode cX6_give 1 = .ok (.getfield 10, 3) := by decide +kernel
theorem dX6_give_4 : decode cX6_give 4 = .ok (.iload_n 1, 1) := by decide +kernel
theorem dX6_give_5 : decode cX6_give 5 = .ok (.invokevirtual 84, 3) := by decide +kernel
theorem dX6_give_8 : decode cX6_give 8 = .ok (.ifCond .eq 31, 3) := by decide +kernel
theorem dX6_give_11 : decode cX6_give 11 = .ok (.aload_n 0, 1) := by decide +kernel
theorem dX6_give_12 : decode cX6_give 12 = .ok (.getfield 10, 3) := by decide +kernel
theorem dX6_give_15 : decode cX6_give 15 = .ok (.getfield 88, 3) := by decide +kernel
theorem dX6_give_18 : decode cX6_give 18 = .ok (.iload_n 1, 1) := by decide +kernel
theorem dX6_give_19 : decode cX6_give 19 = .ok (.iaload, 1) := by decide +kernel
theorem dX6_give_20 : decode cX6_give 20 = .ok (.ifCond .ne 19, 3) := by decide +kernel
theorem dX6_give_23 : decode cX6_give 23 = .ok (.iload_n 2, 1) := by decide +kernel
theorem dX6_give_24 : decode cX6_give 24 = .ok (.aload_n 0, 1) := by decide +kernel
theorem dX6_give_25 : decode cX6_give 25 = .ok (.getfield 10, 3) := by decide +kernel
theorem dX6_give_28 : decode cX6_give 28 = .ok (.getfield 92, 3) := by decide +kernel
theorem dX6_give_31 : decode cX6_give 31 = .ok (.iload_n 1, 1) := by decide +kernel
theorem dX6_give_32 : decode cX6_give 32 = .ok (.iaload, 1) := by decide +kernel
theorem dX6_give_33 : decode cX6_give 33 = .ok (.invokestatic 95, 3) := by decide +kernel
theorem dX6_give_36 : decode cX6_give 36 = .ok (.ifCond .ne 5, 3) := by decide +kernel
theorem dX6_give_39 : decode cX6_give 39 = .ok (.iconst 0, 1) := by decide +kernel
theorem dX6_give_40 : decode cX6_give 40 = .ok (.ireturn, 1) := by decide +kernel
theorem dX6_give_41 : decode cX6_give 41 = .ok (.aload_n 0, 1) := by decide +kernel
theorem dX6_give_42 : decode cX6_give 42 = .ok (.getfield 10, 3) := by decide +kernel
theorem dX6_give_45 : decode cX6_give 45 = .ok (.getfield 99, 3) := by decide +kernel
theorem dX6_give_48 : decode cX6_give 48 = .ok (.iload_n 1, 1) := by decide +kernel
theorem dX6_give_49 : decode cX6_give 49 = .ok (.aaload, 1) := by decide +kernel
theorem dX6_give_50 : decode cX6_give 50 = .ok (.iload_n 2, 1) := by decide +kernel
theorem dX6_give_51 : decode cX6_give 51 = .ok (.iload_n 3, 1) := by decide +kernel
theorem dX6_give_52 : decode cX6_give 52 = .ok (.iastore, 1) := by decide +kernel
theorem dX6_give_53 : decode cX6_give 53 = .ok (.iconst 1, 1) := by decide +kernel
theorem dX6_give_54 : decode cX6_give 54 = .ok (.ireturn, 1) := by decide +kernel
set_option maxRecDepth 20000 in
theorem ggX6_wire_X1_has : GoodIn wsX6_wire wsX1_has := goodIn_r _ [7, 8, 9, 10, 11, 32, 33, 34, 35, 36, 37, 38] (by decide +kernel) (by decide +kernel)
set_option maxRecDepth 20000 in
theorem gX6_wire_X1_has : GoodIn wsX6_wire (wsV RX6 84 RX1 yX1_has wsX1_has) := goodIn_app (goodIn_of _ (by decide +kernel)) ggX6_wire_X1_has
set_option maxRecDepth 20000 in
theorem ggX6_wire_X1_inputs : GoodIn wsX6_wire wsX1_inputs := goodIn_ca (goodIn_r _ [15, 16, 32, 33, 34, 35, 36, 37, 38] (by decide +kernel) (by decide +kernel)) (goodIn_sub (fun _ h => List.mem_cons_of_mem _ (List.mem_append_right _ h)) (by decide +kernel))
set_option maxRecDepth 20000 in
theorem gX6_wire_X1_inputs : GoodIn wsX6_wire (wsV RX6 103 RX1 yX1_inputs wsX1_inputs) := goodIn_app (goodIn_of _ (by decide +kernel)) ggX6_wire_X1_inputs
set_option maxRecDepth 20000 in
theorem ggX6_wire_X6_isWithin : GoodIn wsX6_wire wsX6_isWithin := goodIn_r _ [11] (by decide +kernel) (by decide +kernel)
set_option maxRecDepth 20000 in
theorem gX6_wire_X6_isWithin : GoodIn wsX6_wire (va_wsS RX6 95 yX6_isWithin wsX6_isWithin) := goodIn_app (goodIn_of _ (by decide +kernel)) ggX6_wire_X6_isWithin
set_option maxRecDepth 20000 in
theorem ggX6_wire_X6_forgetPlan : GoodIn wsX6_wire wsX6_forgetPlan := goodIn_r _ [21, 22, 23, 24, 25, 26, 27, 28, 29, 30, 31] (by decide +kernel) (by decide +kernel)
set_option maxRecDepth 20000 in
theorem gX6_wire_X6_forgetPlan : GoodIn wsX6_wire (wsV RX6 77 RX6 yX6_forgetPlan wsX6_forgetPlan) := goodIn_app (goodIn_of _ (by decide +kernel)) ggX6_wire_X6_forgetPlan
theorem dX6_wire_0 : decode cX6_wire 0 = .ok (.aload_n 0, 1) := by decide +kernel
theorem dX6_wire_1 : decode cX6_wire 1 = .ok (.getfield 10, 3) := by decide +kernel
theorem dX6_wire_4 : decode cX6_wire 4 = .ok (.iload_n 1, 1) := by decide +kernel
theorem dX6_wire_5 : decode cX6_wire 5 = .ok (.invokevirtual 84, 3) := by decide +kernel
theorem dX6_wire_8 : decode cX6_wire 8 = .ok (.ifCond .eq 18, 3) := by decide +kernel
theorem dX6_wire_11 : decode cX6_wire 11 = .ok (.iload_n 2, 1) := by decide +kernel
theorem dX6_wire_12 : decode cX6_wire 12 = .ok (.aload_n 0, 1) := by decide +kernel
theorem dX6_wire_13 : decode cX6_wire 13 = .ok (.getfield 10, 3) := by decide +kernel
theorem dX6_wire_16 : decode cX6_wire 16 = .ok (.iload_n 1, 1) := by decide +kernel
theorem dX6_wire_17 : decode cX6_wire 17 = .ok (.invokevirtual 103, 3) := by decide +kernel
theorem dX6_wire_20 : decode cX6_wire 20 = .ok (.invokestatic 95, 3) := by decide +kernel
theorem dX6_wire_23 : decode cX6_wire 23 = .ok (.ifCond .ne 5, 3) := by decide +kernel
theorem dX6_wire_26 : decode cX6_wire 26 = .ok (.iconst 0, 1) := by decide +kernel
theorem dX6_wire_27 : decode cX6_wire 27 = .ok (.ireturn, 1) := by decide +kernel
theorem dX6_wire_28 : decode cX6_wire 28 = .ok (.iload_n 3, 1) := by decide +kernel
theorem dX6_wire_29 : decode cX6_wire 29 = .ok (.iconst (-1), 1) := by decide +kernel
theorem dX6_wire_30 : decode cX6_wire 30 = .ok (.if_icmp .eq 16, 3) := by decide +kernel
theorem dX6_wire_33 : decode cX6_wire 33 = .ok (.aload_n 0, 1) := by decide +kernel
theorem dX6_wire_34 : decode cX6_wire 34 = .ok (.getfield 10, 3) := by decide +kernel
theorem dX6_wire_37 : decode cX6_wire 37 = .ok (.iload_n 3, 1) := by decide +kernel
theorem dX6_wire_38 : decode cX6_wire 38 = .ok (.invokevirtual 84, 3) := by decide +kernel
theorem dX6_wire_41 : decode cX6_wire 41 = .ok (.ifCond .ne 5, 3) := by decide +kernel
theorem dX6_wire_44 : decode cX6_wire 44 = .ok (.iconst 0, 1) := by decide +kernel
theorem dX6_wire_45 : decode cX6_wire 45 = .ok (.ireturn, 1) := by decide +kernel
theorem dX6_wire_46 : decode cX6_wire 46 = .ok (.aload_n 0, 1) := by decide +kernel
theorem dX6_wire_47 : decode cX6_wire 47 = .ok (.getfield 10, 3) := by decide +kernel
theorem dX6_wire_50 : decode cX6_wire 50 = .ok (.getfield 107, 3) := by decide +kernel
theorem dX6_wire_53 : decode cX6_wire 53 = .ok (.iload_n 1, 1) := by decide +kernel
theorem dX6_wire_54 : decode cX6_wire 54 = .ok (.aaload, 1) := by decide +kernel
theorem dX6_wire_55 : decode cX6_wire 55 = .ok (.iload_n 2, 1) := by decide +kernel
theorem dX6_wire_56 : decode cX6_wire 56 = .ok (.iload_n 3, 1) := by decide +kernel
theorem dX6_wire_57 : decode cX6_wire 57 = .ok (.iastore, 1) := by decide +kernel
theorem dX6_wire_58 : decode cX6_wire 58 = .ok (.aload_n 0, 1) := by decide +kernel
theorem dX6_wire_59 : decode cX6_wire 59 = .ok (.invokevirtual 77, 3) := by decide +kernel
theorem dX6_wire_62 : decode cX6_wire 62 = .ok (.iconst 1, 1) := by decide +kernel
theorem dX6_wire_63 : decode cX6_wire 63 = .ok (.ireturn, 1) := by decide +kernel
set_option maxRecDepth 20000 in
theorem ggX6_keep_X1_has : GoodIn wsX6_keep wsX1_has := goodIn_r _ [7, 8, 9, 10, 11, 26, 27, 28, 29, 30, 31, 32] (by decide +kernel) (by decide +kernel)
set_option maxRecDepth 20000 in
theorem gX6_keep_X1_has : GoodIn wsX6_keep (wsV RX6 84 RX1 yX1_has wsX1_has) := goodIn_app (goodIn_of _ (by decide +kernel)) ggX6_keep_X1_has
set_option maxRecDepth 20000 in
theorem ggX6_keep_X6_forgetPlan : GoodIn wsX6_keep wsX6_forgetPlan := goodIn_r _ [15, 16, 17, 18, 19, 20, 21, 22, 23, 24, 25] (by decide +kernel) (by decide +kernel)
set_option maxRecDepth 20000 in
theorem gX6_keep_X6_forgetPlan : GoodIn wsX6_keep (wsV RX6 77 RX6 yX6_forgetPlan wsX6_forgetPlan) := goodIn_app (goodIn_of _ (by decide +kernel)) ggX6_keep_X6_forgetPlan
theorem dX6_keep_0 : decode cX6_keep 0 = .ok (.aload_n 0, 1) := by decide +kernel
theorem dX6_keep_1 : decode cX6_keep 1 = .ok (.getfield 10, 3) := by decide +kernel
theorem dX6_keep_4 : decode cX6_keep 4 = .ok (.iload_n 1, 1) := by decide +kernel
theorem dX6_keep_5 : decode cX6_keep 5 = .ok (.invokevirtual 84, 3) := by decide +kernel
theorem dX6_keep_8 : decode cX6_keep 8 = .ok (.ifCond .eq 16, 3) := by decide +kernel
theorem dX6_keep_11 : decode cX6_keep 11 = .ok (.aload_n 0, 1) := by decide +kernel
theorem dX6_keep_12 : decode cX6_keep 12 = .ok (.getfield 10, 3) := by decide +kernel
theorem dX6_keep_15 : decode cX6_keep 15 = .ok (.getfield 110, 3) := by decide +kernel
theorem dX6_keep_18 : decode cX6_keep 18 = .ok (.iload_n 1, 1) := by decide +kernel
theorem dX6_keep_19 : decode cX6_keep 19 = .ok (.baload, 1) := by decide +kernel
theorem dX6_keep_20 : decode cX6_keep 20 = .ok (.iload_n 2, 1) := by decide +kernel
theorem dX6_keep_21 : decode cX6_keep 21 = .ok (.if_icmp .ne 5, 3) := by decide +kernel
theorem dX6_keep_24 : decode cX6_keep 24 = .ok (.iconst 0, 1) := by decide +kernel
theorem dX6_keep_25 : decode cX6_keep 25 = .ok (.ireturn, 1) := by decide +kernel
theorem dX6_keep_26 : decode cX6_keep 26 = .ok (.aload_n 0, 1) := by decide +kernel
theorem dX6_keep_27 : decode cX6_keep 27 = .ok (.getfield 10, 3) := by decide +kernel
theorem dX6_keep_30 : decode cX6_keep 30 = .ok (.getfield 110, 3) := by decide +kernel
theorem dX6_keep_33 : decode cX6_keep 33 = .ok (.iload_n 1, 1) := by decide +kernel
theorem dX6_keep_34 : decode cX6_keep 34 = .ok (.iload_n 2, 1) := by decide +kernel
theorem dX6_keep_35 : decode cX6_keep 35 = .ok (.bastore, 1) := by decide +kernel
theorem dX6_keep_36 : decode cX6_keep 36 = .ok (.aload_n 0, 1) := by decide +kernel
theorem dX6_keep_37 : decode cX6_keep 37 = .ok (.invokevirtual 77, 3) := by decide +kernel
theorem dX6_keep_40 : decode cX6_keep 40 = .ok (.iconst 1, 1) := by decide +kernel
theorem dX6_keep_41 : decode cX6_keep 41 = .ok (.ireturn, 1) := by decide +kernel
theorem dX6_nodes_0 : decode cX6_nodes 0 = .ok (.aload_n 0, 1) := by decide +kernel
theorem dX6_nodes_1 : decode cX6_nodes 1 = .ok (.getfield 10, 3) := by decide +kernel
theorem dX6_nodes_4 : decode cX6_nodes 4 = .ok (.getfield 68, 3) := by decide +kernel
theorem dX6_nodes_7 : decode cX6_nodes 7 = .ok (.ireturn, 1) := by decide +kernel
set_option maxRecDepth 20000 in
theorem ggX6_ring_X5_find : GoodIn wsX6_ring wsX5_find := goodIn_ca (goodIn_r _ [10, 11, 12, 13, 14, 15, 16, 17, 9, 18, 19, 20, 21, 22, 23, 24, 25, 26, 27, 28, 29, 30, 31, 32, 33, 34, 35, 36, 37, 38, 39, 40, 41, 42, 43, 44, 45, 46, 47, 48, 49, 50, 51, 52, 65, 66, 67, 68, 69, 70, 71, 72, 73, 74, 75, 76] (by decide +kernel) (by decide +kernel)) (goodIn_sub (fun _ h => List.mem_cons_of_mem _ (List.mem_append_right _ h)) (by decide +kernel))
set_option maxRecDepth 20000 in
theorem gX6_ring_X5_find : GoodIn wsX6_ring (wsV RX6 114 RX5 yX5_find wsX5_find) := goodIn_app (goodIn_of _ (by decide +kernel)) ggX6_ring_X5_find
set_option maxRecDepth 20000 in
theorem ggX6_ring_X6_isWithin : GoodIn wsX6_ring wsX6_isWithin := goodIn_r _ [55] (by decide +kernel) (by decide +kernel)
set_option maxRecDepth 20000 in
theorem gX6_ring_X6_isWithin : GoodIn wsX6_ring (va_wsS RX6 95 yX6_isWithin wsX6_isWithin) := goodIn_app (goodIn_of _ (by decide +kernel)) ggX6_ring_X6_isWithin
theorem dX6_ring_0 : decode cX6_ring 0 = .ok (.aload_n 0, 1) := by decide +kernel
theorem dX6_ring_1 : decode cX6_ring 1 = .ok (.getfield 21, 3) := by decide +kernel
theorem dX6_ring_4 : decode cX6_ring 4 = .ok (.invokevirtual 114, 3) := by decide +kernel
theorem dX6_ring_7 : decode cX6_ring 7 = .ok (.iload_n 1, 1) := by decide +kernel
theorem dX6_ring_8 : decode cX6_ring 8 = .ok (.aload_n 0, 1) := by decide +kernel
theorem dX6_ring_9 : decode cX6_ring 9 = .ok (.getfield 21, 3) := by decide +kernel
theorem dX6_ring_12 : decode cX6_ring 12 = .ok (.getfield 117, 3) := by decide +kernel
theorem dX6_ring_15 : decode cX6_ring 15 = .ok (.invokestatic 95, 3) := by decide +kernel
theorem dX6_ring_18 : decode cX6_ring 18 = .ok (.ifCond .ne 13, 3) := by decide +kernel
theorem dX6_ring_21 : decode cX6_ring 21 = .ok (.new 120, 3) := by decide +kernel
theorem dX6_ring_24 : decode cX6_ring 24 = .ok (.dup, 1) := by decide +kernel
theorem dX6_ring_25 : decode cX6_ring 25 = .ok (.ldc 122, 2) := by decide +kernel
theorem dX6_ring_27 : decode cX6_ring 27 = .ok (.invokespecial 124, 3) := by decide +kernel
theorem dX6_ring_30 : decode cX6_ring 30 = .ok (.athrow, 1) := by decide +kernel
theorem dX6_ring_31 : decode cX6_ring 31 = .ok (.aload_n 0, 1) := by decide +kernel
theorem dX6_ring_32 : decode cX6_ring 32 = .ok (.getfield 21, 3) := by decide +kernel
theorem dX6_ring_35 : decode cX6_ring 35 = .ok (.getfield 125, 3) := by decide +kernel
theorem dX6_ring_38 : decode cX6_ring 38 = .ok (.iload_n 1, 1) := by decide +kernel
theorem dX6_ring_39 : decode cX6_ring 39 = .ok (.iaload, 1) := by decide +kernel
theorem dX6_ring_40 : decode cX6_ring 40 = .ok (.ireturn, 1) := by decide +kernel
set_option maxRecDepth 20000 in
theorem ggX6_plan_X1_isWired : GoodIn wsX6_plan wsX1_isWired := goodIn_ca (goodIn_r _ [23, 24, 25, 26, 27, 28, 22, 29, 30, 222, 223, 224, 225, 226, 227, 228] (by decide +kernel) (by decide +kernel)) (goodIn_sub (fun _ h => List.mem_cons_of_mem _ (List.mem_append_right _ h)) (by decide +kernel))
set_option maxRecDepth 20000 in
theorem gX6_plan_X1_isWired : GoodIn wsX6_plan (wsV RX6 130 RX1 yX1_isWired wsX1_isWired) := goodIn_app (goodIn_of _ (by decide +kernel)) ggX6_plan_X1_isWired
set_option maxRecDepth 20000 in
theorem ggX6_plan_X5_find : GoodIn wsX6_plan wsX5_find := goodIn_ca (goodIn_r _ [35, 36, 37, 38, 39, 40, 41, 42, 34, 43, 44, 45, 46, 22, 47, 25, 48, 49, 50, 51, 52, 53, 54, 55, 56, 57, 58, 59, 60, 61, 62, 63, 64, 65, 66, 67, 68, 69, 70, 71, 72, 73, 74, 75, 229, 230, 231, 232, 233, 222, 223, 224, 225, 226, 227, 228] (by decide +kernel) (by decide +kernel)) (goodIn_sub (fun _ h => List.mem_cons_of_mem _ (List.mem_append_right _ h)) (by decide +kernel))
set_option maxRecDepth 20000 in
theorem gX6_plan_X5_find : GoodIn wsX6_plan (wsV RX6 114 RX5 yX5_find wsX5_find) := goodIn_app (goodIn_of _ (by decide +kernel)) ggX6_plan_X5_find
set_option maxRecDepth 20000 in
theorem ggX6_plan_X4_measure : GoodIn wsX6_plan wsX4_measure := goodIn_ca (goodIn_r _ [80, 81, 82, 83, 84, 85, 86, 87, 79, 88, 89, 90, 91, 92, 93, 63, 64, 65, 94, 45, 46, 22, 47, 25, 48, 49, 50, 51, 52, 95, 96, 97, 98, 99, 100, 101, 102, 103, 104, 105, 106, 107, 108, 109, 110, 111, 112, 113, 114, 115, 116, 117, 118, 119, 120, 121, 122, 123, 124, 125, 126, 127, 128, 129, 130, 131, 132, 133, 134, 135, 136, 137, 138, 139, 140, 141, 142, 143, 144, 60, 145, 146, 59, 61, 147, 27, 28, 29, 30, 238, 239, 240, 241, 242, 243, 244, 245, 246, 247, 248, 249, 222, 223, 224, 225, 226, 227, 228] (by decide +kernel) (by decide +kernel)) (goodIn_sub (fun _ h => List.mem_cons_of_mem _ (List.mem_append_right _ h)) (by decide +kernel))
set_option maxRecDepth 20000 in
theorem gX6_plan_X4_measure : GoodIn wsX6_plan (wsV RX6 141 RX4 yX4_measure wsX4_measure) := goodIn_app (goodIn_of _ (by decide +kernel)) ggX6_plan_X4_measure
set_option maxRecDepth 20000 in
theorem ggX6_plan_X4_arrange : GoodIn wsX6_plan wsX4_arrange := goodIn_ca (goodIn_r _ [151, 90, 91, 152, 153, 154, 155, 79, 156, 89, 99, 100, 101, 102, 103, 104, 81, 93, 63, 64, 65, 157, 158, 159, 160, 113, 114, 115, 116, 161, 162, 163, 164, 165, 166, 167, 168, 134, 84, 119, 120, 121, 122, 82, 48, 49, 50, 95, 96, 97, 98, 105, 106, 107, 108, 109, 110, 111, 112, 92, 117, 118, 169, 170, 171, 172, 173, 143, 144, 60, 145, 51, 52, 174, 175, 176, 177, 178, 179, 83, 238, 239, 240, 241, 242, 243, 244, 245, 246, 247, 248, 249, 222, 223, 224, 225, 226, 227, 228] (by decide +kernel) (by decide +kernel)) (goodIn_sub (fun _ h => List.mem_cons_of_mem _ (List.mem_append_right _ h)) (by decide +kernel))
set_option maxRecDepth 20000 in
theorem gX6_plan_X4_arrange : GoodIn wsX6_plan (wsV RX6 149 RX4 yX4_arrange wsX4_arrange) := goodIn_app (goodIn_of _ (by decide +kernel)) ggX6_plan_X4_arrange
set_option maxRecDepth 20000 in
theorem ggX6_plan_X3_assign : GoodIn wsX6_plan wsX3_assign := goodIn_ca (goodIn_r _ [184, 185, 186, 187, 188, 189, 190, 144, 60, 145, 191, 192, 193, 183, 194, 195, 196, 197, 198, 199, 200, 201, 202, 203, 204, 205, 206, 207, 79, 208, 103, 152, 209, 210, 211, 212, 234, 235, 236, 237, 238, 239, 240, 241, 242, 243, 244, 245, 246, 247, 248, 249] (by decide +kernel) (by decide +kernel)) (goodIn_sub (fun _ h => List.mem_cons_of_mem _ (List.mem_append_right _ h)) (by decide +kernel))
set_option maxRecDepth 20000 in
theorem gX6_plan_X3_assign : GoodIn wsX6_plan (wsV RX6 153 RX3 yX3_assign wsX3_assign) := goodIn_app (goodIn_of _ (by decide +kernel)) ggX6_plan_X3_assign
theorem dX6_plan_0 : decode cX6_plan 0 = .ok (.iload_n 1, 1) := by decide +kernel
theorem dX6_plan_1 : decode cX6_plan 1 = .ok (.ifCond .eq 18, 3) := by decide +kernel
theorem dX6_plan_4 : decode cX6_plan 4 = .ok (.iload_n 1, 1) := by decide +kernel
theorem dX6_plan_5 : decode cX6_plan 5 = .ok (.iconst 1, 1) := by decide +kernel
theorem dX6_plan_6 : decode cX6_plan 6 = .ok (.if_icmp .eq 13, 3) := by decide +kernel
theorem dX6_plan_9 : decode cX6_plan 9 = .ok (.new 61, 3) := by decide +kernel
theorem dX6_plan_12 : decode cX6_plan 12 = .ok (.dup, 1) := by decide +kernel
theorem dX6_plan_13 : decode cX6_plan 13 = .ok (.ldc 128, 2) := by decide +kernel
theorem dX6_plan_15 : decode cX6_plan 15 = .ok (.invokespecial 65, 3) := by decide +kernel
theorem dX6_plan_18 : decode cX6_plan 18 = .ok (.athrow, 1) := by decide +kernel
theorem dX6_plan_19 : decode cX6_plan 19 = .ok (.aload_n 0, 1) := by decide +kernel
theorem dX6_plan_20 : decode cX6_plan 20 = .ok (.getfield 10, 3) := by decide +kernel
theorem dX6_plan_23 : decode cX6_plan 23 = .ok (.getfield 68, 3) := by decide +kernel
theorem dX6_plan_26 : decode cX6_plan 26 = .ok (.ifCond .eq 13, 3) := by decide +kernel
theorem dX6_plan_29 : decode cX6_plan 29 = .ok (.aload_n 0, 1) := by decide +kernel
theorem dX6_plan_30 : decode cX6_plan 30 = .ok (.getfield 10, 3) := by decide +kernel
theorem dX6_plan_33 : decode cX6_plan 33 = .ok (.invokevirtual 130, 3) := by decide +kernel
theorem dX6_plan_36 : decode cX6_plan 36 = .ok (.ifCond .ne 13, 3) := by decide +kernel
theorem dX6_plan_39 : decode cX6_plan 39 = .ok (.new 120, 3) := by decide +kernel
theorem dX6_plan_42 : decode cX6_plan 42 = .ok (.dup, 1) := by decide +kernel
theorem dX6_plan_43 : decode cX6_plan 43 = .ok (.ldc 134, 2) := by decide +kernel
theorem dX6_plan_45 : decode cX6_plan 45 = .ok (.invokespecial 124, 3) := by decide +kernel
theorem dX6_plan_48 : decode cX6_plan 48 = .ok (.athrow, 1) := by decide +kernel
theorem dX6_plan_49 : decode cX6_plan 49 = .ok (.aload_n 0, 1) := by decide +kernel
theorem dX6_plan_50 : decode cX6_plan 50 = .ok (.getfield 21, 3) := by decide +kernel
theorem dX6_plan_53 : decode cX6_plan 53 = .ok (.invokevirtual 114, 3) := by decide +kernel
theorem dX6_plan_56 : decode cX6_plan 56 = .ok (.aload_n 0, 1) := by decide +kernel
theorem dX6_plan_57 : decode cX6_plan 57 = .ok (.getfield 21, 3) := by decide +kernel
theorem dX6_plan_60 : decode cX6_plan 60 = .ok (.getfield 117, 3) := by decide +kernel
theorem dX6_plan_63 : decode cX6_plan 63 = .ok (.ifCond .le 13, 3) := by decide +kernel
theorem dX6_plan_66 : decode cX6_plan 66 = .ok (.new 136, 3) := by decide +kernel
theorem dX6_plan_69 : decode cX6_plan 69 = .ok (.dup, 1) := by decide +kernel
theorem dX6_plan_70 : decode cX6_plan 70 = .ok (.ldc 138, 2) := by decide +kernel
theorem dX6_plan_72 : decode cX6_plan 72 = .ok (.invokespecial 140, 3) := by decide +kernel
theorem dX6_plan_75 : decode cX6_plan 75 = .ok (.athrow, 1) := by decide +kernel
theorem dX6_plan_76 : decode cX6_plan 76 = .ok (.aload_n 0, 1) := by decide +kernel
theorem dX6_plan_77 : decode cX6_plan 77 = .ok (.getfield 28, 3) := by decide +kernel
theorem dX6_plan_80 : decode cX6_plan 80 = .ok (.invokevirtual 141, 3) := by decide +kernel
theorem dX6_plan_83 : decode cX6_plan 83 = .ok (.ifCond .ne 13, 3) := by decide +kernel
theorem dX6_plan_86 : decode cX6_plan 86 = .ok (.new 144, 3) := by decide +kernel
theorem dX6_plan_89 : decode cX6_plan 89 = .ok (.dup, 1) := by decide +kernel
theorem dX6_plan_90 : decode cX6_plan 90 = .ok (.ldc 146, 2) := by decide +kernel
theorem dX6_plan_92 : decode cX6_plan 92 = .ok (.invokespecial 148, 3) := by decide +kernel
theorem dX6_plan_95 : decode cX6_plan 95 = .ok (.athrow, 1) := by decide +kernel
theorem dX6_plan_96 : decode cX6_plan 96 = .ok (.aload_n 0, 1) := by decide +kernel
theorem dX6_plan_97 : decode cX6_plan 97 = .ok (.getfield 28, 3) := by decide +kernel
theorem dX6_plan_100 : decode cX6_plan 100 = .ok (.iload_n 1, 1) := by decide +kernel
theorem dX6_plan_101 : decode cX6_plan 101 = .ok (.invokevirtual 149, 3) := by decide +kernel
theorem dX6_plan_104 : decode cX6_plan 104 = .ok (.aload_n 0, 1) := by decide +kernel
theorem dX6_plan_105 : decode cX6_plan 105 = .ok (.getfield 37, 3) := by decide +kernel
theorem dX6_plan_108 : decode cX6_plan 108 = .ok (.invokevirtual 153, 3) := by decide +kernel
theorem dX6_plan_111 : decode cX6_plan 111 = .ok (.aload_n 0, 1) := by decide +kernel
theorem dX6_plan_112 : decode cX6_plan 112 = .ok (.iconst 1, 1) := by decide +kernel
theorem dX6_plan_113 : decode cX6_plan 113 = .ok (.putfield 156, 3) := by decide +kernel
theorem dX6_plan_116 : decode cX6_plan 116 = .ok (.aload_n 0, 1) := by decide +kernel
theorem dX6_plan_117 : decode cX6_plan 117 = .ok (.iconst 0, 1) := by decide +kernel
theorem dX6_plan_118 : decode cX6_plan 118 = .ok (.putfield 160, 3) := by decide +kernel
theorem dX6_plan_121 : decode cX6_plan 121 = .ok (.aload_n 0, 1) := by decide +kernel
theorem dX6_plan_122 : decode cX6_plan 122 = .ok (.iconst 0, 1) := by decide +kernel
theorem dX6_plan_123 : decode cX6_plan 123 = .ok (.putfield 163, 3) := by decide +kernel
theorem dX6_plan_126 : decode cX6_plan 126 = .ok (.aload_n 0, 1) := by decide +kernel
theorem dX6_plan_127 : decode cX6_plan 127 = .ok (.getfield 37, 3) := by decide +kernel
theorem dX6_plan_130 : decode cX6_plan 130 = .ok (.getfield 166, 3) := by decide +kernel
theorem dX6_plan_133 : decode cX6_plan 133 = .ok (.ireturn, 1) := by decide +kernel
set_option maxRecDepth 20000 in
theorem ggX6_order_X6_needPlan : GoodIn wsX6_order wsX6_needPlan := goodIn_ca (goodIn_r _ [9, 10, 11, 12, 21, 22, 23, 24, 25, 26, 27, 28, 29] (by decide +kernel) (by decide +kernel)) (goodIn_sub (fun _ h => List.mem_cons_of_mem _ (List.mem_append_left _ (List.mem_append_right _ h))) (by decide +kernel))
set_option maxRecDepth 20000 in
theorem gX6_order_X6_needPlan : GoodIn wsX6_order (wsV RX6 169 RX6 yX6_needPlan wsX6_needPlan) := goodIn_app (goodIn_of _ (by decide +kernel)) ggX6_order_X6_needPlan
set_option maxRecDepth 20000 in
theorem ggX6_order_X6_needWithin : GoodIn wsX6_order wsX6_needWithin := goodIn_ca (goodIn_r _ [15, 16, 17, 18, 19, 8, 20] (by decide +kernel) (by decide +kernel)) (goodIn_sub (fun _ h => List.mem_cons_of_mem _ (List.mem_append_right _ h)) (by decide +kernel))
set_option maxRecDepth 20000 in
theorem gX6_order_X6_needWithin : GoodIn wsX6_order (va_wsS RX6 172 yX6_needWithin wsX6_needWithin) := goodIn_app (goodIn_of _ (by decide +kernel)) ggX6_order_X6_needWithin
theorem dX6_order_0 : decode cX6_order 0 = .ok (.aload_n 0, 1) := by decide +kernel
theorem dX6_order_1 : decode cX6_order 1 = .ok (.invokevirtual 169, 3) := by decide +kernel
theorem dX6_order_4 : decode cX6_order 4 = .ok (.iload_n 1, 1) := by decide +kernel
theorem dX6_order_5 : decode cX6_order 5 = .ok (.aload_n 0, 1) := by decide +kernel
theorem dX6_order_6 : decode cX6_order 6 = .ok (.getfield 10, 3) := by decide +kernel
theorem dX6_order_9 : decode cX6_order 9 = .ok (.getfield 68, 3) := by decide +kernel
theorem dX6_order_12 : decode cX6_order 12 = .ok (.invokestatic 172, 3) := by decide +kernel
theorem dX6_order_15 : decode cX6_order 15 = .ok (.aload_n 0, 1) := by decide +kernel
theorem dX6_order_16 : decode cX6_order 16 = .ok (.getfield 28, 3) := by decide +kernel
theorem dX6_order_19 : decode cX6_order 19 = .ok (.getfield 176, 3) := by decide +kernel
theorem dX6_order_22 : decode cX6_order 22 = .ok (.iload_n 1, 1) := by decide +kernel
theorem dX6_order_23 : decode cX6_order 23 = .ok (.iaload, 1) := by decide +kernel
theorem dX6_order_24 : decode cX6_order 24 = .ok (.ireturn, 1) := by decide +kernel
set_option maxRecDepth 20000 in
theorem ggX6_about_X6_needPlan : GoodIn wsX6_about wsX6_needPlan := goodIn_ca (goodIn_r _ [14, 15, 16, 17, 26, 27, 28, 29, 30, 31, 32, 33, 34] (by decide +kernel) (by decide +kernel)) (goodIn_sub (fun _ h => List.mem_cons_of_mem _ (List.mem_append_left _ (List.mem_append_right _ h))) (by decide +kernel))
set_option maxRecDepth 20000 in
theorem gX6_about_X6_needPlan : GoodIn wsX6_about (wsV RX6 169 RX6 yX6_needPlan wsX6_needPlan) := goodIn_app (goodIn_of _ (by decide +kernel)) ggX6_about_X6_needPlan
set_option maxRecDepth 20000 in
theorem ggX6_about_X6_needWithin : GoodIn wsX6_about wsX6_needWithin := goodIn_ca (goodIn_r _ [20, 21, 22, 23, 24, 13, 25] (by decide +kernel) (by decide +kernel)) (goodIn_sub (fun _ h => List.mem_cons_of_mem _ (List.mem_append_right _ h)) (by decide +kernel))
set_option maxRecDepth 20000 in
theorem gX6_about_X6_needWithin : GoodIn wsX6_about (va_wsS RX6 172 yX6_needWithin wsX6_needWithin) := goodIn_app (goodIn_of _ (by decide +kernel)) ggX6_about_X6_needWithin
theorem dX6_about_0 : decode cX6_about 0 = .ok (.aload_n 0, 1) := by decide +kernel
theorem dX6_about_1 : decode cX6_about 1 = .ok (.invokevirtual 169, 3) := by decide +kernel
theorem dX6_about_4 : decode cX6_about 4 = .ok (.iload_n 1, 1) := by decide +kernel
theorem dX6_about_5 : decode cX6_about 5 = .ok (.aload_n 0, 1) := by decide +kernel
theorem dX6_about_6 : decode cX6_about 6 = .ok (.getfield 10, 3) := by decide +kernel
theorem dX6_about_9 : decode cX6_about 9 = .ok (.getfield 68, 3) := by decide +kernel
theorem dX6_about_12 : decode cX6_about 12 = .ok (.invokestatic 172, 3) := by decide +kernel
theorem dX6_about_15 : decode cX6_about 15 = .ok (.iload_n 2, 1) := by decide +kernel
theorem dX6_about_16 : decode cX6_about 16 = .ok (.iconst 5, 1) := by decide +kernel
theorem dX6_about_17 : decode cX6_about 17 = .ok (.invokestatic 172, 3) := by decide +kernel
theorem dX6_about_20 : decode cX6_about 20 = .ok (.iload_n 2, 1) := by decide +kernel
theorem dX6_about_21 : decode cX6_about 21 = .ok (.tableswitch 71 0 3 #[31, 41, 51, 61], 31) := by decide +kernel
theorem dX6_about_52 : decode cX6_about 52 = .ok (.aload_n 0, 1) := by decide +kernel
theorem dX6_about_53 : decode cX6_about 53 = .ok (.getfield 28, 3) := by decide +kernel
theorem dX6_about_56 : decode cX6_about 56 = .ok (.getfield 179, 3) := by decide +kernel
theorem dX6_about_59 : decode cX6_about 59 = .ok (.iload_n 1, 1) := by decide +kernel
theorem dX6_about_60 : decode cX6_about 60 = .ok (.iaload, 1) := by decide +kernel
theorem dX6_about_61 : decode cX6_about 61 = .ok (.ireturn, 1) := by decide +kernel
theorem dX6_about_62 : decode cX6_about 62 = .ok (.aload_n 0, 1) := by decide +kernel
theorem dX6_about_63 : decode cX6_about 63 = .ok (.getfield 28, 3) := by decide +kernel
theorem dX6_about_66 : decode cX6_about 66 = .ok (.getfield 182, 3) := by decide +kernel
theorem dX6_about_69 : decode cX6_about 69 = .ok (.iload_n 1, 1) := by decide +kernel
theorem dX6_about_70 : decode cX6_about 70 = .ok (.iaload, 1) := by decide +kernel
theorem dX6_about_71 : decode cX6_about 71 = .ok (.ireturn, 1) := by decide +kernel
theorem dX6_about_72 : decode cX6_about 72 = .ok (.aload_n 0, 1) := by decide +kernel
theorem dX6_about_73 : decode cX6_about 73 = .ok (.getfield 28, 3) := by decide +kernel
theorem dX6_about_76 : decode cX6_about 76 = .ok (.getfield 185, 3) := by decide +kernel
theorem dX6_about_79 : decode cX6_about 79 = .ok (.iload_n 1, 1) := by decide +kernel
theorem dX6_about_80 : decode cX6_about 80 = .ok (.iaload, 1) := by decide +kernel
theorem dX6_about_81 : decode cX6_about 81 = .ok (.ireturn, 1) := by decide +kernel
theorem dX6_about_82 : decode cX6_about 82 = .ok (.aload_n 0, 1) := by decide +kernel
theorem dX6_about_83 : decode cX6_about 83 = .ok (.getfield 37, 3) := by decide +kernel
theorem dX6_about_86 : decode cX6_about 86 = .ok (.getfield 188, 3) := by decide +kernel
theorem dX6_about_89 : decode cX6_about 89 = .ok (.iload_n 1, 1) := by decide +kernel
theorem dX6_about_90 : decode cX6_about 90 = .ok (.iaload, 1) := by decide +kernel
theorem dX6_about_91 : decode cX6_about 91 = .ok (.ireturn, 1) := by decide +kernel
theorem dX6_about_92 : decode cX6_about 92 = .ok (.aload_n 0, 1) := by decide +kernel
theorem dX6_about_93 : decode cX6_about 93 = .ok (.getfield 28, 3) := by decide +kernel
theorem dX6_about_96 : decode cX6_about 96 = .ok (.getfield 191, 3) := by decide +kernel
theorem dX6_about_99 : decode cX6_about 99 = .ok (.iload_n 1, 1) := by decide +kernel
theorem dX6_about_100 : decode cX6_about 100 = .ok (.iaload, 1) := by decide +kernel
theorem dX6_about_101 : decode cX6_about 101 = .ok (.ireturn, 1) := by decide +kernel
set_option maxRecDepth 20000 in
theorem ggX6_cost_X6_needPlan : GoodIn wsX6_cost wsX6_needPlan := goodIn_ca (goodIn_r _ [9, 10, 11, 12, 21, 22, 23, 24, 25, 26, 27, 28, 29] (by decide +kernel) (by decide +kernel)) (goodIn_sub (fun _ h => List.mem_cons_of_mem _ (List.mem_append_left _ (List.mem_append_right _ h))) (by decide +kernel))
set_option maxRecDepth 20000 in
theorem gX6_cost_X6_needPlan : GoodIn wsX6_cost (wsV RX6 169 RX6 yX6_needPlan wsX6_needPlan) := goodIn_app (goodIn_of _ (by decide +kernel)) ggX6_cost_X6_needPlan
set_option maxRecDepth 20000 in
theorem ggX6_cost_X6_needWithin : GoodIn wsX6_cost wsX6_needWithin := goodIn_ca (goodIn_r _ [15, 16, 17, 18, 19, 8, 20] (by decide +kernel) (by decide +kernel)) (goodIn_sub (fun _ h => List.mem_cons_of_mem _ (List.mem_append_right _ h)) (by decide +kernel))
set_option maxRecDepth 20000 in
theorem gX6_cost_X6_needWithin : GoodIn wsX6_cost (va_wsS RX6 172 yX6_needWithin wsX6_needWithin) := goodIn_app (goodIn_of _ (by decide +kernel)) ggX6_cost_X6_needWithin
theorem dX6_cost_0 : decode cX6_cost 0 = .ok (.aload_n 0, 1) := by decide +kernel
theorem dX6_cost_1 : decode cX6_cost 1 = .ok (.invokevirtual 169, 3) := by decide +kernel
theorem dX6_cost_4 : decode cX6_cost 4 = .ok (.iload_n 1, 1) := by decide +kernel
theorem dX6_cost_5 : decode cX6_cost 5 = .ok (.aload_n 0, 1) := by decide +kernel
theorem dX6_cost_6 : decode cX6_cost 6 = .ok (.getfield 10, 3) := by decide +kernel
theorem dX6_cost_9 : decode cX6_cost 9 = .ok (.getfield 68, 3) := by decide +kernel
theorem dX6_cost_12 : decode cX6_cost 12 = .ok (.invokestatic 172, 3) := by decide +kernel
theorem dX6_cost_15 : decode cX6_cost 15 = .ok (.aload_n 0, 1) := by decide +kernel
theorem dX6_cost_16 : decode cX6_cost 16 = .ok (.getfield 28, 3) := by decide +kernel
theorem dX6_cost_19 : decode cX6_cost 19 = .ok (.getfield 194, 3) := by decide +kernel
theorem dX6_cost_22 : decode cX6_cost 22 = .ok (.iload_n 1, 1) := by decide +kernel
theorem dX6_cost_23 : decode cX6_cost 23 = .ok (.iaload, 1) := by decide +kernel
theorem dX6_cost_24 : decode cX6_cost 24 = .ok (.ireturn, 1) := by decide +kernel
set_option maxRecDepth 20000 in
theorem ggX6_peak_X6_needPlan : GoodIn wsX6_peak wsX6_needPlan := goodIn_ca (goodIn_r _ [7, 8, 9, 10, 11, 12, 13, 14, 15, 16, 17, 18, 19] (by decide +kernel) (by decide +kernel)) (goodIn_sub (fun _ h => List.mem_cons_of_mem _ (List.mem_append_right _ h)) (by decide +kernel))
set_option maxRecDepth 20000 in
theorem gX6_peak_X6_needPlan : GoodIn wsX6_peak (wsV RX6 169 RX6 yX6_needPlan wsX6_needPlan) := goodIn_app (goodIn_of _ (by decide +kernel)) ggX6_peak_X6_needPlan
theorem dX6_peak_0 : decode cX6_peak 0 = .ok (.aload_n 0, 1) := by decide +kernel
theorem dX6_peak_1 : decode cX6_peak 1 = .ok (.invokevirtual 169, 3) := by decide +kernel
theorem dX6_peak_4 : decode cX6_peak 4 = .ok (.aload_n 0, 1) := by decide +kernel
theorem dX6_peak_5 : decode cX6_peak 5 = .ok (.getfield 28, 3) := by decide +kernel
theorem dX6_peak_8 : decode cX6_peak 8 = .ok (.getfield 197, 3) := by decide +kernel
theorem dX6_peak_11 : decode cX6_peak 11 = .ok (.ireturn, 1) := by decide +kernel
set_option maxRecDepth 20000 in
theorem ggX6_least_X6_needPlan : GoodIn wsX6_least wsX6_needPlan := goodIn_ca (goodIn_r _ [7, 8, 9, 10, 50, 51, 52, 53, 54, 55, 56, 57, 58] (by decide +kernel) (by decide +kernel)) (goodIn_sub (fun _ h => List.mem_cons_of_mem _ (List.mem_append_left _ (List.mem_append_right _ h))) (by decide +kernel))
set_option maxRecDepth 20000 in
theorem gX6_least_X6_needPlan : GoodIn wsX6_least (wsV RX6 169 RX6 yX6_needPlan wsX6_needPlan) := goodIn_app (goodIn_of _ (by decide +kernel)) ggX6_least_X6_needPlan
set_option maxRecDepth 20000 in
theorem ggX6_least_X2_find : GoodIn wsX6_least wsX2_find := goodIn_ca (goodIn_r _ [15, 16, 17, 18, 19, 20, 21, 22, 23, 24, 25, 26, 14, 27, 28, 29, 30, 31, 32, 33, 34, 35, 36, 37, 38, 39, 40, 41, 42, 43, 44, 6, 45, 46, 47, 48, 49, 59, 60, 61, 62, 63, 64, 65, 66, 67, 68, 69, 70, 71, 72, 73, 74, 75, 76, 77, 78, 79] (by decide +kernel) (by decide +kernel)) (goodIn_sub (fun _ h => List.mem_cons_of_mem _ (List.mem_append_right _ h)) (by decide +kernel))
set_option maxRecDepth 20000 in
theorem gX6_least_X2_find : GoodIn wsX6_least (wsV RX6 200 RX2 yX2_find wsX2_find) := goodIn_app (goodIn_of _ (by decide +kernel)) ggX6_least_X2_find
theorem dX6_least_0 : decode cX6_least 0 = .ok (.aload_n 0, 1) := by decide +kernel
theorem dX6_least_1 : decode cX6_least 1 = .ok (.invokevirtual 169, 3) := by decide +kernel
theorem dX6_least_4 : decode cX6_least 4 = .ok (.aload_n 0, 1) := by decide +kernel
theorem dX6_least_5 : decode cX6_least 5 = .ok (.getfield 163, 3) := by decide +kernel
theorem dX6_least_8 : decode cX6_least 8 = .ok (.ifCond .ne 14, 3) := by decide +kernel
theorem dX6_least_11 : decode cX6_least 11 = .ok (.aload_n 0, 1) := by decide +kernel
theorem dX6_least_12 : decode cX6_least 12 = .ok (.aload_n 0, 1) := by decide +kernel
theorem dX6_least_13 : decode cX6_least 13 = .ok (.getfield 53, 3) := by decide +kernel
theorem dX6_least_16 : decode cX6_least 16 = .ok (.invokevirtual 200, 3) := by decide +kernel
theorem dX6_least_19 : decode cX6_least 19 = .ok (.putfield 163, 3) := by decide +kernel
theorem dX6_least_22 : decode cX6_least 22 = .ok (.aload_n 0, 1) := by decide +kernel
theorem dX6_least_23 : decode cX6_least 23 = .ok (.getfield 163, 3) := by decide +kernel
theorem dX6_least_26 : decode cX6_least 26 = .ok (.ireturn, 1) := by decide +kernel
set_option maxRecDepth 20000 in
theorem ggX6_run_X6_needPlan : GoodIn wsX6_run wsX6_needPlan := goodIn_ca (goodIn_r _ [7, 8, 9, 10, 44, 45, 46, 47, 48, 49, 50, 51, 52] (by decide +kernel) (by decide +kernel)) (goodIn_sub (fun _ h => List.mem_cons_of_mem _ (List.mem_append_left _ (List.mem_append_right _ h))) (by decide +kernel))
set_option maxRecDepth 20000 in
theorem gX6_run_X6_needPlan : GoodIn wsX6_run (wsV RX6 169 RX6 yX6_needPlan wsX6_needPlan) := goodIn_app (goodIn_of _ (by decide +kernel)) ggX6_run_X6_needPlan
set_option maxRecDepth 20000 in
theorem ggX6_run_X0_work : GoodIn wsX6_run wsX0_work := goodIn_ca (goodIn_r _ [15, 16, 17, 18, 19, 20, 21, 22, 23, 24, 25, 26, 27, 28, 29, 14, 30, 31, 32, 33, 34, 35, 36, 37, 38, 39, 40, 41, 42, 43, 53, 54, 55, 56, 57, 58, 59, 60, 61, 62, 63, 64, 65, 66, 67, 68, 69, 70, 71, 72, 73, 74, 75, 76, 77, 78, 79] (by decide +kernel) (by decide +kernel)) (goodIn_sub (fun _ h => List.mem_cons_of_mem _ (List.mem_append_right _ h)) (by decide +kernel))
set_option maxRecDepth 20000 in
theorem gX6_run_X0_work : GoodIn wsX6_run (wsV RX6 203 RX0 yX0_work wsX0_work) := goodIn_app (goodIn_of _ (by decide +kernel)) ggX6_run_X0_work
theorem dX6_run_0 : decode cX6_run 0 = .ok (.aload_n 0, 1) := by decide +kernel
theorem dX6_run_1 : decode cX6_run 1 = .ok (.invokevirtual 169, 3) := by decide +kernel
theorem dX6_run_4 : decode cX6_run 4 = .ok (.aload_n 0, 1) := by decide +kernel
theorem dX6_run_5 : decode cX6_run 5 = .ok (.iconst 1, 1) := by decide +kernel
theorem dX6_run_6 : decode cX6_run 6 = .ok (.putfield 160, 3) := by decide +kernel
theorem dX6_run_9 : decode cX6_run 9 = .ok (.aload_n 0, 1) := by decide +kernel
theorem dX6_run_10 : decode cX6_run 10 = .ok (.getfield 46, 3) := by decide +kernel
theorem dX6_run_13 : decode cX6_run 13 = .ok (.invokevirtual 203, 3) := by decide +kernel
theorem dX6_run_16 : decode cX6_run 16 = .ok (.ireturn, 1) := by decide +kernel
set_option maxRecDepth 20000 in
theorem ggX6_cell_X6_needRun : GoodIn wsX6_cell wsX6_needRun := goodIn_ca (goodIn_r _ [9, 10, 11, 12, 13, 14, 15, 8, 16, 17, 26, 27, 28, 29, 30, 31, 32, 33, 34] (by decide +kernel) (by decide +kernel)) (goodIn_sub (fun _ h => List.mem_cons_of_mem _ (List.mem_append_left _ (List.mem_append_right _ h))) (by decide +kernel))
set_option maxRecDepth 20000 in
theorem gX6_cell_X6_needRun : GoodIn wsX6_cell (wsV RX6 206 RX6 yX6_needRun wsX6_needRun) := goodIn_app (goodIn_of _ (by decide +kernel)) ggX6_cell_X6_needRun
set_option maxRecDepth 20000 in
theorem ggX6_cell_X6_needWithin : GoodIn wsX6_cell wsX6_needWithin := goodIn_ca (goodIn_r _ [20, 21, 22, 23, 24, 8, 25] (by decide +kernel) (by decide +kernel)) (goodIn_sub (fun _ h => List.mem_cons_of_mem _ (List.mem_append_right _ h)) (by decide +kernel))
set_option maxRecDepth 20000 in
theorem gX6_cell_X6_needWithin : GoodIn wsX6_cell (va_wsS RX6 172 yX6_needWithin wsX6_needWithin) := goodIn_app (goodIn_of _ (by decide +kernel)) ggX6_cell_X6_needWithin
theorem dX6_cell_0 : decode cX6_cell 0 = .ok (.aload_n 0, 1) := by decide +kernel
theorem dX6_cell_1 : decode cX6_cell 1 = .ok (.invokevirtual 206, 3) := by decide +kernel
theorem dX6_cell_4 : decode cX6_cell 4 = .ok (.iload_n 1, 1) := by decide +kernel
theorem dX6_cell_5 : decode cX6_cell 5 = .ok (.aload_n 0, 1) := by decide +kernel
theorem dX6_cell_6 : decode cX6_cell 6 = .ok (.getfield 37, 3) := by decide +kernel
theorem dX6_cell_9 : decode cX6_cell 9 = .ok (.getfield 166, 3) := by decide +kernel
theorem dX6_cell_12 : decode cX6_cell 12 = .ok (.invokestatic 172, 3) := by decide +kernel
theorem dX6_cell_15 : decode cX6_cell 15 = .ok (.aload_n 0, 1) := by decide +kernel
theorem dX6_cell_16 : decode cX6_cell 16 = .ok (.getfield 46, 3) := by decide +kernel
theorem dX6_cell_19 : decode cX6_cell 19 = .ok (.getfield 209, 3) := by decide +kernel
theorem dX6_cell_22 : decode cX6_cell 22 = .ok (.iload_n 1, 1) := by decide +kernel
theorem dX6_cell_23 : decode cX6_cell 23 = .ok (.iaload, 1) := by decide +kernel
theorem dX6_cell_24 : decode cX6_cell 24 = .ok (.ireturn, 1) := by decide +kernel
set_option maxRecDepth 20000 in
theorem ggX6_result_X6_needRun : GoodIn wsX6_result wsX6_needRun := goodIn_ca (goodIn_r _ [15, 16, 17, 18, 19, 20, 21, 14, 22, 23, 38, 39, 40, 41, 42, 43, 44, 45, 46] (by decide +kernel) (by decide +kernel)) (goodIn_sub (fun _ h => List.mem_cons_of_mem _ (List.mem_append_left _ (List.mem_append_right _ h))) (by decide +kernel))
set_option maxRecDepth 20000 in
theorem gX6_result_X6_needRun : GoodIn wsX6_result (wsV RX6 206 RX6 yX6_needRun wsX6_needRun) := goodIn_app (goodIn_of _ (by decide +kernel)) ggX6_result_X6_needRun
set_option maxRecDepth 20000 in
theorem ggX6_result_X1_has : GoodIn wsX6_result wsX1_has := goodIn_r _ [28, 29, 30, 14, 31, 47, 48, 49, 50, 51, 52, 53] (by decide +kernel) (by decide +kernel)
set_option maxRecDepth 20000 in
theorem gX6_result_X1_has : GoodIn wsX6_result (wsV RX6 84 RX1 yX1_has wsX1_has) := goodIn_app (goodIn_of _ (by decide +kernel)) ggX6_result_X1_has
set_option maxRecDepth 20000 in
theorem ggX6_result_X6_needWithin : GoodIn wsX6_result wsX6_needWithin := goodIn_ca (goodIn_r _ [34, 35, 36, 37, 30, 14, 31] (by decide +kernel) (by decide +kernel)) (goodIn_sub (fun _ h => List.mem_cons_of_mem _ (List.mem_append_right _ h)) (by decide +kernel))
set_option maxRecDepth 20000 in
theorem gX6_result_X6_needWithin : GoodIn wsX6_result (va_wsS RX6 172 yX6_needWithin wsX6_needWithin) := goodIn_app (goodIn_of _ (by decide +kernel)) ggX6_result_X6_needWithin
theorem dX6_result_0 : decode cX6_result 0 = .ok (.aload_n 0, 1) := by decide +kernel
theorem dX6_result_1 : decode cX6_result 1 = .ok (.invokevirtual 206, 3) := by decide +kernel
theorem dX6_result_4 : decode cX6_result 4 = .ok (.aload_n 0, 1) := by decide +kernel
theorem dX6_result_5 : decode cX6_result 5 = .ok (.getfield 10, 3) := by decide +kernel
theorem dX6_result_8 : decode cX6_result 8 = .ok (.iload_n 1, 1) := by decide +kernel
theorem dX6_result_9 : decode cX6_result 9 = .ok (.invokevirtual 84, 3) := by decide +kernel
theorem dX6_result_12 : decode cX6_result 12 = .ok (.ifCond .eq 15, 3) := by decide +kernel
theorem dX6_result_15 : decode cX6_result 15 = .ok (.aload_n 0, 1) := by decide +kernel
theorem dX6_result_16 : decode cX6_result 16 = .ok (.getfield 10, 3) := by decide +kernel
theorem dX6_result_19 : decode cX6_result 19 = .ok (.getfield 110, 3) := by decide +kernel
theorem dX6_result_22 : decode cX6_result 22 = .ok (.iload_n 1, 1) := by decide +kernel
theorem dX6_result_23 : decode cX6_result 23 = .ok (.baload, 1) := by decide +kernel
theorem dX6_result_24 : decode cX6_result 24 = .ok (.ifCond .ne 13, 3) := by decide +kernel
theorem dX6_result_27 : decode cX6_result 27 = .ok (.new 120, 3) := by decide +kernel
theorem dX6_result_30 : decode cX6_result 30 = .ok (.dup, 1) := by decide +kernel
theorem dX6_result_31 : decode cX6_result 31 = .ok (.ldc 212, 2) := by decide +kernel
theorem dX6_result_33 : decode cX6_result 33 = .ok (.invokespecial 124, 3) := by decide +kernel
theorem dX6_result_36 : decode cX6_result 36 = .ok (.athrow, 1) := by decide +kernel
theorem dX6_result_37 : decode cX6_result 37 = .ok (.iload_n 2, 1) := by decide +kernel
theorem dX6_result_38 : decode cX6_result 38 = .ok (.aload_n 0, 1) := by decide +kernel
theorem dX6_result_39 : decode cX6_result 39 = .ok (.getfield 28, 3) := by decide +kernel
theorem dX6_result_42 : decode cX6_result 42 = .ok (.getfield 179, 3) := by decide +kernel
theorem dX6_result_45 : decode cX6_result 45 = .ok (.iload_n 1, 1) := by decide +kernel
theorem dX6_result_46 : decode cX6_result 46 = .ok (.iaload, 1) := by decide +kernel
theorem dX6_result_47 : decode cX6_result 47 = .ok (.invokestatic 172, 3) := by decide +kernel
theorem dX6_result_50 : decode cX6_result 50 = .ok (.aload_n 0, 1) := by decide +kernel
theorem dX6_result_51 : decode cX6_result 51 = .ok (.getfield 46, 3) := by decide +kernel
theorem dX6_result_54 : decode cX6_result 54 = .ok (.getfield 209, 3) := by decide +kernel
theorem dX6_result_57 : decode cX6_result 57 = .ok (.aload_n 0, 1) := by decide +kernel
theorem dX6_result_58 : decode cX6_result 58 = .ok (.getfield 37, 3) := by decide +kernel
theorem dX6_result_61 : decode cX6_result 61 = .ok (.getfield 188, 3) := by decide +kernel
theorem dX6_result_64 : decode cX6_result 64 = .ok (.iload_n 1, 1) := by decide +kernel
theorem dX6_result_65 : decode cX6_result 65 = .ok (.iaload, 1) := by decide +kernel
theorem dX6_result_66 : decode cX6_result 66 = .ok (.iload_n 2, 1) := by decide +kernel
theorem dX6_result_67 : decode cX6_result 67 = .ok (.iadd, 1) := by decide +kernel
theorem dX6_result_68 : decode cX6_result 68 = .ok (.iaload, 1) := by decide +kernel
theorem dX6_result_69 : decode cX6_result 69 = .ok (.ireturn, 1) := by decide +kernel
theorem dX6_forgetPlan_0 : decode cX6_forgetPlan 0 = .ok (.aload_n 0, 1) := by decide +kernel
theorem dX6_forgetPlan_1 : decode cX6_forgetPlan 1 = .ok (.iconst 0, 1) := by decide +kernel
theorem dX6_forgetPlan_2 : decode cX6_forgetPlan 2 = .ok (.putfield 156, 3) := by decide +kernel
theorem dX6_forgetPlan_5 : decode cX6_forgetPlan 5 = .ok (.return_, 1) := by decide +kernel
theorem dX6_needPlan_0 : decode cX6_needPlan 0 = .ok (.aload_n 0, 1) := by decide +kernel
theorem dX6_needPlan_1 : decode cX6_needPlan 1 = .ok (.getfield 156, 3) := by decide +kernel
theorem dX6_needPlan_4 : decode cX6_needPlan 4 = .ok (.ifCond .ne 13, 3) := by decide +kernel
theorem dX6_needPlan_7 : decode cX6_needPlan 7 = .ok (.new 136, 3) := by decide +kernel
theorem dX6_needPlan_10 : decode cX6_needPlan 10 = .ok (.dup, 1) := by decide +kernel
theorem dX6_needPlan_11 : decode cX6_needPlan 11 = .ok (.ldc 214, 2) := by decide +kernel
theorem dX6_needPlan_13 : decode cX6_needPlan 13 = .ok (.invokespecial 140, 3) := by decide +kernel
theorem dX6_needPlan_16 : decode cX6_needPlan 16 = .ok (.athrow, 1) := by decide +kernel
theorem dX6_needPlan_17 : decode cX6_needPlan 17 = .ok (.return_, 1) := by decide +kernel
set_option maxRecDepth 20000 in
theorem ggX6_needRun_X6_needPlan : GoodIn wsX6_needRun wsX6_needPlan := goodIn_ca (goodIn_r _ [8, 1, 2, 9, 10, 11, 12, 13, 14, 15, 16, 17, 18] (by decide +kernel) (by decide +kernel)) (goodIn_sub (fun _ h => List.mem_cons_of_mem _ (List.mem_append_right _ h)) (by decide +kernel))
set_option maxRecDepth 20000 in
theorem gX6_needRun_X6_needPlan : GoodIn wsX6_needRun (wsV RX6 169 RX6 yX6_needPlan wsX6_needPlan) := goodIn_app (goodIn_of _ (by decide +kernel)) ggX6_needRun_X6_needPlan
theorem dX6_needRun_0 : decode cX6_needRun 0 = .ok (.aload_n 0, 1) := by decide +kernel
theorem dX6_needRun_1 : decode cX6_needRun 1 = .ok (.invokevirtual 169, 3) := by decide +kernel
theorem dX6_needRun_4 : decode cX6_needRun 4 = .ok (.aload_n 0, 1) := by decide +kernel
theorem dX6_needRun_5 : decode cX6_needRun 5 = .ok (.getfield 160, 3) := by decide +kernel
theorem dX6_needRun_8 : decode cX6_needRun 8 = .ok (.ifCond .ne 13, 3) := by decide +kernel
theorem dX6_needRun_11 : decode cX6_needRun 11 = .ok (.new 136, 3) := by decide +kernel
theorem dX6_needRun_14 : decode cX6_needRun 14 = .ok (.dup, 1) := by decide +kernel
theorem dX6_needRun_15 : decode cX6_needRun 15 = .ok (.ldc 216, 2) := by decide +kernel
theorem dX6_needRun_17 : decode cX6_needRun 17 = .ok (.invokespecial 140, 3) := by decide +kernel
theorem dX6_needRun_20 : decode cX6_needRun 20 = .ok (.athrow, 1) := by decide +kernel
theorem dX6_needRun_21 : decode cX6_needRun 21 = .ok (.return_, 1) := by decide +kernel
set_option maxRecDepth 20000 in
theorem ggX6_needWithin_X6_isWithin : GoodIn wsX6_needWithin wsX6_isWithin := goodIn_r _ [6] (by decide +kernel) (by decide +kernel)
set_option maxRecDepth 20000 in
theorem gX6_needWithin_X6_isWithin : GoodIn wsX6_needWithin (va_wsS RX6 95 yX6_isWithin wsX6_isWithin) := goodIn_app (goodIn_of _ (by decide +kernel)) ggX6_needWithin_X6_isWithin
theorem dX6_needWithin_0 : decode cX6_needWithin 0 = .ok (.iload_n 0, 1) := by decide +kernel
theorem dX6_needWithin_1 : decode cX6_needWithin 1 = .ok (.iload_n 1, 1) := by decide +kernel
theorem dX6_needWithin_2 : decode cX6_needWithin 2 = .ok (.invokestatic 95, 3) := by decide +kernel
theorem dX6_needWithin_5 : decode cX6_needWithin 5 = .ok (.ifCond .ne 13, 3) := by decide +kernel
theorem dX6_needWithin_8 : decode cX6_needWithin 8 = .ok (.new 218, 3) := by decide +kernel
theorem dX6_needWithin_11 : decode cX6_needWithin 11 = .ok (.dup, 1) := by decide +kernel
theorem dX6_needWithin_12 : decode cX6_needWithin 12 = .ok (.ldc 220, 2) := by decide +kernel
theorem dX6_needWithin_14 : decode cX6_needWithin 14 = .ok (.invokespecial 222, 3) := by decide +kernel
theorem dX6_needWithin_17 : decode cX6_needWithin 17 = .ok (.athrow, 1) := by decide +kernel
theorem dX6_needWithin_18 : decode cX6_needWithin 18 = .ok (.return_, 1) := by decide +kernel
theorem dX6_isWithin_0 : decode cX6_isWithin 0 = .ok (.iload_n 0, 1) := by decide +kernel
theorem dX6_isWithin_1 : decode cX6_isWithin 1 = .ok (.ifCond .lt 12, 3) := by decide +kernel
theorem dX6_isWithin_4 : decode cX6_isWithin 4 = .ok (.iload_n 0, 1) := by decide +kernel
theorem dX6_isWithin_5 : decode cX6_isWithin 5 = .ok (.iload_n 1, 1) := by decide +kernel
theorem dX6_isWithin_6 : decode cX6_isWithin 6 = .ok (.if_icmp .ge 7, 3) := by decide +kernel
theorem dX6_isWithin_9 : decode cX6_isWithin 9 = .ok (.iconst 1, 1) := by decide +kernel
theorem dX6_isWithin_10 : decode cX6_isWithin 10 = .ok (.goto 4, 3) := by decide +kernel
theorem dX6_isWithin_13 : decode cX6_isWithin 13 = .ok (.iconst 0, 1) := by decide +kernel
theorem dX6_isWithin_14 : decode cX6_isWithin 14 = .ok (.ireturn, 1) := by decide +kernel
set_option maxRecDepth 20000 in
theorem ggX6_canBeMade_X6_isWithin : GoodIn wsX6_canBeMade wsX6_isWithin := goodIn_r _ [5] (by decide +kernel) (by decide +kernel)
set_option maxRecDepth 20000 in
theorem gX6_canBeMade_X6_isWithin : GoodIn wsX6_canBeMade (va_wsS RX6 95 yX6_isWithin wsX6_isWithin) := goodIn_app (goodIn_of _ (by decide +kernel)) ggX6_canBeMade_X6_isWithin
theorem dX6_canBeMade_0 : decode cX6_canBeMade 0 = .ok (.iload_n 0, 1) := by decide +kernel
theorem dX6_canBeMade_1 : decode cX6_canBeMade 1 = .ok (.lookupswitch 78 #[(0, 35), (5, 52), (7, 35)], 35) := by decide +kernel
theorem dX6_canBeMade_36 : decode cX6_canBeMade 36 = .ok (.iload_n 1, 1) := by decide +kernel
theorem dX6_canBeMade_37 : decode cX6_canBeMade 37 = .ok (.iconst 1, 1) := by decide +kernel
theorem dX6_canBeMade_38 : decode cX6_canBeMade 38 = .ok (.if_icmp .lt 13, 3) := by decide +kernel
theorem dX6_canBeMade_41 : decode cX6_canBeMade 41 = .ok (.iload_n 1, 1) := by decide +kernel
theorem dX6_canBeMade_42 : decode cX6_canBeMade 42 = .ok (.bipush 16, 2) := by decide +kernel
theorem dX6_canBeMade_44 : decode cX6_canBeMade 44 = .ok (.if_icmp .gt 7, 3) := by decide +kernel
theorem dX6_canBeMade_47 : decode cX6_canBeMade 47 = .ok (.iconst 1, 1) := by decide +kernel
theorem dX6_canBeMade_48 : decode cX6_canBeMade 48 = .ok (.goto 4, 3) := by decide +kernel
theorem dX6_canBeMade_51 : decode cX6_canBeMade 51 = .ok (.iconst 0, 1) := by decide +kernel
theorem dX6_canBeMade_52 : decode cX6_canBeMade 52 = .ok (.ireturn, 1) := by decide +kernel
theorem dX6_canBeMade_53 : decode cX6_canBeMade 53 = .ok (.iload_n 1, 1) := by decide +kernel
theorem dX6_canBeMade_54 : decode cX6_canBeMade 54 = .ok (.bipush 40, 2) := by decide +kernel
theorem dX6_canBeMade_56 : decode cX6_canBeMade 56 = .ok (.invokestatic 95, 3) := by decide +kernel
theorem dX6_canBeMade_59 : decode cX6_canBeMade 59 = .ok (.ifCond .eq 18, 3) := by decide +kernel
theorem dX6_canBeMade_62 : decode cX6_canBeMade 62 = .ok (.iload_n 2, 1) := by decide +kernel
theorem dX6_canBeMade_63 : decode cX6_canBeMade 63 = .ok (.iconst 1, 1) := by decide +kernel
theorem dX6_canBeMade_64 : decode cX6_canBeMade 64 = .ok (.if_icmp .lt 13, 3) := by decide +kernel
theorem dX6_canBeMade_67 : decode cX6_canBeMade 67 = .ok (.iload_n 2, 1) := by decide +kernel
theorem dX6_canBeMade_68 : decode cX6_canBeMade 68 = .ok (.bipush 16, 2) := by decide +kernel
theorem dX6_canBeMade_70 : decode cX6_canBeMade 70 = .ok (.if_icmp .gt 7, 3) := by decide +kernel
theorem dX6_canBeMade_73 : decode cX6_canBeMade 73 = .ok (.iconst 1, 1) := by decide +kernel
theorem dX6_canBeMade_74 : decode cX6_canBeMade 74 = .ok (.goto 4, 3) := by decide +kernel
theorem dX6_canBeMade_77 : decode cX6_canBeMade 77 = .ok (.iconst 0, 1) := by decide +kernel
theorem dX6_canBeMade_78 : decode cX6_canBeMade 78 = .ok (.ireturn, 1) := by decide +kernel
theorem dX6_canBeMade_79 : decode cX6_canBeMade 79 = .ok (.iload_n 0, 1) := by decide +kernel
theorem dX6_canBeMade_80 : decode cX6_canBeMade 80 = .ok (.getstatic 223, 3) := by decide +kernel
theorem dX6_canBeMade_83 : decode cX6_canBeMade 83 = .ok (.arraylength, 1) := by decide +kernel
theorem dX6_canBeMade_84 : decode cX6_canBeMade 84 = .ok (.invokestatic 95, 3) := by decide +kernel
theorem dX6_canBeMade_87 : decode cX6_canBeMade 87 = .ok (.ireturn, 1) := by decide +kernel
theorem dX6_setOf_0 : decode cX6_setOf 0 = .ok (.iload_n 0, 1) := by decide +kernel
theorem dX6_setOf_1 : decode cX6_setOf 1 = .ok (.iconst (-1), 1) := by decide +kernel
theorem dX6_setOf_2 : decode cX6_setOf 2 = .ok (.if_icmp .ne 7, 3) := by decide +kernel
theorem dX6_setOf_5 : decode cX6_setOf 5 = .ok (.iconst 0, 1) := by decide +kernel
theorem dX6_setOf_6 : decode cX6_setOf 6 = .ok (.goto 6, 3) := by decide +kernel
theorem dX6_setOf_9 : decode cX6_setOf 9 = .ok (.iconst 1, 1) := by decide +kernel
theorem dX6_setOf_10 : decode cX6_setOf 10 = .ok (.iload_n 0, 1) := by decide +kernel
theorem dX6_setOf_11 : decode cX6_setOf 11 = .ok (.ishl, 1) := by decide +kernel
theorem dX6_setOf_12 : decode cX6_setOf 12 = .ok (.ireturn, 1) := by decide +kernel
theorem dX6_contains_0 : decode cX6_contains 0 = .ok (.iload_n 0, 1) := by decide +kernel
theorem dX6_contains_1 : decode cX6_contains 1 = .ok (.iload_n 1, 1) := by decide +kernel
theorem dX6_contains_2 : decode cX6_contains 2 = .ok (.ishr, 1) := by decide +kernel
theorem dX6_contains_3 : decode cX6_contains 3 = .ok (.iconst 1, 1) := by decide +kernel
theorem dX6_contains_4 : decode cX6_contains 4 = .ok (.iand, 1) := by decide +kernel
theorem dX6_contains_5 : decode cX6_contains 5 = .ok (.ifCond .eq 7, 3) := by decide +kernel
theorem dX6_contains_8 : decode cX6_contains 8 = .ok (.iconst 1, 1) := by decide +kernel
theorem dX6_contains_9 : decode cX6_contains 9 = .ok (.goto 4, 3) := by decide +kernel
theorem dX6_contains_12 : decode cX6_contains 12 = .ok (.iconst 0, 1) := by decide +kernel
theorem dX6_contains_13 : decode cX6_contains 13 = .ok (.ireturn, 1) := by decide +kernel
theorem dX6_isPartOf_0 : decode cX6_isPartOf 0 = .ok (.iload_n 0, 1) := by decide +kernel
theorem dX6_isPartOf_1 : decode cX6_isPartOf 1 = .ok (.iload_n 1, 1) := by decide +kernel
theorem dX6_isPartOf_2 : decode cX6_isPartOf 2 = .ok (.iconst (-1), 1) := by decide +kernel
theorem dX6_isPartOf_3 : decode cX6_isPartOf 3 = .ok (.ixor, 1) := by decide +kernel
theorem dX6_isPartOf_4 : decode cX6_isPartOf 4 = .ok (.iand, 1) := by decide +kernel
theorem dX6_isPartOf_5 : decode cX6_isPartOf 5 = .ok (.ifCond .ne 7, 3) := by decide +kernel
theorem dX6_isPartOf_8 : decode cX6_isPartOf 8 = .ok (.iconst 1, 1) := by decide +kernel
theorem dX6_isPartOf_9 : decode cX6_isPartOf 9 = .ok (.goto 4, 3) := by decide +kernel
theorem dX6_isPartOf_12 : decode cX6_isPartOf 12 = .ok (.iconst 0, 1) := by decide +kernel
theorem dX6_isPartOf_13 : decode cX6_isPartOf 13 = .ok (.ireturn, 1) := by decide +kernel
