theorem dX7_init_0 : decode cX7_init 0 = .ok (.aload_n 0, 1) := by decide +kernel
theorem dX7_init_1 : decode cX7_init 1 = .ok (.invokespecial 1, 3) := by decide +kernel
theorem dX7_init_4 : decode cX7_init 4 = .ok (.aload_n 0, 1) := by decide +kernel
theorem dX7_init_5 : decode cX7_init 5 = .ok (.bipush 12, 2) := by decide +kernel
theorem dX7_init_7 : decode cX7_init 7 = .ok (.newarray .int, 2) := by decide +kernel
theorem dX7_init_9 : decode cX7_init 9 = .ok (.putfield 7, 3) := by decide +kernel
theorem dX7_init_12 : decode cX7_init 12 = .ok (.aload_n 0, 1) := by decide +kernel
theorem dX7_init_13 : decode cX7_init 13 = .ok (.bipush 12, 2) := by decide +kernel
theorem dX7_init_15 : decode cX7_init 15 = .ok (.newarray .int, 2) := by decide +kernel
theorem dX7_init_17 : decode cX7_init 17 = .ok (.putfield 13, 3) := by decide +kernel
theorem dX7_init_20 : decode cX7_init 20 = .ok (.aload_n 0, 1) := by decide +kernel
theorem dX7_init_21 : decode cX7_init 21 = .ok (.bipush 12, 2) := by decide +kernel
theorem dX7_init_23 : decode cX7_init 23 = .ok (.newarray .int, 2) := by decide +kernel
theorem dX7_init_25 : decode cX7_init 25 = .ok (.putfield 16, 3) := by decide +kernel
theorem dX7_init_28 : decode cX7_init 28 = .ok (.aload_n 0, 1) := by decide +kernel
theorem dX7_init_29 : decode cX7_init 29 = .ok (.bipush 24, 2) := by decide +kernel
theorem dX7_init_31 : decode cX7_init 31 = .ok (.newarray .int, 2) := by decide +kernel
theorem dX7_init_33 : decode cX7_init 33 = .ok (.putfield 19, 3) := by decide +kernel
theorem dX7_init_36 : decode cX7_init 36 = .ok (.aload_n 0, 1) := by decide +kernel
theorem dX7_init_37 : decode cX7_init 37 = .ok (.bipush 12, 2) := by decide +kernel
theorem dX7_init_39 : decode cX7_init 39 = .ok (.newarray .boolean, 2) := by decide +kernel
theorem dX7_init_41 : decode cX7_init 41 = .ok (.putfield 22, 3) := by decide +kernel
theorem dX7_init_44 : decode cX7_init 44 = .ok (.aload_n 0, 1) := by decide +kernel
theorem dX7_init_45 : decode cX7_init 45 = .ok (.sipush 192, 3) := by decide +kernel
theorem dX7_init_48 : decode cX7_init 48 = .ok (.newarray .int, 2) := by decide +kernel
theorem dX7_init_50 : decode cX7_init 50 = .ok (.putfield 26, 3) := by decide +kernel
theorem dX7_init_53 : decode cX7_init 53 = .ok (.aload_n 0, 1) := by decide +kernel
theorem dX7_init_54 : decode cX7_init 54 = .ok (.bipush 12, 2) := by decide +kernel
theorem dX7_init_56 : decode cX7_init 56 = .ok (.newarray .int, 2) := by decide +kernel
theorem dX7_init_58 : decode cX7_init 58 = .ok (.putfield 29, 3) := by decide +kernel
theorem dX7_init_61 : decode cX7_init 61 = .ok (.aload_n 0, 1) := by decide +kernel
theorem dX7_init_62 : decode cX7_init 62 = .ok (.bipush 12, 2) := by decide +kernel
theorem dX7_init_64 : decode cX7_init 64 = .ok (.newarray .int, 2) := by decide +kernel
theorem dX7_init_66 : decode cX7_init 66 = .ok (.putfield 32, 3) := by decide +kernel
theorem dX7_init_69 : decode cX7_init 69 = .ok (.aload_n 0, 1) := by decide +kernel
theorem dX7_init_70 : decode cX7_init 70 = .ok (.bipush 12, 2) := by decide +kernel
theorem dX7_init_72 : decode cX7_init 72 = .ok (.newarray .int, 2) := by decide +kernel
theorem dX7_init_74 : decode cX7_init 74 = .ok (.putfield 35, 3) := by decide +kernel
theorem dX7_init_77 : decode cX7_init 77 = .ok (.aload_n 0, 1) := by decide +kernel
theorem dX7_init_78 : decode cX7_init 78 = .ok (.bipush 12, 2) := by decide +kernel
theorem dX7_init_80 : decode cX7_init 80 = .ok (.newarray .int, 2) := by decide +kernel
theorem dX7_init_82 : decode cX7_init 82 = .ok (.putfield 38, 3) := by decide +kernel
theorem dX7_init_85 : decode cX7_init 85 = .ok (.aload_n 0, 1) := by decide +kernel
theorem dX7_init_86 : decode cX7_init 86 = .ok (.bipush 12, 2) := by decide +kernel
theorem dX7_init_88 : decode cX7_init 88 = .ok (.newarray .int, 2) := by decide +kernel
theorem dX7_init_90 : decode cX7_init 90 = .ok (.putfield 41, 3) := by decide +kernel
theorem dX7_init_93 : decode cX7_init 93 = .ok (.aload_n 0, 1) := by decide +kernel
theorem dX7_init_94 : decode cX7_init 94 = .ok (.bipush 12, 2) := by decide +kernel
theorem dX7_init_96 : decode cX7_init 96 = .ok (.newarray .int, 2) := by decide +kernel
theorem dX7_init_98 : decode cX7_init 98 = .ok (.putfield 44, 3) := by decide +kernel
theorem dX7_init_101 : decode cX7_init 101 = .ok (.aload_n 0, 1) := by decide +kernel
theorem dX7_init_102 : decode cX7_init 102 = .ok (.bipush 12, 2) := by decide +kernel
theorem dX7_init_104 : decode cX7_init 104 = .ok (.newarray .int, 2) := by decide +kernel
theorem dX7_init_106 : decode cX7_init 106 = .ok (.putfield 47, 3) := by decide +kernel
theorem dX7_init_109 : decode cX7_init 109 = .ok (.aload_n 0, 1) := by decide +kernel
theorem dX7_init_110 : decode cX7_init 110 = .ok (.bipush 12, 2) := by decide +kernel
theorem dX7_init_112 : decode cX7_init 112 = .ok (.newarray .int, 2) := by decide +kernel
theorem dX7_init_114 : decode cX7_init 114 = .ok (.putfield 50, 3) := by decide +kernel
theorem dX7_init_117 : decode cX7_init 117 = .ok (.aload_n 0, 1) := by decide +kernel
theorem dX7_init_118 : decode cX7_init 118 = .ok (.bipush 12, 2) := by decide +kernel
theorem dX7_init_120 : decode cX7_init 120 = .ok (.newarray .int, 2) := by decide +kernel
theorem dX7_init_122 : decode cX7_init 122 = .ok (.putfield 53, 3) := by decide +kernel
theorem dX7_init_125 : decode cX7_init 125 = .ok (.aload_n 0, 1) := by decide +kernel
theorem dX7_init_126 : decode cX7_init 126 = .ok (.bipush 12, 2) := by decide +kernel
theorem dX7_init_128 : decode cX7_init 128 = .ok (.newarray .boolean, 2) := by decide +kernel
theorem dX7_init_130 : decode cX7_init 130 = .ok (.putfield 56, 3) := by decide +kernel
theorem dX7_init_133 : decode cX7_init 133 = .ok (.aload_n 0, 1) := by decide +kernel
theorem dX7_init_134 : decode cX7_init 134 = .ok (.bipush 24, 2) := by decide +kernel
theorem dX7_init_136 : decode cX7_init 136 = .ok (.newarray .int, 2) := by decide +kernel
theorem dX7_init_138 : decode cX7_init 138 = .ok (.putfield 59, 3) := by decide +kernel
theorem dX7_init_141 : decode cX7_init 141 = .ok (.aload_n 0, 1) := by decide +kernel
theorem dX7_init_142 : decode cX7_init 142 = .ok (.sipush 4096, 3) := by decide +kernel
theorem dX7_init_145 : decode cX7_init 145 = .ok (.newarray .int, 2) := by decide +kernel
theorem dX7_init_147 : decode cX7_init 147 = .ok (.putfield 62, 3) := by decide +kernel
theorem dX7_init_150 : decode cX7_init 150 = .ok (.aload_n 0, 1) := by decide +kernel
theorem dX7_init_151 : decode cX7_init 151 = .ok (.sipush 480, 3) := by decide +kernel
theorem dX7_init_154 : decode cX7_init 154 = .ok (.newarray .int, 2) := by decide +kernel
theorem dX7_init_156 : decode cX7_init 156 = .ok (.putfield 65, 3) := by decide +kernel
theorem dX7_init_159 : decode cX7_init 159 = .ok (.aload_n 0, 1) := by decide +kernel
theorem dX7_init_160 : decode cX7_init 160 = .ok (.sipush 480, 3) := by decide +kernel
theorem dX7_init_163 : decode cX7_init 163 = .ok (.newarray .int, 2) := by decide +kernel
theorem dX7_init_165 : decode cX7_init 165 = .ok (.putfield 68, 3) := by decide +kernel
theorem dX7_init_168 : decode cX7_init 168 = .ok (.return_, 1) := by decide +kernel
theorem dX7_thrown_0 : decode cX7_thrown 0 = .ok (.aload_n 0, 1) := by decide +kernel
theorem dX7_thrown_1 : decode cX7_thrown 1 = .ok (.getfield 71, 3) := by decide +kernel
theorem dX7_thrown_4 : decode cX7_thrown 4 = .ok (.ireturn, 1) := by decide +kernel
theorem dX7_fail_0 : decode cX7_fail 0 = .ok (.aload_n 0, 1) := by decide +kernel
theorem dX7_fail_1 : decode cX7_fail 1 = .ok (.iload_n 1, 1) := by decide +kernel
theorem dX7_fail_2 : decode cX7_fail 2 = .ok (.putfield 71, 3) := by decide +kernel
theorem dX7_fail_5 : decode cX7_fail 5 = .ok (.iconst 0, 1) := by decide +kernel
theorem dX7_fail_6 : decode cX7_fail 6 = .ok (.ireturn, 1) := by decide +kernel
theorem dX7_inputs_0 : decode cX7_inputs 0 = .ok (.iload_n 0, 1) := by decide +kernel
theorem dX7_inputs_1 : decode cX7_inputs 1 = .ok (.ifCond .ne 7, 3) := by decide +kernel
theorem dX7_inputs_4 : decode cX7_inputs 4 = .ok (.iconst 0, 1) := by decide +kernel
theorem dX7_inputs_5 : decode cX7_inputs 5 = .ok (.goto 23, 3) := by decide +kernel
theorem dX7_inputs_8 : decode cX7_inputs 8 = .ok (.iload_n 0, 1) := by decide +kernel
theorem dX7_inputs_9 : decode cX7_inputs 9 = .ok (.iconst 2, 1) := by decide +kernel
theorem dX7_inputs_10 : decode cX7_inputs 10 = .ok (.if_icmp .eq 13, 3) := by decide +kernel
theorem dX7_inputs_13 : decode cX7_inputs 13 = .ok (.iload_n 0, 1) := by decide +kernel
theorem dX7_inputs_14 : decode cX7_inputs 14 = .ok (.iconst 3, 1) := by decide +kernel
theorem dX7_inputs_15 : decode cX7_inputs 15 = .ok (.if_icmp .eq 8, 3) := by decide +kernel
theorem dX7_inputs_18 : decode cX7_inputs 18 = .ok (.iload_n 0, 1) := by decide +kernel
theorem dX7_inputs_19 : decode cX7_inputs 19 = .ok (.iconst 4, 1) := by decide +kernel
theorem dX7_inputs_20 : decode cX7_inputs 20 = .ok (.if_icmp .ne 7, 3) := by decide +kernel
theorem dX7_inputs_23 : decode cX7_inputs 23 = .ok (.iconst 2, 1) := by decide +kernel
theorem dX7_inputs_24 : decode cX7_inputs 24 = .ok (.goto 4, 3) := by decide +kernel
theorem dX7_inputs_27 : decode cX7_inputs 27 = .ok (.iconst 1, 1) := by decide +kernel
theorem dX7_inputs_28 : decode cX7_inputs 28 = .ok (.ireturn, 1) := by decide +kernel
theorem dX7_isNode_0 : decode cX7_isNode 0 = .ok (.iload_n 1, 1) := by decide +kernel
theorem dX7_isNode_1 : decode cX7_isNode 1 = .ok (.ifCond .lt 15, 3) := by decide +kernel
theorem dX7_isNode_4 : decode cX7_isNode 4 = .ok (.iload_n 1, 1) := by decide +kernel
theorem dX7_isNode_5 : decode cX7_isNode 5 = .ok (.aload_n 0, 1) := by decide +kernel
theorem dX7_isNode_6 : decode cX7_isNode 6 = .ok (.getfield 75, 3) := by decide +kernel
theorem dX7_isNode_9 : decode cX7_isNode 9 = .ok (.if_icmp .ge 7, 3) := by decide +kernel
theorem dX7_isNode_12 : decode cX7_isNode 12 = .ok (.iconst 1, 1) := by decide +kernel
theorem dX7_isNode_13 : decode cX7_isNode 13 = .ok (.goto 4, 3) := by decide +kernel
theorem dX7_isNode_16 : decode cX7_isNode 16 = .ok (.iconst 0, 1) := by decide +kernel
theorem dX7_isNode_17 : decode cX7_isNode 17 = .ok (.ireturn, 1) := by decide +kernel
theorem dX7_within_0 : decode cX7_within 0 = .ok (.iload_n 0, 1) := by decide +kernel
theorem dX7_within_1 : decode cX7_within 1 = .ok (.iload_n 1, 1) := by decide +kernel
theorem dX7_within_2 : decode cX7_within 2 = .ok (.if_icmp .lt 12, 3) := by decide +kernel
theorem dX7_within_5 : decode cX7_within 5 = .ok (.iload_n 0, 1) := by decide +kernel
theorem dX7_within_6 : decode cX7_within 6 = .ok (.iload_n 2, 1) := by decide +kernel
theorem dX7_within_7 : decode cX7_within 7 = .ok (.if_icmp .gt 7, 3) := by decide +kernel
theorem dX7_within_10 : decode cX7_within 10 = .ok (.iconst 1, 1) := by decide +kernel
theorem dX7_within_11 : decode cX7_within 11 = .ok (.goto 4, 3) := by decide +kernel
theorem dX7_within_14 : decode cX7_within 14 = .ok (.iconst 0, 1) := by decide +kernel
theorem dX7_within_15 : decode cX7_within 15 = .ok (.ireturn, 1) := by decide +kernel
set_option maxRecDepth 20000 in
theorem ggX7_make_X7_within : GoodIn wsX7_make wsX7_within := goodIn_r _ [13] (by decide +kernel) (by decide +kernel)
set_option maxRecDepth 20000 in
theorem gX7_make_X7_within : GoodIn wsX7_make (va_wsS RX7 78 yX7_within wsX7_within) := goodIn_app (goodIn_of _ (by decide +kernel)) ggX7_make_X7_within
set_option maxRecDepth 20000 in
theorem ggX7_make_X7_fail : GoodIn wsX7_make wsX7_fail := goodIn_r _ [17, 1, 18, 19, 20, 21, 22, 23, 24, 25, 26, 27, 28, 29, 30, 31, 32, 33, 34, 35, 36, 37, 38, 39, 40, 41, 42, 43, 44, 45, 46, 47] (by decide +kernel) (by decide +kernel)
set_option maxRecDepth 20000 in
theorem gX7_make_X7_fail : GoodIn wsX7_make (wsV RX7 82 RX7 yX7_fail wsX7_fail) := goodIn_app (goodIn_of _ (by decide +kernel)) ggX7_make_X7_fail
theorem dX7_make_0 : decode cX7_make 0 = .ok (.aload_n 0, 1) := by decide +kernel
theorem dX7_make_1 : decode cX7_make 1 = .ok (.iconst 0, 1) := by decide +kernel
theorem dX7_make_2 : decode cX7_make 2 = .ok (.putfield 71, 3) := by decide +kernel
theorem dX7_make_5 : decode cX7_make 5 = .ok (.iload_n 1, 1) := by decide +kernel
theorem dX7_make_6 : decode cX7_make 6 = .ok (.iconst 0, 1) := by decide +kernel
theorem dX7_make_7 : decode cX7_make 7 = .ok (.bipush 7, 2) := by decide +kernel
theorem dX7_make_9 : decode cX7_make 9 = .ok (.invokestatic 78, 3) := by decide +kernel
theorem dX7_make_12 : decode cX7_make 12 = .ok (.ifCond .eq 52, 3) := by decide +kernel
theorem dX7_make_15 : decode cX7_make 15 = .ok (.iload_n 1, 1) := by decide +kernel
theorem dX7_make_16 : decode cX7_make 16 = .ok (.ifCond .eq 9, 3) := by decide +kernel
theorem dX7_make_19 : decode cX7_make 19 = .ok (.iload_n 1, 1) := by decide +kernel
theorem dX7_make_20 : decode cX7_make 20 = .ok (.bipush 7, 2) := by decide +kernel
theorem dX7_make_22 : decode cX7_make 22 = .ok (.if_icmp .ne 13, 3) := by decide +kernel
theorem dX7_make_25 : decode cX7_make 25 = .ok (.iload_n 2, 1) := by decide +kernel
theorem dX7_make_26 : decode cX7_make 26 = .ok (.iconst 1, 1) := by decide +kernel
theorem dX7_make_27 : decode cX7_make 27 = .ok (.bipush 16, 2) := by decide +kernel
theorem dX7_make_29 : decode cX7_make 29 = .ok (.invokestatic 78, 3) := by decide +kernel
theorem dX7_make_32 : decode cX7_make 32 = .ok (.ifCond .eq 32, 3) := by decide +kernel
theorem dX7_make_35 : decode cX7_make 35 = .ok (.iload_n 1, 1) := by decide +kernel
theorem dX7_make_36 : decode cX7_make 36 = .ok (.iconst 5, 1) := by decide +kernel
theorem dX7_make_37 : decode cX7_make 37 = .ok (.if_icmp .ne 23, 3) := by decide +kernel
theorem dX7_make_40 : decode cX7_make 40 = .ok (.iload_n 2, 1) := by decide +kernel
theorem dX7_make_41 : decode cX7_make 41 = .ok (.iconst 0, 1) := by decide +kernel
theorem dX7_make_42 : decode cX7_make 42 = .ok (.bipush 39, 2) := by decide +kernel
theorem dX7_make_44 : decode cX7_make 44 = .ok (.invokestatic 78, 3) := by decide +kernel
theorem dX7_make_47 : decode cX7_make 47 = .ok (.ifCond .eq 17, 3) := by decide +kernel
theorem dX7_make_50 : decode cX7_make 50 = .ok (.iload_n 3, 1) := by decide +kernel
theorem dX7_make_51 : decode cX7_make 51 = .ok (.iconst 1, 1) := by decide +kernel
theorem dX7_make_52 : decode cX7_make 52 = .ok (.bipush 16, 2) := by decide +kernel
theorem dX7_make_54 : decode cX7_make 54 = .ok (.invokestatic 78, 3) := by decide +kernel
theorem dX7_make_57 : decode cX7_make 57 = .ok (.ifCond .eq 7, 3) := by decide +kernel
theorem dX7_make_60 : decode cX7_make 60 = .ok (.iconst 1, 1) := by decide +kernel
theorem dX7_make_61 : decode cX7_make 61 = .ok (.goto 4, 3) := by decide +kernel
theorem dX7_make_64 : decode cX7_make 64 = .ok (.iconst 0, 1) := by decide +kernel
theorem dX7_make_65 : decode cX7_make 65 = .ok (.istore 4, 2) := by decide +kernel
theorem dX7_make_67 : decode cX7_make 67 = .ok (.iload 4, 2) := by decide +kernel
theorem dX7_make_69 : decode cX7_make 69 = .ok (.ifCond .eq 12, 3) := by decide +kernel
theorem dX7_make_72 : decode cX7_make 72 = .ok (.aload_n 0, 1) := by decide +kernel
theorem dX7_make_73 : decode cX7_make 73 = .ok (.getfield 75, 3) := by decide +kernel
theorem dX7_make_76 : decode cX7_make 76 = .ok (.bipush 12, 2) := by decide +kernel
theorem dX7_make_78 : decode cX7_make 78 = .ok (.if_icmp .ne 18, 3) := by decide +kernel
theorem dX7_make_81 : decode cX7_make 81 = .ok (.aload_n 0, 1) := by decide +kernel
theorem dX7_make_82 : decode cX7_make 82 = .ok (.iload 4, 2) := by decide +kernel
theorem dX7_make_84 : decode cX7_make 84 = .ok (.ifCond .eq 7, 3) := by decide +kernel
theorem dX7_make_87 : decode cX7_make 87 = .ok (.iconst 2, 1) := by decide +kernel
theorem dX7_make_88 : decode cX7_make 88 = .ok (.goto 4, 3) := by decide +kernel
theorem dX7_make_91 : decode cX7_make 91 = .ok (.iconst 1, 1) := by decide +kernel
theorem dX7_make_92 : decode cX7_make 92 = .ok (.invokevirtual 82, 3) := by decide +kernel
theorem dX7_make_95 : decode cX7_make 95 = .ok (.ireturn, 1) := by decide +kernel
theorem dX7_make_96 : decode cX7_make 96 = .ok (.aload_n 0, 1) := by decide +kernel
theorem dX7_make_97 : decode cX7_make 97 = .ok (.getfield 7, 3) := by decide +kernel
theorem dX7_make_100 : decode cX7_make 100 = .ok (.aload_n 0, 1) := by decide +kernel
theorem dX7_make_101 : decode cX7_make 101 = .ok (.getfield 75, 3) := by decide +kernel
theorem dX7_make_104 : decode cX7_make 104 = .ok (.iload_n 1, 1) := by decide +kernel
theorem dX7_make_105 : decode cX7_make 105 = .ok (.iastore, 1) := by decide +kernel
theorem dX7_make_106 : decode cX7_make 106 = .ok (.aload_n 0, 1) := by decide +kernel
theorem dX7_make_107 : decode cX7_make 107 = .ok (.getfield 13, 3) := by decide +kernel
theorem dX7_make_110 : decode cX7_make 110 = .ok (.aload_n 0, 1) := by decide +kernel
theorem dX7_make_111 : decode cX7_make 111 = .ok (.getfield 75, 3) := by decide +kernel
theorem dX7_make_114 : decode cX7_make 114 = .ok (.iload_n 2, 1) := by decide +kernel
theorem dX7_make_115 : decode cX7_make 115 = .ok (.iastore, 1) := by decide +kernel
theorem dX7_make_116 : decode cX7_make 116 = .ok (.aload_n 0, 1) := by decide +kernel
theorem dX7_make_117 : decode cX7_make 117 = .ok (.getfield 16, 3) := by decide +kernel
theorem dX7_make_120 : decode cX7_make 120 = .ok (.aload_n 0, 1) := by decide +kernel
theorem dX7_make_121 : decode cX7_make 121 = .ok (.getfield 75, 3) := by decide +kernel
theorem dX7_make_124 : decode cX7_make 124 = .ok (.iload_n 3, 1) := by decide +kernel
theorem dX7_make_125 : decode cX7_make 125 = .ok (.iastore, 1) := by decide +kernel
theorem dX7_make_126 : decode cX7_make 126 = .ok (.aload_n 0, 1) := by decide +kernel
theorem dX7_make_127 : decode cX7_make 127 = .ok (.getfield 19, 3) := by decide +kernel
theorem dX7_make_130 : decode cX7_make 130 = .ok (.iconst 2, 1) := by decide +kernel
theorem dX7_make_131 : decode cX7_make 131 = .ok (.aload_n 0, 1) := by decide +kernel
theorem dX7_make_132 : decode cX7_make 132 = .ok (.getfield 75, 3) := by decide +kernel
theorem dX7_make_135 : decode cX7_make 135 = .ok (.imul, 1) := by decide +kernel
theorem dX7_make_136 : decode cX7_make 136 = .ok (.iconst (-1), 1) := by decide +kernel
theorem dX7_make_137 : decode cX7_make 137 = .ok (.iastore, 1) := by decide +kernel
theorem dX7_make_138 : decode cX7_make 138 = .ok (.aload_n 0, 1) := by decide +kernel
theorem dX7_make_139 : decode cX7_make 139 = .ok (.getfield 19, 3) := by decide +kernel
theorem dX7_make_142 : decode cX7_make 142 = .ok (.iconst 2, 1) := by decide +kernel
theorem dX7_make_143 : decode cX7_make 143 = .ok (.aload_n 0, 1) := by decide +kernel
theorem dX7_make_144 : decode cX7_make 144 = .ok (.getfield 75, 3) := by decide +kernel
theorem dX7_make_147 : decode cX7_make 147 = .ok (.imul, 1) := by decide +kernel
theorem dX7_make_148 : decode cX7_make 148 = .ok (.iconst 1, 1) := by decide +kernel
theorem dX7_make_149 : decode cX7_make 149 = .ok (.iadd, 1) := by decide +kernel
theorem dX7_make_150 : decode cX7_make 150 = .ok (.iconst (-1), 1) := by decide +kernel
theorem dX7_make_151 : decode cX7_make 151 = .ok (.iastore, 1) := by decide +kernel
theorem dX7_make_152 : decode cX7_make 152 = .ok (.aload_n 0, 1) := by decide +kernel
theorem dX7_make_153 : decode cX7_make 153 = .ok (.getfield 22, 3) := by decide +kernel
theorem dX7_make_156 : decode cX7_make 156 = .ok (.aload_n 0, 1) := by decide +kernel
theorem dX7_make_157 : decode cX7_make 157 = .ok (.getfield 75, 3) := by decide +kernel
theorem dX7_make_160 : decode cX7_make 160 = .ok (.iconst 0, 1) := by decide +kernel
theorem dX7_make_161 : decode cX7_make 161 = .ok (.bastore, 1) := by decide +kernel
theorem dX7_make_162 : decode cX7_make 162 = .ok (.iconst 0, 1) := by decide +kernel
theorem dX7_make_163 : decode cX7_make 163 = .ok (.istore 5, 2) := by decide +kernel
theorem dX7_make_165 : decode cX7_make 165 = .ok (.iload 5, 2) := by decide +kernel
theorem dX7_make_167 : decode cX7_make 167 = .ok (.bipush 16, 2) := by decide +kernel
theorem dX7_make_169 : decode cX7_make 169 = .ok (.if_icmp .ge 25, 3) := by decide +kernel
theorem dX7_make_172 : decode cX7_make 172 = .ok (.aload_n 0, 1) := by decide +kernel
theorem dX7_make_173 : decode cX7_make 173 = .ok (.getfield 26, 3) := by decide +kernel
theorem dX7_make_176 : decode cX7_make 176 = .ok (.bipush 16, 2) := by decide +kernel
theorem dX7_make_178 : decode cX7_make 178 = .ok (.aload_n 0, 1) := by decide +kernel
theorem dX7_make_179 : decode cX7_make 179 = .ok (.getfield 75, 3) := by decide +kernel
theorem dX7_make_182 : decode cX7_make 182 = .ok (.imul, 1) := by decide +kernel
theorem dX7_make_183 : decode cX7_make 183 = .ok (.iload 5, 2) := by decide +kernel
theorem dX7_make_185 : decode cX7_make 185 = .ok (.iadd, 1) := by decide +kernel
theorem dX7_make_186 : decode cX7_make 186 = .ok (.iconst 0, 1) := by decide +kernel
theorem dX7_make_187 : decode cX7_make 187 = .ok (.iastore, 1) := by decide +kernel
theorem dX7_make_188 : decode cX7_make 188 = .ok (.iinc 5 1, 3) := by decide +kernel
theorem dX7_make_191 : decode cX7_make 191 = .ok (.goto (-26), 3) := by decide +kernel
theorem dX7_make_194 : decode cX7_make 194 = .ok (.aload_n 0, 1) := by decide +kernel
theorem dX7_make_195 : decode cX7_make 195 = .ok (.dup, 1) := by decide +kernel
theorem dX7_make_196 : decode cX7_make 196 = .ok (.getfield 75, 3) := by decide +kernel
theorem dX7_make_199 : decode cX7_make 199 = .ok (.iconst 1, 1) := by decide +kernel
theorem dX7_make_200 : decode cX7_make 200 = .ok (.iadd, 1) := by decide +kernel
theorem dX7_make_201 : decode cX7_make 201 = .ok (.putfield 75, 3) := by decide +kernel
theorem dX7_make_204 : decode cX7_make 204 = .ok (.aload_n 0, 1) := by decide +kernel
theorem dX7_make_205 : decode cX7_make 205 = .ok (.iconst 0, 1) := by decide +kernel
theorem dX7_make_206 : decode cX7_make 206 = .ok (.putfield 86, 3) := by decide +kernel
theorem dX7_make_209 : decode cX7_make 209 = .ok (.aload_n 0, 1) := by decide +kernel
theorem dX7_make_210 : decode cX7_make 210 = .ok (.getfield 75, 3) := by decide +kernel
theorem dX7_make_213 : decode cX7_make 213 = .ok (.iconst 1, 1) := by decide +kernel
theorem dX7_make_214 : decode cX7_make 214 = .ok (.isub, 1) := by decide +kernel
theorem dX7_make_215 : decode cX7_make 215 = .ok (.ireturn, 1) := by decide +kernel
set_option maxRecDepth 20000 in
theorem ggX7_give_X7_isNode : GoodIn wsX7_give wsX7_isNode := goodIn_r _ [9, 10, 11, 12, 13, 14, 15, 16, 17, 18, 19, 20, 21, 22, 23, 24, 25, 26, 27, 28, 29, 30, 31, 32, 33, 34, 35, 36, 37, 38, 39, 40] (by decide +kernel) (by decide +kernel)
set_option maxRecDepth 20000 in
theorem gX7_give_X7_isNode : GoodIn wsX7_give (wsV RX7 90 RX7 yX7_isNode wsX7_isNode) := goodIn_app (goodIn_of _ (by decide +kernel)) ggX7_give_X7_isNode
theorem dX7_give_0 : decode cX7_give 0 = .ok (.aload_n 0, 1) := by decide +kernel
theorem dX7_give_1 : decode cX7_give 1 = .ok (.iconst 0, 1) := by decide +kernel
theorem dX7_give_2 : decode cX7_give 2 = .ok (.putfield 71, 3) := by decide +kernel
theorem dX7_give_5 : decode cX7_give 5 = .ok (.aload_n 0, 1) := by decide +kernel
theorem dX7_give_6 : decode cX7_give 6 = .ok (.iload_n 1, 1) := by decide +kernel
theorem dX7_give_7 : decode cX7_give 7 = .ok (.invokevirtual 90, 3) := by decide +kernel
theorem dX7_give_10 : decode cX7_give 10 = .ok (.ifCond .eq 26, 3) := by decide +kernel
theorem dX7_give_13 : decode cX7_give 13 = .ok (.aload_n 0, 1) := by decide +kernel
theorem dX7_give_14 : decode cX7_give 14 = .ok (.getfield 7, 3) := by decide +kernel
theorem dX7_give_17 : decode cX7_give 17 = .ok (.iload_n 1, 1) := by decide +kernel
theorem dX7_give_18 : decode cX7_give 18 = .ok (.iaload, 1) := by decide +kernel
theorem dX7_give_19 : decode cX7_give 19 = .ok (.ifCond .ne 17, 3) := by decide +kernel
theorem dX7_give_22 : decode cX7_give 22 = .ok (.iload_n 2, 1) := by decide +kernel
theorem dX7_give_23 : decode cX7_give 23 = .ok (.ifCond .lt 13, 3) := by decide +kernel
theorem dX7_give_26 : decode cX7_give 26 = .ok (.iload_n 2, 1) := by decide +kernel
theorem dX7_give_27 : decode cX7_give 27 = .ok (.aload_n 0, 1) := by decide +kernel
theorem dX7_give_28 : decode cX7_give 28 = .ok (.getfield 13, 3) := by decide +kernel
theorem dX7_give_31 : decode cX7_give 31 = .ok (.iload_n 1, 1) := by decide +kernel
theorem dX7_give_32 : decode cX7_give 32 = .ok (.iaload, 1) := by decide +kernel
theorem dX7_give_33 : decode cX7_give 33 = .ok (.if_icmp .lt 5, 3) := by decide +kernel
theorem dX7_give_36 : decode cX7_give 36 = .ok (.iconst 0, 1) := by decide +kernel
theorem dX7_give_37 : decode cX7_give 37 = .ok (.ireturn, 1) := by decide +kernel
theorem dX7_give_38 : decode cX7_give 38 = .ok (.aload_n 0, 1) := by decide +kernel
theorem dX7_give_39 : decode cX7_give 39 = .ok (.getfield 26, 3) := by decide +kernel
theorem dX7_give_42 : decode cX7_give 42 = .ok (.bipush 16, 2) := by decide +kernel
theorem dX7_give_44 : decode cX7_give 44 = .ok (.iload_n 1, 1) := by decide +kernel
theorem dX7_give_45 : decode cX7_give 45 = .ok (.imul, 1) := by decide +kernel
theorem dX7_give_46 : decode cX7_give 46 = .ok (.iload_n 2, 1) := by decide +kernel
theorem dX7_give_47 : decode cX7_give 47 = .ok (.iadd, 1) := by decide +kernel
theorem dX7_give_48 : decode cX7_give 48 = .ok (.iload_n 3, 1) := by decide +kernel
theorem dX7_give_49 : decode cX7_give 49 = .ok (.iastore, 1) := by decide +kernel
theorem dX7_give_50 : decode cX7_give 50 = .ok (.iconst 1, 1) := by decide +kernel
theorem dX7_give_51 : decode cX7_give 51 = .ok (.ireturn, 1) := by decide +kernel
set_option maxRecDepth 20000 in
theorem ggX7_wire_X7_isNode : GoodIn wsX7_wire wsX7_isNode := goodIn_r _ [10, 3, 14, 15, 16, 17, 18, 19, 20, 21, 22, 23, 24, 25, 26, 27, 28, 29, 30, 31, 32, 33, 34, 35, 36, 37, 38, 39, 40, 41, 42, 43] (by decide +kernel) (by decide +kernel)
set_option maxRecDepth 20000 in
theorem gX7_wire_X7_isNode : GoodIn wsX7_wire (wsV RX7 90 RX7 yX7_isNode wsX7_isNode) := goodIn_app (goodIn_of _ (by decide +kernel)) ggX7_wire_X7_isNode
set_option maxRecDepth 20000 in
theorem ggX7_wire_X7_inputs : GoodIn wsX7_wire wsX7_inputs := goodIn_r _ [13] (by decide +kernel) (by decide +kernel)
set_option maxRecDepth 20000 in
theorem gX7_wire_X7_inputs : GoodIn wsX7_wire (va_wsS RX7 94 yX7_inputs wsX7_inputs) := goodIn_app (goodIn_of _ (by decide +kernel)) ggX7_wire_X7_inputs
theorem dX7_wire_0 : decode cX7_wire 0 = .ok (.aload_n 0, 1) := by decide +kernel
theorem dX7_wire_1 : decode cX7_wire 1 = .ok (.iconst 0, 1) := by decide +kernel
theorem dX7_wire_2 : decode cX7_wire 2 = .ok (.putfield 71, 3) := by decide +kernel
theorem dX7_wire_5 : decode cX7_wire 5 = .ok (.aload_n 0, 1) := by decide +kernel
theorem dX7_wire_6 : decode cX7_wire 6 = .ok (.iload_n 1, 1) := by decide +kernel
theorem dX7_wire_7 : decode cX7_wire 7 = .ok (.invokevirtual 90, 3) := by decide +kernel
theorem dX7_wire_10 : decode cX7_wire 10 = .ok (.ifCond .eq 33, 3) := by decide +kernel
theorem dX7_wire_13 : decode cX7_wire 13 = .ok (.iload_n 2, 1) := by decide +kernel
theorem dX7_wire_14 : decode cX7_wire 14 = .ok (.ifCond .lt 29, 3) := by decide +kernel
theorem dX7_wire_17 : decode cX7_wire 17 = .ok (.iload_n 2, 1) := by decide +kernel
theorem dX7_wire_18 : decode cX7_wire 18 = .ok (.aload_n 0, 1) := by decide +kernel
theorem dX7_wire_19 : decode cX7_wire 19 = .ok (.getfield 7, 3) := by decide +kernel
theorem dX7_wire_22 : decode cX7_wire 22 = .ok (.iload_n 1, 1) := by decide +kernel
theorem dX7_wire_23 : decode cX7_wire 23 = .ok (.iaload, 1) := by decide +kernel
theorem dX7_wire_24 : decode cX7_wire 24 = .ok (.invokestatic 94, 3) := by decide +kernel
theorem dX7_wire_27 : decode cX7_wire 27 = .ok (.if_icmp .ge 16, 3) := by decide +kernel
theorem dX7_wire_30 : decode cX7_wire 30 = .ok (.iload_n 3, 1) := by decide +kernel
theorem dX7_wire_31 : decode cX7_wire 31 = .ok (.iconst (-1), 1) := by decide +kernel
theorem dX7_wire_32 : decode cX7_wire 32 = .ok (.if_icmp .lt 11, 3) := by decide +kernel
theorem dX7_wire_35 : decode cX7_wire 35 = .ok (.iload_n 3, 1) := by decide +kernel
theorem dX7_wire_36 : decode cX7_wire 36 = .ok (.aload_n 0, 1) := by decide +kernel
theorem dX7_wire_37 : decode cX7_wire 37 = .ok (.getfield 75, 3) := by decide +kernel
theorem dX7_wire_40 : decode cX7_wire 40 = .ok (.if_icmp .lt 5, 3) := by decide +kernel
theorem dX7_wire_43 : decode cX7_wire 43 = .ok (.iconst 0, 1) := by decide +kernel
theorem dX7_wire_44 : decode cX7_wire 44 = .ok (.ireturn, 1) := by decide +kernel
theorem dX7_wire_45 : decode cX7_wire 45 = .ok (.aload_n 0, 1) := by decide +kernel
theorem dX7_wire_46 : decode cX7_wire 46 = .ok (.getfield 19, 3) := by decide +kernel
theorem dX7_wire_49 : decode cX7_wire 49 = .ok (.iconst 2, 1) := by decide +kernel
theorem dX7_wire_50 : decode cX7_wire 50 = .ok (.iload_n 1, 1) := by decide +kernel
theorem dX7_wire_51 : decode cX7_wire 51 = .ok (.imul, 1) := by decide +kernel
theorem dX7_wire_52 : decode cX7_wire 52 = .ok (.iload_n 2, 1) := by decide +kernel
theorem dX7_wire_53 : decode cX7_wire 53 = .ok (.iadd, 1) := by decide +kernel
theorem dX7_wire_54 : decode cX7_wire 54 = .ok (.iload_n 3, 1) := by decide +kernel
theorem dX7_wire_55 : decode cX7_wire 55 = .ok (.iastore, 1) := by decide +kernel
theorem dX7_wire_56 : decode cX7_wire 56 = .ok (.aload_n 0, 1) := by decide +kernel
theorem dX7_wire_57 : decode cX7_wire 57 = .ok (.iconst 0, 1) := by decide +kernel
theorem dX7_wire_58 : decode cX7_wire 58 = .ok (.putfield 86, 3) := by decide +kernel
theorem dX7_wire_61 : decode cX7_wire 61 = .ok (.iconst 1, 1) := by decide +kernel
theorem dX7_wire_62 : decode cX7_wire 62 = .ok (.ireturn, 1) := by decide +kernel
set_option maxRecDepth 20000 in
theorem ggX7_keep_X7_isNode : GoodIn wsX7_keep wsX7_isNode := goodIn_r _ [8, 9, 10, 11, 12, 13, 14, 15, 16, 17, 18, 19, 20, 21, 22, 23, 24, 25, 26, 27, 28, 29, 30, 31, 32, 33, 34, 35, 36, 37, 38, 39] (by decide +kernel) (by decide +kernel)
set_option maxRecDepth 20000 in
theorem gX7_keep_X7_isNode : GoodIn wsX7_keep (wsV RX7 90 RX7 yX7_isNode wsX7_isNode) := goodIn_app (goodIn_of _ (by decide +kernel)) ggX7_keep_X7_isNode
theorem dX7_keep_0 : decode cX7_keep 0 = .ok (.aload_n 0, 1) := by decide +kernel
theorem dX7_keep_1 : decode cX7_keep 1 = .ok (.iconst 0, 1) := by decide +kernel
theorem dX7_keep_2 : decode cX7_keep 2 = .ok (.putfield 71, 3) := by decide +kernel
theorem dX7_keep_5 : decode cX7_keep 5 = .ok (.aload_n 0, 1) := by decide +kernel
theorem dX7_keep_6 : decode cX7_keep 6 = .ok (.iload_n 1, 1) := by decide +kernel
theorem dX7_keep_7 : decode cX7_keep 7 = .ok (.invokevirtual 90, 3) := by decide +kernel
theorem dX7_keep_10 : decode cX7_keep 10 = .ok (.ifCond .eq 13, 3) := by decide +kernel
theorem dX7_keep_13 : decode cX7_keep 13 = .ok (.aload_n 0, 1) := by decide +kernel
theorem dX7_keep_14 : decode cX7_keep 14 = .ok (.getfield 22, 3) := by decide +kernel
theorem dX7_keep_17 : decode cX7_keep 17 = .ok (.iload_n 1, 1) := by decide +kernel
theorem dX7_keep_18 : decode cX7_keep 18 = .ok (.baload, 1) := by decide +kernel
theorem dX7_keep_19 : decode cX7_keep 19 = .ok (.iload_n 2, 1) := by decide +kernel
theorem dX7_keep_20 : decode cX7_keep 20 = .ok (.if_icmp .ne 5, 3) := by decide +kernel
theorem dX7_keep_23 : decode cX7_keep 23 = .ok (.iconst 0, 1) := by decide +kernel
theorem dX7_keep_24 : decode cX7_keep 24 = .ok (.ireturn, 1) := by decide +kernel
theorem dX7_keep_25 : decode cX7_keep 25 = .ok (.aload_n 0, 1) := by decide +kernel
theorem dX7_keep_26 : decode cX7_keep 26 = .ok (.getfield 22, 3) := by decide +kernel
theorem dX7_keep_29 : decode cX7_keep 29 = .ok (.iload_n 1, 1) := by decide +kernel
theorem dX7_keep_30 : decode cX7_keep 30 = .ok (.iload_n 2, 1) := by decide +kernel
theorem dX7_keep_31 : decode cX7_keep 31 = .ok (.bastore, 1) := by decide +kernel
theorem dX7_keep_32 : decode cX7_keep 32 = .ok (.aload_n 0, 1) := by decide +kernel
theorem dX7_keep_33 : decode cX7_keep 33 = .ok (.iconst 0, 1) := by decide +kernel
theorem dX7_keep_34 : decode cX7_keep 34 = .ok (.putfield 86, 3) := by decide +kernel
theorem dX7_keep_37 : decode cX7_keep 37 = .ok (.iconst 1, 1) := by decide +kernel
theorem dX7_keep_38 : decode cX7_keep 38 = .ok (.ireturn, 1) := by decide +kernel
theorem dX7_nodes_0 : decode cX7_nodes 0 = .ok (.aload_n 0, 1) := by decide +kernel
theorem dX7_nodes_1 : decode cX7_nodes 1 = .ok (.iconst 0, 1) := by decide +kernel
theorem dX7_nodes_2 : decode cX7_nodes 2 = .ok (.putfield 71, 3) := by decide +kernel
theorem dX7_nodes_5 : decode cX7_nodes 5 = .ok (.aload_n 0, 1) := by decide +kernel
theorem dX7_nodes_6 : decode cX7_nodes 6 = .ok (.getfield 75, 3) := by decide +kernel
theorem dX7_nodes_9 : decode cX7_nodes 9 = .ok (.ireturn, 1) := by decide +kernel
theorem dX7_far_0 : decode cX7_far 0 = .ok (.iload_n 1, 1) := by decide +kernel
theorem dX7_far_1 : decode cX7_far 1 = .ok (.ifCond .ge 9, 3) := by decide +kernel
theorem dX7_far_4 : decode cX7_far 4 = .ok (.sipush 1000, 3) := by decide +kernel
theorem dX7_far_7 : decode cX7_far 7 = .ok (.goto 9, 3) := by decide +kernel
theorem dX7_far_10 : decode cX7_far 10 = .ok (.aload_n 0, 1) := by decide +kernel
theorem dX7_far_11 : decode cX7_far 11 = .ok (.getfield 29, 3) := by decide +kernel
theorem dX7_far_14 : decode cX7_far 14 = .ok (.iload_n 1, 1) := by decide +kernel
theorem dX7_far_15 : decode cX7_far 15 = .ok (.iaload, 1) := by decide +kernel
theorem dX7_far_16 : decode cX7_far 16 = .ok (.ireturn, 1) := by decide +kernel
set_option maxRecDepth 20000 in
theorem ggX7_measure_X7_far : GoodIn wsX7_measure wsX7_far := goodIn_ca (goodIn_r _ [8, 2, 9, 10, 11, 12, 13, 14, 15, 16, 17, 18, 19, 20, 21, 22, 23, 24, 25, 26, 27, 28, 29, 30, 31, 32, 33, 34, 35, 36, 37, 38] (by decide +kernel) (by decide +kernel)) (goodIn_sub (fun _ h => List.mem_cons_of_mem _ (List.mem_append_right _ h)) (by decide +kernel))
set_option maxRecDepth 20000 in
theorem gX7_measure_X7_far : GoodIn wsX7_measure (wsV RX7 97 RX7 yX7_far wsX7_far) := goodIn_app (goodIn_of _ (by decide +kernel)) ggX7_measure_X7_far
theorem dX7_measure_0 : decode cX7_measure 0 = .ok (.iconst 0, 1) := by decide +kernel
theorem dX7_measure_1 : decode cX7_measure 1 = .ok (.istore_n 2, 1) := by decide +kernel
theorem dX7_measure_2 : decode cX7_measure 2 = .ok (.iload_n 2, 1) := by decide +kernel
theorem dX7_measure_3 : decode cX7_measure 3 = .ok (.aload_n 0, 1) := by decide +kernel
theorem dX7_measure_4 : decode cX7_measure 4 = .ok (.getfield 75, 3) := by decide +kernel
theorem dX7_measure_7 : decode cX7_measure 7 = .ok (.if_icmp .ge 27, 3) := by decide +kernel
theorem dX7_measure_10 : decode cX7_measure 10 = .ok (.aload_n 0, 1) := by decide +kernel
theorem dX7_measure_11 : decode cX7_measure 11 = .ok (.getfield 29, 3) := by decide +kernel
theorem dX7_measure_14 : decode cX7_measure 14 = .ok (.iload_n 2, 1) := by decide +kernel
theorem dX7_measure_15 : decode cX7_measure 15 = .ok (.iload_n 2, 1) := by decide +kernel
theorem dX7_measure_16 : decode cX7_measure 16 = .ok (.iload_n 1, 1) := by decide +kernel
theorem dX7_measure_17 : decode cX7_measure 17 = .ok (.if_icmp .ne 7, 3) := by decide +kernel
theorem dX7_measure_20 : decode cX7_measure 20 = .ok (.iconst 0, 1) := by decide +kernel
theorem dX7_measure_21 : decode cX7_measure 21 = .ok (.goto 6, 3) := by decide +kernel
theorem dX7_measure_24 : decode cX7_measure 24 = .ok (.sipush 1000, 3) := by decide +kernel
theorem dX7_measure_27 : decode cX7_measure 27 = .ok (.iastore, 1) := by decide +kernel
theorem dX7_measure_28 : decode cX7_measure 28 = .ok (.iinc 2 1, 3) := by decide +kernel
theorem dX7_measure_31 : decode cX7_measure 31 = .ok (.goto (-29), 3) := by decide +kernel
theorem dX7_measure_34 : decode cX7_measure 34 = .ok (.iconst 0, 1) := by decide +kernel
theorem dX7_measure_35 : decode cX7_measure 35 = .ok (.istore_n 2, 1) := by decide +kernel
theorem dX7_measure_36 : decode cX7_measure 36 = .ok (.iload_n 2, 1) := by decide +kernel
theorem dX7_measure_37 : decode cX7_measure 37 = .ok (.aload_n 0, 1) := by decide +kernel
theorem dX7_measure_38 : decode cX7_measure 38 = .ok (.getfield 75, 3) := by decide +kernel
theorem dX7_measure_41 : decode cX7_measure 41 = .ok (.if_icmp .ge 117, 3) := by decide +kernel
theorem dX7_measure_44 : decode cX7_measure 44 = .ok (.iconst 0, 1) := by decide +kernel
theorem dX7_measure_45 : decode cX7_measure 45 = .ok (.istore_n 3, 1) := by decide +kernel
theorem dX7_measure_46 : decode cX7_measure 46 = .ok (.iload_n 3, 1) := by decide +kernel
theorem dX7_measure_47 : decode cX7_measure 47 = .ok (.aload_n 0, 1) := by decide +kernel
theorem dX7_measure_48 : decode cX7_measure 48 = .ok (.getfield 75, 3) := by decide +kernel
theorem dX7_measure_51 : decode cX7_measure 51 = .ok (.if_icmp .ge 101, 3) := by decide +kernel
theorem dX7_measure_54 : decode cX7_measure 54 = .ok (.aload_n 0, 1) := by decide +kernel
theorem dX7_measure_55 : decode cX7_measure 55 = .ok (.aload_n 0, 1) := by decide +kernel
theorem dX7_measure_56 : decode cX7_measure 56 = .ok (.getfield 19, 3) := by decide +kernel
theorem dX7_measure_59 : decode cX7_measure 59 = .ok (.iconst 2, 1) := by decide +kernel
theorem dX7_measure_60 : decode cX7_measure 60 = .ok (.iload_n 3, 1) := by decide +kernel
theorem dX7_measure_61 : decode cX7_measure 61 = .ok (.imul, 1) := by decide +kernel
theorem dX7_measure_62 : decode cX7_measure 62 = .ok (.iaload, 1) := by decide +kernel
theorem dX7_measure_63 : decode cX7_measure 63 = .ok (.invokevirtual 97, 3) := by decide +kernel
theorem dX7_measure_66 : decode cX7_measure 66 = .ok (.aload_n 0, 1) := by decide +kernel
theorem dX7_measure_67 : decode cX7_measure 67 = .ok (.aload_n 0, 1) := by decide +kernel
theorem dX7_measure_68 : decode cX7_measure 68 = .ok (.getfield 19, 3) := by decide +kernel
theorem dX7_measure_71 : decode cX7_measure 71 = .ok (.iconst 2, 1) := by decide +kernel
theorem dX7_measure_72 : decode cX7_measure 72 = .ok (.iload_n 3, 1) := by decide +kernel
theorem dX7_measure_73 : decode cX7_measure 73 = .ok (.imul, 1) := by decide +kernel
theorem dX7_measure_74 : decode cX7_measure 74 = .ok (.iconst 1, 1) := by decide +kernel
theorem dX7_measure_75 : decode cX7_measure 75 = .ok (.iadd, 1) := by decide +kernel
theorem dX7_measure_76 : decode cX7_measure 76 = .ok (.iaload, 1) := by decide +kernel
theorem dX7_measure_77 : decode cX7_measure 77 = .ok (.invokevirtual 97, 3) := by decide +kernel
theorem dX7_measure_80 : decode cX7_measure 80 = .ok (.if_icmp .ge 18, 3) := by decide +kernel
theorem dX7_measure_83 : decode cX7_measure 83 = .ok (.aload_n 0, 1) := by decide +kernel
theorem dX7_measure_84 : decode cX7_measure 84 = .ok (.aload_n 0, 1) := by decide +kernel
theorem dX7_measure_85 : decode cX7_measure 85 = .ok (.getfield 19, 3) := by decide +kernel
theorem dX7_measure_88 : decode cX7_measure 88 = .ok (.iconst 2, 1) := by decide +kernel
theorem dX7_measure_89 : decode cX7_measure 89 = .ok (.iload_n 3, 1) := by decide +kernel
theorem dX7_measure_90 : decode cX7_measure 90 = .ok (.imul, 1) := by decide +kernel
theorem dX7_measure_91 : decode cX7_measure 91 = .ok (.iaload, 1) := by decide +kernel
theorem dX7_measure_92 : decode cX7_measure 92 = .ok (.invokevirtual 97, 3) := by decide +kernel
theorem dX7_measure_95 : decode cX7_measure 95 = .ok (.goto 17, 3) := by decide +kernel
theorem dX7_measure_98 : decode cX7_measure 98 = .ok (.aload_n 0, 1) := by decide +kernel
theorem dX7_measure_99 : decode cX7_measure 99 = .ok (.aload_n 0, 1) := by decide +kernel
theorem dX7_measure_100 : decode cX7_measure 100 = .ok (.getfield 19, 3) := by decide +kernel
theorem dX7_measure_103 : decode cX7_measure 103 = .ok (.iconst 2, 1) := by decide +kernel
theorem dX7_measure_104 : decode cX7_measure 104 = .ok (.iload_n 3, 1) := by decide +kernel
theorem dX7_measure_105 : decode cX7_measure 105 = .ok (.imul, 1) := by decide +kernel
theorem dX7_measure_106 : decode cX7_measure 106 = .ok (.iconst 1, 1) := by decide +kernel
theorem dX7_measure_107 : decode cX7_measure 107 = .ok (.iadd, 1) := by decide +kernel
theorem dX7_measure_108 : decode cX7_measure 108 = .ok (.iaload, 1) := by decide +kernel
theorem dX7_measure_109 : decode cX7_measure 109 = .ok (.invokevirtual 97, 3) := by decide +kernel
theorem dX7_measure_112 : decode cX7_measure 112 = .ok (.istore 4, 2) := by decide +kernel
theorem dX7_measure_114 : decode cX7_measure 114 = .ok (.aload_n 0, 1) := by decide +kernel
theorem dX7_measure_115 : decode cX7_measure 115 = .ok (.getfield 29, 3) := by decide +kernel
theorem dX7_measure_118 : decode cX7_measure 118 = .ok (.iload_n 3, 1) := by decide +kernel
theorem dX7_measure_119 : decode cX7_measure 119 = .ok (.iload 4, 2) := by decide +kernel
theorem dX7_measure_121 : decode cX7_measure 121 = .ok (.iconst 1, 1) := by decide +kernel
theorem dX7_measure_122 : decode cX7_measure 122 = .ok (.iadd, 1) := by decide +kernel
theorem dX7_measure_123 : decode cX7_measure 123 = .ok (.aload_n 0, 1) := by decide +kernel
theorem dX7_measure_124 : decode cX7_measure 124 = .ok (.getfield 29, 3) := by decide +kernel
theorem dX7_measure_127 : decode cX7_measure 127 = .ok (.iload_n 3, 1) := by decide +kernel
theorem dX7_measure_128 : decode cX7_measure 128 = .ok (.iaload, 1) := by decide +kernel
theorem dX7_measure_129 : decode cX7_measure 129 = .ok (.if_icmp .ge 10, 3) := by decide +kernel
theorem dX7_measure_132 : decode cX7_measure 132 = .ok (.iload 4, 2) := by decide +kernel
theorem dX7_measure_134 : decode cX7_measure 134 = .ok (.iconst 1, 1) := by decide +kernel
theorem dX7_measure_135 : decode cX7_measure 135 = .ok (.iadd, 1) := by decide +kernel
theorem dX7_measure_136 : decode cX7_measure 136 = .ok (.goto 9, 3) := by decide +kernel
theorem dX7_measure_139 : decode cX7_measure 139 = .ok (.aload_n 0, 1) := by decide +kernel
theorem dX7_measure_140 : decode cX7_measure 140 = .ok (.getfield 29, 3) := by decide +kernel
theorem dX7_measure_143 : decode cX7_measure 143 = .ok (.iload_n 3, 1) := by decide +kernel
theorem dX7_measure_144 : decode cX7_measure 144 = .ok (.iaload, 1) := by decide +kernel
theorem dX7_measure_145 : decode cX7_measure 145 = .ok (.iastore, 1) := by decide +kernel
theorem dX7_measure_146 : decode cX7_measure 146 = .ok (.iinc 3 1, 3) := by decide +kernel
theorem dX7_measure_149 : decode cX7_measure 149 = .ok (.goto (-103), 3) := by decide +kernel
theorem dX7_measure_152 : decode cX7_measure 152 = .ok (.iinc 2 1, 3) := by decide +kernel
theorem dX7_measure_155 : decode cX7_measure 155 = .ok (.goto (-119), 3) := by decide +kernel
theorem dX7_measure_158 : decode cX7_measure 158 = .ok (.return_, 1) := by decide +kernel
set_option maxRecDepth 20000 in
theorem ggX7_nearest_X7_far : GoodIn wsX7_nearest wsX7_far := goodIn_ca (goodIn_r _ [6, 7, 8, 9, 10, 11, 12, 13, 14, 15, 16, 17, 18, 19, 20, 21, 22, 23, 24, 25, 26, 27, 28, 29, 30, 31, 32, 33, 34, 35, 36, 37] (by decide +kernel) (by decide +kernel)) (goodIn_sub (fun _ h => List.mem_cons_of_mem _ (List.mem_append_right _ h)) (by decide +kernel))
set_option maxRecDepth 20000 in
theorem gX7_nearest_X7_far : GoodIn wsX7_nearest (wsV RX7 97 RX7 yX7_far wsX7_far) := goodIn_app (goodIn_of _ (by decide +kernel)) ggX7_nearest_X7_far
theorem dX7_nearest_0 : decode cX7_nearest 0 = .ok (.aload_n 0, 1) := by decide +kernel
theorem dX7_nearest_1 : decode cX7_nearest 1 = .ok (.getfield 19, 3) := by decide +kernel
theorem dX7_nearest_4 : decode cX7_nearest 4 = .ok (.iconst 2, 1) := by decide +kernel
theorem dX7_nearest_5 : decode cX7_nearest 5 = .ok (.iload_n 1, 1) := by decide +kernel
theorem dX7_nearest_6 : decode cX7_nearest 6 = .ok (.imul, 1) := by decide +kernel
theorem dX7_nearest_7 : decode cX7_nearest 7 = .ok (.iaload, 1) := by decide +kernel
theorem dX7_nearest_8 : decode cX7_nearest 8 = .ok (.istore_n 2, 1) := by decide +kernel
theorem dX7_nearest_9 : decode cX7_nearest 9 = .ok (.aload_n 0, 1) := by decide +kernel
theorem dX7_nearest_10 : decode cX7_nearest 10 = .ok (.getfield 19, 3) := by decide +kernel
theorem dX7_nearest_13 : decode cX7_nearest 13 = .ok (.iconst 2, 1) := by decide +kernel
theorem dX7_nearest_14 : decode cX7_nearest 14 = .ok (.iload_n 1, 1) := by decide +kernel
theorem dX7_nearest_15 : decode cX7_nearest 15 = .ok (.imul, 1) := by decide +kernel
theorem dX7_nearest_16 : decode cX7_nearest 16 = .ok (.iconst 1, 1) := by decide +kernel
theorem dX7_nearest_17 : decode cX7_nearest 17 = .ok (.iadd, 1) := by decide +kernel
theorem dX7_nearest_18 : decode cX7_nearest 18 = .ok (.iaload, 1) := by decide +kernel
theorem dX7_nearest_19 : decode cX7_nearest 19 = .ok (.istore_n 3, 1) := by decide +kernel
theorem dX7_nearest_20 : decode cX7_nearest 20 = .ok (.aload_n 0, 1) := by decide +kernel
theorem dX7_nearest_21 : decode cX7_nearest 21 = .ok (.iload_n 3, 1) := by decide +kernel
theorem dX7_nearest_22 : decode cX7_nearest 22 = .ok (.invokevirtual 97, 3) := by decide +kernel
theorem dX7_nearest_25 : decode cX7_nearest 25 = .ok (.aload_n 0, 1) := by decide +kernel
theorem dX7_nearest_26 : decode cX7_nearest 26 = .ok (.iload_n 2, 1) := by decide +kernel
theorem dX7_nearest_27 : decode cX7_nearest 27 = .ok (.invokevirtual 97, 3) := by decide +kernel
theorem dX7_nearest_30 : decode cX7_nearest 30 = .ok (.if_icmp .ge 7, 3) := by decide +kernel
theorem dX7_nearest_33 : decode cX7_nearest 33 = .ok (.iload_n 3, 1) := by decide +kernel
theorem dX7_nearest_34 : decode cX7_nearest 34 = .ok (.goto 4, 3) := by decide +kernel
theorem dX7_nearest_37 : decode cX7_nearest 37 = .ok (.iload_n 2, 1) := by decide +kernel
theorem dX7_nearest_38 : decode cX7_nearest 38 = .ok (.istore 4, 2) := by decide +kernel
theorem dX7_nearest_40 : decode cX7_nearest 40 = .ok (.aload_n 0, 1) := by decide +kernel
theorem dX7_nearest_41 : decode cX7_nearest 41 = .ok (.iload 4, 2) := by decide +kernel
theorem dX7_nearest_43 : decode cX7_nearest 43 = .ok (.invokevirtual 97, 3) := by decide +kernel
theorem dX7_nearest_46 : decode cX7_nearest 46 = .ok (.sipush 1000, 3) := by decide +kernel
theorem dX7_nearest_49 : decode cX7_nearest 49 = .ok (.if_icmp .ge 8, 3) := by decide +kernel
theorem dX7_nearest_52 : decode cX7_nearest 52 = .ok (.iload 4, 2) := by decide +kernel
theorem dX7_nearest_54 : decode cX7_nearest 54 = .ok (.goto 4, 3) := by decide +kernel
theorem dX7_nearest_57 : decode cX7_nearest 57 = .ok (.iconst (-1), 1) := by decide +kernel
theorem dX7_nearest_58 : decode cX7_nearest 58 = .ok (.ireturn, 1) := by decide +kernel
set_option maxRecDepth 20000 in
theorem ggX7_findRing_X7_measure : GoodIn wsX7_findRing wsX7_measure := goodIn_ca (goodIn_r _ [8, 2, 9, 10, 11, 12, 13, 7, 14, 19, 20, 21, 22, 23, 24, 25, 26, 27, 28, 29, 30, 31, 32, 33, 34, 35, 36, 37, 38, 39, 40, 41, 42, 43, 44, 45, 46, 47, 48] (by decide +kernel) (by decide +kernel)) (goodIn_sub (fun _ h => List.mem_cons_of_mem _ (List.mem_append_right _ h)) (by decide +kernel))
set_option maxRecDepth 20000 in
theorem gX7_findRing_X7_measure : GoodIn wsX7_findRing (wsV RX7 103 RX7 yX7_measure wsX7_measure) := goodIn_app (goodIn_of _ (by decide +kernel)) ggX7_findRing_X7_measure
set_option maxRecDepth 20000 in
theorem ggX7_findRing_X7_nearest : GoodIn wsX7_findRing wsX7_nearest := goodIn_ca (goodIn_r _ [18, 10, 11, 12, 13, 7, 14, 9, 19, 20, 21, 22, 23, 24, 25, 26, 27, 28, 29, 30, 31, 32, 33, 34, 35, 36, 37, 38, 39, 40, 41, 42, 43, 44, 45, 46, 47, 48] (by decide +kernel) (by decide +kernel)) (goodIn_sub (fun _ h => List.mem_cons_of_mem _ (List.mem_append_right _ h)) (by decide +kernel))
set_option maxRecDepth 20000 in
theorem gX7_findRing_X7_nearest : GoodIn wsX7_findRing (wsV RX7 107 RX7 yX7_nearest wsX7_nearest) := goodIn_app (goodIn_of _ (by decide +kernel)) ggX7_findRing_X7_nearest
theorem dX7_findRing_0 : decode cX7_findRing 0 = .ok (.aload_n 0, 1) := by decide +kernel
theorem dX7_findRing_1 : decode cX7_findRing 1 = .ok (.iconst 0, 1) := by decide +kernel
theorem dX7_findRing_2 : decode cX7_findRing 2 = .ok (.putfield 100, 3) := by decide +kernel
theorem dX7_findRing_5 : decode cX7_findRing 5 = .ok (.iconst 0, 1) := by decide +kernel
theorem dX7_findRing_6 : decode cX7_findRing 6 = .ok (.istore_n 1, 1) := by decide +kernel
theorem dX7_findRing_7 : decode cX7_findRing 7 = .ok (.iload_n 1, 1) := by decide +kernel
theorem dX7_findRing_8 : decode cX7_findRing 8 = .ok (.aload_n 0, 1) := by decide +kernel
theorem dX7_findRing_9 : decode cX7_findRing 9 = .ok (.getfield 75, 3) := by decide +kernel
theorem dX7_findRing_12 : decode cX7_findRing 12 = .ok (.if_icmp .ge 77, 3) := by decide +kernel
theorem dX7_findRing_15 : decode cX7_findRing 15 = .ok (.aload_n 0, 1) := by decide +kernel
theorem dX7_findRing_16 : decode cX7_findRing 16 = .ok (.getfield 100, 3) := by decide +kernel
theorem dX7_findRing_19 : decode cX7_findRing 19 = .ok (.ifCond .ne 70, 3) := by decide +kernel
theorem dX7_findRing_22 : decode cX7_findRing 22 = .ok (.aload_n 0, 1) := by decide +kernel
theorem dX7_findRing_23 : decode cX7_findRing 23 = .ok (.iload_n 1, 1) := by decide +kernel
theorem dX7_findRing_24 : decode cX7_findRing 24 = .ok (.invokevirtual 103, 3) := by decide +kernel
theorem dX7_findRing_27 : decode cX7_findRing 27 = .ok (.aload_n 0, 1) := by decide +kernel
theorem dX7_findRing_28 : decode cX7_findRing 28 = .ok (.iload_n 1, 1) := by decide +kernel
theorem dX7_findRing_29 : decode cX7_findRing 29 = .ok (.invokevirtual 107, 3) := by decide +kernel
theorem dX7_findRing_32 : decode cX7_findRing 32 = .ok (.istore_n 2, 1) := by decide +kernel
theorem dX7_findRing_33 : decode cX7_findRing 33 = .ok (.iload_n 2, 1) := by decide +kernel
theorem dX7_findRing_34 : decode cX7_findRing 34 = .ok (.ifCond .lt 49, 3) := by decide +kernel
theorem dX7_findRing_37 : decode cX7_findRing 37 = .ok (.aload_n 0, 1) := by decide +kernel
theorem dX7_findRing_38 : decode cX7_findRing 38 = .ok (.getfield 32, 3) := by decide +kernel
theorem dX7_findRing_41 : decode cX7_findRing 41 = .ok (.iconst 0, 1) := by decide +kernel
theorem dX7_findRing_42 : decode cX7_findRing 42 = .ok (.iload_n 1, 1) := by decide +kernel
theorem dX7_findRing_43 : decode cX7_findRing 43 = .ok (.iastore, 1) := by decide +kernel
theorem dX7_findRing_44 : decode cX7_findRing 44 = .ok (.aload_n 0, 1) := by decide +kernel
theorem dX7_findRing_45 : decode cX7_findRing 45 = .ok (.iconst 1, 1) := by decide +kernel
theorem dX7_findRing_46 : decode cX7_findRing 46 = .ok (.putfield 100, 3) := by decide +kernel
theorem dX7_findRing_49 : decode cX7_findRing 49 = .ok (.iload_n 2, 1) := by decide +kernel
theorem dX7_findRing_50 : decode cX7_findRing 50 = .ok (.iload_n 1, 1) := by decide +kernel
theorem dX7_findRing_51 : decode cX7_findRing 51 = .ok (.if_icmp .eq 32, 3) := by decide +kernel
theorem dX7_findRing_54 : decode cX7_findRing 54 = .ok (.aload_n 0, 1) := by decide +kernel
theorem dX7_findRing_55 : decode cX7_findRing 55 = .ok (.getfield 32, 3) := by decide +kernel
theorem dX7_findRing_58 : decode cX7_findRing 58 = .ok (.aload_n 0, 1) := by decide +kernel
theorem dX7_findRing_59 : decode cX7_findRing 59 = .ok (.getfield 100, 3) := by decide +kernel
theorem dX7_findRing_62 : decode cX7_findRing 62 = .ok (.iload_n 2, 1) := by decide +kernel
theorem dX7_findRing_63 : decode cX7_findRing 63 = .ok (.iastore, 1) := by decide +kernel
theorem dX7_findRing_64 : decode cX7_findRing 64 = .ok (.aload_n 0, 1) := by decide +kernel
theorem dX7_findRing_65 : decode cX7_findRing 65 = .ok (.dup, 1) := by decide +kernel
theorem dX7_findRing_66 : decode cX7_findRing 66 = .ok (.getfield 100, 3) := by decide +kernel
theorem dX7_findRing_69 : decode cX7_findRing 69 = .ok (.iconst 1, 1) := by decide +kernel
theorem dX7_findRing_70 : decode cX7_findRing 70 = .ok (.iadd, 1) := by decide +kernel
theorem dX7_findRing_71 : decode cX7_findRing 71 = .ok (.putfield 100, 3) := by decide +kernel
theorem dX7_findRing_74 : decode cX7_findRing 74 = .ok (.aload_n 0, 1) := by decide +kernel
theorem dX7_findRing_75 : decode cX7_findRing 75 = .ok (.iload_n 2, 1) := by decide +kernel
theorem dX7_findRing_76 : decode cX7_findRing 76 = .ok (.invokevirtual 107, 3) := by decide +kernel
theorem dX7_findRing_79 : decode cX7_findRing 79 = .ok (.istore_n 2, 1) := by decide +kernel
theorem dX7_findRing_80 : decode cX7_findRing 80 = .ok (.goto (-31), 3) := by decide +kernel
theorem dX7_findRing_83 : decode cX7_findRing 83 = .ok (.iinc 1 1, 3) := by decide +kernel
theorem dX7_findRing_86 : decode cX7_findRing 86 = .ok (.goto (-79), 3) := by decide +kernel
theorem dX7_findRing_89 : decode cX7_findRing 89 = .ok (.return_, 1) := by decide +kernel
set_option maxRecDepth 20000 in
theorem ggX7_ring_X7_findRing : GoodIn wsX7_ring wsX7_findRing := goodIn_ca (goodIn_r _ [8, 2, 9, 3, 10, 11, 12, 7, 13, 14, 15, 16, 17, 18, 19, 20, 21, 22, 23, 28, 29, 30, 31, 32, 33, 34, 35, 36, 37, 38, 39, 40, 41, 42, 43, 44, 45, 46, 47, 48, 49, 50, 51, 52, 53, 54, 55, 56, 57] (by decide +kernel) (by decide +kernel)) (goodIn_sub (fun _ h => List.mem_cons_of_mem _ (List.mem_append_right _ h)) (by decide +kernel))
set_option maxRecDepth 20000 in
theorem gX7_ring_X7_findRing : GoodIn wsX7_ring (wsV RX7 110 RX7 yX7_findRing wsX7_findRing) := goodIn_app (goodIn_of _ (by decide +kernel)) ggX7_ring_X7_findRing
set_option maxRecDepth 20000 in
theorem ggX7_ring_X7_fail : GoodIn wsX7_ring wsX7_fail := goodIn_r _ [27, 1, 28, 29, 30, 31, 32, 33, 34, 35, 36, 37, 38, 39, 40, 41, 42, 43, 44, 45, 46, 47, 48, 49, 50, 51, 52, 53, 54, 55, 56, 57] (by decide +kernel) (by decide +kernel)
set_option maxRecDepth 20000 in
theorem gX7_ring_X7_fail : GoodIn wsX7_ring (wsV RX7 82 RX7 yX7_fail wsX7_fail) := goodIn_app (goodIn_of _ (by decide +kernel)) ggX7_ring_X7_fail
theorem dX7_ring_0 : decode cX7_ring 0 = .ok (.aload_n 0, 1) := by decide +kernel
theorem dX7_ring_1 : decode cX7_ring 1 = .ok (.iconst 0, 1) := by decide +kernel
theorem dX7_ring_2 : decode cX7_ring 2 = .ok (.putfield 71, 3) := by decide +kernel
theorem dX7_ring_5 : decode cX7_ring 5 = .ok (.aload_n 0, 1) := by decide +kernel
theorem dX7_ring_6 : decode cX7_ring 6 = .ok (.invokevirtual 110, 3) := by decide +kernel
theorem dX7_ring_9 : decode cX7_ring 9 = .ok (.iload_n 1, 1) := by decide +kernel
theorem dX7_ring_10 : decode cX7_ring 10 = .ok (.ifCond .lt 11, 3) := by decide +kernel
theorem dX7_ring_13 : decode cX7_ring 13 = .ok (.iload_n 1, 1) := by decide +kernel
theorem dX7_ring_14 : decode cX7_ring 14 = .ok (.aload_n 0, 1) := by decide +kernel
theorem dX7_ring_15 : decode cX7_ring 15 = .ok (.getfield 100, 3) := by decide +kernel
theorem dX7_ring_18 : decode cX7_ring 18 = .ok (.if_icmp .lt 11, 3) := by decide +kernel
theorem dX7_ring_21 : decode cX7_ring 21 = .ok (.aload_n 0, 1) := by decide +kernel
theorem dX7_ring_22 : decode cX7_ring 22 = .ok (.iconst 1, 1) := by decide +kernel
theorem dX7_ring_23 : decode cX7_ring 23 = .ok (.invokevirtual 82, 3) := by decide +kernel
theorem dX7_ring_26 : decode cX7_ring 26 = .ok (.goto 9, 3) := by decide +kernel
theorem dX7_ring_29 : decode cX7_ring 29 = .ok (.aload_n 0, 1) := by decide +kernel
theorem dX7_ring_30 : decode cX7_ring 30 = .ok (.getfield 32, 3) := by decide +kernel
theorem dX7_ring_33 : decode cX7_ring 33 = .ok (.iload_n 1, 1) := by decide +kernel
theorem dX7_ring_34 : decode cX7_ring 34 = .ok (.iaload, 1) := by decide +kernel
theorem dX7_ring_35 : decode cX7_ring 35 = .ok (.ireturn, 1) := by decide +kernel
set_option maxRecDepth 20000 in
theorem ggX7_isWired_X7_inputs : GoodIn wsX7_isWired wsX7_inputs := goodIn_r _ [7] (by decide +kernel) (by decide +kernel)
set_option maxRecDepth 20000 in
theorem gX7_isWired_X7_inputs : GoodIn wsX7_isWired (va_wsS RX7 94 yX7_inputs wsX7_inputs) := goodIn_app (goodIn_of _ (by decide +kernel)) ggX7_isWired_X7_inputs
theorem dX7_isWired_0 : decode cX7_isWired 0 = .ok (.aload_n 0, 1) := by decide +kernel
theorem dX7_isWired_1 : decode cX7_isWired 1 = .ok (.getfield 75, 3) := by decide +kernel
theorem dX7_isWired_4 : decode cX7_isWired 4 = .ok (.ifCond .le 7, 3) := by decide +kernel
theorem dX7_isWired_7 : decode cX7_isWired 7 = .ok (.iconst 1, 1) := by decide +kernel
theorem dX7_isWired_8 : decode cX7_isWired 8 = .ok (.goto 4, 3) := by decide +kernel
theorem dX7_isWired_11 : decode cX7_isWired 11 = .ok (.iconst 0, 1) := by decide +kernel
theorem dX7_isWired_12 : decode cX7_isWired 12 = .ok (.istore_n 1, 1) := by decide +kernel
theorem dX7_isWired_13 : decode cX7_isWired 13 = .ok (.iconst 0, 1) := by decide +kernel
theorem dX7_isWired_14 : decode cX7_isWired 14 = .ok (.istore_n 2, 1) := by decide +kernel
theorem dX7_isWired_15 : decode cX7_isWired 15 = .ok (.iload_n 2, 1) := by decide +kernel
theorem dX7_isWired_16 : decode cX7_isWired 16 = .ok (.aload_n 0, 1) := by decide +kernel
theorem dX7_isWired_17 : decode cX7_isWired 17 = .ok (.getfield 75, 3) := by decide +kernel
theorem dX7_isWired_20 : decode cX7_isWired 20 = .ok (.if_icmp .ge 53, 3) := by decide +kernel
theorem dX7_isWired_23 : decode cX7_isWired 23 = .ok (.iconst 0, 1) := by decide +kernel
theorem dX7_isWired_24 : decode cX7_isWired 24 = .ok (.istore_n 3, 1) := by decide +kernel
theorem dX7_isWired_25 : decode cX7_isWired 25 = .ok (.iload_n 3, 1) := by decide +kernel
theorem dX7_isWired_26 : decode cX7_isWired 26 = .ok (.aload_n 0, 1) := by decide +kernel
theorem dX7_isWired_27 : decode cX7_isWired 27 = .ok (.getfield 7, 3) := by decide +kernel
theorem dX7_isWired_30 : decode cX7_isWired 30 = .ok (.iload_n 2, 1) := by decide +kernel
theorem dX7_isWired_31 : decode cX7_isWired 31 = .ok (.iaload, 1) := by decide +kernel
theorem dX7_isWired_32 : decode cX7_isWired 32 = .ok (.invokestatic 94, 3) := by decide +kernel
theorem dX7_isWired_35 : decode cX7_isWired 35 = .ok (.if_icmp .ge 32, 3) := by decide +kernel
theorem dX7_isWired_38 : decode cX7_isWired 38 = .ok (.iload_n 1, 1) := by decide +kernel
theorem dX7_isWired_39 : decode cX7_isWired 39 = .ok (.ifCond .eq 20, 3) := by decide +kernel
theorem dX7_isWired_42 : decode cX7_isWired 42 = .ok (.aload_n 0, 1) := by decide +kernel
theorem dX7_isWired_43 : decode cX7_isWired 43 = .ok (.getfield 19, 3) := by decide +kernel
theorem dX7_isWired_46 : decode cX7_isWired 46 = .ok (.iconst 2, 1) := by decide +kernel
theorem dX7_isWired_47 : decode cX7_isWired 47 = .ok (.iload_n 2, 1) := by decide +kernel
theorem dX7_isWired_48 : decode cX7_isWired 48 = .ok (.imul, 1) := by decide +kernel
theorem dX7_isWired_49 : decode cX7_isWired 49 = .ok (.iload_n 3, 1) := by decide +kernel
theorem dX7_isWired_50 : decode cX7_isWired 50 = .ok (.iadd, 1) := by decide +kernel
theorem dX7_isWired_51 : decode cX7_isWired 51 = .ok (.iaload, 1) := by decide +kernel
theorem dX7_isWired_52 : decode cX7_isWired 52 = .ok (.ifCond .lt 7, 3) := by decide +kernel
theorem dX7_isWired_55 : decode cX7_isWired 55 = .ok (.iconst 1, 1) := by decide +kernel
theorem dX7_isWired_56 : decode cX7_isWired 56 = .ok (.goto 4, 3) := by decide +kernel
theorem dX7_isWired_59 : decode cX7_isWired 59 = .ok (.iconst 0, 1) := by decide +kernel
theorem dX7_isWired_60 : decode cX7_isWired 60 = .ok (.istore_n 1, 1) := by decide +kernel
theorem dX7_isWired_61 : decode cX7_isWired 61 = .ok (.iinc 3 1, 3) := by decide +kernel
theorem dX7_isWired_64 : decode cX7_isWired 64 = .ok (.goto (-39), 3) := by decide +kernel
theorem dX7_isWired_67 : decode cX7_isWired 67 = .ok (.iinc 2 1, 3) := by decide +kernel
theorem dX7_isWired_70 : decode cX7_isWired 70 = .ok (.goto (-55), 3) := by decide +kernel
theorem dX7_isWired_73 : decode cX7_isWired 73 = .ok (.iload_n 1, 1) := by decide +kernel
theorem dX7_isWired_74 : decode cX7_isWired 74 = .ok (.ireturn, 1) := by decide +kernel
set_option maxRecDepth 20000 in
theorem ggX7_sizeOf_X7_inputs : GoodIn wsX7_sizeOf wsX7_inputs := goodIn_r _ [9] (by decide +kernel) (by decide +kernel)
set_option maxRecDepth 20000 in
theorem gX7_sizeOf_X7_inputs : GoodIn wsX7_sizeOf (va_wsS RX7 94 yX7_inputs wsX7_inputs) := goodIn_app (goodIn_of _ (by decide +kernel)) ggX7_sizeOf_X7_inputs
theorem dX7_sizeOf_0 : decode cX7_sizeOf 0 = .ok (.aload_n 0, 1) := by decide +kernel
theorem dX7_sizeOf_1 : decode cX7_sizeOf 1 = .ok (.getfield 7, 3) := by decide +kernel
theorem dX7_sizeOf_4 : decode cX7_sizeOf 4 = .ok (.iload_n 1, 1) := by decide +kernel
theorem dX7_sizeOf_5 : decode cX7_sizeOf 5 = .ok (.iaload, 1) := by decide +kernel
theorem dX7_sizeOf_6 : decode cX7_sizeOf 6 = .ok (.istore_n 2, 1) := by decide +kernel
theorem dX7_sizeOf_7 : decode cX7_sizeOf 7 = .ok (.iload_n 2, 1) := by decide +kernel
theorem dX7_sizeOf_8 : decode cX7_sizeOf 8 = .ok (.invokestatic 94, 3) := by decide +kernel
theorem dX7_sizeOf_11 : decode cX7_sizeOf 11 = .ok (.ifCond .le 19, 3) := by decide +kernel
theorem dX7_sizeOf_14 : decode cX7_sizeOf 14 = .ok (.aload_n 0, 1) := by decide +kernel
theorem dX7_sizeOf_15 : decode cX7_sizeOf 15 = .ok (.getfield 53, 3) := by decide +kernel
theorem dX7_sizeOf_18 : decode cX7_sizeOf 18 = .ok (.aload_n 0, 1) := by decide +kernel
theorem dX7_sizeOf_19 : decode cX7_sizeOf 19 = .ok (.getfield 19, 3) := by decide +kernel
theorem dX7_sizeOf_22 : decode cX7_sizeOf 22 = .ok (.iconst 2, 1) := by decide +kernel
theorem dX7_sizeOf_23 : decode cX7_sizeOf 23 = .ok (.iload_n 1, 1) := by decide +kernel
theorem dX7_sizeOf_24 : decode cX7_sizeOf 24 = .ok (.imul, 1) := by decide +kernel
theorem dX7_sizeOf_25 : decode cX7_sizeOf 25 = .ok (.iaload, 1) := by decide +kernel
theorem dX7_sizeOf_26 : decode cX7_sizeOf 26 = .ok (.iaload, 1) := by decide +kernel
theorem dX7_sizeOf_27 : decode cX7_sizeOf 27 = .ok (.goto 4, 3) := by decide +kernel
theorem dX7_sizeOf_30 : decode cX7_sizeOf 30 = .ok (.iconst 0, 1) := by decide +kernel
theorem dX7_sizeOf_31 : decode cX7_sizeOf 31 = .ok (.istore_n 3, 1) := by decide +kernel
theorem dX7_sizeOf_32 : decode cX7_sizeOf 32 = .ok (.iload_n 2, 1) := by decide +kernel
theorem dX7_sizeOf_33 : decode cX7_sizeOf 33 = .ok (.invokestatic 94, 3) := by decide +kernel
theorem dX7_sizeOf_36 : decode cX7_sizeOf 36 = .ok (.iconst 1, 1) := by decide +kernel
theorem dX7_sizeOf_37 : decode cX7_sizeOf 37 = .ok (.if_icmp .le 21, 3) := by decide +kernel
theorem dX7_sizeOf_40 : decode cX7_sizeOf 40 = .ok (.aload_n 0, 1) := by decide +kernel
theorem dX7_sizeOf_41 : decode cX7_sizeOf 41 = .ok (.getfield 53, 3) := by decide +kernel
theorem dX7_sizeOf_44 : decode cX7_sizeOf 44 = .ok (.aload_n 0, 1) := by decide +kernel
theorem dX7_sizeOf_45 : decode cX7_sizeOf 45 = .ok (.getfield 19, 3) := by decide +kernel
theorem dX7_sizeOf_48 : decode cX7_sizeOf 48 = .ok (.iconst 2, 1) := by decide +kernel
theorem dX7_sizeOf_49 : decode cX7_sizeOf 49 = .ok (.iload_n 1, 1) := by decide +kernel
theorem dX7_sizeOf_50 : decode cX7_sizeOf 50 = .ok (.imul, 1) := by decide +kernel
theorem dX7_sizeOf_51 : decode cX7_sizeOf 51 = .ok (.iconst 1, 1) := by decide +kernel
theorem dX7_sizeOf_52 : decode cX7_sizeOf 52 = .ok (.iadd, 1) := by decide +kernel
theorem dX7_sizeOf_53 : decode cX7_sizeOf 53 = .ok (.iaload, 1) := by decide +kernel
theorem dX7_sizeOf_54 : decode cX7_sizeOf 54 = .ok (.iaload, 1) := by decide +kernel
theorem dX7_sizeOf_55 : decode cX7_sizeOf 55 = .ok (.goto 4, 3) := by decide +kernel
theorem dX7_sizeOf_58 : decode cX7_sizeOf 58 = .ok (.iconst 0, 1) := by decide +kernel
theorem dX7_sizeOf_59 : decode cX7_sizeOf 59 = .ok (.istore 4, 2) := by decide +kernel
theorem dX7_sizeOf_61 : decode cX7_sizeOf 61 = .ok (.iload_n 2, 1) := by decide +kernel
theorem dX7_sizeOf_62 : decode cX7_sizeOf 62 = .ok (.tableswitch 111 0 6 #[42, 49, 51, 51, 63, 81, 109], 42) := by decide +kernel
theorem dX7_sizeOf_104 : decode cX7_sizeOf 104 = .ok (.aload_n 0, 1) := by decide +kernel
theorem dX7_sizeOf_105 : decode cX7_sizeOf 105 = .ok (.getfield 13, 3) := by decide +kernel
theorem dX7_sizeOf_108 : decode cX7_sizeOf 108 = .ok (.iload_n 1, 1) := by decide +kernel
theorem dX7_sizeOf_109 : decode cX7_sizeOf 109 = .ok (.iaload, 1) := by decide +kernel
theorem dX7_sizeOf_110 : decode cX7_sizeOf 110 = .ok (.ireturn, 1) := by decide +kernel
theorem dX7_sizeOf_111 : decode cX7_sizeOf 111 = .ok (.iload_n 3, 1) := by decide +kernel
theorem dX7_sizeOf_112 : decode cX7_sizeOf 112 = .ok (.ireturn, 1) := by decide +kernel
theorem dX7_sizeOf_113 : decode cX7_sizeOf 113 = .ok (.iload_n 3, 1) := by decide +kernel
theorem dX7_sizeOf_114 : decode cX7_sizeOf 114 = .ok (.iload 4, 2) := by decide +kernel
theorem dX7_sizeOf_116 : decode cX7_sizeOf 116 = .ok (.if_icmp .ne 7, 3) := by decide +kernel
theorem dX7_sizeOf_119 : decode cX7_sizeOf 119 = .ok (.iload_n 3, 1) := by decide +kernel
theorem dX7_sizeOf_120 : decode cX7_sizeOf 120 = .ok (.goto 4, 3) := by decide +kernel
theorem dX7_sizeOf_123 : decode cX7_sizeOf 123 = .ok (.iconst (-1), 1) := by decide +kernel
theorem dX7_sizeOf_124 : decode cX7_sizeOf 124 = .ok (.ireturn, 1) := by decide +kernel
theorem dX7_sizeOf_125 : decode cX7_sizeOf 125 = .ok (.iload_n 3, 1) := by decide +kernel
theorem dX7_sizeOf_126 : decode cX7_sizeOf 126 = .ok (.iload 4, 2) := by decide +kernel
theorem dX7_sizeOf_128 : decode cX7_sizeOf 128 = .ok (.iadd, 1) := by decide +kernel
theorem dX7_sizeOf_129 : decode cX7_sizeOf 129 = .ok (.bipush 40, 2) := by decide +kernel
theorem dX7_sizeOf_131 : decode cX7_sizeOf 131 = .ok (.if_icmp .le 7, 3) := by decide +kernel
theorem dX7_sizeOf_134 : decode cX7_sizeOf 134 = .ok (.iconst (-1), 1) := by decide +kernel
theorem dX7_sizeOf_135 : decode cX7_sizeOf 135 = .ok (.goto 7, 3) := by decide +kernel
theorem dX7_sizeOf_138 : decode cX7_sizeOf 138 = .ok (.iload_n 3, 1) := by decide +kernel
theorem dX7_sizeOf_139 : decode cX7_sizeOf 139 = .ok (.iload 4, 2) := by decide +kernel
theorem dX7_sizeOf_141 : decode cX7_sizeOf 141 = .ok (.iadd, 1) := by decide +kernel
theorem dX7_sizeOf_142 : decode cX7_sizeOf 142 = .ok (.ireturn, 1) := by decide +kernel
theorem dX7_sizeOf_143 : decode cX7_sizeOf 143 = .ok (.aload_n 0, 1) := by decide +kernel
theorem dX7_sizeOf_144 : decode cX7_sizeOf 144 = .ok (.getfield 13, 3) := by decide +kernel
theorem dX7_sizeOf_147 : decode cX7_sizeOf 147 = .ok (.iload_n 1, 1) := by decide +kernel
theorem dX7_sizeOf_148 : decode cX7_sizeOf 148 = .ok (.iaload, 1) := by decide +kernel
theorem dX7_sizeOf_149 : decode cX7_sizeOf 149 = .ok (.aload_n 0, 1) := by decide +kernel
theorem dX7_sizeOf_150 : decode cX7_sizeOf 150 = .ok (.getfield 16, 3) := by decide +kernel
theorem dX7_sizeOf_153 : decode cX7_sizeOf 153 = .ok (.iload_n 1, 1) := by decide +kernel
theorem dX7_sizeOf_154 : decode cX7_sizeOf 154 = .ok (.iaload, 1) := by decide +kernel
theorem dX7_sizeOf_155 : decode cX7_sizeOf 155 = .ok (.iadd, 1) := by decide +kernel
theorem dX7_sizeOf_156 : decode cX7_sizeOf 156 = .ok (.iload_n 3, 1) := by decide +kernel
theorem dX7_sizeOf_157 : decode cX7_sizeOf 157 = .ok (.if_icmp .le 7, 3) := by decide +kernel
theorem dX7_sizeOf_160 : decode cX7_sizeOf 160 = .ok (.iconst (-1), 1) := by decide +kernel
theorem dX7_sizeOf_161 : decode cX7_sizeOf 161 = .ok (.goto 9, 3) := by decide +kernel
theorem dX7_sizeOf_164 : decode cX7_sizeOf 164 = .ok (.aload_n 0, 1) := by decide +kernel
theorem dX7_sizeOf_165 : decode cX7_sizeOf 165 = .ok (.getfield 16, 3) := by decide +kernel
theorem dX7_sizeOf_168 : decode cX7_sizeOf 168 = .ok (.iload_n 1, 1) := by decide +kernel
theorem dX7_sizeOf_169 : decode cX7_sizeOf 169 = .ok (.iaload, 1) := by decide +kernel
theorem dX7_sizeOf_170 : decode cX7_sizeOf 170 = .ok (.ireturn, 1) := by decide +kernel
theorem dX7_sizeOf_171 : decode cX7_sizeOf 171 = .ok (.iconst 1, 1) := by decide +kernel
theorem dX7_sizeOf_172 : decode cX7_sizeOf 172 = .ok (.ireturn, 1) := by decide +kernel
theorem dX7_sizeOf_173 : decode cX7_sizeOf 173 = .ok (.iload_n 3, 1) := by decide +kernel
theorem dX7_sizeOf_174 : decode cX7_sizeOf 174 = .ok (.iconst 1, 1) := by decide +kernel
theorem dX7_sizeOf_175 : decode cX7_sizeOf 175 = .ok (.if_icmp .ne 12, 3) := by decide +kernel
theorem dX7_sizeOf_178 : decode cX7_sizeOf 178 = .ok (.aload_n 0, 1) := by decide +kernel
theorem dX7_sizeOf_179 : decode cX7_sizeOf 179 = .ok (.getfield 13, 3) := by decide +kernel
theorem dX7_sizeOf_182 : decode cX7_sizeOf 182 = .ok (.iload_n 1, 1) := by decide +kernel
theorem dX7_sizeOf_183 : decode cX7_sizeOf 183 = .ok (.iaload, 1) := by decide +kernel
theorem dX7_sizeOf_184 : decode cX7_sizeOf 184 = .ok (.goto 4, 3) := by decide +kernel
theorem dX7_sizeOf_187 : decode cX7_sizeOf 187 = .ok (.iconst (-1), 1) := by decide +kernel
theorem dX7_sizeOf_188 : decode cX7_sizeOf 188 = .ok (.ireturn, 1) := by decide +kernel
set_option maxRecDepth 20000 in
theorem ggX7_isReady_X7_inputs : GoodIn wsX7_isReady wsX7_inputs := goodIn_r _ [7] (by decide +kernel) (by decide +kernel)
set_option maxRecDepth 20000 in
theorem gX7_isReady_X7_inputs : GoodIn wsX7_isReady (va_wsS RX7 94 yX7_inputs wsX7_inputs) := goodIn_app (goodIn_of _ (by decide +kernel)) ggX7_isReady_X7_inputs
theorem dX7_isReady_0 : decode cX7_isReady 0 = .ok (.iconst 1, 1) := by decide +kernel
theorem dX7_isReady_1 : decode cX7_isReady 1 = .ok (.istore_n 2, 1) := by decide +kernel
theorem dX7_isReady_2 : decode cX7_isReady 2 = .ok (.iconst 0, 1) := by decide +kernel
theorem dX7_isReady_3 : decode cX7_isReady 3 = .ok (.istore_n 3, 1) := by decide +kernel
theorem dX7_isReady_4 : decode cX7_isReady 4 = .ok (.iload_n 3, 1) := by decide +kernel
theorem dX7_isReady_5 : decode cX7_isReady 5 = .ok (.aload_n 0, 1) := by decide +kernel
theorem dX7_isReady_6 : decode cX7_isReady 6 = .ok (.getfield 7, 3) := by decide +kernel
theorem dX7_isReady_9 : decode cX7_isReady 9 = .ok (.iload_n 1, 1) := by decide +kernel
theorem dX7_isReady_10 : decode cX7_isReady 10 = .ok (.iaload, 1) := by decide +kernel
theorem dX7_isReady_11 : decode cX7_isReady 11 = .ok (.invokestatic 94, 3) := by decide +kernel
theorem dX7_isReady_14 : decode cX7_isReady 14 = .ok (.if_icmp .ge 37, 3) := by decide +kernel
theorem dX7_isReady_17 : decode cX7_isReady 17 = .ok (.iload_n 2, 1) := by decide +kernel
theorem dX7_isReady_18 : decode cX7_isReady 18 = .ok (.ifCond .eq 25, 3) := by decide +kernel
theorem dX7_isReady_21 : decode cX7_isReady 21 = .ok (.aload_n 0, 1) := by decide +kernel
theorem dX7_isReady_22 : decode cX7_isReady 22 = .ok (.getfield 56, 3) := by decide +kernel
theorem dX7_isReady_25 : decode cX7_isReady 25 = .ok (.aload_n 0, 1) := by decide +kernel
theorem dX7_isReady_26 : decode cX7_isReady 26 = .ok (.getfield 19, 3) := by decide +kernel
theorem dX7_isReady_29 : decode cX7_isReady 29 = .ok (.iconst 2, 1) := by decide +kernel
theorem dX7_isReady_30 : decode cX7_isReady 30 = .ok (.iload_n 1, 1) := by decide +kernel
theorem dX7_isReady_31 : decode cX7_isReady 31 = .ok (.imul, 1) := by decide +kernel
theorem dX7_isReady_32 : decode cX7_isReady 32 = .ok (.iload_n 3, 1) := by decide +kernel
theorem dX7_isReady_33 : decode cX7_isReady 33 = .ok (.iadd, 1) := by decide +kernel
theorem dX7_isReady_34 : decode cX7_isReady 34 = .ok (.iaload, 1) := by decide +kernel
theorem dX7_isReady_35 : decode cX7_isReady 35 = .ok (.baload, 1) := by decide +kernel
theorem dX7_isReady_36 : decode cX7_isReady 36 = .ok (.ifCond .eq 7, 3) := by decide +kernel
theorem dX7_isReady_39 : decode cX7_isReady 39 = .ok (.iconst 1, 1) := by decide +kernel
theorem dX7_isReady_40 : decode cX7_isReady 40 = .ok (.goto 4, 3) := by decide +kernel
theorem dX7_isReady_43 : decode cX7_isReady 43 = .ok (.iconst 0, 1) := by decide +kernel
theorem dX7_isReady_44 : decode cX7_isReady 44 = .ok (.istore_n 2, 1) := by decide +kernel
theorem dX7_isReady_45 : decode cX7_isReady 45 = .ok (.iinc 3 1, 3) := by decide +kernel
theorem dX7_isReady_48 : decode cX7_isReady 48 = .ok (.goto (-44), 3) := by decide +kernel
theorem dX7_isReady_51 : decode cX7_isReady 51 = .ok (.iload_n 2, 1) := by decide +kernel
theorem dX7_isReady_52 : decode cX7_isReady 52 = .ok (.ireturn, 1) := by decide +kernel
set_option maxRecDepth 20000 in
theorem ggX7_labelOf_X7_inputs : GoodIn wsX7_labelOf wsX7_inputs := goodIn_r _ [7] (by decide +kernel) (by decide +kernel)
set_option maxRecDepth 20000 in
theorem gX7_labelOf_X7_inputs : GoodIn wsX7_labelOf (va_wsS RX7 94 yX7_inputs wsX7_inputs) := goodIn_app (goodIn_of _ (by decide +kernel)) ggX7_labelOf_X7_inputs
theorem dX7_labelOf_0 : decode cX7_labelOf 0 = .ok (.aload_n 0, 1) := by decide +kernel
theorem dX7_labelOf_1 : decode cX7_labelOf 1 = .ok (.getfield 7, 3) := by decide +kernel
theorem dX7_labelOf_4 : decode cX7_labelOf 4 = .ok (.iload_n 1, 1) := by decide +kernel
theorem dX7_labelOf_5 : decode cX7_labelOf 5 = .ok (.iaload, 1) := by decide +kernel
theorem dX7_labelOf_6 : decode cX7_labelOf 6 = .ok (.invokestatic 94, 3) := by decide +kernel
theorem dX7_labelOf_9 : decode cX7_labelOf 9 = .ok (.istore_n 2, 1) := by decide +kernel
theorem dX7_labelOf_10 : decode cX7_labelOf 10 = .ok (.iload_n 2, 1) := by decide +kernel
theorem dX7_labelOf_11 : decode cX7_labelOf 11 = .ok (.ifCond .le 19, 3) := by decide +kernel
theorem dX7_labelOf_14 : decode cX7_labelOf 14 = .ok (.aload_n 0, 1) := by decide +kernel
theorem dX7_labelOf_15 : decode cX7_labelOf 15 = .ok (.getfield 38, 3) := by decide +kernel
theorem dX7_labelOf_18 : decode cX7_labelOf 18 = .ok (.aload_n 0, 1) := by decide +kernel
theorem dX7_labelOf_19 : decode cX7_labelOf 19 = .ok (.getfield 19, 3) := by decide +kernel
theorem dX7_labelOf_22 : decode cX7_labelOf 22 = .ok (.iconst 2, 1) := by decide +kernel
theorem dX7_labelOf_23 : decode cX7_labelOf 23 = .ok (.iload_n 1, 1) := by decide +kernel
theorem dX7_labelOf_24 : decode cX7_labelOf 24 = .ok (.imul, 1) := by decide +kernel
theorem dX7_labelOf_25 : decode cX7_labelOf 25 = .ok (.iaload, 1) := by decide +kernel
theorem dX7_labelOf_26 : decode cX7_labelOf 26 = .ok (.iaload, 1) := by decide +kernel
theorem dX7_labelOf_27 : decode cX7_labelOf 27 = .ok (.goto 4, 3) := by decide +kernel
theorem dX7_labelOf_30 : decode cX7_labelOf 30 = .ok (.iconst 0, 1) := by decide +kernel
theorem dX7_labelOf_31 : decode cX7_labelOf 31 = .ok (.istore_n 3, 1) := by decide +kernel
theorem dX7_labelOf_32 : decode cX7_labelOf 32 = .ok (.iload_n 2, 1) := by decide +kernel
theorem dX7_labelOf_33 : decode cX7_labelOf 33 = .ok (.iconst 1, 1) := by decide +kernel
theorem dX7_labelOf_34 : decode cX7_labelOf 34 = .ok (.if_icmp .le 21, 3) := by decide +kernel
theorem dX7_labelOf_37 : decode cX7_labelOf 37 = .ok (.aload_n 0, 1) := by decide +kernel
theorem dX7_labelOf_38 : decode cX7_labelOf 38 = .ok (.getfield 38, 3) := by decide +kernel
theorem dX7_labelOf_41 : decode cX7_labelOf 41 = .ok (.aload_n 0, 1) := by decide +kernel
theorem dX7_labelOf_42 : decode cX7_labelOf 42 = .ok (.getfield 19, 3) := by decide +kernel
theorem dX7_labelOf_45 : decode cX7_labelOf 45 = .ok (.iconst 2, 1) := by decide +kernel
theorem dX7_labelOf_46 : decode cX7_labelOf 46 = .ok (.iload_n 1, 1) := by decide +kernel
theorem dX7_labelOf_47 : decode cX7_labelOf 47 = .ok (.imul, 1) := by decide +kernel
theorem dX7_labelOf_48 : decode cX7_labelOf 48 = .ok (.iconst 1, 1) := by decide +kernel
theorem dX7_labelOf_49 : decode cX7_labelOf 49 = .ok (.iadd, 1) := by decide +kernel
theorem dX7_labelOf_50 : decode cX7_labelOf 50 = .ok (.iaload, 1) := by decide +kernel
theorem dX7_labelOf_51 : decode cX7_labelOf 51 = .ok (.iaload, 1) := by decide +kernel
theorem dX7_labelOf_52 : decode cX7_labelOf 52 = .ok (.goto 4, 3) := by decide +kernel
theorem dX7_labelOf_55 : decode cX7_labelOf 55 = .ok (.iconst 0, 1) := by decide +kernel
theorem dX7_labelOf_56 : decode cX7_labelOf 56 = .ok (.istore 4, 2) := by decide +kernel
theorem dX7_labelOf_58 : decode cX7_labelOf 58 = .ok (.iload_n 3, 1) := by decide +kernel
theorem dX7_labelOf_59 : decode cX7_labelOf 59 = .ok (.iload 4, 2) := by decide +kernel
theorem dX7_labelOf_61 : decode cX7_labelOf 61 = .ok (.if_icmp .ge 8, 3) := by decide +kernel
theorem dX7_labelOf_64 : decode cX7_labelOf 64 = .ok (.iload 4, 2) := by decide +kernel
theorem dX7_labelOf_66 : decode cX7_labelOf 66 = .ok (.goto 4, 3) := by decide +kernel
theorem dX7_labelOf_69 : decode cX7_labelOf 69 = .ok (.iload_n 3, 1) := by decide +kernel
theorem dX7_labelOf_70 : decode cX7_labelOf 70 = .ok (.istore 5, 2) := by decide +kernel
theorem dX7_labelOf_72 : decode cX7_labelOf 72 = .ok (.iload_n 3, 1) := by decide +kernel
theorem dX7_labelOf_73 : decode cX7_labelOf 73 = .ok (.iload 4, 2) := by decide +kernel
theorem dX7_labelOf_75 : decode cX7_labelOf 75 = .ok (.if_icmp .ge 7, 3) := by decide +kernel
theorem dX7_labelOf_78 : decode cX7_labelOf 78 = .ok (.iload_n 3, 1) := by decide +kernel
theorem dX7_labelOf_79 : decode cX7_labelOf 79 = .ok (.goto 5, 3) := by decide +kernel
theorem dX7_labelOf_82 : decode cX7_labelOf 82 = .ok (.iload 4, 2) := by decide +kernel
theorem dX7_labelOf_84 : decode cX7_labelOf 84 = .ok (.istore 6, 2) := by decide +kernel
theorem dX7_labelOf_86 : decode cX7_labelOf 86 = .ok (.iload 6, 2) := by decide +kernel
theorem dX7_labelOf_88 : decode cX7_labelOf 88 = .ok (.iconst 1, 1) := by decide +kernel
theorem dX7_labelOf_89 : decode cX7_labelOf 89 = .ok (.iadd, 1) := by decide +kernel
theorem dX7_labelOf_90 : decode cX7_labelOf 90 = .ok (.iconst 3, 1) := by decide +kernel
theorem dX7_labelOf_91 : decode cX7_labelOf 91 = .ok (.if_icmp .le 10, 3) := by decide +kernel
theorem dX7_labelOf_94 : decode cX7_labelOf 94 = .ok (.iload 6, 2) := by decide +kernel
theorem dX7_labelOf_96 : decode cX7_labelOf 96 = .ok (.iconst 1, 1) := by decide +kernel
theorem dX7_labelOf_97 : decode cX7_labelOf 97 = .ok (.iadd, 1) := by decide +kernel
theorem dX7_labelOf_98 : decode cX7_labelOf 98 = .ok (.goto 4, 3) := by decide +kernel
theorem dX7_labelOf_101 : decode cX7_labelOf 101 = .ok (.iconst 3, 1) := by decide +kernel
theorem dX7_labelOf_102 : decode cX7_labelOf 102 = .ok (.istore 7, 2) := by decide +kernel
theorem dX7_labelOf_104 : decode cX7_labelOf 104 = .ok (.aload_n 0, 1) := by decide +kernel
theorem dX7_labelOf_105 : decode cX7_labelOf 105 = .ok (.getfield 38, 3) := by decide +kernel
theorem dX7_labelOf_108 : decode cX7_labelOf 108 = .ok (.iload_n 1, 1) := by decide +kernel
theorem dX7_labelOf_109 : decode cX7_labelOf 109 = .ok (.iload_n 2, 1) := by decide +kernel
theorem dX7_labelOf_110 : decode cX7_labelOf 110 = .ok (.ifCond .ne 7, 3) := by decide +kernel
theorem dX7_labelOf_113 : decode cX7_labelOf 113 = .ok (.iconst 1, 1) := by decide +kernel
theorem dX7_labelOf_114 : decode cX7_labelOf 114 = .ok (.goto 35, 3) := by decide +kernel
theorem dX7_labelOf_117 : decode cX7_labelOf 117 = .ok (.iload_n 2, 1) := by decide +kernel
theorem dX7_labelOf_118 : decode cX7_labelOf 118 = .ok (.iconst 1, 1) := by decide +kernel
theorem dX7_labelOf_119 : decode cX7_labelOf 119 = .ok (.if_icmp .ne 16, 3) := by decide +kernel
theorem dX7_labelOf_122 : decode cX7_labelOf 122 = .ok (.iload_n 3, 1) := by decide +kernel
theorem dX7_labelOf_123 : decode cX7_labelOf 123 = .ok (.iconst 2, 1) := by decide +kernel
theorem dX7_labelOf_124 : decode cX7_labelOf 124 = .ok (.if_icmp .ge 7, 3) := by decide +kernel
theorem dX7_labelOf_127 : decode cX7_labelOf 127 = .ok (.iconst 2, 1) := by decide +kernel
theorem dX7_labelOf_128 : decode cX7_labelOf 128 = .ok (.goto 21, 3) := by decide +kernel
theorem dX7_labelOf_131 : decode cX7_labelOf 131 = .ok (.iload_n 3, 1) := by decide +kernel
theorem dX7_labelOf_132 : decode cX7_labelOf 132 = .ok (.goto 17, 3) := by decide +kernel
theorem dX7_labelOf_135 : decode cX7_labelOf 135 = .ok (.iload 5, 2) := by decide +kernel
theorem dX7_labelOf_137 : decode cX7_labelOf 137 = .ok (.iload 7, 2) := by decide +kernel
theorem dX7_labelOf_139 : decode cX7_labelOf 139 = .ok (.if_icmp .le 8, 3) := by decide +kernel
theorem dX7_labelOf_142 : decode cX7_labelOf 142 = .ok (.iload 5, 2) := by decide +kernel
theorem dX7_labelOf_144 : decode cX7_labelOf 144 = .ok (.goto 5, 3) := by decide +kernel
theorem dX7_labelOf_147 : decode cX7_labelOf 147 = .ok (.iload 7, 2) := by decide +kernel
theorem dX7_labelOf_149 : decode cX7_labelOf 149 = .ok (.iastore, 1) := by decide +kernel
theorem dX7_labelOf_150 : decode cX7_labelOf 150 = .ok (.return_, 1) := by decide +kernel
set_option maxRecDepth 20000 in
theorem ggX7_findSizes_X7_isReady : GoodIn wsX7_findSizes wsX7_isReady := goodIn_ca (goodIn_r _ [8, 9, 2, 10, 11, 12, 7, 13, 20, 21, 22, 23, 24, 25, 26, 27, 28, 29, 30, 31, 32, 33, 34, 35, 36, 37, 38, 39, 40, 41, 42, 43, 44, 45, 46, 47, 48, 49] (by decide +kernel) (by decide +kernel)) (goodIn_sub (fun _ h => List.mem_cons_of_mem _ (List.mem_append_right _ h)) (by decide +kernel))
set_option maxRecDepth 20000 in
theorem gX7_findSizes_X7_isReady : GoodIn wsX7_findSizes (wsV RX7 113 RX7 yX7_isReady wsX7_isReady) := goodIn_app (goodIn_of _ (by decide +kernel)) ggX7_findSizes_X7_isReady
set_option maxRecDepth 20000 in
theorem ggX7_findSizes_X7_sizeOf : GoodIn wsX7_findSizes wsX7_sizeOf := goodIn_ca (goodIn_r _ [17, 9, 3, 10, 18, 19, 11, 12, 7, 13, 20, 21, 22, 23, 24, 25, 26, 27, 28, 29, 30, 31, 32, 33, 34, 35, 36, 37, 38, 39, 40, 41, 42, 43, 44, 45, 46, 47, 48, 49] (by decide +kernel) (by decide +kernel)) (goodIn_sub (fun _ h => List.mem_cons_of_mem _ (List.mem_append_right _ h)) (by decide +kernel))
set_option maxRecDepth 20000 in
theorem gX7_findSizes_X7_sizeOf : GoodIn wsX7_findSizes (wsV RX7 116 RX7 yX7_sizeOf wsX7_sizeOf) := goodIn_app (goodIn_of _ (by decide +kernel)) ggX7_findSizes_X7_sizeOf
theorem dX7_findSizes_0 : decode cX7_findSizes 0 = .ok (.iconst 0, 1) := by decide +kernel
theorem dX7_findSizes_1 : decode cX7_findSizes 1 = .ok (.istore_n 1, 1) := by decide +kernel
theorem dX7_findSizes_2 : decode cX7_findSizes 2 = .ok (.iload_n 1, 1) := by decide +kernel
theorem dX7_findSizes_3 : decode cX7_findSizes 3 = .ok (.aload_n 0, 1) := by decide +kernel
theorem dX7_findSizes_4 : decode cX7_findSizes 4 = .ok (.getfield 75, 3) := by decide +kernel
theorem dX7_findSizes_7 : decode cX7_findSizes 7 = .ok (.if_icmp .ge 16, 3) := by decide +kernel
theorem dX7_findSizes_10 : decode cX7_findSizes 10 = .ok (.aload_n 0, 1) := by decide +kernel
theorem dX7_findSizes_11 : decode cX7_findSizes 11 = .ok (.getfield 56, 3) := by decide +kernel
theorem dX7_findSizes_14 : decode cX7_findSizes 14 = .ok (.iload_n 1, 1) := by decide +kernel
theorem dX7_findSizes_15 : decode cX7_findSizes 15 = .ok (.iconst 0, 1) := by decide +kernel
theorem dX7_findSizes_16 : decode cX7_findSizes 16 = .ok (.bastore, 1) := by decide +kernel
theorem dX7_findSizes_17 : decode cX7_findSizes 17 = .ok (.iinc 1 1, 3) := by decide +kernel
theorem dX7_findSizes_20 : decode cX7_findSizes 20 = .ok (.goto (-18), 3) := by decide +kernel
theorem dX7_findSizes_23 : decode cX7_findSizes 23 = .ok (.iconst 0, 1) := by decide +kernel
theorem dX7_findSizes_24 : decode cX7_findSizes 24 = .ok (.istore_n 1, 1) := by decide +kernel
theorem dX7_findSizes_25 : decode cX7_findSizes 25 = .ok (.iload_n 1, 1) := by decide +kernel
theorem dX7_findSizes_26 : decode cX7_findSizes 26 = .ok (.aload_n 0, 1) := by decide +kernel
theorem dX7_findSizes_27 : decode cX7_findSizes 27 = .ok (.getfield 75, 3) := by decide +kernel
theorem dX7_findSizes_30 : decode cX7_findSizes 30 = .ok (.if_icmp .ge 71, 3) := by decide +kernel
theorem dX7_findSizes_33 : decode cX7_findSizes 33 = .ok (.iconst 0, 1) := by decide +kernel
theorem dX7_findSizes_34 : decode cX7_findSizes 34 = .ok (.istore_n 2, 1) := by decide +kernel
theorem dX7_findSizes_35 : decode cX7_findSizes 35 = .ok (.iload_n 2, 1) := by decide +kernel
theorem dX7_findSizes_36 : decode cX7_findSizes 36 = .ok (.aload_n 0, 1) := by decide +kernel
theorem dX7_findSizes_37 : decode cX7_findSizes 37 = .ok (.getfield 75, 3) := by decide +kernel
theorem dX7_findSizes_40 : decode cX7_findSizes 40 = .ok (.if_icmp .ge 55, 3) := by decide +kernel
theorem dX7_findSizes_43 : decode cX7_findSizes 43 = .ok (.aload_n 0, 1) := by decide +kernel
theorem dX7_findSizes_44 : decode cX7_findSizes 44 = .ok (.getfield 56, 3) := by decide +kernel
theorem dX7_findSizes_47 : decode cX7_findSizes 47 = .ok (.iload_n 2, 1) := by decide +kernel
theorem dX7_findSizes_48 : decode cX7_findSizes 48 = .ok (.baload, 1) := by decide +kernel
theorem dX7_findSizes_49 : decode cX7_findSizes 49 = .ok (.ifCond .ne 40, 3) := by decide +kernel
theorem dX7_findSizes_52 : decode cX7_findSizes 52 = .ok (.aload_n 0, 1) := by decide +kernel
theorem dX7_findSizes_53 : decode cX7_findSizes 53 = .ok (.iload_n 2, 1) := by decide +kernel
theorem dX7_findSizes_54 : decode cX7_findSizes 54 = .ok (.invokevirtual 113, 3) := by decide +kernel
theorem dX7_findSizes_57 : decode cX7_findSizes 57 = .ok (.ifCond .eq 32, 3) := by decide +kernel
theorem dX7_findSizes_60 : decode cX7_findSizes 60 = .ok (.aload_n 0, 1) := by decide +kernel
theorem dX7_findSizes_61 : decode cX7_findSizes 61 = .ok (.getfield 53, 3) := by decide +kernel
theorem dX7_findSizes_64 : decode cX7_findSizes 64 = .ok (.iload_n 2, 1) := by decide +kernel
theorem dX7_findSizes_65 : decode cX7_findSizes 65 = .ok (.aload_n 0, 1) := by decide +kernel
theorem dX7_findSizes_66 : decode cX7_findSizes 66 = .ok (.iload_n 2, 1) := by decide +kernel
theorem dX7_findSizes_67 : decode cX7_findSizes 67 = .ok (.invokevirtual 116, 3) := by decide +kernel
theorem dX7_findSizes_70 : decode cX7_findSizes 70 = .ok (.iastore, 1) := by decide +kernel
theorem dX7_findSizes_71 : decode cX7_findSizes 71 = .ok (.aload_n 0, 1) := by decide +kernel
theorem dX7_findSizes_72 : decode cX7_findSizes 72 = .ok (.getfield 53, 3) := by decide +kernel
theorem dX7_findSizes_75 : decode cX7_findSizes 75 = .ok (.iload_n 2, 1) := by decide +kernel
theorem dX7_findSizes_76 : decode cX7_findSizes 76 = .ok (.iaload, 1) := by decide +kernel
theorem dX7_findSizes_77 : decode cX7_findSizes 77 = .ok (.ifCond .ge 5, 3) := by decide +kernel
theorem dX7_findSizes_80 : decode cX7_findSizes 80 = .ok (.iconst 0, 1) := by decide +kernel
theorem dX7_findSizes_81 : decode cX7_findSizes 81 = .ok (.ireturn, 1) := by decide +kernel
theorem dX7_findSizes_82 : decode cX7_findSizes 82 = .ok (.aload_n 0, 1) := by decide +kernel
theorem dX7_findSizes_83 : decode cX7_findSizes 83 = .ok (.getfield 56, 3) := by decide +kernel
theorem dX7_findSizes_86 : decode cX7_findSizes 86 = .ok (.iload_n 2, 1) := by decide +kernel
theorem dX7_findSizes_87 : decode cX7_findSizes 87 = .ok (.iconst 1, 1) := by decide +kernel
theorem dX7_findSizes_88 : decode cX7_findSizes 88 = .ok (.bastore, 1) := by decide +kernel
theorem dX7_findSizes_89 : decode cX7_findSizes 89 = .ok (.iinc 2 1, 3) := by decide +kernel
theorem dX7_findSizes_92 : decode cX7_findSizes 92 = .ok (.goto (-57), 3) := by decide +kernel
theorem dX7_findSizes_95 : decode cX7_findSizes 95 = .ok (.iinc 1 1, 3) := by decide +kernel
theorem dX7_findSizes_98 : decode cX7_findSizes 98 = .ok (.goto (-73), 3) := by decide +kernel
theorem dX7_findSizes_101 : decode cX7_findSizes 101 = .ok (.iconst 1, 1) := by decide +kernel
theorem dX7_findSizes_102 : decode cX7_findSizes 102 = .ok (.ireturn, 1) := by decide +kernel
theorem dX7_come_0 : decode cX7_come 0 = .ok (.aload_n 0, 1) := by decide +kernel
theorem dX7_come_1 : decode cX7_come 1 = .ok (.getfield 44, 3) := by decide +kernel
theorem dX7_come_4 : decode cX7_come 4 = .ok (.iload_n 1, 1) := by decide +kernel
theorem dX7_come_5 : decode cX7_come 5 = .ok (.aload_n 0, 1) := by decide +kernel
theorem dX7_come_6 : decode cX7_come 6 = .ok (.getfield 119, 3) := by decide +kernel
theorem dX7_come_9 : decode cX7_come 9 = .ok (.iastore, 1) := by decide +kernel
theorem dX7_come_10 : decode cX7_come 10 = .ok (.aload_n 0, 1) := by decide +kernel
theorem dX7_come_11 : decode cX7_come 11 = .ok (.getfield 41, 3) := by decide +kernel
theorem dX7_come_14 : decode cX7_come 14 = .ok (.aload_n 0, 1) := by decide +kernel
theorem dX7_come_15 : decode cX7_come 15 = .ok (.getfield 119, 3) := by decide +kernel
theorem dX7_come_18 : decode cX7_come 18 = .ok (.iload_n 1, 1) := by decide +kernel
theorem dX7_come_19 : decode cX7_come 19 = .ok (.iastore, 1) := by decide +kernel
theorem dX7_come_20 : decode cX7_come 20 = .ok (.aload_n 0, 1) := by decide +kernel
theorem dX7_come_21 : decode cX7_come 21 = .ok (.dup, 1) := by decide +kernel
theorem dX7_come_22 : decode cX7_come 22 = .ok (.getfield 119, 3) := by decide +kernel
theorem dX7_come_25 : decode cX7_come 25 = .ok (.iconst 1, 1) := by decide +kernel
theorem dX7_come_26 : decode cX7_come 26 = .ok (.iadd, 1) := by decide +kernel
theorem dX7_come_27 : decode cX7_come 27 = .ok (.putfield 119, 3) := by decide +kernel
theorem dX7_come_30 : decode cX7_come 30 = .ok (.return_, 1) := by decide +kernel
theorem dX7_isThere_0 : decode cX7_isThere 0 = .ok (.aload_n 0, 1) := by decide +kernel
theorem dX7_isThere_1 : decode cX7_isThere 1 = .ok (.getfield 44, 3) := by decide +kernel
theorem dX7_isThere_4 : decode cX7_isThere 4 = .ok (.iload_n 1, 1) := by decide +kernel
theorem dX7_isThere_5 : decode cX7_isThere 5 = .ok (.iaload, 1) := by decide +kernel
theorem dX7_isThere_6 : decode cX7_isThere 6 = .ok (.ifCond .lt 7, 3) := by decide +kernel
theorem dX7_isThere_9 : decode cX7_isThere 9 = .ok (.iconst 1, 1) := by decide +kernel
theorem dX7_isThere_10 : decode cX7_isThere 10 = .ok (.goto 4, 3) := by decide +kernel
theorem dX7_isThere_13 : decode cX7_isThere 13 = .ok (.iconst 0, 1) := by decide +kernel
theorem dX7_isThere_14 : decode cX7_isThere 14 = .ok (.ireturn, 1) := by decide +kernel
set_option maxRecDepth 20000 in
theorem ggX7_isFree_X7_inputs : GoodIn wsX7_isFree wsX7_inputs := goodIn_r _ [6] (by decide +kernel) (by decide +kernel)
set_option maxRecDepth 20000 in
theorem gX7_isFree_X7_inputs : GoodIn wsX7_isFree (va_wsS RX7 94 yX7_inputs wsX7_inputs) := goodIn_app (goodIn_of _ (by decide +kernel)) ggX7_isFree_X7_inputs
set_option maxRecDepth 20000 in
theorem ggX7_isFree_X7_isThere : GoodIn wsX7_isFree wsX7_isThere := goodIn_ca (goodIn_r _ [10, 11, 12, 13, 14, 15, 16, 17, 18, 19, 20, 21, 22, 23, 24, 25, 26, 27, 28, 29, 30, 31, 32, 33, 34, 35, 36, 37, 38, 39, 40, 41] (by decide +kernel) (by decide +kernel)) (goodIn_sub (fun _ h => List.mem_cons_of_mem _ (List.mem_append_right _ h)) (by decide +kernel))
set_option maxRecDepth 20000 in
theorem gX7_isFree_X7_isThere : GoodIn wsX7_isFree (wsV RX7 122 RX7 yX7_isThere wsX7_isThere) := goodIn_app (goodIn_of _ (by decide +kernel)) ggX7_isFree_X7_isThere
theorem dX7_isFree_0 : decode cX7_isFree 0 = .ok (.iconst 1, 1) := by decide +kernel
theorem dX7_isFree_1 : decode cX7_isFree 1 = .ok (.istore_n 2, 1) := by decide +kernel
theorem dX7_isFree_2 : decode cX7_isFree 2 = .ok (.iconst 0, 1) := by decide +kernel
theorem dX7_isFree_3 : decode cX7_isFree 3 = .ok (.istore_n 3, 1) := by decide +kernel
theorem dX7_isFree_4 : decode cX7_isFree 4 = .ok (.iload_n 3, 1) := by decide +kernel
theorem dX7_isFree_5 : decode cX7_isFree 5 = .ok (.aload_n 0, 1) := by decide +kernel
theorem dX7_isFree_6 : decode cX7_isFree 6 = .ok (.getfield 7, 3) := by decide +kernel
theorem dX7_isFree_9 : decode cX7_isFree 9 = .ok (.iload_n 1, 1) := by decide +kernel
theorem dX7_isFree_10 : decode cX7_isFree 10 = .ok (.iaload, 1) := by decide +kernel
theorem dX7_isFree_11 : decode cX7_isFree 11 = .ok (.invokestatic 94, 3) := by decide +kernel
theorem dX7_isFree_14 : decode cX7_isFree 14 = .ok (.if_icmp .ge 36, 3) := by decide +kernel
theorem dX7_isFree_17 : decode cX7_isFree 17 = .ok (.iload_n 2, 1) := by decide +kernel
theorem dX7_isFree_18 : decode cX7_isFree 18 = .ok (.ifCond .eq 24, 3) := by decide +kernel
theorem dX7_isFree_21 : decode cX7_isFree 21 = .ok (.aload_n 0, 1) := by decide +kernel
theorem dX7_isFree_22 : decode cX7_isFree 22 = .ok (.aload_n 0, 1) := by decide +kernel
theorem dX7_isFree_23 : decode cX7_isFree 23 = .ok (.getfield 19, 3) := by decide +kernel
theorem dX7_isFree_26 : decode cX7_isFree 26 = .ok (.iconst 2, 1) := by decide +kernel
theorem dX7_isFree_27 : decode cX7_isFree 27 = .ok (.iload_n 1, 1) := by decide +kernel
theorem dX7_isFree_28 : decode cX7_isFree 28 = .ok (.imul, 1) := by decide +kernel
theorem dX7_isFree_29 : decode cX7_isFree 29 = .ok (.iload_n 3, 1) := by decide +kernel
theorem dX7_isFree_30 : decode cX7_isFree 30 = .ok (.iadd, 1) := by decide +kernel
theorem dX7_isFree_31 : decode cX7_isFree 31 = .ok (.iaload, 1) := by decide +kernel
theorem dX7_isFree_32 : decode cX7_isFree 32 = .ok (.invokevirtual 122, 3) := by decide +kernel
theorem dX7_isFree_35 : decode cX7_isFree 35 = .ok (.ifCond .eq 7, 3) := by decide +kernel
theorem dX7_isFree_38 : decode cX7_isFree 38 = .ok (.iconst 1, 1) := by decide +kernel
theorem dX7_isFree_39 : decode cX7_isFree 39 = .ok (.goto 4, 3) := by decide +kernel
theorem dX7_isFree_42 : decode cX7_isFree 42 = .ok (.iconst 0, 1) := by decide +kernel
theorem dX7_isFree_43 : decode cX7_isFree 43 = .ok (.istore_n 2, 1) := by decide +kernel
theorem dX7_isFree_44 : decode cX7_isFree 44 = .ok (.iinc 3 1, 3) := by decide +kernel
theorem dX7_isFree_47 : decode cX7_isFree 47 = .ok (.goto (-43), 3) := by decide +kernel
theorem dX7_isFree_50 : decode cX7_isFree 50 = .ok (.iload_n 2, 1) := by decide +kernel
theorem dX7_isFree_51 : decode cX7_isFree 51 = .ok (.ireturn, 1) := by decide +kernel
set_option maxRecDepth 20000 in
theorem ggX7_orderByNumbers_X7_isThere : GoodIn wsX7_orderByNumbers wsX7_isThere := goodIn_ca (goodIn_r _ [7, 8, 23, 24, 25, 26, 27, 28, 29, 30, 31, 32, 33, 34, 35, 36, 37, 38, 39, 40, 41, 42, 43, 44, 45, 46, 47, 48, 49, 50, 51, 52] (by decide +kernel) (by decide +kernel)) (goodIn_sub (fun _ h => List.mem_cons_of_mem _ (List.mem_append_right _ h)) (by decide +kernel))
set_option maxRecDepth 20000 in
theorem gX7_orderByNumbers_X7_isThere : GoodIn wsX7_orderByNumbers (wsV RX7 122 RX7 yX7_isThere wsX7_isThere) := goodIn_app (goodIn_of _ (by decide +kernel)) ggX7_orderByNumbers_X7_isThere
set_option maxRecDepth 20000 in
theorem ggX7_orderByNumbers_X7_isFree : GoodIn wsX7_orderByNumbers wsX7_isFree := goodIn_ca (goodIn_r _ [12, 13, 14, 15, 16, 6, 17, 3, 4, 5, 7, 8, 23, 24, 25, 26, 27, 28, 29, 30, 31, 32, 33, 34, 35, 36, 37, 38, 39, 40, 41, 42, 43, 44, 45, 46, 47, 48, 49, 50, 51, 52] (by decide +kernel) (by decide +kernel)) (goodIn_sub (fun _ h => List.mem_cons_of_mem _ (List.mem_append_right _ h)) (by decide +kernel))
set_option maxRecDepth 20000 in
theorem gX7_orderByNumbers_X7_isFree : GoodIn wsX7_orderByNumbers (wsV RX7 125 RX7 yX7_isFree wsX7_isFree) := goodIn_app (goodIn_of _ (by decide +kernel)) ggX7_orderByNumbers_X7_isFree
set_option maxRecDepth 20000 in
theorem ggX7_orderByNumbers_X7_come : GoodIn wsX7_orderByNumbers wsX7_come := goodIn_ca (goodIn_r _ [21, 8, 1, 22, 23, 24, 25, 26, 27, 28, 29, 30, 31, 32, 33, 34, 35, 36, 37, 38, 39, 40, 41, 42, 43, 44, 45, 46, 47, 48, 49, 50, 51, 52] (by decide +kernel) (by decide +kernel)) (goodIn_sub (fun _ h => List.mem_cons_of_mem _ (List.mem_append_right _ h)) (by decide +kernel))
set_option maxRecDepth 20000 in
theorem gX7_orderByNumbers_X7_come : GoodIn wsX7_orderByNumbers (wsV RX7 128 RX7 yX7_come wsX7_come) := goodIn_app (goodIn_of _ (by decide +kernel)) ggX7_orderByNumbers_X7_come
theorem dX7_orderByNumbers_0 : decode cX7_orderByNumbers 0 = .ok (.aload_n 0, 1) := by decide +kernel
theorem dX7_orderByNumbers_1 : decode cX7_orderByNumbers 1 = .ok (.getfield 119, 3) := by decide +kernel
theorem dX7_orderByNumbers_4 : decode cX7_orderByNumbers 4 = .ok (.aload_n 0, 1) := by decide +kernel
theorem dX7_orderByNumbers_5 : decode cX7_orderByNumbers 5 = .ok (.getfield 75, 3) := by decide +kernel
theorem dX7_orderByNumbers_8 : decode cX7_orderByNumbers 8 = .ok (.if_icmp .ge 35, 3) := by decide +kernel
theorem dX7_orderByNumbers_11 : decode cX7_orderByNumbers 11 = .ok (.iconst 0, 1) := by decide +kernel
theorem dX7_orderByNumbers_12 : decode cX7_orderByNumbers 12 = .ok (.istore_n 1, 1) := by decide +kernel
theorem dX7_orderByNumbers_13 : decode cX7_orderByNumbers 13 = .ok (.aload_n 0, 1) := by decide +kernel
theorem dX7_orderByNumbers_14 : decode cX7_orderByNumbers 14 = .ok (.iload_n 1, 1) := by decide +kernel
theorem dX7_orderByNumbers_15 : decode cX7_orderByNumbers 15 = .ok (.invokevirtual 122, 3) := by decide +kernel
theorem dX7_orderByNumbers_18 : decode cX7_orderByNumbers 18 = .ok (.ifCond .ne 11, 3) := by decide +kernel
theorem dX7_orderByNumbers_21 : decode cX7_orderByNumbers 21 = .ok (.aload_n 0, 1) := by decide +kernel
theorem dX7_orderByNumbers_22 : decode cX7_orderByNumbers 22 = .ok (.iload_n 1, 1) := by decide +kernel
theorem dX7_orderByNumbers_23 : decode cX7_orderByNumbers 23 = .ok (.invokevirtual 125, 3) := by decide +kernel
theorem dX7_orderByNumbers_26 : decode cX7_orderByNumbers 26 = .ok (.ifCond .ne 9, 3) := by decide +kernel
theorem dX7_orderByNumbers_29 : decode cX7_orderByNumbers 29 = .ok (.iinc 1 1, 3) := by decide +kernel
theorem dX7_orderByNumbers_32 : decode cX7_orderByNumbers 32 = .ok (.goto (-19), 3) := by decide +kernel
theorem dX7_orderByNumbers_35 : decode cX7_orderByNumbers 35 = .ok (.aload_n 0, 1) := by decide +kernel
theorem dX7_orderByNumbers_36 : decode cX7_orderByNumbers 36 = .ok (.iload_n 1, 1) := by decide +kernel
theorem dX7_orderByNumbers_37 : decode cX7_orderByNumbers 37 = .ok (.invokevirtual 128, 3) := by decide +kernel
theorem dX7_orderByNumbers_40 : decode cX7_orderByNumbers 40 = .ok (.goto (-40), 3) := by decide +kernel
theorem dX7_orderByNumbers_43 : decode cX7_orderByNumbers 43 = .ok (.return_, 1) := by decide +kernel
theorem dX7_isUsed_0 : decode cX7_isUsed 0 = .ok (.iconst 0, 1) := by decide +kernel
theorem dX7_isUsed_1 : decode cX7_isUsed 1 = .ok (.istore_n 2, 1) := by decide +kernel
theorem dX7_isUsed_2 : decode cX7_isUsed 2 = .ok (.iconst 0, 1) := by decide +kernel
theorem dX7_isUsed_3 : decode cX7_isUsed 3 = .ok (.istore_n 3, 1) := by decide +kernel
theorem dX7_isUsed_4 : decode cX7_isUsed 4 = .ok (.iload_n 3, 1) := by decide +kernel
theorem dX7_isUsed_5 : decode cX7_isUsed 5 = .ok (.iconst 2, 1) := by decide +kernel
theorem dX7_isUsed_6 : decode cX7_isUsed 6 = .ok (.aload_n 0, 1) := by decide +kernel
theorem dX7_isUsed_7 : decode cX7_isUsed 7 = .ok (.getfield 75, 3) := by decide +kernel
theorem dX7_isUsed_10 : decode cX7_isUsed 10 = .ok (.imul, 1) := by decide +kernel
theorem dX7_isUsed_11 : decode cX7_isUsed 11 = .ok (.if_icmp .ge 29, 3) := by decide +kernel
theorem dX7_isUsed_14 : decode cX7_isUsed 14 = .ok (.iload_n 2, 1) := by decide +kernel
theorem dX7_isUsed_15 : decode cX7_isUsed 15 = .ok (.ifCond .ne 13, 3) := by decide +kernel
theorem dX7_isUsed_18 : decode cX7_isUsed 18 = .ok (.aload_n 0, 1) := by decide +kernel
theorem dX7_isUsed_19 : decode cX7_isUsed 19 = .ok (.getfield 19, 3) := by decide +kernel
theorem dX7_isUsed_22 : decode cX7_isUsed 22 = .ok (.iload_n 3, 1) := by decide +kernel
theorem dX7_isUsed_23 : decode cX7_isUsed 23 = .ok (.iaload, 1) := by decide +kernel
theorem dX7_isUsed_24 : decode cX7_isUsed 24 = .ok (.iload_n 1, 1) := by decide +kernel
theorem dX7_isUsed_25 : decode cX7_isUsed 25 = .ok (.if_icmp .ne 7, 3) := by decide +kernel
theorem dX7_isUsed_28 : decode cX7_isUsed 28 = .ok (.iconst 1, 1) := by decide +kernel
theorem dX7_isUsed_29 : decode cX7_isUsed 29 = .ok (.goto 4, 3) := by decide +kernel
theorem dX7_isUsed_32 : decode cX7_isUsed 32 = .ok (.iconst 0, 1) := by decide +kernel
theorem dX7_isUsed_33 : decode cX7_isUsed 33 = .ok (.istore_n 2, 1) := by decide +kernel
theorem dX7_isUsed_34 : decode cX7_isUsed 34 = .ok (.iinc 3 1, 3) := by decide +kernel
theorem dX7_isUsed_37 : decode cX7_isUsed 37 = .ok (.goto (-33), 3) := by decide +kernel
theorem dX7_isUsed_40 : decode cX7_isUsed 40 = .ok (.iload_n 2, 1) := by decide +kernel
theorem dX7_isUsed_41 : decode cX7_isUsed 41 = .ok (.ireturn, 1) := by decide +kernel
set_option maxRecDepth 20000 in
theorem ggX7_due_X7_inputs : GoodIn wsX7_due wsX7_inputs := goodIn_r _ [7] (by decide +kernel) (by decide +kernel)
set_option maxRecDepth 20000 in
theorem gX7_due_X7_inputs : GoodIn wsX7_due (va_wsS RX7 94 yX7_inputs wsX7_inputs) := goodIn_app (goodIn_of _ (by decide +kernel)) ggX7_due_X7_inputs
set_option maxRecDepth 20000 in
theorem ggX7_due_X7_isThere : GoodIn wsX7_due wsX7_isThere := goodIn_ca (goodIn_r _ [11, 12, 13, 14, 15, 16, 17, 18, 19, 20, 21, 22, 23, 24, 25, 26, 27, 28, 29, 30, 31, 32, 33, 34, 35, 36, 37, 38, 39, 40, 41, 42] (by decide +kernel) (by decide +kernel)) (goodIn_sub (fun _ h => List.mem_cons_of_mem _ (List.mem_append_right _ h)) (by decide +kernel))
set_option maxRecDepth 20000 in
theorem gX7_due_X7_isThere : GoodIn wsX7_due (wsV RX7 122 RX7 yX7_isThere wsX7_isThere) := goodIn_app (goodIn_of _ (by decide +kernel)) ggX7_due_X7_isThere
theorem dX7_due_0 : decode cX7_due 0 = .ok (.aload_n 0, 1) := by decide +kernel
theorem dX7_due_1 : decode cX7_due 1 = .ok (.getfield 19, 3) := by decide +kernel
theorem dX7_due_4 : decode cX7_due 4 = .ok (.iconst 2, 1) := by decide +kernel
theorem dX7_due_5 : decode cX7_due 5 = .ok (.iload_n 1, 1) := by decide +kernel
theorem dX7_due_6 : decode cX7_due 6 = .ok (.imul, 1) := by decide +kernel
theorem dX7_due_7 : decode cX7_due 7 = .ok (.iaload, 1) := by decide +kernel
theorem dX7_due_8 : decode cX7_due 8 = .ok (.istore_n 2, 1) := by decide +kernel
theorem dX7_due_9 : decode cX7_due 9 = .ok (.aload_n 0, 1) := by decide +kernel
theorem dX7_due_10 : decode cX7_due 10 = .ok (.getfield 7, 3) := by decide +kernel
theorem dX7_due_13 : decode cX7_due 13 = .ok (.iload_n 1, 1) := by decide +kernel
theorem dX7_due_14 : decode cX7_due 14 = .ok (.iaload, 1) := by decide +kernel
theorem dX7_due_15 : decode cX7_due 15 = .ok (.invokestatic 94, 3) := by decide +kernel
theorem dX7_due_18 : decode cX7_due 18 = .ok (.iconst 1, 1) := by decide +kernel
theorem dX7_due_19 : decode cX7_due 19 = .ok (.if_icmp .le 16, 3) := by decide +kernel
theorem dX7_due_22 : decode cX7_due 22 = .ok (.aload_n 0, 1) := by decide +kernel
theorem dX7_due_23 : decode cX7_due 23 = .ok (.getfield 19, 3) := by decide +kernel
theorem dX7_due_26 : decode cX7_due 26 = .ok (.iconst 2, 1) := by decide +kernel
theorem dX7_due_27 : decode cX7_due 27 = .ok (.iload_n 1, 1) := by decide +kernel
theorem dX7_due_28 : decode cX7_due 28 = .ok (.imul, 1) := by decide +kernel
theorem dX7_due_29 : decode cX7_due 29 = .ok (.iconst 1, 1) := by decide +kernel
theorem dX7_due_30 : decode cX7_due 30 = .ok (.iadd, 1) := by decide +kernel
theorem dX7_due_31 : decode cX7_due 31 = .ok (.iaload, 1) := by decide +kernel
theorem dX7_due_32 : decode cX7_due 32 = .ok (.goto 4, 3) := by decide +kernel
theorem dX7_due_35 : decode cX7_due 35 = .ok (.iload_n 2, 1) := by decide +kernel
theorem dX7_due_36 : decode cX7_due 36 = .ok (.istore_n 3, 1) := by decide +kernel
theorem dX7_due_37 : decode cX7_due 37 = .ok (.aload_n 0, 1) := by decide +kernel
theorem dX7_due_38 : decode cX7_due 38 = .ok (.getfield 38, 3) := by decide +kernel
theorem dX7_due_41 : decode cX7_due 41 = .ok (.iload_n 3, 1) := by decide +kernel
theorem dX7_due_42 : decode cX7_due 42 = .ok (.iaload, 1) := by decide +kernel
theorem dX7_due_43 : decode cX7_due 43 = .ok (.aload_n 0, 1) := by decide +kernel
theorem dX7_due_44 : decode cX7_due 44 = .ok (.getfield 38, 3) := by decide +kernel
theorem dX7_due_47 : decode cX7_due 47 = .ok (.iload_n 2, 1) := by decide +kernel
theorem dX7_due_48 : decode cX7_due 48 = .ok (.iaload, 1) := by decide +kernel
theorem dX7_due_49 : decode cX7_due 49 = .ok (.if_icmp .le 7, 3) := by decide +kernel
theorem dX7_due_52 : decode cX7_due 52 = .ok (.iconst 1, 1) := by decide +kernel
theorem dX7_due_53 : decode cX7_due 53 = .ok (.goto 4, 3) := by decide +kernel
theorem dX7_due_56 : decode cX7_due 56 = .ok (.iconst 0, 1) := by decide +kernel
theorem dX7_due_57 : decode cX7_due 57 = .ok (.istore 4, 2) := by decide +kernel
theorem dX7_due_59 : decode cX7_due 59 = .ok (.iload 4, 2) := by decide +kernel
theorem dX7_due_61 : decode cX7_due 61 = .ok (.ifCond .eq 7, 3) := by decide +kernel
theorem dX7_due_64 : decode cX7_due 64 = .ok (.iload_n 3, 1) := by decide +kernel
theorem dX7_due_65 : decode cX7_due 65 = .ok (.goto 4, 3) := by decide +kernel
theorem dX7_due_68 : decode cX7_due 68 = .ok (.iload_n 2, 1) := by decide +kernel
theorem dX7_due_69 : decode cX7_due 69 = .ok (.istore 5, 2) := by decide +kernel
theorem dX7_due_71 : decode cX7_due 71 = .ok (.iload 4, 2) := by decide +kernel
theorem dX7_due_73 : decode cX7_due 73 = .ok (.ifCond .eq 7, 3) := by decide +kernel
theorem dX7_due_76 : decode cX7_due 76 = .ok (.iload_n 2, 1) := by decide +kernel
theorem dX7_due_77 : decode cX7_due 77 = .ok (.goto 4, 3) := by decide +kernel
theorem dX7_due_80 : decode cX7_due 80 = .ok (.iload_n 3, 1) := by decide +kernel
theorem dX7_due_81 : decode cX7_due 81 = .ok (.istore 6, 2) := by decide +kernel
theorem dX7_due_83 : decode cX7_due 83 = .ok (.aload_n 0, 1) := by decide +kernel
theorem dX7_due_84 : decode cX7_due 84 = .ok (.iload 5, 2) := by decide +kernel
theorem dX7_due_86 : decode cX7_due 86 = .ok (.invokevirtual 122, 3) := by decide +kernel
theorem dX7_due_89 : decode cX7_due 89 = .ok (.ifCond .eq 8, 3) := by decide +kernel
theorem dX7_due_92 : decode cX7_due 92 = .ok (.iload 6, 2) := by decide +kernel
theorem dX7_due_94 : decode cX7_due 94 = .ok (.goto 5, 3) := by decide +kernel
theorem dX7_due_97 : decode cX7_due 97 = .ok (.iload 5, 2) := by decide +kernel
theorem dX7_due_99 : decode cX7_due 99 = .ok (.ireturn, 1) := by decide +kernel
set_option maxRecDepth 20000 in
theorem ggX7_visit_X7_isThere : GoodIn wsX7_visit wsX7_isThere := goodIn_ca (goodIn_r _ [7, 8, 29, 30, 31, 32, 33, 34, 35, 36, 37, 38, 39, 40, 41, 42, 43, 44, 45, 46, 47, 48, 49, 50, 51, 52, 53, 54, 55, 56, 57, 58] (by decide +kernel) (by decide +kernel)) (goodIn_sub (fun _ h => List.mem_cons_of_mem _ (List.mem_append_right _ h)) (by decide +kernel))
set_option maxRecDepth 20000 in
theorem gX7_visit_X7_isThere : GoodIn wsX7_visit (wsV RX7 122 RX7 yX7_isThere wsX7_isThere) := goodIn_app (goodIn_of _ (by decide +kernel)) ggX7_visit_X7_isThere
set_option maxRecDepth 20000 in
theorem ggX7_visit_X7_isFree : GoodIn wsX7_visit wsX7_isFree := goodIn_ca (goodIn_r _ [12, 13, 14, 15, 16, 6, 17, 3, 4, 5, 7, 8, 29, 30, 31, 32, 33, 34, 35, 36, 37, 38, 39, 40, 41, 42, 43, 44, 45, 46, 47, 48, 49, 50, 51, 52, 53, 54, 55, 56, 57, 58] (by decide +kernel) (by decide +kernel)) (goodIn_sub (fun _ h => List.mem_cons_of_mem _ (List.mem_append_right _ h)) (by decide +kernel))
set_option maxRecDepth 20000 in
theorem gX7_visit_X7_isFree : GoodIn wsX7_visit (wsV RX7 125 RX7 yX7_isFree wsX7_isFree) := goodIn_app (goodIn_of _ (by decide +kernel)) ggX7_visit_X7_isFree
set_option maxRecDepth 20000 in
theorem ggX7_visit_X7_come : GoodIn wsX7_visit wsX7_come := goodIn_ca (goodIn_r _ [21, 8, 22, 23, 29, 30, 31, 32, 33, 34, 35, 36, 37, 38, 39, 40, 41, 42, 43, 44, 45, 46, 47, 48, 49, 50, 51, 52, 53, 54, 55, 56, 57, 58] (by decide +kernel) (by decide +kernel)) (goodIn_sub (fun _ h => List.mem_cons_of_mem _ (List.mem_append_right _ h)) (by decide +kernel))
set_option maxRecDepth 20000 in
theorem gX7_visit_X7_come : GoodIn wsX7_visit (wsV RX7 128 RX7 yX7_come wsX7_come) := goodIn_app (goodIn_of _ (by decide +kernel)) ggX7_visit_X7_come
set_option maxRecDepth 20000 in
theorem ggX7_visit_X7_due : GoodIn wsX7_visit wsX7_due := goodIn_ca (goodIn_r _ [27, 14, 13, 28, 15, 16, 6, 17, 3, 4, 5, 7, 8, 29, 30, 31, 32, 33, 34, 35, 36, 37, 38, 39, 40, 41, 42, 43, 44, 45, 46, 47, 48, 49, 50, 51, 52, 53, 54, 55, 56, 57, 58] (by decide +kernel) (by decide +kernel)) (goodIn_sub (fun _ h => List.mem_cons_of_mem _ (List.mem_append_right _ h)) (by decide +kernel))
set_option maxRecDepth 20000 in
theorem gX7_visit_X7_due : GoodIn wsX7_visit (wsV RX7 134 RX7 yX7_due wsX7_due) := goodIn_app (goodIn_of _ (by decide +kernel)) ggX7_visit_X7_due
theorem dX7_visit_0 : decode cX7_visit 0 = .ok (.aload_n 0, 1) := by decide +kernel
theorem dX7_visit_1 : decode cX7_visit 1 = .ok (.getfield 59, 3) := by decide +kernel
theorem dX7_visit_4 : decode cX7_visit 4 = .ok (.iconst 0, 1) := by decide +kernel
theorem dX7_visit_5 : decode cX7_visit 5 = .ok (.iload_n 1, 1) := by decide +kernel
theorem dX7_visit_6 : decode cX7_visit 6 = .ok (.iastore, 1) := by decide +kernel
theorem dX7_visit_7 : decode cX7_visit 7 = .ok (.aload_n 0, 1) := by decide +kernel
theorem dX7_visit_8 : decode cX7_visit 8 = .ok (.iconst 1, 1) := by decide +kernel
theorem dX7_visit_9 : decode cX7_visit 9 = .ok (.putfield 131, 3) := by decide +kernel
theorem dX7_visit_12 : decode cX7_visit 12 = .ok (.aload_n 0, 1) := by decide +kernel
theorem dX7_visit_13 : decode cX7_visit 13 = .ok (.getfield 131, 3) := by decide +kernel
theorem dX7_visit_16 : decode cX7_visit 16 = .ok (.ifCond .le 89, 3) := by decide +kernel
theorem dX7_visit_19 : decode cX7_visit 19 = .ok (.aload_n 0, 1) := by decide +kernel
theorem dX7_visit_20 : decode cX7_visit 20 = .ok (.getfield 59, 3) := by decide +kernel
theorem dX7_visit_23 : decode cX7_visit 23 = .ok (.aload_n 0, 1) := by decide +kernel
theorem dX7_visit_24 : decode cX7_visit 24 = .ok (.getfield 131, 3) := by decide +kernel
theorem dX7_visit_27 : decode cX7_visit 27 = .ok (.iconst 1, 1) := by decide +kernel
theorem dX7_visit_28 : decode cX7_visit 28 = .ok (.isub, 1) := by decide +kernel
theorem dX7_visit_29 : decode cX7_visit 29 = .ok (.iaload, 1) := by decide +kernel
theorem dX7_visit_30 : decode cX7_visit 30 = .ok (.istore_n 2, 1) := by decide +kernel
theorem dX7_visit_31 : decode cX7_visit 31 = .ok (.aload_n 0, 1) := by decide +kernel
theorem dX7_visit_32 : decode cX7_visit 32 = .ok (.iload_n 2, 1) := by decide +kernel
theorem dX7_visit_33 : decode cX7_visit 33 = .ok (.invokevirtual 122, 3) := by decide +kernel
theorem dX7_visit_36 : decode cX7_visit 36 = .ok (.ifCond .eq 16, 3) := by decide +kernel
theorem dX7_visit_39 : decode cX7_visit 39 = .ok (.aload_n 0, 1) := by decide +kernel
theorem dX7_visit_40 : decode cX7_visit 40 = .ok (.dup, 1) := by decide +kernel
theorem dX7_visit_41 : decode cX7_visit 41 = .ok (.getfield 131, 3) := by decide +kernel
theorem dX7_visit_44 : decode cX7_visit 44 = .ok (.iconst 1, 1) := by decide +kernel
theorem dX7_visit_45 : decode cX7_visit 45 = .ok (.isub, 1) := by decide +kernel
theorem dX7_visit_46 : decode cX7_visit 46 = .ok (.putfield 131, 3) := by decide +kernel
theorem dX7_visit_49 : decode cX7_visit 49 = .ok (.goto 53, 3) := by decide +kernel
theorem dX7_visit_52 : decode cX7_visit 52 = .ok (.aload_n 0, 1) := by decide +kernel
theorem dX7_visit_53 : decode cX7_visit 53 = .ok (.iload_n 2, 1) := by decide +kernel
theorem dX7_visit_54 : decode cX7_visit 54 = .ok (.invokevirtual 125, 3) := by decide +kernel
theorem dX7_visit_57 : decode cX7_visit 57 = .ok (.ifCond .eq 21, 3) := by decide +kernel
theorem dX7_visit_60 : decode cX7_visit 60 = .ok (.aload_n 0, 1) := by decide +kernel
theorem dX7_visit_61 : decode cX7_visit 61 = .ok (.iload_n 2, 1) := by decide +kernel
theorem dX7_visit_62 : decode cX7_visit 62 = .ok (.invokevirtual 128, 3) := by decide +kernel
theorem dX7_visit_65 : decode cX7_visit 65 = .ok (.aload_n 0, 1) := by decide +kernel
theorem dX7_visit_66 : decode cX7_visit 66 = .ok (.dup, 1) := by decide +kernel
theorem dX7_visit_67 : decode cX7_visit 67 = .ok (.getfield 131, 3) := by decide +kernel
theorem dX7_visit_70 : decode cX7_visit 70 = .ok (.iconst 1, 1) := by decide +kernel
theorem dX7_visit_71 : decode cX7_visit 71 = .ok (.isub, 1) := by decide +kernel
theorem dX7_visit_72 : decode cX7_visit 72 = .ok (.putfield 131, 3) := by decide +kernel
theorem dX7_visit_75 : decode cX7_visit 75 = .ok (.goto 27, 3) := by decide +kernel
theorem dX7_visit_78 : decode cX7_visit 78 = .ok (.aload_n 0, 1) := by decide +kernel
theorem dX7_visit_79 : decode cX7_visit 79 = .ok (.getfield 59, 3) := by decide +kernel
theorem dX7_visit_82 : decode cX7_visit 82 = .ok (.aload_n 0, 1) := by decide +kernel
theorem dX7_visit_83 : decode cX7_visit 83 = .ok (.getfield 131, 3) := by decide +kernel
theorem dX7_visit_86 : decode cX7_visit 86 = .ok (.aload_n 0, 1) := by decide +kernel
theorem dX7_visit_87 : decode cX7_visit 87 = .ok (.iload_n 2, 1) := by decide +kernel
theorem dX7_visit_88 : decode cX7_visit 88 = .ok (.invokevirtual 134, 3) := by decide +kernel
theorem dX7_visit_91 : decode cX7_visit 91 = .ok (.iastore, 1) := by decide +kernel
theorem dX7_visit_92 : decode cX7_visit 92 = .ok (.aload_n 0, 1) := by decide +kernel
theorem dX7_visit_93 : decode cX7_visit 93 = .ok (.dup, 1) := by decide +kernel
theorem dX7_visit_94 : decode cX7_visit 94 = .ok (.getfield 131, 3) := by decide +kernel
theorem dX7_visit_97 : decode cX7_visit 97 = .ok (.iconst 1, 1) := by decide +kernel
theorem dX7_visit_98 : decode cX7_visit 98 = .ok (.iadd, 1) := by decide +kernel
theorem dX7_visit_99 : decode cX7_visit 99 = .ok (.putfield 131, 3) := by decide +kernel
theorem dX7_visit_102 : decode cX7_visit 102 = .ok (.goto (-90), 3) := by decide +kernel
theorem dX7_visit_105 : decode cX7_visit 105 = .ok (.return_, 1) := by decide +kernel
set_option maxRecDepth 20000 in
theorem ggX7_orderByLabels_X7_isUsed : GoodIn wsX7_orderByLabels wsX7_isUsed := goodIn_ca (goodIn_r _ [6, 1, 7, 38, 39, 40, 41, 42, 43, 44, 45, 46, 47, 48, 49, 50, 51, 52, 53, 54, 55, 56, 57, 58, 59, 60, 61, 62, 63, 64, 65, 66, 67] (by decide +kernel) (by decide +kernel)) (goodIn_sub (fun _ h => List.mem_cons_of_mem _ (List.mem_append_right _ h)) (by decide +kernel))
set_option maxRecDepth 20000 in
theorem gX7_orderByLabels_X7_isUsed : GoodIn wsX7_orderByLabels (wsV RX7 137 RX7 yX7_isUsed wsX7_isUsed) := goodIn_app (goodIn_of _ (by decide +kernel)) ggX7_orderByLabels_X7_isUsed
set_option maxRecDepth 20000 in
theorem ggX7_orderByLabels_X7_visit : GoodIn wsX7_orderByLabels wsX7_visit := goodIn_ca (goodIn_r _ [11, 12, 13, 14, 15, 16, 5, 17, 18, 19, 20, 21, 22, 23, 7, 24, 25, 26, 27, 28, 29, 30, 31, 32, 33, 34, 35, 36, 37, 38, 39, 40, 41, 42, 43, 44, 45, 46, 47, 48, 49, 50, 51, 52, 53, 54, 55, 56, 57, 58, 59, 60, 61, 62, 63, 64, 65, 66, 67] (by decide +kernel) (by decide +kernel)) (goodIn_sub (fun _ h => List.mem_cons_of_mem _ (List.mem_append_right _ h)) (by decide +kernel))
set_option maxRecDepth 20000 in
theorem gX7_orderByLabels_X7_visit : GoodIn wsX7_orderByLabels (wsV RX7 140 RX7 yX7_visit wsX7_visit) := goodIn_app (goodIn_of _ (by decide +kernel)) ggX7_orderByLabels_X7_visit
theorem dX7_orderByLabels_0 : decode cX7_orderByLabels 0 = .ok (.iconst 0, 1) := by decide +kernel
theorem dX7_orderByLabels_1 : decode cX7_orderByLabels 1 = .ok (.istore_n 1, 1) := by decide +kernel
theorem dX7_orderByLabels_2 : decode cX7_orderByLabels 2 = .ok (.iload_n 1, 1) := by decide +kernel
theorem dX7_orderByLabels_3 : decode cX7_orderByLabels 3 = .ok (.aload_n 0, 1) := by decide +kernel
theorem dX7_orderByLabels_4 : decode cX7_orderByLabels 4 = .ok (.getfield 75, 3) := by decide +kernel
theorem dX7_orderByLabels_7 : decode cX7_orderByLabels 7 = .ok (.if_icmp .ge 22, 3) := by decide +kernel
theorem dX7_orderByLabels_10 : decode cX7_orderByLabels 10 = .ok (.aload_n 0, 1) := by decide +kernel
theorem dX7_orderByLabels_11 : decode cX7_orderByLabels 11 = .ok (.iload_n 1, 1) := by decide +kernel
theorem dX7_orderByLabels_12 : decode cX7_orderByLabels 12 = .ok (.invokevirtual 137, 3) := by decide +kernel
theorem dX7_orderByLabels_15 : decode cX7_orderByLabels 15 = .ok (.ifCond .ne 8, 3) := by decide +kernel
theorem dX7_orderByLabels_18 : decode cX7_orderByLabels 18 = .ok (.aload_n 0, 1) := by decide +kernel
theorem dX7_orderByLabels_19 : decode cX7_orderByLabels 19 = .ok (.iload_n 1, 1) := by decide +kernel
theorem dX7_orderByLabels_20 : decode cX7_orderByLabels 20 = .ok (.invokevirtual 140, 3) := by decide +kernel
theorem dX7_orderByLabels_23 : decode cX7_orderByLabels 23 = .ok (.iinc 1 1, 3) := by decide +kernel
theorem dX7_orderByLabels_26 : decode cX7_orderByLabels 26 = .ok (.goto (-24), 3) := by decide +kernel
theorem dX7_orderByLabels_29 : decode cX7_orderByLabels 29 = .ok (.return_, 1) := by decide +kernel
theorem dX7_findLives_0 : decode cX7_findLives 0 = .ok (.iconst 0, 1) := by decide +kernel
theorem dX7_findLives_1 : decode cX7_findLives 1 = .ok (.istore_n 1, 1) := by decide +kernel
theorem dX7_findLives_2 : decode cX7_findLives 2 = .ok (.iload_n 1, 1) := by decide +kernel
theorem dX7_findLives_3 : decode cX7_findLives 3 = .ok (.aload_n 0, 1) := by decide +kernel
theorem dX7_findLives_4 : decode cX7_findLives 4 = .ok (.getfield 75, 3) := by decide +kernel
theorem dX7_findLives_7 : decode cX7_findLives 7 = .ok (.if_icmp .ge 98, 3) := by decide +kernel
theorem dX7_findLives_10 : decode cX7_findLives 10 = .ok (.aload_n 0, 1) := by decide +kernel
theorem dX7_findLives_11 : decode cX7_findLives 11 = .ok (.getfield 47, 3) := by decide +kernel
theorem dX7_findLives_14 : decode cX7_findLives 14 = .ok (.iload_n 1, 1) := by decide +kernel
theorem dX7_findLives_15 : decode cX7_findLives 15 = .ok (.aload_n 0, 1) := by decide +kernel
theorem dX7_findLives_16 : decode cX7_findLives 16 = .ok (.getfield 22, 3) := by decide +kernel
theorem dX7_findLives_19 : decode cX7_findLives 19 = .ok (.iload_n 1, 1) := by decide +kernel
theorem dX7_findLives_20 : decode cX7_findLives 20 = .ok (.baload, 1) := by decide +kernel
theorem dX7_findLives_21 : decode cX7_findLives 21 = .ok (.ifCond .eq 12, 3) := by decide +kernel
theorem dX7_findLives_24 : decode cX7_findLives 24 = .ok (.aload_n 0, 1) := by decide +kernel
theorem dX7_findLives_25 : decode cX7_findLives 25 = .ok (.getfield 75, 3) := by decide +kernel
theorem dX7_findLives_28 : decode cX7_findLives 28 = .ok (.iconst 1, 1) := by decide +kernel
theorem dX7_findLives_29 : decode cX7_findLives 29 = .ok (.isub, 1) := by decide +kernel
theorem dX7_findLives_30 : decode cX7_findLives 30 = .ok (.goto 9, 3) := by decide +kernel
theorem dX7_findLives_33 : decode cX7_findLives 33 = .ok (.aload_n 0, 1) := by decide +kernel
theorem dX7_findLives_34 : decode cX7_findLives 34 = .ok (.getfield 44, 3) := by decide +kernel
theorem dX7_findLives_37 : decode cX7_findLives 37 = .ok (.iload_n 1, 1) := by decide +kernel
theorem dX7_findLives_38 : decode cX7_findLives 38 = .ok (.iaload, 1) := by decide +kernel
theorem dX7_findLives_39 : decode cX7_findLives 39 = .ok (.iastore, 1) := by decide +kernel
theorem dX7_findLives_40 : decode cX7_findLives 40 = .ok (.iconst 0, 1) := by decide +kernel
theorem dX7_findLives_41 : decode cX7_findLives 41 = .ok (.istore_n 2, 1) := by decide +kernel
theorem dX7_findLives_42 : decode cX7_findLives 42 = .ok (.iload_n 2, 1) := by decide +kernel
theorem dX7_findLives_43 : decode cX7_findLives 43 = .ok (.iconst 2, 1) := by decide +kernel
theorem dX7_findLives_44 : decode cX7_findLives 44 = .ok (.aload_n 0, 1) := by decide +kernel
theorem dX7_findLives_45 : decode cX7_findLives 45 = .ok (.getfield 75, 3) := by decide +kernel
theorem dX7_findLives_48 : decode cX7_findLives 48 = .ok (.imul, 1) := by decide +kernel
theorem dX7_findLives_49 : decode cX7_findLives 49 = .ok (.if_icmp .ge 50, 3) := by decide +kernel
theorem dX7_findLives_52 : decode cX7_findLives 52 = .ok (.aload_n 0, 1) := by decide +kernel
theorem dX7_findLives_53 : decode cX7_findLives 53 = .ok (.getfield 19, 3) := by decide +kernel
theorem dX7_findLives_56 : decode cX7_findLives 56 = .ok (.iload_n 2, 1) := by decide +kernel
theorem dX7_findLives_57 : decode cX7_findLives 57 = .ok (.iaload, 1) := by decide +kernel
theorem dX7_findLives_58 : decode cX7_findLives 58 = .ok (.iload_n 1, 1) := by decide +kernel
theorem dX7_findLives_59 : decode cX7_findLives 59 = .ok (.if_icmp .ne 34, 3) := by decide +kernel
theorem dX7_findLives_62 : decode cX7_findLives 62 = .ok (.aload_n 0, 1) := by decide +kernel
theorem dX7_findLives_63 : decode cX7_findLives 63 = .ok (.getfield 44, 3) := by decide +kernel
theorem dX7_findLives_66 : decode cX7_findLives 66 = .ok (.iload_n 2, 1) := by decide +kernel
theorem dX7_findLives_67 : decode cX7_findLives 67 = .ok (.iconst 2, 1) := by decide +kernel
theorem dX7_findLives_68 : decode cX7_findLives 68 = .ok (.idiv, 1) := by decide +kernel
theorem dX7_findLives_69 : decode cX7_findLives 69 = .ok (.iaload, 1) := by decide +kernel
theorem dX7_findLives_70 : decode cX7_findLives 70 = .ok (.aload_n 0, 1) := by decide +kernel
theorem dX7_findLives_71 : decode cX7_findLives 71 = .ok (.getfield 47, 3) := by decide +kernel
theorem dX7_findLives_74 : decode cX7_findLives 74 = .ok (.iload_n 1, 1) := by decide +kernel
theorem dX7_findLives_75 : decode cX7_findLives 75 = .ok (.iaload, 1) := by decide +kernel
theorem dX7_findLives_76 : decode cX7_findLives 76 = .ok (.if_icmp .le 17, 3) := by decide +kernel
theorem dX7_findLives_79 : decode cX7_findLives 79 = .ok (.aload_n 0, 1) := by decide +kernel
theorem dX7_findLives_80 : decode cX7_findLives 80 = .ok (.getfield 47, 3) := by decide +kernel
theorem dX7_findLives_83 : decode cX7_findLives 83 = .ok (.iload_n 1, 1) := by decide +kernel
theorem dX7_findLives_84 : decode cX7_findLives 84 = .ok (.aload_n 0, 1) := by decide +kernel
theorem dX7_findLives_85 : decode cX7_findLives 85 = .ok (.getfield 44, 3) := by decide +kernel
theorem dX7_findLives_88 : decode cX7_findLives 88 = .ok (.iload_n 2, 1) := by decide +kernel
theorem dX7_findLives_89 : decode cX7_findLives 89 = .ok (.iconst 2, 1) := by decide +kernel
theorem dX7_findLives_90 : decode cX7_findLives 90 = .ok (.idiv, 1) := by decide +kernel
theorem dX7_findLives_91 : decode cX7_findLives 91 = .ok (.iaload, 1) := by decide +kernel
theorem dX7_findLives_92 : decode cX7_findLives 92 = .ok (.iastore, 1) := by decide +kernel
theorem dX7_findLives_93 : decode cX7_findLives 93 = .ok (.iinc 2 1, 3) := by decide +kernel
theorem dX7_findLives_96 : decode cX7_findLives 96 = .ok (.goto (-54), 3) := by decide +kernel
theorem dX7_findLives_99 : decode cX7_findLives 99 = .ok (.iinc 1 1, 3) := by decide +kernel
theorem dX7_findLives_102 : decode cX7_findLives 102 = .ok (.goto (-100), 3) := by decide +kernel
theorem dX7_findLives_105 : decode cX7_findLives 105 = .ok (.return_, 1) := by decide +kernel
theorem dX7_fits_0 : decode cX7_fits 0 = .ok (.iconst 1, 1) := by decide +kernel
theorem dX7_fits_1 : decode cX7_fits 1 = .ok (.istore_n 3, 1) := by decide +kernel
theorem dX7_fits_2 : decode cX7_fits 2 = .ok (.iconst 0, 1) := by decide +kernel
theorem dX7_fits_3 : decode cX7_fits 3 = .ok (.istore 4, 2) := by decide +kernel
theorem dX7_fits_5 : decode cX7_fits 5 = .ok (.iload 4, 2) := by decide +kernel
theorem dX7_fits_7 : decode cX7_fits 7 = .ok (.aload_n 0, 1) := by decide +kernel
theorem dX7_fits_8 : decode cX7_fits 8 = .ok (.getfield 75, 3) := by decide +kernel
theorem dX7_fits_11 : decode cX7_fits 11 = .ok (.if_icmp .ge 110, 3) := by decide +kernel
theorem dX7_fits_14 : decode cX7_fits 14 = .ok (.aload_n 0, 1) := by decide +kernel
theorem dX7_fits_15 : decode cX7_fits 15 = .ok (.getfield 50, 3) := by decide +kernel
theorem dX7_fits_18 : decode cX7_fits 18 = .ok (.iload 4, 2) := by decide +kernel
theorem dX7_fits_20 : decode cX7_fits 20 = .ok (.iaload, 1) := by decide +kernel
theorem dX7_fits_21 : decode cX7_fits 21 = .ok (.ifCond .lt 39, 3) := by decide +kernel
theorem dX7_fits_24 : decode cX7_fits 24 = .ok (.aload_n 0, 1) := by decide +kernel
theorem dX7_fits_25 : decode cX7_fits 25 = .ok (.getfield 44, 3) := by decide +kernel
theorem dX7_fits_28 : decode cX7_fits 28 = .ok (.iload 4, 2) := by decide +kernel
theorem dX7_fits_30 : decode cX7_fits 30 = .ok (.iaload, 1) := by decide +kernel
theorem dX7_fits_31 : decode cX7_fits 31 = .ok (.aload_n 0, 1) := by decide +kernel
theorem dX7_fits_32 : decode cX7_fits 32 = .ok (.getfield 47, 3) := by decide +kernel
theorem dX7_fits_35 : decode cX7_fits 35 = .ok (.iload_n 1, 1) := by decide +kernel
theorem dX7_fits_36 : decode cX7_fits 36 = .ok (.iaload, 1) := by decide +kernel
theorem dX7_fits_37 : decode cX7_fits 37 = .ok (.if_icmp .gt 23, 3) := by decide +kernel
theorem dX7_fits_40 : decode cX7_fits 40 = .ok (.aload_n 0, 1) := by decide +kernel
theorem dX7_fits_41 : decode cX7_fits 41 = .ok (.getfield 44, 3) := by decide +kernel
theorem dX7_fits_44 : decode cX7_fits 44 = .ok (.iload_n 1, 1) := by decide +kernel
theorem dX7_fits_45 : decode cX7_fits 45 = .ok (.iaload, 1) := by decide +kernel
theorem dX7_fits_46 : decode cX7_fits 46 = .ok (.aload_n 0, 1) := by decide +kernel
theorem dX7_fits_47 : decode cX7_fits 47 = .ok (.getfield 47, 3) := by decide +kernel
theorem dX7_fits_50 : decode cX7_fits 50 = .ok (.iload 4, 2) := by decide +kernel
theorem dX7_fits_52 : decode cX7_fits 52 = .ok (.iaload, 1) := by decide +kernel
theorem dX7_fits_53 : decode cX7_fits 53 = .ok (.if_icmp .gt 7, 3) := by decide +kernel
theorem dX7_fits_56 : decode cX7_fits 56 = .ok (.iconst 1, 1) := by decide +kernel
theorem dX7_fits_57 : decode cX7_fits 57 = .ok (.goto 4, 3) := by decide +kernel
theorem dX7_fits_60 : decode cX7_fits 60 = .ok (.iconst 0, 1) := by decide +kernel
theorem dX7_fits_61 : decode cX7_fits 61 = .ok (.istore 5, 2) := by decide +kernel
theorem dX7_fits_63 : decode cX7_fits 63 = .ok (.iload_n 3, 1) := by decide +kernel
theorem dX7_fits_64 : decode cX7_fits 64 = .ok (.ifCond .eq 49, 3) := by decide +kernel
theorem dX7_fits_67 : decode cX7_fits 67 = .ok (.iload 5, 2) := by decide +kernel
theorem dX7_fits_69 : decode cX7_fits 69 = .ok (.ifCond .eq 40, 3) := by decide +kernel
theorem dX7_fits_72 : decode cX7_fits 72 = .ok (.iload_n 2, 1) := by decide +kernel
theorem dX7_fits_73 : decode cX7_fits 73 = .ok (.aload_n 0, 1) := by decide +kernel
theorem dX7_fits_74 : decode cX7_fits 74 = .ok (.getfield 35, 3) := by decide +kernel
theorem dX7_fits_77 : decode cX7_fits 77 = .ok (.iload_n 1, 1) := by decide +kernel
theorem dX7_fits_78 : decode cX7_fits 78 = .ok (.iaload, 1) := by decide +kernel
theorem dX7_fits_79 : decode cX7_fits 79 = .ok (.iadd, 1) := by decide +kernel
theorem dX7_fits_80 : decode cX7_fits 80 = .ok (.aload_n 0, 1) := by decide +kernel
theorem dX7_fits_81 : decode cX7_fits 81 = .ok (.getfield 50, 3) := by decide +kernel
theorem dX7_fits_84 : decode cX7_fits 84 = .ok (.iload 4, 2) := by decide +kernel
theorem dX7_fits_86 : decode cX7_fits 86 = .ok (.iaload, 1) := by decide +kernel
theorem dX7_fits_87 : decode cX7_fits 87 = .ok (.if_icmp .le 22, 3) := by decide +kernel
theorem dX7_fits_90 : decode cX7_fits 90 = .ok (.aload_n 0, 1) := by decide +kernel
theorem dX7_fits_91 : decode cX7_fits 91 = .ok (.getfield 50, 3) := by decide +kernel
theorem dX7_fits_94 : decode cX7_fits 94 = .ok (.iload 4, 2) := by decide +kernel
theorem dX7_fits_96 : decode cX7_fits 96 = .ok (.iaload, 1) := by decide +kernel
theorem dX7_fits_97 : decode cX7_fits 97 = .ok (.aload_n 0, 1) := by decide +kernel
theorem dX7_fits_98 : decode cX7_fits 98 = .ok (.getfield 35, 3) := by decide +kernel
theorem dX7_fits_101 : decode cX7_fits 101 = .ok (.iload 4, 2) := by decide +kernel
theorem dX7_fits_103 : decode cX7_fits 103 = .ok (.iaload, 1) := by decide +kernel
theorem dX7_fits_104 : decode cX7_fits 104 = .ok (.iadd, 1) := by decide +kernel
theorem dX7_fits_105 : decode cX7_fits 105 = .ok (.iload_n 2, 1) := by decide +kernel
theorem dX7_fits_106 : decode cX7_fits 106 = .ok (.if_icmp .gt 7, 3) := by decide +kernel
theorem dX7_fits_109 : decode cX7_fits 109 = .ok (.iconst 1, 1) := by decide +kernel
theorem dX7_fits_110 : decode cX7_fits 110 = .ok (.goto 4, 3) := by decide +kernel
theorem dX7_fits_113 : decode cX7_fits 113 = .ok (.iconst 0, 1) := by decide +kernel
theorem dX7_fits_114 : decode cX7_fits 114 = .ok (.istore_n 3, 1) := by decide +kernel
theorem dX7_fits_115 : decode cX7_fits 115 = .ok (.iinc 4 1, 3) := by decide +kernel
theorem dX7_fits_118 : decode cX7_fits 118 = .ok (.goto (-113), 3) := by decide +kernel
theorem dX7_fits_121 : decode cX7_fits 121 = .ok (.iload_n 3, 1) := by decide +kernel
theorem dX7_fits_122 : decode cX7_fits 122 = .ok (.ireturn, 1) := by decide +kernel
set_option maxRecDepth 20000 in
theorem ggX7_findPlaces_X7_fits : GoodIn wsX7_findPlaces wsX7_fits := goodIn_ca (goodIn_r _ [10, 2, 3, 11, 12, 5, 13, 14, 15, 16, 17, 18, 19, 20, 21, 22, 23, 24, 25, 26, 27, 28, 29, 30, 31, 32, 33, 34, 35, 36, 37, 38, 39, 40, 41, 42] (by decide +kernel) (by decide +kernel)) (goodIn_sub (fun _ h => List.mem_cons_of_mem _ (List.mem_append_right _ h)) (by decide +kernel))
set_option maxRecDepth 20000 in
theorem gX7_findPlaces_X7_fits : GoodIn wsX7_findPlaces (wsV RX7 146 RX7 yX7_fits wsX7_fits) := goodIn_app (goodIn_of _ (by decide +kernel)) ggX7_findPlaces_X7_fits
theorem dX7_findPlaces_0 : decode cX7_findPlaces 0 = .ok (.aload_n 0, 1) := by decide +kernel
theorem dX7_findPlaces_1 : decode cX7_findPlaces 1 = .ok (.iconst 0, 1) := by decide +kernel
theorem dX7_findPlaces_2 : decode cX7_findPlaces 2 = .ok (.putfield 143, 3) := by decide +kernel
theorem dX7_findPlaces_5 : decode cX7_findPlaces 5 = .ok (.iconst 0, 1) := by decide +kernel
theorem dX7_findPlaces_6 : decode cX7_findPlaces 6 = .ok (.istore_n 1, 1) := by decide +kernel
theorem dX7_findPlaces_7 : decode cX7_findPlaces 7 = .ok (.iload_n 1, 1) := by decide +kernel
theorem dX7_findPlaces_8 : decode cX7_findPlaces 8 = .ok (.aload_n 0, 1) := by decide +kernel
theorem dX7_findPlaces_9 : decode cX7_findPlaces 9 = .ok (.getfield 75, 3) := by decide +kernel
theorem dX7_findPlaces_12 : decode cX7_findPlaces 12 = .ok (.if_icmp .ge 16, 3) := by decide +kernel
theorem dX7_findPlaces_15 : decode cX7_findPlaces 15 = .ok (.aload_n 0, 1) := by decide +kernel
theorem dX7_findPlaces_16 : decode cX7_findPlaces 16 = .ok (.getfield 50, 3) := by decide +kernel
theorem dX7_findPlaces_19 : decode cX7_findPlaces 19 = .ok (.iload_n 1, 1) := by decide +kernel
theorem dX7_findPlaces_20 : decode cX7_findPlaces 20 = .ok (.iconst (-1), 1) := by decide +kernel
theorem dX7_findPlaces_21 : decode cX7_findPlaces 21 = .ok (.iastore, 1) := by decide +kernel
theorem dX7_findPlaces_22 : decode cX7_findPlaces 22 = .ok (.iinc 1 1, 3) := by decide +kernel
theorem dX7_findPlaces_25 : decode cX7_findPlaces 25 = .ok (.goto (-18), 3) := by decide +kernel
theorem dX7_findPlaces_28 : decode cX7_findPlaces 28 = .ok (.bipush 40, 2) := by decide +kernel
theorem dX7_findPlaces_30 : decode cX7_findPlaces 30 = .ok (.istore_n 1, 1) := by decide +kernel
theorem dX7_findPlaces_31 : decode cX7_findPlaces 31 = .ok (.iload_n 1, 1) := by decide +kernel
theorem dX7_findPlaces_32 : decode cX7_findPlaces 32 = .ok (.ifCond .le 95, 3) := by decide +kernel
theorem dX7_findPlaces_35 : decode cX7_findPlaces 35 = .ok (.iconst 0, 1) := by decide +kernel
theorem dX7_findPlaces_36 : decode cX7_findPlaces 36 = .ok (.istore_n 2, 1) := by decide +kernel
theorem dX7_findPlaces_37 : decode cX7_findPlaces 37 = .ok (.iload_n 2, 1) := by decide +kernel
theorem dX7_findPlaces_38 : decode cX7_findPlaces 38 = .ok (.aload_n 0, 1) := by decide +kernel
theorem dX7_findPlaces_39 : decode cX7_findPlaces 39 = .ok (.getfield 75, 3) := by decide +kernel
theorem dX7_findPlaces_42 : decode cX7_findPlaces 42 = .ok (.if_icmp .ge 79, 3) := by decide +kernel
theorem dX7_findPlaces_45 : decode cX7_findPlaces 45 = .ok (.aload_n 0, 1) := by decide +kernel
theorem dX7_findPlaces_46 : decode cX7_findPlaces 46 = .ok (.getfield 41, 3) := by decide +kernel
theorem dX7_findPlaces_49 : decode cX7_findPlaces 49 = .ok (.iload_n 2, 1) := by decide +kernel
theorem dX7_findPlaces_50 : decode cX7_findPlaces 50 = .ok (.iaload, 1) := by decide +kernel
theorem dX7_findPlaces_51 : decode cX7_findPlaces 51 = .ok (.istore_n 3, 1) := by decide +kernel
theorem dX7_findPlaces_52 : decode cX7_findPlaces 52 = .ok (.aload_n 0, 1) := by decide +kernel
theorem dX7_findPlaces_53 : decode cX7_findPlaces 53 = .ok (.getfield 35, 3) := by decide +kernel
theorem dX7_findPlaces_56 : decode cX7_findPlaces 56 = .ok (.iload_n 3, 1) := by decide +kernel
theorem dX7_findPlaces_57 : decode cX7_findPlaces 57 = .ok (.iaload, 1) := by decide +kernel
theorem dX7_findPlaces_58 : decode cX7_findPlaces 58 = .ok (.iload_n 1, 1) := by decide +kernel
theorem dX7_findPlaces_59 : decode cX7_findPlaces 59 = .ok (.if_icmp .ne 56, 3) := by decide +kernel
theorem dX7_findPlaces_62 : decode cX7_findPlaces 62 = .ok (.iconst 0, 1) := by decide +kernel
theorem dX7_findPlaces_63 : decode cX7_findPlaces 63 = .ok (.istore 4, 2) := by decide +kernel
theorem dX7_findPlaces_65 : decode cX7_findPlaces 65 = .ok (.aload_n 0, 1) := by decide +kernel
theorem dX7_findPlaces_66 : decode cX7_findPlaces 66 = .ok (.iload_n 3, 1) := by decide +kernel
theorem dX7_findPlaces_67 : decode cX7_findPlaces 67 = .ok (.iload 4, 2) := by decide +kernel
theorem dX7_findPlaces_69 : decode cX7_findPlaces 69 = .ok (.invokevirtual 146, 3) := by decide +kernel
theorem dX7_findPlaces_72 : decode cX7_findPlaces 72 = .ok (.ifCond .ne 9, 3) := by decide +kernel
theorem dX7_findPlaces_75 : decode cX7_findPlaces 75 = .ok (.iinc 4 1, 3) := by decide +kernel
theorem dX7_findPlaces_78 : decode cX7_findPlaces 78 = .ok (.goto (-13), 3) := by decide +kernel
theorem dX7_findPlaces_81 : decode cX7_findPlaces 81 = .ok (.aload_n 0, 1) := by decide +kernel
theorem dX7_findPlaces_82 : decode cX7_findPlaces 82 = .ok (.getfield 50, 3) := by decide +kernel
theorem dX7_findPlaces_85 : decode cX7_findPlaces 85 = .ok (.iload_n 3, 1) := by decide +kernel
theorem dX7_findPlaces_86 : decode cX7_findPlaces 86 = .ok (.iload 4, 2) := by decide +kernel
theorem dX7_findPlaces_88 : decode cX7_findPlaces 88 = .ok (.iastore, 1) := by decide +kernel
theorem dX7_findPlaces_89 : decode cX7_findPlaces 89 = .ok (.aload_n 0, 1) := by decide +kernel
theorem dX7_findPlaces_90 : decode cX7_findPlaces 90 = .ok (.iload 4, 2) := by decide +kernel
theorem dX7_findPlaces_92 : decode cX7_findPlaces 92 = .ok (.iload_n 1, 1) := by decide +kernel
theorem dX7_findPlaces_93 : decode cX7_findPlaces 93 = .ok (.iadd, 1) := by decide +kernel
theorem dX7_findPlaces_94 : decode cX7_findPlaces 94 = .ok (.aload_n 0, 1) := by decide +kernel
theorem dX7_findPlaces_95 : decode cX7_findPlaces 95 = .ok (.getfield 143, 3) := by decide +kernel
theorem dX7_findPlaces_98 : decode cX7_findPlaces 98 = .ok (.if_icmp .le 10, 3) := by decide +kernel
theorem dX7_findPlaces_101 : decode cX7_findPlaces 101 = .ok (.iload 4, 2) := by decide +kernel
theorem dX7_findPlaces_103 : decode cX7_findPlaces 103 = .ok (.iload_n 1, 1) := by decide +kernel
theorem dX7_findPlaces_104 : decode cX7_findPlaces 104 = .ok (.iadd, 1) := by decide +kernel
theorem dX7_findPlaces_105 : decode cX7_findPlaces 105 = .ok (.goto 7, 3) := by decide +kernel
theorem dX7_findPlaces_108 : decode cX7_findPlaces 108 = .ok (.aload_n 0, 1) := by decide +kernel
theorem dX7_findPlaces_109 : decode cX7_findPlaces 109 = .ok (.getfield 143, 3) := by decide +kernel
theorem dX7_findPlaces_112 : decode cX7_findPlaces 112 = .ok (.putfield 143, 3) := by decide +kernel
theorem dX7_findPlaces_115 : decode cX7_findPlaces 115 = .ok (.iinc 2 1, 3) := by decide +kernel
theorem dX7_findPlaces_118 : decode cX7_findPlaces 118 = .ok (.goto (-81), 3) := by decide +kernel
theorem dX7_findPlaces_121 : decode cX7_findPlaces 121 = .ok (.iinc 1 (-1), 3) := by decide +kernel
theorem dX7_findPlaces_124 : decode cX7_findPlaces 124 = .ok (.goto (-93), 3) := by decide +kernel
theorem dX7_findPlaces_127 : decode cX7_findPlaces 127 = .ok (.return_, 1) := by decide +kernel
set_option maxRecDepth 20000 in
theorem ggX7_plan_X7_fail : GoodIn wsX7_plan wsX7_fail := goodIn_r _ [18, 1, 115, 116, 117, 118, 119, 120, 121, 122, 123, 124, 125, 126, 127, 128, 129, 130, 131, 132, 133, 134, 135, 136, 137, 138, 139, 140, 141, 142, 143, 144] (by decide +kernel) (by decide +kernel)
set_option maxRecDepth 20000 in
theorem gX7_plan_X7_fail : GoodIn wsX7_plan (wsV RX7 82 RX7 yX7_fail wsX7_fail) := goodIn_app (goodIn_of _ (by decide +kernel)) ggX7_plan_X7_fail
set_option maxRecDepth 20000 in
theorem ggX7_plan_X7_isWired : GoodIn wsX7_plan wsX7_isWired := goodIn_ca (goodIn_r _ [22, 5, 23, 24, 25, 26, 17, 27, 115, 116, 117, 118, 119, 120, 121, 122, 123, 124, 125, 126, 127, 128, 129, 130, 131, 132, 133, 134, 135, 136, 137, 138, 139, 140, 141, 142, 143, 144] (by decide +kernel) (by decide +kernel)) (goodIn_sub (fun _ h => List.mem_cons_of_mem _ (List.mem_append_right _ h)) (by decide +kernel))
set_option maxRecDepth 20000 in
theorem gX7_plan_X7_isWired : GoodIn wsX7_plan (wsV RX7 150 RX7 yX7_isWired wsX7_isWired) := goodIn_app (goodIn_of _ (by decide +kernel)) ggX7_plan_X7_isWired
set_option maxRecDepth 20000 in
theorem ggX7_plan_X7_findRing : GoodIn wsX7_plan wsX7_findRing := goodIn_ca (goodIn_r _ [31, 2, 5, 32, 33, 34, 35, 17, 36, 37, 24, 38, 39, 40, 41, 42, 43, 44, 45, 115, 116, 117, 118, 119, 120, 121, 122, 123, 124, 125, 126, 127, 128, 129, 130, 131, 132, 133, 134, 135, 136, 137, 138, 139, 140, 141, 142, 143, 144] (by decide +kernel) (by decide +kernel)) (goodIn_sub (fun _ h => List.mem_cons_of_mem _ (List.mem_append_right _ h)) (by decide +kernel))
set_option maxRecDepth 20000 in
theorem gX7_plan_X7_findRing : GoodIn wsX7_plan (wsV RX7 110 RX7 yX7_findRing wsX7_findRing) := goodIn_app (goodIn_of _ (by decide +kernel)) ggX7_plan_X7_findRing
set_option maxRecDepth 20000 in
theorem ggX7_plan_X7_findSizes : GoodIn wsX7_plan wsX7_findSizes := goodIn_ca (goodIn_r _ [49, 5, 50, 7, 51, 52, 53, 17, 54, 23, 24, 25, 26, 27, 55, 56, 57, 58, 59, 60, 115, 116, 117, 118, 119, 120, 121, 122, 123, 124, 125, 126, 127, 128, 129, 130, 131, 132, 133, 134, 135, 136, 137, 138, 139, 140, 141, 142, 143, 144] (by decide +kernel) (by decide +kernel)) (goodIn_sub (fun _ h => List.mem_cons_of_mem _ (List.mem_append_right _ h)) (by decide +kernel))
set_option maxRecDepth 20000 in
theorem gX7_plan_X7_findSizes : GoodIn wsX7_plan (wsV RX7 154 RX7 yX7_findSizes wsX7_findSizes) := goodIn_app (goodIn_of _ (by decide +kernel)) ggX7_plan_X7_findSizes
set_option maxRecDepth 20000 in
theorem ggX7_plan_X7_orderByNumbers : GoodIn wsX7_plan wsX7_orderByNumbers := goodIn_ca (goodIn_r _ [64, 4, 5, 65, 66, 67, 17, 68, 8, 69, 70, 71, 72, 23, 24, 25, 26, 27, 73, 74, 75, 76, 9, 115, 116, 117, 118, 119, 120, 121, 122, 123, 124, 125, 126, 127, 128, 129, 130, 131, 132, 133, 134, 135, 136, 137, 138, 139, 140, 141, 142, 143, 144] (by decide +kernel) (by decide +kernel)) (goodIn_sub (fun _ h => List.mem_cons_of_mem _ (List.mem_append_right _ h)) (by decide +kernel))
set_option maxRecDepth 20000 in
theorem gX7_plan_X7_orderByNumbers : GoodIn wsX7_plan (wsV RX7 160 RX7 yX7_orderByNumbers wsX7_orderByNumbers) := goodIn_app (goodIn_of _ (by decide +kernel)) ggX7_plan_X7_orderByNumbers
set_option maxRecDepth 20000 in
theorem ggX7_plan_X7_labelOf : GoodIn wsX7_plan wsX7_labelOf := goodIn_ca (goodIn_r _ [80, 23, 81, 24, 25, 26, 17, 27, 115, 116, 117, 118, 119, 120, 121, 122, 123, 124, 125, 126, 127, 128, 129, 130, 131, 132, 133, 134, 135, 136, 137, 138, 139, 140, 141, 142, 143, 144] (by decide +kernel) (by decide +kernel)) (goodIn_sub (fun _ h => List.mem_cons_of_mem _ (List.mem_append_right _ h)) (by decide +kernel))
set_option maxRecDepth 20000 in
theorem gX7_plan_X7_labelOf : GoodIn wsX7_plan (wsV RX7 163 RX7 yX7_labelOf wsX7_labelOf) := goodIn_app (goodIn_of _ (by decide +kernel)) ggX7_plan_X7_labelOf
set_option maxRecDepth 20000 in
theorem ggX7_plan_X7_orderByLabels : GoodIn wsX7_plan wsX7_orderByLabels := goodIn_ca (goodIn_r _ [85, 5, 86, 87, 88, 17, 89, 24, 90, 91, 92, 93, 94, 95, 65, 66, 67, 68, 8, 69, 70, 71, 72, 23, 25, 26, 27, 73, 74, 75, 76, 4, 9, 96, 97, 98, 99, 81, 115, 116, 117, 118, 119, 120, 121, 122, 123, 124, 125, 126, 127, 128, 129, 130, 131, 132, 133, 134, 135, 136, 137, 138, 139, 140, 141, 142, 143, 144] (by decide +kernel) (by decide +kernel)) (goodIn_sub (fun _ h => List.mem_cons_of_mem _ (List.mem_append_right _ h)) (by decide +kernel))
set_option maxRecDepth 20000 in
theorem gX7_plan_X7_orderByLabels : GoodIn wsX7_plan (wsV RX7 166 RX7 yX7_orderByLabels wsX7_orderByLabels) := goodIn_app (goodIn_of _ (by decide +kernel)) ggX7_plan_X7_orderByLabels
set_option maxRecDepth 20000 in
theorem ggX7_plan_X7_findLives : GoodIn wsX7_plan wsX7_findLives := goodIn_ca (goodIn_r _ [103, 5, 104, 105, 8, 24, 115, 116, 117, 118, 119, 120, 121, 122, 123, 124, 125, 126, 127, 128, 129, 130, 131, 132, 133, 134, 135, 136, 137, 138, 139, 140, 141, 142, 143, 144] (by decide +kernel) (by decide +kernel)) (goodIn_sub (fun _ h => List.mem_cons_of_mem _ (List.mem_append_right _ h)) (by decide +kernel))
set_option maxRecDepth 20000 in
theorem gX7_plan_X7_findLives : GoodIn wsX7_plan (wsV RX7 169 RX7 yX7_findLives wsX7_findLives) := goodIn_app (goodIn_of _ (by decide +kernel)) ggX7_plan_X7_findLives
set_option maxRecDepth 20000 in
theorem ggX7_plan_X7_findPlaces : GoodIn wsX7_plan wsX7_findPlaces := goodIn_ca (goodIn_r _ [109, 13, 5, 110, 9, 6, 111, 112, 113, 17, 114, 8, 104, 115, 116, 117, 118, 119, 120, 121, 122, 123, 124, 125, 126, 127, 128, 129, 130, 131, 132, 133, 134, 135, 136, 137, 138, 139, 140, 141, 142, 143, 144] (by decide +kernel) (by decide +kernel)) (goodIn_sub (fun _ h => List.mem_cons_of_mem _ (List.mem_append_right _ h)) (by decide +kernel))
set_option maxRecDepth 20000 in
theorem gX7_plan_X7_findPlaces : GoodIn wsX7_plan (wsV RX7 172 RX7 yX7_findPlaces wsX7_findPlaces) := goodIn_app (goodIn_of _ (by decide +kernel)) ggX7_plan_X7_findPlaces
theorem dX7_plan_0 : decode cX7_plan 0 = .ok (.aload_n 0, 1) := by decide +kernel
theorem dX7_plan_1 : decode cX7_plan 1 = .ok (.iconst 0, 1) := by decide +kernel
theorem dX7_plan_2 : decode cX7_plan 2 = .ok (.putfield 71, 3) := by decide +kernel
theorem dX7_plan_5 : decode cX7_plan 5 = .ok (.iload_n 1, 1) := by decide +kernel
theorem dX7_plan_6 : decode cX7_plan 6 = .ok (.ifCond .eq 14, 3) := by decide +kernel
theorem dX7_plan_9 : decode cX7_plan 9 = .ok (.iload_n 1, 1) := by decide +kernel
theorem dX7_plan_10 : decode cX7_plan 10 = .ok (.iconst 1, 1) := by decide +kernel
theorem dX7_plan_11 : decode cX7_plan 11 = .ok (.if_icmp .eq 9, 3) := by decide +kernel
theorem dX7_plan_14 : decode cX7_plan 14 = .ok (.aload_n 0, 1) := by decide +kernel
theorem dX7_plan_15 : decode cX7_plan 15 = .ok (.iconst 1, 1) := by decide +kernel
theorem dX7_plan_16 : decode cX7_plan 16 = .ok (.invokevirtual 82, 3) := by decide +kernel
theorem dX7_plan_19 : decode cX7_plan 19 = .ok (.ireturn, 1) := by decide +kernel
theorem dX7_plan_20 : decode cX7_plan 20 = .ok (.aload_n 0, 1) := by decide +kernel
theorem dX7_plan_21 : decode cX7_plan 21 = .ok (.invokevirtual 150, 3) := by decide +kernel
theorem dX7_plan_24 : decode cX7_plan 24 = .ok (.ifCond .ne 9, 3) := by decide +kernel
theorem dX7_plan_27 : decode cX7_plan 27 = .ok (.aload_n 0, 1) := by decide +kernel
theorem dX7_plan_28 : decode cX7_plan 28 = .ok (.iconst 2, 1) := by decide +kernel
theorem dX7_plan_29 : decode cX7_plan 29 = .ok (.invokevirtual 82, 3) := by decide +kernel
theorem dX7_plan_32 : decode cX7_plan 32 = .ok (.ireturn, 1) := by decide +kernel
theorem dX7_plan_33 : decode cX7_plan 33 = .ok (.aload_n 0, 1) := by decide +kernel
theorem dX7_plan_34 : decode cX7_plan 34 = .ok (.invokevirtual 110, 3) := by decide +kernel
theorem dX7_plan_37 : decode cX7_plan 37 = .ok (.aload_n 0, 1) := by decide +kernel
theorem dX7_plan_38 : decode cX7_plan 38 = .ok (.getfield 100, 3) := by decide +kernel
theorem dX7_plan_41 : decode cX7_plan 41 = .ok (.ifCond .le 9, 3) := by decide +kernel
theorem dX7_plan_44 : decode cX7_plan 44 = .ok (.aload_n 0, 1) := by decide +kernel
theorem dX7_plan_45 : decode cX7_plan 45 = .ok (.iconst 3, 1) := by decide +kernel
theorem dX7_plan_46 : decode cX7_plan 46 = .ok (.invokevirtual 82, 3) := by decide +kernel
theorem dX7_plan_49 : decode cX7_plan 49 = .ok (.ireturn, 1) := by decide +kernel
theorem dX7_plan_50 : decode cX7_plan 50 = .ok (.aload_n 0, 1) := by decide +kernel
theorem dX7_plan_51 : decode cX7_plan 51 = .ok (.invokevirtual 154, 3) := by decide +kernel
theorem dX7_plan_54 : decode cX7_plan 54 = .ok (.ifCond .ne 9, 3) := by decide +kernel
theorem dX7_plan_57 : decode cX7_plan 57 = .ok (.aload_n 0, 1) := by decide +kernel
theorem dX7_plan_58 : decode cX7_plan 58 = .ok (.iconst 4, 1) := by decide +kernel
theorem dX7_plan_59 : decode cX7_plan 59 = .ok (.invokevirtual 82, 3) := by decide +kernel
theorem dX7_plan_62 : decode cX7_plan 62 = .ok (.ireturn, 1) := by decide +kernel
theorem dX7_plan_63 : decode cX7_plan 63 = .ok (.aload_n 0, 1) := by decide +kernel
theorem dX7_plan_64 : decode cX7_plan 64 = .ok (.iload_n 1, 1) := by decide +kernel
theorem dX7_plan_65 : decode cX7_plan 65 = .ok (.putfield 157, 3) := by decide +kernel
theorem dX7_plan_68 : decode cX7_plan 68 = .ok (.aload_n 0, 1) := by decide +kernel
theorem dX7_plan_69 : decode cX7_plan 69 = .ok (.iconst 0, 1) := by decide +kernel
theorem dX7_plan_70 : decode cX7_plan 70 = .ok (.putfield 119, 3) := by decide +kernel
theorem dX7_plan_73 : decode cX7_plan 73 = .ok (.iconst 0, 1) := by decide +kernel
theorem dX7_plan_74 : decode cX7_plan 74 = .ok (.istore_n 2, 1) := by decide +kernel
theorem dX7_plan_75 : decode cX7_plan 75 = .ok (.iload_n 2, 1) := by decide +kernel
theorem dX7_plan_76 : decode cX7_plan 76 = .ok (.aload_n 0, 1) := by decide +kernel
theorem dX7_plan_77 : decode cX7_plan 77 = .ok (.getfield 75, 3) := by decide +kernel
theorem dX7_plan_80 : decode cX7_plan 80 = .ok (.if_icmp .ge 28, 3) := by decide +kernel
theorem dX7_plan_83 : decode cX7_plan 83 = .ok (.aload_n 0, 1) := by decide +kernel
theorem dX7_plan_84 : decode cX7_plan 84 = .ok (.getfield 35, 3) := by decide +kernel
theorem dX7_plan_87 : decode cX7_plan 87 = .ok (.iload_n 2, 1) := by decide +kernel
theorem dX7_plan_88 : decode cX7_plan 88 = .ok (.aload_n 0, 1) := by decide +kernel
theorem dX7_plan_89 : decode cX7_plan 89 = .ok (.getfield 53, 3) := by decide +kernel
theorem dX7_plan_92 : decode cX7_plan 92 = .ok (.iload_n 2, 1) := by decide +kernel
theorem dX7_plan_93 : decode cX7_plan 93 = .ok (.iaload, 1) := by decide +kernel
theorem dX7_plan_94 : decode cX7_plan 94 = .ok (.iastore, 1) := by decide +kernel
theorem dX7_plan_95 : decode cX7_plan 95 = .ok (.aload_n 0, 1) := by decide +kernel
theorem dX7_plan_96 : decode cX7_plan 96 = .ok (.getfield 44, 3) := by decide +kernel
theorem dX7_plan_99 : decode cX7_plan 99 = .ok (.iload_n 2, 1) := by decide +kernel
theorem dX7_plan_100 : decode cX7_plan 100 = .ok (.iconst (-1), 1) := by decide +kernel
theorem dX7_plan_101 : decode cX7_plan 101 = .ok (.iastore, 1) := by decide +kernel
theorem dX7_plan_102 : decode cX7_plan 102 = .ok (.iinc 2 1, 3) := by decide +kernel
theorem dX7_plan_105 : decode cX7_plan 105 = .ok (.goto (-30), 3) := by decide +kernel
theorem dX7_plan_108 : decode cX7_plan 108 = .ok (.aload_n 0, 1) := by decide +kernel
theorem dX7_plan_109 : decode cX7_plan 109 = .ok (.invokevirtual 160, 3) := by decide +kernel
theorem dX7_plan_112 : decode cX7_plan 112 = .ok (.iconst 0, 1) := by decide +kernel
theorem dX7_plan_113 : decode cX7_plan 113 = .ok (.istore_n 2, 1) := by decide +kernel
theorem dX7_plan_114 : decode cX7_plan 114 = .ok (.iload_n 2, 1) := by decide +kernel
theorem dX7_plan_115 : decode cX7_plan 115 = .ok (.aload_n 0, 1) := by decide +kernel
theorem dX7_plan_116 : decode cX7_plan 116 = .ok (.getfield 75, 3) := by decide +kernel
theorem dX7_plan_119 : decode cX7_plan 119 = .ok (.if_icmp .ge 19, 3) := by decide +kernel
theorem dX7_plan_122 : decode cX7_plan 122 = .ok (.aload_n 0, 1) := by decide +kernel
theorem dX7_plan_123 : decode cX7_plan 123 = .ok (.aload_n 0, 1) := by decide +kernel
theorem dX7_plan_124 : decode cX7_plan 124 = .ok (.getfield 41, 3) := by decide +kernel
theorem dX7_plan_127 : decode cX7_plan 127 = .ok (.iload_n 2, 1) := by decide +kernel
theorem dX7_plan_128 : decode cX7_plan 128 = .ok (.iaload, 1) := by decide +kernel
theorem dX7_plan_129 : decode cX7_plan 129 = .ok (.invokevirtual 163, 3) := by decide +kernel
theorem dX7_plan_132 : decode cX7_plan 132 = .ok (.iinc 2 1, 3) := by decide +kernel
theorem dX7_plan_135 : decode cX7_plan 135 = .ok (.goto (-21), 3) := by decide +kernel
theorem dX7_plan_138 : decode cX7_plan 138 = .ok (.aload_n 0, 1) := by decide +kernel
theorem dX7_plan_139 : decode cX7_plan 139 = .ok (.getfield 157, 3) := by decide +kernel
theorem dX7_plan_142 : decode cX7_plan 142 = .ok (.iconst 1, 1) := by decide +kernel
theorem dX7_plan_143 : decode cX7_plan 143 = .ok (.if_icmp .ne 35, 3) := by decide +kernel
theorem dX7_plan_146 : decode cX7_plan 146 = .ok (.aload_n 0, 1) := by decide +kernel
theorem dX7_plan_147 : decode cX7_plan 147 = .ok (.iconst 0, 1) := by decide +kernel
theorem dX7_plan_148 : decode cX7_plan 148 = .ok (.putfield 119, 3) := by decide +kernel
theorem dX7_plan_151 : decode cX7_plan 151 = .ok (.iconst 0, 1) := by decide +kernel
theorem dX7_plan_152 : decode cX7_plan 152 = .ok (.istore_n 2, 1) := by decide +kernel
theorem dX7_plan_153 : decode cX7_plan 153 = .ok (.iload_n 2, 1) := by decide +kernel
theorem dX7_plan_154 : decode cX7_plan 154 = .ok (.aload_n 0, 1) := by decide +kernel
theorem dX7_plan_155 : decode cX7_plan 155 = .ok (.getfield 75, 3) := by decide +kernel
theorem dX7_plan_158 : decode cX7_plan 158 = .ok (.if_icmp .ge 16, 3) := by decide +kernel
theorem dX7_plan_161 : decode cX7_plan 161 = .ok (.aload_n 0, 1) := by decide +kernel
theorem dX7_plan_162 : decode cX7_plan 162 = .ok (.getfield 44, 3) := by decide +kernel
theorem dX7_plan_165 : decode cX7_plan 165 = .ok (.iload_n 2, 1) := by decide +kernel
theorem dX7_plan_166 : decode cX7_plan 166 = .ok (.iconst (-1), 1) := by decide +kernel
theorem dX7_plan_167 : decode cX7_plan 167 = .ok (.iastore, 1) := by decide +kernel
theorem dX7_plan_168 : decode cX7_plan 168 = .ok (.iinc 2 1, 3) := by decide +kernel
theorem dX7_plan_171 : decode cX7_plan 171 = .ok (.goto (-18), 3) := by decide +kernel
theorem dX7_plan_174 : decode cX7_plan 174 = .ok (.aload_n 0, 1) := by decide +kernel
theorem dX7_plan_175 : decode cX7_plan 175 = .ok (.invokevirtual 166, 3) := by decide +kernel
theorem dX7_plan_178 : decode cX7_plan 178 = .ok (.aload_n 0, 1) := by decide +kernel
theorem dX7_plan_179 : decode cX7_plan 179 = .ok (.invokevirtual 169, 3) := by decide +kernel
theorem dX7_plan_182 : decode cX7_plan 182 = .ok (.aload_n 0, 1) := by decide +kernel
theorem dX7_plan_183 : decode cX7_plan 183 = .ok (.invokevirtual 172, 3) := by decide +kernel
theorem dX7_plan_186 : decode cX7_plan 186 = .ok (.aload_n 0, 1) := by decide +kernel
theorem dX7_plan_187 : decode cX7_plan 187 = .ok (.iconst 1, 1) := by decide +kernel
theorem dX7_plan_188 : decode cX7_plan 188 = .ok (.putfield 86, 3) := by decide +kernel
theorem dX7_plan_191 : decode cX7_plan 191 = .ok (.aload_n 0, 1) := by decide +kernel
theorem dX7_plan_192 : decode cX7_plan 192 = .ok (.iconst 0, 1) := by decide +kernel
theorem dX7_plan_193 : decode cX7_plan 193 = .ok (.putfield 175, 3) := by decide +kernel
theorem dX7_plan_196 : decode cX7_plan 196 = .ok (.aload_n 0, 1) := by decide +kernel
theorem dX7_plan_197 : decode cX7_plan 197 = .ok (.iconst (-1), 1) := by decide +kernel
theorem dX7_plan_198 : decode cX7_plan 198 = .ok (.putfield 178, 3) := by decide +kernel
theorem dX7_plan_201 : decode cX7_plan 201 = .ok (.aload_n 0, 1) := by decide +kernel
theorem dX7_plan_202 : decode cX7_plan 202 = .ok (.getfield 143, 3) := by decide +kernel
theorem dX7_plan_205 : decode cX7_plan 205 = .ok (.ireturn, 1) := by decide +kernel
theorem dX7_order_0 : decode cX7_order 0 = .ok (.aload_n 0, 1) := by decide +kernel
theorem dX7_order_1 : decode cX7_order 1 = .ok (.aload_n 0, 1) := by decide +kernel
theorem dX7_order_2 : decode cX7_order 2 = .ok (.getfield 86, 3) := by decide +kernel
theorem dX7_order_5 : decode cX7_order 5 = .ok (.ifCond .ne 7, 3) := by decide +kernel
theorem dX7_order_8 : decode cX7_order 8 = .ok (.iconst 1, 1) := by decide +kernel
theorem dX7_order_9 : decode cX7_order 9 = .ok (.goto 20, 3) := by decide +kernel
theorem dX7_order_12 : decode cX7_order 12 = .ok (.iload_n 1, 1) := by decide +kernel
theorem dX7_order_13 : decode cX7_order 13 = .ok (.ifCond .lt 11, 3) := by decide +kernel
theorem dX7_order_16 : decode cX7_order 16 = .ok (.iload_n 1, 1) := by decide +kernel
theorem dX7_order_17 : decode cX7_order 17 = .ok (.aload_n 0, 1) := by decide +kernel
theorem dX7_order_18 : decode cX7_order 18 = .ok (.getfield 75, 3) := by decide +kernel
theorem dX7_order_21 : decode cX7_order 21 = .ok (.if_icmp .lt 7, 3) := by decide +kernel
theorem dX7_order_24 : decode cX7_order 24 = .ok (.iconst 2, 1) := by decide +kernel
theorem dX7_order_25 : decode cX7_order 25 = .ok (.goto 4, 3) := by decide +kernel
theorem dX7_order_28 : decode cX7_order 28 = .ok (.iconst 0, 1) := by decide +kernel
theorem dX7_order_29 : decode cX7_order 29 = .ok (.putfield 71, 3) := by decide +kernel
theorem dX7_order_32 : decode cX7_order 32 = .ok (.aload_n 0, 1) := by decide +kernel
theorem dX7_order_33 : decode cX7_order 33 = .ok (.getfield 71, 3) := by decide +kernel
theorem dX7_order_36 : decode cX7_order 36 = .ok (.ifCond .ne 12, 3) := by decide +kernel
theorem dX7_order_39 : decode cX7_order 39 = .ok (.aload_n 0, 1) := by decide +kernel
theorem dX7_order_40 : decode cX7_order 40 = .ok (.getfield 41, 3) := by decide +kernel
theorem dX7_order_43 : decode cX7_order 43 = .ok (.iload_n 1, 1) := by decide +kernel
theorem dX7_order_44 : decode cX7_order 44 = .ok (.iaload, 1) := by decide +kernel
theorem dX7_order_45 : decode cX7_order 45 = .ok (.goto 4, 3) := by decide +kernel
theorem dX7_order_48 : decode cX7_order 48 = .ok (.iconst 0, 1) := by decide +kernel
theorem dX7_order_49 : decode cX7_order 49 = .ok (.ireturn, 1) := by decide +kernel
set_option maxRecDepth 20000 in
theorem ggX7_about_X7_isNode : GoodIn wsX7_about wsX7_isNode := goodIn_r _ [12, 13, 14, 15, 16, 17, 18, 19, 20, 21, 22, 23, 24, 25, 26, 27, 28, 29, 30, 31, 32, 33, 34, 35, 36, 37, 38, 39, 40, 41, 42, 43] (by decide +kernel) (by decide +kernel)
set_option maxRecDepth 20000 in
theorem gX7_about_X7_isNode : GoodIn wsX7_about (wsV RX7 90 RX7 yX7_isNode wsX7_isNode) := goodIn_app (goodIn_of _ (by decide +kernel)) ggX7_about_X7_isNode
theorem dX7_about_0 : decode cX7_about 0 = .ok (.aload_n 0, 1) := by decide +kernel
theorem dX7_about_1 : decode cX7_about 1 = .ok (.aload_n 0, 1) := by decide +kernel
theorem dX7_about_2 : decode cX7_about 2 = .ok (.getfield 86, 3) := by decide +kernel
theorem dX7_about_5 : decode cX7_about 5 = .ok (.ifCond .ne 7, 3) := by decide +kernel
theorem dX7_about_8 : decode cX7_about 8 = .ok (.iconst 1, 1) := by decide +kernel
theorem dX7_about_9 : decode cX7_about 9 = .ok (.goto 25, 3) := by decide +kernel
theorem dX7_about_12 : decode cX7_about 12 = .ok (.aload_n 0, 1) := by decide +kernel
theorem dX7_about_13 : decode cX7_about 13 = .ok (.iload_n 1, 1) := by decide +kernel
theorem dX7_about_14 : decode cX7_about 14 = .ok (.invokevirtual 90, 3) := by decide +kernel
theorem dX7_about_17 : decode cX7_about 17 = .ok (.ifCond .eq 12, 3) := by decide +kernel
theorem dX7_about_20 : decode cX7_about 20 = .ok (.iload_n 2, 1) := by decide +kernel
theorem dX7_about_21 : decode cX7_about 21 = .ok (.ifCond .lt 8, 3) := by decide +kernel
theorem dX7_about_24 : decode cX7_about 24 = .ok (.iload_n 2, 1) := by decide +kernel
theorem dX7_about_25 : decode cX7_about 25 = .ok (.iconst 4, 1) := by decide +kernel
theorem dX7_about_26 : decode cX7_about 26 = .ok (.if_icmp .le 7, 3) := by decide +kernel
theorem dX7_about_29 : decode cX7_about 29 = .ok (.iconst 2, 1) := by decide +kernel
theorem dX7_about_30 : decode cX7_about 30 = .ok (.goto 4, 3) := by decide +kernel
theorem dX7_about_33 : decode cX7_about 33 = .ok (.iconst 0, 1) := by decide +kernel
theorem dX7_about_34 : decode cX7_about 34 = .ok (.putfield 71, 3) := by decide +kernel
theorem dX7_about_37 : decode cX7_about 37 = .ok (.aload_n 0, 1) := by decide +kernel
theorem dX7_about_38 : decode cX7_about 38 = .ok (.getfield 71, 3) := by decide +kernel
theorem dX7_about_41 : decode cX7_about 41 = .ok (.ifCond .le 5, 3) := by decide +kernel
theorem dX7_about_44 : decode cX7_about 44 = .ok (.iconst 0, 1) := by decide +kernel
theorem dX7_about_45 : decode cX7_about 45 = .ok (.ireturn, 1) := by decide +kernel
theorem dX7_about_46 : decode cX7_about 46 = .ok (.iload_n 2, 1) := by decide +kernel
theorem dX7_about_47 : decode cX7_about 47 = .ok (.ifCond .ne 12, 3) := by decide +kernel
theorem dX7_about_50 : decode cX7_about 50 = .ok (.aload_n 0, 1) := by decide +kernel
theorem dX7_about_51 : decode cX7_about 51 = .ok (.getfield 35, 3) := by decide +kernel
theorem dX7_about_54 : decode cX7_about 54 = .ok (.iload_n 1, 1) := by decide +kernel
theorem dX7_about_55 : decode cX7_about 55 = .ok (.iaload, 1) := by decide +kernel
theorem dX7_about_56 : decode cX7_about 56 = .ok (.goto 51, 3) := by decide +kernel
theorem dX7_about_59 : decode cX7_about 59 = .ok (.iload_n 2, 1) := by decide +kernel
theorem dX7_about_60 : decode cX7_about 60 = .ok (.iconst 1, 1) := by decide +kernel
theorem dX7_about_61 : decode cX7_about 61 = .ok (.if_icmp .ne 12, 3) := by decide +kernel
theorem dX7_about_64 : decode cX7_about 64 = .ok (.aload_n 0, 1) := by decide +kernel
theorem dX7_about_65 : decode cX7_about 65 = .ok (.getfield 44, 3) := by decide +kernel
theorem dX7_about_68 : decode cX7_about 68 = .ok (.iload_n 1, 1) := by decide +kernel
theorem dX7_about_69 : decode cX7_about 69 = .ok (.iaload, 1) := by decide +kernel
theorem dX7_about_70 : decode cX7_about 70 = .ok (.goto 37, 3) := by decide +kernel
theorem dX7_about_73 : decode cX7_about 73 = .ok (.iload_n 2, 1) := by decide +kernel
theorem dX7_about_74 : decode cX7_about 74 = .ok (.iconst 2, 1) := by decide +kernel
theorem dX7_about_75 : decode cX7_about 75 = .ok (.if_icmp .ne 12, 3) := by decide +kernel
theorem dX7_about_78 : decode cX7_about 78 = .ok (.aload_n 0, 1) := by decide +kernel
theorem dX7_about_79 : decode cX7_about 79 = .ok (.getfield 47, 3) := by decide +kernel
theorem dX7_about_82 : decode cX7_about 82 = .ok (.iload_n 1, 1) := by decide +kernel
theorem dX7_about_83 : decode cX7_about 83 = .ok (.iaload, 1) := by decide +kernel
theorem dX7_about_84 : decode cX7_about 84 = .ok (.goto 23, 3) := by decide +kernel
theorem dX7_about_87 : decode cX7_about 87 = .ok (.iload_n 2, 1) := by decide +kernel
theorem dX7_about_88 : decode cX7_about 88 = .ok (.iconst 3, 1) := by decide +kernel
theorem dX7_about_89 : decode cX7_about 89 = .ok (.if_icmp .ne 12, 3) := by decide +kernel
theorem dX7_about_92 : decode cX7_about 92 = .ok (.aload_n 0, 1) := by decide +kernel
theorem dX7_about_93 : decode cX7_about 93 = .ok (.getfield 50, 3) := by decide +kernel
theorem dX7_about_96 : decode cX7_about 96 = .ok (.iload_n 1, 1) := by decide +kernel
theorem dX7_about_97 : decode cX7_about 97 = .ok (.iaload, 1) := by decide +kernel
theorem dX7_about_98 : decode cX7_about 98 = .ok (.goto 9, 3) := by decide +kernel
theorem dX7_about_101 : decode cX7_about 101 = .ok (.aload_n 0, 1) := by decide +kernel
theorem dX7_about_102 : decode cX7_about 102 = .ok (.getfield 38, 3) := by decide +kernel
theorem dX7_about_105 : decode cX7_about 105 = .ok (.iload_n 1, 1) := by decide +kernel
theorem dX7_about_106 : decode cX7_about 106 = .ok (.iaload, 1) := by decide +kernel
theorem dX7_about_107 : decode cX7_about 107 = .ok (.ireturn, 1) := by decide +kernel
theorem dX7_costOf_0 : decode cX7_costOf 0 = .ok (.iconst 0, 1) := by decide +kernel
theorem dX7_costOf_1 : decode cX7_costOf 1 = .ok (.istore_n 2, 1) := by decide +kernel
theorem dX7_costOf_2 : decode cX7_costOf 2 = .ok (.iconst 0, 1) := by decide +kernel
theorem dX7_costOf_3 : decode cX7_costOf 3 = .ok (.istore_n 3, 1) := by decide +kernel
theorem dX7_costOf_4 : decode cX7_costOf 4 = .ok (.iload_n 3, 1) := by decide +kernel
theorem dX7_costOf_5 : decode cX7_costOf 5 = .ok (.aload_n 0, 1) := by decide +kernel
theorem dX7_costOf_6 : decode cX7_costOf 6 = .ok (.getfield 75, 3) := by decide +kernel
theorem dX7_costOf_9 : decode cX7_costOf 9 = .ok (.if_icmp .ge 42, 3) := by decide +kernel
theorem dX7_costOf_12 : decode cX7_costOf 12 = .ok (.aload_n 0, 1) := by decide +kernel
theorem dX7_costOf_13 : decode cX7_costOf 13 = .ok (.getfield 44, 3) := by decide +kernel
theorem dX7_costOf_16 : decode cX7_costOf 16 = .ok (.iload_n 3, 1) := by decide +kernel
theorem dX7_costOf_17 : decode cX7_costOf 17 = .ok (.iaload, 1) := by decide +kernel
theorem dX7_costOf_18 : decode cX7_costOf 18 = .ok (.iload_n 1, 1) := by decide +kernel
theorem dX7_costOf_19 : decode cX7_costOf 19 = .ok (.if_icmp .gt 24, 3) := by decide +kernel
theorem dX7_costOf_22 : decode cX7_costOf 22 = .ok (.iload_n 1, 1) := by decide +kernel
theorem dX7_costOf_23 : decode cX7_costOf 23 = .ok (.aload_n 0, 1) := by decide +kernel
theorem dX7_costOf_24 : decode cX7_costOf 24 = .ok (.getfield 47, 3) := by decide +kernel
theorem dX7_costOf_27 : decode cX7_costOf 27 = .ok (.iload_n 3, 1) := by decide +kernel
theorem dX7_costOf_28 : decode cX7_costOf 28 = .ok (.iaload, 1) := by decide +kernel
theorem dX7_costOf_29 : decode cX7_costOf 29 = .ok (.if_icmp .gt 14, 3) := by decide +kernel
theorem dX7_costOf_32 : decode cX7_costOf 32 = .ok (.iload_n 2, 1) := by decide +kernel
theorem dX7_costOf_33 : decode cX7_costOf 33 = .ok (.aload_n 0, 1) := by decide +kernel
theorem dX7_costOf_34 : decode cX7_costOf 34 = .ok (.getfield 35, 3) := by decide +kernel
theorem dX7_costOf_37 : decode cX7_costOf 37 = .ok (.iload_n 3, 1) := by decide +kernel
theorem dX7_costOf_38 : decode cX7_costOf 38 = .ok (.iaload, 1) := by decide +kernel
theorem dX7_costOf_39 : decode cX7_costOf 39 = .ok (.iadd, 1) := by decide +kernel
theorem dX7_costOf_40 : decode cX7_costOf 40 = .ok (.goto 4, 3) := by decide +kernel
theorem dX7_costOf_43 : decode cX7_costOf 43 = .ok (.iload_n 2, 1) := by decide +kernel
theorem dX7_costOf_44 : decode cX7_costOf 44 = .ok (.istore_n 2, 1) := by decide +kernel
theorem dX7_costOf_45 : decode cX7_costOf 45 = .ok (.iinc 3 1, 3) := by decide +kernel
theorem dX7_costOf_48 : decode cX7_costOf 48 = .ok (.goto (-44), 3) := by decide +kernel
theorem dX7_costOf_51 : decode cX7_costOf 51 = .ok (.iload_n 2, 1) := by decide +kernel
theorem dX7_costOf_52 : decode cX7_costOf 52 = .ok (.ireturn, 1) := by decide +kernel
set_option maxRecDepth 20000 in
theorem ggX7_cost_X7_costOf : GoodIn wsX7_cost wsX7_costOf := goodIn_ca (goodIn_r _ [8, 2, 9, 10, 11, 12, 13, 14, 15, 16, 17, 18, 19, 20, 21, 22, 23, 24, 25, 26, 27, 28, 29, 30, 31, 32, 33, 34, 35, 36, 37, 38, 39, 40, 41] (by decide +kernel) (by decide +kernel)) (goodIn_sub (fun _ h => List.mem_cons_of_mem _ (List.mem_append_right _ h)) (by decide +kernel))
set_option maxRecDepth 20000 in
theorem gX7_cost_X7_costOf : GoodIn wsX7_cost (wsV RX7 181 RX7 yX7_costOf wsX7_costOf) := goodIn_app (goodIn_of _ (by decide +kernel)) ggX7_cost_X7_costOf
theorem dX7_cost_0 : decode cX7_cost 0 = .ok (.aload_n 0, 1) := by decide +kernel
theorem dX7_cost_1 : decode cX7_cost 1 = .ok (.aload_n 0, 1) := by decide +kernel
theorem dX7_cost_2 : decode cX7_cost 2 = .ok (.getfield 86, 3) := by decide +kernel
theorem dX7_cost_5 : decode cX7_cost 5 = .ok (.ifCond .ne 7, 3) := by decide +kernel
theorem dX7_cost_8 : decode cX7_cost 8 = .ok (.iconst 1, 1) := by decide +kernel
theorem dX7_cost_9 : decode cX7_cost 9 = .ok (.goto 20, 3) := by decide +kernel
theorem dX7_cost_12 : decode cX7_cost 12 = .ok (.iload_n 1, 1) := by decide +kernel
theorem dX7_cost_13 : decode cX7_cost 13 = .ok (.ifCond .lt 11, 3) := by decide +kernel
theorem dX7_cost_16 : decode cX7_cost 16 = .ok (.iload_n 1, 1) := by decide +kernel
theorem dX7_cost_17 : decode cX7_cost 17 = .ok (.aload_n 0, 1) := by decide +kernel
theorem dX7_cost_18 : decode cX7_cost 18 = .ok (.getfield 75, 3) := by decide +kernel
theorem dX7_cost_21 : decode cX7_cost 21 = .ok (.if_icmp .lt 7, 3) := by decide +kernel
theorem dX7_cost_24 : decode cX7_cost 24 = .ok (.iconst 2, 1) := by decide +kernel
theorem dX7_cost_25 : decode cX7_cost 25 = .ok (.goto 4, 3) := by decide +kernel
theorem dX7_cost_28 : decode cX7_cost 28 = .ok (.iconst 0, 1) := by decide +kernel
theorem dX7_cost_29 : decode cX7_cost 29 = .ok (.putfield 71, 3) := by decide +kernel
theorem dX7_cost_32 : decode cX7_cost 32 = .ok (.aload_n 0, 1) := by decide +kernel
theorem dX7_cost_33 : decode cX7_cost 33 = .ok (.getfield 71, 3) := by decide +kernel
theorem dX7_cost_36 : decode cX7_cost 36 = .ok (.ifCond .ne 11, 3) := by decide +kernel
theorem dX7_cost_39 : decode cX7_cost 39 = .ok (.aload_n 0, 1) := by decide +kernel
theorem dX7_cost_40 : decode cX7_cost 40 = .ok (.iload_n 1, 1) := by decide +kernel
theorem dX7_cost_41 : decode cX7_cost 41 = .ok (.invokevirtual 181, 3) := by decide +kernel
theorem dX7_cost_44 : decode cX7_cost 44 = .ok (.goto 4, 3) := by decide +kernel
theorem dX7_cost_47 : decode cX7_cost 47 = .ok (.iconst 0, 1) := by decide +kernel
theorem dX7_cost_48 : decode cX7_cost 48 = .ok (.ireturn, 1) := by decide +kernel
set_option maxRecDepth 20000 in
theorem ggX7_peak_X7_costOf : GoodIn wsX7_peak wsX7_costOf := goodIn_ca (goodIn_r _ [8, 3, 9, 10, 11, 12, 13, 14, 15, 16, 17, 18, 19, 20, 21, 22, 23, 24, 25, 26, 27, 28, 29, 30, 31, 32, 33, 34, 35, 36, 37, 38, 39, 40, 41] (by decide +kernel) (by decide +kernel)) (goodIn_sub (fun _ h => List.mem_cons_of_mem _ (List.mem_append_right _ h)) (by decide +kernel))
set_option maxRecDepth 20000 in
theorem gX7_peak_X7_costOf : GoodIn wsX7_peak (wsV RX7 181 RX7 yX7_costOf wsX7_costOf) := goodIn_app (goodIn_of _ (by decide +kernel)) ggX7_peak_X7_costOf
theorem dX7_peak_0 : decode cX7_peak 0 = .ok (.aload_n 0, 1) := by decide +kernel
theorem dX7_peak_1 : decode cX7_peak 1 = .ok (.aload_n 0, 1) := by decide +kernel
theorem dX7_peak_2 : decode cX7_peak 2 = .ok (.getfield 86, 3) := by decide +kernel
theorem dX7_peak_5 : decode cX7_peak 5 = .ok (.ifCond .eq 7, 3) := by decide +kernel
theorem dX7_peak_8 : decode cX7_peak 8 = .ok (.iconst 0, 1) := by decide +kernel
theorem dX7_peak_9 : decode cX7_peak 9 = .ok (.goto 4, 3) := by decide +kernel
theorem dX7_peak_12 : decode cX7_peak 12 = .ok (.iconst 1, 1) := by decide +kernel
theorem dX7_peak_13 : decode cX7_peak 13 = .ok (.putfield 71, 3) := by decide +kernel
theorem dX7_peak_16 : decode cX7_peak 16 = .ok (.iconst 0, 1) := by decide +kernel
theorem dX7_peak_17 : decode cX7_peak 17 = .ok (.istore_n 1, 1) := by decide +kernel
theorem dX7_peak_18 : decode cX7_peak 18 = .ok (.iconst 0, 1) := by decide +kernel
theorem dX7_peak_19 : decode cX7_peak 19 = .ok (.istore_n 2, 1) := by decide +kernel
theorem dX7_peak_20 : decode cX7_peak 20 = .ok (.iload_n 2, 1) := by decide +kernel
theorem dX7_peak_21 : decode cX7_peak 21 = .ok (.aload_n 0, 1) := by decide +kernel
theorem dX7_peak_22 : decode cX7_peak 22 = .ok (.getfield 75, 3) := by decide +kernel
theorem dX7_peak_25 : decode cX7_peak 25 = .ok (.if_icmp .ge 35, 3) := by decide +kernel
theorem dX7_peak_28 : decode cX7_peak 28 = .ok (.aload_n 0, 1) := by decide +kernel
theorem dX7_peak_29 : decode cX7_peak 29 = .ok (.getfield 86, 3) := by decide +kernel
theorem dX7_peak_32 : decode cX7_peak 32 = .ok (.ifCond .eq 28, 3) := by decide +kernel
theorem dX7_peak_35 : decode cX7_peak 35 = .ok (.aload_n 0, 1) := by decide +kernel
theorem dX7_peak_36 : decode cX7_peak 36 = .ok (.iload_n 2, 1) := by decide +kernel
theorem dX7_peak_37 : decode cX7_peak 37 = .ok (.invokevirtual 181, 3) := by decide +kernel
theorem dX7_peak_40 : decode cX7_peak 40 = .ok (.iload_n 1, 1) := by decide +kernel
theorem dX7_peak_41 : decode cX7_peak 41 = .ok (.if_icmp .le 11, 3) := by decide +kernel
theorem dX7_peak_44 : decode cX7_peak 44 = .ok (.aload_n 0, 1) := by decide +kernel
theorem dX7_peak_45 : decode cX7_peak 45 = .ok (.iload_n 2, 1) := by decide +kernel
theorem dX7_peak_46 : decode cX7_peak 46 = .ok (.invokevirtual 181, 3) := by decide +kernel
theorem dX7_peak_49 : decode cX7_peak 49 = .ok (.goto 4, 3) := by decide +kernel
theorem dX7_peak_52 : decode cX7_peak 52 = .ok (.iload_n 1, 1) := by decide +kernel
theorem dX7_peak_53 : decode cX7_peak 53 = .ok (.istore_n 1, 1) := by decide +kernel
theorem dX7_peak_54 : decode cX7_peak 54 = .ok (.iinc 2 1, 3) := by decide +kernel
theorem dX7_peak_57 : decode cX7_peak 57 = .ok (.goto (-37), 3) := by decide +kernel
theorem dX7_peak_60 : decode cX7_peak 60 = .ok (.iload_n 1, 1) := by decide +kernel
theorem dX7_peak_61 : decode cX7_peak 61 = .ok (.ireturn, 1) := by decide +kernel
set_option maxRecDepth 20000 in
theorem ggX7_needed_X7_inputs : GoodIn wsX7_needed wsX7_inputs := goodIn_r _ [6] (by decide +kernel) (by decide +kernel)
set_option maxRecDepth 20000 in
theorem gX7_needed_X7_inputs : GoodIn wsX7_needed (va_wsS RX7 94 yX7_inputs wsX7_inputs) := goodIn_app (goodIn_of _ (by decide +kernel)) ggX7_needed_X7_inputs
theorem dX7_needed_0 : decode cX7_needed 0 = .ok (.iconst 0, 1) := by decide +kernel
theorem dX7_needed_1 : decode cX7_needed 1 = .ok (.istore_n 2, 1) := by decide +kernel
theorem dX7_needed_2 : decode cX7_needed 2 = .ok (.iconst 0, 1) := by decide +kernel
theorem dX7_needed_3 : decode cX7_needed 3 = .ok (.istore_n 3, 1) := by decide +kernel
theorem dX7_needed_4 : decode cX7_needed 4 = .ok (.iload_n 3, 1) := by decide +kernel
theorem dX7_needed_5 : decode cX7_needed 5 = .ok (.aload_n 0, 1) := by decide +kernel
theorem dX7_needed_6 : decode cX7_needed 6 = .ok (.getfield 7, 3) := by decide +kernel
theorem dX7_needed_9 : decode cX7_needed 9 = .ok (.iload_n 1, 1) := by decide +kernel
theorem dX7_needed_10 : decode cX7_needed 10 = .ok (.iaload, 1) := by decide +kernel
theorem dX7_needed_11 : decode cX7_needed 11 = .ok (.invokestatic 94, 3) := by decide +kernel
theorem dX7_needed_14 : decode cX7_needed 14 = .ok (.if_icmp .ge 24, 3) := by decide +kernel
theorem dX7_needed_17 : decode cX7_needed 17 = .ok (.iload_n 2, 1) := by decide +kernel
theorem dX7_needed_18 : decode cX7_needed 18 = .ok (.iconst 1, 1) := by decide +kernel
theorem dX7_needed_19 : decode cX7_needed 19 = .ok (.aload_n 0, 1) := by decide +kernel
theorem dX7_needed_20 : decode cX7_needed 20 = .ok (.getfield 19, 3) := by decide +kernel
theorem dX7_needed_23 : decode cX7_needed 23 = .ok (.iconst 2, 1) := by decide +kernel
theorem dX7_needed_24 : decode cX7_needed 24 = .ok (.iload_n 1, 1) := by decide +kernel
theorem dX7_needed_25 : decode cX7_needed 25 = .ok (.imul, 1) := by decide +kernel
theorem dX7_needed_26 : decode cX7_needed 26 = .ok (.iload_n 3, 1) := by decide +kernel
theorem dX7_needed_27 : decode cX7_needed 27 = .ok (.iadd, 1) := by decide +kernel
theorem dX7_needed_28 : decode cX7_needed 28 = .ok (.iaload, 1) := by decide +kernel
theorem dX7_needed_29 : decode cX7_needed 29 = .ok (.ishl, 1) := by decide +kernel
theorem dX7_needed_30 : decode cX7_needed 30 = .ok (.ior, 1) := by decide +kernel
theorem dX7_needed_31 : decode cX7_needed 31 = .ok (.istore_n 2, 1) := by decide +kernel
theorem dX7_needed_32 : decode cX7_needed 32 = .ok (.iinc 3 1, 3) := by decide +kernel
theorem dX7_needed_35 : decode cX7_needed 35 = .ok (.goto (-31), 3) := by decide +kernel
theorem dX7_needed_38 : decode cX7_needed 38 = .ok (.iload_n 2, 1) := by decide +kernel
theorem dX7_needed_39 : decode cX7_needed 39 = .ok (.ireturn, 1) := by decide +kernel
theorem dX7_users_0 : decode cX7_users 0 = .ok (.iconst 0, 1) := by decide +kernel
theorem dX7_users_1 : decode cX7_users 1 = .ok (.istore_n 2, 1) := by decide +kernel
theorem dX7_users_2 : decode cX7_users 2 = .ok (.iconst 0, 1) := by decide +kernel
theorem dX7_users_3 : decode cX7_users 3 = .ok (.istore_n 3, 1) := by decide +kernel
theorem dX7_users_4 : decode cX7_users 4 = .ok (.iload_n 3, 1) := by decide +kernel
theorem dX7_users_5 : decode cX7_users 5 = .ok (.iconst 2, 1) := by decide +kernel
theorem dX7_users_6 : decode cX7_users 6 = .ok (.aload_n 0, 1) := by decide +kernel
theorem dX7_users_7 : decode cX7_users 7 = .ok (.getfield 75, 3) := by decide +kernel
theorem dX7_users_10 : decode cX7_users 10 = .ok (.imul, 1) := by decide +kernel
theorem dX7_users_11 : decode cX7_users 11 = .ok (.if_icmp .ge 31, 3) := by decide +kernel
theorem dX7_users_14 : decode cX7_users 14 = .ok (.aload_n 0, 1) := by decide +kernel
theorem dX7_users_15 : decode cX7_users 15 = .ok (.getfield 19, 3) := by decide +kernel
theorem dX7_users_18 : decode cX7_users 18 = .ok (.iload_n 3, 1) := by decide +kernel
theorem dX7_users_19 : decode cX7_users 19 = .ok (.iaload, 1) := by decide +kernel
theorem dX7_users_20 : decode cX7_users 20 = .ok (.iload_n 1, 1) := by decide +kernel
theorem dX7_users_21 : decode cX7_users 21 = .ok (.if_icmp .ne 13, 3) := by decide +kernel
theorem dX7_users_24 : decode cX7_users 24 = .ok (.iload_n 2, 1) := by decide +kernel
theorem dX7_users_25 : decode cX7_users 25 = .ok (.iconst 1, 1) := by decide +kernel
theorem dX7_users_26 : decode cX7_users 26 = .ok (.iload_n 3, 1) := by decide +kernel
theorem dX7_users_27 : decode cX7_users 27 = .ok (.iconst 2, 1) := by decide +kernel
theorem dX7_users_28 : decode cX7_users 28 = .ok (.idiv, 1) := by decide +kernel
theorem dX7_users_29 : decode cX7_users 29 = .ok (.ishl, 1) := by decide +kernel
theorem dX7_users_30 : decode cX7_users 30 = .ok (.ior, 1) := by decide +kernel
theorem dX7_users_31 : decode cX7_users 31 = .ok (.goto 4, 3) := by decide +kernel
theorem dX7_users_34 : decode cX7_users 34 = .ok (.iload_n 2, 1) := by decide +kernel
theorem dX7_users_35 : decode cX7_users 35 = .ok (.istore_n 2, 1) := by decide +kernel
theorem dX7_users_36 : decode cX7_users 36 = .ok (.iinc 3 1, 3) := by decide +kernel
theorem dX7_users_39 : decode cX7_users 39 = .ok (.goto (-35), 3) := by decide +kernel
theorem dX7_users_42 : decode cX7_users 42 = .ok (.iload_n 2, 1) := by decide +kernel
theorem dX7_users_43 : decode cX7_users 43 = .ok (.ireturn, 1) := by decide +kernel
set_option maxRecDepth 20000 in
theorem ggX7_stays_X7_users : GoodIn wsX7_stays wsX7_users := goodIn_ca (goodIn_r _ [8, 1, 9, 10, 11, 12, 13, 14, 15, 16, 17, 18, 19, 20, 21, 22, 23, 24, 25, 26, 27, 28, 29, 30, 31, 32, 33, 34, 35, 36, 37, 38, 39] (by decide +kernel) (by decide +kernel)) (goodIn_sub (fun _ h => List.mem_cons_of_mem _ (List.mem_append_right _ h)) (by decide +kernel))
set_option maxRecDepth 20000 in
theorem gX7_stays_X7_users : GoodIn wsX7_stays (wsV RX7 184 RX7 yX7_users wsX7_users) := goodIn_app (goodIn_of _ (by decide +kernel)) ggX7_stays_X7_users
theorem dX7_stays_0 : decode cX7_stays 0 = .ok (.iconst 0, 1) := by decide +kernel
theorem dX7_stays_1 : decode cX7_stays 1 = .ok (.istore_n 2, 1) := by decide +kernel
theorem dX7_stays_2 : decode cX7_stays 2 = .ok (.iconst 0, 1) := by decide +kernel
theorem dX7_stays_3 : decode cX7_stays 3 = .ok (.istore_n 3, 1) := by decide +kernel
theorem dX7_stays_4 : decode cX7_stays 4 = .ok (.iload_n 3, 1) := by decide +kernel
theorem dX7_stays_5 : decode cX7_stays 5 = .ok (.aload_n 0, 1) := by decide +kernel
theorem dX7_stays_6 : decode cX7_stays 6 = .ok (.getfield 75, 3) := by decide +kernel
theorem dX7_stays_9 : decode cX7_stays 9 = .ok (.if_icmp .ge 64, 3) := by decide +kernel
theorem dX7_stays_12 : decode cX7_stays 12 = .ok (.iload_n 1, 1) := by decide +kernel
theorem dX7_stays_13 : decode cX7_stays 13 = .ok (.iload_n 3, 1) := by decide +kernel
theorem dX7_stays_14 : decode cX7_stays 14 = .ok (.ishr, 1) := by decide +kernel
theorem dX7_stays_15 : decode cX7_stays 15 = .ok (.iconst 1, 1) := by decide +kernel
theorem dX7_stays_16 : decode cX7_stays 16 = .ok (.iand, 1) := by decide +kernel
theorem dX7_stays_17 : decode cX7_stays 17 = .ok (.iconst 1, 1) := by decide +kernel
theorem dX7_stays_18 : decode cX7_stays 18 = .ok (.if_icmp .ne 28, 3) := by decide +kernel
theorem dX7_stays_21 : decode cX7_stays 21 = .ok (.aload_n 0, 1) := by decide +kernel
theorem dX7_stays_22 : decode cX7_stays 22 = .ok (.getfield 22, 3) := by decide +kernel
theorem dX7_stays_25 : decode cX7_stays 25 = .ok (.iload_n 3, 1) := by decide +kernel
theorem dX7_stays_26 : decode cX7_stays 26 = .ok (.baload, 1) := by decide +kernel
theorem dX7_stays_27 : decode cX7_stays 27 = .ok (.ifCond .ne 15, 3) := by decide +kernel
theorem dX7_stays_30 : decode cX7_stays 30 = .ok (.aload_n 0, 1) := by decide +kernel
theorem dX7_stays_31 : decode cX7_stays 31 = .ok (.iload_n 3, 1) := by decide +kernel
theorem dX7_stays_32 : decode cX7_stays 32 = .ok (.invokevirtual 184, 3) := by decide +kernel
theorem dX7_stays_35 : decode cX7_stays 35 = .ok (.iload_n 1, 1) := by decide +kernel
theorem dX7_stays_36 : decode cX7_stays 36 = .ok (.iconst (-1), 1) := by decide +kernel
theorem dX7_stays_37 : decode cX7_stays 37 = .ok (.ixor, 1) := by decide +kernel
theorem dX7_stays_38 : decode cX7_stays 38 = .ok (.iand, 1) := by decide +kernel
theorem dX7_stays_39 : decode cX7_stays 39 = .ok (.ifCond .eq 7, 3) := by decide +kernel
theorem dX7_stays_42 : decode cX7_stays 42 = .ok (.iconst 1, 1) := by decide +kernel
theorem dX7_stays_43 : decode cX7_stays 43 = .ok (.goto 4, 3) := by decide +kernel
theorem dX7_stays_46 : decode cX7_stays 46 = .ok (.iconst 0, 1) := by decide +kernel
theorem dX7_stays_47 : decode cX7_stays 47 = .ok (.istore 4, 2) := by decide +kernel
theorem dX7_stays_49 : decode cX7_stays 49 = .ok (.iload 4, 2) := by decide +kernel
theorem dX7_stays_51 : decode cX7_stays 51 = .ok (.ifCond .eq 14, 3) := by decide +kernel
theorem dX7_stays_54 : decode cX7_stays 54 = .ok (.iload_n 2, 1) := by decide +kernel
theorem dX7_stays_55 : decode cX7_stays 55 = .ok (.aload_n 0, 1) := by decide +kernel
theorem dX7_stays_56 : decode cX7_stays 56 = .ok (.getfield 35, 3) := by decide +kernel
theorem dX7_stays_59 : decode cX7_stays 59 = .ok (.iload_n 3, 1) := by decide +kernel
theorem dX7_stays_60 : decode cX7_stays 60 = .ok (.iaload, 1) := by decide +kernel
theorem dX7_stays_61 : decode cX7_stays 61 = .ok (.iadd, 1) := by decide +kernel
theorem dX7_stays_62 : decode cX7_stays 62 = .ok (.goto 4, 3) := by decide +kernel
theorem dX7_stays_65 : decode cX7_stays 65 = .ok (.iload_n 2, 1) := by decide +kernel
theorem dX7_stays_66 : decode cX7_stays 66 = .ok (.istore_n 2, 1) := by decide +kernel
theorem dX7_stays_67 : decode cX7_stays 67 = .ok (.iinc 3 1, 3) := by decide +kernel
theorem dX7_stays_70 : decode cX7_stays 70 = .ok (.goto (-66), 3) := by decide +kernel
theorem dX7_stays_73 : decode cX7_stays 73 = .ok (.iload_n 2, 1) := by decide +kernel
theorem dX7_stays_74 : decode cX7_stays 74 = .ok (.ireturn, 1) := by decide +kernel
set_option maxRecDepth 20000 in
theorem ggX7_findLeast_X7_stays : GoodIn wsX7_findLeast wsX7_stays := goodIn_ca (goodIn_r _ [9, 1, 10, 3, 11, 12, 13, 8, 14, 15, 24, 25, 26, 27, 28, 29, 30, 31, 32, 33, 34, 35, 36, 37, 38, 39, 40, 41, 42, 43, 44, 45, 46, 47, 48, 49, 50, 51, 52, 53] (by decide +kernel) (by decide +kernel)) (goodIn_sub (fun _ h => List.mem_cons_of_mem _ (List.mem_append_right _ h)) (by decide +kernel))
set_option maxRecDepth 20000 in
theorem gX7_findLeast_X7_stays : GoodIn wsX7_findLeast (wsV RX7 187 RX7 yX7_stays wsX7_stays) := goodIn_app (goodIn_of _ (by decide +kernel)) ggX7_findLeast_X7_stays
set_option maxRecDepth 20000 in
theorem ggX7_findLeast_X7_needed : GoodIn wsX7_findLeast wsX7_needed := goodIn_ca (goodIn_r _ [19, 20, 15, 21, 22, 8, 23, 24, 25, 26, 27, 28, 29, 30, 31, 32, 33, 34, 35, 36, 37, 38, 39, 40, 41, 42, 43, 44, 45, 46, 47, 48, 49, 50, 51, 52, 53] (by decide +kernel) (by decide +kernel)) (goodIn_sub (fun _ h => List.mem_cons_of_mem _ (List.mem_append_right _ h)) (by decide +kernel))
set_option maxRecDepth 20000 in
theorem gX7_findLeast_X7_needed : GoodIn wsX7_findLeast (wsV RX7 190 RX7 yX7_needed wsX7_needed) := goodIn_app (goodIn_of _ (by decide +kernel)) ggX7_findLeast_X7_needed
theorem dX7_findLeast_0 : decode cX7_findLeast 0 = .ok (.iconst 1, 1) := by decide +kernel
theorem dX7_findLeast_1 : decode cX7_findLeast 1 = .ok (.aload_n 0, 1) := by decide +kernel
theorem dX7_findLeast_2 : decode cX7_findLeast 2 = .ok (.getfield 75, 3) := by decide +kernel
theorem dX7_findLeast_5 : decode cX7_findLeast 5 = .ok (.ishl, 1) := by decide +kernel
theorem dX7_findLeast_6 : decode cX7_findLeast 6 = .ok (.iconst 1, 1) := by decide +kernel
theorem dX7_findLeast_7 : decode cX7_findLeast 7 = .ok (.isub, 1) := by decide +kernel
theorem dX7_findLeast_8 : decode cX7_findLeast 8 = .ok (.istore_n 1, 1) := by decide +kernel
theorem dX7_findLeast_9 : decode cX7_findLeast 9 = .ok (.iconst 0, 1) := by decide +kernel
theorem dX7_findLeast_10 : decode cX7_findLeast 10 = .ok (.istore_n 2, 1) := by decide +kernel
theorem dX7_findLeast_11 : decode cX7_findLeast 11 = .ok (.iload_n 2, 1) := by decide +kernel
theorem dX7_findLeast_12 : decode cX7_findLeast 12 = .ok (.iload_n 1, 1) := by decide +kernel
theorem dX7_findLeast_13 : decode cX7_findLeast 13 = .ok (.if_icmp .gt 26, 3) := by decide +kernel
theorem dX7_findLeast_16 : decode cX7_findLeast 16 = .ok (.aload_n 0, 1) := by decide +kernel
theorem dX7_findLeast_17 : decode cX7_findLeast 17 = .ok (.getfield 62, 3) := by decide +kernel
theorem dX7_findLeast_20 : decode cX7_findLeast 20 = .ok (.iload_n 2, 1) := by decide +kernel
theorem dX7_findLeast_21 : decode cX7_findLeast 21 = .ok (.iload_n 2, 1) := by decide +kernel
theorem dX7_findLeast_22 : decode cX7_findLeast 22 = .ok (.ifCond .ne 7, 3) := by decide +kernel
theorem dX7_findLeast_25 : decode cX7_findLeast 25 = .ok (.iconst 0, 1) := by decide +kernel
theorem dX7_findLeast_26 : decode cX7_findLeast 26 = .ok (.goto 6, 3) := by decide +kernel
theorem dX7_findLeast_29 : decode cX7_findLeast 29 = .ok (.sipush 1000, 3) := by decide +kernel
theorem dX7_findLeast_32 : decode cX7_findLeast 32 = .ok (.iastore, 1) := by decide +kernel
theorem dX7_findLeast_33 : decode cX7_findLeast 33 = .ok (.iinc 2 1, 3) := by decide +kernel
theorem dX7_findLeast_36 : decode cX7_findLeast 36 = .ok (.goto (-25), 3) := by decide +kernel
theorem dX7_findLeast_39 : decode cX7_findLeast 39 = .ok (.iconst 0, 1) := by decide +kernel
theorem dX7_findLeast_40 : decode cX7_findLeast 40 = .ok (.istore_n 2, 1) := by decide +kernel
theorem dX7_findLeast_41 : decode cX7_findLeast 41 = .ok (.iload_n 2, 1) := by decide +kernel
theorem dX7_findLeast_42 : decode cX7_findLeast 42 = .ok (.iload_n 1, 1) := by decide +kernel
theorem dX7_findLeast_43 : decode cX7_findLeast 43 = .ok (.if_icmp .ge 157, 3) := by decide +kernel
theorem dX7_findLeast_46 : decode cX7_findLeast 46 = .ok (.aload_n 0, 1) := by decide +kernel
theorem dX7_findLeast_47 : decode cX7_findLeast 47 = .ok (.getfield 62, 3) := by decide +kernel
theorem dX7_findLeast_50 : decode cX7_findLeast 50 = .ok (.iload_n 2, 1) := by decide +kernel
theorem dX7_findLeast_51 : decode cX7_findLeast 51 = .ok (.iaload, 1) := by decide +kernel
theorem dX7_findLeast_52 : decode cX7_findLeast 52 = .ok (.sipush 1000, 3) := by decide +kernel
theorem dX7_findLeast_55 : decode cX7_findLeast 55 = .ok (.if_icmp .ge 11, 3) := by decide +kernel
theorem dX7_findLeast_58 : decode cX7_findLeast 58 = .ok (.aload_n 0, 1) := by decide +kernel
theorem dX7_findLeast_59 : decode cX7_findLeast 59 = .ok (.iload_n 2, 1) := by decide +kernel
theorem dX7_findLeast_60 : decode cX7_findLeast 60 = .ok (.invokevirtual 187, 3) := by decide +kernel
theorem dX7_findLeast_63 : decode cX7_findLeast 63 = .ok (.goto 4, 3) := by decide +kernel
theorem dX7_findLeast_66 : decode cX7_findLeast 66 = .ok (.iconst 0, 1) := by decide +kernel
theorem dX7_findLeast_67 : decode cX7_findLeast 67 = .ok (.istore_n 3, 1) := by decide +kernel
theorem dX7_findLeast_68 : decode cX7_findLeast 68 = .ok (.iconst 0, 1) := by decide +kernel
theorem dX7_findLeast_69 : decode cX7_findLeast 69 = .ok (.istore 4, 2) := by decide +kernel
theorem dX7_findLeast_71 : decode cX7_findLeast 71 = .ok (.iload 4, 2) := by decide +kernel
theorem dX7_findLeast_73 : decode cX7_findLeast 73 = .ok (.aload_n 0, 1) := by decide +kernel
theorem dX7_findLeast_74 : decode cX7_findLeast 74 = .ok (.getfield 75, 3) := by decide +kernel
theorem dX7_findLeast_77 : decode cX7_findLeast 77 = .ok (.if_icmp .ge 117, 3) := by decide +kernel
theorem dX7_findLeast_80 : decode cX7_findLeast 80 = .ok (.aload_n 0, 1) := by decide +kernel
theorem dX7_findLeast_81 : decode cX7_findLeast 81 = .ok (.getfield 62, 3) := by decide +kernel
theorem dX7_findLeast_84 : decode cX7_findLeast 84 = .ok (.iload_n 2, 1) := by decide +kernel
theorem dX7_findLeast_85 : decode cX7_findLeast 85 = .ok (.iaload, 1) := by decide +kernel
theorem dX7_findLeast_86 : decode cX7_findLeast 86 = .ok (.sipush 1000, 3) := by decide +kernel
theorem dX7_findLeast_89 : decode cX7_findLeast 89 = .ok (.if_icmp .ge 105, 3) := by decide +kernel
theorem dX7_findLeast_92 : decode cX7_findLeast 92 = .ok (.iload_n 2, 1) := by decide +kernel
theorem dX7_findLeast_93 : decode cX7_findLeast 93 = .ok (.iload 4, 2) := by decide +kernel
theorem dX7_findLeast_95 : decode cX7_findLeast 95 = .ok (.ishr, 1) := by decide +kernel
theorem dX7_findLeast_96 : decode cX7_findLeast 96 = .ok (.iconst 1, 1) := by decide +kernel
theorem dX7_findLeast_97 : decode cX7_findLeast 97 = .ok (.iand, 1) := by decide +kernel
theorem dX7_findLeast_98 : decode cX7_findLeast 98 = .ok (.ifCond .ne 90, 3) := by decide +kernel
theorem dX7_findLeast_101 : decode cX7_findLeast 101 = .ok (.aload_n 0, 1) := by decide +kernel
theorem dX7_findLeast_102 : decode cX7_findLeast 102 = .ok (.iload 4, 2) := by decide +kernel
theorem dX7_findLeast_104 : decode cX7_findLeast 104 = .ok (.invokevirtual 190, 3) := by decide +kernel
theorem dX7_findLeast_107 : decode cX7_findLeast 107 = .ok (.iload_n 2, 1) := by decide +kernel
theorem dX7_findLeast_108 : decode cX7_findLeast 108 = .ok (.iconst (-1), 1) := by decide +kernel
theorem dX7_findLeast_109 : decode cX7_findLeast 109 = .ok (.ixor, 1) := by decide +kernel
theorem dX7_findLeast_110 : decode cX7_findLeast 110 = .ok (.iand, 1) := by decide +kernel
theorem dX7_findLeast_111 : decode cX7_findLeast 111 = .ok (.ifCond .ne 77, 3) := by decide +kernel
theorem dX7_findLeast_114 : decode cX7_findLeast 114 = .ok (.iload_n 3, 1) := by decide +kernel
theorem dX7_findLeast_115 : decode cX7_findLeast 115 = .ok (.aload_n 0, 1) := by decide +kernel
theorem dX7_findLeast_116 : decode cX7_findLeast 116 = .ok (.getfield 35, 3) := by decide +kernel
theorem dX7_findLeast_119 : decode cX7_findLeast 119 = .ok (.iload 4, 2) := by decide +kernel
theorem dX7_findLeast_121 : decode cX7_findLeast 121 = .ok (.iaload, 1) := by decide +kernel
theorem dX7_findLeast_122 : decode cX7_findLeast 122 = .ok (.iadd, 1) := by decide +kernel
theorem dX7_findLeast_123 : decode cX7_findLeast 123 = .ok (.istore 5, 2) := by decide +kernel
theorem dX7_findLeast_125 : decode cX7_findLeast 125 = .ok (.iload 5, 2) := by decide +kernel
theorem dX7_findLeast_127 : decode cX7_findLeast 127 = .ok (.aload_n 0, 1) := by decide +kernel
theorem dX7_findLeast_128 : decode cX7_findLeast 128 = .ok (.getfield 62, 3) := by decide +kernel
theorem dX7_findLeast_131 : decode cX7_findLeast 131 = .ok (.iload_n 2, 1) := by decide +kernel
theorem dX7_findLeast_132 : decode cX7_findLeast 132 = .ok (.iaload, 1) := by decide +kernel
theorem dX7_findLeast_133 : decode cX7_findLeast 133 = .ok (.if_icmp .le 8, 3) := by decide +kernel
theorem dX7_findLeast_136 : decode cX7_findLeast 136 = .ok (.iload 5, 2) := by decide +kernel
theorem dX7_findLeast_138 : decode cX7_findLeast 138 = .ok (.goto 9, 3) := by decide +kernel
theorem dX7_findLeast_141 : decode cX7_findLeast 141 = .ok (.aload_n 0, 1) := by decide +kernel
theorem dX7_findLeast_142 : decode cX7_findLeast 142 = .ok (.getfield 62, 3) := by decide +kernel
theorem dX7_findLeast_145 : decode cX7_findLeast 145 = .ok (.iload_n 2, 1) := by decide +kernel
theorem dX7_findLeast_146 : decode cX7_findLeast 146 = .ok (.iaload, 1) := by decide +kernel
theorem dX7_findLeast_147 : decode cX7_findLeast 147 = .ok (.istore 6, 2) := by decide +kernel
theorem dX7_findLeast_149 : decode cX7_findLeast 149 = .ok (.iload_n 2, 1) := by decide +kernel
theorem dX7_findLeast_150 : decode cX7_findLeast 150 = .ok (.iconst 1, 1) := by decide +kernel
theorem dX7_findLeast_151 : decode cX7_findLeast 151 = .ok (.iload 4, 2) := by decide +kernel
theorem dX7_findLeast_153 : decode cX7_findLeast 153 = .ok (.ishl, 1) := by decide +kernel
theorem dX7_findLeast_154 : decode cX7_findLeast 154 = .ok (.ior, 1) := by decide +kernel
theorem dX7_findLeast_155 : decode cX7_findLeast 155 = .ok (.istore 7, 2) := by decide +kernel
theorem dX7_findLeast_157 : decode cX7_findLeast 157 = .ok (.aload_n 0, 1) := by decide +kernel
theorem dX7_findLeast_158 : decode cX7_findLeast 158 = .ok (.getfield 62, 3) := by decide +kernel
theorem dX7_findLeast_161 : decode cX7_findLeast 161 = .ok (.iload 7, 2) := by decide +kernel
theorem dX7_findLeast_163 : decode cX7_findLeast 163 = .ok (.iload 6, 2) := by decide +kernel
theorem dX7_findLeast_165 : decode cX7_findLeast 165 = .ok (.aload_n 0, 1) := by decide +kernel
theorem dX7_findLeast_166 : decode cX7_findLeast 166 = .ok (.getfield 62, 3) := by decide +kernel
theorem dX7_findLeast_169 : decode cX7_findLeast 169 = .ok (.iload 7, 2) := by decide +kernel
theorem dX7_findLeast_171 : decode cX7_findLeast 171 = .ok (.iaload, 1) := by decide +kernel
theorem dX7_findLeast_172 : decode cX7_findLeast 172 = .ok (.if_icmp .ge 8, 3) := by decide +kernel
theorem dX7_findLeast_175 : decode cX7_findLeast 175 = .ok (.iload 6, 2) := by decide +kernel
theorem dX7_findLeast_177 : decode cX7_findLeast 177 = .ok (.goto 10, 3) := by decide +kernel
theorem dX7_findLeast_180 : decode cX7_findLeast 180 = .ok (.aload_n 0, 1) := by decide +kernel
theorem dX7_findLeast_181 : decode cX7_findLeast 181 = .ok (.getfield 62, 3) := by decide +kernel
theorem dX7_findLeast_184 : decode cX7_findLeast 184 = .ok (.iload 7, 2) := by decide +kernel
theorem dX7_findLeast_186 : decode cX7_findLeast 186 = .ok (.iaload, 1) := by decide +kernel
theorem dX7_findLeast_187 : decode cX7_findLeast 187 = .ok (.iastore, 1) := by decide +kernel
theorem dX7_findLeast_188 : decode cX7_findLeast 188 = .ok (.iinc 4 1, 3) := by decide +kernel
theorem dX7_findLeast_191 : decode cX7_findLeast 191 = .ok (.goto (-120), 3) := by decide +kernel
theorem dX7_findLeast_194 : decode cX7_findLeast 194 = .ok (.iinc 2 1, 3) := by decide +kernel
theorem dX7_findLeast_197 : decode cX7_findLeast 197 = .ok (.goto (-156), 3) := by decide +kernel
theorem dX7_findLeast_200 : decode cX7_findLeast 200 = .ok (.aload_n 0, 1) := by decide +kernel
theorem dX7_findLeast_201 : decode cX7_findLeast 201 = .ok (.aload_n 0, 1) := by decide +kernel
theorem dX7_findLeast_202 : decode cX7_findLeast 202 = .ok (.getfield 62, 3) := by decide +kernel
theorem dX7_findLeast_205 : decode cX7_findLeast 205 = .ok (.iload_n 1, 1) := by decide +kernel
theorem dX7_findLeast_206 : decode cX7_findLeast 206 = .ok (.iaload, 1) := by decide +kernel
theorem dX7_findLeast_207 : decode cX7_findLeast 207 = .ok (.putfield 178, 3) := by decide +kernel
theorem dX7_findLeast_210 : decode cX7_findLeast 210 = .ok (.return_, 1) := by decide +kernel
set_option maxRecDepth 20000 in
theorem ggX7_least_X7_findLeast : GoodIn wsX7_least wsX7_findLeast := goodIn_ca (goodIn_r _ [8, 9, 10, 11, 3, 12, 13, 14, 7, 15, 16, 17, 18, 19, 20, 21, 22, 23, 24, 25, 26, 27, 28, 29, 30, 31, 32, 33, 34, 35, 36, 37, 38, 39, 40, 41, 42, 43, 44, 45, 46, 47, 48, 49, 50, 51, 52, 53, 54, 55, 56, 57, 58, 59] (by decide +kernel) (by decide +kernel)) (goodIn_sub (fun _ h => List.mem_cons_of_mem _ (List.mem_append_right _ h)) (by decide +kernel))
set_option maxRecDepth 20000 in
theorem gX7_least_X7_findLeast : GoodIn wsX7_least (wsV RX7 193 RX7 yX7_findLeast wsX7_findLeast) := goodIn_app (goodIn_of _ (by decide +kernel)) ggX7_least_X7_findLeast
theorem dX7_least_0 : decode cX7_least 0 = .ok (.aload_n 0, 1) := by decide +kernel
theorem dX7_least_1 : decode cX7_least 1 = .ok (.aload_n 0, 1) := by decide +kernel
theorem dX7_least_2 : decode cX7_least 2 = .ok (.getfield 86, 3) := by decide +kernel
theorem dX7_least_5 : decode cX7_least 5 = .ok (.ifCond .eq 7, 3) := by decide +kernel
theorem dX7_least_8 : decode cX7_least 8 = .ok (.iconst 0, 1) := by decide +kernel
theorem dX7_least_9 : decode cX7_least 9 = .ok (.goto 4, 3) := by decide +kernel
theorem dX7_least_12 : decode cX7_least 12 = .ok (.iconst 1, 1) := by decide +kernel
theorem dX7_least_13 : decode cX7_least 13 = .ok (.putfield 71, 3) := by decide +kernel
theorem dX7_least_16 : decode cX7_least 16 = .ok (.aload_n 0, 1) := by decide +kernel
theorem dX7_least_17 : decode cX7_least 17 = .ok (.getfield 86, 3) := by decide +kernel
theorem dX7_least_20 : decode cX7_least 20 = .ok (.ifCond .ne 5, 3) := by decide +kernel
theorem dX7_least_23 : decode cX7_least 23 = .ok (.iconst 0, 1) := by decide +kernel
theorem dX7_least_24 : decode cX7_least 24 = .ok (.ireturn, 1) := by decide +kernel
theorem dX7_least_25 : decode cX7_least 25 = .ok (.aload_n 0, 1) := by decide +kernel
theorem dX7_least_26 : decode cX7_least 26 = .ok (.getfield 178, 3) := by decide +kernel
theorem dX7_least_29 : decode cX7_least 29 = .ok (.ifCond .ge 7, 3) := by decide +kernel
theorem dX7_least_32 : decode cX7_least 32 = .ok (.aload_n 0, 1) := by decide +kernel
theorem dX7_least_33 : decode cX7_least 33 = .ok (.invokevirtual 193, 3) := by decide +kernel
theorem dX7_least_36 : decode cX7_least 36 = .ok (.aload_n 0, 1) := by decide +kernel
theorem dX7_least_37 : decode cX7_least 37 = .ok (.getfield 178, 3) := by decide +kernel
theorem dX7_least_40 : decode cX7_least 40 = .ok (.ireturn, 1) := by decide +kernel
set_option maxRecDepth 20000 in
theorem ggX7_work_X7_inputs : GoodIn wsX7_work wsX7_inputs := goodIn_r _ [10] (by decide +kernel) (by decide +kernel)
set_option maxRecDepth 20000 in
theorem gX7_work_X7_inputs : GoodIn wsX7_work (va_wsS RX7 94 yX7_inputs wsX7_inputs) := goodIn_app (goodIn_of _ (by decide +kernel)) ggX7_work_X7_inputs
theorem dX7_work_0 : decode cX7_work 0 = .ok (.aload_n 0, 1) := by decide +kernel
theorem dX7_work_1 : decode cX7_work 1 = .ok (.getfield 7, 3) := by decide +kernel
theorem dX7_work_4 : decode cX7_work 4 = .ok (.iload_n 1, 1) := by decide +kernel
theorem dX7_work_5 : decode cX7_work 5 = .ok (.iaload, 1) := by decide +kernel
theorem dX7_work_6 : decode cX7_work 6 = .ok (.istore_n 2, 1) := by decide +kernel
theorem dX7_work_7 : decode cX7_work 7 = .ok (.bipush 40, 2) := by decide +kernel
theorem dX7_work_9 : decode cX7_work 9 = .ok (.iload_n 1, 1) := by decide +kernel
theorem dX7_work_10 : decode cX7_work 10 = .ok (.imul, 1) := by decide +kernel
theorem dX7_work_11 : decode cX7_work 11 = .ok (.istore_n 3, 1) := by decide +kernel
theorem dX7_work_12 : decode cX7_work 12 = .ok (.iload_n 2, 1) := by decide +kernel
theorem dX7_work_13 : decode cX7_work 13 = .ok (.invokestatic 94, 3) := by decide +kernel
theorem dX7_work_16 : decode cX7_work 16 = .ok (.ifCond .le 17, 3) := by decide +kernel
theorem dX7_work_19 : decode cX7_work 19 = .ok (.bipush 40, 2) := by decide +kernel
theorem dX7_work_21 : decode cX7_work 21 = .ok (.aload_n 0, 1) := by decide +kernel
theorem dX7_work_22 : decode cX7_work 22 = .ok (.getfield 19, 3) := by decide +kernel
theorem dX7_work_25 : decode cX7_work 25 = .ok (.iconst 2, 1) := by decide +kernel
theorem dX7_work_26 : decode cX7_work 26 = .ok (.iload_n 1, 1) := by decide +kernel
theorem dX7_work_27 : decode cX7_work 27 = .ok (.imul, 1) := by decide +kernel
theorem dX7_work_28 : decode cX7_work 28 = .ok (.iaload, 1) := by decide +kernel
theorem dX7_work_29 : decode cX7_work 29 = .ok (.imul, 1) := by decide +kernel
theorem dX7_work_30 : decode cX7_work 30 = .ok (.goto 4, 3) := by decide +kernel
theorem dX7_work_33 : decode cX7_work 33 = .ok (.iconst 0, 1) := by decide +kernel
theorem dX7_work_34 : decode cX7_work 34 = .ok (.istore 4, 2) := by decide +kernel
theorem dX7_work_36 : decode cX7_work 36 = .ok (.iload_n 2, 1) := by decide +kernel
theorem dX7_work_37 : decode cX7_work 37 = .ok (.invokestatic 94, 3) := by decide +kernel
theorem dX7_work_40 : decode cX7_work 40 = .ok (.iconst 1, 1) := by decide +kernel
theorem dX7_work_41 : decode cX7_work 41 = .ok (.if_icmp .le 19, 3) := by decide +kernel
theorem dX7_work_44 : decode cX7_work 44 = .ok (.bipush 40, 2) := by decide +kernel
theorem dX7_work_46 : decode cX7_work 46 = .ok (.aload_n 0, 1) := by decide +kernel
theorem dX7_work_47 : decode cX7_work 47 = .ok (.getfield 19, 3) := by decide +kernel
theorem dX7_work_50 : decode cX7_work 50 = .ok (.iconst 2, 1) := by decide +kernel
theorem dX7_work_51 : decode cX7_work 51 = .ok (.iload_n 1, 1) := by decide +kernel
theorem dX7_work_52 : decode cX7_work 52 = .ok (.imul, 1) := by decide +kernel
theorem dX7_work_53 : decode cX7_work 53 = .ok (.iconst 1, 1) := by decide +kernel
theorem dX7_work_54 : decode cX7_work 54 = .ok (.iadd, 1) := by decide +kernel
theorem dX7_work_55 : decode cX7_work 55 = .ok (.iaload, 1) := by decide +kernel
theorem dX7_work_56 : decode cX7_work 56 = .ok (.imul, 1) := by decide +kernel
theorem dX7_work_57 : decode cX7_work 57 = .ok (.goto 4, 3) := by decide +kernel
theorem dX7_work_60 : decode cX7_work 60 = .ok (.iconst 0, 1) := by decide +kernel
theorem dX7_work_61 : decode cX7_work 61 = .ok (.istore 5, 2) := by decide +kernel
theorem dX7_work_63 : decode cX7_work 63 = .ok (.iload_n 2, 1) := by decide +kernel
theorem dX7_work_64 : decode cX7_work 64 = .ok (.invokestatic 94, 3) := by decide +kernel
theorem dX7_work_67 : decode cX7_work 67 = .ok (.ifCond .le 19, 3) := by decide +kernel
theorem dX7_work_70 : decode cX7_work 70 = .ok (.aload_n 0, 1) := by decide +kernel
theorem dX7_work_71 : decode cX7_work 71 = .ok (.getfield 35, 3) := by decide +kernel
theorem dX7_work_74 : decode cX7_work 74 = .ok (.aload_n 0, 1) := by decide +kernel
theorem dX7_work_75 : decode cX7_work 75 = .ok (.getfield 19, 3) := by decide +kernel
theorem dX7_work_78 : decode cX7_work 78 = .ok (.iconst 2, 1) := by decide +kernel
theorem dX7_work_79 : decode cX7_work 79 = .ok (.iload_n 1, 1) := by decide +kernel
theorem dX7_work_80 : decode cX7_work 80 = .ok (.imul, 1) := by decide +kernel
theorem dX7_work_81 : decode cX7_work 81 = .ok (.iaload, 1) := by decide +kernel
theorem dX7_work_82 : decode cX7_work 82 = .ok (.iaload, 1) := by decide +kernel
theorem dX7_work_83 : decode cX7_work 83 = .ok (.goto 4, 3) := by decide +kernel
theorem dX7_work_86 : decode cX7_work 86 = .ok (.iconst 0, 1) := by decide +kernel
theorem dX7_work_87 : decode cX7_work 87 = .ok (.istore 6, 2) := by decide +kernel
theorem dX7_work_89 : decode cX7_work 89 = .ok (.iconst 0, 1) := by decide +kernel
theorem dX7_work_90 : decode cX7_work 90 = .ok (.istore 7, 2) := by decide +kernel
theorem dX7_work_92 : decode cX7_work 92 = .ok (.iconst 0, 1) := by decide +kernel
theorem dX7_work_93 : decode cX7_work 93 = .ok (.istore 8, 2) := by decide +kernel
theorem dX7_work_95 : decode cX7_work 95 = .ok (.iload 8, 2) := by decide +kernel
theorem dX7_work_97 : decode cX7_work 97 = .ok (.iload 6, 2) := by decide +kernel
theorem dX7_work_99 : decode cX7_work 99 = .ok (.if_icmp .ge 24, 3) := by decide +kernel
theorem dX7_work_102 : decode cX7_work 102 = .ok (.iload 7, 2) := by decide +kernel
theorem dX7_work_104 : decode cX7_work 104 = .ok (.aload_n 0, 1) := by decide +kernel
theorem dX7_work_105 : decode cX7_work 105 = .ok (.getfield 68, 3) := by decide +kernel
theorem dX7_work_108 : decode cX7_work 108 = .ok (.iload 4, 2) := by decide +kernel
theorem dX7_work_110 : decode cX7_work 110 = .ok (.iload 8, 2) := by decide +kernel
theorem dX7_work_112 : decode cX7_work 112 = .ok (.iadd, 1) := by decide +kernel
theorem dX7_work_113 : decode cX7_work 113 = .ok (.iaload, 1) := by decide +kernel
theorem dX7_work_114 : decode cX7_work 114 = .ok (.iadd, 1) := by decide +kernel
theorem dX7_work_115 : decode cX7_work 115 = .ok (.istore 7, 2) := by decide +kernel
theorem dX7_work_117 : decode cX7_work 117 = .ok (.iinc 8 1, 3) := by decide +kernel
theorem dX7_work_120 : decode cX7_work 120 = .ok (.goto (-25), 3) := by decide +kernel
theorem dX7_work_123 : decode cX7_work 123 = .ok (.iconst 0, 1) := by decide +kernel
theorem dX7_work_124 : decode cX7_work 124 = .ok (.istore 8, 2) := by decide +kernel
theorem dX7_work_126 : decode cX7_work 126 = .ok (.iload 8, 2) := by decide +kernel
theorem dX7_work_128 : decode cX7_work 128 = .ok (.aload_n 0, 1) := by decide +kernel
theorem dX7_work_129 : decode cX7_work 129 = .ok (.getfield 35, 3) := by decide +kernel
theorem dX7_work_132 : decode cX7_work 132 = .ok (.iload_n 1, 1) := by decide +kernel
theorem dX7_work_133 : decode cX7_work 133 = .ok (.iaload, 1) := by decide +kernel
theorem dX7_work_134 : decode cX7_work 134 = .ok (.if_icmp .ge 269, 3) := by decide +kernel
theorem dX7_work_137 : decode cX7_work 137 = .ok (.iload_n 2, 1) := by decide +kernel
theorem dX7_work_138 : decode cX7_work 138 = .ok (.tableswitch 243 0 6 #[42, 66, 89, 122, 155, 200, 229], 42) := by decide +kernel
theorem dX7_work_180 : decode cX7_work 180 = .ok (.aload_n 0, 1) := by decide +kernel
theorem dX7_work_181 : decode cX7_work 181 = .ok (.getfield 68, 3) := by decide +kernel
theorem dX7_work_184 : decode cX7_work 184 = .ok (.iload_n 3, 1) := by decide +kernel
theorem dX7_work_185 : decode cX7_work 185 = .ok (.iload 8, 2) := by decide +kernel
theorem dX7_work_187 : decode cX7_work 187 = .ok (.iadd, 1) := by decide +kernel
theorem dX7_work_188 : decode cX7_work 188 = .ok (.aload_n 0, 1) := by decide +kernel
theorem dX7_work_189 : decode cX7_work 189 = .ok (.getfield 26, 3) := by decide +kernel
theorem dX7_work_192 : decode cX7_work 192 = .ok (.bipush 16, 2) := by decide +kernel
theorem dX7_work_194 : decode cX7_work 194 = .ok (.iload_n 1, 1) := by decide +kernel
theorem dX7_work_195 : decode cX7_work 195 = .ok (.imul, 1) := by decide +kernel
theorem dX7_work_196 : decode cX7_work 196 = .ok (.iload 8, 2) := by decide +kernel
theorem dX7_work_198 : decode cX7_work 198 = .ok (.iadd, 1) := by decide +kernel
theorem dX7_work_199 : decode cX7_work 199 = .ok (.iaload, 1) := by decide +kernel
theorem dX7_work_200 : decode cX7_work 200 = .ok (.iastore, 1) := by decide +kernel
theorem dX7_work_201 : decode cX7_work 201 = .ok (.goto 196, 3) := by decide +kernel
theorem dX7_work_204 : decode cX7_work 204 = .ok (.aload_n 0, 1) := by decide +kernel
theorem dX7_work_205 : decode cX7_work 205 = .ok (.getfield 68, 3) := by decide +kernel
theorem dX7_work_208 : decode cX7_work 208 = .ok (.iload_n 3, 1) := by decide +kernel
theorem dX7_work_209 : decode cX7_work 209 = .ok (.iload 8, 2) := by decide +kernel
theorem dX7_work_211 : decode cX7_work 211 = .ok (.iadd, 1) := by decide +kernel
theorem dX7_work_212 : decode cX7_work 212 = .ok (.aload_n 0, 1) := by decide +kernel
theorem dX7_work_213 : decode cX7_work 213 = .ok (.getfield 68, 3) := by decide +kernel
theorem dX7_work_216 : decode cX7_work 216 = .ok (.iload 4, 2) := by decide +kernel
theorem dX7_work_218 : decode cX7_work 218 = .ok (.iload 8, 2) := by decide +kernel
theorem dX7_work_220 : decode cX7_work 220 = .ok (.iadd, 1) := by decide +kernel
theorem dX7_work_221 : decode cX7_work 221 = .ok (.iaload, 1) := by decide +kernel
theorem dX7_work_222 : decode cX7_work 222 = .ok (.ineg, 1) := by decide +kernel
theorem dX7_work_223 : decode cX7_work 223 = .ok (.iastore, 1) := by decide +kernel
theorem dX7_work_224 : decode cX7_work 224 = .ok (.goto 173, 3) := by decide +kernel
theorem dX7_work_227 : decode cX7_work 227 = .ok (.aload_n 0, 1) := by decide +kernel
theorem dX7_work_228 : decode cX7_work 228 = .ok (.getfield 68, 3) := by decide +kernel
theorem dX7_work_231 : decode cX7_work 231 = .ok (.iload_n 3, 1) := by decide +kernel
theorem dX7_work_232 : decode cX7_work 232 = .ok (.iload 8, 2) := by decide +kernel
theorem dX7_work_234 : decode cX7_work 234 = .ok (.iadd, 1) := by decide +kernel
theorem dX7_work_235 : decode cX7_work 235 = .ok (.aload_n 0, 1) := by decide +kernel
theorem dX7_work_236 : decode cX7_work 236 = .ok (.getfield 68, 3) := by decide +kernel
theorem dX7_work_239 : decode cX7_work 239 = .ok (.iload 4, 2) := by decide +kernel
theorem dX7_work_241 : decode cX7_work 241 = .ok (.iload 8, 2) := by decide +kernel
theorem dX7_work_243 : decode cX7_work 243 = .ok (.iadd, 1) := by decide +kernel
theorem dX7_work_244 : decode cX7_work 244 = .ok (.iaload, 1) := by decide +kernel
theorem dX7_work_245 : decode cX7_work 245 = .ok (.aload_n 0, 1) := by decide +kernel
theorem dX7_work_246 : decode cX7_work 246 = .ok (.getfield 68, 3) := by decide +kernel
theorem dX7_work_249 : decode cX7_work 249 = .ok (.iload 5, 2) := by decide +kernel
theorem dX7_work_251 : decode cX7_work 251 = .ok (.iload 8, 2) := by decide +kernel
theorem dX7_work_253 : decode cX7_work 253 = .ok (.iadd, 1) := by decide +kernel
theorem dX7_work_254 : decode cX7_work 254 = .ok (.iaload, 1) := by decide +kernel
theorem dX7_work_255 : decode cX7_work 255 = .ok (.iadd, 1) := by decide +kernel
theorem dX7_work_256 : decode cX7_work 256 = .ok (.iastore, 1) := by decide +kernel
theorem dX7_work_257 : decode cX7_work 257 = .ok (.goto 140, 3) := by decide +kernel
theorem dX7_work_260 : decode cX7_work 260 = .ok (.aload_n 0, 1) := by decide +kernel
theorem dX7_work_261 : decode cX7_work 261 = .ok (.getfield 68, 3) := by decide +kernel
theorem dX7_work_264 : decode cX7_work 264 = .ok (.iload_n 3, 1) := by decide +kernel
theorem dX7_work_265 : decode cX7_work 265 = .ok (.iload 8, 2) := by decide +kernel
theorem dX7_work_267 : decode cX7_work 267 = .ok (.iadd, 1) := by decide +kernel
theorem dX7_work_268 : decode cX7_work 268 = .ok (.aload_n 0, 1) := by decide +kernel
theorem dX7_work_269 : decode cX7_work 269 = .ok (.getfield 68, 3) := by decide +kernel
theorem dX7_work_272 : decode cX7_work 272 = .ok (.iload 4, 2) := by decide +kernel
theorem dX7_work_274 : decode cX7_work 274 = .ok (.iload 8, 2) := by decide +kernel
theorem dX7_work_276 : decode cX7_work 276 = .ok (.iadd, 1) := by decide +kernel
theorem dX7_work_277 : decode cX7_work 277 = .ok (.iaload, 1) := by decide +kernel
theorem dX7_work_278 : decode cX7_work 278 = .ok (.aload_n 0, 1) := by decide +kernel
theorem dX7_work_279 : decode cX7_work 279 = .ok (.getfield 68, 3) := by decide +kernel
theorem dX7_work_282 : decode cX7_work 282 = .ok (.iload 5, 2) := by decide +kernel
theorem dX7_work_284 : decode cX7_work 284 = .ok (.iload 8, 2) := by decide +kernel
theorem dX7_work_286 : decode cX7_work 286 = .ok (.iadd, 1) := by decide +kernel
theorem dX7_work_287 : decode cX7_work 287 = .ok (.iaload, 1) := by decide +kernel
theorem dX7_work_288 : decode cX7_work 288 = .ok (.imul, 1) := by decide +kernel
theorem dX7_work_289 : decode cX7_work 289 = .ok (.iastore, 1) := by decide +kernel
theorem dX7_work_290 : decode cX7_work 290 = .ok (.goto 107, 3) := by decide +kernel
theorem dX7_work_293 : decode cX7_work 293 = .ok (.aload_n 0, 1) := by decide +kernel
theorem dX7_work_294 : decode cX7_work 294 = .ok (.getfield 68, 3) := by decide +kernel
theorem dX7_work_297 : decode cX7_work 297 = .ok (.iload_n 3, 1) := by decide +kernel
theorem dX7_work_298 : decode cX7_work 298 = .ok (.iload 8, 2) := by decide +kernel
theorem dX7_work_300 : decode cX7_work 300 = .ok (.iadd, 1) := by decide +kernel
theorem dX7_work_301 : decode cX7_work 301 = .ok (.iload 8, 2) := by decide +kernel
theorem dX7_work_303 : decode cX7_work 303 = .ok (.iload 6, 2) := by decide +kernel
theorem dX7_work_305 : decode cX7_work 305 = .ok (.if_icmp .ge 16, 3) := by decide +kernel
theorem dX7_work_308 : decode cX7_work 308 = .ok (.aload_n 0, 1) := by decide +kernel
theorem dX7_work_309 : decode cX7_work 309 = .ok (.getfield 68, 3) := by decide +kernel
theorem dX7_work_312 : decode cX7_work 312 = .ok (.iload 4, 2) := by decide +kernel
theorem dX7_work_314 : decode cX7_work 314 = .ok (.iload 8, 2) := by decide +kernel
theorem dX7_work_316 : decode cX7_work 316 = .ok (.iadd, 1) := by decide +kernel
theorem dX7_work_317 : decode cX7_work 317 = .ok (.iaload, 1) := by decide +kernel
theorem dX7_work_318 : decode cX7_work 318 = .ok (.goto 16, 3) := by decide +kernel
theorem dX7_work_321 : decode cX7_work 321 = .ok (.aload_n 0, 1) := by decide +kernel
theorem dX7_work_322 : decode cX7_work 322 = .ok (.getfield 68, 3) := by decide +kernel
theorem dX7_work_325 : decode cX7_work 325 = .ok (.iload 5, 2) := by decide +kernel
theorem dX7_work_327 : decode cX7_work 327 = .ok (.iload 8, 2) := by decide +kernel
theorem dX7_work_329 : decode cX7_work 329 = .ok (.iadd, 1) := by decide +kernel
theorem dX7_work_330 : decode cX7_work 330 = .ok (.iload 6, 2) := by decide +kernel
theorem dX7_work_332 : decode cX7_work 332 = .ok (.isub, 1) := by decide +kernel
theorem dX7_work_333 : decode cX7_work 333 = .ok (.iaload, 1) := by decide +kernel
theorem dX7_work_334 : decode cX7_work 334 = .ok (.iastore, 1) := by decide +kernel
theorem dX7_work_335 : decode cX7_work 335 = .ok (.goto 62, 3) := by decide +kernel
theorem dX7_work_338 : decode cX7_work 338 = .ok (.aload_n 0, 1) := by decide +kernel
theorem dX7_work_339 : decode cX7_work 339 = .ok (.getfield 68, 3) := by decide +kernel
theorem dX7_work_342 : decode cX7_work 342 = .ok (.iload_n 3, 1) := by decide +kernel
theorem dX7_work_343 : decode cX7_work 343 = .ok (.iload 8, 2) := by decide +kernel
theorem dX7_work_345 : decode cX7_work 345 = .ok (.iadd, 1) := by decide +kernel
theorem dX7_work_346 : decode cX7_work 346 = .ok (.aload_n 0, 1) := by decide +kernel
theorem dX7_work_347 : decode cX7_work 347 = .ok (.getfield 68, 3) := by decide +kernel
theorem dX7_work_350 : decode cX7_work 350 = .ok (.iload 4, 2) := by decide +kernel
theorem dX7_work_352 : decode cX7_work 352 = .ok (.aload_n 0, 1) := by decide +kernel
theorem dX7_work_353 : decode cX7_work 353 = .ok (.getfield 13, 3) := by decide +kernel
theorem dX7_work_356 : decode cX7_work 356 = .ok (.iload_n 1, 1) := by decide +kernel
theorem dX7_work_357 : decode cX7_work 357 = .ok (.iaload, 1) := by decide +kernel
theorem dX7_work_358 : decode cX7_work 358 = .ok (.iadd, 1) := by decide +kernel
theorem dX7_work_359 : decode cX7_work 359 = .ok (.iload 8, 2) := by decide +kernel
theorem dX7_work_361 : decode cX7_work 361 = .ok (.iadd, 1) := by decide +kernel
theorem dX7_work_362 : decode cX7_work 362 = .ok (.iaload, 1) := by decide +kernel
theorem dX7_work_363 : decode cX7_work 363 = .ok (.iastore, 1) := by decide +kernel
theorem dX7_work_364 : decode cX7_work 364 = .ok (.goto 33, 3) := by decide +kernel
theorem dX7_work_367 : decode cX7_work 367 = .ok (.aload_n 0, 1) := by decide +kernel
theorem dX7_work_368 : decode cX7_work 368 = .ok (.getfield 68, 3) := by decide +kernel
theorem dX7_work_371 : decode cX7_work 371 = .ok (.iload_n 3, 1) := by decide +kernel
theorem dX7_work_372 : decode cX7_work 372 = .ok (.iload 8, 2) := by decide +kernel
theorem dX7_work_374 : decode cX7_work 374 = .ok (.iadd, 1) := by decide +kernel
theorem dX7_work_375 : decode cX7_work 375 = .ok (.iload 7, 2) := by decide +kernel
theorem dX7_work_377 : decode cX7_work 377 = .ok (.iastore, 1) := by decide +kernel
theorem dX7_work_378 : decode cX7_work 378 = .ok (.goto 19, 3) := by decide +kernel
theorem dX7_work_381 : decode cX7_work 381 = .ok (.aload_n 0, 1) := by decide +kernel
theorem dX7_work_382 : decode cX7_work 382 = .ok (.getfield 68, 3) := by decide +kernel
theorem dX7_work_385 : decode cX7_work 385 = .ok (.iload_n 3, 1) := by decide +kernel
theorem dX7_work_386 : decode cX7_work 386 = .ok (.iload 8, 2) := by decide +kernel
theorem dX7_work_388 : decode cX7_work 388 = .ok (.iadd, 1) := by decide +kernel
theorem dX7_work_389 : decode cX7_work 389 = .ok (.aload_n 0, 1) := by decide +kernel
theorem dX7_work_390 : decode cX7_work 390 = .ok (.getfield 68, 3) := by decide +kernel
theorem dX7_work_393 : decode cX7_work 393 = .ok (.iload 4, 2) := by decide +kernel
theorem dX7_work_395 : decode cX7_work 395 = .ok (.iaload, 1) := by decide +kernel
theorem dX7_work_396 : decode cX7_work 396 = .ok (.iastore, 1) := by decide +kernel
theorem dX7_work_397 : decode cX7_work 397 = .ok (.iinc 8 1, 3) := by decide +kernel
theorem dX7_work_400 : decode cX7_work 400 = .ok (.goto (-274), 3) := by decide +kernel
theorem dX7_work_403 : decode cX7_work 403 = .ok (.return_, 1) := by decide +kernel
set_option maxRecDepth 20000 in
theorem ggX7_run_X7_work : GoodIn wsX7_run wsX7_work := goodIn_ca (goodIn_r _ [14, 15, 16, 6, 8, 17, 18, 19, 20, 13, 21, 22, 23, 24, 25, 26, 27, 28, 29, 30, 31, 32, 33, 34, 35, 36, 37, 38, 39, 40, 41, 42, 43, 44, 45, 46, 47, 48, 49, 50, 51] (by decide +kernel) (by decide +kernel)) (goodIn_sub (fun _ h => List.mem_cons_of_mem _ (List.mem_append_right _ h)) (by decide +kernel))
set_option maxRecDepth 20000 in
theorem gX7_run_X7_work : GoodIn wsX7_run (wsV RX7 196 RX7 yX7_work wsX7_work) := goodIn_app (goodIn_of _ (by decide +kernel)) ggX7_run_X7_work
theorem dX7_run_0 : decode cX7_run 0 = .ok (.aload_n 0, 1) := by decide +kernel
theorem dX7_run_1 : decode cX7_run 1 = .ok (.aload_n 0, 1) := by decide +kernel
theorem dX7_run_2 : decode cX7_run 2 = .ok (.getfield 86, 3) := by decide +kernel
theorem dX7_run_5 : decode cX7_run 5 = .ok (.ifCond .eq 7, 3) := by decide +kernel
theorem dX7_run_8 : decode cX7_run 8 = .ok (.iconst 0, 1) := by decide +kernel
theorem dX7_run_9 : decode cX7_run 9 = .ok (.goto 4, 3) := by decide +kernel
theorem dX7_run_12 : decode cX7_run 12 = .ok (.iconst 1, 1) := by decide +kernel
theorem dX7_run_13 : decode cX7_run 13 = .ok (.putfield 71, 3) := by decide +kernel
theorem dX7_run_16 : decode cX7_run 16 = .ok (.aload_n 0, 1) := by decide +kernel
theorem dX7_run_17 : decode cX7_run 17 = .ok (.getfield 86, 3) := by decide +kernel
theorem dX7_run_20 : decode cX7_run 20 = .ok (.ifCond .ne 5, 3) := by decide +kernel
theorem dX7_run_23 : decode cX7_run 23 = .ok (.iconst 0, 1) := by decide +kernel
theorem dX7_run_24 : decode cX7_run 24 = .ok (.ireturn, 1) := by decide +kernel
theorem dX7_run_25 : decode cX7_run 25 = .ok (.iconst 0, 1) := by decide +kernel
theorem dX7_run_26 : decode cX7_run 26 = .ok (.istore_n 1, 1) := by decide +kernel
theorem dX7_run_27 : decode cX7_run 27 = .ok (.iload_n 1, 1) := by decide +kernel
theorem dX7_run_28 : decode cX7_run 28 = .ok (.sipush 480, 3) := by decide +kernel
theorem dX7_run_31 : decode cX7_run 31 = .ok (.if_icmp .ge 16, 3) := by decide +kernel
theorem dX7_run_34 : decode cX7_run 34 = .ok (.aload_n 0, 1) := by decide +kernel
theorem dX7_run_35 : decode cX7_run 35 = .ok (.getfield 65, 3) := by decide +kernel
theorem dX7_run_38 : decode cX7_run 38 = .ok (.iload_n 1, 1) := by decide +kernel
theorem dX7_run_39 : decode cX7_run 39 = .ok (.iconst 0, 1) := by decide +kernel
theorem dX7_run_40 : decode cX7_run 40 = .ok (.iastore, 1) := by decide +kernel
theorem dX7_run_41 : decode cX7_run 41 = .ok (.iinc 1 1, 3) := by decide +kernel
theorem dX7_run_44 : decode cX7_run 44 = .ok (.goto (-17), 3) := by decide +kernel
theorem dX7_run_47 : decode cX7_run 47 = .ok (.iconst 0, 1) := by decide +kernel
theorem dX7_run_48 : decode cX7_run 48 = .ok (.istore_n 1, 1) := by decide +kernel
theorem dX7_run_49 : decode cX7_run 49 = .ok (.iconst 0, 1) := by decide +kernel
theorem dX7_run_50 : decode cX7_run 50 = .ok (.istore_n 2, 1) := by decide +kernel
theorem dX7_run_51 : decode cX7_run 51 = .ok (.iload_n 2, 1) := by decide +kernel
theorem dX7_run_52 : decode cX7_run 52 = .ok (.aload_n 0, 1) := by decide +kernel
theorem dX7_run_53 : decode cX7_run 53 = .ok (.getfield 75, 3) := by decide +kernel
theorem dX7_run_56 : decode cX7_run 56 = .ok (.if_icmp .ge 76, 3) := by decide +kernel
theorem dX7_run_59 : decode cX7_run 59 = .ok (.aload_n 0, 1) := by decide +kernel
theorem dX7_run_60 : decode cX7_run 60 = .ok (.getfield 41, 3) := by decide +kernel
theorem dX7_run_63 : decode cX7_run 63 = .ok (.iload_n 2, 1) := by decide +kernel
theorem dX7_run_64 : decode cX7_run 64 = .ok (.iaload, 1) := by decide +kernel
theorem dX7_run_65 : decode cX7_run 65 = .ok (.istore_n 3, 1) := by decide +kernel
theorem dX7_run_66 : decode cX7_run 66 = .ok (.aload_n 0, 1) := by decide +kernel
theorem dX7_run_67 : decode cX7_run 67 = .ok (.iload_n 3, 1) := by decide +kernel
theorem dX7_run_68 : decode cX7_run 68 = .ok (.invokevirtual 196, 3) := by decide +kernel
theorem dX7_run_71 : decode cX7_run 71 = .ok (.iconst 0, 1) := by decide +kernel
theorem dX7_run_72 : decode cX7_run 72 = .ok (.istore 4, 2) := by decide +kernel
theorem dX7_run_74 : decode cX7_run 74 = .ok (.iload 4, 2) := by decide +kernel
theorem dX7_run_76 : decode cX7_run 76 = .ok (.aload_n 0, 1) := by decide +kernel
theorem dX7_run_77 : decode cX7_run 77 = .ok (.getfield 35, 3) := by decide +kernel
theorem dX7_run_80 : decode cX7_run 80 = .ok (.iload_n 3, 1) := by decide +kernel
theorem dX7_run_81 : decode cX7_run 81 = .ok (.iaload, 1) := by decide +kernel
theorem dX7_run_82 : decode cX7_run 82 = .ok (.if_icmp .ge 35, 3) := by decide +kernel
theorem dX7_run_85 : decode cX7_run 85 = .ok (.aload_n 0, 1) := by decide +kernel
theorem dX7_run_86 : decode cX7_run 86 = .ok (.getfield 65, 3) := by decide +kernel
theorem dX7_run_89 : decode cX7_run 89 = .ok (.aload_n 0, 1) := by decide +kernel
theorem dX7_run_90 : decode cX7_run 90 = .ok (.getfield 50, 3) := by decide +kernel
theorem dX7_run_93 : decode cX7_run 93 = .ok (.iload_n 3, 1) := by decide +kernel
theorem dX7_run_94 : decode cX7_run 94 = .ok (.iaload, 1) := by decide +kernel
theorem dX7_run_95 : decode cX7_run 95 = .ok (.iload 4, 2) := by decide +kernel
theorem dX7_run_97 : decode cX7_run 97 = .ok (.iadd, 1) := by decide +kernel
theorem dX7_run_98 : decode cX7_run 98 = .ok (.aload_n 0, 1) := by decide +kernel
theorem dX7_run_99 : decode cX7_run 99 = .ok (.getfield 68, 3) := by decide +kernel
theorem dX7_run_102 : decode cX7_run 102 = .ok (.bipush 40, 2) := by decide +kernel
theorem dX7_run_104 : decode cX7_run 104 = .ok (.iload_n 3, 1) := by decide +kernel
theorem dX7_run_105 : decode cX7_run 105 = .ok (.imul, 1) := by decide +kernel
theorem dX7_run_106 : decode cX7_run 106 = .ok (.iload 4, 2) := by decide +kernel
theorem dX7_run_108 : decode cX7_run 108 = .ok (.iadd, 1) := by decide +kernel
theorem dX7_run_109 : decode cX7_run 109 = .ok (.iaload, 1) := by decide +kernel
theorem dX7_run_110 : decode cX7_run 110 = .ok (.iastore, 1) := by decide +kernel
theorem dX7_run_111 : decode cX7_run 111 = .ok (.iinc 4 1, 3) := by decide +kernel
theorem dX7_run_114 : decode cX7_run 114 = .ok (.goto (-40), 3) := by decide +kernel
theorem dX7_run_117 : decode cX7_run 117 = .ok (.iload_n 1, 1) := by decide +kernel
theorem dX7_run_118 : decode cX7_run 118 = .ok (.aload_n 0, 1) := by decide +kernel
theorem dX7_run_119 : decode cX7_run 119 = .ok (.getfield 35, 3) := by decide +kernel
theorem dX7_run_122 : decode cX7_run 122 = .ok (.iload_n 3, 1) := by decide +kernel
theorem dX7_run_123 : decode cX7_run 123 = .ok (.iaload, 1) := by decide +kernel
theorem dX7_run_124 : decode cX7_run 124 = .ok (.iadd, 1) := by decide +kernel
theorem dX7_run_125 : decode cX7_run 125 = .ok (.istore_n 1, 1) := by decide +kernel
theorem dX7_run_126 : decode cX7_run 126 = .ok (.iinc 2 1, 3) := by decide +kernel
theorem dX7_run_129 : decode cX7_run 129 = .ok (.goto (-78), 3) := by decide +kernel
theorem dX7_run_132 : decode cX7_run 132 = .ok (.aload_n 0, 1) := by decide +kernel
theorem dX7_run_133 : decode cX7_run 133 = .ok (.iconst 1, 1) := by decide +kernel
theorem dX7_run_134 : decode cX7_run 134 = .ok (.putfield 175, 3) := by decide +kernel
theorem dX7_run_137 : decode cX7_run 137 = .ok (.iload_n 1, 1) := by decide +kernel
theorem dX7_run_138 : decode cX7_run 138 = .ok (.ireturn, 1) := by decide +kernel
theorem dX7_cell_0 : decode cX7_cell 0 = .ok (.aload_n 0, 1) := by decide +kernel
theorem dX7_cell_1 : decode cX7_cell 1 = .ok (.aload_n 0, 1) := by decide +kernel
theorem dX7_cell_2 : decode cX7_cell 2 = .ok (.getfield 86, 3) := by decide +kernel
theorem dX7_cell_5 : decode cX7_cell 5 = .ok (.ifCond .eq 10, 3) := by decide +kernel
theorem dX7_cell_8 : decode cX7_cell 8 = .ok (.aload_n 0, 1) := by decide +kernel
theorem dX7_cell_9 : decode cX7_cell 9 = .ok (.getfield 175, 3) := by decide +kernel
theorem dX7_cell_12 : decode cX7_cell 12 = .ok (.ifCond .ne 7, 3) := by decide +kernel
theorem dX7_cell_15 : decode cX7_cell 15 = .ok (.iconst 1, 1) := by decide +kernel
theorem dX7_cell_16 : decode cX7_cell 16 = .ok (.goto 20, 3) := by decide +kernel
theorem dX7_cell_19 : decode cX7_cell 19 = .ok (.iload_n 1, 1) := by decide +kernel
theorem dX7_cell_20 : decode cX7_cell 20 = .ok (.ifCond .lt 11, 3) := by decide +kernel
theorem dX7_cell_23 : decode cX7_cell 23 = .ok (.iload_n 1, 1) := by decide +kernel
theorem dX7_cell_24 : decode cX7_cell 24 = .ok (.aload_n 0, 1) := by decide +kernel
theorem dX7_cell_25 : decode cX7_cell 25 = .ok (.getfield 143, 3) := by decide +kernel
theorem dX7_cell_28 : decode cX7_cell 28 = .ok (.if_icmp .lt 7, 3) := by decide +kernel
theorem dX7_cell_31 : decode cX7_cell 31 = .ok (.iconst 2, 1) := by decide +kernel
theorem dX7_cell_32 : decode cX7_cell 32 = .ok (.goto 4, 3) := by decide +kernel
theorem dX7_cell_35 : decode cX7_cell 35 = .ok (.iconst 0, 1) := by decide +kernel
theorem dX7_cell_36 : decode cX7_cell 36 = .ok (.putfield 71, 3) := by decide +kernel
theorem dX7_cell_39 : decode cX7_cell 39 = .ok (.aload_n 0, 1) := by decide +kernel
theorem dX7_cell_40 : decode cX7_cell 40 = .ok (.getfield 71, 3) := by decide +kernel
theorem dX7_cell_43 : decode cX7_cell 43 = .ok (.ifCond .ne 12, 3) := by decide +kernel
theorem dX7_cell_46 : decode cX7_cell 46 = .ok (.aload_n 0, 1) := by decide +kernel
theorem dX7_cell_47 : decode cX7_cell 47 = .ok (.getfield 65, 3) := by decide +kernel
theorem dX7_cell_50 : decode cX7_cell 50 = .ok (.iload_n 1, 1) := by decide +kernel
theorem dX7_cell_51 : decode cX7_cell 51 = .ok (.iaload, 1) := by decide +kernel
theorem dX7_cell_52 : decode cX7_cell 52 = .ok (.goto 4, 3) := by decide +kernel
theorem dX7_cell_55 : decode cX7_cell 55 = .ok (.iconst 0, 1) := by decide +kernel
theorem dX7_cell_56 : decode cX7_cell 56 = .ok (.ireturn, 1) := by decide +kernel
set_option maxRecDepth 20000 in
theorem ggX7_result_X7_isNode : GoodIn wsX7_result wsX7_isNode := goodIn_r _ [11, 12, 13, 14, 15, 16, 17, 18, 19, 20, 21, 22, 23, 24, 25, 26, 27, 28, 29, 30, 31, 32, 33, 34, 35, 36, 37, 38, 39, 40, 41, 42] (by decide +kernel) (by decide +kernel)
set_option maxRecDepth 20000 in
theorem gX7_result_X7_isNode : GoodIn wsX7_result (wsV RX7 90 RX7 yX7_isNode wsX7_isNode) := goodIn_app (goodIn_of _ (by decide +kernel)) ggX7_result_X7_isNode
theorem dX7_result_0 : decode cX7_result 0 = .ok (.aload_n 0, 1) := by decide +kernel
theorem dX7_result_1 : decode cX7_result 1 = .ok (.aload_n 0, 1) := by decide +kernel
theorem dX7_result_2 : decode cX7_result 2 = .ok (.getfield 86, 3) := by decide +kernel
theorem dX7_result_5 : decode cX7_result 5 = .ok (.ifCond .eq 10, 3) := by decide +kernel
theorem dX7_result_8 : decode cX7_result 8 = .ok (.aload_n 0, 1) := by decide +kernel
theorem dX7_result_9 : decode cX7_result 9 = .ok (.getfield 175, 3) := by decide +kernel
theorem dX7_result_12 : decode cX7_result 12 = .ok (.ifCond .ne 7, 3) := by decide +kernel
theorem dX7_result_15 : decode cX7_result 15 = .ok (.iconst 1, 1) := by decide +kernel
theorem dX7_result_16 : decode cX7_result 16 = .ok (.goto 43, 3) := by decide +kernel
theorem dX7_result_19 : decode cX7_result 19 = .ok (.aload_n 0, 1) := by decide +kernel
theorem dX7_result_20 : decode cX7_result 20 = .ok (.iload_n 1, 1) := by decide +kernel
theorem dX7_result_21 : decode cX7_result 21 = .ok (.invokevirtual 90, 3) := by decide +kernel
theorem dX7_result_24 : decode cX7_result 24 = .ok (.ifCond .eq 12, 3) := by decide +kernel
theorem dX7_result_27 : decode cX7_result 27 = .ok (.aload_n 0, 1) := by decide +kernel
theorem dX7_result_28 : decode cX7_result 28 = .ok (.getfield 22, 3) := by decide +kernel
theorem dX7_result_31 : decode cX7_result 31 = .ok (.iload_n 1, 1) := by decide +kernel
theorem dX7_result_32 : decode cX7_result 32 = .ok (.baload, 1) := by decide +kernel
theorem dX7_result_33 : decode cX7_result 33 = .ok (.ifCond .ne 7, 3) := by decide +kernel
theorem dX7_result_36 : decode cX7_result 36 = .ok (.iconst 2, 1) := by decide +kernel
theorem dX7_result_37 : decode cX7_result 37 = .ok (.goto 22, 3) := by decide +kernel
theorem dX7_result_40 : decode cX7_result 40 = .ok (.iload_n 2, 1) := by decide +kernel
theorem dX7_result_41 : decode cX7_result 41 = .ok (.ifCond .lt 13, 3) := by decide +kernel
theorem dX7_result_44 : decode cX7_result 44 = .ok (.iload_n 2, 1) := by decide +kernel
theorem dX7_result_45 : decode cX7_result 45 = .ok (.aload_n 0, 1) := by decide +kernel
theorem dX7_result_46 : decode cX7_result 46 = .ok (.getfield 35, 3) := by decide +kernel
theorem dX7_result_49 : decode cX7_result 49 = .ok (.iload_n 1, 1) := by decide +kernel
theorem dX7_result_50 : decode cX7_result 50 = .ok (.iaload, 1) := by decide +kernel
theorem dX7_result_51 : decode cX7_result 51 = .ok (.if_icmp .lt 7, 3) := by decide +kernel
theorem dX7_result_54 : decode cX7_result 54 = .ok (.iconst 3, 1) := by decide +kernel
theorem dX7_result_55 : decode cX7_result 55 = .ok (.goto 4, 3) := by decide +kernel
theorem dX7_result_58 : decode cX7_result 58 = .ok (.iconst 0, 1) := by decide +kernel
theorem dX7_result_59 : decode cX7_result 59 = .ok (.putfield 71, 3) := by decide +kernel
theorem dX7_result_62 : decode cX7_result 62 = .ok (.aload_n 0, 1) := by decide +kernel
theorem dX7_result_63 : decode cX7_result 63 = .ok (.getfield 71, 3) := by decide +kernel
theorem dX7_result_66 : decode cX7_result 66 = .ok (.ifCond .ne 17, 3) := by decide +kernel
theorem dX7_result_69 : decode cX7_result 69 = .ok (.aload_n 0, 1) := by decide +kernel
theorem dX7_result_70 : decode cX7_result 70 = .ok (.getfield 68, 3) := by decide +kernel
theorem dX7_result_73 : decode cX7_result 73 = .ok (.bipush 40, 2) := by decide +kernel
theorem dX7_result_75 : decode cX7_result 75 = .ok (.iload_n 1, 1) := by decide +kernel
theorem dX7_result_76 : decode cX7_result 76 = .ok (.imul, 1) := by decide +kernel
theorem dX7_result_77 : decode cX7_result 77 = .ok (.iload_n 2, 1) := by decide +kernel
theorem dX7_result_78 : decode cX7_result 78 = .ok (.iadd, 1) := by decide +kernel
theorem dX7_result_79 : decode cX7_result 79 = .ok (.iaload, 1) := by decide +kernel
theorem dX7_result_80 : decode cX7_result 80 = .ok (.goto 4, 3) := by decide +kernel
theorem dX7_result_83 : decode cX7_result 83 = .ok (.iconst 0, 1) := by decide +kernel
theorem dX7_result_84 : decode cX7_result 84 = .ok (.ireturn, 1) := by decide +kernel
