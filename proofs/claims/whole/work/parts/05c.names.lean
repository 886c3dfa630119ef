theorem dX0_init_0 : decode cX0_init 0 = .ok (.aload_n 0, 1) := by decide +kernel
theorem dX0_init_1 : decode cX0_init 1 = .ok (.invokespecial 3, 3) := by decide +kernel
theorem dX0_init_4 : decode cX0_init 4 = .ok (.aload_n 0, 1) := by decide +kernel
theorem dX0_init_5 : decode cX0_init 5 = .ok (.sipush 480, 3) := by decide +kernel
theorem dX0_init_8 : decode cX0_init 8 = .ok (.newarray .int, 2) := by decide +kernel
theorem dX0_init_10 : decode cX0_init 10 = .ok (.putfield 9, 3) := by decide +kernel
theorem dX0_init_13 : decode cX0_init 13 = .ok (.aload_n 0, 1) := by decide +kernel
theorem dX0_init_14 : decode cX0_init 14 = .ok (.aload_n 1, 1) := by decide +kernel
theorem dX0_init_15 : decode cX0_init 15 = .ok (.putfield 15, 3) := by decide +kernel
theorem dX0_init_18 : decode cX0_init 18 = .ok (.aload_n 0, 1) := by decide +kernel
theorem dX0_init_19 : decode cX0_init 19 = .ok (.aload_n 1, 1) := by decide +kernel
theorem dX0_init_20 : decode cX0_init 20 = .ok (.getfield 19, 3) := by decide +kernel
theorem dX0_init_23 : decode cX0_init 23 = .ok (.putfield 25, 3) := by decide +kernel
theorem dX0_init_26 : decode cX0_init 26 = .ok (.aload_n 0, 1) := by decide +kernel
theorem dX0_init_27 : decode cX0_init 27 = .ok (.aload_n 1, 1) := by decide +kernel
theorem dX0_init_28 : decode cX0_init 28 = .ok (.getfield 19, 3) := by decide +kernel
theorem dX0_init_31 : decode cX0_init 31 = .ok (.getfield 26, 3) := by decide +kernel
theorem dX0_init_34 : decode cX0_init 34 = .ok (.putfield 32, 3) := by decide +kernel
theorem dX0_init_37 : decode cX0_init 37 = .ok (.return_, 1) := by decide +kernel
set_option maxRecDepth 20000 in
theorem ggX0_work_J7_fill_53178 : GoodIn wsX0_work wsJ7_fill_53178 := goodIn_r _ [11] (by decide +kernel) (by decide +kernel)
set_option maxRecDepth 20000 in
theorem gX0_work_J7_fill_53178 : GoodIn wsX0_work (va_wsS RX0 33 yJ7_fill_53178 wsJ7_fill_53178) := goodIn_app (goodIn_of _ (by decide +kernel)) ggX0_work_J7_fill_53178
set_option maxRecDepth 20000 in
theorem ggX0_work_X0_workOut : GoodIn wsX0_work wsX0_workOut := goodIn_ca (goodIn_r _ [16, 17, 18, 19, 20, 2, 5, 21, 22, 23, 24, 15, 25, 1, 6, 7, 26, 27, 28, 29, 30, 31, 32, 33, 50, 51, 52, 53, 54, 55, 56, 34, 35, 36, 37, 38, 39, 40, 41, 42, 43, 44, 45, 46, 47, 48, 49] (by decide +kernel) (by decide +kernel)) (goodIn_sub (fun _ h => List.mem_cons_of_mem _ (List.mem_append_right _ h)) (by decide +kernel))
set_option maxRecDepth 20000 in
theorem gX0_work_X0_workOut : GoodIn wsX0_work (wsV RX0 52 RX0 yX0_workOut wsX0_workOut) := goodIn_app (goodIn_of _ (by decide +kernel)) ggX0_work_X0_workOut
theorem dX0_work_0 : decode cX0_work 0 = .ok (.aload_n 0, 1) := by decide +kernel
theorem dX0_work_1 : decode cX0_work 1 = .ok (.getfield 9, 3) := by decide +kernel
theorem dX0_work_4 : decode cX0_work 4 = .ok (.iconst 0, 1) := by decide +kernel
theorem dX0_work_5 : decode cX0_work 5 = .ok (.invokestatic 33, 3) := by decide +kernel
theorem dX0_work_8 : decode cX0_work 8 = .ok (.iconst 0, 1) := by decide +kernel
theorem dX0_work_9 : decode cX0_work 9 = .ok (.istore_n 1, 1) := by decide +kernel
theorem dX0_work_10 : decode cX0_work 10 = .ok (.iconst 0, 1) := by decide +kernel
theorem dX0_work_11 : decode cX0_work 11 = .ok (.istore_n 2, 1) := by decide +kernel
theorem dX0_work_12 : decode cX0_work 12 = .ok (.iload_n 2, 1) := by decide +kernel
theorem dX0_work_13 : decode cX0_work 13 = .ok (.aload_n 0, 1) := by decide +kernel
theorem dX0_work_14 : decode cX0_work 14 = .ok (.getfield 25, 3) := by decide +kernel
theorem dX0_work_17 : decode cX0_work 17 = .ok (.getfield 39, 3) := by decide +kernel
theorem dX0_work_20 : decode cX0_work 20 = .ok (.if_icmp .ge 78, 3) := by decide +kernel
theorem dX0_work_23 : decode cX0_work 23 = .ok (.aload_n 0, 1) := by decide +kernel
theorem dX0_work_24 : decode cX0_work 24 = .ok (.getfield 25, 3) := by decide +kernel
theorem dX0_work_27 : decode cX0_work 27 = .ok (.getfield 43, 3) := by decide +kernel
theorem dX0_work_30 : decode cX0_work 30 = .ok (.iload_n 2, 1) := by decide +kernel
theorem dX0_work_31 : decode cX0_work 31 = .ok (.iaload, 1) := by decide +kernel
theorem dX0_work_32 : decode cX0_work 32 = .ok (.istore_n 3, 1) := by decide +kernel
theorem dX0_work_33 : decode cX0_work 33 = .ok (.iconst 0, 1) := by decide +kernel
theorem dX0_work_34 : decode cX0_work 34 = .ok (.istore 4, 2) := by decide +kernel
theorem dX0_work_36 : decode cX0_work 36 = .ok (.iload 4, 2) := by decide +kernel
theorem dX0_work_38 : decode cX0_work 38 = .ok (.aload_n 0, 1) := by decide +kernel
theorem dX0_work_39 : decode cX0_work 39 = .ok (.getfield 25, 3) := by decide +kernel
theorem dX0_work_42 : decode cX0_work 42 = .ok (.getfield 46, 3) := by decide +kernel
theorem dX0_work_45 : decode cX0_work 45 = .ok (.iload_n 3, 1) := by decide +kernel
theorem dX0_work_46 : decode cX0_work 46 = .ok (.iaload, 1) := by decide +kernel
theorem dX0_work_47 : decode cX0_work 47 = .ok (.if_icmp .ge 33, 3) := by decide +kernel
theorem dX0_work_50 : decode cX0_work 50 = .ok (.aload_n 0, 1) := by decide +kernel
theorem dX0_work_51 : decode cX0_work 51 = .ok (.getfield 9, 3) := by decide +kernel
theorem dX0_work_54 : decode cX0_work 54 = .ok (.aload_n 0, 1) := by decide +kernel
theorem dX0_work_55 : decode cX0_work 55 = .ok (.getfield 15, 3) := by decide +kernel
theorem dX0_work_58 : decode cX0_work 58 = .ok (.getfield 49, 3) := by decide +kernel
theorem dX0_work_61 : decode cX0_work 61 = .ok (.iload_n 3, 1) := by decide +kernel
theorem dX0_work_62 : decode cX0_work 62 = .ok (.iaload, 1) := by decide +kernel
theorem dX0_work_63 : decode cX0_work 63 = .ok (.iload 4, 2) := by decide +kernel
theorem dX0_work_65 : decode cX0_work 65 = .ok (.iadd, 1) := by decide +kernel
theorem dX0_work_66 : decode cX0_work 66 = .ok (.aload_n 0, 1) := by decide +kernel
theorem dX0_work_67 : decode cX0_work 67 = .ok (.iload_n 3, 1) := by decide +kernel
theorem dX0_work_68 : decode cX0_work 68 = .ok (.iload 4, 2) := by decide +kernel
theorem dX0_work_70 : decode cX0_work 70 = .ok (.invokevirtual 52, 3) := by decide +kernel
theorem dX0_work_73 : decode cX0_work 73 = .ok (.iastore, 1) := by decide +kernel
theorem dX0_work_74 : decode cX0_work 74 = .ok (.iinc 4 1, 3) := by decide +kernel
theorem dX0_work_77 : decode cX0_work 77 = .ok (.goto (-41), 3) := by decide +kernel
theorem dX0_work_80 : decode cX0_work 80 = .ok (.iload_n 1, 1) := by decide +kernel
theorem dX0_work_81 : decode cX0_work 81 = .ok (.aload_n 0, 1) := by decide +kernel
theorem dX0_work_82 : decode cX0_work 82 = .ok (.getfield 25, 3) := by decide +kernel
theorem dX0_work_85 : decode cX0_work 85 = .ok (.getfield 46, 3) := by decide +kernel
theorem dX0_work_88 : decode cX0_work 88 = .ok (.iload_n 3, 1) := by decide +kernel
theorem dX0_work_89 : decode cX0_work 89 = .ok (.iaload, 1) := by decide +kernel
theorem dX0_work_90 : decode cX0_work 90 = .ok (.iadd, 1) := by decide +kernel
theorem dX0_work_91 : decode cX0_work 91 = .ok (.istore_n 1, 1) := by decide +kernel
theorem dX0_work_92 : decode cX0_work 92 = .ok (.iinc 2 1, 3) := by decide +kernel
theorem dX0_work_95 : decode cX0_work 95 = .ok (.goto (-83), 3) := by decide +kernel
theorem dX0_work_98 : decode cX0_work 98 = .ok (.iload_n 1, 1) := by decide +kernel
theorem dX0_work_99 : decode cX0_work 99 = .ok (.ireturn, 1) := by decide +kernel
set_option maxRecDepth 20000 in
theorem ggX0_workOut_X0_valueOf : GoodIn wsX0_workOut wsX0_valueOf := goodIn_ca (goodIn_r _ [12, 13, 14, 15, 20, 21, 22, 23, 43, 44, 45, 46] (by decide +kernel) (by decide +kernel)) (goodIn_sub (fun _ h => List.mem_cons_of_mem _ (List.mem_append_right _ h)) (by decide +kernel))
set_option maxRecDepth 20000 in
theorem gX0_workOut_X0_valueOf : GoodIn wsX0_workOut (wsV RX0 68 RX0 yX0_valueOf wsX0_valueOf) := goodIn_app (goodIn_of _ (by decide +kernel)) ggX0_workOut_X0_valueOf
set_option maxRecDepth 20000 in
theorem ggX0_workOut_X0_totalOf : GoodIn wsX0_workOut wsX0_totalOf := goodIn_ca (goodIn_r _ [19, 5, 6, 8, 9, 10, 11, 12, 13, 14, 15, 20, 21, 22, 23, 31, 32, 33, 34, 35, 36, 37, 38, 39, 40, 41, 42, 43, 44, 45, 46] (by decide +kernel) (by decide +kernel)) (goodIn_sub (fun _ h => List.mem_cons_of_mem _ (List.mem_append_right _ h)) (by decide +kernel))
set_option maxRecDepth 20000 in
theorem gX0_workOut_X0_totalOf : GoodIn wsX0_workOut (wsV RX0 74 RX0 yX0_totalOf wsX0_totalOf) := goodIn_app (goodIn_of _ (by decide +kernel)) ggX0_workOut_X0_totalOf
theorem dX0_workOut_0 : decode cX0_workOut 0 = .ok (.aload_n 0, 1) := by decide +kernel
theorem dX0_workOut_1 : decode cX0_workOut 1 = .ok (.getfield 32, 3) := by decide +kernel
theorem dX0_workOut_4 : decode cX0_workOut 4 = .ok (.getfield 56, 3) := by decide +kernel
theorem dX0_workOut_7 : decode cX0_workOut 7 = .ok (.iload_n 1, 1) := by decide +kernel
theorem dX0_workOut_8 : decode cX0_workOut 8 = .ok (.aaload, 1) := by decide +kernel
theorem dX0_workOut_9 : decode cX0_workOut 9 = .ok (.iconst 0, 1) := by decide +kernel
theorem dX0_workOut_10 : decode cX0_workOut 10 = .ok (.iaload, 1) := by decide +kernel
theorem dX0_workOut_11 : decode cX0_workOut 11 = .ok (.istore_n 3, 1) := by decide +kernel
theorem dX0_workOut_12 : decode cX0_workOut 12 = .ok (.aload_n 0, 1) := by decide +kernel
theorem dX0_workOut_13 : decode cX0_workOut 13 = .ok (.getfield 32, 3) := by decide +kernel
theorem dX0_workOut_16 : decode cX0_workOut 16 = .ok (.getfield 56, 3) := by decide +kernel
theorem dX0_workOut_19 : decode cX0_workOut 19 = .ok (.iload_n 1, 1) := by decide +kernel
theorem dX0_workOut_20 : decode cX0_workOut 20 = .ok (.aaload, 1) := by decide +kernel
theorem dX0_workOut_21 : decode cX0_workOut 21 = .ok (.iconst 1, 1) := by decide +kernel
theorem dX0_workOut_22 : decode cX0_workOut 22 = .ok (.iaload, 1) := by decide +kernel
theorem dX0_workOut_23 : decode cX0_workOut 23 = .ok (.istore 4, 2) := by decide +kernel
theorem dX0_workOut_25 : decode cX0_workOut 25 = .ok (.aload_n 0, 1) := by decide +kernel
theorem dX0_workOut_26 : decode cX0_workOut 26 = .ok (.getfield 32, 3) := by decide +kernel
theorem dX0_workOut_29 : decode cX0_workOut 29 = .ok (.getfield 62, 3) := by decide +kernel
theorem dX0_workOut_32 : decode cX0_workOut 32 = .ok (.iload_n 1, 1) := by decide +kernel
theorem dX0_workOut_33 : decode cX0_workOut 33 = .ok (.iaload, 1) := by decide +kernel
theorem dX0_workOut_34 : decode cX0_workOut 34 = .ok (.tableswitch 152 0 6 #[42, 54, 62, 77, 92, 129, 146], 42) := by decide +kernel
theorem dX0_workOut_76 : decode cX0_workOut 76 = .ok (.aload_n 0, 1) := by decide +kernel
theorem dX0_workOut_77 : decode cX0_workOut 77 = .ok (.getfield 32, 3) := by decide +kernel
theorem dX0_workOut_80 : decode cX0_workOut 80 = .ok (.getfield 65, 3) := by decide +kernel
theorem dX0_workOut_83 : decode cX0_workOut 83 = .ok (.iload_n 1, 1) := by decide +kernel
theorem dX0_workOut_84 : decode cX0_workOut 84 = .ok (.aaload, 1) := by decide +kernel
theorem dX0_workOut_85 : decode cX0_workOut 85 = .ok (.iload_n 2, 1) := by decide +kernel
theorem dX0_workOut_86 : decode cX0_workOut 86 = .ok (.iaload, 1) := by decide +kernel
theorem dX0_workOut_87 : decode cX0_workOut 87 = .ok (.ireturn, 1) := by decide +kernel
theorem dX0_workOut_88 : decode cX0_workOut 88 = .ok (.aload_n 0, 1) := by decide +kernel
theorem dX0_workOut_89 : decode cX0_workOut 89 = .ok (.iload_n 3, 1) := by decide +kernel
theorem dX0_workOut_90 : decode cX0_workOut 90 = .ok (.iload_n 2, 1) := by decide +kernel
theorem dX0_workOut_91 : decode cX0_workOut 91 = .ok (.invokevirtual 68, 3) := by decide +kernel
theorem dX0_workOut_94 : decode cX0_workOut 94 = .ok (.ineg, 1) := by decide +kernel
theorem dX0_workOut_95 : decode cX0_workOut 95 = .ok (.ireturn, 1) := by decide +kernel
theorem dX0_workOut_96 : decode cX0_workOut 96 = .ok (.aload_n 0, 1) := by decide +kernel
theorem dX0_workOut_97 : decode cX0_workOut 97 = .ok (.iload_n 3, 1) := by decide +kernel
theorem dX0_workOut_98 : decode cX0_workOut 98 = .ok (.iload_n 2, 1) := by decide +kernel
theorem dX0_workOut_99 : decode cX0_workOut 99 = .ok (.invokevirtual 68, 3) := by decide +kernel
theorem dX0_workOut_102 : decode cX0_workOut 102 = .ok (.aload_n 0, 1) := by decide +kernel
theorem dX0_workOut_103 : decode cX0_workOut 103 = .ok (.iload 4, 2) := by decide +kernel
theorem dX0_workOut_105 : decode cX0_workOut 105 = .ok (.iload_n 2, 1) := by decide +kernel
theorem dX0_workOut_106 : decode cX0_workOut 106 = .ok (.invokevirtual 68, 3) := by decide +kernel
theorem dX0_workOut_109 : decode cX0_workOut 109 = .ok (.iadd, 1) := by decide +kernel
theorem dX0_workOut_110 : decode cX0_workOut 110 = .ok (.ireturn, 1) := by decide +kernel
theorem dX0_workOut_111 : decode cX0_workOut 111 = .ok (.aload_n 0, 1) := by decide +kernel
theorem dX0_workOut_112 : decode cX0_workOut 112 = .ok (.iload_n 3, 1) := by decide +kernel
theorem dX0_workOut_113 : decode cX0_workOut 113 = .ok (.iload_n 2, 1) := by decide +kernel
theorem dX0_workOut_114 : decode cX0_workOut 114 = .ok (.invokevirtual 68, 3) := by decide +kernel
theorem dX0_workOut_117 : decode cX0_workOut 117 = .ok (.aload_n 0, 1) := by decide +kernel
theorem dX0_workOut_118 : decode cX0_workOut 118 = .ok (.iload 4, 2) := by decide +kernel
theorem dX0_workOut_120 : decode cX0_workOut 120 = .ok (.iload_n 2, 1) := by decide +kernel
theorem dX0_workOut_121 : decode cX0_workOut 121 = .ok (.invokevirtual 68, 3) := by decide +kernel
theorem dX0_workOut_124 : decode cX0_workOut 124 = .ok (.imul, 1) := by decide +kernel
theorem dX0_workOut_125 : decode cX0_workOut 125 = .ok (.ireturn, 1) := by decide +kernel
theorem dX0_workOut_126 : decode cX0_workOut 126 = .ok (.aload_n 0, 1) := by decide +kernel
theorem dX0_workOut_127 : decode cX0_workOut 127 = .ok (.getfield 25, 3) := by decide +kernel
theorem dX0_workOut_130 : decode cX0_workOut 130 = .ok (.getfield 46, 3) := by decide +kernel
theorem dX0_workOut_133 : decode cX0_workOut 133 = .ok (.iload_n 3, 1) := by decide +kernel
theorem dX0_workOut_134 : decode cX0_workOut 134 = .ok (.iaload, 1) := by decide +kernel
theorem dX0_workOut_135 : decode cX0_workOut 135 = .ok (.istore 5, 2) := by decide +kernel
theorem dX0_workOut_137 : decode cX0_workOut 137 = .ok (.iload_n 2, 1) := by decide +kernel
theorem dX0_workOut_138 : decode cX0_workOut 138 = .ok (.iload 5, 2) := by decide +kernel
theorem dX0_workOut_140 : decode cX0_workOut 140 = .ok (.if_icmp .ge 12, 3) := by decide +kernel
theorem dX0_workOut_143 : decode cX0_workOut 143 = .ok (.aload_n 0, 1) := by decide +kernel
theorem dX0_workOut_144 : decode cX0_workOut 144 = .ok (.iload_n 3, 1) := by decide +kernel
theorem dX0_workOut_145 : decode cX0_workOut 145 = .ok (.iload_n 2, 1) := by decide +kernel
theorem dX0_workOut_146 : decode cX0_workOut 146 = .ok (.invokevirtual 68, 3) := by decide +kernel
theorem dX0_workOut_149 : decode cX0_workOut 149 = .ok (.goto 13, 3) := by decide +kernel
theorem dX0_workOut_152 : decode cX0_workOut 152 = .ok (.aload_n 0, 1) := by decide +kernel
theorem dX0_workOut_153 : decode cX0_workOut 153 = .ok (.iload 4, 2) := by decide +kernel
theorem dX0_workOut_155 : decode cX0_workOut 155 = .ok (.iload_n 2, 1) := by decide +kernel
theorem dX0_workOut_156 : decode cX0_workOut 156 = .ok (.iload 5, 2) := by decide +kernel
theorem dX0_workOut_158 : decode cX0_workOut 158 = .ok (.isub, 1) := by decide +kernel
theorem dX0_workOut_159 : decode cX0_workOut 159 = .ok (.invokevirtual 68, 3) := by decide +kernel
theorem dX0_workOut_162 : decode cX0_workOut 162 = .ok (.ireturn, 1) := by decide +kernel
theorem dX0_workOut_163 : decode cX0_workOut 163 = .ok (.aload_n 0, 1) := by decide +kernel
theorem dX0_workOut_164 : decode cX0_workOut 164 = .ok (.iload_n 3, 1) := by decide +kernel
theorem dX0_workOut_165 : decode cX0_workOut 165 = .ok (.aload_n 0, 1) := by decide +kernel
theorem dX0_workOut_166 : decode cX0_workOut 166 = .ok (.getfield 32, 3) := by decide +kernel
theorem dX0_workOut_169 : decode cX0_workOut 169 = .ok (.getfield 71, 3) := by decide +kernel
theorem dX0_workOut_172 : decode cX0_workOut 172 = .ok (.iload_n 1, 1) := by decide +kernel
theorem dX0_workOut_173 : decode cX0_workOut 173 = .ok (.iaload, 1) := by decide +kernel
theorem dX0_workOut_174 : decode cX0_workOut 174 = .ok (.iload_n 2, 1) := by decide +kernel
theorem dX0_workOut_175 : decode cX0_workOut 175 = .ok (.iadd, 1) := by decide +kernel
theorem dX0_workOut_176 : decode cX0_workOut 176 = .ok (.invokevirtual 68, 3) := by decide +kernel
theorem dX0_workOut_179 : decode cX0_workOut 179 = .ok (.ireturn, 1) := by decide +kernel
theorem dX0_workOut_180 : decode cX0_workOut 180 = .ok (.aload_n 0, 1) := by decide +kernel
theorem dX0_workOut_181 : decode cX0_workOut 181 = .ok (.iload_n 3, 1) := by decide +kernel
theorem dX0_workOut_182 : decode cX0_workOut 182 = .ok (.invokevirtual 74, 3) := by decide +kernel
theorem dX0_workOut_185 : decode cX0_workOut 185 = .ok (.ireturn, 1) := by decide +kernel
theorem dX0_workOut_186 : decode cX0_workOut 186 = .ok (.aload_n 0, 1) := by decide +kernel
theorem dX0_workOut_187 : decode cX0_workOut 187 = .ok (.iload_n 3, 1) := by decide +kernel
theorem dX0_workOut_188 : decode cX0_workOut 188 = .ok (.iconst 0, 1) := by decide +kernel
theorem dX0_workOut_189 : decode cX0_workOut 189 = .ok (.invokevirtual 68, 3) := by decide +kernel
theorem dX0_workOut_192 : decode cX0_workOut 192 = .ok (.ireturn, 1) := by decide +kernel
theorem dX0_valueOf_0 : decode cX0_valueOf 0 = .ok (.aload_n 0, 1) := by decide +kernel
theorem dX0_valueOf_1 : decode cX0_valueOf 1 = .ok (.getfield 9, 3) := by decide +kernel
theorem dX0_valueOf_4 : decode cX0_valueOf 4 = .ok (.aload_n 0, 1) := by decide +kernel
theorem dX0_valueOf_5 : decode cX0_valueOf 5 = .ok (.getfield 15, 3) := by decide +kernel
theorem dX0_valueOf_8 : decode cX0_valueOf 8 = .ok (.getfield 49, 3) := by decide +kernel
theorem dX0_valueOf_11 : decode cX0_valueOf 11 = .ok (.iload_n 1, 1) := by decide +kernel
theorem dX0_valueOf_12 : decode cX0_valueOf 12 = .ok (.iaload, 1) := by decide +kernel
theorem dX0_valueOf_13 : decode cX0_valueOf 13 = .ok (.iload_n 2, 1) := by decide +kernel
theorem dX0_valueOf_14 : decode cX0_valueOf 14 = .ok (.iadd, 1) := by decide +kernel
theorem dX0_valueOf_15 : decode cX0_valueOf 15 = .ok (.iaload, 1) := by decide +kernel
theorem dX0_valueOf_16 : decode cX0_valueOf 16 = .ok (.ireturn, 1) := by decide +kernel
set_option maxRecDepth 20000 in
theorem ggX0_totalOf_X0_valueOf : GoodIn wsX0_totalOf wsX0_valueOf := goodIn_ca (goodIn_r _ [7, 8, 9, 10, 11, 12, 13, 14, 27, 28, 29, 30] (by decide +kernel) (by decide +kernel)) (goodIn_sub (fun _ h => List.mem_cons_of_mem _ (List.mem_append_right _ h)) (by decide +kernel))
set_option maxRecDepth 20000 in
theorem gX0_totalOf_X0_valueOf : GoodIn wsX0_totalOf (wsV RX0 68 RX0 yX0_valueOf wsX0_valueOf) := goodIn_app (goodIn_of _ (by decide +kernel)) ggX0_totalOf_X0_valueOf
theorem dX0_totalOf_0 : decode cX0_totalOf 0 = .ok (.iconst 0, 1) := by decide +kernel
theorem dX0_totalOf_1 : decode cX0_totalOf 1 = .ok (.istore_n 2, 1) := by decide +kernel
theorem dX0_totalOf_2 : decode cX0_totalOf 2 = .ok (.iconst 0, 1) := by decide +kernel
theorem dX0_totalOf_3 : decode cX0_totalOf 3 = .ok (.istore_n 3, 1) := by decide +kernel
theorem dX0_totalOf_4 : decode cX0_totalOf 4 = .ok (.iload_n 3, 1) := by decide +kernel
theorem dX0_totalOf_5 : decode cX0_totalOf 5 = .ok (.aload_n 0, 1) := by decide +kernel
theorem dX0_totalOf_6 : decode cX0_totalOf 6 = .ok (.getfield 25, 3) := by decide +kernel
theorem dX0_totalOf_9 : decode cX0_totalOf 9 = .ok (.getfield 46, 3) := by decide +kernel
theorem dX0_totalOf_12 : decode cX0_totalOf 12 = .ok (.iload_n 1, 1) := by decide +kernel
theorem dX0_totalOf_13 : decode cX0_totalOf 13 = .ok (.iaload, 1) := by decide +kernel
theorem dX0_totalOf_14 : decode cX0_totalOf 14 = .ok (.if_icmp .ge 18, 3) := by decide +kernel
theorem dX0_totalOf_17 : decode cX0_totalOf 17 = .ok (.iload_n 2, 1) := by decide +kernel
theorem dX0_totalOf_18 : decode cX0_totalOf 18 = .ok (.aload_n 0, 1) := by decide +kernel
theorem dX0_totalOf_19 : decode cX0_totalOf 19 = .ok (.iload_n 1, 1) := by decide +kernel
theorem dX0_totalOf_20 : decode cX0_totalOf 20 = .ok (.iload_n 3, 1) := by decide +kernel
theorem dX0_totalOf_21 : decode cX0_totalOf 21 = .ok (.invokevirtual 68, 3) := by decide +kernel
theorem dX0_totalOf_24 : decode cX0_totalOf 24 = .ok (.iadd, 1) := by decide +kernel
theorem dX0_totalOf_25 : decode cX0_totalOf 25 = .ok (.istore_n 2, 1) := by decide +kernel
theorem dX0_totalOf_26 : decode cX0_totalOf 26 = .ok (.iinc 3 1, 3) := by decide +kernel
theorem dX0_totalOf_29 : decode cX0_totalOf 29 = .ok (.goto (-25), 3) := by decide +kernel
theorem dX0_totalOf_32 : decode cX0_totalOf 32 = .ok (.iload_n 2, 1) := by decide +kernel
theorem dX0_totalOf_33 : decode cX0_totalOf 33 = .ok (.ireturn, 1) := by decide +kernel
theorem dX1_init_0 : decode cX1_init 0 = .ok (.aload_n 0, 1) := by decide +kernel
theorem dX1_init_1 : decode cX1_init 1 = .ok (.invokespecial 3, 3) := by decide +kernel
theorem dX1_init_4 : decode cX1_init 4 = .ok (.aload_n 0, 1) := by decide +kernel
theorem dX1_init_5 : decode cX1_init 5 = .ok (.bipush 12, 2) := by decide +kernel
theorem dX1_init_7 : decode cX1_init 7 = .ok (.newarray .int, 2) := by decide +kernel
theorem dX1_init_9 : decode cX1_init 9 = .ok (.putfield 9, 3) := by decide +kernel
theorem dX1_init_12 : decode cX1_init 12 = .ok (.aload_n 0, 1) := by decide +kernel
theorem dX1_init_13 : decode cX1_init 13 = .ok (.bipush 12, 2) := by decide +kernel
theorem dX1_init_15 : decode cX1_init 15 = .ok (.newarray .int, 2) := by decide +kernel
theorem dX1_init_17 : decode cX1_init 17 = .ok (.putfield 15, 3) := by decide +kernel
theorem dX1_init_20 : decode cX1_init 20 = .ok (.aload_n 0, 1) := by decide +kernel
theorem dX1_init_21 : decode cX1_init 21 = .ok (.bipush 12, 2) := by decide +kernel
theorem dX1_init_23 : decode cX1_init 23 = .ok (.newarray .int, 2) := by decide +kernel
theorem dX1_init_25 : decode cX1_init 25 = .ok (.putfield 18, 3) := by decide +kernel
theorem dX1_init_28 : decode cX1_init 28 = .ok (.aload_n 0, 1) := by decide +kernel
theorem dX1_init_29 : decode cX1_init 29 = .ok (.bipush 12, 2) := by decide +kernel
theorem dX1_init_31 : decode cX1_init 31 = .ok (.bipush 16, 2) := by decide +kernel
theorem dX1_init_33 : decode cX1_init 33 = .ok (.multianewarray 21 2, 4) := by decide +kernel
theorem dX1_init_37 : decode cX1_init 37 = .ok (.putfield 23, 3) := by decide +kernel
theorem dX1_init_40 : decode cX1_init 40 = .ok (.aload_n 0, 1) := by decide +kernel
theorem dX1_init_41 : decode cX1_init 41 = .ok (.bipush 12, 2) := by decide +kernel
theorem dX1_init_43 : decode cX1_init 43 = .ok (.iconst 2, 1) := by decide +kernel
theorem dX1_init_44 : decode cX1_init 44 = .ok (.multianewarray 21 2, 4) := by decide +kernel
theorem dX1_init_48 : decode cX1_init 48 = .ok (.putfield 26, 3) := by decide +kernel
theorem dX1_init_51 : decode cX1_init 51 = .ok (.aload_n 0, 1) := by decide +kernel
theorem dX1_init_52 : decode cX1_init 52 = .ok (.bipush 12, 2) := by decide +kernel
theorem dX1_init_54 : decode cX1_init 54 = .ok (.newarray .boolean, 2) := by decide +kernel
theorem dX1_init_56 : decode cX1_init 56 = .ok (.putfield 29, 3) := by decide +kernel
theorem dX1_init_59 : decode cX1_init 59 = .ok (.return_, 1) := by decide +kernel
set_option maxRecDepth 20000 in
theorem ggX1_has_X6_isWithin : GoodIn wsX1_has wsX6_isWithin := goodIn_r _ [4] (by decide +kernel) (by decide +kernel)
set_option maxRecDepth 20000 in
theorem gX1_has_X6_isWithin_n37 : GoodIn wsX1_has (wsX6_isWithin) := ggX1_has_X6_isWithin
theorem dX1_has_0 : decode cX1_has 0 = .ok (.iload_n 1, 1) := by decide +kernel
theorem dX1_has_1 : decode cX1_has 1 = .ok (.aload_n 0, 1) := by decide +kernel
theorem dX1_has_2 : decode cX1_has 2 = .ok (.getfield 33, 3) := by decide +kernel
theorem dX1_has_5 : decode cX1_has 5 = .ok (.invokestatic 37, 3) := by decide +kernel
theorem dX1_has_8 : decode cX1_has 8 = .ok (.ireturn, 1) := by decide +kernel
theorem dX1_inputs_0 : decode cX1_inputs 0 = .ok (.getstatic 41, 3) := by decide +kernel
theorem dX1_inputs_3 : decode cX1_inputs 3 = .ok (.aload_n 0, 1) := by decide +kernel
theorem dX1_inputs_4 : decode cX1_inputs 4 = .ok (.getfield 9, 3) := by decide +kernel
theorem dX1_inputs_7 : decode cX1_inputs 7 = .ok (.iload_n 1, 1) := by decide +kernel
theorem dX1_inputs_8 : decode cX1_inputs 8 = .ok (.iaload, 1) := by decide +kernel
theorem dX1_inputs_9 : decode cX1_inputs 9 = .ok (.iaload, 1) := by decide +kernel
theorem dX1_inputs_10 : decode cX1_inputs 10 = .ok (.ireturn, 1) := by decide +kernel
set_option maxRecDepth 20000 in
theorem ggX1_add_J7_fill_53178 : GoodIn wsX1_add wsJ7_fill_53178 := goodIn_r _ [9] (by decide +kernel) (by decide +kernel)
set_option maxRecDepth 20000 in
theorem gX1_add_J7_fill_53178 : GoodIn wsX1_add (va_wsS RX1 44 yJ7_fill_53178 wsJ7_fill_53178) := goodIn_app (goodIn_of _ (by decide +kernel)) ggX1_add_J7_fill_53178
theorem dX1_add_0 : decode cX1_add 0 = .ok (.aload_n 0, 1) := by decide +kernel
theorem dX1_add_1 : decode cX1_add 1 = .ok (.getfield 33, 3) := by decide +kernel
theorem dX1_add_4 : decode cX1_add 4 = .ok (.istore 4, 2) := by decide +kernel
theorem dX1_add_6 : decode cX1_add 6 = .ok (.aload_n 0, 1) := by decide +kernel
theorem dX1_add_7 : decode cX1_add 7 = .ok (.getfield 9, 3) := by decide +kernel
theorem dX1_add_10 : decode cX1_add 10 = .ok (.iload 4, 2) := by decide +kernel
theorem dX1_add_12 : decode cX1_add 12 = .ok (.iload_n 1, 1) := by decide +kernel
theorem dX1_add_13 : decode cX1_add 13 = .ok (.iastore, 1) := by decide +kernel
theorem dX1_add_14 : decode cX1_add 14 = .ok (.aload_n 0, 1) := by decide +kernel
theorem dX1_add_15 : decode cX1_add 15 = .ok (.getfield 15, 3) := by decide +kernel
theorem dX1_add_18 : decode cX1_add 18 = .ok (.iload 4, 2) := by decide +kernel
theorem dX1_add_20 : decode cX1_add 20 = .ok (.iload_n 2, 1) := by decide +kernel
theorem dX1_add_21 : decode cX1_add 21 = .ok (.iastore, 1) := by decide +kernel
theorem dX1_add_22 : decode cX1_add 22 = .ok (.aload_n 0, 1) := by decide +kernel
theorem dX1_add_23 : decode cX1_add 23 = .ok (.getfield 18, 3) := by decide +kernel
theorem dX1_add_26 : decode cX1_add 26 = .ok (.iload 4, 2) := by decide +kernel
theorem dX1_add_28 : decode cX1_add 28 = .ok (.iload_n 3, 1) := by decide +kernel
theorem dX1_add_29 : decode cX1_add 29 = .ok (.iastore, 1) := by decide +kernel
theorem dX1_add_30 : decode cX1_add 30 = .ok (.aload_n 0, 1) := by decide +kernel
theorem dX1_add_31 : decode cX1_add 31 = .ok (.getfield 26, 3) := by decide +kernel
theorem dX1_add_34 : decode cX1_add 34 = .ok (.iload 4, 2) := by decide +kernel
theorem dX1_add_36 : decode cX1_add 36 = .ok (.aaload, 1) := by decide +kernel
theorem dX1_add_37 : decode cX1_add 37 = .ok (.iconst (-1), 1) := by decide +kernel
theorem dX1_add_38 : decode cX1_add 38 = .ok (.invokestatic 44, 3) := by decide +kernel
theorem dX1_add_41 : decode cX1_add 41 = .ok (.aload_n 0, 1) := by decide +kernel
theorem dX1_add_42 : decode cX1_add 42 = .ok (.dup, 1) := by decide +kernel
theorem dX1_add_43 : decode cX1_add 43 = .ok (.getfield 33, 3) := by decide +kernel
theorem dX1_add_46 : decode cX1_add 46 = .ok (.iconst 1, 1) := by decide +kernel
theorem dX1_add_47 : decode cX1_add 47 = .ok (.iadd, 1) := by decide +kernel
theorem dX1_add_48 : decode cX1_add 48 = .ok (.putfield 33, 3) := by decide +kernel
theorem dX1_add_51 : decode cX1_add 51 = .ok (.iload 4, 2) := by decide +kernel
theorem dX1_add_53 : decode cX1_add 53 = .ok (.ireturn, 1) := by decide +kernel
set_option maxRecDepth 20000 in
theorem ggX1_isWired_X1_inputs : GoodIn wsX1_isWired wsX1_inputs := goodIn_ca (goodIn_r _ [7, 8, 9, 10, 11, 12, 13, 14, 15] (by decide +kernel) (by decide +kernel)) (goodIn_sub (fun _ h => List.mem_cons_of_mem _ (List.mem_append_right _ h)) (by decide +kernel))
set_option maxRecDepth 20000 in
theorem gX1_isWired_X1_inputs : GoodIn wsX1_isWired (wsV RX1 50 RX1 yX1_inputs wsX1_inputs) := goodIn_app (goodIn_of _ (by decide +kernel)) ggX1_isWired_X1_inputs
theorem dX1_isWired_0 : decode cX1_isWired 0 = .ok (.iconst 0, 1) := by decide +kernel
theorem dX1_isWired_1 : decode cX1_isWired 1 = .ok (.istore_n 1, 1) := by decide +kernel
theorem dX1_isWired_2 : decode cX1_isWired 2 = .ok (.iload_n 1, 1) := by decide +kernel
theorem dX1_isWired_3 : decode cX1_isWired 3 = .ok (.aload_n 0, 1) := by decide +kernel
theorem dX1_isWired_4 : decode cX1_isWired 4 = .ok (.getfield 33, 3) := by decide +kernel
theorem dX1_isWired_7 : decode cX1_isWired 7 = .ok (.if_icmp .ge 40, 3) := by decide +kernel
theorem dX1_isWired_10 : decode cX1_isWired 10 = .ok (.iconst 0, 1) := by decide +kernel
theorem dX1_isWired_11 : decode cX1_isWired 11 = .ok (.istore_n 2, 1) := by decide +kernel
theorem dX1_isWired_12 : decode cX1_isWired 12 = .ok (.iload_n 2, 1) := by decide +kernel
theorem dX1_isWired_13 : decode cX1_isWired 13 = .ok (.aload_n 0, 1) := by decide +kernel
theorem dX1_isWired_14 : decode cX1_isWired 14 = .ok (.iload_n 1, 1) := by decide +kernel
theorem dX1_isWired_15 : decode cX1_isWired 15 = .ok (.invokevirtual 50, 3) := by decide +kernel
theorem dX1_isWired_18 : decode cX1_isWired 18 = .ok (.if_icmp .ge 23, 3) := by decide +kernel
theorem dX1_isWired_21 : decode cX1_isWired 21 = .ok (.aload_n 0, 1) := by decide +kernel
theorem dX1_isWired_22 : decode cX1_isWired 22 = .ok (.getfield 26, 3) := by decide +kernel
theorem dX1_isWired_25 : decode cX1_isWired 25 = .ok (.iload_n 1, 1) := by decide +kernel
theorem dX1_isWired_26 : decode cX1_isWired 26 = .ok (.aaload, 1) := by decide +kernel
theorem dX1_isWired_27 : decode cX1_isWired 27 = .ok (.iload_n 2, 1) := by decide +kernel
theorem dX1_isWired_28 : decode cX1_isWired 28 = .ok (.iaload, 1) := by decide +kernel
theorem dX1_isWired_29 : decode cX1_isWired 29 = .ok (.iconst (-1), 1) := by decide +kernel
theorem dX1_isWired_30 : decode cX1_isWired 30 = .ok (.if_icmp .ne 5, 3) := by decide +kernel
theorem dX1_isWired_33 : decode cX1_isWired 33 = .ok (.iconst 0, 1) := by decide +kernel
theorem dX1_isWired_34 : decode cX1_isWired 34 = .ok (.ireturn, 1) := by decide +kernel
theorem dX1_isWired_35 : decode cX1_isWired 35 = .ok (.iinc 2 1, 3) := by decide +kernel
theorem dX1_isWired_38 : decode cX1_isWired 38 = .ok (.goto (-26), 3) := by decide +kernel
theorem dX1_isWired_41 : decode cX1_isWired 41 = .ok (.iinc 1 1, 3) := by decide +kernel
theorem dX1_isWired_44 : decode cX1_isWired 44 = .ok (.goto (-42), 3) := by decide +kernel
theorem dX1_isWired_47 : decode cX1_isWired 47 = .ok (.iconst 1, 1) := by decide +kernel
theorem dX1_isWired_48 : decode cX1_isWired 48 = .ok (.ireturn, 1) := by decide +kernel
set_option maxRecDepth 20000 in
theorem ggX1_dependencies_X6_setOf : GoodIn wsX1_dependencies wsX6_setOf := goodIn_r _ [4] (by decide +kernel) (by decide +kernel)
set_option maxRecDepth 20000 in
theorem gX1_dependencies_X6_setOf_n54 : GoodIn wsX1_dependencies (wsX6_setOf) := ggX1_dependencies_X6_setOf
theorem dX1_dependencies_0 : decode cX1_dependencies 0 = .ok (.aload_n 0, 1) := by decide +kernel
theorem dX1_dependencies_1 : decode cX1_dependencies 1 = .ok (.getfield 26, 3) := by decide +kernel
theorem dX1_dependencies_4 : decode cX1_dependencies 4 = .ok (.iload_n 1, 1) := by decide +kernel
theorem dX1_dependencies_5 : decode cX1_dependencies 5 = .ok (.aaload, 1) := by decide +kernel
theorem dX1_dependencies_6 : decode cX1_dependencies 6 = .ok (.iconst 0, 1) := by decide +kernel
theorem dX1_dependencies_7 : decode cX1_dependencies 7 = .ok (.iaload, 1) := by decide +kernel
theorem dX1_dependencies_8 : decode cX1_dependencies 8 = .ok (.invokestatic 54, 3) := by decide +kernel
theorem dX1_dependencies_11 : decode cX1_dependencies 11 = .ok (.aload_n 0, 1) := by decide +kernel
theorem dX1_dependencies_12 : decode cX1_dependencies 12 = .ok (.getfield 26, 3) := by decide +kernel
theorem dX1_dependencies_15 : decode cX1_dependencies 15 = .ok (.iload_n 1, 1) := by decide +kernel
theorem dX1_dependencies_16 : decode cX1_dependencies 16 = .ok (.aaload, 1) := by decide +kernel
theorem dX1_dependencies_17 : decode cX1_dependencies 17 = .ok (.iconst 1, 1) := by decide +kernel
theorem dX1_dependencies_18 : decode cX1_dependencies 18 = .ok (.iaload, 1) := by decide +kernel
theorem dX1_dependencies_19 : decode cX1_dependencies 19 = .ok (.invokestatic 54, 3) := by decide +kernel
theorem dX1_dependencies_22 : decode cX1_dependencies 22 = .ok (.ior, 1) := by decide +kernel
theorem dX1_dependencies_23 : decode cX1_dependencies 23 = .ok (.ireturn, 1) := by decide +kernel
theorem dX2_init_0 : decode cX2_init 0 = .ok (.aload_n 0, 1) := by decide +kernel
theorem dX2_init_1 : decode cX2_init 1 = .ok (.invokespecial 3, 3) := by decide +kernel
theorem dX2_init_4 : decode cX2_init 4 = .ok (.aload_n 0, 1) := by decide +kernel
theorem dX2_init_5 : decode cX2_init 5 = .ok (.sipush 4096, 3) := by decide +kernel
theorem dX2_init_8 : decode cX2_init 8 = .ok (.newarray .int, 2) := by decide +kernel
theorem dX2_init_10 : decode cX2_init 10 = .ok (.putfield 9, 3) := by decide +kernel
theorem dX2_init_13 : decode cX2_init 13 = .ok (.aload_n 0, 1) := by decide +kernel
theorem dX2_init_14 : decode cX2_init 14 = .ok (.aload_n 1, 1) := by decide +kernel
theorem dX2_init_15 : decode cX2_init 15 = .ok (.putfield 15, 3) := by decide +kernel
theorem dX2_init_18 : decode cX2_init 18 = .ok (.return_, 1) := by decide +kernel
set_option maxRecDepth 20000 in
theorem ggX2_find_J7_fill_53178 : GoodIn wsX2_find wsJ7_fill_53178 := goodIn_r _ [8] (by decide +kernel) (by decide +kernel)
set_option maxRecDepth 20000 in
theorem gX2_find_J7_fill_53178 : GoodIn wsX2_find (va_wsS RX2 28 yJ7_fill_53178 wsJ7_fill_53178) := goodIn_app (goodIn_of _ (by decide +kernel)) ggX2_find_J7_fill_53178
set_option maxRecDepth 20000 in
theorem ggX2_find_X2_goOn : GoodIn wsX2_find wsX2_goOn := goodIn_ca (goodIn_r _ [13, 1, 2, 14, 3, 15, 16, 17, 18, 19, 20, 21, 22, 23, 24, 25, 12, 26, 27, 28, 29, 30, 31, 32, 33, 34, 35, 36, 37, 38, 39, 40, 41, 42, 43, 44, 45, 46, 47, 48, 49, 50, 51, 52, 53, 54, 55, 56, 57] (by decide +kernel) (by decide +kernel)) (goodIn_sub (fun _ h => List.mem_cons_of_mem _ (List.mem_append_right _ h)) (by decide +kernel))
set_option maxRecDepth 20000 in
theorem gX2_find_X2_goOn : GoodIn wsX2_find (wsV RX2 34 RX2 yX2_goOn wsX2_goOn) := goodIn_app (goodIn_of _ (by decide +kernel)) ggX2_find_X2_goOn
theorem dX2_find_0 : decode cX2_find 0 = .ok (.iconst 1, 1) := by decide +kernel
theorem dX2_find_1 : decode cX2_find 1 = .ok (.aload_n 0, 1) := by decide +kernel
theorem dX2_find_2 : decode cX2_find 2 = .ok (.getfield 15, 3) := by decide +kernel
theorem dX2_find_5 : decode cX2_find 5 = .ok (.getfield 19, 3) := by decide +kernel
theorem dX2_find_8 : decode cX2_find 8 = .ok (.ishl, 1) := by decide +kernel
theorem dX2_find_9 : decode cX2_find 9 = .ok (.iconst 1, 1) := by decide +kernel
theorem dX2_find_10 : decode cX2_find 10 = .ok (.isub, 1) := by decide +kernel
theorem dX2_find_11 : decode cX2_find 11 = .ok (.istore_n 1, 1) := by decide +kernel
theorem dX2_find_12 : decode cX2_find 12 = .ok (.aload_n 0, 1) := by decide +kernel
theorem dX2_find_13 : decode cX2_find 13 = .ok (.getfield 9, 3) := by decide +kernel
theorem dX2_find_16 : decode cX2_find 16 = .ok (.aload_n 0, 1) := by decide +kernel
theorem dX2_find_17 : decode cX2_find 17 = .ok (.getfield 15, 3) := by decide +kernel
theorem dX2_find_20 : decode cX2_find 20 = .ok (.getfield 25, 3) := by decide +kernel
theorem dX2_find_23 : decode cX2_find 23 = .ok (.invokestatic 28, 3) := by decide +kernel
theorem dX2_find_26 : decode cX2_find 26 = .ok (.aload_n 0, 1) := by decide +kernel
theorem dX2_find_27 : decode cX2_find 27 = .ok (.getfield 9, 3) := by decide +kernel
theorem dX2_find_30 : decode cX2_find 30 = .ok (.iconst 0, 1) := by decide +kernel
theorem dX2_find_31 : decode cX2_find 31 = .ok (.iconst 0, 1) := by decide +kernel
theorem dX2_find_32 : decode cX2_find 32 = .ok (.iastore, 1) := by decide +kernel
theorem dX2_find_33 : decode cX2_find 33 = .ok (.iconst 0, 1) := by decide +kernel
theorem dX2_find_34 : decode cX2_find 34 = .ok (.istore_n 2, 1) := by decide +kernel
theorem dX2_find_35 : decode cX2_find 35 = .ok (.iload_n 2, 1) := by decide +kernel
theorem dX2_find_36 : decode cX2_find 36 = .ok (.iload_n 1, 1) := by decide +kernel
theorem dX2_find_37 : decode cX2_find 37 = .ok (.if_icmp .ge 30, 3) := by decide +kernel
theorem dX2_find_40 : decode cX2_find 40 = .ok (.aload_n 0, 1) := by decide +kernel
theorem dX2_find_41 : decode cX2_find 41 = .ok (.getfield 9, 3) := by decide +kernel
theorem dX2_find_44 : decode cX2_find 44 = .ok (.iload_n 2, 1) := by decide +kernel
theorem dX2_find_45 : decode cX2_find 45 = .ok (.iaload, 1) := by decide +kernel
theorem dX2_find_46 : decode cX2_find 46 = .ok (.aload_n 0, 1) := by decide +kernel
theorem dX2_find_47 : decode cX2_find 47 = .ok (.getfield 15, 3) := by decide +kernel
theorem dX2_find_50 : decode cX2_find 50 = .ok (.getfield 25, 3) := by decide +kernel
theorem dX2_find_53 : decode cX2_find 53 = .ok (.if_icmp .ge 8, 3) := by decide +kernel
theorem dX2_find_56 : decode cX2_find 56 = .ok (.aload_n 0, 1) := by decide +kernel
theorem dX2_find_57 : decode cX2_find 57 = .ok (.iload_n 2, 1) := by decide +kernel
theorem dX2_find_58 : decode cX2_find 58 = .ok (.invokevirtual 34, 3) := by decide +kernel
theorem dX2_find_61 : decode cX2_find 61 = .ok (.iinc 2 1, 3) := by decide +kernel
theorem dX2_find_64 : decode cX2_find 64 = .ok (.goto (-29), 3) := by decide +kernel
theorem dX2_find_67 : decode cX2_find 67 = .ok (.aload_n 0, 1) := by decide +kernel
theorem dX2_find_68 : decode cX2_find 68 = .ok (.getfield 9, 3) := by decide +kernel
theorem dX2_find_71 : decode cX2_find 71 = .ok (.iload_n 1, 1) := by decide +kernel
theorem dX2_find_72 : decode cX2_find 72 = .ok (.iaload, 1) := by decide +kernel
theorem dX2_find_73 : decode cX2_find 73 = .ok (.ireturn, 1) := by decide +kernel
set_option maxRecDepth 20000 in
theorem ggX2_goOn_X2_heldAfter : GoodIn wsX2_goOn wsX2_heldAfter := goodIn_ca (goodIn_r _ [17, 1, 2, 18, 19, 20, 5, 21, 22, 23, 24, 25, 28, 29, 30, 31, 32, 33, 34, 35, 36, 37, 38, 39, 40, 41, 42, 43, 44, 45, 46, 47, 48] (by decide +kernel) (by decide +kernel)) (goodIn_sub (fun _ h => List.mem_cons_of_mem _ (List.mem_append_right _ h)) (by decide +kernel))
set_option maxRecDepth 20000 in
theorem gX2_goOn_X2_heldAfter : GoodIn wsX2_goOn (wsV RX2 38 RX2 yX2_heldAfter wsX2_heldAfter) := goodIn_app (goodIn_of _ (by decide +kernel)) ggX2_goOn_X2_heldAfter
set_option maxRecDepth 20000 in
theorem ggX2_goOn_X6_contains : GoodIn wsX2_goOn wsX6_contains := goodIn_r _ [25] (by decide +kernel) (by decide +kernel)
set_option maxRecDepth 20000 in
theorem gX2_goOn_X6_contains_n42 : GoodIn wsX2_goOn (wsX6_contains) := ggX2_goOn_X6_contains
set_option maxRecDepth 20000 in
theorem ggX2_goOn_X6_isPartOf : GoodIn wsX2_goOn wsX6_isPartOf := goodIn_r _ [23] (by decide +kernel) (by decide +kernel)
set_option maxRecDepth 20000 in
theorem gX2_goOn_X6_isPartOf_n49 : GoodIn wsX2_goOn (wsX6_isPartOf) := ggX2_goOn_X6_isPartOf
set_option maxRecDepth 20000 in
theorem ggX2_goOn_X6_setOf : GoodIn wsX2_goOn wsX6_setOf := goodIn_r _ [27] (by decide +kernel) (by decide +kernel)
set_option maxRecDepth 20000 in
theorem gX2_goOn_X6_setOf_n52 : GoodIn wsX2_goOn (wsX6_setOf) := ggX2_goOn_X6_setOf
theorem dX2_goOn_0 : decode cX2_goOn 0 = .ok (.aload_n 0, 1) := by decide +kernel
theorem dX2_goOn_1 : decode cX2_goOn 1 = .ok (.iload_n 1, 1) := by decide +kernel
theorem dX2_goOn_2 : decode cX2_goOn 2 = .ok (.invokevirtual 38, 3) := by decide +kernel
theorem dX2_goOn_5 : decode cX2_goOn 5 = .ok (.istore_n 2, 1) := by decide +kernel
theorem dX2_goOn_6 : decode cX2_goOn 6 = .ok (.iconst 0, 1) := by decide +kernel
theorem dX2_goOn_7 : decode cX2_goOn 7 = .ok (.istore_n 3, 1) := by decide +kernel
theorem dX2_goOn_8 : decode cX2_goOn 8 = .ok (.iload_n 3, 1) := by decide +kernel
theorem dX2_goOn_9 : decode cX2_goOn 9 = .ok (.aload_n 0, 1) := by decide +kernel
theorem dX2_goOn_10 : decode cX2_goOn 10 = .ok (.getfield 15, 3) := by decide +kernel
theorem dX2_goOn_13 : decode cX2_goOn 13 = .ok (.getfield 19, 3) := by decide +kernel
theorem dX2_goOn_16 : decode cX2_goOn 16 = .ok (.if_icmp .ge 82, 3) := by decide +kernel
theorem dX2_goOn_19 : decode cX2_goOn 19 = .ok (.iload_n 1, 1) := by decide +kernel
theorem dX2_goOn_20 : decode cX2_goOn 20 = .ok (.iload_n 3, 1) := by decide +kernel
theorem dX2_goOn_21 : decode cX2_goOn 21 = .ok (.invokestatic 42, 3) := by decide +kernel
theorem dX2_goOn_24 : decode cX2_goOn 24 = .ok (.ifCond .ne 68, 3) := by decide +kernel
theorem dX2_goOn_27 : decode cX2_goOn 27 = .ok (.aload_n 0, 1) := by decide +kernel
theorem dX2_goOn_28 : decode cX2_goOn 28 = .ok (.getfield 15, 3) := by decide +kernel
theorem dX2_goOn_31 : decode cX2_goOn 31 = .ok (.getfield 46, 3) := by decide +kernel
theorem dX2_goOn_34 : decode cX2_goOn 34 = .ok (.iload_n 3, 1) := by decide +kernel
theorem dX2_goOn_35 : decode cX2_goOn 35 = .ok (.iaload, 1) := by decide +kernel
theorem dX2_goOn_36 : decode cX2_goOn 36 = .ok (.iload_n 1, 1) := by decide +kernel
theorem dX2_goOn_37 : decode cX2_goOn 37 = .ok (.invokestatic 49, 3) := by decide +kernel
theorem dX2_goOn_40 : decode cX2_goOn 40 = .ok (.ifCond .eq 52, 3) := by decide +kernel
theorem dX2_goOn_43 : decode cX2_goOn 43 = .ok (.iload_n 1, 1) := by decide +kernel
theorem dX2_goOn_44 : decode cX2_goOn 44 = .ok (.iload_n 3, 1) := by decide +kernel
theorem dX2_goOn_45 : decode cX2_goOn 45 = .ok (.invokestatic 52, 3) := by decide +kernel
theorem dX2_goOn_48 : decode cX2_goOn 48 = .ok (.ior, 1) := by decide +kernel
theorem dX2_goOn_49 : decode cX2_goOn 49 = .ok (.istore 4, 2) := by decide +kernel
theorem dX2_goOn_51 : decode cX2_goOn 51 = .ok (.aload_n 0, 1) := by decide +kernel
theorem dX2_goOn_52 : decode cX2_goOn 52 = .ok (.getfield 9, 3) := by decide +kernel
theorem dX2_goOn_55 : decode cX2_goOn 55 = .ok (.iload_n 1, 1) := by decide +kernel
theorem dX2_goOn_56 : decode cX2_goOn 56 = .ok (.iaload, 1) := by decide +kernel
theorem dX2_goOn_57 : decode cX2_goOn 57 = .ok (.iload_n 2, 1) := by decide +kernel
theorem dX2_goOn_58 : decode cX2_goOn 58 = .ok (.aload_n 0, 1) := by decide +kernel
theorem dX2_goOn_59 : decode cX2_goOn 59 = .ok (.getfield 15, 3) := by decide +kernel
theorem dX2_goOn_62 : decode cX2_goOn 62 = .ok (.getfield 55, 3) := by decide +kernel
theorem dX2_goOn_65 : decode cX2_goOn 65 = .ok (.iload_n 3, 1) := by decide +kernel
theorem dX2_goOn_66 : decode cX2_goOn 66 = .ok (.iaload, 1) := by decide +kernel
theorem dX2_goOn_67 : decode cX2_goOn 67 = .ok (.iadd, 1) := by decide +kernel
theorem dX2_goOn_68 : decode cX2_goOn 68 = .ok (.invokestatic 58, 3) := by decide +kernel
theorem dX2_goOn_71 : decode cX2_goOn 71 = .ok (.istore 5, 2) := by decide +kernel
theorem dX2_goOn_73 : decode cX2_goOn 73 = .ok (.aload_n 0, 1) := by decide +kernel
theorem dX2_goOn_74 : decode cX2_goOn 74 = .ok (.getfield 9, 3) := by decide +kernel
theorem dX2_goOn_77 : decode cX2_goOn 77 = .ok (.iload 4, 2) := by decide +kernel
theorem dX2_goOn_79 : decode cX2_goOn 79 = .ok (.aload_n 0, 1) := by decide +kernel
theorem dX2_goOn_80 : decode cX2_goOn 80 = .ok (.getfield 9, 3) := by decide +kernel
theorem dX2_goOn_83 : decode cX2_goOn 83 = .ok (.iload 4, 2) := by decide +kernel
theorem dX2_goOn_85 : decode cX2_goOn 85 = .ok (.iaload, 1) := by decide +kernel
theorem dX2_goOn_86 : decode cX2_goOn 86 = .ok (.iload 5, 2) := by decide +kernel
theorem dX2_goOn_88 : decode cX2_goOn 88 = .ok (.invokestatic 64, 3) := by decide +kernel
theorem dX2_goOn_91 : decode cX2_goOn 91 = .ok (.iastore, 1) := by decide +kernel
theorem dX2_goOn_92 : decode cX2_goOn 92 = .ok (.iinc 3 1, 3) := by decide +kernel
theorem dX2_goOn_95 : decode cX2_goOn 95 = .ok (.goto (-87), 3) := by decide +kernel
theorem dX2_goOn_98 : decode cX2_goOn 98 = .ok (.return_, 1) := by decide +kernel
set_option maxRecDepth 20000 in
theorem ggX2_heldAfter_X6_isPartOf : GoodIn wsX2_heldAfter wsX6_isPartOf := goodIn_r _ [9] (by decide +kernel) (by decide +kernel)
set_option maxRecDepth 20000 in
theorem gX2_heldAfter_X6_isPartOf_n49 : GoodIn wsX2_heldAfter (wsX6_isPartOf) := ggX2_heldAfter_X6_isPartOf
set_option maxRecDepth 20000 in
theorem ggX2_heldAfter_X6_contains : GoodIn wsX2_heldAfter wsX6_contains := goodIn_r _ [11] (by decide +kernel) (by decide +kernel)
set_option maxRecDepth 20000 in
theorem gX2_heldAfter_X6_contains_n42 : GoodIn wsX2_heldAfter (wsX6_contains) := ggX2_heldAfter_X6_contains
theorem dX2_heldAfter_0 : decode cX2_heldAfter 0 = .ok (.iconst 0, 1) := by decide +kernel
theorem dX2_heldAfter_1 : decode cX2_heldAfter 1 = .ok (.istore_n 2, 1) := by decide +kernel
theorem dX2_heldAfter_2 : decode cX2_heldAfter 2 = .ok (.iconst 0, 1) := by decide +kernel
theorem dX2_heldAfter_3 : decode cX2_heldAfter 3 = .ok (.istore_n 3, 1) := by decide +kernel
theorem dX2_heldAfter_4 : decode cX2_heldAfter 4 = .ok (.iload_n 3, 1) := by decide +kernel
theorem dX2_heldAfter_5 : decode cX2_heldAfter 5 = .ok (.aload_n 0, 1) := by decide +kernel
theorem dX2_heldAfter_6 : decode cX2_heldAfter 6 = .ok (.getfield 15, 3) := by decide +kernel
theorem dX2_heldAfter_9 : decode cX2_heldAfter 9 = .ok (.getfield 19, 3) := by decide +kernel
theorem dX2_heldAfter_12 : decode cX2_heldAfter 12 = .ok (.if_icmp .ge 72, 3) := by decide +kernel
theorem dX2_heldAfter_15 : decode cX2_heldAfter 15 = .ok (.aload_n 0, 1) := by decide +kernel
theorem dX2_heldAfter_16 : decode cX2_heldAfter 16 = .ok (.getfield 15, 3) := by decide +kernel
theorem dX2_heldAfter_19 : decode cX2_heldAfter 19 = .ok (.getfield 67, 3) := by decide +kernel
theorem dX2_heldAfter_22 : decode cX2_heldAfter 22 = .ok (.getfield 71, 3) := by decide +kernel
theorem dX2_heldAfter_25 : decode cX2_heldAfter 25 = .ok (.iload_n 3, 1) := by decide +kernel
theorem dX2_heldAfter_26 : decode cX2_heldAfter 26 = .ok (.baload, 1) := by decide +kernel
theorem dX2_heldAfter_27 : decode cX2_heldAfter 27 = .ok (.ifCond .ne 19, 3) := by decide +kernel
theorem dX2_heldAfter_30 : decode cX2_heldAfter 30 = .ok (.aload_n 0, 1) := by decide +kernel
theorem dX2_heldAfter_31 : decode cX2_heldAfter 31 = .ok (.getfield 15, 3) := by decide +kernel
theorem dX2_heldAfter_34 : decode cX2_heldAfter 34 = .ok (.getfield 77, 3) := by decide +kernel
theorem dX2_heldAfter_37 : decode cX2_heldAfter 37 = .ok (.iload_n 3, 1) := by decide +kernel
theorem dX2_heldAfter_38 : decode cX2_heldAfter 38 = .ok (.iaload, 1) := by decide +kernel
theorem dX2_heldAfter_39 : decode cX2_heldAfter 39 = .ok (.iload_n 1, 1) := by decide +kernel
theorem dX2_heldAfter_40 : decode cX2_heldAfter 40 = .ok (.invokestatic 49, 3) := by decide +kernel
theorem dX2_heldAfter_43 : decode cX2_heldAfter 43 = .ok (.ifCond .ne 7, 3) := by decide +kernel
theorem dX2_heldAfter_46 : decode cX2_heldAfter 46 = .ok (.iconst 1, 1) := by decide +kernel
theorem dX2_heldAfter_47 : decode cX2_heldAfter 47 = .ok (.goto 4, 3) := by decide +kernel
theorem dX2_heldAfter_50 : decode cX2_heldAfter 50 = .ok (.iconst 0, 1) := by decide +kernel
theorem dX2_heldAfter_51 : decode cX2_heldAfter 51 = .ok (.istore 4, 2) := by decide +kernel
theorem dX2_heldAfter_53 : decode cX2_heldAfter 53 = .ok (.iload_n 1, 1) := by decide +kernel
theorem dX2_heldAfter_54 : decode cX2_heldAfter 54 = .ok (.iload_n 3, 1) := by decide +kernel
theorem dX2_heldAfter_55 : decode cX2_heldAfter 55 = .ok (.invokestatic 42, 3) := by decide +kernel
theorem dX2_heldAfter_58 : decode cX2_heldAfter 58 = .ok (.ifCond .eq 20, 3) := by decide +kernel
theorem dX2_heldAfter_61 : decode cX2_heldAfter 61 = .ok (.iload 4, 2) := by decide +kernel
theorem dX2_heldAfter_63 : decode cX2_heldAfter 63 = .ok (.ifCond .eq 15, 3) := by decide +kernel
theorem dX2_heldAfter_66 : decode cX2_heldAfter 66 = .ok (.iload_n 2, 1) := by decide +kernel
theorem dX2_heldAfter_67 : decode cX2_heldAfter 67 = .ok (.aload_n 0, 1) := by decide +kernel
theorem dX2_heldAfter_68 : decode cX2_heldAfter 68 = .ok (.getfield 15, 3) := by decide +kernel
theorem dX2_heldAfter_71 : decode cX2_heldAfter 71 = .ok (.getfield 55, 3) := by decide +kernel
theorem dX2_heldAfter_74 : decode cX2_heldAfter 74 = .ok (.iload_n 3, 1) := by decide +kernel
theorem dX2_heldAfter_75 : decode cX2_heldAfter 75 = .ok (.iaload, 1) := by decide +kernel
theorem dX2_heldAfter_76 : decode cX2_heldAfter 76 = .ok (.iadd, 1) := by decide +kernel
theorem dX2_heldAfter_77 : decode cX2_heldAfter 77 = .ok (.istore_n 2, 1) := by decide +kernel
theorem dX2_heldAfter_78 : decode cX2_heldAfter 78 = .ok (.iinc 3 1, 3) := by decide +kernel
theorem dX2_heldAfter_81 : decode cX2_heldAfter 81 = .ok (.goto (-77), 3) := by decide +kernel
theorem dX2_heldAfter_84 : decode cX2_heldAfter 84 = .ok (.iload_n 2, 1) := by decide +kernel
theorem dX2_heldAfter_85 : decode cX2_heldAfter 85 = .ok (.ireturn, 1) := by decide +kernel
theorem dX3_init_0 : decode cX3_init 0 = .ok (.aload_n 0, 1) := by decide +kernel
theorem dX3_init_1 : decode cX3_init 1 = .ok (.invokespecial 3, 3) := by decide +kernel
theorem dX3_init_4 : decode cX3_init 4 = .ok (.aload_n 0, 1) := by decide +kernel
theorem dX3_init_5 : decode cX3_init 5 = .ok (.bipush 12, 2) := by decide +kernel
theorem dX3_init_7 : decode cX3_init 7 = .ok (.newarray .int, 2) := by decide +kernel
theorem dX3_init_9 : decode cX3_init 9 = .ok (.putfield 9, 3) := by decide +kernel
theorem dX3_init_12 : decode cX3_init 12 = .ok (.aload_n 0, 1) := by decide +kernel
theorem dX3_init_13 : decode cX3_init 13 = .ok (.bipush 12, 2) := by decide +kernel
theorem dX3_init_15 : decode cX3_init 15 = .ok (.newarray .int, 2) := by decide +kernel
theorem dX3_init_17 : decode cX3_init 17 = .ok (.putfield 15, 3) := by decide +kernel
theorem dX3_init_20 : decode cX3_init 20 = .ok (.aload_n 0, 1) := by decide +kernel
theorem dX3_init_21 : decode cX3_init 21 = .ok (.aload_n 1, 1) := by decide +kernel
theorem dX3_init_22 : decode cX3_init 22 = .ok (.putfield 18, 3) := by decide +kernel
theorem dX3_init_25 : decode cX3_init 25 = .ok (.return_, 1) := by decide +kernel
set_option maxRecDepth 20000 in
theorem ggX3_assign_X3_sortBySize : GoodIn wsX3_assign wsX3_sortBySize := goodIn_ca (goodIn_r _ [14, 2, 3, 15, 16, 4, 36, 37, 38, 39, 40, 41, 42, 43, 44, 45, 46, 47, 48, 49, 50, 51] (by decide +kernel) (by decide +kernel)) (goodIn_sub (fun _ h => List.mem_cons_of_mem _ (List.mem_append_right _ h)) (by decide +kernel))
set_option maxRecDepth 20000 in
theorem gX3_assign_X3_sortBySize : GoodIn wsX3_assign (wsV RX3 22 RX3 yX3_sortBySize wsX3_sortBySize) := goodIn_app (goodIn_of _ (by decide +kernel)) ggX3_assign_X3_sortBySize
set_option maxRecDepth 20000 in
theorem ggX3_assign_X3_lowestStart : GoodIn wsX3_assign wsX3_lowestStart := goodIn_ca (goodIn_r _ [20, 4, 21, 22, 23, 13, 24, 2, 5, 16, 25, 26, 27, 28, 29, 30, 31, 32, 33, 34, 35, 36, 37, 38, 39, 40, 41, 42, 43, 44, 45, 46, 47, 48, 49, 50, 51] (by decide +kernel) (by decide +kernel)) (goodIn_sub (fun _ h => List.mem_cons_of_mem _ (List.mem_append_right _ h)) (by decide +kernel))
set_option maxRecDepth 20000 in
theorem gX3_assign_X3_lowestStart : GoodIn wsX3_assign (wsV RX3 34 RX3 yX3_lowestStart wsX3_lowestStart) := goodIn_app (goodIn_of _ (by decide +kernel)) ggX3_assign_X3_lowestStart
set_option maxRecDepth 20000 in
theorem ggX3_assign_X3_end : GoodIn wsX3_assign wsX3_end := goodIn_ca (goodIn_r _ [35, 5, 2, 16, 36, 37, 38, 39, 40, 41, 42, 43, 44, 45, 46, 47, 48, 49, 50, 51] (by decide +kernel) (by decide +kernel)) (goodIn_sub (fun _ h => List.mem_cons_of_mem _ (List.mem_append_right _ h)) (by decide +kernel))
set_option maxRecDepth 20000 in
theorem gX3_assign_X3_end : GoodIn wsX3_assign (wsV RX3 38 RX3 yX3_end wsX3_end) := goodIn_app (goodIn_of _ (by decide +kernel)) ggX3_assign_X3_end
theorem dX3_assign_0 : decode cX3_assign 0 = .ok (.aload_n 0, 1) := by decide +kernel
theorem dX3_assign_1 : decode cX3_assign 1 = .ok (.invokevirtual 22, 3) := by decide +kernel
theorem dX3_assign_4 : decode cX3_assign 4 = .ok (.aload_n 0, 1) := by decide +kernel
theorem dX3_assign_5 : decode cX3_assign 5 = .ok (.iconst 0, 1) := by decide +kernel
theorem dX3_assign_6 : decode cX3_assign 6 = .ok (.putfield 25, 3) := by decide +kernel
theorem dX3_assign_9 : decode cX3_assign 9 = .ok (.iconst 0, 1) := by decide +kernel
theorem dX3_assign_10 : decode cX3_assign 10 = .ok (.istore_n 1, 1) := by decide +kernel
theorem dX3_assign_11 : decode cX3_assign 11 = .ok (.iload_n 1, 1) := by decide +kernel
theorem dX3_assign_12 : decode cX3_assign 12 = .ok (.aload_n 0, 1) := by decide +kernel
theorem dX3_assign_13 : decode cX3_assign 13 = .ok (.getfield 18, 3) := by decide +kernel
theorem dX3_assign_16 : decode cX3_assign 16 = .ok (.getfield 29, 3) := by decide +kernel
theorem dX3_assign_19 : decode cX3_assign 19 = .ok (.if_icmp .ge 43, 3) := by decide +kernel
theorem dX3_assign_22 : decode cX3_assign 22 = .ok (.aload_n 0, 1) := by decide +kernel
theorem dX3_assign_23 : decode cX3_assign 23 = .ok (.getfield 9, 3) := by decide +kernel
theorem dX3_assign_26 : decode cX3_assign 26 = .ok (.iload_n 1, 1) := by decide +kernel
theorem dX3_assign_27 : decode cX3_assign 27 = .ok (.iaload, 1) := by decide +kernel
theorem dX3_assign_28 : decode cX3_assign 28 = .ok (.istore_n 2, 1) := by decide +kernel
theorem dX3_assign_29 : decode cX3_assign 29 = .ok (.aload_n 0, 1) := by decide +kernel
theorem dX3_assign_30 : decode cX3_assign 30 = .ok (.getfield 15, 3) := by decide +kernel
theorem dX3_assign_33 : decode cX3_assign 33 = .ok (.iload_n 2, 1) := by decide +kernel
theorem dX3_assign_34 : decode cX3_assign 34 = .ok (.aload_n 0, 1) := by decide +kernel
theorem dX3_assign_35 : decode cX3_assign 35 = .ok (.iload_n 1, 1) := by decide +kernel
theorem dX3_assign_36 : decode cX3_assign 36 = .ok (.invokevirtual 34, 3) := by decide +kernel
theorem dX3_assign_39 : decode cX3_assign 39 = .ok (.iastore, 1) := by decide +kernel
theorem dX3_assign_40 : decode cX3_assign 40 = .ok (.aload_n 0, 1) := by decide +kernel
theorem dX3_assign_41 : decode cX3_assign 41 = .ok (.aload_n 0, 1) := by decide +kernel
theorem dX3_assign_42 : decode cX3_assign 42 = .ok (.getfield 25, 3) := by decide +kernel
theorem dX3_assign_45 : decode cX3_assign 45 = .ok (.aload_n 0, 1) := by decide +kernel
theorem dX3_assign_46 : decode cX3_assign 46 = .ok (.iload_n 2, 1) := by decide +kernel
theorem dX3_assign_47 : decode cX3_assign 47 = .ok (.invokevirtual 38, 3) := by decide +kernel
theorem dX3_assign_50 : decode cX3_assign 50 = .ok (.invokestatic 41, 3) := by decide +kernel
theorem dX3_assign_53 : decode cX3_assign 53 = .ok (.putfield 25, 3) := by decide +kernel
theorem dX3_assign_56 : decode cX3_assign 56 = .ok (.iinc 1 1, 3) := by decide +kernel
theorem dX3_assign_59 : decode cX3_assign 59 = .ok (.goto (-48), 3) := by decide +kernel
theorem dX3_assign_62 : decode cX3_assign 62 = .ok (.return_, 1) := by decide +kernel
theorem dX3_sortBySize_0 : decode cX3_sortBySize 0 = .ok (.iconst 0, 1) := by decide +kernel
theorem dX3_sortBySize_1 : decode cX3_sortBySize 1 = .ok (.istore_n 1, 1) := by decide +kernel
theorem dX3_sortBySize_2 : decode cX3_sortBySize 2 = .ok (.iload_n 1, 1) := by decide +kernel
theorem dX3_sortBySize_3 : decode cX3_sortBySize 3 = .ok (.aload_n 0, 1) := by decide +kernel
theorem dX3_sortBySize_4 : decode cX3_sortBySize 4 = .ok (.getfield 18, 3) := by decide +kernel
theorem dX3_sortBySize_7 : decode cX3_sortBySize 7 = .ok (.getfield 29, 3) := by decide +kernel
theorem dX3_sortBySize_10 : decode cX3_sortBySize 10 = .ok (.if_icmp .ge 80, 3) := by decide +kernel
theorem dX3_sortBySize_13 : decode cX3_sortBySize 13 = .ok (.aload_n 0, 1) := by decide +kernel
theorem dX3_sortBySize_14 : decode cX3_sortBySize 14 = .ok (.getfield 18, 3) := by decide +kernel
theorem dX3_sortBySize_17 : decode cX3_sortBySize 17 = .ok (.getfield 47, 3) := by decide +kernel
theorem dX3_sortBySize_20 : decode cX3_sortBySize 20 = .ok (.iload_n 1, 1) := by decide +kernel
theorem dX3_sortBySize_21 : decode cX3_sortBySize 21 = .ok (.iaload, 1) := by decide +kernel
theorem dX3_sortBySize_22 : decode cX3_sortBySize 22 = .ok (.istore_n 2, 1) := by decide +kernel
theorem dX3_sortBySize_23 : decode cX3_sortBySize 23 = .ok (.iload_n 1, 1) := by decide +kernel
theorem dX3_sortBySize_24 : decode cX3_sortBySize 24 = .ok (.istore_n 3, 1) := by decide +kernel
theorem dX3_sortBySize_25 : decode cX3_sortBySize 25 = .ok (.iload_n 3, 1) := by decide +kernel
theorem dX3_sortBySize_26 : decode cX3_sortBySize 26 = .ok (.ifCond .le 51, 3) := by decide +kernel
theorem dX3_sortBySize_29 : decode cX3_sortBySize 29 = .ok (.aload_n 0, 1) := by decide +kernel
theorem dX3_sortBySize_30 : decode cX3_sortBySize 30 = .ok (.getfield 18, 3) := by decide +kernel
theorem dX3_sortBySize_33 : decode cX3_sortBySize 33 = .ok (.getfield 50, 3) := by decide +kernel
theorem dX3_sortBySize_36 : decode cX3_sortBySize 36 = .ok (.aload_n 0, 1) := by decide +kernel
theorem dX3_sortBySize_37 : decode cX3_sortBySize 37 = .ok (.getfield 9, 3) := by decide +kernel
theorem dX3_sortBySize_40 : decode cX3_sortBySize 40 = .ok (.iload_n 3, 1) := by decide +kernel
theorem dX3_sortBySize_41 : decode cX3_sortBySize 41 = .ok (.iconst 1, 1) := by decide +kernel
theorem dX3_sortBySize_42 : decode cX3_sortBySize 42 = .ok (.isub, 1) := by decide +kernel
theorem dX3_sortBySize_43 : decode cX3_sortBySize 43 = .ok (.iaload, 1) := by decide +kernel
theorem dX3_sortBySize_44 : decode cX3_sortBySize 44 = .ok (.iaload, 1) := by decide +kernel
theorem dX3_sortBySize_45 : decode cX3_sortBySize 45 = .ok (.aload_n 0, 1) := by decide +kernel
theorem dX3_sortBySize_46 : decode cX3_sortBySize 46 = .ok (.getfield 18, 3) := by decide +kernel
theorem dX3_sortBySize_49 : decode cX3_sortBySize 49 = .ok (.getfield 50, 3) := by decide +kernel
theorem dX3_sortBySize_52 : decode cX3_sortBySize 52 = .ok (.iload_n 2, 1) := by decide +kernel
theorem dX3_sortBySize_53 : decode cX3_sortBySize 53 = .ok (.iaload, 1) := by decide +kernel
theorem dX3_sortBySize_54 : decode cX3_sortBySize 54 = .ok (.if_icmp .ge 23, 3) := by decide +kernel
theorem dX3_sortBySize_57 : decode cX3_sortBySize 57 = .ok (.aload_n 0, 1) := by decide +kernel
theorem dX3_sortBySize_58 : decode cX3_sortBySize 58 = .ok (.getfield 9, 3) := by decide +kernel
theorem dX3_sortBySize_61 : decode cX3_sortBySize 61 = .ok (.iload_n 3, 1) := by decide +kernel
theorem dX3_sortBySize_62 : decode cX3_sortBySize 62 = .ok (.aload_n 0, 1) := by decide +kernel
theorem dX3_sortBySize_63 : decode cX3_sortBySize 63 = .ok (.getfield 9, 3) := by decide +kernel
theorem dX3_sortBySize_66 : decode cX3_sortBySize 66 = .ok (.iload_n 3, 1) := by decide +kernel
theorem dX3_sortBySize_67 : decode cX3_sortBySize 67 = .ok (.iconst 1, 1) := by decide +kernel
theorem dX3_sortBySize_68 : decode cX3_sortBySize 68 = .ok (.isub, 1) := by decide +kernel
theorem dX3_sortBySize_69 : decode cX3_sortBySize 69 = .ok (.iaload, 1) := by decide +kernel
theorem dX3_sortBySize_70 : decode cX3_sortBySize 70 = .ok (.iastore, 1) := by decide +kernel
theorem dX3_sortBySize_71 : decode cX3_sortBySize 71 = .ok (.iinc 3 (-1), 3) := by decide +kernel
theorem dX3_sortBySize_74 : decode cX3_sortBySize 74 = .ok (.goto (-49), 3) := by decide +kernel
theorem dX3_sortBySize_77 : decode cX3_sortBySize 77 = .ok (.aload_n 0, 1) := by decide +kernel
theorem dX3_sortBySize_78 : decode cX3_sortBySize 78 = .ok (.getfield 9, 3) := by decide +kernel
theorem dX3_sortBySize_81 : decode cX3_sortBySize 81 = .ok (.iload_n 3, 1) := by decide +kernel
theorem dX3_sortBySize_82 : decode cX3_sortBySize 82 = .ok (.iload_n 2, 1) := by decide +kernel
theorem dX3_sortBySize_83 : decode cX3_sortBySize 83 = .ok (.iastore, 1) := by decide +kernel
theorem dX3_sortBySize_84 : decode cX3_sortBySize 84 = .ok (.iinc 1 1, 3) := by decide +kernel
theorem dX3_sortBySize_87 : decode cX3_sortBySize 87 = .ok (.goto (-85), 3) := by decide +kernel
theorem dX3_sortBySize_90 : decode cX3_sortBySize 90 = .ok (.return_, 1) := by decide +kernel
set_option maxRecDepth 20000 in
theorem ggX3_lowestStart_X3_isInTheWay : GoodIn wsX3_lowestStart wsX3_isInTheWay := goodIn_ca (goodIn_r _ [6, 7, 8, 9, 10, 11, 12, 13, 14, 15, 16, 17, 18, 19, 5, 20, 21, 22, 23, 24, 25, 26, 27, 28, 29, 30, 31, 32, 33, 34, 35, 36] (by decide +kernel) (by decide +kernel)) (goodIn_sub (fun _ h => List.mem_cons_of_mem _ (List.mem_append_right _ h)) (by decide +kernel))
set_option maxRecDepth 20000 in
theorem gX3_lowestStart_X3_isInTheWay : GoodIn wsX3_lowestStart (wsV RX3 53 RX3 yX3_isInTheWay wsX3_isInTheWay) := goodIn_app (goodIn_of _ (by decide +kernel)) ggX3_lowestStart_X3_isInTheWay
set_option maxRecDepth 20000 in
theorem ggX3_lowestStart_X3_end : GoodIn wsX3_lowestStart wsX3_end := goodIn_ca (goodIn_r _ [20, 8, 7, 9, 21, 22, 23, 24, 25, 26, 27, 28, 29, 30, 31, 32, 33, 34, 35, 36] (by decide +kernel) (by decide +kernel)) (goodIn_sub (fun _ h => List.mem_cons_of_mem _ (List.mem_append_right _ h)) (by decide +kernel))
set_option maxRecDepth 20000 in
theorem gX3_lowestStart_X3_end : GoodIn wsX3_lowestStart (wsV RX3 38 RX3 yX3_end wsX3_end) := goodIn_app (goodIn_of _ (by decide +kernel)) ggX3_lowestStart_X3_end
theorem dX3_lowestStart_0 : decode cX3_lowestStart 0 = .ok (.aload_n 0, 1) := by decide +kernel
theorem dX3_lowestStart_1 : decode cX3_lowestStart 1 = .ok (.getfield 9, 3) := by decide +kernel
theorem dX3_lowestStart_4 : decode cX3_lowestStart 4 = .ok (.iload_n 1, 1) := by decide +kernel
theorem dX3_lowestStart_5 : decode cX3_lowestStart 5 = .ok (.iaload, 1) := by decide +kernel
theorem dX3_lowestStart_6 : decode cX3_lowestStart 6 = .ok (.istore_n 2, 1) := by decide +kernel
theorem dX3_lowestStart_7 : decode cX3_lowestStart 7 = .ok (.iconst 0, 1) := by decide +kernel
theorem dX3_lowestStart_8 : decode cX3_lowestStart 8 = .ok (.istore_n 3, 1) := by decide +kernel
theorem dX3_lowestStart_9 : decode cX3_lowestStart 9 = .ok (.iconst 0, 1) := by decide +kernel
theorem dX3_lowestStart_10 : decode cX3_lowestStart 10 = .ok (.istore 4, 2) := by decide +kernel
theorem dX3_lowestStart_12 : decode cX3_lowestStart 12 = .ok (.iload 4, 2) := by decide +kernel
theorem dX3_lowestStart_14 : decode cX3_lowestStart 14 = .ok (.iload_n 1, 1) := by decide +kernel
theorem dX3_lowestStart_15 : decode cX3_lowestStart 15 = .ok (.if_icmp .ge 52, 3) := by decide +kernel
theorem dX3_lowestStart_18 : decode cX3_lowestStart 18 = .ok (.iconst 0, 1) := by decide +kernel
theorem dX3_lowestStart_19 : decode cX3_lowestStart 19 = .ok (.istore 5, 2) := by decide +kernel
theorem dX3_lowestStart_21 : decode cX3_lowestStart 21 = .ok (.iload 5, 2) := by decide +kernel
theorem dX3_lowestStart_23 : decode cX3_lowestStart 23 = .ok (.iload_n 1, 1) := by decide +kernel
theorem dX3_lowestStart_24 : decode cX3_lowestStart 24 = .ok (.if_icmp .ge 37, 3) := by decide +kernel
theorem dX3_lowestStart_27 : decode cX3_lowestStart 27 = .ok (.aload_n 0, 1) := by decide +kernel
theorem dX3_lowestStart_28 : decode cX3_lowestStart 28 = .ok (.aload_n 0, 1) := by decide +kernel
theorem dX3_lowestStart_29 : decode cX3_lowestStart 29 = .ok (.getfield 9, 3) := by decide +kernel
theorem dX3_lowestStart_32 : decode cX3_lowestStart 32 = .ok (.iload 5, 2) := by decide +kernel
theorem dX3_lowestStart_34 : decode cX3_lowestStart 34 = .ok (.iaload, 1) := by decide +kernel
theorem dX3_lowestStart_35 : decode cX3_lowestStart 35 = .ok (.iload_n 2, 1) := by decide +kernel
theorem dX3_lowestStart_36 : decode cX3_lowestStart 36 = .ok (.iload_n 3, 1) := by decide +kernel
theorem dX3_lowestStart_37 : decode cX3_lowestStart 37 = .ok (.invokevirtual 53, 3) := by decide +kernel
theorem dX3_lowestStart_40 : decode cX3_lowestStart 40 = .ok (.ifCond .eq 15, 3) := by decide +kernel
theorem dX3_lowestStart_43 : decode cX3_lowestStart 43 = .ok (.aload_n 0, 1) := by decide +kernel
theorem dX3_lowestStart_44 : decode cX3_lowestStart 44 = .ok (.aload_n 0, 1) := by decide +kernel
theorem dX3_lowestStart_45 : decode cX3_lowestStart 45 = .ok (.getfield 9, 3) := by decide +kernel
theorem dX3_lowestStart_48 : decode cX3_lowestStart 48 = .ok (.iload 5, 2) := by decide +kernel
theorem dX3_lowestStart_50 : decode cX3_lowestStart 50 = .ok (.iaload, 1) := by decide +kernel
theorem dX3_lowestStart_51 : decode cX3_lowestStart 51 = .ok (.invokevirtual 38, 3) := by decide +kernel
theorem dX3_lowestStart_54 : decode cX3_lowestStart 54 = .ok (.istore_n 3, 1) := by decide +kernel
theorem dX3_lowestStart_55 : decode cX3_lowestStart 55 = .ok (.iinc 5 1, 3) := by decide +kernel
theorem dX3_lowestStart_58 : decode cX3_lowestStart 58 = .ok (.goto (-37), 3) := by decide +kernel
theorem dX3_lowestStart_61 : decode cX3_lowestStart 61 = .ok (.iinc 4 1, 3) := by decide +kernel
theorem dX3_lowestStart_64 : decode cX3_lowestStart 64 = .ok (.goto (-52), 3) := by decide +kernel
theorem dX3_lowestStart_67 : decode cX3_lowestStart 67 = .ok (.iload_n 3, 1) := by decide +kernel
theorem dX3_lowestStart_68 : decode cX3_lowestStart 68 = .ok (.ireturn, 1) := by decide +kernel
set_option maxRecDepth 20000 in
theorem ggX3_isInTheWay_X4_liveTogether : GoodIn wsX3_isInTheWay wsX4_liveTogether := goodIn_ca (goodIn_r _ [8, 9, 10, 20, 21, 22, 23, 24, 25, 26, 27, 28, 29, 30, 31] (by decide +kernel) (by decide +kernel)) (goodIn_sub (fun _ h => List.mem_cons_of_mem _ (List.mem_append_right _ h)) (by decide +kernel))
set_option maxRecDepth 20000 in
theorem gX3_isInTheWay_X4_liveTogether : GoodIn wsX3_isInTheWay (wsV RX3 57 RX4 yX4_liveTogether wsX4_liveTogether) := goodIn_app (goodIn_of _ (by decide +kernel)) ggX3_isInTheWay_X4_liveTogether
set_option maxRecDepth 20000 in
theorem ggX3_isInTheWay_X3_end : GoodIn wsX3_isInTheWay wsX3_end := goodIn_ca (goodIn_r _ [15, 2, 1, 3, 16, 17, 18, 19, 20, 21, 22, 23, 24, 25, 26, 27, 28, 29, 30, 31] (by decide +kernel) (by decide +kernel)) (goodIn_sub (fun _ h => List.mem_cons_of_mem _ (List.mem_append_right _ h)) (by decide +kernel))
set_option maxRecDepth 20000 in
theorem gX3_isInTheWay_X3_end : GoodIn wsX3_isInTheWay (wsV RX3 38 RX3 yX3_end wsX3_end) := goodIn_app (goodIn_of _ (by decide +kernel)) ggX3_isInTheWay_X3_end
theorem dX3_isInTheWay_0 : decode cX3_isInTheWay 0 = .ok (.aload_n 0, 1) := by decide +kernel
theorem dX3_isInTheWay_1 : decode cX3_isInTheWay 1 = .ok (.getfield 18, 3) := by decide +kernel
theorem dX3_isInTheWay_4 : decode cX3_isInTheWay 4 = .ok (.iload_n 1, 1) := by decide +kernel
theorem dX3_isInTheWay_5 : decode cX3_isInTheWay 5 = .ok (.iload_n 2, 1) := by decide +kernel
theorem dX3_isInTheWay_6 : decode cX3_isInTheWay 6 = .ok (.invokevirtual 57, 3) := by decide +kernel
theorem dX3_isInTheWay_9 : decode cX3_isInTheWay 9 = .ok (.ifCond .eq 36, 3) := by decide +kernel
theorem dX3_isInTheWay_12 : decode cX3_isInTheWay 12 = .ok (.iload_n 3, 1) := by decide +kernel
theorem dX3_isInTheWay_13 : decode cX3_isInTheWay 13 = .ok (.aload_n 0, 1) := by decide +kernel
theorem dX3_isInTheWay_14 : decode cX3_isInTheWay 14 = .ok (.iload_n 1, 1) := by decide +kernel
theorem dX3_isInTheWay_15 : decode cX3_isInTheWay 15 = .ok (.invokevirtual 38, 3) := by decide +kernel
theorem dX3_isInTheWay_18 : decode cX3_isInTheWay 18 = .ok (.if_icmp .ge 27, 3) := by decide +kernel
theorem dX3_isInTheWay_21 : decode cX3_isInTheWay 21 = .ok (.aload_n 0, 1) := by decide +kernel
theorem dX3_isInTheWay_22 : decode cX3_isInTheWay 22 = .ok (.getfield 15, 3) := by decide +kernel
theorem dX3_isInTheWay_25 : decode cX3_isInTheWay 25 = .ok (.iload_n 1, 1) := by decide +kernel
theorem dX3_isInTheWay_26 : decode cX3_isInTheWay 26 = .ok (.iaload, 1) := by decide +kernel
theorem dX3_isInTheWay_27 : decode cX3_isInTheWay 27 = .ok (.iload_n 3, 1) := by decide +kernel
theorem dX3_isInTheWay_28 : decode cX3_isInTheWay 28 = .ok (.aload_n 0, 1) := by decide +kernel
theorem dX3_isInTheWay_29 : decode cX3_isInTheWay 29 = .ok (.getfield 18, 3) := by decide +kernel
theorem dX3_isInTheWay_32 : decode cX3_isInTheWay 32 = .ok (.getfield 50, 3) := by decide +kernel
theorem dX3_isInTheWay_35 : decode cX3_isInTheWay 35 = .ok (.iload_n 2, 1) := by decide +kernel
theorem dX3_isInTheWay_36 : decode cX3_isInTheWay 36 = .ok (.iaload, 1) := by decide +kernel
theorem dX3_isInTheWay_37 : decode cX3_isInTheWay 37 = .ok (.iadd, 1) := by decide +kernel
theorem dX3_isInTheWay_38 : decode cX3_isInTheWay 38 = .ok (.if_icmp .ge 7, 3) := by decide +kernel
theorem dX3_isInTheWay_41 : decode cX3_isInTheWay 41 = .ok (.iconst 1, 1) := by decide +kernel
theorem dX3_isInTheWay_42 : decode cX3_isInTheWay 42 = .ok (.goto 4, 3) := by decide +kernel
theorem dX3_isInTheWay_45 : decode cX3_isInTheWay 45 = .ok (.iconst 0, 1) := by decide +kernel
theorem dX3_isInTheWay_46 : decode cX3_isInTheWay 46 = .ok (.ireturn, 1) := by decide +kernel
theorem dX3_end_0 : decode cX3_end 0 = .ok (.aload_n 0, 1) := by decide +kernel
theorem dX3_end_1 : decode cX3_end 1 = .ok (.getfield 15, 3) := by decide +kernel
theorem dX3_end_4 : decode cX3_end 4 = .ok (.iload_n 1, 1) := by decide +kernel
theorem dX3_end_5 : decode cX3_end 5 = .ok (.iaload, 1) := by decide +kernel
theorem dX3_end_6 : decode cX3_end 6 = .ok (.aload_n 0, 1) := by decide +kernel
theorem dX3_end_7 : decode cX3_end 7 = .ok (.getfield 18, 3) := by decide +kernel
theorem dX3_end_10 : decode cX3_end 10 = .ok (.getfield 50, 3) := by decide +kernel
theorem dX3_end_13 : decode cX3_end 13 = .ok (.iload_n 1, 1) := by decide +kernel
theorem dX3_end_14 : decode cX3_end 14 = .ok (.iaload, 1) := by decide +kernel
theorem dX3_end_15 : decode cX3_end 15 = .ok (.iadd, 1) := by decide +kernel
theorem dX3_end_16 : decode cX3_end 16 = .ok (.ireturn, 1) := by decide +kernel
theorem dX4_init_0 : decode cX4_init 0 = .ok (.aload_n 0, 1) := by decide +kernel
theorem dX4_init_1 : decode cX4_init 1 = .ok (.invokespecial 3, 3) := by decide +kernel
theorem dX4_init_4 : decode cX4_init 4 = .ok (.aload_n 0, 1) := by decide +kernel
theorem dX4_init_5 : decode cX4_init 5 = .ok (.bipush 12, 2) := by decide +kernel
theorem dX4_init_7 : decode cX4_init 7 = .ok (.newarray .int, 2) := by decide +kernel
theorem dX4_init_9 : decode cX4_init 9 = .ok (.putfield 9, 3) := by decide +kernel
theorem dX4_init_12 : decode cX4_init 12 = .ok (.aload_n 0, 1) := by decide +kernel
theorem dX4_init_13 : decode cX4_init 13 = .ok (.bipush 12, 2) := by decide +kernel
theorem dX4_init_15 : decode cX4_init 15 = .ok (.newarray .int, 2) := by decide +kernel
theorem dX4_init_17 : decode cX4_init 17 = .ok (.putfield 15, 3) := by decide +kernel
theorem dX4_init_20 : decode cX4_init 20 = .ok (.aload_n 0, 1) := by decide +kernel
theorem dX4_init_21 : decode cX4_init 21 = .ok (.bipush 12, 2) := by decide +kernel
theorem dX4_init_23 : decode cX4_init 23 = .ok (.newarray .int, 2) := by decide +kernel
theorem dX4_init_25 : decode cX4_init 25 = .ok (.putfield 18, 3) := by decide +kernel
theorem dX4_init_28 : decode cX4_init 28 = .ok (.aload_n 0, 1) := by decide +kernel
theorem dX4_init_29 : decode cX4_init 29 = .ok (.bipush 12, 2) := by decide +kernel
theorem dX4_init_31 : decode cX4_init 31 = .ok (.newarray .int, 2) := by decide +kernel
theorem dX4_init_33 : decode cX4_init 33 = .ok (.putfield 21, 3) := by decide +kernel
theorem dX4_init_36 : decode cX4_init 36 = .ok (.aload_n 0, 1) := by decide +kernel
theorem dX4_init_37 : decode cX4_init 37 = .ok (.bipush 12, 2) := by decide +kernel
theorem dX4_init_39 : decode cX4_init 39 = .ok (.newarray .int, 2) := by decide +kernel
theorem dX4_init_41 : decode cX4_init 41 = .ok (.putfield 24, 3) := by decide +kernel
theorem dX4_init_44 : decode cX4_init 44 = .ok (.aload_n 0, 1) := by decide +kernel
theorem dX4_init_45 : decode cX4_init 45 = .ok (.bipush 12, 2) := by decide +kernel
theorem dX4_init_47 : decode cX4_init 47 = .ok (.newarray .int, 2) := by decide +kernel
theorem dX4_init_49 : decode cX4_init 49 = .ok (.putfield 27, 3) := by decide +kernel
theorem dX4_init_52 : decode cX4_init 52 = .ok (.aload_n 0, 1) := by decide +kernel
theorem dX4_init_53 : decode cX4_init 53 = .ok (.bipush 12, 2) := by decide +kernel
theorem dX4_init_55 : decode cX4_init 55 = .ok (.newarray .int, 2) := by decide +kernel
theorem dX4_init_57 : decode cX4_init 57 = .ok (.putfield 30, 3) := by decide +kernel
theorem dX4_init_60 : decode cX4_init 60 = .ok (.aload_n 0, 1) := by decide +kernel
theorem dX4_init_61 : decode cX4_init 61 = .ok (.bipush 12, 2) := by decide +kernel
theorem dX4_init_63 : decode cX4_init 63 = .ok (.newarray .int, 2) := by decide +kernel
theorem dX4_init_65 : decode cX4_init 65 = .ok (.putfield 33, 3) := by decide +kernel
theorem dX4_init_68 : decode cX4_init 68 = .ok (.aload_n 0, 1) := by decide +kernel
theorem dX4_init_69 : decode cX4_init 69 = .ok (.aload_n 1, 1) := by decide +kernel
theorem dX4_init_70 : decode cX4_init 70 = .ok (.putfield 36, 3) := by decide +kernel
theorem dX4_init_73 : decode cX4_init 73 = .ok (.return_, 1) := by decide +kernel
set_option maxRecDepth 20000 in
theorem ggX4_measure_X4_findNeighbours : GoodIn wsX4_measure wsX4_findNeighbours := goodIn_ca (goodIn_r _ [9, 10, 11, 12, 13, 14, 15, 16, 17, 18, 19, 20, 21, 22, 23, 24, 25, 26, 27, 28, 89, 90, 91, 92, 93, 94, 95, 96, 97, 98, 99, 100, 101, 102, 103, 104, 105, 106, 107] (by decide +kernel) (by decide +kernel)) (goodIn_sub (fun _ h => List.mem_cons_of_mem _ (List.mem_append_right _ h)) (by decide +kernel))
set_option maxRecDepth 20000 in
theorem gX4_measure_X4_findNeighbours : GoodIn wsX4_measure (wsV RX4 40 RX4 yX4_findNeighbours wsX4_findNeighbours) := goodIn_app (goodIn_of _ (by decide +kernel)) ggX4_measure_X4_findNeighbours
set_option maxRecDepth 20000 in
theorem ggX4_measure_X4_orderByNumbers : GoodIn wsX4_measure wsX4_orderByNumbers := goodIn_ca (goodIn_r _ [32, 11, 12, 33, 34, 35, 8, 36, 37, 38, 1, 14, 15, 16, 17, 39, 40, 41, 42, 43, 44, 45, 46, 13, 47, 48, 49, 50, 51, 25, 52, 53, 54, 55, 56, 2, 24, 26, 89, 90, 91, 92, 93, 94, 95, 96, 97, 98, 99, 100, 101, 102, 103, 104, 105, 106, 107] (by decide +kernel) (by decide +kernel)) (goodIn_sub (fun _ h => List.mem_cons_of_mem _ (List.mem_append_right _ h)) (by decide +kernel))
set_option maxRecDepth 20000 in
theorem gX4_measure_X4_orderByNumbers : GoodIn wsX4_measure (wsV RX4 43 RX4 yX4_orderByNumbers wsX4_orderByNumbers) := goodIn_app (goodIn_of _ (by decide +kernel)) ggX4_measure_X4_orderByNumbers
set_option maxRecDepth 20000 in
theorem ggX4_measure_X4_sizesFit : GoodIn wsX4_measure wsX4_sizesFit := goodIn_ca (goodIn_r _ [60, 11, 61, 62, 63, 64, 65, 66, 8, 67, 68, 3, 89, 90, 91, 92, 93, 94, 95, 96, 97, 98, 99, 100, 101, 102, 103, 104, 105, 106, 107] (by decide +kernel) (by decide +kernel)) (goodIn_sub (fun _ h => List.mem_cons_of_mem _ (List.mem_append_right _ h)) (by decide +kernel))
set_option maxRecDepth 20000 in
theorem gX4_measure_X4_sizesFit : GoodIn wsX4_measure (wsV RX4 50 RX4 yX4_sizesFit wsX4_sizesFit) := goodIn_app (goodIn_of _ (by decide +kernel)) ggX4_measure_X4_sizesFit
set_option maxRecDepth 20000 in
theorem ggX4_measure_X4_sizeOf : GoodIn wsX4_measure wsX4_sizeOf := goodIn_ca (goodIn_r _ [72, 11, 61, 62, 63, 64, 65, 66, 8, 67, 68, 3, 89, 90, 91, 92, 93, 94, 95, 96, 97, 98, 99, 100, 101, 102, 103, 104, 105, 106, 107] (by decide +kernel) (by decide +kernel)) (goodIn_sub (fun _ h => List.mem_cons_of_mem _ (List.mem_append_right _ h)) (by decide +kernel))
set_option maxRecDepth 20000 in
theorem gX4_measure_X4_sizeOf : GoodIn wsX4_measure (wsV RX4 54 RX4 yX4_sizeOf wsX4_sizeOf) := goodIn_app (goodIn_of _ (by decide +kernel)) ggX4_measure_X4_sizeOf
set_option maxRecDepth 20000 in
theorem ggX4_measure_X4_labelOf : GoodIn wsX4_measure wsX4_labelOf := goodIn_ca (goodIn_r _ [76, 11, 4, 68, 77, 78, 79, 80, 81, 82, 83, 84, 85, 86, 21, 87, 88, 89, 90, 91, 92, 93, 94, 95, 96, 97, 98, 99, 100, 101, 102, 103, 104, 105, 106, 107] (by decide +kernel) (by decide +kernel)) (goodIn_sub (fun _ h => List.mem_cons_of_mem _ (List.mem_append_right _ h)) (by decide +kernel))
set_option maxRecDepth 20000 in
theorem gX4_measure_X4_labelOf : GoodIn wsX4_measure (wsV RX4 58 RX4 yX4_labelOf wsX4_labelOf) := goodIn_app (goodIn_of _ (by decide +kernel)) ggX4_measure_X4_labelOf
theorem dX4_measure_0 : decode cX4_measure 0 = .ok (.aload_n 0, 1) := by decide +kernel
theorem dX4_measure_1 : decode cX4_measure 1 = .ok (.invokevirtual 40, 3) := by decide +kernel
theorem dX4_measure_4 : decode cX4_measure 4 = .ok (.aload_n 0, 1) := by decide +kernel
theorem dX4_measure_5 : decode cX4_measure 5 = .ok (.invokevirtual 43, 3) := by decide +kernel
theorem dX4_measure_8 : decode cX4_measure 8 = .ok (.iconst 0, 1) := by decide +kernel
theorem dX4_measure_9 : decode cX4_measure 9 = .ok (.istore_n 1, 1) := by decide +kernel
theorem dX4_measure_10 : decode cX4_measure 10 = .ok (.iload_n 1, 1) := by decide +kernel
theorem dX4_measure_11 : decode cX4_measure 11 = .ok (.aload_n 0, 1) := by decide +kernel
theorem dX4_measure_12 : decode cX4_measure 12 = .ok (.getfield 46, 3) := by decide +kernel
theorem dX4_measure_15 : decode cX4_measure 15 = .ok (.if_icmp .ge 48, 3) := by decide +kernel
theorem dX4_measure_18 : decode cX4_measure 18 = .ok (.aload_n 0, 1) := by decide +kernel
theorem dX4_measure_19 : decode cX4_measure 19 = .ok (.getfield 24, 3) := by decide +kernel
theorem dX4_measure_22 : decode cX4_measure 22 = .ok (.iload_n 1, 1) := by decide +kernel
theorem dX4_measure_23 : decode cX4_measure 23 = .ok (.iaload, 1) := by decide +kernel
theorem dX4_measure_24 : decode cX4_measure 24 = .ok (.istore_n 2, 1) := by decide +kernel
theorem dX4_measure_25 : decode cX4_measure 25 = .ok (.aload_n 0, 1) := by decide +kernel
theorem dX4_measure_26 : decode cX4_measure 26 = .ok (.iload_n 2, 1) := by decide +kernel
theorem dX4_measure_27 : decode cX4_measure 27 = .ok (.invokevirtual 50, 3) := by decide +kernel
theorem dX4_measure_30 : decode cX4_measure 30 = .ok (.ifCond .ne 5, 3) := by decide +kernel
theorem dX4_measure_33 : decode cX4_measure 33 = .ok (.iconst 0, 1) := by decide +kernel
theorem dX4_measure_34 : decode cX4_measure 34 = .ok (.ireturn, 1) := by decide +kernel
theorem dX4_measure_35 : decode cX4_measure 35 = .ok (.aload_n 0, 1) := by decide +kernel
theorem dX4_measure_36 : decode cX4_measure 36 = .ok (.getfield 18, 3) := by decide +kernel
theorem dX4_measure_39 : decode cX4_measure 39 = .ok (.iload_n 2, 1) := by decide +kernel
theorem dX4_measure_40 : decode cX4_measure 40 = .ok (.aload_n 0, 1) := by decide +kernel
theorem dX4_measure_41 : decode cX4_measure 41 = .ok (.iload_n 2, 1) := by decide +kernel
theorem dX4_measure_42 : decode cX4_measure 42 = .ok (.invokevirtual 54, 3) := by decide +kernel
theorem dX4_measure_45 : decode cX4_measure 45 = .ok (.iastore, 1) := by decide +kernel
theorem dX4_measure_46 : decode cX4_measure 46 = .ok (.aload_n 0, 1) := by decide +kernel
theorem dX4_measure_47 : decode cX4_measure 47 = .ok (.getfield 21, 3) := by decide +kernel
theorem dX4_measure_50 : decode cX4_measure 50 = .ok (.iload_n 2, 1) := by decide +kernel
theorem dX4_measure_51 : decode cX4_measure 51 = .ok (.aload_n 0, 1) := by decide +kernel
theorem dX4_measure_52 : decode cX4_measure 52 = .ok (.iload_n 2, 1) := by decide +kernel
theorem dX4_measure_53 : decode cX4_measure 53 = .ok (.invokevirtual 58, 3) := by decide +kernel
theorem dX4_measure_56 : decode cX4_measure 56 = .ok (.iastore, 1) := by decide +kernel
theorem dX4_measure_57 : decode cX4_measure 57 = .ok (.iinc 1 1, 3) := by decide +kernel
theorem dX4_measure_60 : decode cX4_measure 60 = .ok (.goto (-50), 3) := by decide +kernel
theorem dX4_measure_63 : decode cX4_measure 63 = .ok (.iconst 1, 1) := by decide +kernel
theorem dX4_measure_64 : decode cX4_measure 64 = .ok (.ireturn, 1) := by decide +kernel
set_option maxRecDepth 20000 in
theorem ggX4_arrange_X4_orderByLabels : GoodIn wsX4_arrange wsX4_orderByLabels := goodIn_ca (goodIn_r _ [8, 1, 2, 9, 10, 11, 12, 7, 13, 14, 15, 16, 17, 18, 19, 20, 21, 22, 23, 24, 25, 26, 27, 28, 29, 30, 31, 32, 33, 34, 35, 36, 37, 38, 39, 40, 41, 42, 43, 44, 45, 46, 80, 81, 82, 83, 84, 85, 86, 87, 88, 89, 90, 91, 92, 93, 94, 95, 96, 97, 98] (by decide +kernel) (by decide +kernel)) (goodIn_sub (fun _ h => List.mem_cons_of_mem _ (List.mem_append_right _ h)) (by decide +kernel))
set_option maxRecDepth 20000 in
theorem gX4_arrange_X4_orderByLabels : GoodIn wsX4_arrange (wsV RX4 61 RX4 yX4_orderByLabels wsX4_orderByLabels) := goodIn_app (goodIn_of _ (by decide +kernel)) ggX4_arrange_X4_orderByLabels
set_option maxRecDepth 20000 in
theorem ggX4_arrange_X4_orderByNumbers : GoodIn wsX4_arrange wsX4_orderByNumbers := goodIn_ca (goodIn_r _ [50, 1, 2, 10, 11, 12, 7, 13, 14, 15, 16, 17, 18, 19, 20, 51, 52, 53, 54, 55, 56, 57, 58, 59, 25, 26, 27, 28, 60, 45, 61, 39, 40, 41, 42, 43, 44, 46, 80, 81, 82, 83, 84, 85, 86, 87, 88, 89, 90, 91, 92, 93, 94, 95, 96, 97, 98] (by decide +kernel) (by decide +kernel)) (goodIn_sub (fun _ h => List.mem_cons_of_mem _ (List.mem_append_right _ h)) (by decide +kernel))
set_option maxRecDepth 20000 in
theorem gX4_arrange_X4_orderByNumbers : GoodIn wsX4_arrange (wsV RX4 43 RX4 yX4_orderByNumbers wsX4_orderByNumbers) := goodIn_app (goodIn_of _ (by decide +kernel)) ggX4_arrange_X4_orderByNumbers
set_option maxRecDepth 20000 in
theorem ggX4_arrange_X4_lastStepOf : GoodIn wsX4_arrange wsX4_lastStepOf := goodIn_ca (goodIn_r _ [65, 1, 66, 2, 14, 9, 67, 68, 69, 70, 71, 45, 72, 80, 81, 82, 83, 84, 85, 86, 87, 88, 89, 90, 91, 92, 93, 94, 95, 96, 97, 98] (by decide +kernel) (by decide +kernel)) (goodIn_sub (fun _ h => List.mem_cons_of_mem _ (List.mem_append_right _ h)) (by decide +kernel))
set_option maxRecDepth 20000 in
theorem gX4_arrange_X4_lastStepOf : GoodIn wsX4_arrange (wsV RX4 69 RX4 yX4_lastStepOf wsX4_lastStepOf) := goodIn_app (goodIn_of _ (by decide +kernel)) ggX4_arrange_X4_lastStepOf
set_option maxRecDepth 20000 in
theorem ggX4_arrange_X4_addCosts : GoodIn wsX4_arrange wsX4_addCosts := goodIn_ca (goodIn_r _ [76, 77, 78, 16, 1, 2, 14, 3, 79, 67, 68, 69, 70, 17, 18, 19, 20, 80, 81, 82, 83, 84, 85, 86, 87, 88, 89, 90, 91, 92, 93, 94, 95, 96, 97, 98] (by decide +kernel) (by decide +kernel)) (goodIn_sub (fun _ h => List.mem_cons_of_mem _ (List.mem_append_right _ h)) (by decide +kernel))
set_option maxRecDepth 20000 in
theorem gX4_arrange_X4_addCosts : GoodIn wsX4_arrange (wsV RX4 72 RX4 yX4_addCosts wsX4_addCosts) := goodIn_app (goodIn_of _ (by decide +kernel)) ggX4_arrange_X4_addCosts
theorem dX4_arrange_0 : decode cX4_arrange 0 = .ok (.iload_n 1, 1) := by decide +kernel
theorem dX4_arrange_1 : decode cX4_arrange 1 = .ok (.iconst 1, 1) := by decide +kernel
theorem dX4_arrange_2 : decode cX4_arrange 2 = .ok (.if_icmp .ne 10, 3) := by decide +kernel
theorem dX4_arrange_5 : decode cX4_arrange 5 = .ok (.aload_n 0, 1) := by decide +kernel
theorem dX4_arrange_6 : decode cX4_arrange 6 = .ok (.invokevirtual 61, 3) := by decide +kernel
theorem dX4_arrange_9 : decode cX4_arrange 9 = .ok (.goto 7, 3) := by decide +kernel
theorem dX4_arrange_12 : decode cX4_arrange 12 = .ok (.aload_n 0, 1) := by decide +kernel
theorem dX4_arrange_13 : decode cX4_arrange 13 = .ok (.invokevirtual 43, 3) := by decide +kernel
theorem dX4_arrange_16 : decode cX4_arrange 16 = .ok (.iconst 0, 1) := by decide +kernel
theorem dX4_arrange_17 : decode cX4_arrange 17 = .ok (.istore_n 2, 1) := by decide +kernel
theorem dX4_arrange_18 : decode cX4_arrange 18 = .ok (.iload_n 2, 1) := by decide +kernel
theorem dX4_arrange_19 : decode cX4_arrange 19 = .ok (.aload_n 0, 1) := by decide +kernel
theorem dX4_arrange_20 : decode cX4_arrange 20 = .ok (.getfield 36, 3) := by decide +kernel
theorem dX4_arrange_23 : decode cX4_arrange 23 = .ok (.getfield 64, 3) := by decide +kernel
theorem dX4_arrange_26 : decode cX4_arrange 26 = .ok (.if_icmp .ge 20, 3) := by decide +kernel
theorem dX4_arrange_29 : decode cX4_arrange 29 = .ok (.aload_n 0, 1) := by decide +kernel
theorem dX4_arrange_30 : decode cX4_arrange 30 = .ok (.getfield 30, 3) := by decide +kernel
theorem dX4_arrange_33 : decode cX4_arrange 33 = .ok (.iload_n 2, 1) := by decide +kernel
theorem dX4_arrange_34 : decode cX4_arrange 34 = .ok (.aload_n 0, 1) := by decide +kernel
theorem dX4_arrange_35 : decode cX4_arrange 35 = .ok (.iload_n 2, 1) := by decide +kernel
theorem dX4_arrange_36 : decode cX4_arrange 36 = .ok (.invokevirtual 69, 3) := by decide +kernel
theorem dX4_arrange_39 : decode cX4_arrange 39 = .ok (.iastore, 1) := by decide +kernel
theorem dX4_arrange_40 : decode cX4_arrange 40 = .ok (.iinc 2 1, 3) := by decide +kernel
theorem dX4_arrange_43 : decode cX4_arrange 43 = .ok (.goto (-25), 3) := by decide +kernel
theorem dX4_arrange_46 : decode cX4_arrange 46 = .ok (.aload_n 0, 1) := by decide +kernel
theorem dX4_arrange_47 : decode cX4_arrange 47 = .ok (.invokevirtual 72, 3) := by decide +kernel
theorem dX4_arrange_50 : decode cX4_arrange 50 = .ok (.return_, 1) := by decide +kernel
theorem dX4_liveTogether_0 : decode cX4_liveTogether 0 = .ok (.aload_n 0, 1) := by decide +kernel
theorem dX4_liveTogether_1 : decode cX4_liveTogether 1 = .ok (.getfield 27, 3) := by decide +kernel
theorem dX4_liveTogether_4 : decode cX4_liveTogether 4 = .ok (.iload_n 1, 1) := by decide +kernel
theorem dX4_liveTogether_5 : decode cX4_liveTogether 5 = .ok (.iaload, 1) := by decide +kernel
theorem dX4_liveTogether_6 : decode cX4_liveTogether 6 = .ok (.aload_n 0, 1) := by decide +kernel
theorem dX4_liveTogether_7 : decode cX4_liveTogether 7 = .ok (.getfield 30, 3) := by decide +kernel
theorem dX4_liveTogether_10 : decode cX4_liveTogether 10 = .ok (.iload_n 2, 1) := by decide +kernel
theorem dX4_liveTogether_11 : decode cX4_liveTogether 11 = .ok (.iaload, 1) := by decide +kernel
theorem dX4_liveTogether_12 : decode cX4_liveTogether 12 = .ok (.if_icmp .gt 22, 3) := by decide +kernel
theorem dX4_liveTogether_15 : decode cX4_liveTogether 15 = .ok (.aload_n 0, 1) := by decide +kernel
theorem dX4_liveTogether_16 : decode cX4_liveTogether 16 = .ok (.getfield 27, 3) := by decide +kernel
theorem dX4_liveTogether_19 : decode cX4_liveTogether 19 = .ok (.iload_n 2, 1) := by decide +kernel
theorem dX4_liveTogether_20 : decode cX4_liveTogether 20 = .ok (.iaload, 1) := by decide +kernel
theorem dX4_liveTogether_21 : decode cX4_liveTogether 21 = .ok (.aload_n 0, 1) := by decide +kernel
theorem dX4_liveTogether_22 : decode cX4_liveTogether 22 = .ok (.getfield 30, 3) := by decide +kernel
theorem dX4_liveTogether_25 : decode cX4_liveTogether 25 = .ok (.iload_n 1, 1) := by decide +kernel
theorem dX4_liveTogether_26 : decode cX4_liveTogether 26 = .ok (.iaload, 1) := by decide +kernel
theorem dX4_liveTogether_27 : decode cX4_liveTogether 27 = .ok (.if_icmp .gt 7, 3) := by decide +kernel
theorem dX4_liveTogether_30 : decode cX4_liveTogether 30 = .ok (.iconst 1, 1) := by decide +kernel
theorem dX4_liveTogether_31 : decode cX4_liveTogether 31 = .ok (.goto 4, 3) := by decide +kernel
theorem dX4_liveTogether_34 : decode cX4_liveTogether 34 = .ok (.iconst 0, 1) := by decide +kernel
theorem dX4_liveTogether_35 : decode cX4_liveTogether 35 = .ok (.ireturn, 1) := by decide +kernel
set_option maxRecDepth 20000 in
theorem ggX4_findNeighbours_J7_fill_53178 : GoodIn wsX4_findNeighbours wsJ7_fill_53178 := goodIn_r _ [8] (by decide +kernel) (by decide +kernel)
set_option maxRecDepth 20000 in
theorem gX4_findNeighbours_J7_fill_53178 : GoodIn wsX4_findNeighbours (va_wsS RX4 75 yJ7_fill_53178 wsJ7_fill_53178) := goodIn_app (goodIn_of _ (by decide +kernel)) ggX4_findNeighbours_J7_fill_53178
set_option maxRecDepth 20000 in
theorem ggX4_findNeighbours_X1_dependencies : GoodIn wsX4_findNeighbours wsX1_dependencies := goodIn_ca (goodIn_r _ [13, 14, 15, 16, 17, 32, 33, 34, 35, 36, 37, 38] (by decide +kernel) (by decide +kernel)) (goodIn_sub (fun _ h => List.mem_cons_of_mem _ (List.mem_append_right _ h)) (by decide +kernel))
set_option maxRecDepth 20000 in
theorem gX4_findNeighbours_X1_dependencies : GoodIn wsX4_findNeighbours (wsV RX4 81 RX1 yX1_dependencies wsX1_dependencies) := goodIn_app (goodIn_of _ (by decide +kernel)) ggX4_findNeighbours_X1_dependencies
set_option maxRecDepth 20000 in
theorem ggX4_findNeighbours_X6_contains : GoodIn wsX4_findNeighbours wsX6_contains := goodIn_r _ [19] (by decide +kernel) (by decide +kernel)
set_option maxRecDepth 20000 in
theorem gX4_findNeighbours_X6_contains_n83 : GoodIn wsX4_findNeighbours (wsX6_contains) := ggX4_findNeighbours_X6_contains
set_option maxRecDepth 20000 in
theorem ggX4_findNeighbours_X6_setOf : GoodIn wsX4_findNeighbours wsX6_setOf := goodIn_r _ [17] (by decide +kernel) (by decide +kernel)
set_option maxRecDepth 20000 in
theorem gX4_findNeighbours_X6_setOf_n87 : GoodIn wsX4_findNeighbours (wsX6_setOf) := ggX4_findNeighbours_X6_setOf
theorem dX4_findNeighbours_0 : decode cX4_findNeighbours 0 = .ok (.aload_n 0, 1) := by decide +kernel
theorem dX4_findNeighbours_1 : decode cX4_findNeighbours 1 = .ok (.getfield 15, 3) := by decide +kernel
theorem dX4_findNeighbours_4 : decode cX4_findNeighbours 4 = .ok (.iconst 0, 1) := by decide +kernel
theorem dX4_findNeighbours_5 : decode cX4_findNeighbours 5 = .ok (.invokestatic 75, 3) := by decide +kernel
theorem dX4_findNeighbours_8 : decode cX4_findNeighbours 8 = .ok (.iconst 0, 1) := by decide +kernel
theorem dX4_findNeighbours_9 : decode cX4_findNeighbours 9 = .ok (.istore_n 1, 1) := by decide +kernel
theorem dX4_findNeighbours_10 : decode cX4_findNeighbours 10 = .ok (.iload_n 1, 1) := by decide +kernel
theorem dX4_findNeighbours_11 : decode cX4_findNeighbours 11 = .ok (.aload_n 0, 1) := by decide +kernel
theorem dX4_findNeighbours_12 : decode cX4_findNeighbours 12 = .ok (.getfield 36, 3) := by decide +kernel
theorem dX4_findNeighbours_15 : decode cX4_findNeighbours 15 = .ok (.getfield 64, 3) := by decide +kernel
theorem dX4_findNeighbours_18 : decode cX4_findNeighbours 18 = .ok (.if_icmp .ge 68, 3) := by decide +kernel
theorem dX4_findNeighbours_21 : decode cX4_findNeighbours 21 = .ok (.aload_n 0, 1) := by decide +kernel
theorem dX4_findNeighbours_22 : decode cX4_findNeighbours 22 = .ok (.getfield 9, 3) := by decide +kernel
theorem dX4_findNeighbours_25 : decode cX4_findNeighbours 25 = .ok (.iload_n 1, 1) := by decide +kernel
theorem dX4_findNeighbours_26 : decode cX4_findNeighbours 26 = .ok (.aload_n 0, 1) := by decide +kernel
theorem dX4_findNeighbours_27 : decode cX4_findNeighbours 27 = .ok (.getfield 36, 3) := by decide +kernel
theorem dX4_findNeighbours_30 : decode cX4_findNeighbours 30 = .ok (.iload_n 1, 1) := by decide +kernel
theorem dX4_findNeighbours_31 : decode cX4_findNeighbours 31 = .ok (.invokevirtual 81, 3) := by decide +kernel
theorem dX4_findNeighbours_34 : decode cX4_findNeighbours 34 = .ok (.iastore, 1) := by decide +kernel
theorem dX4_findNeighbours_35 : decode cX4_findNeighbours 35 = .ok (.iconst 0, 1) := by decide +kernel
theorem dX4_findNeighbours_36 : decode cX4_findNeighbours 36 = .ok (.istore_n 2, 1) := by decide +kernel
theorem dX4_findNeighbours_37 : decode cX4_findNeighbours 37 = .ok (.iload_n 2, 1) := by decide +kernel
theorem dX4_findNeighbours_38 : decode cX4_findNeighbours 38 = .ok (.aload_n 0, 1) := by decide +kernel
theorem dX4_findNeighbours_39 : decode cX4_findNeighbours 39 = .ok (.getfield 36, 3) := by decide +kernel
theorem dX4_findNeighbours_42 : decode cX4_findNeighbours 42 = .ok (.getfield 64, 3) := by decide +kernel
theorem dX4_findNeighbours_45 : decode cX4_findNeighbours 45 = .ok (.if_icmp .ge 35, 3) := by decide +kernel
theorem dX4_findNeighbours_48 : decode cX4_findNeighbours 48 = .ok (.aload_n 0, 1) := by decide +kernel
theorem dX4_findNeighbours_49 : decode cX4_findNeighbours 49 = .ok (.getfield 9, 3) := by decide +kernel
theorem dX4_findNeighbours_52 : decode cX4_findNeighbours 52 = .ok (.iload_n 1, 1) := by decide +kernel
theorem dX4_findNeighbours_53 : decode cX4_findNeighbours 53 = .ok (.iaload, 1) := by decide +kernel
theorem dX4_findNeighbours_54 : decode cX4_findNeighbours 54 = .ok (.iload_n 2, 1) := by decide +kernel
theorem dX4_findNeighbours_55 : decode cX4_findNeighbours 55 = .ok (.invokestatic 83, 3) := by decide +kernel
theorem dX4_findNeighbours_58 : decode cX4_findNeighbours 58 = .ok (.ifCond .eq 16, 3) := by decide +kernel
theorem dX4_findNeighbours_61 : decode cX4_findNeighbours 61 = .ok (.aload_n 0, 1) := by decide +kernel
theorem dX4_findNeighbours_62 : decode cX4_findNeighbours 62 = .ok (.getfield 15, 3) := by decide +kernel
theorem dX4_findNeighbours_65 : decode cX4_findNeighbours 65 = .ok (.iload_n 2, 1) := by decide +kernel
theorem dX4_findNeighbours_66 : decode cX4_findNeighbours 66 = .ok (.dup2, 1) := by decide +kernel
theorem dX4_findNeighbours_67 : decode cX4_findNeighbours 67 = .ok (.iaload, 1) := by decide +kernel
theorem dX4_findNeighbours_68 : decode cX4_findNeighbours 68 = .ok (.iload_n 1, 1) := by decide +kernel
theorem dX4_findNeighbours_69 : decode cX4_findNeighbours 69 = .ok (.invokestatic 87, 3) := by decide +kernel
theorem dX4_findNeighbours_72 : decode cX4_findNeighbours 72 = .ok (.ior, 1) := by decide +kernel
theorem dX4_findNeighbours_73 : decode cX4_findNeighbours 73 = .ok (.iastore, 1) := by decide +kernel
theorem dX4_findNeighbours_74 : decode cX4_findNeighbours 74 = .ok (.iinc 2 1, 3) := by decide +kernel
theorem dX4_findNeighbours_77 : decode cX4_findNeighbours 77 = .ok (.goto (-40), 3) := by decide +kernel
theorem dX4_findNeighbours_80 : decode cX4_findNeighbours 80 = .ok (.iinc 1 1, 3) := by decide +kernel
theorem dX4_findNeighbours_83 : decode cX4_findNeighbours 83 = .ok (.goto (-73), 3) := by decide +kernel
theorem dX4_findNeighbours_86 : decode cX4_findNeighbours 86 = .ok (.return_, 1) := by decide +kernel
theorem dX4_sizeOfSource_0 : decode cX4_sizeOfSource 0 = .ok (.aload_n 0, 1) := by decide +kernel
theorem dX4_sizeOfSource_1 : decode cX4_sizeOfSource 1 = .ok (.getfield 36, 3) := by decide +kernel
theorem dX4_sizeOfSource_4 : decode cX4_sizeOfSource 4 = .ok (.getfield 90, 3) := by decide +kernel
theorem dX4_sizeOfSource_7 : decode cX4_sizeOfSource 7 = .ok (.iload_n 1, 1) := by decide +kernel
theorem dX4_sizeOfSource_8 : decode cX4_sizeOfSource 8 = .ok (.aaload, 1) := by decide +kernel
theorem dX4_sizeOfSource_9 : decode cX4_sizeOfSource 9 = .ok (.iload_n 2, 1) := by decide +kernel
theorem dX4_sizeOfSource_10 : decode cX4_sizeOfSource 10 = .ok (.iaload, 1) := by decide +kernel
theorem dX4_sizeOfSource_11 : decode cX4_sizeOfSource 11 = .ok (.istore_n 3, 1) := by decide +kernel
theorem dX4_sizeOfSource_12 : decode cX4_sizeOfSource 12 = .ok (.iload_n 3, 1) := by decide +kernel
theorem dX4_sizeOfSource_13 : decode cX4_sizeOfSource 13 = .ok (.iconst (-1), 1) := by decide +kernel
theorem dX4_sizeOfSource_14 : decode cX4_sizeOfSource 14 = .ok (.if_icmp .ne 7, 3) := by decide +kernel
theorem dX4_sizeOfSource_17 : decode cX4_sizeOfSource 17 = .ok (.iconst 0, 1) := by decide +kernel
theorem dX4_sizeOfSource_18 : decode cX4_sizeOfSource 18 = .ok (.goto 9, 3) := by decide +kernel
theorem dX4_sizeOfSource_21 : decode cX4_sizeOfSource 21 = .ok (.aload_n 0, 1) := by decide +kernel
theorem dX4_sizeOfSource_22 : decode cX4_sizeOfSource 22 = .ok (.getfield 18, 3) := by decide +kernel
theorem dX4_sizeOfSource_25 : decode cX4_sizeOfSource 25 = .ok (.iload_n 3, 1) := by decide +kernel
theorem dX4_sizeOfSource_26 : decode cX4_sizeOfSource 26 = .ok (.iaload, 1) := by decide +kernel
theorem dX4_sizeOfSource_27 : decode cX4_sizeOfSource 27 = .ok (.ireturn, 1) := by decide +kernel
set_option maxRecDepth 20000 in
theorem ggX4_sizesFit_X4_sizeOfSource : GoodIn wsX4_sizesFit wsX4_sizeOfSource := goodIn_ca (goodIn_r _ [9, 1, 10, 11, 12, 13, 14, 15, 16, 17, 18, 19, 20, 21, 22, 23, 24, 25, 26, 27, 28, 29, 30] (by decide +kernel) (by decide +kernel)) (goodIn_sub (fun _ h => List.mem_cons_of_mem _ (List.mem_append_right _ h)) (by decide +kernel))
set_option maxRecDepth 20000 in
theorem gX4_sizesFit_X4_sizeOfSource : GoodIn wsX4_sizesFit (wsV RX4 94 RX4 yX4_sizeOfSource wsX4_sizeOfSource) := goodIn_app (goodIn_of _ (by decide +kernel)) ggX4_sizesFit_X4_sizeOfSource
theorem dX4_sizesFit_0 : decode cX4_sizesFit 0 = .ok (.aload_n 0, 1) := by decide +kernel
theorem dX4_sizesFit_1 : decode cX4_sizesFit 1 = .ok (.iload_n 1, 1) := by decide +kernel
theorem dX4_sizesFit_2 : decode cX4_sizesFit 2 = .ok (.iconst 0, 1) := by decide +kernel
theorem dX4_sizesFit_3 : decode cX4_sizesFit 3 = .ok (.invokevirtual 94, 3) := by decide +kernel
theorem dX4_sizesFit_6 : decode cX4_sizesFit 6 = .ok (.istore_n 2, 1) := by decide +kernel
theorem dX4_sizesFit_7 : decode cX4_sizesFit 7 = .ok (.aload_n 0, 1) := by decide +kernel
theorem dX4_sizesFit_8 : decode cX4_sizesFit 8 = .ok (.iload_n 1, 1) := by decide +kernel
theorem dX4_sizesFit_9 : decode cX4_sizesFit 9 = .ok (.iconst 1, 1) := by decide +kernel
theorem dX4_sizesFit_10 : decode cX4_sizesFit 10 = .ok (.invokevirtual 94, 3) := by decide +kernel
theorem dX4_sizesFit_13 : decode cX4_sizesFit 13 = .ok (.istore_n 3, 1) := by decide +kernel
theorem dX4_sizesFit_14 : decode cX4_sizesFit 14 = .ok (.aload_n 0, 1) := by decide +kernel
theorem dX4_sizesFit_15 : decode cX4_sizesFit 15 = .ok (.getfield 36, 3) := by decide +kernel
theorem dX4_sizesFit_18 : decode cX4_sizesFit 18 = .ok (.getfield 98, 3) := by decide +kernel
theorem dX4_sizesFit_21 : decode cX4_sizesFit 21 = .ok (.iload_n 1, 1) := by decide +kernel
theorem dX4_sizesFit_22 : decode cX4_sizesFit 22 = .ok (.iaload, 1) := by decide +kernel
theorem dX4_sizesFit_23 : decode cX4_sizesFit 23 = .ok (.tableswitch 102 2 7 #[37, 37, 48, 62, 102, 91], 37) := by decide +kernel
theorem dX4_sizesFit_60 : decode cX4_sizesFit 60 = .ok (.iload_n 2, 1) := by decide +kernel
theorem dX4_sizesFit_61 : decode cX4_sizesFit 61 = .ok (.iload_n 3, 1) := by decide +kernel
theorem dX4_sizesFit_62 : decode cX4_sizesFit 62 = .ok (.if_icmp .ne 7, 3) := by decide +kernel
theorem dX4_sizesFit_65 : decode cX4_sizesFit 65 = .ok (.iconst 1, 1) := by decide +kernel
theorem dX4_sizesFit_66 : decode cX4_sizesFit 66 = .ok (.goto 4, 3) := by decide +kernel
theorem dX4_sizesFit_69 : decode cX4_sizesFit 69 = .ok (.iconst 0, 1) := by decide +kernel
theorem dX4_sizesFit_70 : decode cX4_sizesFit 70 = .ok (.ireturn, 1) := by decide +kernel
theorem dX4_sizesFit_71 : decode cX4_sizesFit 71 = .ok (.iload_n 2, 1) := by decide +kernel
theorem dX4_sizesFit_72 : decode cX4_sizesFit 72 = .ok (.iload_n 3, 1) := by decide +kernel
theorem dX4_sizesFit_73 : decode cX4_sizesFit 73 = .ok (.iadd, 1) := by decide +kernel
theorem dX4_sizesFit_74 : decode cX4_sizesFit 74 = .ok (.bipush 40, 2) := by decide +kernel
theorem dX4_sizesFit_76 : decode cX4_sizesFit 76 = .ok (.if_icmp .gt 7, 3) := by decide +kernel
theorem dX4_sizesFit_79 : decode cX4_sizesFit 79 = .ok (.iconst 1, 1) := by decide +kernel
theorem dX4_sizesFit_80 : decode cX4_sizesFit 80 = .ok (.goto 4, 3) := by decide +kernel
theorem dX4_sizesFit_83 : decode cX4_sizesFit 83 = .ok (.iconst 0, 1) := by decide +kernel
theorem dX4_sizesFit_84 : decode cX4_sizesFit 84 = .ok (.ireturn, 1) := by decide +kernel
theorem dX4_sizesFit_85 : decode cX4_sizesFit 85 = .ok (.aload_n 0, 1) := by decide +kernel
theorem dX4_sizesFit_86 : decode cX4_sizesFit 86 = .ok (.getfield 36, 3) := by decide +kernel
theorem dX4_sizesFit_89 : decode cX4_sizesFit 89 = .ok (.getfield 101, 3) := by decide +kernel
theorem dX4_sizesFit_92 : decode cX4_sizesFit 92 = .ok (.iload_n 1, 1) := by decide +kernel
theorem dX4_sizesFit_93 : decode cX4_sizesFit 93 = .ok (.iaload, 1) := by decide +kernel
theorem dX4_sizesFit_94 : decode cX4_sizesFit 94 = .ok (.aload_n 0, 1) := by decide +kernel
theorem dX4_sizesFit_95 : decode cX4_sizesFit 95 = .ok (.getfield 36, 3) := by decide +kernel
theorem dX4_sizesFit_98 : decode cX4_sizesFit 98 = .ok (.getfield 104, 3) := by decide +kernel
theorem dX4_sizesFit_101 : decode cX4_sizesFit 101 = .ok (.iload_n 1, 1) := by decide +kernel
theorem dX4_sizesFit_102 : decode cX4_sizesFit 102 = .ok (.iaload, 1) := by decide +kernel
theorem dX4_sizesFit_103 : decode cX4_sizesFit 103 = .ok (.iadd, 1) := by decide +kernel
theorem dX4_sizesFit_104 : decode cX4_sizesFit 104 = .ok (.iload_n 2, 1) := by decide +kernel
theorem dX4_sizesFit_105 : decode cX4_sizesFit 105 = .ok (.if_icmp .gt 7, 3) := by decide +kernel
theorem dX4_sizesFit_108 : decode cX4_sizesFit 108 = .ok (.iconst 1, 1) := by decide +kernel
theorem dX4_sizesFit_109 : decode cX4_sizesFit 109 = .ok (.goto 4, 3) := by decide +kernel
theorem dX4_sizesFit_112 : decode cX4_sizesFit 112 = .ok (.iconst 0, 1) := by decide +kernel
theorem dX4_sizesFit_113 : decode cX4_sizesFit 113 = .ok (.ireturn, 1) := by decide +kernel
theorem dX4_sizesFit_114 : decode cX4_sizesFit 114 = .ok (.iload_n 2, 1) := by decide +kernel
theorem dX4_sizesFit_115 : decode cX4_sizesFit 115 = .ok (.iconst 1, 1) := by decide +kernel
theorem dX4_sizesFit_116 : decode cX4_sizesFit 116 = .ok (.if_icmp .ne 7, 3) := by decide +kernel
theorem dX4_sizesFit_119 : decode cX4_sizesFit 119 = .ok (.iconst 1, 1) := by decide +kernel
theorem dX4_sizesFit_120 : decode cX4_sizesFit 120 = .ok (.goto 4, 3) := by decide +kernel
theorem dX4_sizesFit_123 : decode cX4_sizesFit 123 = .ok (.iconst 0, 1) := by decide +kernel
theorem dX4_sizesFit_124 : decode cX4_sizesFit 124 = .ok (.ireturn, 1) := by decide +kernel
theorem dX4_sizesFit_125 : decode cX4_sizesFit 125 = .ok (.iconst 1, 1) := by decide +kernel
theorem dX4_sizesFit_126 : decode cX4_sizesFit 126 = .ok (.ireturn, 1) := by decide +kernel
set_option maxRecDepth 20000 in
theorem ggX4_sizeOf_X4_sizeOfSource : GoodIn wsX4_sizeOf wsX4_sizeOfSource := goodIn_ca (goodIn_r _ [9, 1, 10, 11, 12, 13, 14, 15, 16, 17, 18, 19, 20, 21, 22, 23, 24, 25, 26, 27, 28, 29, 30] (by decide +kernel) (by decide +kernel)) (goodIn_sub (fun _ h => List.mem_cons_of_mem _ (List.mem_append_right _ h)) (by decide +kernel))
set_option maxRecDepth 20000 in
theorem gX4_sizeOf_X4_sizeOfSource : GoodIn wsX4_sizeOf (wsV RX4 94 RX4 yX4_sizeOfSource wsX4_sizeOfSource) := goodIn_app (goodIn_of _ (by decide +kernel)) ggX4_sizeOf_X4_sizeOfSource
theorem dX4_sizeOf_0 : decode cX4_sizeOf 0 = .ok (.aload_n 0, 1) := by decide +kernel
theorem dX4_sizeOf_1 : decode cX4_sizeOf 1 = .ok (.iload_n 1, 1) := by decide +kernel
theorem dX4_sizeOf_2 : decode cX4_sizeOf 2 = .ok (.iconst 0, 1) := by decide +kernel
theorem dX4_sizeOf_3 : decode cX4_sizeOf 3 = .ok (.invokevirtual 94, 3) := by decide +kernel
theorem dX4_sizeOf_6 : decode cX4_sizeOf 6 = .ok (.istore_n 2, 1) := by decide +kernel
theorem dX4_sizeOf_7 : decode cX4_sizeOf 7 = .ok (.aload_n 0, 1) := by decide +kernel
theorem dX4_sizeOf_8 : decode cX4_sizeOf 8 = .ok (.getfield 36, 3) := by decide +kernel
theorem dX4_sizeOf_11 : decode cX4_sizeOf 11 = .ok (.getfield 98, 3) := by decide +kernel
theorem dX4_sizeOf_14 : decode cX4_sizeOf 14 = .ok (.iload_n 1, 1) := by decide +kernel
theorem dX4_sizeOf_15 : decode cX4_sizeOf 15 = .ok (.iaload, 1) := by decide +kernel
theorem dX4_sizeOf_16 : decode cX4_sizeOf 16 = .ok (.tableswitch 79 0 7 #[48, 79, 79, 79, 58, 67, 77, 48], 48) := by decide +kernel
theorem dX4_sizeOf_64 : decode cX4_sizeOf 64 = .ok (.aload_n 0, 1) := by decide +kernel
theorem dX4_sizeOf_65 : decode cX4_sizeOf 65 = .ok (.getfield 36, 3) := by decide +kernel
theorem dX4_sizeOf_68 : decode cX4_sizeOf 68 = .ok (.getfield 101, 3) := by decide +kernel
theorem dX4_sizeOf_71 : decode cX4_sizeOf 71 = .ok (.iload_n 1, 1) := by decide +kernel
theorem dX4_sizeOf_72 : decode cX4_sizeOf 72 = .ok (.iaload, 1) := by decide +kernel
theorem dX4_sizeOf_73 : decode cX4_sizeOf 73 = .ok (.ireturn, 1) := by decide +kernel
theorem dX4_sizeOf_74 : decode cX4_sizeOf 74 = .ok (.iload_n 2, 1) := by decide +kernel
theorem dX4_sizeOf_75 : decode cX4_sizeOf 75 = .ok (.aload_n 0, 1) := by decide +kernel
theorem dX4_sizeOf_76 : decode cX4_sizeOf 76 = .ok (.iload_n 1, 1) := by decide +kernel
theorem dX4_sizeOf_77 : decode cX4_sizeOf 77 = .ok (.iconst 1, 1) := by decide +kernel
theorem dX4_sizeOf_78 : decode cX4_sizeOf 78 = .ok (.invokevirtual 94, 3) := by decide +kernel
theorem dX4_sizeOf_81 : decode cX4_sizeOf 81 = .ok (.iadd, 1) := by decide +kernel
theorem dX4_sizeOf_82 : decode cX4_sizeOf 82 = .ok (.ireturn, 1) := by decide +kernel
theorem dX4_sizeOf_83 : decode cX4_sizeOf 83 = .ok (.aload_n 0, 1) := by decide +kernel
theorem dX4_sizeOf_84 : decode cX4_sizeOf 84 = .ok (.getfield 36, 3) := by decide +kernel
theorem dX4_sizeOf_87 : decode cX4_sizeOf 87 = .ok (.getfield 104, 3) := by decide +kernel
theorem dX4_sizeOf_90 : decode cX4_sizeOf 90 = .ok (.iload_n 1, 1) := by decide +kernel
theorem dX4_sizeOf_91 : decode cX4_sizeOf 91 = .ok (.iaload, 1) := by decide +kernel
theorem dX4_sizeOf_92 : decode cX4_sizeOf 92 = .ok (.ireturn, 1) := by decide +kernel
theorem dX4_sizeOf_93 : decode cX4_sizeOf 93 = .ok (.iconst 1, 1) := by decide +kernel
theorem dX4_sizeOf_94 : decode cX4_sizeOf 94 = .ok (.ireturn, 1) := by decide +kernel
theorem dX4_sizeOf_95 : decode cX4_sizeOf 95 = .ok (.iload_n 2, 1) := by decide +kernel
theorem dX4_sizeOf_96 : decode cX4_sizeOf 96 = .ok (.ireturn, 1) := by decide +kernel
set_option maxRecDepth 20000 in
theorem ggX4_labelOf_X1_inputs : GoodIn wsX4_labelOf wsX1_inputs := goodIn_ca (goodIn_r _ [15, 16, 29, 30, 31, 32, 33, 34, 35] (by decide +kernel) (by decide +kernel)) (goodIn_sub (fun _ h => List.mem_cons_of_mem _ (List.mem_append_right _ h)) (by decide +kernel))
set_option maxRecDepth 20000 in
theorem gX4_labelOf_X1_inputs : GoodIn wsX4_labelOf (wsV RX4 107 RX1 yX1_inputs wsX1_inputs) := goodIn_app (goodIn_of _ (by decide +kernel)) ggX4_labelOf_X1_inputs
theorem dX4_labelOf_0 : decode cX4_labelOf 0 = .ok (.aload_n 0, 1) := by decide +kernel
theorem dX4_labelOf_1 : decode cX4_labelOf 1 = .ok (.getfield 36, 3) := by decide +kernel
theorem dX4_labelOf_4 : decode cX4_labelOf 4 = .ok (.iload_n 1, 1) := by decide +kernel
theorem dX4_labelOf_5 : decode cX4_labelOf 5 = .ok (.invokevirtual 107, 3) := by decide +kernel
theorem dX4_labelOf_8 : decode cX4_labelOf 8 = .ok (.istore_n 2, 1) := by decide +kernel
theorem dX4_labelOf_9 : decode cX4_labelOf 9 = .ok (.iload_n 2, 1) := by decide +kernel
theorem dX4_labelOf_10 : decode cX4_labelOf 10 = .ok (.ifCond .ne 5, 3) := by decide +kernel
theorem dX4_labelOf_13 : decode cX4_labelOf 13 = .ok (.iconst 1, 1) := by decide +kernel
theorem dX4_labelOf_14 : decode cX4_labelOf 14 = .ok (.ireturn, 1) := by decide +kernel
theorem dX4_labelOf_15 : decode cX4_labelOf 15 = .ok (.aload_n 0, 1) := by decide +kernel
theorem dX4_labelOf_16 : decode cX4_labelOf 16 = .ok (.getfield 21, 3) := by decide +kernel
theorem dX4_labelOf_19 : decode cX4_labelOf 19 = .ok (.aload_n 0, 1) := by decide +kernel
theorem dX4_labelOf_20 : decode cX4_labelOf 20 = .ok (.getfield 36, 3) := by decide +kernel
theorem dX4_labelOf_23 : decode cX4_labelOf 23 = .ok (.getfield 90, 3) := by decide +kernel
theorem dX4_labelOf_26 : decode cX4_labelOf 26 = .ok (.iload_n 1, 1) := by decide +kernel
theorem dX4_labelOf_27 : decode cX4_labelOf 27 = .ok (.aaload, 1) := by decide +kernel
theorem dX4_labelOf_28 : decode cX4_labelOf 28 = .ok (.iconst 0, 1) := by decide +kernel
theorem dX4_labelOf_29 : decode cX4_labelOf 29 = .ok (.iaload, 1) := by decide +kernel
theorem dX4_labelOf_30 : decode cX4_labelOf 30 = .ok (.iaload, 1) := by decide +kernel
theorem dX4_labelOf_31 : decode cX4_labelOf 31 = .ok (.istore_n 3, 1) := by decide +kernel
theorem dX4_labelOf_32 : decode cX4_labelOf 32 = .ok (.iload_n 2, 1) := by decide +kernel
theorem dX4_labelOf_33 : decode cX4_labelOf 33 = .ok (.iconst 1, 1) := by decide +kernel
theorem dX4_labelOf_34 : decode cX4_labelOf 34 = .ok (.if_icmp .ne 9, 3) := by decide +kernel
theorem dX4_labelOf_37 : decode cX4_labelOf 37 = .ok (.iconst 2, 1) := by decide +kernel
theorem dX4_labelOf_38 : decode cX4_labelOf 38 = .ok (.iload_n 3, 1) := by decide +kernel
theorem dX4_labelOf_39 : decode cX4_labelOf 39 = .ok (.invokestatic 110, 3) := by decide +kernel
theorem dX4_labelOf_42 : decode cX4_labelOf 42 = .ok (.ireturn, 1) := by decide +kernel
theorem dX4_labelOf_43 : decode cX4_labelOf 43 = .ok (.aload_n 0, 1) := by decide +kernel
theorem dX4_labelOf_44 : decode cX4_labelOf 44 = .ok (.getfield 21, 3) := by decide +kernel
theorem dX4_labelOf_47 : decode cX4_labelOf 47 = .ok (.aload_n 0, 1) := by decide +kernel
theorem dX4_labelOf_48 : decode cX4_labelOf 48 = .ok (.getfield 36, 3) := by decide +kernel
theorem dX4_labelOf_51 : decode cX4_labelOf 51 = .ok (.getfield 90, 3) := by decide +kernel
theorem dX4_labelOf_54 : decode cX4_labelOf 54 = .ok (.iload_n 1, 1) := by decide +kernel
theorem dX4_labelOf_55 : decode cX4_labelOf 55 = .ok (.aaload, 1) := by decide +kernel
theorem dX4_labelOf_56 : decode cX4_labelOf 56 = .ok (.iconst 1, 1) := by decide +kernel
theorem dX4_labelOf_57 : decode cX4_labelOf 57 = .ok (.iaload, 1) := by decide +kernel
theorem dX4_labelOf_58 : decode cX4_labelOf 58 = .ok (.iaload, 1) := by decide +kernel
theorem dX4_labelOf_59 : decode cX4_labelOf 59 = .ok (.istore 4, 2) := by decide +kernel
theorem dX4_labelOf_61 : decode cX4_labelOf 61 = .ok (.iload_n 3, 1) := by decide +kernel
theorem dX4_labelOf_62 : decode cX4_labelOf 62 = .ok (.iload 4, 2) := by decide +kernel
theorem dX4_labelOf_64 : decode cX4_labelOf 64 = .ok (.invokestatic 110, 3) := by decide +kernel
theorem dX4_labelOf_67 : decode cX4_labelOf 67 = .ok (.istore 5, 2) := by decide +kernel
theorem dX4_labelOf_69 : decode cX4_labelOf 69 = .ok (.iload_n 3, 1) := by decide +kernel
theorem dX4_labelOf_70 : decode cX4_labelOf 70 = .ok (.iload 4, 2) := by decide +kernel
theorem dX4_labelOf_72 : decode cX4_labelOf 72 = .ok (.invokestatic 115, 3) := by decide +kernel
theorem dX4_labelOf_75 : decode cX4_labelOf 75 = .ok (.istore 6, 2) := by decide +kernel
theorem dX4_labelOf_77 : decode cX4_labelOf 77 = .ok (.iconst 3, 1) := by decide +kernel
theorem dX4_labelOf_78 : decode cX4_labelOf 78 = .ok (.iload 5, 2) := by decide +kernel
theorem dX4_labelOf_80 : decode cX4_labelOf 80 = .ok (.iload 6, 2) := by decide +kernel
theorem dX4_labelOf_82 : decode cX4_labelOf 82 = .ok (.iconst 1, 1) := by decide +kernel
theorem dX4_labelOf_83 : decode cX4_labelOf 83 = .ok (.iadd, 1) := by decide +kernel
theorem dX4_labelOf_84 : decode cX4_labelOf 84 = .ok (.invokestatic 110, 3) := by decide +kernel
theorem dX4_labelOf_87 : decode cX4_labelOf 87 = .ok (.invokestatic 110, 3) := by decide +kernel
theorem dX4_labelOf_90 : decode cX4_labelOf 90 = .ok (.ireturn, 1) := by decide +kernel
set_option maxRecDepth 20000 in
theorem ggX4_beginOrder_J7_fill_53178 : GoodIn wsX4_beginOrder wsJ7_fill_53178 := goodIn_r _ [7] (by decide +kernel) (by decide +kernel)
set_option maxRecDepth 20000 in
theorem gX4_beginOrder_J7_fill_53178 : GoodIn wsX4_beginOrder (va_wsS RX4 75 yJ7_fill_53178 wsJ7_fill_53178) := goodIn_app (goodIn_of _ (by decide +kernel)) ggX4_beginOrder_J7_fill_53178
theorem dX4_beginOrder_0 : decode cX4_beginOrder 0 = .ok (.aload_n 0, 1) := by decide +kernel
theorem dX4_beginOrder_1 : decode cX4_beginOrder 1 = .ok (.getfield 27, 3) := by decide +kernel
theorem dX4_beginOrder_4 : decode cX4_beginOrder 4 = .ok (.iconst (-1), 1) := by decide +kernel
theorem dX4_beginOrder_5 : decode cX4_beginOrder 5 = .ok (.invokestatic 75, 3) := by decide +kernel
theorem dX4_beginOrder_8 : decode cX4_beginOrder 8 = .ok (.aload_n 0, 1) := by decide +kernel
theorem dX4_beginOrder_9 : decode cX4_beginOrder 9 = .ok (.iconst 0, 1) := by decide +kernel
theorem dX4_beginOrder_10 : decode cX4_beginOrder 10 = .ok (.putfield 118, 3) := by decide +kernel
theorem dX4_beginOrder_13 : decode cX4_beginOrder 13 = .ok (.aload_n 0, 1) := by decide +kernel
theorem dX4_beginOrder_14 : decode cX4_beginOrder 14 = .ok (.iconst 0, 1) := by decide +kernel
theorem dX4_beginOrder_15 : decode cX4_beginOrder 15 = .ok (.putfield 46, 3) := by decide +kernel
theorem dX4_beginOrder_18 : decode cX4_beginOrder 18 = .ok (.return_, 1) := by decide +kernel
set_option maxRecDepth 20000 in
theorem ggX4_append_X6_setOf : GoodIn wsX4_append wsX6_setOf := goodIn_r _ [7] (by decide +kernel) (by decide +kernel)
set_option maxRecDepth 20000 in
theorem gX4_append_X6_setOf_n87 : GoodIn wsX4_append (wsX6_setOf) := ggX4_append_X6_setOf
theorem dX4_append_0 : decode cX4_append 0 = .ok (.aload_n 0, 1) := by decide +kernel
theorem dX4_append_1 : decode cX4_append 1 = .ok (.getfield 24, 3) := by decide +kernel
theorem dX4_append_4 : decode cX4_append 4 = .ok (.aload_n 0, 1) := by decide +kernel
theorem dX4_append_5 : decode cX4_append 5 = .ok (.getfield 46, 3) := by decide +kernel
theorem dX4_append_8 : decode cX4_append 8 = .ok (.iload_n 1, 1) := by decide +kernel
theorem dX4_append_9 : decode cX4_append 9 = .ok (.iastore, 1) := by decide +kernel
theorem dX4_append_10 : decode cX4_append 10 = .ok (.aload_n 0, 1) := by decide +kernel
theorem dX4_append_11 : decode cX4_append 11 = .ok (.getfield 27, 3) := by decide +kernel
theorem dX4_append_14 : decode cX4_append 14 = .ok (.iload_n 1, 1) := by decide +kernel
theorem dX4_append_15 : decode cX4_append 15 = .ok (.aload_n 0, 1) := by decide +kernel
theorem dX4_append_16 : decode cX4_append 16 = .ok (.getfield 46, 3) := by decide +kernel
theorem dX4_append_19 : decode cX4_append 19 = .ok (.iastore, 1) := by decide +kernel
theorem dX4_append_20 : decode cX4_append 20 = .ok (.aload_n 0, 1) := by decide +kernel
theorem dX4_append_21 : decode cX4_append 21 = .ok (.dup, 1) := by decide +kernel
theorem dX4_append_22 : decode cX4_append 22 = .ok (.getfield 118, 3) := by decide +kernel
theorem dX4_append_25 : decode cX4_append 25 = .ok (.iload_n 1, 1) := by decide +kernel
theorem dX4_append_26 : decode cX4_append 26 = .ok (.invokestatic 87, 3) := by decide +kernel
theorem dX4_append_29 : decode cX4_append 29 = .ok (.ior, 1) := by decide +kernel
theorem dX4_append_30 : decode cX4_append 30 = .ok (.putfield 118, 3) := by decide +kernel
theorem dX4_append_33 : decode cX4_append 33 = .ok (.aload_n 0, 1) := by decide +kernel
theorem dX4_append_34 : decode cX4_append 34 = .ok (.dup, 1) := by decide +kernel
theorem dX4_append_35 : decode cX4_append 35 = .ok (.getfield 46, 3) := by decide +kernel
theorem dX4_append_38 : decode cX4_append 38 = .ok (.iconst 1, 1) := by decide +kernel
theorem dX4_append_39 : decode cX4_append 39 = .ok (.iadd, 1) := by decide +kernel
theorem dX4_append_40 : decode cX4_append 40 = .ok (.putfield 46, 3) := by decide +kernel
theorem dX4_append_43 : decode cX4_append 43 = .ok (.return_, 1) := by decide +kernel
set_option maxRecDepth 20000 in
theorem ggX4_orderByNumbers_X4_beginOrder : GoodIn wsX4_orderByNumbers wsX4_beginOrder := goodIn_r _ [7, 8, 9, 10, 11, 12, 13, 14, 38, 39, 40, 41, 42, 43, 44, 45, 46, 47, 48, 49] (by decide +kernel) (by decide +kernel)
set_option maxRecDepth 20000 in
theorem gX4_orderByNumbers_X4_beginOrder : GoodIn wsX4_orderByNumbers (wsV RX4 121 RX4 yX4_beginOrder wsX4_beginOrder) := goodIn_app (goodIn_of _ (by decide +kernel)) ggX4_orderByNumbers_X4_beginOrder
set_option maxRecDepth 20000 in
theorem ggX4_orderByNumbers_X4_leastReady : GoodIn wsX4_orderByNumbers wsX4_leastReady := goodIn_ca (goodIn_r _ [18, 1, 2, 19, 20, 21, 6, 22, 23, 9, 24, 25, 26, 27, 8, 28, 29, 30, 38, 39, 40, 41, 42, 43, 44, 45, 46, 47, 48, 49, 50, 51, 52, 53, 54, 55, 56] (by decide +kernel) (by decide +kernel)) (goodIn_sub (fun _ h => List.mem_cons_of_mem _ (List.mem_append_right _ h)) (by decide +kernel))
set_option maxRecDepth 20000 in
theorem gX4_orderByNumbers_X4_leastReady : GoodIn wsX4_orderByNumbers (wsV RX4 124 RX4 yX4_leastReady wsX4_leastReady) := goodIn_app (goodIn_of _ (by decide +kernel)) ggX4_orderByNumbers_X4_leastReady
set_option maxRecDepth 20000 in
theorem ggX4_orderByNumbers_X4_append : GoodIn wsX4_orderByNumbers wsX4_append := goodIn_ca (goodIn_r _ [34, 35, 10, 8, 9, 36, 29, 37, 38, 39, 40, 41, 42, 43, 44, 45, 46, 47, 48, 49] (by decide +kernel) (by decide +kernel)) (goodIn_sub (fun _ h => List.mem_cons_of_mem _ (List.mem_append_right _ h)) (by decide +kernel))
set_option maxRecDepth 20000 in
theorem gX4_orderByNumbers_X4_append : GoodIn wsX4_orderByNumbers (wsV RX4 128 RX4 yX4_append wsX4_append) := goodIn_app (goodIn_of _ (by decide +kernel)) ggX4_orderByNumbers_X4_append
theorem dX4_orderByNumbers_0 : decode cX4_orderByNumbers 0 = .ok (.aload_n 0, 1) := by decide +kernel
theorem dX4_orderByNumbers_1 : decode cX4_orderByNumbers 1 = .ok (.invokevirtual 121, 3) := by decide +kernel
theorem dX4_orderByNumbers_4 : decode cX4_orderByNumbers 4 = .ok (.iconst 0, 1) := by decide +kernel
theorem dX4_orderByNumbers_5 : decode cX4_orderByNumbers 5 = .ok (.istore_n 1, 1) := by decide +kernel
theorem dX4_orderByNumbers_6 : decode cX4_orderByNumbers 6 = .ok (.iload_n 1, 1) := by decide +kernel
theorem dX4_orderByNumbers_7 : decode cX4_orderByNumbers 7 = .ok (.aload_n 0, 1) := by decide +kernel
theorem dX4_orderByNumbers_8 : decode cX4_orderByNumbers 8 = .ok (.getfield 36, 3) := by decide +kernel
theorem dX4_orderByNumbers_11 : decode cX4_orderByNumbers 11 = .ok (.getfield 64, 3) := by decide +kernel
theorem dX4_orderByNumbers_14 : decode cX4_orderByNumbers 14 = .ok (.if_icmp .ge 17, 3) := by decide +kernel
theorem dX4_orderByNumbers_17 : decode cX4_orderByNumbers 17 = .ok (.aload_n 0, 1) := by decide +kernel
theorem dX4_orderByNumbers_18 : decode cX4_orderByNumbers 18 = .ok (.aload_n 0, 1) := by decide +kernel
theorem dX4_orderByNumbers_19 : decode cX4_orderByNumbers 19 = .ok (.invokevirtual 124, 3) := by decide +kernel
theorem dX4_orderByNumbers_22 : decode cX4_orderByNumbers 22 = .ok (.invokevirtual 128, 3) := by decide +kernel
theorem dX4_orderByNumbers_25 : decode cX4_orderByNumbers 25 = .ok (.iinc 1 1, 3) := by decide +kernel
theorem dX4_orderByNumbers_28 : decode cX4_orderByNumbers 28 = .ok (.goto (-22), 3) := by decide +kernel
theorem dX4_orderByNumbers_31 : decode cX4_orderByNumbers 31 = .ok (.return_, 1) := by decide +kernel
set_option maxRecDepth 20000 in
theorem ggX4_leastReady_X4_isReady : GoodIn wsX4_leastReady wsX4_isReady := goodIn_ca (goodIn_r _ [7, 8, 9, 10, 11, 12, 6, 13, 14, 15, 16, 17, 18, 19, 20, 21, 22, 23, 24, 25, 26, 27, 28, 29] (by decide +kernel) (by decide +kernel)) (goodIn_sub (fun _ h => List.mem_cons_of_mem _ (List.mem_append_right _ h)) (by decide +kernel))
set_option maxRecDepth 20000 in
theorem gX4_leastReady_X4_isReady : GoodIn wsX4_leastReady (wsV RX4 132 RX4 yX4_isReady wsX4_isReady) := goodIn_app (goodIn_of _ (by decide +kernel)) ggX4_leastReady_X4_isReady
theorem dX4_leastReady_0 : decode cX4_leastReady 0 = .ok (.iconst 0, 1) := by decide +kernel
theorem dX4_leastReady_1 : decode cX4_leastReady 1 = .ok (.istore_n 1, 1) := by decide +kernel
theorem dX4_leastReady_2 : decode cX4_leastReady 2 = .ok (.iload_n 1, 1) := by decide +kernel
theorem dX4_leastReady_3 : decode cX4_leastReady 3 = .ok (.aload_n 0, 1) := by decide +kernel
theorem dX4_leastReady_4 : decode cX4_leastReady 4 = .ok (.getfield 36, 3) := by decide +kernel
theorem dX4_leastReady_7 : decode cX4_leastReady 7 = .ok (.getfield 64, 3) := by decide +kernel
theorem dX4_leastReady_10 : decode cX4_leastReady 10 = .ok (.iconst 1, 1) := by decide +kernel
theorem dX4_leastReady_11 : decode cX4_leastReady 11 = .ok (.isub, 1) := by decide +kernel
theorem dX4_leastReady_12 : decode cX4_leastReady 12 = .ok (.if_icmp .ge 17, 3) := by decide +kernel
theorem dX4_leastReady_15 : decode cX4_leastReady 15 = .ok (.aload_n 0, 1) := by decide +kernel
theorem dX4_leastReady_16 : decode cX4_leastReady 16 = .ok (.iload_n 1, 1) := by decide +kernel
theorem dX4_leastReady_17 : decode cX4_leastReady 17 = .ok (.invokevirtual 132, 3) := by decide +kernel
theorem dX4_leastReady_20 : decode cX4_leastReady 20 = .ok (.ifCond .ne 9, 3) := by decide +kernel
theorem dX4_leastReady_23 : decode cX4_leastReady 23 = .ok (.iinc 1 1, 3) := by decide +kernel
theorem dX4_leastReady_26 : decode cX4_leastReady 26 = .ok (.goto (-24), 3) := by decide +kernel
theorem dX4_leastReady_29 : decode cX4_leastReady 29 = .ok (.iload_n 1, 1) := by decide +kernel
theorem dX4_leastReady_30 : decode cX4_leastReady 30 = .ok (.ireturn, 1) := by decide +kernel
set_option maxRecDepth 20000 in
theorem ggX4_isReady_X4_isMissing : GoodIn wsX4_isReady wsX4_isMissing := goodIn_ca (goodIn_r _ [7, 8, 12, 13, 14, 15, 16, 17, 18, 19, 20, 21, 22, 23] (by decide +kernel) (by decide +kernel)) (goodIn_sub (fun _ h => List.mem_cons_of_mem _ (List.mem_append_right _ h)) (by decide +kernel))
set_option maxRecDepth 20000 in
theorem gX4_isReady_X4_isMissing : GoodIn wsX4_isReady (wsV RX4 135 RX4 yX4_isMissing wsX4_isMissing) := goodIn_app (goodIn_of _ (by decide +kernel)) ggX4_isReady_X4_isMissing
set_option maxRecDepth 20000 in
theorem ggX4_isReady_X6_isPartOf : GoodIn wsX4_isReady wsX6_isPartOf := goodIn_r _ [11] (by decide +kernel) (by decide +kernel)
set_option maxRecDepth 20000 in
theorem gX4_isReady_X6_isPartOf_n138 : GoodIn wsX4_isReady (wsX6_isPartOf) := ggX4_isReady_X6_isPartOf
theorem dX4_isReady_0 : decode cX4_isReady 0 = .ok (.aload_n 0, 1) := by decide +kernel
theorem dX4_isReady_1 : decode cX4_isReady 1 = .ok (.iload_n 1, 1) := by decide +kernel
theorem dX4_isReady_2 : decode cX4_isReady 2 = .ok (.invokevirtual 135, 3) := by decide +kernel
theorem dX4_isReady_5 : decode cX4_isReady 5 = .ok (.ifCond .eq 23, 3) := by decide +kernel
theorem dX4_isReady_8 : decode cX4_isReady 8 = .ok (.aload_n 0, 1) := by decide +kernel
theorem dX4_isReady_9 : decode cX4_isReady 9 = .ok (.getfield 9, 3) := by decide +kernel
theorem dX4_isReady_12 : decode cX4_isReady 12 = .ok (.iload_n 1, 1) := by decide +kernel
theorem dX4_isReady_13 : decode cX4_isReady 13 = .ok (.iaload, 1) := by decide +kernel
theorem dX4_isReady_14 : decode cX4_isReady 14 = .ok (.aload_n 0, 1) := by decide +kernel
theorem dX4_isReady_15 : decode cX4_isReady 15 = .ok (.getfield 118, 3) := by decide +kernel
theorem dX4_isReady_18 : decode cX4_isReady 18 = .ok (.invokestatic 138, 3) := by decide +kernel
theorem dX4_isReady_21 : decode cX4_isReady 21 = .ok (.ifCond .eq 7, 3) := by decide +kernel
theorem dX4_isReady_24 : decode cX4_isReady 24 = .ok (.iconst 1, 1) := by decide +kernel
theorem dX4_isReady_25 : decode cX4_isReady 25 = .ok (.goto 4, 3) := by decide +kernel
theorem dX4_isReady_28 : decode cX4_isReady 28 = .ok (.iconst 0, 1) := by decide +kernel
theorem dX4_isReady_29 : decode cX4_isReady 29 = .ok (.ireturn, 1) := by decide +kernel
theorem dX4_isMissing_0 : decode cX4_isMissing 0 = .ok (.aload_n 0, 1) := by decide +kernel
theorem dX4_isMissing_1 : decode cX4_isMissing 1 = .ok (.getfield 27, 3) := by decide +kernel
theorem dX4_isMissing_4 : decode cX4_isMissing 4 = .ok (.iload_n 1, 1) := by decide +kernel
theorem dX4_isMissing_5 : decode cX4_isMissing 5 = .ok (.iaload, 1) := by decide +kernel
theorem dX4_isMissing_6 : decode cX4_isMissing 6 = .ok (.iconst (-1), 1) := by decide +kernel
theorem dX4_isMissing_7 : decode cX4_isMissing 7 = .ok (.if_icmp .ne 7, 3) := by decide +kernel
theorem dX4_isMissing_10 : decode cX4_isMissing 10 = .ok (.iconst 1, 1) := by decide +kernel
theorem dX4_isMissing_11 : decode cX4_isMissing 11 = .ok (.goto 4, 3) := by decide +kernel
theorem dX4_isMissing_14 : decode cX4_isMissing 14 = .ok (.iconst 0, 1) := by decide +kernel
theorem dX4_isMissing_15 : decode cX4_isMissing 15 = .ok (.ireturn, 1) := by decide +kernel
set_option maxRecDepth 20000 in
theorem ggX4_orderByLabels_X4_beginOrder : GoodIn wsX4_orderByLabels wsX4_beginOrder := goodIn_r _ [8, 9, 10, 11, 12, 13, 14, 15, 42, 43, 44, 45, 46, 47, 48, 49, 50, 51, 52, 53] (by decide +kernel) (by decide +kernel)
set_option maxRecDepth 20000 in
theorem gX4_orderByLabels_X4_beginOrder : GoodIn wsX4_orderByLabels (wsV RX4 121 RX4 yX4_beginOrder wsX4_beginOrder) := goodIn_app (goodIn_of _ (by decide +kernel)) ggX4_orderByLabels_X4_beginOrder
set_option maxRecDepth 20000 in
theorem ggX4_orderByLabels_X4_visit : GoodIn wsX4_orderByLabels wsX4_visit := goodIn_ca (goodIn_r _ [19, 1, 2, 20, 21, 22, 7, 23, 9, 24, 25, 26, 27, 28, 29, 30, 31, 32, 33, 34, 35, 36, 37, 38, 11, 10, 39, 40, 41, 42, 43, 44, 45, 46, 47, 48, 49, 50, 51, 52, 53, 54, 55, 56, 57, 58, 59, 60] (by decide +kernel) (by decide +kernel)) (goodIn_sub (fun _ h => List.mem_cons_of_mem _ (List.mem_append_right _ h)) (by decide +kernel))
set_option maxRecDepth 20000 in
theorem gX4_orderByLabels_X4_visit : GoodIn wsX4_orderByLabels (wsV RX4 141 RX4 yX4_visit wsX4_visit) := goodIn_app (goodIn_of _ (by decide +kernel)) ggX4_orderByLabels_X4_visit
theorem dX4_orderByLabels_0 : decode cX4_orderByLabels 0 = .ok (.aload_n 0, 1) := by decide +kernel
theorem dX4_orderByLabels_1 : decode cX4_orderByLabels 1 = .ok (.invokevirtual 121, 3) := by decide +kernel
theorem dX4_orderByLabels_4 : decode cX4_orderByLabels 4 = .ok (.iconst 0, 1) := by decide +kernel
theorem dX4_orderByLabels_5 : decode cX4_orderByLabels 5 = .ok (.istore_n 1, 1) := by decide +kernel
theorem dX4_orderByLabels_6 : decode cX4_orderByLabels 6 = .ok (.iload_n 1, 1) := by decide +kernel
theorem dX4_orderByLabels_7 : decode cX4_orderByLabels 7 = .ok (.aload_n 0, 1) := by decide +kernel
theorem dX4_orderByLabels_8 : decode cX4_orderByLabels 8 = .ok (.getfield 36, 3) := by decide +kernel
theorem dX4_orderByLabels_11 : decode cX4_orderByLabels 11 = .ok (.getfield 64, 3) := by decide +kernel
theorem dX4_orderByLabels_14 : decode cX4_orderByLabels 14 = .ok (.if_icmp .ge 23, 3) := by decide +kernel
theorem dX4_orderByLabels_17 : decode cX4_orderByLabels 17 = .ok (.aload_n 0, 1) := by decide +kernel
theorem dX4_orderByLabels_18 : decode cX4_orderByLabels 18 = .ok (.getfield 15, 3) := by decide +kernel
theorem dX4_orderByLabels_21 : decode cX4_orderByLabels 21 = .ok (.iload_n 1, 1) := by decide +kernel
theorem dX4_orderByLabels_22 : decode cX4_orderByLabels 22 = .ok (.iaload, 1) := by decide +kernel
theorem dX4_orderByLabels_23 : decode cX4_orderByLabels 23 = .ok (.ifCond .ne 8, 3) := by decide +kernel
theorem dX4_orderByLabels_26 : decode cX4_orderByLabels 26 = .ok (.aload_n 0, 1) := by decide +kernel
theorem dX4_orderByLabels_27 : decode cX4_orderByLabels 27 = .ok (.iload_n 1, 1) := by decide +kernel
theorem dX4_orderByLabels_28 : decode cX4_orderByLabels 28 = .ok (.invokevirtual 141, 3) := by decide +kernel
theorem dX4_orderByLabels_31 : decode cX4_orderByLabels 31 = .ok (.iinc 1 1, 3) := by decide +kernel
theorem dX4_orderByLabels_34 : decode cX4_orderByLabels 34 = .ok (.goto (-28), 3) := by decide +kernel
theorem dX4_orderByLabels_37 : decode cX4_orderByLabels 37 = .ok (.return_, 1) := by decide +kernel
set_option maxRecDepth 20000 in
theorem ggX4_visit_X4_isMissing : GoodIn wsX4_visit wsX4_isMissing := goodIn_ca (goodIn_r _ [7, 8, 29, 30, 31, 32, 33, 34, 35, 36, 37, 38, 39, 40] (by decide +kernel) (by decide +kernel)) (goodIn_sub (fun _ h => List.mem_cons_of_mem _ (List.mem_append_right _ h)) (by decide +kernel))
set_option maxRecDepth 20000 in
theorem gX4_visit_X4_isMissing : GoodIn wsX4_visit (wsV RX4 135 RX4 yX4_isMissing wsX4_isMissing) := goodIn_app (goodIn_of _ (by decide +kernel)) ggX4_visit_X4_isMissing
set_option maxRecDepth 20000 in
theorem ggX4_visit_X4_firstDue : GoodIn wsX4_visit wsX4_firstDue := goodIn_ca (goodIn_r _ [12, 1, 2, 13, 14, 15, 6, 16, 17, 18, 3, 4, 5, 7, 8, 29, 30, 31, 32, 33, 34, 35, 36, 37, 38, 39, 40, 41, 42, 43, 44, 45, 46, 47] (by decide +kernel) (by decide +kernel)) (goodIn_sub (fun _ h => List.mem_cons_of_mem _ (List.mem_append_right _ h)) (by decide +kernel))
set_option maxRecDepth 20000 in
theorem gX4_visit_X4_firstDue : GoodIn wsX4_visit (wsV RX4 144 RX4 yX4_firstDue wsX4_firstDue) := goodIn_app (goodIn_of _ (by decide +kernel)) ggX4_visit_X4_firstDue
set_option maxRecDepth 20000 in
theorem ggX4_visit_X4_append : GoodIn wsX4_visit wsX4_append := goodIn_ca (goodIn_r _ [22, 23, 24, 8, 25, 26, 27, 28, 29, 30, 31, 32, 33, 34, 35, 36, 37, 38, 39, 40] (by decide +kernel) (by decide +kernel)) (goodIn_sub (fun _ h => List.mem_cons_of_mem _ (List.mem_append_right _ h)) (by decide +kernel))
set_option maxRecDepth 20000 in
theorem gX4_visit_X4_append : GoodIn wsX4_visit (wsV RX4 128 RX4 yX4_append wsX4_append) := goodIn_app (goodIn_of _ (by decide +kernel)) ggX4_visit_X4_append
theorem dX4_visit_0 : decode cX4_visit 0 = .ok (.iconst 0, 1) := by decide +kernel
theorem dX4_visit_1 : decode cX4_visit 1 = .ok (.istore_n 2, 1) := by decide +kernel
theorem dX4_visit_2 : decode cX4_visit 2 = .ok (.iload_n 2, 1) := by decide +kernel
theorem dX4_visit_3 : decode cX4_visit 3 = .ok (.aload_n 0, 1) := by decide +kernel
theorem dX4_visit_4 : decode cX4_visit 4 = .ok (.getfield 36, 3) := by decide +kernel
theorem dX4_visit_7 : decode cX4_visit 7 = .ok (.getfield 64, 3) := by decide +kernel
theorem dX4_visit_10 : decode cX4_visit 10 = .ok (.if_icmp .ge 26, 3) := by decide +kernel
theorem dX4_visit_13 : decode cX4_visit 13 = .ok (.aload_n 0, 1) := by decide +kernel
theorem dX4_visit_14 : decode cX4_visit 14 = .ok (.iload_n 1, 1) := by decide +kernel
theorem dX4_visit_15 : decode cX4_visit 15 = .ok (.invokevirtual 135, 3) := by decide +kernel
theorem dX4_visit_18 : decode cX4_visit 18 = .ok (.ifCond .eq 18, 3) := by decide +kernel
theorem dX4_visit_21 : decode cX4_visit 21 = .ok (.aload_n 0, 1) := by decide +kernel
theorem dX4_visit_22 : decode cX4_visit 22 = .ok (.aload_n 0, 1) := by decide +kernel
theorem dX4_visit_23 : decode cX4_visit 23 = .ok (.iload_n 1, 1) := by decide +kernel
theorem dX4_visit_24 : decode cX4_visit 24 = .ok (.invokevirtual 144, 3) := by decide +kernel
theorem dX4_visit_27 : decode cX4_visit 27 = .ok (.invokevirtual 128, 3) := by decide +kernel
theorem dX4_visit_30 : decode cX4_visit 30 = .ok (.iinc 2 1, 3) := by decide +kernel
theorem dX4_visit_33 : decode cX4_visit 33 = .ok (.goto (-31), 3) := by decide +kernel
theorem dX4_visit_36 : decode cX4_visit 36 = .ok (.return_, 1) := by decide +kernel
set_option maxRecDepth 20000 in
theorem ggX4_firstDue_X4_sourceToVisit : GoodIn wsX4_firstDue wsX4_sourceToVisit := goodIn_ca (goodIn_r _ [7, 1, 8, 9, 10, 11, 12, 6, 13, 14, 15, 16, 17, 18, 19, 20, 21, 22, 23, 24, 25, 26, 27, 28, 29, 30, 31, 32, 33] (by decide +kernel) (by decide +kernel)) (goodIn_sub (fun _ h => List.mem_cons_of_mem _ (List.mem_append_right _ h)) (by decide +kernel))
set_option maxRecDepth 20000 in
theorem gX4_firstDue_X4_sourceToVisit : GoodIn wsX4_firstDue (wsV RX4 147 RX4 yX4_sourceToVisit wsX4_sourceToVisit) := goodIn_app (goodIn_of _ (by decide +kernel)) ggX4_firstDue_X4_sourceToVisit
theorem dX4_firstDue_0 : decode cX4_firstDue 0 = .ok (.iload_n 1, 1) := by decide +kernel
theorem dX4_firstDue_1 : decode cX4_firstDue 1 = .ok (.istore_n 2, 1) := by decide +kernel
theorem dX4_firstDue_2 : decode cX4_firstDue 2 = .ok (.iconst 0, 1) := by decide +kernel
theorem dX4_firstDue_3 : decode cX4_firstDue 3 = .ok (.istore_n 3, 1) := by decide +kernel
theorem dX4_firstDue_4 : decode cX4_firstDue 4 = .ok (.iload_n 3, 1) := by decide +kernel
theorem dX4_firstDue_5 : decode cX4_firstDue 5 = .ok (.aload_n 0, 1) := by decide +kernel
theorem dX4_firstDue_6 : decode cX4_firstDue 6 = .ok (.getfield 36, 3) := by decide +kernel
theorem dX4_firstDue_9 : decode cX4_firstDue 9 = .ok (.getfield 64, 3) := by decide +kernel
theorem dX4_firstDue_12 : decode cX4_firstDue 12 = .ok (.if_icmp .ge 27, 3) := by decide +kernel
theorem dX4_firstDue_15 : decode cX4_firstDue 15 = .ok (.aload_n 0, 1) := by decide +kernel
theorem dX4_firstDue_16 : decode cX4_firstDue 16 = .ok (.iload_n 2, 1) := by decide +kernel
theorem dX4_firstDue_17 : decode cX4_firstDue 17 = .ok (.invokevirtual 147, 3) := by decide +kernel
theorem dX4_firstDue_20 : decode cX4_firstDue 20 = .ok (.istore 4, 2) := by decide +kernel
theorem dX4_firstDue_22 : decode cX4_firstDue 22 = .ok (.iload 4, 2) := by decide +kernel
theorem dX4_firstDue_24 : decode cX4_firstDue 24 = .ok (.iconst (-1), 1) := by decide +kernel
theorem dX4_firstDue_25 : decode cX4_firstDue 25 = .ok (.if_icmp .ne 5, 3) := by decide +kernel
theorem dX4_firstDue_28 : decode cX4_firstDue 28 = .ok (.iload_n 2, 1) := by decide +kernel
theorem dX4_firstDue_29 : decode cX4_firstDue 29 = .ok (.ireturn, 1) := by decide +kernel
theorem dX4_firstDue_30 : decode cX4_firstDue 30 = .ok (.iload 4, 2) := by decide +kernel
theorem dX4_firstDue_32 : decode cX4_firstDue 32 = .ok (.istore_n 2, 1) := by decide +kernel
theorem dX4_firstDue_33 : decode cX4_firstDue 33 = .ok (.iinc 3 1, 3) := by decide +kernel
theorem dX4_firstDue_36 : decode cX4_firstDue 36 = .ok (.goto (-32), 3) := by decide +kernel
theorem dX4_firstDue_39 : decode cX4_firstDue 39 = .ok (.iload_n 2, 1) := by decide +kernel
theorem dX4_firstDue_40 : decode cX4_firstDue 40 = .ok (.ireturn, 1) := by decide +kernel
set_option maxRecDepth 20000 in
theorem ggX4_sourceToVisit_X4_isMissing : GoodIn wsX4_sourceToVisit wsX4_isMissing := goodIn_ca (goodIn_r _ [8, 9, 10, 11, 12, 13, 14, 15, 16, 17, 18, 19, 20, 21] (by decide +kernel) (by decide +kernel)) (goodIn_sub (fun _ h => List.mem_cons_of_mem _ (List.mem_append_right _ h)) (by decide +kernel))
set_option maxRecDepth 20000 in
theorem gX4_sourceToVisit_X4_isMissing : GoodIn wsX4_sourceToVisit (wsV RX4 135 RX4 yX4_isMissing wsX4_isMissing) := goodIn_app (goodIn_of _ (by decide +kernel)) ggX4_sourceToVisit_X4_isMissing
theorem dX4_sourceToVisit_0 : decode cX4_sourceToVisit 0 = .ok (.aload_n 0, 1) := by decide +kernel
theorem dX4_sourceToVisit_1 : decode cX4_sourceToVisit 1 = .ok (.getfield 36, 3) := by decide +kernel
theorem dX4_sourceToVisit_4 : decode cX4_sourceToVisit 4 = .ok (.getfield 90, 3) := by decide +kernel
theorem dX4_sourceToVisit_7 : decode cX4_sourceToVisit 7 = .ok (.iload_n 1, 1) := by decide +kernel
theorem dX4_sourceToVisit_8 : decode cX4_sourceToVisit 8 = .ok (.aaload, 1) := by decide +kernel
theorem dX4_sourceToVisit_9 : decode cX4_sourceToVisit 9 = .ok (.iconst 0, 1) := by decide +kernel
theorem dX4_sourceToVisit_10 : decode cX4_sourceToVisit 10 = .ok (.iaload, 1) := by decide +kernel
theorem dX4_sourceToVisit_11 : decode cX4_sourceToVisit 11 = .ok (.istore_n 2, 1) := by decide +kernel
theorem dX4_sourceToVisit_12 : decode cX4_sourceToVisit 12 = .ok (.aload_n 0, 1) := by decide +kernel
theorem dX4_sourceToVisit_13 : decode cX4_sourceToVisit 13 = .ok (.getfield 36, 3) := by decide +kernel
theorem dX4_sourceToVisit_16 : decode cX4_sourceToVisit 16 = .ok (.getfield 90, 3) := by decide +kernel
theorem dX4_sourceToVisit_19 : decode cX4_sourceToVisit 19 = .ok (.iload_n 1, 1) := by decide +kernel
theorem dX4_sourceToVisit_20 : decode cX4_sourceToVisit 20 = .ok (.aaload, 1) := by decide +kernel
theorem dX4_sourceToVisit_21 : decode cX4_sourceToVisit 21 = .ok (.iconst 1, 1) := by decide +kernel
theorem dX4_sourceToVisit_22 : decode cX4_sourceToVisit 22 = .ok (.iaload, 1) := by decide +kernel
theorem dX4_sourceToVisit_23 : decode cX4_sourceToVisit 23 = .ok (.istore_n 3, 1) := by decide +kernel
theorem dX4_sourceToVisit_24 : decode cX4_sourceToVisit 24 = .ok (.iload_n 2, 1) := by decide +kernel
theorem dX4_sourceToVisit_25 : decode cX4_sourceToVisit 25 = .ok (.iconst (-1), 1) := by decide +kernel
theorem dX4_sourceToVisit_26 : decode cX4_sourceToVisit 26 = .ok (.if_icmp .eq 27, 3) := by decide +kernel
theorem dX4_sourceToVisit_29 : decode cX4_sourceToVisit 29 = .ok (.iload_n 3, 1) := by decide +kernel
theorem dX4_sourceToVisit_30 : decode cX4_sourceToVisit 30 = .ok (.iconst (-1), 1) := by decide +kernel
theorem dX4_sourceToVisit_31 : decode cX4_sourceToVisit 31 = .ok (.if_icmp .eq 22, 3) := by decide +kernel
theorem dX4_sourceToVisit_34 : decode cX4_sourceToVisit 34 = .ok (.aload_n 0, 1) := by decide +kernel
theorem dX4_sourceToVisit_35 : decode cX4_sourceToVisit 35 = .ok (.getfield 21, 3) := by decide +kernel
theorem dX4_sourceToVisit_38 : decode cX4_sourceToVisit 38 = .ok (.iload_n 3, 1) := by decide +kernel
theorem dX4_sourceToVisit_39 : decode cX4_sourceToVisit 39 = .ok (.iaload, 1) := by decide +kernel
theorem dX4_sourceToVisit_40 : decode cX4_sourceToVisit 40 = .ok (.aload_n 0, 1) := by decide +kernel
theorem dX4_sourceToVisit_41 : decode cX4_sourceToVisit 41 = .ok (.getfield 21, 3) := by decide +kernel
theorem dX4_sourceToVisit_44 : decode cX4_sourceToVisit 44 = .ok (.iload_n 2, 1) := by decide +kernel
theorem dX4_sourceToVisit_45 : decode cX4_sourceToVisit 45 = .ok (.iaload, 1) := by decide +kernel
theorem dX4_sourceToVisit_46 : decode cX4_sourceToVisit 46 = .ok (.if_icmp .le 7, 3) := by decide +kernel
theorem dX4_sourceToVisit_49 : decode cX4_sourceToVisit 49 = .ok (.iconst 1, 1) := by decide +kernel
theorem dX4_sourceToVisit_50 : decode cX4_sourceToVisit 50 = .ok (.goto 4, 3) := by decide +kernel
theorem dX4_sourceToVisit_53 : decode cX4_sourceToVisit 53 = .ok (.iconst 0, 1) := by decide +kernel
theorem dX4_sourceToVisit_54 : decode cX4_sourceToVisit 54 = .ok (.istore 4, 2) := by decide +kernel
theorem dX4_sourceToVisit_56 : decode cX4_sourceToVisit 56 = .ok (.iload 4, 2) := by decide +kernel
theorem dX4_sourceToVisit_58 : decode cX4_sourceToVisit 58 = .ok (.ifCond .eq 7, 3) := by decide +kernel
theorem dX4_sourceToVisit_61 : decode cX4_sourceToVisit 61 = .ok (.iload_n 3, 1) := by decide +kernel
theorem dX4_sourceToVisit_62 : decode cX4_sourceToVisit 62 = .ok (.goto 4, 3) := by decide +kernel
theorem dX4_sourceToVisit_65 : decode cX4_sourceToVisit 65 = .ok (.iload_n 2, 1) := by decide +kernel
theorem dX4_sourceToVisit_66 : decode cX4_sourceToVisit 66 = .ok (.istore 5, 2) := by decide +kernel
theorem dX4_sourceToVisit_68 : decode cX4_sourceToVisit 68 = .ok (.iload 4, 2) := by decide +kernel
theorem dX4_sourceToVisit_70 : decode cX4_sourceToVisit 70 = .ok (.ifCond .eq 7, 3) := by decide +kernel
theorem dX4_sourceToVisit_73 : decode cX4_sourceToVisit 73 = .ok (.iload_n 2, 1) := by decide +kernel
theorem dX4_sourceToVisit_74 : decode cX4_sourceToVisit 74 = .ok (.goto 4, 3) := by decide +kernel
theorem dX4_sourceToVisit_77 : decode cX4_sourceToVisit 77 = .ok (.iload_n 3, 1) := by decide +kernel
theorem dX4_sourceToVisit_78 : decode cX4_sourceToVisit 78 = .ok (.istore 6, 2) := by decide +kernel
theorem dX4_sourceToVisit_80 : decode cX4_sourceToVisit 80 = .ok (.iload 5, 2) := by decide +kernel
theorem dX4_sourceToVisit_82 : decode cX4_sourceToVisit 82 = .ok (.iconst (-1), 1) := by decide +kernel
theorem dX4_sourceToVisit_83 : decode cX4_sourceToVisit 83 = .ok (.if_icmp .eq 15, 3) := by decide +kernel
theorem dX4_sourceToVisit_86 : decode cX4_sourceToVisit 86 = .ok (.aload_n 0, 1) := by decide +kernel
theorem dX4_sourceToVisit_87 : decode cX4_sourceToVisit 87 = .ok (.iload 5, 2) := by decide +kernel
theorem dX4_sourceToVisit_89 : decode cX4_sourceToVisit 89 = .ok (.invokevirtual 135, 3) := by decide +kernel
theorem dX4_sourceToVisit_92 : decode cX4_sourceToVisit 92 = .ok (.ifCond .eq 6, 3) := by decide +kernel
theorem dX4_sourceToVisit_95 : decode cX4_sourceToVisit 95 = .ok (.iload 5, 2) := by decide +kernel
theorem dX4_sourceToVisit_97 : decode cX4_sourceToVisit 97 = .ok (.ireturn, 1) := by decide +kernel
theorem dX4_sourceToVisit_98 : decode cX4_sourceToVisit 98 = .ok (.iload 6, 2) := by decide +kernel
theorem dX4_sourceToVisit_100 : decode cX4_sourceToVisit 100 = .ok (.iconst (-1), 1) := by decide +kernel
theorem dX4_sourceToVisit_101 : decode cX4_sourceToVisit 101 = .ok (.if_icmp .eq 17, 3) := by decide +kernel
theorem dX4_sourceToVisit_104 : decode cX4_sourceToVisit 104 = .ok (.aload_n 0, 1) := by decide +kernel
theorem dX4_sourceToVisit_105 : decode cX4_sourceToVisit 105 = .ok (.iload 6, 2) := by decide +kernel
theorem dX4_sourceToVisit_107 : decode cX4_sourceToVisit 107 = .ok (.invokevirtual 135, 3) := by decide +kernel
theorem dX4_sourceToVisit_110 : decode cX4_sourceToVisit 110 = .ok (.ifCond .eq 8, 3) := by decide +kernel
theorem dX4_sourceToVisit_113 : decode cX4_sourceToVisit 113 = .ok (.iload 6, 2) := by decide +kernel
theorem dX4_sourceToVisit_115 : decode cX4_sourceToVisit 115 = .ok (.goto 4, 3) := by decide +kernel
theorem dX4_sourceToVisit_118 : decode cX4_sourceToVisit 118 = .ok (.iconst (-1), 1) := by decide +kernel
theorem dX4_sourceToVisit_119 : decode cX4_sourceToVisit 119 = .ok (.ireturn, 1) := by decide +kernel
set_option maxRecDepth 20000 in
theorem ggX4_lastStepOf_X6_contains : GoodIn wsX4_lastStepOf wsX6_contains := goodIn_r _ [12] (by decide +kernel) (by decide +kernel)
set_option maxRecDepth 20000 in
theorem gX4_lastStepOf_X6_contains_n83 : GoodIn wsX4_lastStepOf (wsX6_contains) := ggX4_lastStepOf_X6_contains
theorem dX4_lastStepOf_0 : decode cX4_lastStepOf 0 = .ok (.aload_n 0, 1) := by decide +kernel
theorem dX4_lastStepOf_1 : decode cX4_lastStepOf 1 = .ok (.getfield 36, 3) := by decide +kernel
theorem dX4_lastStepOf_4 : decode cX4_lastStepOf 4 = .ok (.getfield 150, 3) := by decide +kernel
theorem dX4_lastStepOf_7 : decode cX4_lastStepOf 7 = .ok (.iload_n 1, 1) := by decide +kernel
theorem dX4_lastStepOf_8 : decode cX4_lastStepOf 8 = .ok (.baload, 1) := by decide +kernel
theorem dX4_lastStepOf_9 : decode cX4_lastStepOf 9 = .ok (.ifCond .eq 13, 3) := by decide +kernel
theorem dX4_lastStepOf_12 : decode cX4_lastStepOf 12 = .ok (.aload_n 0, 1) := by decide +kernel
theorem dX4_lastStepOf_13 : decode cX4_lastStepOf 13 = .ok (.getfield 36, 3) := by decide +kernel
theorem dX4_lastStepOf_16 : decode cX4_lastStepOf 16 = .ok (.getfield 64, 3) := by decide +kernel
theorem dX4_lastStepOf_19 : decode cX4_lastStepOf 19 = .ok (.iconst 1, 1) := by decide +kernel
theorem dX4_lastStepOf_20 : decode cX4_lastStepOf 20 = .ok (.isub, 1) := by decide +kernel
theorem dX4_lastStepOf_21 : decode cX4_lastStepOf 21 = .ok (.ireturn, 1) := by decide +kernel
theorem dX4_lastStepOf_22 : decode cX4_lastStepOf 22 = .ok (.aload_n 0, 1) := by decide +kernel
theorem dX4_lastStepOf_23 : decode cX4_lastStepOf 23 = .ok (.getfield 27, 3) := by decide +kernel
theorem dX4_lastStepOf_26 : decode cX4_lastStepOf 26 = .ok (.iload_n 1, 1) := by decide +kernel
theorem dX4_lastStepOf_27 : decode cX4_lastStepOf 27 = .ok (.iaload, 1) := by decide +kernel
theorem dX4_lastStepOf_28 : decode cX4_lastStepOf 28 = .ok (.istore_n 2, 1) := by decide +kernel
theorem dX4_lastStepOf_29 : decode cX4_lastStepOf 29 = .ok (.iconst 0, 1) := by decide +kernel
theorem dX4_lastStepOf_30 : decode cX4_lastStepOf 30 = .ok (.istore_n 3, 1) := by decide +kernel
theorem dX4_lastStepOf_31 : decode cX4_lastStepOf 31 = .ok (.iload_n 3, 1) := by decide +kernel
theorem dX4_lastStepOf_32 : decode cX4_lastStepOf 32 = .ok (.aload_n 0, 1) := by decide +kernel
theorem dX4_lastStepOf_33 : decode cX4_lastStepOf 33 = .ok (.getfield 36, 3) := by decide +kernel
theorem dX4_lastStepOf_36 : decode cX4_lastStepOf 36 = .ok (.getfield 64, 3) := by decide +kernel
theorem dX4_lastStepOf_39 : decode cX4_lastStepOf 39 = .ok (.if_icmp .ge 33, 3) := by decide +kernel
theorem dX4_lastStepOf_42 : decode cX4_lastStepOf 42 = .ok (.aload_n 0, 1) := by decide +kernel
theorem dX4_lastStepOf_43 : decode cX4_lastStepOf 43 = .ok (.getfield 15, 3) := by decide +kernel
theorem dX4_lastStepOf_46 : decode cX4_lastStepOf 46 = .ok (.iload_n 1, 1) := by decide +kernel
theorem dX4_lastStepOf_47 : decode cX4_lastStepOf 47 = .ok (.iaload, 1) := by decide +kernel
theorem dX4_lastStepOf_48 : decode cX4_lastStepOf 48 = .ok (.iload_n 3, 1) := by decide +kernel
theorem dX4_lastStepOf_49 : decode cX4_lastStepOf 49 = .ok (.invokestatic 83, 3) := by decide +kernel
theorem dX4_lastStepOf_52 : decode cX4_lastStepOf 52 = .ok (.ifCond .eq 14, 3) := by decide +kernel
theorem dX4_lastStepOf_55 : decode cX4_lastStepOf 55 = .ok (.iload_n 2, 1) := by decide +kernel
theorem dX4_lastStepOf_56 : decode cX4_lastStepOf 56 = .ok (.aload_n 0, 1) := by decide +kernel
theorem dX4_lastStepOf_57 : decode cX4_lastStepOf 57 = .ok (.getfield 27, 3) := by decide +kernel
theorem dX4_lastStepOf_60 : decode cX4_lastStepOf 60 = .ok (.iload_n 3, 1) := by decide +kernel
theorem dX4_lastStepOf_61 : decode cX4_lastStepOf 61 = .ok (.iaload, 1) := by decide +kernel
theorem dX4_lastStepOf_62 : decode cX4_lastStepOf 62 = .ok (.invokestatic 110, 3) := by decide +kernel
theorem dX4_lastStepOf_65 : decode cX4_lastStepOf 65 = .ok (.istore_n 2, 1) := by decide +kernel
theorem dX4_lastStepOf_66 : decode cX4_lastStepOf 66 = .ok (.iinc 3 1, 3) := by decide +kernel
theorem dX4_lastStepOf_69 : decode cX4_lastStepOf 69 = .ok (.goto (-38), 3) := by decide +kernel
theorem dX4_lastStepOf_72 : decode cX4_lastStepOf 72 = .ok (.iload_n 2, 1) := by decide +kernel
theorem dX4_lastStepOf_73 : decode cX4_lastStepOf 73 = .ok (.ireturn, 1) := by decide +kernel
set_option maxRecDepth 20000 in
theorem ggX4_addCosts_J7_fill_53178 : GoodIn wsX4_addCosts wsJ7_fill_53178 := goodIn_r _ [16] (by decide +kernel) (by decide +kernel)
set_option maxRecDepth 20000 in
theorem gX4_addCosts_J7_fill_53178 : GoodIn wsX4_addCosts (va_wsS RX4 75 yJ7_fill_53178 wsJ7_fill_53178) := goodIn_app (goodIn_of _ (by decide +kernel)) ggX4_addCosts_J7_fill_53178
theorem dX4_addCosts_0 : decode cX4_addCosts 0 = .ok (.aload_n 0, 1) := by decide +kernel
theorem dX4_addCosts_1 : decode cX4_addCosts 1 = .ok (.iconst 0, 1) := by decide +kernel
theorem dX4_addCosts_2 : decode cX4_addCosts 2 = .ok (.putfield 154, 3) := by decide +kernel
theorem dX4_addCosts_5 : decode cX4_addCosts 5 = .ok (.aload_n 0, 1) := by decide +kernel
theorem dX4_addCosts_6 : decode cX4_addCosts 6 = .ok (.getfield 33, 3) := by decide +kernel
theorem dX4_addCosts_9 : decode cX4_addCosts 9 = .ok (.iconst 0, 1) := by decide +kernel
theorem dX4_addCosts_10 : decode cX4_addCosts 10 = .ok (.invokestatic 75, 3) := by decide +kernel
theorem dX4_addCosts_13 : decode cX4_addCosts 13 = .ok (.iconst 0, 1) := by decide +kernel
theorem dX4_addCosts_14 : decode cX4_addCosts 14 = .ok (.istore_n 1, 1) := by decide +kernel
theorem dX4_addCosts_15 : decode cX4_addCosts 15 = .ok (.iload_n 1, 1) := by decide +kernel
theorem dX4_addCosts_16 : decode cX4_addCosts 16 = .ok (.aload_n 0, 1) := by decide +kernel
theorem dX4_addCosts_17 : decode cX4_addCosts 17 = .ok (.getfield 46, 3) := by decide +kernel
theorem dX4_addCosts_20 : decode cX4_addCosts 20 = .ok (.if_icmp .ge 80, 3) := by decide +kernel
theorem dX4_addCosts_23 : decode cX4_addCosts 23 = .ok (.iconst 0, 1) := by decide +kernel
theorem dX4_addCosts_24 : decode cX4_addCosts 24 = .ok (.istore_n 2, 1) := by decide +kernel
theorem dX4_addCosts_25 : decode cX4_addCosts 25 = .ok (.iload_n 2, 1) := by decide +kernel
theorem dX4_addCosts_26 : decode cX4_addCosts 26 = .ok (.aload_n 0, 1) := by decide +kernel
theorem dX4_addCosts_27 : decode cX4_addCosts 27 = .ok (.getfield 36, 3) := by decide +kernel
theorem dX4_addCosts_30 : decode cX4_addCosts 30 = .ok (.getfield 64, 3) := by decide +kernel
theorem dX4_addCosts_33 : decode cX4_addCosts 33 = .ok (.if_icmp .ge 44, 3) := by decide +kernel
theorem dX4_addCosts_36 : decode cX4_addCosts 36 = .ok (.aload_n 0, 1) := by decide +kernel
theorem dX4_addCosts_37 : decode cX4_addCosts 37 = .ok (.getfield 27, 3) := by decide +kernel
theorem dX4_addCosts_40 : decode cX4_addCosts 40 = .ok (.iload_n 2, 1) := by decide +kernel
theorem dX4_addCosts_41 : decode cX4_addCosts 41 = .ok (.iaload, 1) := by decide +kernel
theorem dX4_addCosts_42 : decode cX4_addCosts 42 = .ok (.iload_n 1, 1) := by decide +kernel
theorem dX4_addCosts_43 : decode cX4_addCosts 43 = .ok (.if_icmp .gt 28, 3) := by decide +kernel
theorem dX4_addCosts_46 : decode cX4_addCosts 46 = .ok (.iload_n 1, 1) := by decide +kernel
theorem dX4_addCosts_47 : decode cX4_addCosts 47 = .ok (.aload_n 0, 1) := by decide +kernel
theorem dX4_addCosts_48 : decode cX4_addCosts 48 = .ok (.getfield 30, 3) := by decide +kernel
theorem dX4_addCosts_51 : decode cX4_addCosts 51 = .ok (.iload_n 2, 1) := by decide +kernel
theorem dX4_addCosts_52 : decode cX4_addCosts 52 = .ok (.iaload, 1) := by decide +kernel
theorem dX4_addCosts_53 : decode cX4_addCosts 53 = .ok (.if_icmp .gt 18, 3) := by decide +kernel
theorem dX4_addCosts_56 : decode cX4_addCosts 56 = .ok (.aload_n 0, 1) := by decide +kernel
theorem dX4_addCosts_57 : decode cX4_addCosts 57 = .ok (.getfield 33, 3) := by decide +kernel
theorem dX4_addCosts_60 : decode cX4_addCosts 60 = .ok (.iload_n 1, 1) := by decide +kernel
theorem dX4_addCosts_61 : decode cX4_addCosts 61 = .ok (.dup2, 1) := by decide +kernel
theorem dX4_addCosts_62 : decode cX4_addCosts 62 = .ok (.iaload, 1) := by decide +kernel
theorem dX4_addCosts_63 : decode cX4_addCosts 63 = .ok (.aload_n 0, 1) := by decide +kernel
theorem dX4_addCosts_64 : decode cX4_addCosts 64 = .ok (.getfield 18, 3) := by decide +kernel
theorem dX4_addCosts_67 : decode cX4_addCosts 67 = .ok (.iload_n 2, 1) := by decide +kernel
theorem dX4_addCosts_68 : decode cX4_addCosts 68 = .ok (.iaload, 1) := by decide +kernel
theorem dX4_addCosts_69 : decode cX4_addCosts 69 = .ok (.iadd, 1) := by decide +kernel
theorem dX4_addCosts_70 : decode cX4_addCosts 70 = .ok (.iastore, 1) := by decide +kernel
theorem dX4_addCosts_71 : decode cX4_addCosts 71 = .ok (.iinc 2 1, 3) := by decide +kernel
theorem dX4_addCosts_74 : decode cX4_addCosts 74 = .ok (.goto (-49), 3) := by decide +kernel
theorem dX4_addCosts_77 : decode cX4_addCosts 77 = .ok (.aload_n 0, 1) := by decide +kernel
theorem dX4_addCosts_78 : decode cX4_addCosts 78 = .ok (.aload_n 0, 1) := by decide +kernel
theorem dX4_addCosts_79 : decode cX4_addCosts 79 = .ok (.getfield 154, 3) := by decide +kernel
theorem dX4_addCosts_82 : decode cX4_addCosts 82 = .ok (.aload_n 0, 1) := by decide +kernel
theorem dX4_addCosts_83 : decode cX4_addCosts 83 = .ok (.getfield 33, 3) := by decide +kernel
theorem dX4_addCosts_86 : decode cX4_addCosts 86 = .ok (.iload_n 1, 1) := by decide +kernel
theorem dX4_addCosts_87 : decode cX4_addCosts 87 = .ok (.iaload, 1) := by decide +kernel
theorem dX4_addCosts_88 : decode cX4_addCosts 88 = .ok (.invokestatic 110, 3) := by decide +kernel
theorem dX4_addCosts_91 : decode cX4_addCosts 91 = .ok (.putfield 154, 3) := by decide +kernel
theorem dX4_addCosts_94 : decode cX4_addCosts 94 = .ok (.iinc 1 1, 3) := by decide +kernel
theorem dX4_addCosts_97 : decode cX4_addCosts 97 = .ok (.goto (-82), 3) := by decide +kernel
theorem dX4_addCosts_100 : decode cX4_addCosts 100 = .ok (.return_, 1) := by decide +kernel
theorem dX5_init_0 : decode cX5_init 0 = .ok (.aload_n 0, 1) := by decide +kernel
theorem dX5_init_1 : decode cX5_init 1 = .ok (.invokespecial 3, 3) := by decide +kernel
theorem dX5_init_4 : decode cX5_init 4 = .ok (.aload_n 0, 1) := by decide +kernel
theorem dX5_init_5 : decode cX5_init 5 = .ok (.bipush 12, 2) := by decide +kernel
theorem dX5_init_7 : decode cX5_init 7 = .ok (.newarray .int, 2) := by decide +kernel
theorem dX5_init_9 : decode cX5_init 9 = .ok (.putfield 9, 3) := by decide +kernel
theorem dX5_init_12 : decode cX5_init 12 = .ok (.aload_n 0, 1) := by decide +kernel
theorem dX5_init_13 : decode cX5_init 13 = .ok (.bipush 12, 2) := by decide +kernel
theorem dX5_init_15 : decode cX5_init 15 = .ok (.newarray .int, 2) := by decide +kernel
theorem dX5_init_17 : decode cX5_init 17 = .ok (.putfield 15, 3) := by decide +kernel
theorem dX5_init_20 : decode cX5_init 20 = .ok (.aload_n 0, 1) := by decide +kernel
theorem dX5_init_21 : decode cX5_init 21 = .ok (.bipush 12, 2) := by decide +kernel
theorem dX5_init_23 : decode cX5_init 23 = .ok (.newarray .int, 2) := by decide +kernel
theorem dX5_init_25 : decode cX5_init 25 = .ok (.putfield 18, 3) := by decide +kernel
theorem dX5_init_28 : decode cX5_init 28 = .ok (.aload_n 0, 1) := by decide +kernel
theorem dX5_init_29 : decode cX5_init 29 = .ok (.aload_n 1, 1) := by decide +kernel
theorem dX5_init_30 : decode cX5_init 30 = .ok (.putfield 21, 3) := by decide +kernel
theorem dX5_init_33 : decode cX5_init 33 = .ok (.return_, 1) := by decide +kernel
set_option maxRecDepth 20000 in
theorem ggX5_find_X5_findReach : GoodIn wsX5_find wsX5_findReach := goodIn_ca (goodIn_r _ [9, 2, 3, 4, 10, 11, 12, 13, 14, 15, 16, 17, 18, 19, 20, 44, 45, 46, 47, 48, 49, 50, 51, 52, 53, 54, 55] (by decide +kernel) (by decide +kernel)) (goodIn_sub (fun _ h => List.mem_cons_of_mem _ (List.mem_append_right _ h)) (by decide +kernel))
set_option maxRecDepth 20000 in
theorem gX5_find_X5_findReach : GoodIn wsX5_find (wsV RX5 29 RX5 yX5_findReach wsX5_findReach) := goodIn_app (goodIn_of _ (by decide +kernel)) ggX5_find_X5_findReach
set_option maxRecDepth 20000 in
theorem ggX5_find_X6_contains : GoodIn wsX5_find wsX6_contains := goodIn_r _ [20] (by decide +kernel) (by decide +kernel)
set_option maxRecDepth 20000 in
theorem gX5_find_X6_contains_n37 : GoodIn wsX5_find (wsX6_contains) := ggX5_find_X6_contains
set_option maxRecDepth 20000 in
theorem ggX5_find_X5_countSteps : GoodIn wsX5_find wsX5_countSteps := goodIn_ca (goodIn_r _ [24, 25, 2, 3, 26, 27, 28, 29, 30, 31, 32, 33, 34, 35, 36, 8, 37, 38, 44, 45, 46, 47, 48, 49, 50, 51, 52, 53, 54, 55] (by decide +kernel) (by decide +kernel)) (goodIn_sub (fun _ h => List.mem_cons_of_mem _ (List.mem_append_right _ h)) (by decide +kernel))
set_option maxRecDepth 20000 in
theorem gX5_find_X5_countSteps : GoodIn wsX5_find (wsV RX5 41 RX5 yX5_countSteps wsX5_countSteps) := goodIn_app (goodIn_of _ (by decide +kernel)) ggX5_find_X5_countSteps
set_option maxRecDepth 20000 in
theorem ggX5_find_X5_follow : GoodIn wsX5_find wsX5_follow := goodIn_ca (goodIn_r _ [42, 43, 1, 2, 3, 34, 35, 36, 8, 37, 38, 25, 44, 45, 46, 47, 48, 49, 50, 51, 52, 53, 54, 55] (by decide +kernel) (by decide +kernel)) (goodIn_sub (fun _ h => List.mem_cons_of_mem _ (List.mem_append_right _ h)) (by decide +kernel))
set_option maxRecDepth 20000 in
theorem gX5_find_X5_follow : GoodIn wsX5_find (wsV RX5 45 RX5 yX5_follow wsX5_follow) := goodIn_app (goodIn_of _ (by decide +kernel)) ggX5_find_X5_follow
theorem dX5_find_0 : decode cX5_find 0 = .ok (.aload_n 0, 1) := by decide +kernel
theorem dX5_find_1 : decode cX5_find 1 = .ok (.iconst 0, 1) := by decide +kernel
theorem dX5_find_2 : decode cX5_find 2 = .ok (.putfield 25, 3) := by decide +kernel
theorem dX5_find_5 : decode cX5_find 5 = .ok (.aload_n 0, 1) := by decide +kernel
theorem dX5_find_6 : decode cX5_find 6 = .ok (.invokevirtual 29, 3) := by decide +kernel
theorem dX5_find_9 : decode cX5_find 9 = .ok (.iconst 0, 1) := by decide +kernel
theorem dX5_find_10 : decode cX5_find 10 = .ok (.istore_n 1, 1) := by decide +kernel
theorem dX5_find_11 : decode cX5_find 11 = .ok (.iload_n 1, 1) := by decide +kernel
theorem dX5_find_12 : decode cX5_find 12 = .ok (.aload_n 0, 1) := by decide +kernel
theorem dX5_find_13 : decode cX5_find 13 = .ok (.getfield 21, 3) := by decide +kernel
theorem dX5_find_16 : decode cX5_find 16 = .ok (.getfield 32, 3) := by decide +kernel
theorem dX5_find_19 : decode cX5_find 19 = .ok (.if_icmp .ge 33, 3) := by decide +kernel
theorem dX5_find_22 : decode cX5_find 22 = .ok (.aload_n 0, 1) := by decide +kernel
theorem dX5_find_23 : decode cX5_find 23 = .ok (.getfield 9, 3) := by decide +kernel
theorem dX5_find_26 : decode cX5_find 26 = .ok (.iload_n 1, 1) := by decide +kernel
theorem dX5_find_27 : decode cX5_find 27 = .ok (.iaload, 1) := by decide +kernel
theorem dX5_find_28 : decode cX5_find 28 = .ok (.iload_n 1, 1) := by decide +kernel
theorem dX5_find_29 : decode cX5_find 29 = .ok (.invokestatic 37, 3) := by decide +kernel
theorem dX5_find_32 : decode cX5_find 32 = .ok (.ifCond .eq 14, 3) := by decide +kernel
theorem dX5_find_35 : decode cX5_find 35 = .ok (.aload_n 0, 1) := by decide +kernel
theorem dX5_find_36 : decode cX5_find 36 = .ok (.iload_n 1, 1) := by decide +kernel
theorem dX5_find_37 : decode cX5_find 37 = .ok (.invokevirtual 41, 3) := by decide +kernel
theorem dX5_find_40 : decode cX5_find 40 = .ok (.aload_n 0, 1) := by decide +kernel
theorem dX5_find_41 : decode cX5_find 41 = .ok (.iload_n 1, 1) := by decide +kernel
theorem dX5_find_42 : decode cX5_find 42 = .ok (.invokevirtual 45, 3) := by decide +kernel
theorem dX5_find_45 : decode cX5_find 45 = .ok (.return_, 1) := by decide +kernel
theorem dX5_find_46 : decode cX5_find 46 = .ok (.iinc 1 1, 3) := by decide +kernel
theorem dX5_find_49 : decode cX5_find 49 = .ok (.goto (-38), 3) := by decide +kernel
theorem dX5_find_52 : decode cX5_find 52 = .ok (.return_, 1) := by decide +kernel
set_option maxRecDepth 20000 in
theorem ggX5_findReach_X1_dependencies : GoodIn wsX5_findReach wsX1_dependencies := goodIn_ca (goodIn_r _ [8, 9, 10, 11, 12, 20, 21, 22, 23, 24, 25, 26] (by decide +kernel) (by decide +kernel)) (goodIn_sub (fun _ h => List.mem_cons_of_mem _ (List.mem_append_right _ h)) (by decide +kernel))
set_option maxRecDepth 20000 in
theorem gX5_findReach_X1_dependencies : GoodIn wsX5_findReach (wsV RX5 48 RX1 yX1_dependencies wsX1_dependencies) := goodIn_app (goodIn_of _ (by decide +kernel)) ggX5_findReach_X1_dependencies
set_option maxRecDepth 20000 in
theorem ggX5_findReach_X6_contains : GoodIn wsX5_findReach wsX6_contains := goodIn_r _ [14] (by decide +kernel) (by decide +kernel)
set_option maxRecDepth 20000 in
theorem gX5_findReach_X6_contains_n37 : GoodIn wsX5_findReach (wsX6_contains) := ggX5_findReach_X6_contains
theorem dX5_findReach_0 : decode cX5_findReach 0 = .ok (.iconst 0, 1) := by decide +kernel
theorem dX5_findReach_1 : decode cX5_findReach 1 = .ok (.istore_n 1, 1) := by decide +kernel
theorem dX5_findReach_2 : decode cX5_findReach 2 = .ok (.iload_n 1, 1) := by decide +kernel
theorem dX5_findReach_3 : decode cX5_findReach 3 = .ok (.aload_n 0, 1) := by decide +kernel
theorem dX5_findReach_4 : decode cX5_findReach 4 = .ok (.getfield 21, 3) := by decide +kernel
theorem dX5_findReach_7 : decode cX5_findReach 7 = .ok (.getfield 32, 3) := by decide +kernel
theorem dX5_findReach_10 : decode cX5_findReach 10 = .ok (.if_icmp .ge 23, 3) := by decide +kernel
theorem dX5_findReach_13 : decode cX5_findReach 13 = .ok (.aload_n 0, 1) := by decide +kernel
theorem dX5_findReach_14 : decode cX5_findReach 14 = .ok (.getfield 9, 3) := by decide +kernel
theorem dX5_findReach_17 : decode cX5_findReach 17 = .ok (.iload_n 1, 1) := by decide +kernel
theorem dX5_findReach_18 : decode cX5_findReach 18 = .ok (.aload_n 0, 1) := by decide +kernel
theorem dX5_findReach_19 : decode cX5_findReach 19 = .ok (.getfield 21, 3) := by decide +kernel
theorem dX5_findReach_22 : decode cX5_findReach 22 = .ok (.iload_n 1, 1) := by decide +kernel
theorem dX5_findReach_23 : decode cX5_findReach 23 = .ok (.invokevirtual 48, 3) := by decide +kernel
theorem dX5_findReach_26 : decode cX5_findReach 26 = .ok (.iastore, 1) := by decide +kernel
theorem dX5_findReach_27 : decode cX5_findReach 27 = .ok (.iinc 1 1, 3) := by decide +kernel
theorem dX5_findReach_30 : decode cX5_findReach 30 = .ok (.goto (-28), 3) := by decide +kernel
theorem dX5_findReach_33 : decode cX5_findReach 33 = .ok (.iconst 0, 1) := by decide +kernel
theorem dX5_findReach_34 : decode cX5_findReach 34 = .ok (.istore_n 1, 1) := by decide +kernel
theorem dX5_findReach_35 : decode cX5_findReach 35 = .ok (.iload_n 1, 1) := by decide +kernel
theorem dX5_findReach_36 : decode cX5_findReach 36 = .ok (.aload_n 0, 1) := by decide +kernel
theorem dX5_findReach_37 : decode cX5_findReach 37 = .ok (.getfield 21, 3) := by decide +kernel
theorem dX5_findReach_40 : decode cX5_findReach 40 = .ok (.getfield 32, 3) := by decide +kernel
theorem dX5_findReach_43 : decode cX5_findReach 43 = .ok (.if_icmp .ge 56, 3) := by decide +kernel
theorem dX5_findReach_46 : decode cX5_findReach 46 = .ok (.iconst 0, 1) := by decide +kernel
theorem dX5_findReach_47 : decode cX5_findReach 47 = .ok (.istore_n 2, 1) := by decide +kernel
theorem dX5_findReach_48 : decode cX5_findReach 48 = .ok (.iload_n 2, 1) := by decide +kernel
theorem dX5_findReach_49 : decode cX5_findReach 49 = .ok (.aload_n 0, 1) := by decide +kernel
theorem dX5_findReach_50 : decode cX5_findReach 50 = .ok (.getfield 21, 3) := by decide +kernel
theorem dX5_findReach_53 : decode cX5_findReach 53 = .ok (.getfield 32, 3) := by decide +kernel
theorem dX5_findReach_56 : decode cX5_findReach 56 = .ok (.if_icmp .ge 37, 3) := by decide +kernel
theorem dX5_findReach_59 : decode cX5_findReach 59 = .ok (.aload_n 0, 1) := by decide +kernel
theorem dX5_findReach_60 : decode cX5_findReach 60 = .ok (.getfield 9, 3) := by decide +kernel
theorem dX5_findReach_63 : decode cX5_findReach 63 = .ok (.iload_n 2, 1) := by decide +kernel
theorem dX5_findReach_64 : decode cX5_findReach 64 = .ok (.iaload, 1) := by decide +kernel
theorem dX5_findReach_65 : decode cX5_findReach 65 = .ok (.iload_n 1, 1) := by decide +kernel
theorem dX5_findReach_66 : decode cX5_findReach 66 = .ok (.invokestatic 37, 3) := by decide +kernel
theorem dX5_findReach_69 : decode cX5_findReach 69 = .ok (.ifCond .eq 18, 3) := by decide +kernel
theorem dX5_findReach_72 : decode cX5_findReach 72 = .ok (.aload_n 0, 1) := by decide +kernel
theorem dX5_findReach_73 : decode cX5_findReach 73 = .ok (.getfield 9, 3) := by decide +kernel
theorem dX5_findReach_76 : decode cX5_findReach 76 = .ok (.iload_n 2, 1) := by decide +kernel
theorem dX5_findReach_77 : decode cX5_findReach 77 = .ok (.dup2, 1) := by decide +kernel
theorem dX5_findReach_78 : decode cX5_findReach 78 = .ok (.iaload, 1) := by decide +kernel
theorem dX5_findReach_79 : decode cX5_findReach 79 = .ok (.aload_n 0, 1) := by decide +kernel
theorem dX5_findReach_80 : decode cX5_findReach 80 = .ok (.getfield 9, 3) := by decide +kernel
theorem dX5_findReach_83 : decode cX5_findReach 83 = .ok (.iload_n 1, 1) := by decide +kernel
theorem dX5_findReach_84 : decode cX5_findReach 84 = .ok (.iaload, 1) := by decide +kernel
theorem dX5_findReach_85 : decode cX5_findReach 85 = .ok (.ior, 1) := by decide +kernel
theorem dX5_findReach_86 : decode cX5_findReach 86 = .ok (.iastore, 1) := by decide +kernel
theorem dX5_findReach_87 : decode cX5_findReach 87 = .ok (.iinc 2 1, 3) := by decide +kernel
theorem dX5_findReach_90 : decode cX5_findReach 90 = .ok (.goto (-42), 3) := by decide +kernel
theorem dX5_findReach_93 : decode cX5_findReach 93 = .ok (.iinc 1 1, 3) := by decide +kernel
theorem dX5_findReach_96 : decode cX5_findReach 96 = .ok (.goto (-61), 3) := by decide +kernel
theorem dX5_findReach_99 : decode cX5_findReach 99 = .ok (.return_, 1) := by decide +kernel
set_option maxRecDepth 20000 in
theorem ggX5_countSteps_J7_fill_53178 : GoodIn wsX5_countSteps wsJ7_fill_53178 := goodIn_r _ [11] (by decide +kernel) (by decide +kernel)
set_option maxRecDepth 20000 in
theorem gX5_countSteps_J7_fill_53178 : GoodIn wsX5_countSteps (va_wsS RX5 52 yJ7_fill_53178 wsJ7_fill_53178) := goodIn_app (goodIn_of _ (by decide +kernel)) ggX5_countSteps_J7_fill_53178
set_option maxRecDepth 20000 in
theorem ggX5_countSteps_X5_nearest : GoodIn wsX5_countSteps wsX5_nearest := goodIn_ca (goodIn_r _ [16, 2, 17, 1, 18, 19, 20, 21, 22, 23, 24, 25, 26, 27, 28, 29] (by decide +kernel) (by decide +kernel)) (goodIn_sub (fun _ h => List.mem_cons_of_mem _ (List.mem_append_right _ h)) (by decide +kernel))
set_option maxRecDepth 20000 in
theorem gX5_countSteps_X5_nearest : GoodIn wsX5_countSteps (wsV RX5 58 RX5 yX5_nearest wsX5_nearest) := goodIn_app (goodIn_of _ (by decide +kernel)) ggX5_countSteps_X5_nearest
theorem dX5_countSteps_0 : decode cX5_countSteps 0 = .ok (.aload_n 0, 1) := by decide +kernel
theorem dX5_countSteps_1 : decode cX5_countSteps 1 = .ok (.getfield 15, 3) := by decide +kernel
theorem dX5_countSteps_4 : decode cX5_countSteps 4 = .ok (.bipush 12, 2) := by decide +kernel
theorem dX5_countSteps_6 : decode cX5_countSteps 6 = .ok (.invokestatic 52, 3) := by decide +kernel
theorem dX5_countSteps_9 : decode cX5_countSteps 9 = .ok (.aload_n 0, 1) := by decide +kernel
theorem dX5_countSteps_10 : decode cX5_countSteps 10 = .ok (.getfield 15, 3) := by decide +kernel
theorem dX5_countSteps_13 : decode cX5_countSteps 13 = .ok (.iload_n 1, 1) := by decide +kernel
theorem dX5_countSteps_14 : decode cX5_countSteps 14 = .ok (.iconst 0, 1) := by decide +kernel
theorem dX5_countSteps_15 : decode cX5_countSteps 15 = .ok (.iastore, 1) := by decide +kernel
theorem dX5_countSteps_16 : decode cX5_countSteps 16 = .ok (.iconst 0, 1) := by decide +kernel
theorem dX5_countSteps_17 : decode cX5_countSteps 17 = .ok (.istore_n 2, 1) := by decide +kernel
theorem dX5_countSteps_18 : decode cX5_countSteps 18 = .ok (.iload_n 2, 1) := by decide +kernel
theorem dX5_countSteps_19 : decode cX5_countSteps 19 = .ok (.aload_n 0, 1) := by decide +kernel
theorem dX5_countSteps_20 : decode cX5_countSteps 20 = .ok (.getfield 21, 3) := by decide +kernel
theorem dX5_countSteps_23 : decode cX5_countSteps 23 = .ok (.getfield 32, 3) := by decide +kernel
theorem dX5_countSteps_26 : decode cX5_countSteps 26 = .ok (.if_icmp .ge 65, 3) := by decide +kernel
theorem dX5_countSteps_29 : decode cX5_countSteps 29 = .ok (.iconst 0, 1) := by decide +kernel
theorem dX5_countSteps_30 : decode cX5_countSteps 30 = .ok (.istore_n 3, 1) := by decide +kernel
theorem dX5_countSteps_31 : decode cX5_countSteps 31 = .ok (.iload_n 3, 1) := by decide +kernel
theorem dX5_countSteps_32 : decode cX5_countSteps 32 = .ok (.aload_n 0, 1) := by decide +kernel
theorem dX5_countSteps_33 : decode cX5_countSteps 33 = .ok (.getfield 21, 3) := by decide +kernel
theorem dX5_countSteps_36 : decode cX5_countSteps 36 = .ok (.getfield 32, 3) := by decide +kernel
theorem dX5_countSteps_39 : decode cX5_countSteps 39 = .ok (.if_icmp .ge 46, 3) := by decide +kernel
theorem dX5_countSteps_42 : decode cX5_countSteps 42 = .ok (.aload_n 0, 1) := by decide +kernel
theorem dX5_countSteps_43 : decode cX5_countSteps 43 = .ok (.iload_n 3, 1) := by decide +kernel
theorem dX5_countSteps_44 : decode cX5_countSteps 44 = .ok (.invokevirtual 58, 3) := by decide +kernel
theorem dX5_countSteps_47 : decode cX5_countSteps 47 = .ok (.istore 4, 2) := by decide +kernel
theorem dX5_countSteps_49 : decode cX5_countSteps 49 = .ok (.iload 4, 2) := by decide +kernel
theorem dX5_countSteps_51 : decode cX5_countSteps 51 = .ok (.iconst (-1), 1) := by decide +kernel
theorem dX5_countSteps_52 : decode cX5_countSteps 52 = .ok (.if_icmp .eq 27, 3) := by decide +kernel
theorem dX5_countSteps_55 : decode cX5_countSteps 55 = .ok (.aload_n 0, 1) := by decide +kernel
theorem dX5_countSteps_56 : decode cX5_countSteps 56 = .ok (.getfield 15, 3) := by decide +kernel
theorem dX5_countSteps_59 : decode cX5_countSteps 59 = .ok (.iload_n 3, 1) := by decide +kernel
theorem dX5_countSteps_60 : decode cX5_countSteps 60 = .ok (.aload_n 0, 1) := by decide +kernel
theorem dX5_countSteps_61 : decode cX5_countSteps 61 = .ok (.getfield 15, 3) := by decide +kernel
theorem dX5_countSteps_64 : decode cX5_countSteps 64 = .ok (.iload_n 3, 1) := by decide +kernel
theorem dX5_countSteps_65 : decode cX5_countSteps 65 = .ok (.iaload, 1) := by decide +kernel
theorem dX5_countSteps_66 : decode cX5_countSteps 66 = .ok (.aload_n 0, 1) := by decide +kernel
theorem dX5_countSteps_67 : decode cX5_countSteps 67 = .ok (.getfield 15, 3) := by decide +kernel
theorem dX5_countSteps_70 : decode cX5_countSteps 70 = .ok (.iload 4, 2) := by decide +kernel
theorem dX5_countSteps_72 : decode cX5_countSteps 72 = .ok (.iaload, 1) := by decide +kernel
theorem dX5_countSteps_73 : decode cX5_countSteps 73 = .ok (.iconst 1, 1) := by decide +kernel
theorem dX5_countSteps_74 : decode cX5_countSteps 74 = .ok (.iadd, 1) := by decide +kernel
theorem dX5_countSteps_75 : decode cX5_countSteps 75 = .ok (.invokestatic 61, 3) := by decide +kernel
theorem dX5_countSteps_78 : decode cX5_countSteps 78 = .ok (.iastore, 1) := by decide +kernel
theorem dX5_countSteps_79 : decode cX5_countSteps 79 = .ok (.iinc 3 1, 3) := by decide +kernel
theorem dX5_countSteps_82 : decode cX5_countSteps 82 = .ok (.goto (-51), 3) := by decide +kernel
theorem dX5_countSteps_85 : decode cX5_countSteps 85 = .ok (.iinc 2 1, 3) := by decide +kernel
theorem dX5_countSteps_88 : decode cX5_countSteps 88 = .ok (.goto (-70), 3) := by decide +kernel
theorem dX5_countSteps_91 : decode cX5_countSteps 91 = .ok (.return_, 1) := by decide +kernel
set_option maxRecDepth 20000 in
theorem ggX5_follow_X5_nearest : GoodIn wsX5_follow wsX5_nearest := goodIn_ca (goodIn_r _ [9, 3, 10, 11, 12, 13, 14, 15, 16, 17, 18, 19, 20, 21, 22, 23] (by decide +kernel) (by decide +kernel)) (goodIn_sub (fun _ h => List.mem_cons_of_mem _ (List.mem_append_right _ h)) (by decide +kernel))
set_option maxRecDepth 20000 in
theorem gX5_follow_X5_nearest : GoodIn wsX5_follow (wsV RX5 58 RX5 yX5_nearest wsX5_nearest) := goodIn_app (goodIn_of _ (by decide +kernel)) ggX5_follow_X5_nearest
theorem dX5_follow_0 : decode cX5_follow 0 = .ok (.iload_n 1, 1) := by decide +kernel
theorem dX5_follow_1 : decode cX5_follow 1 = .ok (.istore_n 2, 1) := by decide +kernel
theorem dX5_follow_2 : decode cX5_follow 2 = .ok (.aload_n 0, 1) := by decide +kernel
theorem dX5_follow_3 : decode cX5_follow 3 = .ok (.getfield 18, 3) := by decide +kernel
theorem dX5_follow_6 : decode cX5_follow 6 = .ok (.aload_n 0, 1) := by decide +kernel
theorem dX5_follow_7 : decode cX5_follow 7 = .ok (.getfield 25, 3) := by decide +kernel
theorem dX5_follow_10 : decode cX5_follow 10 = .ok (.iload_n 2, 1) := by decide +kernel
theorem dX5_follow_11 : decode cX5_follow 11 = .ok (.iastore, 1) := by decide +kernel
theorem dX5_follow_12 : decode cX5_follow 12 = .ok (.aload_n 0, 1) := by decide +kernel
theorem dX5_follow_13 : decode cX5_follow 13 = .ok (.dup, 1) := by decide +kernel
theorem dX5_follow_14 : decode cX5_follow 14 = .ok (.getfield 25, 3) := by decide +kernel
theorem dX5_follow_17 : decode cX5_follow 17 = .ok (.iconst 1, 1) := by decide +kernel
theorem dX5_follow_18 : decode cX5_follow 18 = .ok (.iadd, 1) := by decide +kernel
theorem dX5_follow_19 : decode cX5_follow 19 = .ok (.putfield 25, 3) := by decide +kernel
theorem dX5_follow_22 : decode cX5_follow 22 = .ok (.aload_n 0, 1) := by decide +kernel
theorem dX5_follow_23 : decode cX5_follow 23 = .ok (.iload_n 2, 1) := by decide +kernel
theorem dX5_follow_24 : decode cX5_follow 24 = .ok (.invokevirtual 58, 3) := by decide +kernel
theorem dX5_follow_27 : decode cX5_follow 27 = .ok (.istore_n 2, 1) := by decide +kernel
theorem dX5_follow_28 : decode cX5_follow 28 = .ok (.iload_n 2, 1) := by decide +kernel
theorem dX5_follow_29 : decode cX5_follow 29 = .ok (.iload_n 1, 1) := by decide +kernel
theorem dX5_follow_30 : decode cX5_follow 30 = .ok (.if_icmp .eq 22, 3) := by decide +kernel
theorem dX5_follow_33 : decode cX5_follow 33 = .ok (.iload_n 2, 1) := by decide +kernel
theorem dX5_follow_34 : decode cX5_follow 34 = .ok (.iconst (-1), 1) := by decide +kernel
theorem dX5_follow_35 : decode cX5_follow 35 = .ok (.if_icmp .eq 17, 3) := by decide +kernel
theorem dX5_follow_38 : decode cX5_follow 38 = .ok (.aload_n 0, 1) := by decide +kernel
theorem dX5_follow_39 : decode cX5_follow 39 = .ok (.getfield 25, 3) := by decide +kernel
theorem dX5_follow_42 : decode cX5_follow 42 = .ok (.aload_n 0, 1) := by decide +kernel
theorem dX5_follow_43 : decode cX5_follow 43 = .ok (.getfield 21, 3) := by decide +kernel
theorem dX5_follow_46 : decode cX5_follow 46 = .ok (.getfield 32, 3) := by decide +kernel
theorem dX5_follow_49 : decode cX5_follow 49 = .ok (.if_icmp .lt (-47), 3) := by decide +kernel
theorem dX5_follow_52 : decode cX5_follow 52 = .ok (.return_, 1) := by decide +kernel
theorem dX5_nearest_0 : decode cX5_nearest 0 = .ok (.aload_n 0, 1) := by decide +kernel
theorem dX5_nearest_1 : decode cX5_nearest 1 = .ok (.getfield 21, 3) := by decide +kernel
theorem dX5_nearest_4 : decode cX5_nearest 4 = .ok (.getfield 67, 3) := by decide +kernel
theorem dX5_nearest_7 : decode cX5_nearest 7 = .ok (.iload_n 1, 1) := by decide +kernel
theorem dX5_nearest_8 : decode cX5_nearest 8 = .ok (.aaload, 1) := by decide +kernel
theorem dX5_nearest_9 : decode cX5_nearest 9 = .ok (.iconst 0, 1) := by decide +kernel
theorem dX5_nearest_10 : decode cX5_nearest 10 = .ok (.iaload, 1) := by decide +kernel
theorem dX5_nearest_11 : decode cX5_nearest 11 = .ok (.istore_n 2, 1) := by decide +kernel
theorem dX5_nearest_12 : decode cX5_nearest 12 = .ok (.aload_n 0, 1) := by decide +kernel
theorem dX5_nearest_13 : decode cX5_nearest 13 = .ok (.getfield 21, 3) := by decide +kernel
theorem dX5_nearest_16 : decode cX5_nearest 16 = .ok (.getfield 67, 3) := by decide +kernel
theorem dX5_nearest_19 : decode cX5_nearest 19 = .ok (.iload_n 1, 1) := by decide +kernel
theorem dX5_nearest_20 : decode cX5_nearest 20 = .ok (.aaload, 1) := by decide +kernel
theorem dX5_nearest_21 : decode cX5_nearest 21 = .ok (.iconst 1, 1) := by decide +kernel
theorem dX5_nearest_22 : decode cX5_nearest 22 = .ok (.iaload, 1) := by decide +kernel
theorem dX5_nearest_23 : decode cX5_nearest 23 = .ok (.istore_n 3, 1) := by decide +kernel
theorem dX5_nearest_24 : decode cX5_nearest 24 = .ok (.iload_n 2, 1) := by decide +kernel
theorem dX5_nearest_25 : decode cX5_nearest 25 = .ok (.iconst (-1), 1) := by decide +kernel
theorem dX5_nearest_26 : decode cX5_nearest 26 = .ok (.if_icmp .ne 5, 3) := by decide +kernel
theorem dX5_nearest_29 : decode cX5_nearest 29 = .ok (.iload_n 3, 1) := by decide +kernel
theorem dX5_nearest_30 : decode cX5_nearest 30 = .ok (.ireturn, 1) := by decide +kernel
theorem dX5_nearest_31 : decode cX5_nearest 31 = .ok (.iload_n 3, 1) := by decide +kernel
theorem dX5_nearest_32 : decode cX5_nearest 32 = .ok (.iconst (-1), 1) := by decide +kernel
theorem dX5_nearest_33 : decode cX5_nearest 33 = .ok (.if_icmp .ne 5, 3) := by decide +kernel
theorem dX5_nearest_36 : decode cX5_nearest 36 = .ok (.iload_n 2, 1) := by decide +kernel
theorem dX5_nearest_37 : decode cX5_nearest 37 = .ok (.ireturn, 1) := by decide +kernel
theorem dX5_nearest_38 : decode cX5_nearest 38 = .ok (.aload_n 0, 1) := by decide +kernel
theorem dX5_nearest_39 : decode cX5_nearest 39 = .ok (.getfield 15, 3) := by decide +kernel
theorem dX5_nearest_42 : decode cX5_nearest 42 = .ok (.iload_n 3, 1) := by decide +kernel
theorem dX5_nearest_43 : decode cX5_nearest 43 = .ok (.iaload, 1) := by decide +kernel
theorem dX5_nearest_44 : decode cX5_nearest 44 = .ok (.aload_n 0, 1) := by decide +kernel
theorem dX5_nearest_45 : decode cX5_nearest 45 = .ok (.getfield 15, 3) := by decide +kernel
theorem dX5_nearest_48 : decode cX5_nearest 48 = .ok (.iload_n 2, 1) := by decide +kernel
theorem dX5_nearest_49 : decode cX5_nearest 49 = .ok (.iaload, 1) := by decide +kernel
theorem dX5_nearest_50 : decode cX5_nearest 50 = .ok (.if_icmp .ge 7, 3) := by decide +kernel
theorem dX5_nearest_53 : decode cX5_nearest 53 = .ok (.iload_n 3, 1) := by decide +kernel
theorem dX5_nearest_54 : decode cX5_nearest 54 = .ok (.goto 4, 3) := by decide +kernel
theorem dX5_nearest_57 : decode cX5_nearest 57 = .ok (.iload_n 2, 1) := by decide +kernel
theorem dX5_nearest_58 : decode cX5_nearest 58 = .ok (.ireturn, 1) := by decide +kernel
